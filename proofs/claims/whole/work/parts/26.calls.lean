/-! Calls. -/
def zRm (d : Nat) : Room := { frames := d, cells := 0, slots := 0, locals := 64 * d }
def zPc (D : va_G) (dA : Nat → ClassId) (ad adV : Nat → Nat) (base L : Nat) (xs : Nat → Int32) (a : List Value) (w : qW) : Array Value → State → Prop := fun v U => v = (a.map (zV ad)).toArray ∧ va_P D zCl (zWs dA ad w) U.heap ∧ zEnv D dA ad U ∧ zOld ad adV base L xs U U.heap
def zQc (D : va_G) (dA : Nat → ClassId) (ad : Nat → Nat) (base : Nat) (Q : qQ) : Array Value → State → Outcome → State → Prop := fun _ st o t =>
  ((∃ x w', o = .returned (some (.int x)) ∧ Q.1 x w' ∧ va_P D zCl (zWs dA ad w') t.heap) ∨ (∃ x w', o = .returned (some (.long x)) ∧ Q.2.1 x w' ∧ va_P D zCl (zWs dA ad w') t.heap) ∨
    (∃ w', o = .returned none ∧ Q.2.2.1 w' ∧ va_P D zCl (zWs dA ad w') t.heap) ∨ (∃ r w', o = .returned (some (va_rf (r.map ad))) ∧ Q.2.2.2 r w' ∧ va_P D zCl (zWs dA ad w') t.heap)) ∧ va_F (fun q => base ≤ q) st t
def zPs (D : va_G) (dA : Nat → ClassId) (ad adV : Nat → Nat) (base L : Nat) (xs : Nat → Int32) (a : List Value) : Array Value → State → Prop := fun v U => v = a.toArray ∧ zEnv D dA ad U ∧ zOld ad adV base L xs U U.heap
theorem zEnv_warm {D : va_G} {dA : Nat → ClassId} {ad : Nat → Nat} {s U : State} (hW : s.WarmedH U.vm) (h : zEnv D dA ad s) : zEnv D dA ad U := by
  refine ⟨va_K.moved hW.alike h.1, fun w hw => ?_, fun i idx hi => ?_⟩
  · have h1 := h.2.1 w hw
    have h2 := (List.mem_filter.mp hw).2
    split at h2
    · exact va_Nw.warmM hW h1
    · cases h2
  · obtain ⟨tx, h1⟩ := h.2.2 i idx hi
    exact ⟨tx, vk_R.warm hW h1⟩
theorem zEnv_same {D : va_G} {dA : Nat → ClassId} {ad : Nat → Nat} {s U : State} (hW : U.vm = s.vm) (h : zEnv D dA ad s) : zEnv D dA ad U := by
  refine ⟨va_K.moved (by rw [hW]; exact Vm.Alike.refl _) h.1, fun w hw => ?_, fun i idx hi => ?_⟩
  · have h1 := h.2.1 w hw
    have h2 := (List.mem_filter.mp hw).2
    split at h2
    · exact va_Nw.same rfl hW.symm h1
    · cases h2
  · obtain ⟨tx, h1⟩ := h.2.2 i idx hi
    exact ⟨tx, vk_R.same hW h1⟩
theorem zOld_moved {ad adV : Nat → Nat} {base L : Nat} {xs : Nat → Int32} {u U : State} {H : Heap} (hvm : u.vm.Alike U.vm) (h : zOld ad adV base L xs u H) : zOld ad adV base L xs U H := ⟨va_X.moved hvm h.1, h.2.1, h.2.2.1, vk_S.moved hvm h.2.2.2.1, va_Z.moved hvm h.2.2.2.2.1, va_Zq.moved hvm h.2.2.2.2.2⟩
theorem zOld_kept {ad adV : Nat → Nat} {base L : Nat} {xs : Nat → Int32} {U : State} {H H1 : Heap} {locs : List Loc} (h : zOld ad adV base L xs U H) (hS : va_S (fun a => base ≤ a) H H1 locs) : zOld ad adV base L xs U H1 :=
  ⟨va_X.kept h.1 (hS.2.1 _ (Nat.lt_of_lt_of_le h.2.1 h.2.2.1) (Nat.not_le.mpr h.2.1)), h.2.1, Nat.le_trans h.2.2.1 hS.1, vk_S.kept h.2.2.2.1 (fun a h1 h2 => hS.2.1 a h1 h2), va_Z.kept h.2.2.2.2.1 (fun a h1 h2 => hS.2.1 a h1 h2), va_Zq.kept h.2.2.2.2.2 (fun a h1 h2 => hS.2.1 a h1 h2)⟩
theorem zPc_blind {D : va_G} {dA : Nat → ClassId} {ad adV : Nat → Nat} {base L : Nat} {xs : Nat → Int32} {a : List Value} {w : qW} : FrameBlind (zPc D dA ad adV base L xs a w) := fun v U g mk h =>
  ⟨h.1, h.2.1, zEnv_same (s := U) rfl h.2.2.1, zOld_moved (Vm.Alike.refl U.vm) h.2.2.2⟩
theorem zPs_blind {D : va_G} {dA : Nat → ClassId} {ad adV : Nat → Nat} {base L : Nat} {xs : Nat → Int32} {a : List Value} : FrameBlind (zPs D dA ad adV base L xs a) := fun v U g mk h =>
  ⟨h.1, zEnv_same (s := U) rfl h.2.1, zOld_moved (Vm.Alike.refl U.vm) h.2.2⟩
theorem zSpl {K : List Value → List Value → Prop} : ∀ (n : Nat) (st acc : List Value), qSpl st n acc K → ∃ q r, st = q ++ r ∧ q.length = n ∧ K (q.reverse ++ acc) r
  | 0, st, acc => fun h => ⟨[], st, rfl, rfl, by cases st <;> exact h⟩
  | n + 1, [], acc => fun h => h.elim
  | n + 1, v :: r, acc => fun h => by
    obtain ⟨q, r', h1, h2, h3⟩ := zSpl n r (v :: acc) h
    exact ⟨v :: q, r', by rw [h1]; rfl, by simp [h2], by simpa using h3⟩
theorem zCat (ad : Nat → Nat) : ∀ r : List Value, ((r.map (zV ad)).map fun v => v.category).sum = qCat r
  | [] => rfl
  | v :: r => by
    show (zV ad v).category + ((r.map (zV ad)).map fun v => v.category).sum = Nat.add v.category (qCat r)
    rw [zCat ad r, zV_cat]; rfl
theorem zWm_good {Ts : List Cond} {y : MethodName} {b : ByteArray} {mL : Nat} {rt : Option FieldType} (hg : ∀ w ∈ zGw, w ∈ Ts) (hcode : Cond.code y b mL rt ∈ lw_tbl) : GoodIn Ts (zWm y b mL rt) := by
  intro w hw
  rcases List.mem_cons.mp hw with e | h
  · rw [e]; exact ⟨hg _ (zGw_in hcode rfl), good_of_word rfl⟩
  · exact ⟨hg _ h, good_of_word (List.mem_filter.mp h).2⟩
section Calls2
variable {p : Program} {l : Launch} {e : Env} {R : Room} {s : State} {m : MethodId} {args : Array Value} {below : List Frame} {meth : Method} {c : Code} {Z : State → Prop} {kc ks : Nat} {cc : ByteArray} {mL o base L : Nat} {xs : Nat → Int32} {D : va_G} {dA : Nat → ClassId} {ad adV : Nat → Nat} {Ts : List Cond} {pc : Nat} {w : qW} {H : Heap} {locs : List Loc} {lr : Array Slot}
  {y : MethodName} {b : ByteArray} {mL' na idx d : Nat} {rt : Option FieldType} {Pc : Array Value → State → Prop} {Qc : Array Value → State → Outcome → State → Prop} {free : Addr → Prop} {b0 : Addr} {As rest : List Value}
theorem zs_runV (hc : zC p s m args c cc mL o base L xs D dA ad adV Ts) (hcode : Cond.code y b mL' rt ∈ lw_tbl) (hin : Cond.instanceMethod y ∈ lw_tbl) (hsel : Cond.selects y.cls y y ∈ lw_tbl) (hini : Cond.initialized y.cls ∈ lw_tbl) (hlk : Cond.methodLink (zOwn o) idx y ∈ lw_tbl)
    (hd : y.cls ≠ "java/lang/invoke/MethodHandle" ∧ y.cls ≠ "java/lang/invoke/VarHandle" ∧ (parseMethodDescriptor y.desc).map (fun d => d.parameters.length) = some na) (hmL : mL' ≤ 24) (hR : d + 1 ≤ R.frames ∧ 64 * d + 64 ≤ R.locals) (hM : Met l y (zWm y b mL' rt) (zRm d) Pc Qc 0 0 free)
    (hp : PreV s H y.cls b0 Pc As) (hn : As.length = na) (hsz : lr.size = mL) (hcat : (rest.map fun v => v.category).sum ≤ 8) (hdg : decode cc pc = .ok (.invokevirtual idx, 3)) (hk : kc + 0 ≤ R.cells ∧ ks + 0 ≤ R.slots := by exact ⟨Nat.zero_le _, Nat.zero_le _⟩) :
    va_Run p l e R s m args below meth c H locs kc ks 0 0 (F0 m pc lr (As.reverse ++ .ref b0 :: rest)) rest (Qc (Value.ref b0 :: As).toArray) free := by
  obtain ⟨hx, hb, hml, hown, hts, hg, -, -, -⟩ := hc
  have W1 : ∀ w, w ∈ lw_tbl → goodWord w = true → w.before args s = true := fun w h1 h2 => hts w (hg w (zGw_in h1 h2))
  exact va_runV (As := As) (rest := rest) ⟨hx, hb, hml, hown, hts⟩ hM ⟨callB_of na hts (zWm_good hg hcode) rfl rfl rfl (W1 _ hini rfl) (W1 _ hlk rfl) hd ⟨hR.1, by show 8 + (mL' + 11) + 64 * d ≤ R.locals; omega⟩, W1 _ hin rfl, W1 _ hsel rfl⟩ hp rfl hn hsz rfl (lv_room hcat) hdg hk
theorem zs_runS (hc : zC p s m args c cc mL o base L xs D dA ad adV Ts) (hcode : Cond.code y b mL' rt ∈ lw_tbl) (hin : Cond.static y ∈ lw_tbl) (hini : Cond.initialized y.cls ∈ lw_tbl) (hlk : Cond.methodLink (zOwn o) idx y ∈ lw_tbl)
    (hd : y.cls ≠ "java/lang/invoke/MethodHandle" ∧ y.cls ≠ "java/lang/invoke/VarHandle" ∧ (parseMethodDescriptor y.desc).map (fun d => d.parameters.length) = some na) (hmL : mL' ≤ 24) (hR : d + 1 ≤ R.frames ∧ 64 * d + 64 ≤ R.locals) (hM : Met l y (zWm y b mL' rt) (zRm d) Pc Qc 0 0 free)
    (hp : PreS s H Pc As) (hn : As.length = na) (hsz : lr.size = mL) (hcat : (rest.map fun v => v.category).sum ≤ 8) (hdg : decode cc pc = .ok (.invokestatic idx, 3)) (hk : kc + 0 ≤ R.cells ∧ ks + 0 ≤ R.slots := by exact ⟨Nat.zero_le _, Nat.zero_le _⟩) :
    va_Run p l e R s m args below meth c H locs kc ks 0 0 (F0 m pc lr (As.reverse ++ rest)) rest (Qc As.toArray) free := by
  obtain ⟨hx, hb, hml, hown, hts, hg, -, -, -⟩ := hc
  have W1 : ∀ w, w ∈ lw_tbl → goodWord w = true → w.before args s = true := fun w h1 h2 => hts w (hg w (zGw_in h1 h2))
  exact va_runS (As := As) (rest := rest) ⟨hx, hb, hml, hown, hts⟩ hM ⟨callB_of na hts (zWm_good hg hcode) rfl rfl rfl (W1 _ hini rfl) (W1 _ hlk rfl) hd ⟨hR.1, by show 8 + (mL' + 11) + 64 * d ≤ R.locals; omega⟩, W1 _ hin rfl⟩ hp rfl hn hsz rfl (lv_room hcat) hdg hk
theorem zs_runN (hc : zC p s m args c cc mL o base L xs D dA ad adV Ts) (hcode : Cond.code y b mL' rt ∈ lw_tbl) (hin : Cond.static y ∈ lw_tbl) (hini : Cond.initialized y.cls ∈ lw_tbl) {host : String} (hlk : Cond.methodLinkNest (zOwn o) idx y host ∈ lw_tbl)
    (hd : y.cls ≠ "java/lang/invoke/MethodHandle" ∧ y.cls ≠ "java/lang/invoke/VarHandle" ∧ (parseMethodDescriptor y.desc).map (fun d => d.parameters.length) = some na) (hmL : mL' ≤ 24) (hR : d + 1 ≤ R.frames ∧ 64 * d + 64 ≤ R.locals) (hM : Met l y (zWm y b mL' rt) (zRm d) Pc Qc 0 0 free)
    (hp : PreS s H Pc As) (hn : As.length = na) (hsz : lr.size = mL) (hcat : (rest.map fun v => v.category).sum ≤ 8) (hdg : decode cc pc = .ok (.invokestatic idx, 3)) (hk : kc + 0 ≤ R.cells ∧ ks + 0 ≤ R.slots := by exact ⟨Nat.zero_le _, Nat.zero_le _⟩) :
    va_Run p l e R s m args below meth c H locs kc ks 0 0 (F0 m pc lr (As.reverse ++ rest)) rest (Qc As.toArray) free := by
  obtain ⟨hx, hb, hml, hown, hts, hg, ⟨-, hN, -⟩, -, -⟩ := hc
  have W1 : ∀ w, w ∈ lw_tbl → goodWord w = true → w.before args s = true := fun w h1 h2 => hts w (hg w (zGw_in h1 h2))
  exact va_runSN (As := As) (rest := rest) ⟨hx, hb, hml, hown, hts⟩ hM ⟨va_cnB na hts (zWm_good hg hcode) rfl rfl rfl (hN _ (List.mem_filter.mpr ⟨hlk, rfl⟩)) (W1 _ hini rfl) hd ⟨hR.1, by show 8 + (mL' + 11) + 64 * d ≤ R.locals; omega⟩, W1 _ hin rfl, trivial⟩ hp rfl hn hsz rfl (lv_room hcat) hdg hk
/-- behind a call -/
theorem zs_after {st0 : List Value} {Q' : qQ} {a' : Array Value} (hr : va_Run p l e R s m args below meth c H locs kc ks 0 0 (F0 m pc lr st0) rest (zQc D dA ad base Q' a') (fun q => base ≤ q)) (hS : va_S (fun a => base ≤ a) s.heap H locs)
    (ki : ∀ x w' H1 locs1, Q'.1 x w' → va_P D zCl (zWs dA ad w') H1 → va_S (fun a => base ≤ a) s.heap H1 locs1 → W p l e R s m args below meth c H1 locs1 kc ks Z (F0 m (pc + 3) lr (.int x :: rest)))
    (kl : ∀ x w' H1 locs1, Q'.2.1 x w' → va_P D zCl (zWs dA ad w') H1 → va_S (fun a => base ≤ a) s.heap H1 locs1 → W p l e R s m args below meth c H1 locs1 kc ks Z (F0 m (pc + 3) lr (.long x :: rest)))
    (kv : ∀ w' H1 locs1, Q'.2.2.1 w' → va_P D zCl (zWs dA ad w') H1 → va_S (fun a => base ≤ a) s.heap H1 locs1 → W p l e R s m args below meth c H1 locs1 kc ks Z (F0 m (pc + 3) lr rest))
    (kr : ∀ r w' H1 locs1, Q'.2.2.2 r w' → va_P D zCl (zWs dA ad w') H1 → va_S (fun a => base ≤ a) s.heap H1 locs1 → W p l e R s m args below meth c H1 locs1 kc ks Z (F0 m (pc + 3) lr (va_rf (r.map ad) :: rest))) :
    W p l e R s m args below meth c H locs kc ks Z (F0 m pc lr st0) := by
  intro T hT X
  obtain ⟨v, st₀, t, T', L, h0, X', hL, e1, e2, ⟨hq, hz, hk⟩, st⟩ := hr T hT X
  rw [h0] at hz hk
  have hS1 : va_S (fun a => base ≤ a) s.heap T'.heap (locs ++ L) := ⟨Nat.le_trans hS.1 (by rw [e1]; exact hz), fun q h1 h2 => by rw [e1, hk q (Nat.lt_of_lt_of_le h1 hS.1) h2]; exact hS.2.1 q h1 h2, fun q hq => by
      rcases List.mem_append.mp hq with h | h
      · exact hS.2.2 q h
      · exact hL q h⟩
  rw [← e1] at hq
  rcases hq with ⟨x, w', hv, hq, hp⟩ | ⟨x, w', hv, hq, hp⟩ | ⟨w', hv, hq, hp⟩ | ⟨r, w', hv, hq, hp⟩
  · cases hv
    obtain ⟨t2, a1, b1⟩ := ki x w' _ _ hq hp hS1 T' rfl X'
    exact ⟨t2, st t2 a1, b1⟩
  · cases hv
    obtain ⟨t2, a1, b1⟩ := kl x w' _ _ hq hp hS1 T' rfl X'
    exact ⟨t2, st t2 a1, b1⟩
  · cases hv
    obtain ⟨t2, a1, b1⟩ := kv w' _ _ hq hp hS1 T' rfl X'
    exact ⟨t2, st t2 a1, b1⟩
  · cases hv
    obtain ⟨t2, a1, b1⟩ := kr r w' _ _ hq hp hS1 T' rfl X'
    exact ⟨t2, st t2 a1, b1⟩
/-- behind a call that only reads -/
theorem zs_read {st0 : List Value} {a' : Array Value} {x : Int32} (hr : va_Run p l e R s m args below meth c H locs kc ks 0 0 (F0 m pc lr st0) rest (QcRead x a') (fun _ => False)) (hS : va_S (fun a => base ≤ a) s.heap H locs)
    (ki : ∀ locs1, va_S (fun a => base ≤ a) s.heap H locs1 → W p l e R s m args below meth c H locs1 kc ks Z (F0 m (pc + 3) lr (.int x :: rest))) :
    W p l e R s m args below meth c H locs kc ks Z (F0 m pc lr st0) := by
  intro T hT X
  obtain ⟨v, st₀, t, T', L, h0, X', hL, e1, e2, ⟨hv, hh⟩, st⟩ := hr T hT X
  cases hv
  have e3 : T'.heap = H := by rw [e1, hh, h0]
  obtain ⟨t2, a1, b1⟩ := ki (locs ++ L) ⟨hS.1, hS.2.1, fun q hq => by
      rcases List.mem_append.mp hq with h | h
      · exact hS.2.2 q h
      · exact (hL q h).elim⟩ T' e3 X'
  exact ⟨t2, st t2 a1, b1⟩
end Calls2
