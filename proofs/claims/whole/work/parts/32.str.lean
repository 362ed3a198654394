/-! The JDK's members of text literals that the class calls: length, charAt, indexOf(int). -/
section Str
variable {l : Launch} {d base L : Nat} {xs : Nat → Int32} {D : va_G} {dA : Nat → ClassId} {ad adV : Nat → Nat}
def zQv : Array Value → State → Outcome → State → Prop := fun _ st o t => o = .returned none ∧ t.heap = st.heap
theorem zj_met {y : MethodName} {b : ByteArray} {mL o : Nat} {rt : Option FieldType} {a : List Value} {Qc : Array Value → State → Outcome → State → Prop} (hA : zAd ad base) (hplain : plainFor y = true) (hown : zOwn o = y.cls) (hlen : (lg_sl a).length ≤ mL)
    (body : ∀ (p : Program) (e : Env) (s : State) (m : MethodId) (below : List Frame) (meth : Method) (c : Code) (lr : Array Slot), zC p s m a.toArray c b mL o base L xs D dA ad adV (zWm y b mL rt) → meth.sig.returnType = rt → meth.locks = false → lv_has lr mL (lv_args 0 a) → W p l e (zRm d) s m a.toArray below meth c s.heap [] 0 0 (MQ below Qc a.toArray s 0 0 (fun _ => False)) (F0 m 0 lr [])) :
    Met l y (zWm y b mL rt) (zRm d) (zPs D dA ad adV base L xs a) Qc 0 0 (fun _ => False) := by
  refine va_MetF (cc := b) (maxL := mL) (ret := rt) hplain rfl ?_
  intro p e s m args below meth c s₁ B hml hv
  obtain ⟨rfl, hE, hO⟩ := hv
  have hts := atoms_spec (ws := zWm y b mL rt) B.pre
  have hl := lv_entry a (n := mL) hlen
  rw [lg_entry_eq]
  generalize (lg_sl a ++ List.replicate (mL - (lg_sl a).length) Slot.unset).toArray = lr at hl ⊢
  exact body p e s m below meth c lr ⟨B.exec, B.bytes, hml, by rw [hown]; exact findClass_of_methodNamed B.named, hts, fun w hw => List.mem_cons_of_mem _ hw, hE, hO, hA⟩ B.returns B.notSynchronized hl
section Read
variable {p : Program} {e : Env} {R : Room} {s : State} {m : MethodId} {args : Array Value} {below : List Frame} {meth : Method} {c : Code} {Z : State → Prop} {H : Heap} {locs : List Loc} {pc : Nat} {lr : Array Slot} {rest : List Value}
theorem zj_S {A : Nat → Prop} (hloc : ∀ q ∈ locs, False) : va_S A s.heap s.heap locs := ⟨Nat.le_refl _, fun _ _ _ => rfl, fun q hq => (hloc q hq).elim⟩
theorem zj_read {st0 : List Value} {a' : Array Value} {x : Int32} (hloc : ∀ q ∈ locs, False) (hr : va_Run p l e R s m args below meth c H locs 0 0 0 0 (F0 m pc lr st0) rest (QcRead x a') (fun _ => False))
    (ki : ∀ locs1 : List Loc, (∀ q ∈ locs1, False) → W p l e R s m args below meth c H locs1 0 0 Z (F0 m (pc + 3) lr (.int x :: rest))) : W p l e R s m args below meth c H locs 0 0 Z (F0 m pc lr st0) := by
  intro T hT X
  obtain ⟨v, st₀, t, T', L, h0, X', hL, e1, e2, ⟨hv, hh⟩, st⟩ := hr T hT X
  cases hv
  have e3 : T'.heap = H := by rw [e1, hh, h0]
  obtain ⟨t2, a1, b1⟩ := ki (locs ++ L) (fun q hq => by
      rcases List.mem_append.mp hq with h | h
      · exact hloc q h
      · exact hL q h) T' e3 X'
  exact ⟨t2, st t2 a1, b1⟩
theorem zj_void {st0 : List Value} {a' : Array Value} (hloc : ∀ q ∈ locs, False) (hr : va_Run p l e R s m args below meth c H locs 0 0 0 0 (F0 m pc lr st0) rest (zQv a') (fun _ => False))
    (ki : ∀ locs1 : List Loc, (∀ q ∈ locs1, False) → W p l e R s m args below meth c H locs1 0 0 Z (F0 m (pc + 3) lr rest)) : W p l e R s m args below meth c H locs 0 0 Z (F0 m pc lr st0) := by
  intro T hT X
  obtain ⟨v, st₀, t, T', L, h0, X', hL, e1, e2, ⟨hv, hh⟩, st⟩ := hr T hT X
  cases hv
  have e3 : T'.heap = H := by rw [e1, hh, h0]
  obtain ⟨t2, a1, b1⟩ := ki (locs ++ L) (fun q hq => by
      rcases List.mem_append.mp hq with h | h
      · exact hloc q h
      · exact hL q h) T' e3 X'
  exact ⟨t2, st t2 a1, b1⟩
end Read
theorem zj_pre {cc : ByteArray} {mL o : Nat} {p : Program} {s : State} {m : MethodId} {args : Array Value} {c : Code} {Ts : List Cond} (hc : zC p s m args c cc mL o base L xs D dA ad adV Ts) (a : List Value) : ∀ U : State, U.heap = s.heap → s.WarmedH U.vm → zPs D dA ad adV base L xs a a.toArray U := fun U hU hW =>
  ⟨rfl, zEnv_warm hW hc.2.2.2.2.2.2.1, zOld_moved hW.alike (by rw [hU]; exact hc.2.2.2.2.2.2.2.1)⟩
theorem zj_len {i : Nat} (hi : i < 16) : ((List.range 16).map fun i => (qSt i).length).getD i 0 = (qSt i).length ∧ ((List.range 16).map fun i => (qSt i).map fun n => Int32.ofNat n).getD i [] = (qSt i).map (fun n => Int32.ofNat n) := by
  constructor <;> simp [List.getD_eq_getElem?_getD, List.getElem?_map, List.getElem?_range hi]
def j_len : MethodName := ⟨"java/lang/String", "length", "()I"⟩
theorem jc_len : Cond.code j_len prog_19_method_54_code 1 (some .int) ∈ lw_tbl := zPk_in (q := (3, 143)) rfl
theorem js_len : Cond.instanceMethod j_len ∈ lw_tbl := zPk_in (q := (3, 141)) rfl
theorem jv_len : Cond.selects j_len.cls j_len j_len ∈ lw_tbl := zPk_in (q := (3, 142)) rfl
theorem ji_len : Cond.initialized j_len.cls ∈ lw_tbl := zPk_in (q := (1, 15)) rfl
theorem jd_len : j_len.cls ≠ "java/lang/invoke/MethodHandle" ∧ j_len.cls ≠ "java/lang/invoke/VarHandle" ∧ (parseMethodDescriptor j_len.desc).map (fun d => d.parameters.length) = some 0 := by decide +kernel
theorem jp_len_0 : decode prog_19_method_54_code 0 = .ok (.aload_n 0, 1) := by decide +kernel
theorem jp_len_1 : decode prog_19_method_54_code 1 = .ok (.getfield 9, 3) := by decide +kernel
theorem jp_len_4 : decode prog_19_method_54_code 4 = .ok (.arraylength, 1) := by decide +kernel
theorem jp_len_5 : decode prog_19_method_54_code 5 = .ok (.aload_n 0, 1) := by decide +kernel
theorem jp_len_6 : decode prog_19_method_54_code 6 = .ok (.invokevirtual 335, 3) := by decide +kernel
theorem jp_len_9 : decode prog_19_method_54_code 9 = .ok (.ishr, 1) := by decide +kernel
theorem jp_len_10 : decode prog_19_method_54_code 10 = .ok (.ireturn, 1) := by decide +kernel
def j_coder : MethodName := ⟨"java/lang/String", "coder", "()B"⟩
theorem jc_coder : Cond.code j_coder prog_19_method_152_code 1 (some .byte) ∈ lw_tbl := zPk_in (q := (3, 147)) rfl
theorem js_coder : Cond.instanceMethod j_coder ∈ lw_tbl := zPk_in (q := (3, 145)) rfl
theorem jv_coder : Cond.selects j_coder.cls j_coder j_coder ∈ lw_tbl := zPk_in (q := (3, 146)) rfl
theorem ji_coder : Cond.initialized j_coder.cls ∈ lw_tbl := zPk_in (q := (1, 15)) rfl
theorem jd_coder : j_coder.cls ≠ "java/lang/invoke/MethodHandle" ∧ j_coder.cls ≠ "java/lang/invoke/VarHandle" ∧ (parseMethodDescriptor j_coder.desc).map (fun d => d.parameters.length) = some 0 := by decide +kernel
theorem jp_coder_0 : decode prog_19_method_152_code 0 = .ok (.getstatic 38, 3) := by decide +kernel
theorem jp_coder_3 : decode prog_19_method_152_code 3 = .ok (.ifCond .eq (10), 3) := by decide +kernel
theorem jp_coder_6 : decode prog_19_method_152_code 6 = .ok (.aload_n 0, 1) := by decide +kernel
theorem jp_coder_7 : decode prog_19_method_152_code 7 = .ok (.getfield 15, 3) := by decide +kernel
theorem jp_coder_10 : decode prog_19_method_152_code 10 = .ok (.goto (4), 3) := by decide +kernel
theorem jp_coder_13 : decode prog_19_method_152_code 13 = .ok (.iconst 1, 1) := by decide +kernel
theorem jp_coder_14 : decode prog_19_method_152_code 14 = .ok (.ireturn, 1) := by decide +kernel
def j_lat : MethodName := ⟨"java/lang/String", "isLatin1", "()Z"⟩
theorem jc_lat : Cond.code j_lat prog_19_method_154_code 1 (some .boolean) ∈ lw_tbl := zPk_in (q := (3, 137)) rfl
theorem js_lat : Cond.instanceMethod j_lat ∈ lw_tbl := zPk_in (q := (3, 135)) rfl
theorem jv_lat : Cond.selects j_lat.cls j_lat j_lat ∈ lw_tbl := zPk_in (q := (3, 136)) rfl
theorem ji_lat : Cond.initialized j_lat.cls ∈ lw_tbl := zPk_in (q := (1, 15)) rfl
theorem jd_lat : j_lat.cls ≠ "java/lang/invoke/MethodHandle" ∧ j_lat.cls ≠ "java/lang/invoke/VarHandle" ∧ (parseMethodDescriptor j_lat.desc).map (fun d => d.parameters.length) = some 0 := by decide +kernel
theorem jp_lat_0 : decode prog_19_method_154_code 0 = .ok (.getstatic 38, 3) := by decide +kernel
theorem jp_lat_3 : decode prog_19_method_154_code 3 = .ok (.ifCond .eq (14), 3) := by decide +kernel
theorem jp_lat_6 : decode prog_19_method_154_code 6 = .ok (.aload_n 0, 1) := by decide +kernel
theorem jp_lat_7 : decode prog_19_method_154_code 7 = .ok (.getfield 15, 3) := by decide +kernel
theorem jp_lat_10 : decode prog_19_method_154_code 10 = .ok (.ifCond .ne (7), 3) := by decide +kernel
theorem jp_lat_13 : decode prog_19_method_154_code 13 = .ok (.iconst 1, 1) := by decide +kernel
theorem jp_lat_14 : decode prog_19_method_154_code 14 = .ok (.goto (4), 3) := by decide +kernel
theorem jp_lat_17 : decode prog_19_method_154_code 17 = .ok (.iconst 0, 1) := by decide +kernel
theorem jp_lat_18 : decode prog_19_method_154_code 18 = .ok (.ireturn, 1) := by decide +kernel
def j_chr : MethodName := ⟨"java/lang/String", "charAt", "(I)C"⟩
theorem jc_chr : Cond.code j_chr prog_19_method_56_code 2 (some .char) ∈ lw_tbl := zPk_in (q := (3, 225)) rfl
theorem js_chr : Cond.instanceMethod j_chr ∈ lw_tbl := zPk_in (q := (3, 223)) rfl
theorem jv_chr : Cond.selects j_chr.cls j_chr j_chr ∈ lw_tbl := zPk_in (q := (3, 224)) rfl
theorem ji_chr : Cond.initialized j_chr.cls ∈ lw_tbl := zPk_in (q := (1, 15)) rfl
theorem jd_chr : j_chr.cls ≠ "java/lang/invoke/MethodHandle" ∧ j_chr.cls ≠ "java/lang/invoke/VarHandle" ∧ (parseMethodDescriptor j_chr.desc).map (fun d => d.parameters.length) = some 1 := by decide +kernel
theorem jp_chr_0 : decode prog_19_method_56_code 0 = .ok (.aload_n 0, 1) := by decide +kernel
theorem jp_chr_1 : decode prog_19_method_56_code 1 = .ok (.invokevirtual 492, 3) := by decide +kernel
theorem jp_chr_4 : decode prog_19_method_56_code 4 = .ok (.ifCond .eq (12), 3) := by decide +kernel
theorem jp_chr_7 : decode prog_19_method_56_code 7 = .ok (.aload_n 0, 1) := by decide +kernel
theorem jp_chr_8 : decode prog_19_method_56_code 8 = .ok (.getfield 9, 3) := by decide +kernel
theorem jp_chr_11 : decode prog_19_method_56_code 11 = .ok (.iload_n 1, 1) := by decide +kernel
theorem jp_chr_12 : decode prog_19_method_56_code 12 = .ok (.invokestatic 495, 3) := by decide +kernel
theorem jp_chr_15 : decode prog_19_method_56_code 15 = .ok (.ireturn, 1) := by decide +kernel
theorem jp_chr_16 : decode prog_19_method_56_code 16 = .ok (.aload_n 0, 1) := by decide +kernel
theorem jp_chr_17 : decode prog_19_method_56_code 17 = .ok (.getfield 9, 3) := by decide +kernel
theorem jp_chr_20 : decode prog_19_method_56_code 20 = .ok (.iload_n 1, 1) := by decide +kernel
theorem jp_chr_21 : decode prog_19_method_56_code 21 = .ok (.invokestatic 498, 3) := by decide +kernel
theorem jp_chr_24 : decode prog_19_method_56_code 24 = .ok (.ireturn, 1) := by decide +kernel
def j_lchr : MethodName := ⟨"java/lang/StringLatin1", "charAt", "([BI)C"⟩
theorem jc_lchr : Cond.code j_lchr prog_20_method_2_code 2 (some .char) ∈ lw_tbl := zPk_in (q := (3, 228)) rfl
theorem js_lchr : Cond.static j_lchr ∈ lw_tbl := zPk_in (q := (3, 227)) rfl
theorem ji_lchr : Cond.initialized j_lchr.cls ∈ lw_tbl := zPk_in (q := (1, 16)) rfl
theorem jd_lchr : j_lchr.cls ≠ "java/lang/invoke/MethodHandle" ∧ j_lchr.cls ≠ "java/lang/invoke/VarHandle" ∧ (parseMethodDescriptor j_lchr.desc).map (fun d => d.parameters.length) = some 2 := by decide +kernel
theorem jp_lchr_0 : decode prog_20_method_2_code 0 = .ok (.iload_n 1, 1) := by decide +kernel
theorem jp_lchr_1 : decode prog_20_method_2_code 1 = .ok (.aload_n 0, 1) := by decide +kernel
theorem jp_lchr_2 : decode prog_20_method_2_code 2 = .ok (.arraylength, 1) := by decide +kernel
theorem jp_lchr_3 : decode prog_20_method_2_code 3 = .ok (.invokestatic 9, 3) := by decide +kernel
theorem jp_lchr_6 : decode prog_20_method_2_code 6 = .ok (.aload_n 0, 1) := by decide +kernel
theorem jp_lchr_7 : decode prog_20_method_2_code 7 = .ok (.iload_n 1, 1) := by decide +kernel
theorem jp_lchr_8 : decode prog_20_method_2_code 8 = .ok (.baload, 1) := by decide +kernel
theorem jp_lchr_9 : decode prog_20_method_2_code 9 = .ok (.sipush (255), 3) := by decide +kernel
theorem jp_lchr_12 : decode prog_20_method_2_code 12 = .ok (.iand, 1) := by decide +kernel
theorem jp_lchr_13 : decode prog_20_method_2_code 13 = .ok (.i2c, 1) := by decide +kernel
theorem jp_lchr_14 : decode prog_20_method_2_code 14 = .ok (.ireturn, 1) := by decide +kernel
def j_ck : MethodName := ⟨"java/lang/String", "checkIndex", "(II)V"⟩
theorem jc_ck : Cond.code j_ck prog_19_method_155_code 2 (none) ∈ lw_tbl := zPk_in (q := (3, 231)) rfl
theorem js_ck : Cond.static j_ck ∈ lw_tbl := zPk_in (q := (3, 230)) rfl
theorem ji_ck : Cond.initialized j_ck.cls ∈ lw_tbl := zPk_in (q := (1, 15)) rfl
theorem jd_ck : j_ck.cls ≠ "java/lang/invoke/MethodHandle" ∧ j_ck.cls ≠ "java/lang/invoke/VarHandle" ∧ (parseMethodDescriptor j_ck.desc).map (fun d => d.parameters.length) = some 2 := by decide +kernel
theorem jp_ck_0 : decode prog_19_method_155_code 0 = .ok (.iload_n 0, 1) := by decide +kernel
theorem jp_ck_1 : decode prog_19_method_155_code 1 = .ok (.iload_n 1, 1) := by decide +kernel
theorem jp_ck_2 : decode prog_19_method_155_code 2 = .ok (.getstatic 1053, 3) := by decide +kernel
theorem jp_ck_5 : decode prog_19_method_155_code 5 = .ok (.invokestatic 1059, 3) := by decide +kernel
theorem jp_ck_8 : decode prog_19_method_155_code 8 = .ok (.pop, 1) := by decide +kernel
theorem jp_ck_9 : decode prog_19_method_155_code 9 = .ok (.return_, 1) := by decide +kernel
def j_pck : MethodName := ⟨"jdk/internal/util/Preconditions", "checkIndex", "(IILjava/util/function/BiFunction;)I"⟩
theorem jc_pck : Cond.code j_pck prog_24_method_11_code 3 (some .int) ∈ lw_tbl := zPk_in (q := (3, 234)) rfl
theorem js_pck : Cond.static j_pck ∈ lw_tbl := zPk_in (q := (3, 233)) rfl
theorem ji_pck : Cond.initialized j_pck.cls ∈ lw_tbl := zPk_in (q := (1, 18)) rfl
theorem jd_pck : j_pck.cls ≠ "java/lang/invoke/MethodHandle" ∧ j_pck.cls ≠ "java/lang/invoke/VarHandle" ∧ (parseMethodDescriptor j_pck.desc).map (fun d => d.parameters.length) = some 3 := by decide +kernel
theorem jp_pck_0 : decode prog_24_method_11_code 0 = .ok (.iload_n 0, 1) := by decide +kernel
theorem jp_pck_1 : decode prog_24_method_11_code 1 = .ok (.ifCond .lt (8), 3) := by decide +kernel
theorem jp_pck_4 : decode prog_24_method_11_code 4 = .ok (.iload_n 0, 1) := by decide +kernel
theorem jp_pck_5 : decode prog_24_method_11_code 5 = .ok (.iload_n 1, 1) := by decide +kernel
theorem jp_pck_6 : decode prog_24_method_11_code 6 = .ok (.if_icmp .lt (10), 3) := by decide +kernel
theorem jp_pck_9 : decode prog_24_method_11_code 9 = .ok (.aload_n 2, 1) := by decide +kernel
theorem jp_pck_10 : decode prog_24_method_11_code 10 = .ok (.iload_n 0, 1) := by decide +kernel
theorem jp_pck_11 : decode prog_24_method_11_code 11 = .ok (.iload_n 1, 1) := by decide +kernel
theorem jp_pck_12 : decode prog_24_method_11_code 12 = .ok (.invokestatic 95, 3) := by decide +kernel
theorem jp_pck_15 : decode prog_24_method_11_code 15 = .ok (.athrow, 1) := by decide +kernel
theorem jp_pck_16 : decode prog_24_method_11_code 16 = .ok (.iload_n 0, 1) := by decide +kernel
theorem jp_pck_17 : decode prog_24_method_11_code 17 = .ok (.ireturn, 1) := by decide +kernel
def j_ix : MethodName := ⟨"java/lang/String", "indexOf", "(I)I"⟩
theorem jc_ix : Cond.code j_ix prog_19_method_79_code 2 (some .int) ∈ lw_tbl := zPk_in (q := (3, 129)) rfl
theorem js_ix : Cond.instanceMethod j_ix ∈ lw_tbl := zPk_in (q := (3, 127)) rfl
theorem jv_ix : Cond.selects j_ix.cls j_ix j_ix ∈ lw_tbl := zPk_in (q := (3, 128)) rfl
theorem ji_ix : Cond.initialized j_ix.cls ∈ lw_tbl := zPk_in (q := (1, 15)) rfl
theorem jd_ix : j_ix.cls ≠ "java/lang/invoke/MethodHandle" ∧ j_ix.cls ≠ "java/lang/invoke/VarHandle" ∧ (parseMethodDescriptor j_ix.desc).map (fun d => d.parameters.length) = some 1 := by decide +kernel
theorem jp_ix_0 : decode prog_19_method_79_code 0 = .ok (.aload_n 0, 1) := by decide +kernel
theorem jp_ix_1 : decode prog_19_method_79_code 1 = .ok (.iload_n 1, 1) := by decide +kernel
theorem jp_ix_2 : decode prog_19_method_79_code 2 = .ok (.iconst 0, 1) := by decide +kernel
theorem jp_ix_3 : decode prog_19_method_79_code 3 = .ok (.invokevirtual 633, 3) := by decide +kernel
theorem jp_ix_6 : decode prog_19_method_79_code 6 = .ok (.ireturn, 1) := by decide +kernel
def j_ix2 : MethodName := ⟨"java/lang/String", "indexOf", "(II)I"⟩
theorem jc_ix2 : Cond.code j_ix2 prog_19_method_80_code 3 (some .int) ∈ lw_tbl := zPk_in (q := (3, 133)) rfl
theorem js_ix2 : Cond.instanceMethod j_ix2 ∈ lw_tbl := zPk_in (q := (3, 131)) rfl
theorem jv_ix2 : Cond.selects j_ix2.cls j_ix2 j_ix2 ∈ lw_tbl := zPk_in (q := (3, 132)) rfl
theorem ji_ix2 : Cond.initialized j_ix2.cls ∈ lw_tbl := zPk_in (q := (1, 15)) rfl
theorem jd_ix2 : j_ix2.cls ≠ "java/lang/invoke/MethodHandle" ∧ j_ix2.cls ≠ "java/lang/invoke/VarHandle" ∧ (parseMethodDescriptor j_ix2.desc).map (fun d => d.parameters.length) = some 2 := by decide +kernel
theorem jp_ix2_0 : decode prog_19_method_80_code 0 = .ok (.aload_n 0, 1) := by decide +kernel
theorem jp_ix2_1 : decode prog_19_method_80_code 1 = .ok (.invokevirtual 492, 3) := by decide +kernel
theorem jp_ix2_4 : decode prog_19_method_80_code 4 = .ok (.ifCond .eq (19), 3) := by decide +kernel
theorem jp_ix2_7 : decode prog_19_method_80_code 7 = .ok (.aload_n 0, 1) := by decide +kernel
theorem jp_ix2_8 : decode prog_19_method_80_code 8 = .ok (.getfield 9, 3) := by decide +kernel
theorem jp_ix2_11 : decode prog_19_method_80_code 11 = .ok (.iload_n 1, 1) := by decide +kernel
theorem jp_ix2_12 : decode prog_19_method_80_code 12 = .ok (.iload_n 2, 1) := by decide +kernel
theorem jp_ix2_13 : decode prog_19_method_80_code 13 = .ok (.aload_n 0, 1) := by decide +kernel
theorem jp_ix2_14 : decode prog_19_method_80_code 14 = .ok (.invokevirtual 505, 3) := by decide +kernel
theorem jp_ix2_17 : decode prog_19_method_80_code 17 = .ok (.invokestatic 637, 3) := by decide +kernel
theorem jp_ix2_20 : decode prog_19_method_80_code 20 = .ok (.goto (16), 3) := by decide +kernel
theorem jp_ix2_23 : decode prog_19_method_80_code 23 = .ok (.aload_n 0, 1) := by decide +kernel
theorem jp_ix2_24 : decode prog_19_method_80_code 24 = .ok (.getfield 9, 3) := by decide +kernel
theorem jp_ix2_27 : decode prog_19_method_80_code 27 = .ok (.iload_n 1, 1) := by decide +kernel
theorem jp_ix2_28 : decode prog_19_method_80_code 28 = .ok (.iload_n 2, 1) := by decide +kernel
theorem jp_ix2_29 : decode prog_19_method_80_code 29 = .ok (.aload_n 0, 1) := by decide +kernel
theorem jp_ix2_30 : decode prog_19_method_80_code 30 = .ok (.invokevirtual 505, 3) := by decide +kernel
theorem jp_ix2_33 : decode prog_19_method_80_code 33 = .ok (.invokestatic 640, 3) := by decide +kernel
theorem jp_ix2_36 : decode prog_19_method_80_code 36 = .ok (.ireturn, 1) := by decide +kernel
def j_lix : MethodName := ⟨"java/lang/StringLatin1", "indexOf", "([BIII)I"⟩
theorem jc_lix : Cond.code j_lix prog_20_method_22_code 4 (some .int) ∈ lw_tbl := zPk_in (q := (3, 150)) rfl
theorem js_lix : Cond.static j_lix ∈ lw_tbl := zPk_in (q := (3, 149)) rfl
theorem ji_lix : Cond.initialized j_lix.cls ∈ lw_tbl := zPk_in (q := (1, 16)) rfl
theorem jd_lix : j_lix.cls ≠ "java/lang/invoke/MethodHandle" ∧ j_lix.cls ≠ "java/lang/invoke/VarHandle" ∧ (parseMethodDescriptor j_lix.desc).map (fun d => d.parameters.length) = some 4 := by decide +kernel
theorem jp_lix_0 : decode prog_20_method_22_code 0 = .ok (.iload_n 1, 1) := by decide +kernel
theorem jp_lix_1 : decode prog_20_method_22_code 1 = .ok (.invokestatic 88, 3) := by decide +kernel
theorem jp_lix_4 : decode prog_20_method_22_code 4 = .ok (.ifCond .ne (5), 3) := by decide +kernel
theorem jp_lix_7 : decode prog_20_method_22_code 7 = .ok (.iconst (-1), 1) := by decide +kernel
theorem jp_lix_8 : decode prog_20_method_22_code 8 = .ok (.ireturn, 1) := by decide +kernel
theorem jp_lix_9 : decode prog_20_method_22_code 9 = .ok (.iload_n 2, 1) := by decide +kernel
theorem jp_lix_10 : decode prog_20_method_22_code 10 = .ok (.iconst 0, 1) := by decide +kernel
theorem jp_lix_11 : decode prog_20_method_22_code 11 = .ok (.invokestatic 92, 3) := by decide +kernel
theorem jp_lix_14 : decode prog_20_method_22_code 14 = .ok (.istore_n 2, 1) := by decide +kernel
theorem jp_lix_15 : decode prog_20_method_22_code 15 = .ok (.iload_n 3, 1) := by decide +kernel
theorem jp_lix_16 : decode prog_20_method_22_code 16 = .ok (.aload_n 0, 1) := by decide +kernel
theorem jp_lix_17 : decode prog_20_method_22_code 17 = .ok (.arraylength, 1) := by decide +kernel
theorem jp_lix_18 : decode prog_20_method_22_code 18 = .ok (.invokestatic 38, 3) := by decide +kernel
theorem jp_lix_21 : decode prog_20_method_22_code 21 = .ok (.istore_n 3, 1) := by decide +kernel
theorem jp_lix_22 : decode prog_20_method_22_code 22 = .ok (.iload_n 2, 1) := by decide +kernel
theorem jp_lix_23 : decode prog_20_method_22_code 23 = .ok (.iload_n 3, 1) := by decide +kernel
theorem jp_lix_24 : decode prog_20_method_22_code 24 = .ok (.if_icmp .lt (5), 3) := by decide +kernel
theorem jp_lix_27 : decode prog_20_method_22_code 27 = .ok (.iconst (-1), 1) := by decide +kernel
theorem jp_lix_28 : decode prog_20_method_22_code 28 = .ok (.ireturn, 1) := by decide +kernel
theorem jp_lix_29 : decode prog_20_method_22_code 29 = .ok (.aload_n 0, 1) := by decide +kernel
theorem jp_lix_30 : decode prog_20_method_22_code 30 = .ok (.iload_n 1, 1) := by decide +kernel
theorem jp_lix_31 : decode prog_20_method_22_code 31 = .ok (.iload_n 2, 1) := by decide +kernel
theorem jp_lix_32 : decode prog_20_method_22_code 32 = .ok (.iload_n 3, 1) := by decide +kernel
theorem jp_lix_33 : decode prog_20_method_22_code 33 = .ok (.invokestatic 95, 3) := by decide +kernel
theorem jp_lix_36 : decode prog_20_method_22_code 36 = .ok (.ireturn, 1) := by decide +kernel
def j_can : MethodName := ⟨"java/lang/StringLatin1", "canEncode", "(I)Z"⟩
theorem jc_can : Cond.code j_can prog_20_method_4_code 1 (some .boolean) ∈ lw_tbl := zPk_in (q := (3, 153)) rfl
theorem js_can : Cond.static j_can ∈ lw_tbl := zPk_in (q := (3, 152)) rfl
theorem ji_can : Cond.initialized j_can.cls ∈ lw_tbl := zPk_in (q := (1, 16)) rfl
theorem jd_can : j_can.cls ≠ "java/lang/invoke/MethodHandle" ∧ j_can.cls ≠ "java/lang/invoke/VarHandle" ∧ (parseMethodDescriptor j_can.desc).map (fun d => d.parameters.length) = some 1 := by decide +kernel
theorem jp_can_0 : decode prog_20_method_4_code 0 = .ok (.iload_n 0, 1) := by decide +kernel
theorem jp_can_1 : decode prog_20_method_4_code 1 = .ok (.ifCond .lt (14), 3) := by decide +kernel
theorem jp_can_4 : decode prog_20_method_4_code 4 = .ok (.iload_n 0, 1) := by decide +kernel
theorem jp_can_5 : decode prog_20_method_4_code 5 = .ok (.sipush (255), 3) := by decide +kernel
theorem jp_can_8 : decode prog_20_method_4_code 8 = .ok (.if_icmp .gt (7), 3) := by decide +kernel
theorem jp_can_11 : decode prog_20_method_4_code 11 = .ok (.iconst 1, 1) := by decide +kernel
theorem jp_can_12 : decode prog_20_method_4_code 12 = .ok (.goto (4), 3) := by decide +kernel
theorem jp_can_15 : decode prog_20_method_4_code 15 = .ok (.iconst 0, 1) := by decide +kernel
theorem jp_can_16 : decode prog_20_method_4_code 16 = .ok (.ireturn, 1) := by decide +kernel
def j_ixc : MethodName := ⟨"java/lang/StringLatin1", "indexOfChar", "([BIII)I"⟩
theorem jc_ixc : Cond.code j_ixc prog_20_method_23_code 6 (some .int) ∈ lw_tbl := zPk_in (q := (3, 158)) rfl
theorem js_ixc : Cond.static j_ixc ∈ lw_tbl := zPk_in (q := (3, 157)) rfl
theorem ji_ixc : Cond.initialized j_ixc.cls ∈ lw_tbl := zPk_in (q := (1, 16)) rfl
theorem jd_ixc : j_ixc.cls ≠ "java/lang/invoke/MethodHandle" ∧ j_ixc.cls ≠ "java/lang/invoke/VarHandle" ∧ (parseMethodDescriptor j_ixc.desc).map (fun d => d.parameters.length) = some 4 := by decide +kernel
theorem jp_ixc_0 : decode prog_20_method_23_code 0 = .ok (.iload_n 1, 1) := by decide +kernel
theorem jp_ixc_1 : decode prog_20_method_23_code 1 = .ok (.i2b, 1) := by decide +kernel
theorem jp_ixc_2 : decode prog_20_method_23_code 2 = .ok (.istore 4, 2) := by decide +kernel
theorem jp_ixc_4 : decode prog_20_method_23_code 4 = .ok (.iload_n 2, 1) := by decide +kernel
theorem jp_ixc_5 : decode prog_20_method_23_code 5 = .ok (.istore 5, 2) := by decide +kernel
theorem jp_ixc_7 : decode prog_20_method_23_code 7 = .ok (.iload 5, 2) := by decide +kernel
theorem jp_ixc_9 : decode prog_20_method_23_code 9 = .ok (.iload_n 3, 1) := by decide +kernel
theorem jp_ixc_10 : decode prog_20_method_23_code 10 = .ok (.if_icmp .ge (21), 3) := by decide +kernel
theorem jp_ixc_13 : decode prog_20_method_23_code 13 = .ok (.aload_n 0, 1) := by decide +kernel
theorem jp_ixc_14 : decode prog_20_method_23_code 14 = .ok (.iload 5, 2) := by decide +kernel
theorem jp_ixc_16 : decode prog_20_method_23_code 16 = .ok (.baload, 1) := by decide +kernel
theorem jp_ixc_17 : decode prog_20_method_23_code 17 = .ok (.iload 4, 2) := by decide +kernel
theorem jp_ixc_19 : decode prog_20_method_23_code 19 = .ok (.if_icmp .ne (6), 3) := by decide +kernel
theorem jp_ixc_22 : decode prog_20_method_23_code 22 = .ok (.iload 5, 2) := by decide +kernel
theorem jp_ixc_24 : decode prog_20_method_23_code 24 = .ok (.ireturn, 1) := by decide +kernel
theorem jp_ixc_25 : decode prog_20_method_23_code 25 = .ok (.iinc 5 (1), 3) := by decide +kernel
theorem jp_ixc_28 : decode prog_20_method_23_code 28 = .ok (.goto (-21), 3) := by decide +kernel
theorem jp_ixc_31 : decode prog_20_method_23_code 31 = .ok (.iconst (-1), 1) := by decide +kernel
theorem jp_ixc_32 : decode prog_20_method_23_code 32 = .ok (.ireturn, 1) := by decide +kernel
def j_max : MethodName := ⟨"java/lang/Math", "max", "(II)I"⟩
theorem jc_max : Cond.code j_max prog_18_method_65_code 2 (some .int) ∈ lw_tbl := zPk_in (q := (3, 26)) rfl
theorem js_max : Cond.static j_max ∈ lw_tbl := zPk_in (q := (3, 25)) rfl
theorem ji_max : Cond.initialized j_max.cls ∈ lw_tbl := zPk_in (q := (1, 14)) rfl
theorem jd_max : j_max.cls ≠ "java/lang/invoke/MethodHandle" ∧ j_max.cls ≠ "java/lang/invoke/VarHandle" ∧ (parseMethodDescriptor j_max.desc).map (fun d => d.parameters.length) = some 2 := by decide +kernel
theorem jp_max_0 : decode prog_18_method_65_code 0 = .ok (.iload_n 0, 1) := by decide +kernel
theorem jp_max_1 : decode prog_18_method_65_code 1 = .ok (.iload_n 1, 1) := by decide +kernel
theorem jp_max_2 : decode prog_18_method_65_code 2 = .ok (.if_icmp .lt (7), 3) := by decide +kernel
theorem jp_max_5 : decode prog_18_method_65_code 5 = .ok (.iload_n 0, 1) := by decide +kernel
theorem jp_max_6 : decode prog_18_method_65_code 6 = .ok (.goto (4), 3) := by decide +kernel
theorem jp_max_9 : decode prog_18_method_65_code 9 = .ok (.iload_n 1, 1) := by decide +kernel
theorem jp_max_10 : decode prog_18_method_65_code 10 = .ok (.ireturn, 1) := by decide +kernel
def j_min : MethodName := ⟨"java/lang/Math", "min", "(II)I"⟩
theorem jc_min : Cond.code j_min prog_18_method_69_code 2 (some .int) ∈ lw_tbl := zPk_in (q := (3, 34)) rfl
theorem js_min : Cond.static j_min ∈ lw_tbl := zPk_in (q := (3, 33)) rfl
theorem ji_min : Cond.initialized j_min.cls ∈ lw_tbl := zPk_in (q := (1, 14)) rfl
theorem jd_min : j_min.cls ≠ "java/lang/invoke/MethodHandle" ∧ j_min.cls ≠ "java/lang/invoke/VarHandle" ∧ (parseMethodDescriptor j_min.desc).map (fun d => d.parameters.length) = some 2 := by decide +kernel
theorem jp_min_0 : decode prog_18_method_69_code 0 = .ok (.iload_n 0, 1) := by decide +kernel
theorem jp_min_1 : decode prog_18_method_69_code 1 = .ok (.iload_n 1, 1) := by decide +kernel
theorem jp_min_2 : decode prog_18_method_69_code 2 = .ok (.if_icmp .gt (7), 3) := by decide +kernel
theorem jp_min_5 : decode prog_18_method_69_code 5 = .ok (.iload_n 0, 1) := by decide +kernel
theorem jp_min_6 : decode prog_18_method_69_code 6 = .ok (.goto (4), 3) := by decide +kernel
theorem jp_min_9 : decode prog_18_method_69_code 9 = .ok (.iload_n 1, 1) := by decide +kernel
theorem jp_min_10 : decode prog_18_method_69_code 10 = .ok (.ireturn, 1) := by decide +kernel

/-- coder() is 0 -/
theorem j_coder_ok (hA : zAd ad base) {i : Nat} (hi : i < 16) : Met l j_coder (zWm j_coder prog_19_method_152_code 1 (some .byte)) (zRm d) (zPs D dA ad adV base L xs [.ref (ad (1000 + i))]) (QcRead 0) 0 0 (fun _ => False) := by
  refine zj_met (o := 18) hA (by decide +kernel) rfl (Nat.le_of_ble_eq_true rfl) (fun p e s m below meth c lr hc hr hlocks hl => ?_)
  obtain ⟨hx, hb, hml, hown, hts, hg, hE, ⟨hX, hb1, hb2, hK, hZ, hZq⟩, -⟩ := id hc
  have W1 : ∀ w, w ∈ lw_tbl → goodWord w = true → w.before _ s = true := fun w h1 h2 => hts w (hg w (zGw_in h1 h2))
  have hS := zj_S (s := s) (locs := []) (A := fun q => base ≤ q) (fun q hq => by cases hq)
  refine va_gets hx hb hZ hS hown (W1 _ (zPk_in (q := (3, 138)) rfl) rfl) (fun _ h => h) jp_coder_0 ?_
  refine lv_if_eq (tgt := 13) hx hb jp_coder_3 (by decide) (fun h => absurd h (by decide)) (fun _ => ?_)
  refine lv_aload_n hx hb jp_coder_6 rfl (lv_at hl 0 rfl) ?_
  refine vk_getf hx hb (hK.1 i hi).2.1 hS hown (W1 _ (zPk_in (q := (9, 16)) rfl) rfl) (fun _ h => h) jp_coder_7 ?_
  refine lv_goto (tgt := 14) hx hb jp_coder_10 (by decide) ?_
  exact W.zret (ty := .byte) hx hb hr (by decide) (fun t ht hw => ⟨rfl, ht⟩) (fun q hq => by cases hq) jp_coder_14
/-- isLatin1() -/
theorem j_lat_ok (hA : zAd ad base) {i : Nat} (hi : i < 16) : Met l j_lat (zWm j_lat prog_19_method_154_code 1 (some .boolean)) (zRm d) (zPs D dA ad adV base L xs [.ref (ad (1000 + i))]) (QcRead 1) 0 0 (fun _ => False) := by
  refine zj_met (o := 18) hA (by decide +kernel) rfl (Nat.le_of_ble_eq_true rfl) (fun p e s m below meth c lr hc hr hlocks hl => ?_)
  obtain ⟨hx, hb, hml, hown, hts, hg, hE, ⟨hX, hb1, hb2, hK, hZ, hZq⟩, -⟩ := id hc
  have W1 : ∀ w, w ∈ lw_tbl → goodWord w = true → w.before _ s = true := fun w h1 h2 => hts w (hg w (zGw_in h1 h2))
  have hS := zj_S (s := s) (locs := []) (A := fun q => base ≤ q) (fun q hq => by cases hq)
  refine va_gets hx hb hZ hS hown (W1 _ (zPk_in (q := (3, 138)) rfl) rfl) (fun _ h => h) jp_lat_0 ?_
  refine lv_if_eq (tgt := 17) hx hb jp_lat_3 (by decide) (fun h => absurd h (by decide)) (fun _ => ?_)
  refine lv_aload_n hx hb jp_lat_6 rfl (lv_at hl 0 rfl) ?_
  refine vk_getf hx hb (hK.1 i hi).2.1 hS hown (W1 _ (zPk_in (q := (9, 16)) rfl) rfl) (fun _ h => h) jp_lat_7 ?_
  refine lv_if_ne (tgt := 17) hx hb jp_lat_10 (by decide) (fun h => absurd rfl h) (fun _ => ?_)
  refine lv_iconst (v := 1) hx hb jp_lat_13 (by decide) ?_
  refine lv_goto (tgt := 18) hx hb jp_lat_14 (by decide) ?_
  exact W.zret (ty := .boolean) hx hb hr (by decide) (fun t ht hw => ⟨rfl, ht⟩) (fun q hq => by cases hq) jp_lat_18
/-- length() -/
theorem j_len_ok (hA : zAd ad base) {i : Nat} (hi : i < 16) : Met l j_len (zWm j_len prog_19_method_54_code 1 (some .int)) (zRm (d + 1)) (zPs D dA ad adV base L xs [.ref (ad (1000 + i))]) (QcRead (Int32.ofNat (qSt i).length)) 0 0 (fun _ => False) := by
  refine zj_met (o := 18) hA (by decide +kernel) rfl (Nat.le_of_ble_eq_true rfl) (fun p e s m below meth c lr hc hr hlocks hl => ?_)
  obtain ⟨hx, hb, hml, hown, hts, hg, hE, ⟨hX, hb1, hb2, hK, hZ, hZq⟩, -⟩ := id hc
  have W1 : ∀ w, w ∈ lw_tbl → goodWord w = true → w.before _ s = true := fun w h1 h2 => hts w (hg w (zGw_in h1 h2))
  have hS := zj_S (s := s) (locs := []) (A := fun q => base ≤ q) (fun q hq => by cases hq)
  refine lv_aload_n hx hb jp_len_0 rfl (lv_at hl 0 rfl) ?_
  refine vk_getf hx hb (hK.1 i hi).2.2.1 hS hown (W1 _ (zPk_in (q := (9, 17)) rfl) rfl) (fun _ h => h) jp_len_1 ?_
  refine va_tlen hx hb (hK.1 i hi).2.2.2 hS (v := Int32.ofNat (qSt i).length) (by rw [(zj_len hi).1]) jp_len_4 ?_
  refine lv_aload_n hx hb jp_len_5 rfl (lv_at hl 0 rfl) ?_
  refine zj_read (fun q hq => by cases hq) (zs_runV (As := []) (idx := 335) hc jc_coder js_coder jv_coder ji_coder (zPk_in (q := (3, 144)) rfl) jd_coder (by decide) ⟨Nat.le_refl _, Nat.le_refl _⟩ (j_coder_ok hA hi) ⟨zPs_blind, vk_recv (i := i) hK hi hS, zj_pre hc _⟩ rfl hl.1 (by show 1 ≤ 8; decide) jp_len_6) (fun locs1 hloc => ?_)
  refine lv_ishr hx hb jp_len_9 ?_
  rw [sb_shr0]
  exact W.iret hx hb hr (fun t ht hw => ⟨rfl, ht⟩) (fun q hq => (hloc q hq).elim) jp_len_10
/-- Preconditions.checkIndex within -/
theorem j_pck_ok (hA : zAd ad base) {x y : Int32} {v : Value} (hv : v = .null ∨ ∃ t, v = .ref t) (h0 : ¬ x < 0) (h1 : x < y) : Met l j_pck (zWm j_pck prog_24_method_11_code 3 (some .int)) (zRm d) (zPs D dA ad adV base L xs [.int x, .int y, v]) (QcRead x) 0 0 (fun _ => False) := by
  have hlen : (lg_sl [.int x, .int y, v]).length ≤ 3 := by rcases hv with rfl | ⟨t, rfl⟩ <;> exact Nat.le_of_ble_eq_true rfl
  refine zj_met (o := 20) hA (by decide +kernel) rfl hlen (fun p e s m below meth c lr hc hr hlocks hl => ?_)
  obtain ⟨hx, hb, hml, hown, hts, hg, hE, hO, -⟩ := id hc
  refine lv_iload_n hx hb jp_pck_0 rfl (lv_at hl 0 rfl) ?_
  refine lv_if_lt (tgt := 9) hx hb jp_pck_1 (by decide) (fun h => absurd h h0) (fun _ => ?_)
  refine lv_iload_n hx hb jp_pck_4 rfl (lv_at hl 0 rfl) ?_
  refine lv_iload_n hx hb jp_pck_5 rfl (lv_at hl 1 rfl) ?_
  refine lv_icmp_lt (tgt := 16) hx hb jp_pck_6 (by decide) (fun _ => ?_) (fun h => absurd h1 h)
  refine lv_iload_n hx hb jp_pck_16 rfl (lv_at hl 0 rfl) ?_
  exact W.iret hx hb hr (fun t ht hw => ⟨rfl, ht⟩) (fun q hq => by cases hq) jp_pck_17
/-- String.checkIndex within -/
theorem j_ck_ok (hA : zAd ad base) {x y : Int32} (h0 : ¬ x < 0) (h1 : x < y) : Met l j_ck (zWm j_ck prog_19_method_155_code 2 none) (zRm (d + 1)) (zPs D dA ad adV base L xs [.int x, .int y]) zQv 0 0 (fun _ => False) := by
  refine zj_met (o := 18) hA (by decide +kernel) rfl (Nat.le_of_ble_eq_true rfl) (fun p e s m below meth c lr hc hr hlocks hl => ?_)
  obtain ⟨hx, hb, hml, hown, hts, hg, hE, ⟨hX, hb1, hb2, hK, hZ, hZq⟩, -⟩ := id hc
  have W1 : ∀ w, w ∈ lw_tbl → goodWord w = true → w.before _ s = true := fun w h1 h2 => hts w (hg w (zGw_in h1 h2))
  have hS := zj_S (s := s) (locs := []) (A := fun q => base ≤ q) (fun q hq => by cases hq)
  refine lv_iload_n hx hb jp_ck_0 rfl (lv_at hl 0 rfl) ?_
  refine lv_iload_n hx hb jp_ck_1 rfl (lv_at hl 1 rfl) ?_
  obtain ⟨v, hv, hZv⟩ : ∃ v : Value, (v = .null ∨ ∃ t, v = .ref t) ∧ va_Z "jdk/internal/util/Preconditions" "SIOOBE_FORMATTER" "Ljava/util/function/BiFunction;" v (fun q => base ≤ q) s s.heap := by
    rcases hZq with h | ⟨t, h⟩
    · exact ⟨_, Or.inl rfl, h⟩
    · exact ⟨_, Or.inr ⟨t, rfl⟩, h⟩
  refine va_gets hx hb hZv hS hown (W1 _ (zPk_in (q := (3, 177)) rfl) rfl) (fun _ h => h) jp_ck_2 ?_
  refine zj_read (fun q hq => by cases hq) (zs_runS (As := [.int x, .int y, v]) (rest := []) (idx := 1059) hc jc_pck js_pck ji_pck (zPk_in (q := (3, 232)) rfl) jd_pck (by decide) ⟨Nat.le_refl _, Nat.le_refl _⟩ (j_pck_ok hA hv h0 h1) ⟨zPs_blind, zj_pre hc _⟩ rfl hl.1 (by decide) jp_ck_5) (fun locs1 hloc => ?_)
  refine lv_pop hx hb jp_ck_8 rfl ?_
  exact W.vret hx hb hr (fun t ht hw => ⟨rfl, ht⟩) (fun q hq => (hloc q hq).elim) jp_ck_9

theorem zj_asc : ∀ i : Fin 16, (qSt i.val).all (fun n => decide (n < 128)) = true ∧ 0 < (qSt i.val).length ∧ (qSt i.val).length < 100 := by decide +kernel
theorem zj_chr : ∀ n : Fin 128, qI2c (Int32.ofNat n.val &&& 255) = Int32.ofNat n.val ∧ (Int32.ofNat n.val).toInt8.toInt32 = Int32.ofNat n.val ∧ Int32.ofNat n.val &&& 255 = Int32.ofNat n.val := by decide +kernel
theorem zj_at {i : Nat} (hi : i < 16) (k : Nat) : (qSt i).getD k 0 < 128 := by
  have h := (zj_asc ⟨i, hi⟩).1
  rw [List.getD_eq_getElem?_getD]
  cases hk : (qSt i)[k]? with
  | none => decide
  | some n => exact of_decide_eq_true (List.all_eq_true.mp h n (List.mem_of_getElem? hk))
theorem zj_byt {i : Nat} (k : Nat) : ((qSt i).map (fun n => Int32.ofNat n)).getD k 0 = Int32.ofNat ((qSt i).getD k 0) := by
  rw [List.getD_eq_getElem?_getD, List.getD_eq_getElem?_getD, List.getElem?_map]
  cases (qSt i)[k]? <;> rfl
/-- StringLatin1.charAt -/
theorem j_lchr_ok (hA : zAd ad base) {i : Nat} (hi : i < 16) {x : Int32} (hin : qIn x (qSt i).length) : Met l j_lchr (zWm j_lchr prog_20_method_2_code 2 (some .char)) (zRm (d + 2)) (zPs D dA ad adV base L xs [.ref (adV i), .int x]) (QcRead (Int32.ofNat ((qSt i).getD (qIx x) 0))) 0 0 (fun _ => False) := by
  refine zj_met (o := 19) hA (by decide +kernel) rfl (Nat.le_of_ble_eq_true rfl) (fun p e s m below meth c lr hc hr hlocks hl => ?_)
  obtain ⟨hx, hb, hml, hown, hts, hg, hE, ⟨hX, hb1, hb2, hK, hZ, hZq⟩, -⟩ := id hc
  have W1 : ∀ w, w ∈ lw_tbl → goodWord w = true → w.before _ s = true := fun w h1 h2 => hts w (hg w (zGw_in h1 h2))
  have hS := zj_S (s := s) (locs := []) (A := fun q => base ≤ q) (fun q hq => by cases hq)
  have hl100 : (qSt i).length < 100 := (zj_asc ⟨i, hi⟩).2.2
  obtain ⟨j, hj, rfl⟩ := vp_in_of hin (by omega)
  have h0 : ¬ nI j < 0 := nI_pos (by omega)
  have h1 : nI j < Int32.ofNat (qSt i).length := nI_lt hj (by omega)
  have hT := (hK.1 i hi).2.2.2
  rw [(zj_len hi).1, (zj_len hi).2] at hT
  refine lv_iload_n hx hb jp_lchr_0 rfl (lv_at hl 1 rfl) ?_
  refine lv_aload_n hx hb jp_lchr_1 rfl (lv_at hl 0 rfl) ?_
  refine va_tlen hx hb hT hS (v := Int32.ofNat (qSt i).length) rfl jp_lchr_2 ?_
  refine zj_void (fun q hq => by cases hq) (zs_runS (As := [.int (nI j), .int (Int32.ofNat (qSt i).length)]) (rest := []) (idx := 9) hc jc_ck js_ck ji_ck (zPk_in (q := (3, 229)) rfl) jd_ck (by decide) ⟨Nat.le_refl _, Nat.le_refl _⟩ (j_ck_ok hA h0 h1) ⟨zPs_blind, zj_pre hc _⟩ rfl hl.1 (by decide) jp_lchr_3) (fun locs1 hloc => ?_)
  have hS1 := zj_S (s := s) (locs := locs1) (A := fun q => base ≤ q) hloc
  refine lv_aload_n hx hb jp_lchr_6 rfl (lv_at hl 0 rfl) ?_
  refine lv_iload_n hx hb jp_lchr_7 rfl (lv_at hl 1 rfl) ?_
  refine va_tb hx hb hT hS1 hin (v := .int (Int32.ofNat ((qSt i).getD (qIx (nI j)) 0))) (by show Value.int _ = _; rw [zj_byt]; rfl) jp_lchr_8 ?_
  refine lv_sipush (v := 255) hx hb jp_lchr_9 (by decide) ?_
  refine lv_iand hx hb jp_lchr_12 ?_
  obtain ⟨c1, -, -⟩ := zj_chr ⟨_, zj_at hi (qIx (nI j))⟩
  refine lv_i2c hx hb jp_lchr_13 c1 ?_
  exact W.zret (ty := .char) hx hb hr (pk_charN (q := (qSt i).getD (qIx (nI j)) 0) (by have := zj_at hi (qIx (nI j)); omega)).1 (fun t ht hw => ⟨rfl, ht⟩) (fun q hq => (hloc q hq).elim) jp_lchr_14
/-- charAt -/
theorem j_chr_ok (hA : zAd ad base) {i : Nat} (hi : i < 16) {x : Int32} (hin : qIn x (qSt i).length) : Met l j_chr (zWm j_chr prog_19_method_56_code 2 (some .char)) (zRm (d + 3)) (zPs D dA ad adV base L xs [.ref (ad (1000 + i)), .int x]) (QcRead (Int32.ofNat ((qSt i).getD (qIx x) 0))) 0 0 (fun _ => False) := by
  refine zj_met (o := 18) hA (by decide +kernel) rfl (Nat.le_of_ble_eq_true rfl) (fun p e s m below meth c lr hc hr hlocks hl => ?_)
  obtain ⟨hx, hb, hml, hown, hts, hg, hE, ⟨hX, hb1, hb2, hK, hZ, hZq⟩, -⟩ := id hc
  have W1 : ∀ w, w ∈ lw_tbl → goodWord w = true → w.before _ s = true := fun w h1 h2 => hts w (hg w (zGw_in h1 h2))
  have hS := zj_S (s := s) (locs := []) (A := fun q => base ≤ q) (fun q hq => by cases hq)
  refine lv_aload_n hx hb jp_chr_0 rfl (lv_at hl 0 rfl) ?_
  refine zj_read (fun q hq => by cases hq) (zs_runV (As := []) (rest := []) (idx := 492) hc jc_lat js_lat jv_lat ji_lat (zPk_in (q := (3, 134)) rfl) jd_lat (by decide) ⟨Nat.le_refl _, Nat.le_refl _⟩ (j_lat_ok hA hi) ⟨zPs_blind, vk_recv (i := i) hK hi hS, zj_pre hc _⟩ rfl hl.1 (by decide) jp_chr_1) (fun locs1 hloc => ?_)
  have hS1 := zj_S (s := s) (locs := locs1) (A := fun q => base ≤ q) hloc
  refine lv_if_eq (tgt := 16) hx hb jp_chr_4 (by decide) (fun h => absurd h (by decide)) (fun _ => ?_)
  refine lv_aload_n hx hb jp_chr_7 rfl (lv_at hl 0 rfl) ?_
  refine vk_getf hx hb (hK.1 i hi).2.2.1 hS1 hown (W1 _ (zPk_in (q := (9, 17)) rfl) rfl) (fun _ h => h) jp_chr_8 ?_
  refine lv_iload_n hx hb jp_chr_11 rfl (lv_at hl 1 rfl) ?_
  refine zj_read hloc (zs_runS (As := [.ref (adV i), .int x]) (rest := []) (idx := 495) hc jc_lchr js_lchr ji_lchr (zPk_in (q := (3, 226)) rfl) jd_lchr (by decide) ⟨Nat.le_refl _, Nat.le_refl _⟩ (j_lchr_ok hA hi hin) ⟨zPs_blind, zj_pre hc _⟩ rfl hl.1 (by decide) jp_chr_12) (fun locs2 hloc2 => ?_)
  exact W.zret (ty := .char) hx hb hr (pk_charN (q := (qSt i).getD (qIx x) 0) (by have := zj_at hi (qIx x); omega)).1 (fun t ht hw => ⟨rfl, ht⟩) (fun q hq => (hloc2 q hq).elim) jp_chr_15
/-- canEncode -/
theorem j_can_ok (hA : zAd ad base) {x : Int32} : Met l j_can (zWm j_can prog_20_method_4_code 1 (some .boolean)) (zRm d) (zPs D dA ad adV base L xs [.int x]) (QcRead (if x < 0 ∨ 255 < x then 0 else 1)) 0 0 (fun _ => False) := by
  refine zj_met (o := 19) hA (by decide +kernel) rfl (Nat.le_of_ble_eq_true rfl) (fun p e s m below meth c lr hc hr hlocks hl => ?_)
  obtain ⟨hx, hb, hml, hown, hts, hg, hE, hO, -⟩ := id hc
  refine lv_iload_n hx hb jp_can_0 rfl (lv_at hl 0 rfl) ?_
  refine lv_if_lt (tgt := 15) hx hb jp_can_1 (by decide) (fun h => ?_) (fun h => ?_)
  · rw [if_pos (Or.inl h)]
    refine lv_iconst (v := 0) hx hb jp_can_15 (by decide) ?_
    exact W.zret (ty := .boolean) hx hb hr (by decide) (fun t ht hw => ⟨rfl, ht⟩) (fun q hq => by cases hq) jp_can_16
  · refine lv_iload_n hx hb jp_can_4 rfl (lv_at hl 0 rfl) ?_
    refine lv_sipush (v := 255) hx hb jp_can_5 (by decide) ?_
    refine lv_icmp_gt (tgt := 15) hx hb jp_can_8 (by decide) (fun h2 => ?_) (fun h2 => ?_)
    · rw [if_pos (Or.inr h2)]
      refine lv_iconst (v := 0) hx hb jp_can_15 (by decide) ?_
      exact W.zret (ty := .boolean) hx hb hr (by decide) (fun t ht hw => ⟨rfl, ht⟩) (fun q hq => by cases hq) jp_can_16
    · rw [if_neg (fun g => g.elim h h2)]
      refine lv_iconst (v := 1) hx hb jp_can_11 (by decide) ?_
      refine lv_goto (tgt := 16) hx hb jp_can_12 (by decide) ?_
      exact W.zret (ty := .boolean) hx hb hr (by decide) (fun t ht hw => ⟨rfl, ht⟩) (fun q hq => by cases hq) jp_can_16
/-- indexOfChar from 0 on -/
theorem j_ixc_ok (hA : zAd ad base) {i : Nat} (hi : i < 16) {n : Nat} (hn : n < 256) : Met l j_ixc (zWm j_ixc prog_20_method_23_code 6 (some .int)) (zRm d) (zPs D dA ad adV base L xs [.ref (adV i), .int (nI n), .int 0, .int (Int32.ofNat (qSt i).length)]) (QcRead (qIof (qSt i) (nI n) 0)) 0 0 (fun _ => False) := by
  refine zj_met (o := 19) hA (by decide +kernel) rfl (Nat.le_of_ble_eq_true rfl) (fun p e s m below meth c lr hc hr hlocks hl => ?_)
  obtain ⟨hx, hb, hml, hown, hts, hg, hE, ⟨hX, hb1, hb2, hK, hZ, hZq⟩, -⟩ := id hc
  have W1 : ∀ w, w ∈ lw_tbl → goodWord w = true → w.before _ s = true := fun w h1 h2 => hts w (hg w (zGw_in h1 h2))
  have hS := zj_S (s := s) (locs := []) (A := fun q => base ≤ q) (fun q hq => by cases hq)
  have hl100 : (qSt i).length < 100 := (zj_asc ⟨i, hi⟩).2.2
  have hT := (hK.1 i hi).2.2.2
  rw [(zj_len hi).1, (zj_len hi).2] at hT
  have loop : ∀ (li : List Nat) (j : Nat) (lr : Array Slot), (qSt i).drop j = li → j ≤ (qSt i).length → lv_has lr 6 [(5, .int (nI j)), (4, .int (nI n).toInt8.toInt32), (0, .ref (adV i)), (3, .int (Int32.ofNat (qSt i).length))] →
      qIof li (nI n) j = qIof (qSt i) (nI n) 0 → W p l e (zRm d) s m [Value.ref (adV i), .int (nI n), .int 0, .int (Int32.ofNat (qSt i).length)].toArray below meth c s.heap [] 0 0 (MQ below (QcRead (qIof (qSt i) (nI n) 0)) [Value.ref (adV i), .int (nI n), .int 0, .int (Int32.ofNat (qSt i).length)].toArray s 0 0 (fun _ => False)) (F0 m 7 lr []) := by
    intro li
    induction li with
    | nil =>
      intro j lr hd hj hl hq
      have hjl : (qSt i).length ≤ j := List.drop_eq_nil_iff.mp hd
      refine lv_iload hx hb jp_ixc_7 (lv_at hl 0 rfl) ?_
      refine lv_iload_n hx hb jp_ixc_9 rfl (lv_at hl 3 rfl) ?_
      refine lv_icmp_ge (tgt := 31) hx hb jp_ixc_10 (by decide) (fun _ => ?_) (fun h => absurd (nI_le hjl (by omega)) h)
      refine lv_iconst (v := -1) hx hb jp_ixc_31 (by decide) ?_
      exact W.iret hx hb hr (fun t ht hw => ⟨by rw [← hq]; rfl, ht⟩) (fun q hq => by cases hq) jp_ixc_32
    | cons a li ih =>
      intro j lr hd hj hl hq
      have hjl : j < (qSt i).length := by
        rcases Nat.lt_or_ge j (qSt i).length with g | g
        · exact g
        · rw [List.drop_eq_nil_iff.mpr g] at hd; cases hd
      have ha : (qSt i).getD j 0 = a := by
        have : ((qSt i).drop j)[0]? = some a := by rw [hd]; rfl
        rw [List.getElem?_drop] at this
        rw [List.getD_eq_getElem?_getD, show j + 0 = j from rfl] at *
        rw [this]; rfl
      have hdr : (qSt i).drop (j + 1) = li := by
        rw [← List.drop_drop, hd]; rfl
      have ha128 : a < 128 := by rw [← ha]; exact zj_at hi j
      obtain ⟨-, c2, c3⟩ := zj_chr ⟨a, ha128⟩
      have c2 : (Int32.ofNat a).toInt8.toInt32 = Int32.ofNat a := c2
      have c3 : Int32.ofNat a &&& 255 = Int32.ofNat a := c3
      refine lv_iload hx hb jp_ixc_7 (lv_at hl 0 rfl) ?_
      refine lv_iload_n hx hb jp_ixc_9 rfl (lv_at hl 3 rfl) ?_
      refine lv_icmp_ge (tgt := 31) hx hb jp_ixc_10 (by decide) (fun h => absurd h (nI_ge hjl (by omega))) (fun _ => ?_)
      refine lv_aload_n hx hb jp_ixc_13 rfl (lv_at hl 2 rfl) ?_
      refine lv_iload hx hb jp_ixc_14 (lv_at hl 0 rfl) ?_
      refine va_tb hx hb hT hS (vp_in_nI hjl (by omega)) (v := .int (Int32.ofNat a)) (by show Value.int _ = _; rw [zj_byt, nI_clamp (by omega), ha]) jp_ixc_16 ?_
      refine lv_iload hx hb jp_ixc_17 (lv_at hl 1 rfl) ?_
      have key := sc_eq (b := Int32.ofNat a) c2 hn
      rw [c3] at key
      refine lv_icmp_ne (tgt := 25) hx hb jp_ixc_19 (by decide) (fun h => ?_) (fun h => ?_)
      · have hne : ¬ nI n = Int32.ofNat a := fun g => h (key.mpr g.symm)
        have hq2 : qIof li (nI n) (j + 1) = qIof (qSt i) (nI n) 0 := by rw [← hq]; show _ = (if nI n = Int32.ofNat a then _ else _); rw [if_neg hne]
        refine lv_iinc (v := nI (j + 1)) (lv' := [(5, .int (nI (j + 1))), (4, .int (nI n).toInt8.toInt32), (0, .ref (adV i)), (3, .int (Int32.ofNat (qSt i).length))]) hx hb jp_ixc_25 hl (k := 0) rfl (nI_succ j).symm (by decide) rfl (fun lr2 hl2 => ?_)
        refine lv_goto (tgt := 7) hx hb jp_ixc_28 (by decide) ?_
        exact ih (j + 1) lr2 hdr (by omega) hl2 hq2
      · have he : nI n = Int32.ofNat a := (key.mp h).symm
        refine lv_iload hx hb jp_ixc_22 (lv_at hl 0 rfl) ?_
        have hq2 : nI j = qIof (qSt i) (nI n) 0 := by rw [← hq]; show _ = (if nI n = Int32.ofNat a then _ else _); rw [if_pos he]; rfl
        rw [hq2]
        exact W.iret hx hb hr (fun t ht hw => ⟨rfl, ht⟩) (fun q hq => by cases hq) jp_ixc_24
  refine lv_iload_n hx hb jp_ixc_0 rfl (lv_at hl 1 rfl) ?_
  refine lv_i2b hx hb jp_ixc_1 rfl ?_
  refine lv_istore (lv' := [(4, .int (nI n).toInt8.toInt32), (0, .ref (adV i)), (1, .int (nI n)), (2, .int 0), (3, .int (Int32.ofNat (qSt i).length))]) hx hb jp_ixc_2 hl (by decide) rfl (fun lr hl => ?_)
  refine lv_iload_n hx hb jp_ixc_4 rfl (lv_at hl 3 rfl) ?_
  refine lv_istore (lv' := [(5, .int 0), (4, .int (nI n).toInt8.toInt32), (0, .ref (adV i)), (1, .int (nI n)), (2, .int 0), (3, .int (Int32.ofNat (qSt i).length))]) hx hb jp_ixc_5 hl (by decide) rfl (fun lr hl => ?_)
  exact loop (qSt i) 0 lr rfl (Nat.zero_le _) (lv_sub hl [0, 1, 2, 5] rfl) rfl

theorem zj_out {x : Int32} (h : x < 0 ∨ 255 < x) : ∀ (li : List Nat) (j : Nat), (li.all fun n => decide (n < 128)) = true → qIof li x j = -1
  | [], _, _ => rfl
  | a :: li, j, hl => by
    simp only [List.all_cons, Bool.and_eq_true, decide_eq_true_eq] at hl
    have hne : ¬ x = Int32.ofNat a := fun e => by
      rw [e] at h
      rcases h with h | h
      · exact nI_pos (n := a) (by omega) h
      · have e2 : (255 : Int32) = nI 255 := by decide
        rw [e2] at h
        exact nI_nlt (a := 255) (b := a) (by omega) (by decide) h
    show (if x = Int32.ofNat a then _ else _) = _
    rw [if_neg hne]
    exact zj_out h li (j + 1) hl.2
/-- StringLatin1.indexOf -/
theorem j_lix_ok (hA : zAd ad base) {i : Nat} (hi : i < 16) {x : Int32} : Met l j_lix (zWm j_lix prog_20_method_22_code 4 (some .int)) (zRm (d + 1)) (zPs D dA ad adV base L xs [.ref (adV i), .int x, .int 0, .int (Int32.ofNat (qSt i).length)]) (QcRead (qIof (qSt i) x 0)) 0 0 (fun _ => False) := by
  refine zj_met (o := 19) hA (by decide +kernel) rfl (Nat.le_of_ble_eq_true rfl) (fun p e s m below meth c lr hc hr hlocks hl => ?_)
  obtain ⟨hx, hb, hml, hown, hts, hg, hE, ⟨hX, hb1, hb2, hK, hZ, hZq⟩, -⟩ := id hc
  have W1 : ∀ w, w ∈ lw_tbl → goodWord w = true → w.before _ s = true := fun w h1 h2 => hts w (hg w (zGw_in h1 h2))
  have hS := zj_S (s := s) (locs := []) (A := fun q => base ≤ q) (fun q hq => by cases hq)
  have hl100 : (qSt i).length < 100 := (zj_asc ⟨i, hi⟩).2.2
  have hl0 : 0 < (qSt i).length := (zj_asc ⟨i, hi⟩).2.1
  have hT := (hK.1 i hi).2.2.2
  rw [(zj_len hi).1, (zj_len hi).2] at hT
  refine lv_iload_n hx hb jp_lix_0 rfl (lv_at hl 1 rfl) ?_
  refine zj_read (fun q hq => by cases hq) (zs_runS (As := [.int x]) (rest := []) (idx := 88) hc jc_can js_can ji_can (zPk_in (q := (3, 151)) rfl) jd_can (by decide) ⟨Nat.le_refl _, Nat.le_refl _⟩ (j_can_ok hA) ⟨zPs_blind, zj_pre hc _⟩ rfl hl.1 (by decide) jp_lix_1) (fun locs1 hloc => ?_)
  have hS1 := zj_S (s := s) (locs := locs1) (A := fun q => base ≤ q) hloc
  by_cases hout : x < 0 ∨ 255 < x
  · rw [if_pos hout]
    refine lv_if_ne (tgt := 9) hx hb jp_lix_4 (by decide) (fun h => absurd rfl h) (fun _ => ?_)
    refine lv_iconst (v := -1) hx hb jp_lix_7 (by decide) ?_
    exact W.iret hx hb hr (fun t ht hw => ⟨by rw [zj_out hout (qSt i) 0 (zj_asc ⟨i, hi⟩).1], ht⟩) (fun q hq => (hloc q hq).elim) jp_lix_8
  · rw [if_neg hout]
    obtain ⟨n, hn, rfl⟩ : ∃ n : Nat, n ≤ 255 ∧ x = nI n := nI_of2 (M := 255) (n := 255) (by decide) (fun h => hout (Or.inl h)) (Int32.not_lt.mp (fun h => hout (Or.inr h)))
    refine lv_if_ne (tgt := 9) hx hb jp_lix_4 (by decide) (fun _ => ?_) (fun h => absurd h (by decide))
    refine lv_iload_n hx hb jp_lix_9 rfl (lv_at hl 2 rfl) ?_
    refine lv_iconst (v := 0) hx hb jp_lix_10 (by decide) ?_
    refine va_mmax hx hb (by rw [hml]; exact hl.1.symm) hown (W1 _ (zPk_in (q := (3, 154)) rfl) rfl) (W1 _ js_max rfl) (W1 _ ji_max rfl) (W1 _ jc_max rfl) (by show 1 ≤ d + 1; omega) (by show 0 + 13 ≤ 64 * (d + 1); omega) (Nat.le_refl _) (Nat.le_refl _) jp_lix_11 ?_
    rw [if_neg (by decide)]
    refine lv_istore_n (lv' := [(2, .int 0), (0, .ref (adV i)), (1, .int (nI n)), (3, .int (Int32.ofNat (qSt i).length))]) hx hb jp_lix_14 rfl hl (by decide) rfl (fun lr hl => ?_)
    refine lv_iload_n hx hb jp_lix_15 rfl (lv_at hl 3 rfl) ?_
    refine lv_aload_n hx hb jp_lix_16 rfl (lv_at hl 1 rfl) ?_
    refine va_tlen hx hb hT hS1 (v := Int32.ofNat (qSt i).length) rfl jp_lix_17 ?_
    refine va_mmin hx hb (by rw [hml]; exact hl.1.symm) hown (W1 _ (zPk_in (q := (3, 155)) rfl) rfl) (W1 _ js_min rfl) (W1 _ ji_min rfl) (W1 _ jc_min rfl) (by show 1 ≤ d + 1; omega) (by show 0 + 13 ≤ 64 * (d + 1); omega) (Nat.le_refl _) (Nat.le_refl _) jp_lix_18 ?_
    rw [ite_self]
    refine lv_istore_n (lv' := [(3, .int (Int32.ofNat (qSt i).length)), (2, .int 0), (0, .ref (adV i)), (1, .int (nI n))]) hx hb jp_lix_21 rfl hl (by decide) rfl (fun lr hl => ?_)
    refine lv_iload_n hx hb jp_lix_22 rfl (lv_at hl 1 rfl) ?_
    refine lv_iload_n hx hb jp_lix_23 rfl (lv_at hl 0 rfl) ?_
    refine lv_icmp_lt (tgt := 29) hx hb jp_lix_24 (by decide) (fun _ => ?_) (fun h => absurd (show (0 : Int32) < Int32.ofNat (qSt i).length from nI_lt (a := 0) hl0 (by omega)) h)
    refine lv_aload_n hx hb jp_lix_29 rfl (lv_at hl 2 rfl) ?_
    refine lv_iload_n hx hb jp_lix_30 rfl (lv_at hl 3 rfl) ?_
    refine lv_iload_n hx hb jp_lix_31 rfl (lv_at hl 1 rfl) ?_
    refine lv_iload_n hx hb jp_lix_32 rfl (lv_at hl 0 rfl) ?_
    refine zj_read hloc (zs_runS (As := [.ref (adV i), .int (nI n), .int 0, .int (Int32.ofNat (qSt i).length)]) (rest := []) (idx := 95) hc jc_ixc js_ixc ji_ixc (zPk_in (q := (3, 156)) rfl) jd_ixc (by decide) ⟨Nat.le_refl _, Nat.le_refl _⟩ (j_ixc_ok hA hi (by omega)) ⟨zPs_blind, zj_pre hc _⟩ rfl hl.1 (by decide) jp_lix_33) (fun locs2 hloc2 => ?_)
    exact W.iret hx hb hr (fun t ht hw => ⟨rfl, ht⟩) (fun q hq => (hloc2 q hq).elim) jp_lix_36
/-- indexOf(c, 0) -/
theorem j_ix2_ok (hA : zAd ad base) {i : Nat} (hi : i < 16) {x : Int32} : Met l j_ix2 (zWm j_ix2 prog_19_method_80_code 3 (some .int)) (zRm (d + 2)) (zPs D dA ad adV base L xs [.ref (ad (1000 + i)), .int x, .int 0]) (QcRead (qIof (qSt i) x 0)) 0 0 (fun _ => False) := by
  refine zj_met (o := 18) hA (by decide +kernel) rfl (Nat.le_of_ble_eq_true rfl) (fun p e s m below meth c lr hc hr hlocks hl => ?_)
  obtain ⟨hx, hb, hml, hown, hts, hg, hE, ⟨hX, hb1, hb2, hK, hZ, hZq⟩, -⟩ := id hc
  have W1 : ∀ w, w ∈ lw_tbl → goodWord w = true → w.before _ s = true := fun w h1 h2 => hts w (hg w (zGw_in h1 h2))
  have hS := zj_S (s := s) (locs := []) (A := fun q => base ≤ q) (fun q hq => by cases hq)
  refine lv_aload_n hx hb jp_ix2_0 rfl (lv_at hl 0 rfl) ?_
  refine zj_read (fun q hq => by cases hq) (zs_runV (As := []) (rest := []) (idx := 492) hc jc_lat js_lat jv_lat ji_lat (zPk_in (q := (3, 134)) rfl) jd_lat (by decide) ⟨Nat.le_refl _, Nat.le_refl _⟩ (j_lat_ok hA hi) ⟨zPs_blind, vk_recv (i := i) hK hi hS, zj_pre hc _⟩ rfl hl.1 (by decide) jp_ix2_1) (fun locs1 hloc => ?_)
  have hS1 := zj_S (s := s) (locs := locs1) (A := fun q => base ≤ q) hloc
  refine lv_if_eq (tgt := 23) hx hb jp_ix2_4 (by decide) (fun h => absurd h (by decide)) (fun _ => ?_)
  refine lv_aload_n hx hb jp_ix2_7 rfl (lv_at hl 0 rfl) ?_
  refine vk_getf hx hb (hK.1 i hi).2.2.1 hS1 hown (W1 _ (zPk_in (q := (9, 17)) rfl) rfl) (fun _ h => h) jp_ix2_8 ?_
  refine lv_iload_n hx hb jp_ix2_11 rfl (lv_at hl 1 rfl) ?_
  refine lv_iload_n hx hb jp_ix2_12 rfl (lv_at hl 2 rfl) ?_
  refine lv_aload_n hx hb jp_ix2_13 rfl (lv_at hl 0 rfl) ?_
  refine zj_read hloc (zs_runV (As := []) (rest := [.int 0, .int x, .ref (adV i)]) (idx := 505) hc jc_len js_len jv_len ji_len (zPk_in (q := (3, 140)) rfl) jd_len (by decide) ⟨Nat.le_refl _, Nat.le_refl _⟩ (j_len_ok hA hi) ⟨zPs_blind, vk_recv (i := i) hK hi hS, zj_pre hc _⟩ rfl hl.1 (Nat.le_of_ble_eq_true rfl) jp_ix2_14) (fun locs2 hloc2 => ?_)
  refine zj_read hloc2 (zs_runS (As := [.ref (adV i), .int x, .int 0, .int (Int32.ofNat (qSt i).length)]) (rest := []) (idx := 637) hc jc_lix js_lix ji_lix (zPk_in (q := (3, 148)) rfl) jd_lix (by decide) ⟨Nat.le_refl _, Nat.le_refl _⟩ (j_lix_ok hA hi) ⟨zPs_blind, zj_pre hc _⟩ rfl hl.1 (by decide) jp_ix2_17) (fun locs3 hloc3 => ?_)
  refine lv_goto (tgt := 36) hx hb jp_ix2_20 (by decide) ?_
  exact W.iret hx hb hr (fun t ht hw => ⟨rfl, ht⟩) (fun q hq => (hloc3 q hq).elim) jp_ix2_36
/-- indexOf(c) -/
theorem j_ix_ok (hA : zAd ad base) {i : Nat} (hi : i < 16) {x : Int32} : Met l j_ix (zWm j_ix prog_19_method_79_code 2 (some .int)) (zRm (d + 3)) (zPs D dA ad adV base L xs [.ref (ad (1000 + i)), .int x]) (QcRead (qIof (qSt i) x 0)) 0 0 (fun _ => False) := by
  refine zj_met (o := 18) hA (by decide +kernel) rfl (Nat.le_of_ble_eq_true rfl) (fun p e s m below meth c lr hc hr hlocks hl => ?_)
  obtain ⟨hx, hb, hml, hown, hts, hg, hE, ⟨hX, hb1, hb2, hK, hZ, hZq⟩, -⟩ := id hc
  have W1 : ∀ w, w ∈ lw_tbl → goodWord w = true → w.before _ s = true := fun w h1 h2 => hts w (hg w (zGw_in h1 h2))
  have hS := zj_S (s := s) (locs := []) (A := fun q => base ≤ q) (fun q hq => by cases hq)
  refine lv_aload_n hx hb jp_ix_0 rfl (lv_at hl 0 rfl) ?_
  refine lv_iload_n hx hb jp_ix_1 rfl (lv_at hl 1 rfl) ?_
  refine lv_iconst (v := 0) hx hb jp_ix_2 (by decide) ?_
  refine zj_read (fun q hq => by cases hq) (zs_runV (As := [.int x, .int 0]) (rest := []) (idx := 633) hc jc_ix2 js_ix2 jv_ix2 ji_ix2 (zPk_in (q := (3, 130)) rfl) jd_ix2 (by decide) ⟨Nat.le_refl _, Nat.le_refl _⟩ (j_ix2_ok hA hi) ⟨zPs_blind, vk_recv (i := i) hK hi hS, zj_pre hc _⟩ rfl hl.1 (by decide) jp_ix_3) (fun locs1 hloc => ?_)
  exact W.iret hx hb hr (fun t ht hw => ⟨rfl, ht⟩) (fun q hq => (hloc q hq).elim) jp_ix_6
theorem zStrs_ok (hA : zAd ad base) : ∀ d, 8 ≤ d → zStrs l d D dA ad adV base L xs := by
  intro d hd i hi
  obtain ⟨d1, rfl⟩ : ∃ d1, d = d1 + 1 := ⟨d - 1, by omega⟩
  obtain ⟨d3, rfl⟩ : ∃ d3, d1 = d3 + 2 := ⟨d1 - 2, by omega⟩
  exact ⟨j_len_ok hA hi, fun x hin => j_chr_ok (d := d3) hA hi hin, fun x => j_ix_ok (d := d3) hA hi⟩
end Str
