/-! The checker: each instruction of the tables is what the bytes say, and links what the words say. -/
def zLn (i : Instr) : Nat := match i with
  | .bipush _ => 2
  | .ldc _ => 2
  | .iload _ => 2
  | .lload _ => 2
  | .aload _ => 2
  | .istore _ => 2
  | .lstore _ => 2
  | .astore _ => 2
  | .newarray _ => 2
  | .sipush _ => 3
  | .ldc_w _ => 3
  | .ldc2_w _ => 3
  | .iinc _ _ => 3
  | .ifCond _ _ => 3
  | .if_icmp _ _ => 3
  | .ifnull _ => 3
  | .goto _ => 3
  | .getfield _ => 3
  | .putfield _ => 3
  | .invokevirtual _ => 3
  | .invokestatic _ => 3
  | .invokespecial _ => 3
  | .new _ => 3
  | .anewarray _ => 3
  | _ => 1
def zFo (o idx : Nat) (au : List Nat) (put : Bool) : Bool := match zLk (zFx o) idx with
  | some (k, f, p) => match zCl[k]? with
    | some q => decide (q0 au = k + 1) && decide (q1 au = f) && decide (f < q.2.2) && decide (zPk p = some (.fieldLink (zOwn o) idx (q.2.1 f).1 (q.2.1 f).2.1 (q.2.1 f).2.2.1)) && decide (((zSo[k]?).bind (fun l => l[f]?)) = some (q2 au)) && (!put || !(q.2.1 f).2.2.2)
    | none => false
  | none => false
def zRs (r : Option FieldType) : Nat := match r with
  | some .int => 0
  | some .boolean => 0
  | some .long => 1
  | none => 2
  | _ => 3
def zSx (o : Nat) : List (Nat × Nat × (Nat × Nat)) := match o with
  | 1 => [(53, 11, (6, 94))]
  | 2 => [(174, 15, (3, 126)), (149, 13, (3, 221)), (153, 14, (3, 222))]
  | 10 => [(43, 11, (6, 68))]
  | 18 => [(505, 13, (3, 140))]
  | _ => []
def zSn (k : Nat) : MethodName := match k with
  | 13 => ⟨"java/lang/String", "length", "()I"⟩
  | 14 => ⟨"java/lang/String", "charAt", "(I)C"⟩
  | 15 => ⟨"java/lang/String", "indexOf", "(I)I"⟩
  | 11 => ⟨"java/lang/System", "arraycopy", "(Ljava/lang/Object;ILjava/lang/Object;II)V"⟩
  | _ => ⟨"", "", ""⟩
/-- the pool places of the literals of Reader -/
def zSi : List Nat := [172, 80, 86, 88, 90, 99, 132, 134, 136, 138, 140, 142, 144, 114, 104, 112]
def zIv (o idx : Nat) (au : List Nat) (virt : Bool) : Bool := match Nat.ble (q2 au) 3 with
  | true => match zLk (zMx o) idx with
    | some (M, nest, p) => match zMi M with
      | some (y, _, _, rt, st, na, o', _) => decide (q0 au = M) && decide (st = !virt) && decide (q1 au = if st then na else na + 1) && decide (q3 au = if st then 99 else o' + 1) && decide (zRs rt = q2 au) && decide (zPk p = some (if nest = 0 then .methodLink (zOwn o) idx y else .methodLinkNest (zOwn o) idx y "NumberComes")) && (decide (nest = 0) || st) && (st || decide (o' < 13))
      | none => false
    | none => false
  | false => match zLk (zSx o) idx with
    | some (k, p) => (decide (q2 au = k) || (decide (q2 au = 12) && decide (k = 11))) && decide (zPk p = some (.methodLink (zOwn o) idx (zSn k))) && decide (virt = decide (13 ≤ k))
    | none => false
def zOp (o mL : Nat) (rt : Option FieldType) (pc : Nat) (ins : Instr) (au : List Nat) (cs : Int) : Bool := match ins with
  | .iconst n => decide (Int32.ofInt n = qCi cs)
  | .bipush n => decide ((Int8.ofInt n).toInt32 = qCi cs)
  | .sipush n => decide ((Int16.ofInt n).toInt32 = qCi cs)
  | .lconst n => decide (Int64.ofNat (n : Nat) = qCl cs)
  | .ldc idx => match au with
    | [] => match zLk (zKi o) idx with
      | some (v, p) => decide (v = cs) && decide (zPk p = some (.constant (zOwn o) idx (qCi cs)))
      | none => false
    | c :: _ => decide (o = 2) && Nat.ble 1000 c && decide (zSi[c - 1000]? = some idx)
  | .ldc_w idx => match au with
    | [] => match zLk (zKi o) idx with
      | some (v, p) => decide (v = cs) && decide (zPk p = some (.constant (zOwn o) idx (qCi cs)))
      | none => false
    | _ :: _ => false
  | .ldc2_w idx => match zLk (zKl o) idx with
    | some (v, p) => decide (v = cs) && decide (zPk p = some (.constantLong (zOwn o) idx (qCl cs)))
    | none => false
  | .iload n => decide (q0 au = n)
  | .lload n => decide (q0 au = n)
  | .aload n => decide (q0 au = n)
  | .iload_n n => decide (q0 au = (n : Nat))
  | .lload_n n => decide (q0 au = (n : Nat))
  | .aload_n n => decide (q0 au = (n : Nat))
  | .istore n => decide (q0 au = n) && decide (n < mL)
  | .astore n => decide (q0 au = n) && decide (n < mL)
  | .lstore n => decide (q0 au = n) && decide (n + 1 < mL)
  | .istore_n n => decide (q0 au = (n : Nat)) && decide ((n : Nat) < mL)
  | .astore_n n => decide (q0 au = (n : Nat)) && decide ((n : Nat) < mL)
  | .lstore_n n => decide (q0 au = (n : Nat)) && decide ((n : Nat) + 1 < mL)
  | .iinc n c => decide (q0 au = n) && decide (n < mL) && decide (Int32.ofInt c = qCi cs)
  | .goto off => decide ((pc : Int) + off = (q0 au : Int))
  | .ifCond _ off => decide ((pc : Int) + off = (q0 au : Int))
  | .if_icmp _ off => decide ((pc : Int) + off = (q0 au : Int))
  | .ifnull off => decide ((pc : Int) + off = (q0 au : Int))
  | .getfield idx => zFo o idx au false
  | .putfield idx => zFo o idx au true
  | .invokevirtual idx => zIv o idx au true
  | .invokestatic idx => zIv o idx au false
  | .invokespecial _ => false
  | .ireturn => match q0 au with
    | 0 => decide (rt = some .int)
    | _ => decide (rt = some .boolean)
  | .lreturn => decide (rt = some .long)
  | .areturn => match rt with
    | some (.object _) => true
    | _ => false
  | .return_ => decide (rt = none)
  | _ => true
def zOkI (o : Nat) (cc : ByteArray) (mL : Nat) (rt : Option FieldType) (i : qI) : Bool := match i.2.1 with
  | .tableswitch d lo hi offs => decide (decode cc i.1 = .ok (i.2.1, i.2.2.1 - i.1)) && decide (i.2.2.2.2 = lo) && decide (hi = lo + offs.size - 1) && decide ((i.1 : Int) + d = (q0 i.2.2.2.1 : Int)) && decide (offs.toList.map (fun x => (i.1 : Int) + x) = (i.2.2.2.1.drop 1).map (fun n : Nat => (n : Int))) && decide (-1000000 < lo ∧ hi < 1000000 ∧ 0 < offs.size ∧ 0 < i.2.2.2.1.length)
  | .lookupswitch d ps => decide (decode cc i.1 = .ok (i.2.1, i.2.2.1 - i.1)) && decide ((i.1 : Int) + d = (q0 i.2.2.2.1 : Int)) && decide (ps.toList.map (fun x => (i.1 : Int) + x.2) = (i.2.2.2.1.drop 1).map (fun n : Nat => (n : Int))) && (ps.toList.zip (ps.toList.drop 1)).all (fun (a, next) => a.1 < next.1) && ps.toList.all (fun x => decide ((qCi x.1).toInt = x.1)) && decide (0 < i.2.2.2.1.length)
  | ins => decide (decode cc i.1 = .ok (ins, zLn ins)) && decide (i.2.2.1 = i.1 + zLn ins) && zOp o mL rt i.1 ins i.2.2.2.1 i.2.2.2.2
/-- a method's own words -/
def zMok (m : zMI) : Bool := match m with
  | (y, _, mL, _, st, na, o, _, p2, p3, p4) => decide (zPk p2 = some (if st then .static y else .instanceMethod y)) && (st || decide (zPk p3 = some (.selects y.cls y y))) && decide (zPk p4 = some (.initialized y.cls)) && decide (zOwn o = y.cls) && decide (y.cls ≠ "java/lang/invoke/MethodHandle" ∧ y.cls ≠ "java/lang/invoke/VarHandle" ∧ (parseMethodDescriptor y.desc).map (fun d => d.parameters.length) = some na) && decide (plainFor y = true) && decide (mL ≤ 24)
def zSm (k : Nat) : zMI := match k with
  | 13 => (⟨"java/lang/String", "length", "()I"⟩, prog_19_method_54_code, 1, some .int, false, 0, 18, (3, 143), (3, 141), (3, 142), (1, 15))
  | 14 => (⟨"java/lang/String", "charAt", "(I)C"⟩, prog_19_method_56_code, 2, some .char, false, 1, 18, (3, 225), (3, 223), (3, 224), (1, 15))
  | _ => (⟨"java/lang/String", "indexOf", "(I)I"⟩, prog_19_method_79_code, 2, some .int, false, 1, 18, (3, 129), (3, 127), (3, 128), (1, 15))
theorem zSm_ok : zMok (zSm 13) = true ∧ zMok (zSm 14) = true ∧ zMok (zSm 15) = true ∧ (zSm 13).1 = zSn 13 ∧ (zSm 14).1 = zSn 14 ∧ (zSm 15).1 = zSn 15 := by decide +kernel
theorem zSc_13 : zPk (zSm 13).2.2.2.2.2.2.2.1 = some (.code (zSm 13).1 (zSm 13).2.1 (zSm 13).2.2.1 (zSm 13).2.2.2.1) := rfl
theorem zSc_14 : zPk (zSm 14).2.2.2.2.2.2.2.1 = some (.code (zSm 14).1 (zSm 14).2.1 (zSm 14).2.2.1 (zSm 14).2.2.2.1) := rfl
theorem zSc_15 : zPk (zSm 15).2.2.2.2.2.2.2.1 = some (.code (zSm 15).1 (zSm 15).2.1 (zSm 15).2.2.1 (zSm 15).2.2.2.1) := rfl
