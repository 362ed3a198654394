/-! The constructors: tables, a runner that computes, the checker. By a program of mine. -/
def yMk (M : Nat) : Nat := match M with
  | 0 => 70
  | 2 => 10
  | 3 => 1
  | 4 => 4
  | 5 => 2
  | 6 => 2
  | 7 => 1
  | 8 => 3
  | 9 => 1
  | 10 => 4
  | 11 => 3
  | 12 => 1
  | 205 => 27
  | _ => 0
def yMl : List (Nat × zMI) := [(0, (⟨"NumberComes", "<init>", "()V"⟩, prog_1_method_1_code, 2, none, false, 0, 0, (1, 28), (1, 27), (1, 27), (1, 1))),
  (2, (⟨"NumberComes$State", "<init>", "()V"⟩, prog_9_method_1_code, 1, none, false, 0, 1, (1, 36), (1, 35), (1, 35), (1, 2))),
  (3, (⟨"NumberComes$Reader", "<init>", "()V"⟩, prog_7_method_1_code, 1, none, false, 0, 2, (1, 155), (1, 154), (1, 154), (1, 3))),
  (4, (⟨"NumberComes$Text", "<init>", "()V"⟩, prog_10_method_1_code, 1, none, false, 0, 3, (1, 194), (1, 193), (1, 193), (1, 4))),
  (5, (⟨"NumberComes$Machine", "<init>", "()V"⟩, prog_5_method_1_code, 1, none, false, 0, 4, (2, 1), (2, 0), (2, 0), (1, 5))),
  (6, (⟨"NumberComes$Voices", "<init>", "(LNumberComes$State;[LNumberComes$Text;LNumberComes$Machine;)V"⟩, prog_12_method_1_code, 4, none, false, 3, 5, (2, 16), (2, 15), (2, 15), (1, 6))),
  (7, (⟨"NumberComes$Meetings", "<init>", "(LNumberComes$State;LNumberComes$Voices;)V"⟩, prog_6_method_1_code, 3, none, false, 2, 6, (2, 50), (2, 49), (2, 49), (1, 7))),
  (8, (⟨"NumberComes$Turns", "<init>", "(LNumberComes$Voices;)V"⟩, prog_11_method_1_code, 2, none, false, 1, 7, (2, 78), (2, 77), (2, 77), (1, 8))),
  (9, (⟨"NumberComes$Gifts", "<init>", "(LNumberComes$State;LNumberComes$Voices;LNumberComes$Meetings;LNumberComes$Machine;)V"⟩, prog_4_method_1_code, 5, none, false, 4, 8, (2, 101), (2, 100), (2, 100), (1, 9))),
  (10, (⟨"NumberComes$Searches", "<init>", "(LNumberComes$State;)V"⟩, prog_8_method_1_code, 2, none, false, 1, 9, (2, 139), (2, 138), (2, 138), (1, 10))),
  (11, (⟨"NumberComes$Couples", "<init>", "(LNumberComes$Meetings;)V"⟩, prog_2_method_1_code, 2, none, false, 1, 10, (2, 164), (2, 163), (2, 163), (1, 11))),
  (12, (⟨"NumberComes$Cover", "<init>", "(LNumberComes$State;LNumberComes$Voices;)V"⟩, prog_3_method_1_code, 3, none, false, 2, 11, (2, 188), (2, 187), (2, 187), (1, 12))),
  (205, (⟨"NumberComesModel", "<init>", "()V"⟩, prog_14_method_1_code, 1, none, false, 0, 12, (6, 111), (6, 110), (6, 110), (1, 13)))]
theorem yMc : ∀ q ∈ yMl, zPk q.2.2.2.2.2.2.2.2.1 = some (.code q.2.1 q.2.2.1 q.2.2.2.1 q.2.2.2.2.1) := List.forall_mem_cons.mpr ⟨rfl, List.forall_mem_cons.mpr ⟨rfl, List.forall_mem_cons.mpr ⟨rfl, List.forall_mem_cons.mpr ⟨rfl, List.forall_mem_cons.mpr ⟨rfl, List.forall_mem_cons.mpr ⟨rfl, List.forall_mem_cons.mpr ⟨rfl, List.forall_mem_cons.mpr ⟨rfl, List.forall_mem_cons.mpr ⟨rfl, List.forall_mem_cons.mpr ⟨rfl, List.forall_mem_cons.mpr ⟨rfl, List.forall_mem_cons.mpr ⟨rfl, List.forall_mem_cons.mpr ⟨rfl, fun _ h => absurd h List.not_mem_nil⟩⟩⟩⟩⟩⟩⟩⟩⟩⟩⟩⟩⟩
def yMi (M : Nat) : Option zMI := zLk yMl M
def yMx (o : Nat) : List (Nat × Nat × Nat × (Nat × Nat)) := match o with
  | 0 => [(9, 2, 1, (1, 34)), (27, 3, 1, (1, 153)), (32, 4, 1, (1, 192)), (35, 5, 1, (1, 239)), (38, 6, 0, (2, 14)), (47, 7, 0, (2, 48)), (56, 8, 0, (2, 76)), (65, 9, 0, (2, 99)), (74, 10, 0, (2, 137)), (83, 11, 0, (2, 162)), (92, 12, 0, (2, 186))]
  | 13 => [(9, 0, 0, (1, 26)), (12, 205, 0, (6, 109))]
  | _ => []
def yOx (o : Nat) : List (Nat × (Nat × Nat)) := match o with
  | 0 => [(1, (1, 29))]
  | 1 => [(3, (1, 37))]
  | 2 => [(3, (1, 156))]
  | 3 => [(3, (1, 195))]
  | 4 => [(3, (2, 2))]
  | 5 => [(3, (2, 17))]
  | 6 => [(3, (2, 51))]
  | 7 => [(3, (2, 79))]
  | 8 => [(3, (2, 102))]
  | 9 => [(3, (2, 140))]
  | 10 => [(3, (2, 165))]
  | 11 => [(3, (2, 189))]
  | 12 => [(1, (6, 112))]
  | _ => []
def yCx (o : Nat) : List (Nat × Nat × (Nat × Nat) × (Nat × Nat) × (Nat × Nat)) := match o with
  | 0 => [(7, 1, (1, 32), (1, 33), (1, 2)), (19, 3, (1, 149), (1, 191), (1, 4)), (25, 2, (1, 151), (1, 152), (1, 3)), (33, 4, (1, 237), (1, 238), (1, 5)), (36, 5, (2, 12), (2, 13), (1, 6)), (45, 6, (2, 46), (2, 47), (1, 7)), (54, 7, (2, 74), (2, 75), (1, 8)), (63, 8, (2, 97), (2, 98), (1, 9)), (72, 9, (2, 135), (2, 136), (1, 10)), (81, 10, (2, 160), (2, 161), (1, 11)), (90, 11, (2, 184), (2, 185), (1, 12))]
  | 13 => [(7, 0, (1, 24), (1, 25), (1, 1)), (10, 12, (6, 107), (6, 108), (1, 13))]
  | _ => []
def yAr (t : ArrayType) : Nat × (Nat × Nat) := match t with
  | .int => (33, (1, 147))
  | .boolean => (34, (7, 13))
  | .long => (35, (1, 148))
  | _ => (99, (99, 0))
def yOv : Nat × Nat := (1, 150)
def yOi : (Nat × Nat) × (Nat × Nat) := ((1, 30), (1, 31))
def c_Law0 : List qI := [(0, .new 7, 3, [1], 0), (3, .dup, 4, [], 0), (4, .invokespecial 9, 7, [0, 1, 2, 1], 0), (7, .astore_n 1, 8, [1], 0), (8, .new 10, 11, [13], 0), (11, .dup, 12, [], 0), (12, .invokespecial 12, 15, [205, 1, 2, 13], 0), (15, .astore_n 2, 16, [2], 0)]
abbrev yw : Type := List (Nat × Nat × Int32) × List (Nat × Nat × Nat) × Nat
def yGi : List (Nat × Nat × Int32) → Nat → Nat → Int32
  | [], _, _ => 0
  | q :: t, c, f => if c = q.1 ∧ f = q.2.1 then q.2.2 else yGi t c f
def yGr : List (Nat × Nat × Nat) → Nat → Nat → Option Nat
  | [], _, _ => none
  | q :: t, c, f => if c = q.1 ∧ f = q.2.1 then some q.2.2 else yGr t c f
def gYw (v : yw) : qW := (fun c f => yGi v.1 c f, fun _ _ => 0, fun c f => yGr v.2.1 c f, v.2.2)
abbrev gYs : Type := Nat × qL × List Value × yw
def yRd (n : Nat) (v : Value) : Bool := match v with
  | .ref c => Nat.blt c n
  | _ => true
def yLd (n : Nat) (ls : qL) : Bool := ls.all (fun o => match o with
  | some v => yRd n v
  | none => true)
def yOk (v : yw) : Bool := v.1.all (fun q => Nat.blt q.1 v.2.2) && v.2.1.all (fun q => Nat.blt q.1 v.2.2 && Nat.blt q.2.2 v.2.2) && Nat.ble 1 v.2.2 && Nat.ble v.2.2 100
def yAll (ls : qL) (st : List Value) (v : yw) : Bool := yLd v.2.2 ls && st.all (yRd v.2.2) && yOk v
def yFr (a : List Value) : Bool := match a with
  | .ref _ :: _ => true
  | _ => false
/-- one instruction of a constructor, computed -/
def yEx (n0 n1 : Nat) (C : Nat → List Value → yw → Option yw) (n : Nat) (ins : Instr) (au : List Nat) (cs : Int) (ls : qL) (st : List Value) (v : yw) : Option (gYs ⊕ yw) := match ins with
  | .iconst _ => some (.inl (n, ls, .int (qCi cs) :: st, v))
  | .bipush _ => some (.inl (n, ls, .int (qCi cs) :: st, v))
  | .sipush _ => some (.inl (n, ls, .int (qCi cs) :: st, v))
  | .iload_n _ => match qGet ls (q0 au) with
    | some (.int x) => some (.inl (n, ls, .int x :: st, v))
    | _ => none
  | .aload _ => match qGet ls (q0 au) with
    | some (.ref x) => some (.inl (n, ls, .ref x :: st, v))
    | _ => none
  | .aload_n _ => match qGet ls (q0 au) with
    | some (.ref x) => some (.inl (n, ls, .ref x :: st, v))
    | _ => none
  | .istore_n _ => match st with
    | .int x :: r => some (.inl (n, qSt1 ls (q0 au) (.int x), r, v))
    | _ => none
  | .astore_n _ => match st with
    | .ref x :: r => some (.inl (n, qSt1 ls (q0 au) (.ref x), r, v))
    | _ => none
  | .iinc _ _ => match qGet ls (q0 au) with
    | some (.int x) => some (.inl (n, qSt1 ls (q0 au) (.int (x + qCi cs)), st, v))
    | _ => none
  | .dup => match st with
    | .ref x :: r => some (.inl (n, ls, .ref x :: .ref x :: r, v))
    | _ => none
  | .goto _ => some (.inl (q0 au, ls, st, v))
  | .if_icmp .ge _ => match st with
    | .int y :: .int x :: r => some (.inl (if y ≤ x then q0 au else n, ls, r, v))
    | _ => none
  | .getfield _ => match st with
    | .ref c :: r => match yGr v.2.1 c (q1 au) with
      | some d => if qKd c = q0 au ∧ 0 < c ∧ c < v.2.2 ∧ q2 au = 3 then some (.inl (n, ls, .ref d :: r, v)) else none
      | none => none
    | _ => none
  | .putfield _ => match st with
    | .int x :: .ref c :: r => if qKd c = q0 au ∧ 0 < c ∧ c < v.2.2 ∧ q2 au = 0 then some (.inl (n, ls, r, ((c, q1 au, x) :: v.1, v.2))) else none
    | .ref d :: .ref c :: r => if qKd c = q0 au ∧ 0 < c ∧ c < v.2.2 ∧ q2 au = 3 then some (.inl (n, ls, r, (v.1, (c, q1 au, d) :: v.2.1, v.2.2))) else none
    | _ => none
  | .aastore => match st with
    | .ref d :: .int i :: .ref c :: r => if (qKd c = 36 ∧ 0 < c ∧ c < v.2.2) ∧ (qKd d = 4 ∧ 0 < d ∧ d < v.2.2) ∧ ¬ i < 0 ∧ qIx i < qLn c then some (.inl (n, ls, r, (v.1, (c, qIx i, d) :: v.2.1, v.2.2))) else none
    | _ => none
  | .new _ => if qKd v.2.2 = q0 au ∧ n0 ≤ v.2.2 ∧ v.2.2 < n1 ∧ yAll ls st v = true then some (.inl (n, ls, .ref v.2.2 :: st, (v.1, v.2.1, v.2.2 + 1))) else none
  | .newarray _ => match st with
    | .int x :: r => if qKd v.2.2 = q0 au ∧ x = Int32.ofNat (qLn v.2.2) ∧ n0 ≤ v.2.2 ∧ v.2.2 < n1 ∧ yAll ls r v = true then some (.inl (n, ls, .ref v.2.2 :: r, (v.1, v.2.1, v.2.2 + 1))) else none
    | _ => none
  | .anewarray _ => match st with
    | .int x :: r => if qKd v.2.2 = 36 ∧ x = Int32.ofNat (qLn v.2.2) ∧ n0 ≤ v.2.2 ∧ v.2.2 < n1 ∧ yAll ls r v = true then some (.inl (n, ls, .ref v.2.2 :: r, (v.1, v.2.1, v.2.2 + 1))) else none
    | _ => none
  | .invokespecial _ => match Nat.beq (q2 au) 10 with
    | true => match st with
      | .ref _ :: r => if qCat r ≤ 8 then some (.inl (n, ls, r, v)) else none
      | _ => none
    | false => match C (q0 au) (st.take (q1 au)).reverse v with
      | some v' => if (q1 au ≤ st.length ∧ yFr (st.take (q1 au)).reverse = true ∧ qCat (st.drop (q1 au)) ≤ 8) ∧ yAll ls (st.drop (q1 au)) v = true ∧ n0 ≤ v.2.2 ∧ v'.2.2 = v.2.2 + yMk (q0 au) ∧ v'.2.2 ≤ n1 then some (.inl (n, ls, st.drop (q1 au), v')) else none
      | none => none
  | .return_ => match st with
    | [] => some (.inr v)
    | _ => none
  | _ => none
def yRun (n0 n1 : Nat) (C : Nat → List Value → yw → Option yw) (cd : List qI) (stop : Nat) : Nat → gYs → Option (gYs ⊕ yw)
  | 0, _ => none
  | k + 1, q => match Nat.beq q.1 stop with
    | true => some (.inl q)
    | false => match qFt cd q.1 with
      | none => none
      | some i => match yEx n0 n1 C i.2.2.1 i.2.1 i.2.2.2.1 i.2.2.2.2 q.2.1 q.2.2.1 q.2.2.2 with
        | none => none
        | some (.inl q') => yRun n0 n1 C cd stop k q'
        | some (.inr v) => some (.inr v)
def yCall : Nat → Nat → List Value → yw → Option yw
  | 0, _, _, _ => none
  | d + 1, M, a, v => match Nat.beq M 205 with
    | true => none
    | false => match qMt M with
      | none => none
      | some (cd, mL) => match Nat.ble (qArgs a).length mL && Nat.ble 1 v.2.2 with
        | false => none
        | true => match yRun v.2.2 (v.2.2 + yMk M) (yCall d) cd 100000 200 (0, qPad (qArgs a) mL, [], v) with
          | some (.inr v') => match Nat.beq v'.2.2 (v.2.2 + yMk M) with
            | true => some v'
            | false => none
          | _ => none
/-- the checker of a constructor's instruction -/
def yOp (o mL pc : Nat) (ins : Instr) (au : List Nat) (cs : Int) : Bool := match ins with
  | .putfield idx => zFo o idx au false && (match zLk (zFx o) idx with
    | some (k, f, _) => match zCl[k]? with
      | some q => !(q.2.1 f).2.2.2 || decide ((q.2.1 f).1 = zOwn o)
      | none => false
    | none => false)
  | .new idx => match zLk (yCx o) idx with
    | some (k, p1, p2, p3) => match zCl[k]? with
      | some q => decide (q0 au = k + 1) && decide (zPk p1 = some (.classLink (zOwn o) idx q.1)) && decide (zPk p2 = some (.instantiable q.1 q.2.2)) && decide (zPk p3 = some (.initialized q.1))
      | none => false
    | none => false
  | .newarray t => decide (q0 au = (yAr t).1) && decide (zPk (yAr t).2 = some (.arrayClass (newarray.typeOf t))) && decide (q0 au = 33 ∨ q0 au = 34 ∨ q0 au = 35)
  | .anewarray idx => match zLk (yCx o) idx with
    | some (_, p1, _, _) => decide (zPk p1 = some (.classLink (zOwn o) idx "NumberComes$Text"))
    | none => false
  | .invokespecial idx => match Nat.beq (q2 au) 10 with
    | true => match zLk (yOx o) idx with
      | some p => decide (zPk p = some (.methodLink (zOwn o) idx Lib.objectInit))
      | none => false
    | false => match zLk (yMx o) idx with
      | some (M, nest, p) => match yMi M with
        | some (y, _, _, _, _, na, o', _) => decide (q0 au = M) && decide (q1 au = na + 1) && decide (zPk p = some (if nest = 0 then .methodLink (zOwn o) idx y else .methodLinkNest (zOwn o) idx y "NumberComes")) && decide (o' < 13)
        | none => false
      | none => false
  | .aastore => true
  | ins => zOp o mL none pc ins au cs
def yOkI (o : Nat) (cc : ByteArray) (mL : Nat) (i : qI) : Bool := decide (decode cc i.1 = .ok (i.2.1, zLn i.2.1)) && decide (i.2.2.1 = i.1 + zLn i.2.1) && yOp o mL i.1 i.2.1 i.2.2.2.1 i.2.2.2.2
def yMb (m : zMI) : Bool := match m with
  | (y, _, mL, rt, _, na, o, _, p2, _, p4) => decide (rt = none) && decide (zPk p2 = some (.instanceMethod y)) && decide (zPk p4 = some (.initialized y.cls)) && decide (zOwn o = y.cls) && decide (y.cls ≠ "java/lang/invoke/MethodHandle" ∧ y.cls ≠ "java/lang/invoke/VarHandle" ∧ (parseMethodDescriptor y.desc).map (fun d => d.parameters.length) = some na) && decide (plainFor y = true) && decide (mL ≤ 24) && decide (y.name = "<init>") && decide (o < 13)
def yIs (pc : Nat) (r : Option (gYs ⊕ yw)) : Option gYs := match r with
  | some (.inl q) => match Nat.beq q.1 pc with
    | true => some q
    | false => none
  | _ => none
set_option maxRecDepth 100000 in
theorem ky_X_init : c_X_init.all (yOkI 0 prog_1_method_1_code 2) = true := by decide +kernel
set_option maxRecDepth 100000 in
theorem ky_State_init : c_State_init.all (yOkI 1 prog_9_method_1_code 1) = true := by decide +kernel
set_option maxRecDepth 100000 in
theorem ky_Reader_init : c_Reader_init.all (yOkI 2 prog_7_method_1_code 1) = true := by decide +kernel
set_option maxRecDepth 100000 in
theorem ky_Text_init : c_Text_init.all (yOkI 3 prog_10_method_1_code 1) = true := by decide +kernel
set_option maxRecDepth 100000 in
theorem ky_Machine_init : c_Machine_init.all (yOkI 4 prog_5_method_1_code 1) = true := by decide +kernel
set_option maxRecDepth 100000 in
theorem ky_Voices_init : c_Voices_init.all (yOkI 5 prog_12_method_1_code 4) = true := by decide +kernel
set_option maxRecDepth 100000 in
theorem ky_Meetings_init : c_Meetings_init.all (yOkI 6 prog_6_method_1_code 3) = true := by decide +kernel
set_option maxRecDepth 100000 in
theorem ky_Turns_init : c_Turns_init.all (yOkI 7 prog_11_method_1_code 2) = true := by decide +kernel
set_option maxRecDepth 100000 in
theorem ky_Gifts_init : c_Gifts_init.all (yOkI 8 prog_4_method_1_code 5) = true := by decide +kernel
set_option maxRecDepth 100000 in
theorem ky_Searches_init : c_Searches_init.all (yOkI 9 prog_8_method_1_code 2) = true := by decide +kernel
set_option maxRecDepth 100000 in
theorem ky_Couples_init : c_Couples_init.all (yOkI 10 prog_2_method_1_code 2) = true := by decide +kernel
set_option maxRecDepth 100000 in
theorem ky_Cover_init : c_Cover_init.all (yOkI 11 prog_3_method_1_code 3) = true := by decide +kernel
set_option maxRecDepth 100000 in
theorem ky_Mo_init : (c_Mo_init.take 116).all (yOkI 12 prog_14_method_1_code 1) = true := by decide +kernel
theorem ky_Law0 : c_Law0.all (yOkI 13 code 4) = true := by decide +kernel
theorem ky_all : ∀ q ∈ yMl, q.1 = 205 ∨ ∃ cd, qMt q.1 = some (cd, q.2.2.2.1) ∧ cd.all (yOkI q.2.2.2.2.2.2.2.1 q.2.2.1 q.2.2.2.1) = true := List.forall_mem_cons.mpr ⟨Or.inr ⟨c_X_init, rfl, ky_X_init⟩, List.forall_mem_cons.mpr ⟨Or.inr ⟨c_State_init, rfl, ky_State_init⟩, List.forall_mem_cons.mpr ⟨Or.inr ⟨c_Reader_init, rfl, ky_Reader_init⟩, List.forall_mem_cons.mpr ⟨Or.inr ⟨c_Text_init, rfl, ky_Text_init⟩, List.forall_mem_cons.mpr ⟨Or.inr ⟨c_Machine_init, rfl, ky_Machine_init⟩, List.forall_mem_cons.mpr ⟨Or.inr ⟨c_Voices_init, rfl, ky_Voices_init⟩, List.forall_mem_cons.mpr ⟨Or.inr ⟨c_Meetings_init, rfl, ky_Meetings_init⟩, List.forall_mem_cons.mpr ⟨Or.inr ⟨c_Turns_init, rfl, ky_Turns_init⟩, List.forall_mem_cons.mpr ⟨Or.inr ⟨c_Gifts_init, rfl, ky_Gifts_init⟩, List.forall_mem_cons.mpr ⟨Or.inr ⟨c_Searches_init, rfl, ky_Searches_init⟩, List.forall_mem_cons.mpr ⟨Or.inr ⟨c_Couples_init, rfl, ky_Couples_init⟩, List.forall_mem_cons.mpr ⟨Or.inr ⟨c_Cover_init, rfl, ky_Cover_init⟩, List.forall_mem_cons.mpr ⟨Or.inl rfl, fun _ h => absurd h List.not_mem_nil⟩⟩⟩⟩⟩⟩⟩⟩⟩⟩⟩⟩⟩
theorem yMok : yMl.all (fun q => yMb q.2) = true := by decide +kernel
theorem yWd : zPk yOv = some (.arrayOver (.object "NumberComes$Text")) ∧ zPk yOi.1 = some (.instanceMethod Lib.objectInit) ∧ zPk yOi.2 = some (.code Lib.objectInit ⟨#[0xb1]⟩ 1 none) := ⟨rfl, rfl, rfl⟩
