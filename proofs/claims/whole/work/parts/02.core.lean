/-! A SMALL MACHINE OF MY OWN over a world of numbered cells: qEx does one instruction as a predicate transformer, qWp is the least predicate closed under it, qTree unrolls it up to cuts. The simulation (a later part) ties it to the kit's W. -/
abbrev qL : Type := List (Option Value)
/-- ints, longs, references, how many cells are made -/
abbrev qW : Type := (Nat → Nat → Int32) × (Nat → Nat → Int64) × (Nat → Nat → Option Nat) × Nat
/-- none: while the objects are made; else the script: its length, its ints -/
abbrev qG : Type := Option (Nat × (Nat → Int32))
abbrev qS : Type := Nat × qL × List Value × qW
/-- what must hold behind a method: of an int, a long, nothing, a reference -/
abbrev qQ : Type := (Int32 → qW → Prop) × (Int64 → qW → Prop) × (qW → Prop) × (Option Nat → qW → Prop)
abbrev qC : Type := Nat → List Value → qW → qQ → Prop
abbrev qQi (f : Int32 → qW → Prop) : qQ := (f, fun _ _ => False, fun _ => False, fun _ _ => False)
abbrev qQl (f : Int64 → qW → Prop) : qQ := (fun _ _ => False, f, fun _ => False, fun _ _ => False)
abbrev qQv (f : qW → Prop) : qQ := (fun _ _ => False, fun _ _ => False, f, fun _ _ => False)
abbrev qQr (f : Option Nat → qW → Prop) : qQ := (fun _ _ => False, fun _ _ => False, fun _ => False, f)
def qFt : List qI → Nat → Option qI
  | [], _ => none
  | i :: t, pc => match Nat.beq i.1 pc with
    | true => some i
    | false => qFt t pc
def qGet : qL → Nat → Option Value
  | [], _ => none
  | a :: _, 0 => a
  | _ :: t, n + 1 => qGet t n
def qSet : qL → Nat → Option Value → qL
  | [], _, _ => []
  | _ :: t, 0, v => v :: t
  | a :: t, n + 1, v => a :: qSet t n v
def qIs2 : Option Value → Bool
  | some (.long _) => true
  | some (.double _) => true
  | _ => false
def qKill (ls : qL) : Nat → qL
  | 0 => ls
  | i + 1 => match qIs2 (qGet ls i) with
    | true => qSet ls i none
    | false => ls
def qSt1 (ls : qL) (i : Nat) (v : Value) : qL := qSet (qKill ls i) i (some v)
def qSt2 (ls : qL) (i : Nat) (v : Value) : qL := qSet (qSet (qKill ls i) i (some v)) (i + 1) none
def qSetK : qL → Nat → Option Value → (qL → Prop) → Prop
  | [], _, _, K => K []
  | _ :: t, 0, v, K => K (v :: t)
  | a :: t, n + 1, v, K => qSetK t n v fun t' => K (a :: t')
def qKillK (ls : qL) (i : Nat) (K : qL → Prop) : Prop := match i with
  | 0 => K ls
  | i + 1 => match qIs2 (qGet ls i) with
    | true => qSetK ls i none K
    | false => K ls
def qSt1K (ls : qL) (i : Nat) (v : Value) (K : qL → Prop) : Prop := qKillK ls i fun l => qSetK l i (some v) K
def qSt2K (ls : qL) (i : Nat) (v : Value) (K : qL → Prop) : Prop := qKillK ls i fun l => qSetK l i (some v) fun l => qSetK l (i + 1) none K
def qFtK : List qI → Nat → (qI → Prop) → Prop
  | [], _, _ => False
  | i :: t, pc, K => match Nat.beq i.1 pc with
    | true => K i
    | false => qFtK t pc K
def qArgs : List Value → qL
  | [] => []
  | .long x :: t => some (.long x) :: none :: qArgs t
  | .double x :: t => some (.double x) :: none :: qArgs t
  | v :: t => some v :: qArgs t
def qPad (ls : qL) : Nat → qL
  | 0 => ls
  | n + 1 => match ls with
    | [] => none :: qPad [] n
    | a :: t => a :: qPad t n
def qRem (x y : Int32) : Int32 := x - x / y * y
def qRemL (x y : Int64) : Int64 := x - x / y * y
def qUshr (x y : Int32) : Int32 := (x.toUInt32 >>> (y.toUInt32 &&& Int32.toUInt32 31)).toInt32
def qShl (x y : Int32) : Int32 := x <<< (y &&& 31)
def qShr (x y : Int32) : Int32 := x >>> (y &&& 31)
def qLushr (x : Int64) (y : Int32) : Int64 := (x.toUInt64 >>> (y.toInt64.toUInt64 &&& Int64.toUInt64 63)).toInt64
def qLshl (x : Int64) (y : Int32) : Int64 := x <<< (y.toInt64 &&& 63)
def qLshr (x : Int64) (y : Int32) : Int64 := x >>> (y.toInt64 &&& 63)
def qI2c (x : Int32) : Int32 := (x.toUInt32 % 65536).toInt32

def qIn (i : Int32) (n : Nat) : Prop := vp_in i n
def qIx (i : Int32) : Nat := i.toNatClampNeg
def qZb (x : Int32) : Bool := Nat.ble x.toBitVec.toNat 1
def qPutI (w : qW) (c f : Nat) (v : Int32) : qW := (fun a b => if a = c ∧ b = f then v else w.1 a b, w.2)
def qPutL (w : qW) (c f : Nat) (v : Int64) : qW := (w.1, fun a b => if a = c ∧ b = f then v else w.2.1 a b, w.2.2)
def qPutR (w : qW) (c f : Nat) (v : Option Nat) : qW := (w.1, w.2.1, fun a b => if a = c ∧ b = f then v else w.2.2.1 a b, w.2.2.2)
def qCpI (w : qW) (s i d j n : Nat) : qW := (fun a b => if a = d ∧ j ≤ b ∧ b < j + n then w.1 s (i + (b - j)) else w.1 a b, w.2)
def qCpL (w : qW) (s i d j n : Nat) : qW := (w.1, fun a b => if a = d ∧ j ≤ b ∧ b < j + n then w.2.1 s (i + (b - j)) else w.2.1 a b, w.2.2)
def qNew (w : qW) : qW := (w.1, w.2.1, w.2.2.1, w.2.2.2 + 1)
def qCnt (w : qW) : Nat := w.2.2.2
def qB (b : Bool) (A : Prop) : Prop := match b with
  | true => A
  | false => False
def qAl (g : qG) (w : qW) (c k : Nat) : Bool := match Nat.beq (qKd c) k with
  | true => match g with
    | none => Nat.blt c (qCnt w)
    | some _ => true
  | false => false
def qMk (g : qG) (w : qW) (k : Nat) : Bool := match g with
  | none => Nat.beq (qKd (qCnt w)) k
  | some _ => false
def qRp (g : qG) (c f : Nat) : Bool := match g with
  | none => true
  | some _ => Nat.beq (Nat.add (Nat.mul 64 c) f) 1604
def q0 (au : List Nat) : Nat := match au with
  | a :: _ => a
  | [] => 0
def q1 (au : List Nat) : Nat := match au with
  | _ :: a :: _ => a
  | _ => 0
def q2 (au : List Nat) : Nat := match au with
  | _ :: _ :: a :: _ => a
  | _ => 0
def q3 (au : List Nat) : Nat := match au with
  | _ :: _ :: _ :: a :: _ => a
  | _ => 0
def qLi (ls : qL) (i : Nat) (K : Int32 → Prop) : Prop := match qGet ls i with
  | some (.int x) => K x
  | _ => False
def qLl (ls : qL) (i : Nat) (K : Int64 → Prop) : Prop := match qGet ls i with
  | some (.long x) => K x
  | _ => False
def qLa (ls : qL) (i : Nat) (K : Value → Prop) : Prop := match qGet ls i with
  | some (.ref c) => K (.ref c)
  | some .null => K .null
  | _ => False
def q1i (st : List Value) (K : Int32 → List Value → Prop) : Prop := match st with
  | .int x :: r => K x r
  | _ => False
def q1l (st : List Value) (K : Int64 → List Value → Prop) : Prop := match st with
  | .long x :: r => K x r
  | _ => False
def q1a (st : List Value) (K : Value → List Value → Prop) : Prop := match st with
  | .ref c :: r => K (.ref c) r
  | .null :: r => K .null r
  | _ => False
def q1r (st : List Value) (K : Nat → List Value → Prop) : Prop := match st with
  | .ref c :: r => K c r
  | _ => False
def q2i (st : List Value) (K : Int32 → Int32 → List Value → Prop) : Prop := match st with
  | .int y :: .int x :: r => K x y r
  | _ => False
def q2l (st : List Value) (K : Int64 → Int64 → List Value → Prop) : Prop := match st with
  | .long y :: .long x :: r => K x y r
  | _ => False
def qil (st : List Value) (K : Int64 → Int32 → List Value → Prop) : Prop := match st with
  | .int y :: .long x :: r => K x y r
  | _ => False
def qir (st : List Value) (K : Nat → Int32 → List Value → Prop) : Prop := match st with
  | .int y :: .ref x :: r => K x y r
  | _ => False
def qlr (st : List Value) (K : Nat → Int64 → List Value → Prop) : Prop := match st with
  | .long y :: .ref x :: r => K x y r
  | _ => False
def qrr (st : List Value) (K : Nat → Nat → List Value → Prop) : Prop := match st with
  | .ref y :: .ref x :: r => K x y r
  | _ => False
def qiir (st : List Value) (K : Nat → Int32 → Int32 → List Value → Prop) : Prop := match st with
  | .int z :: .int y :: .ref x :: r => K x y z r
  | _ => False
def qlir (st : List Value) (K : Nat → Int32 → Int64 → List Value → Prop) : Prop := match st with
  | .long z :: .int y :: .ref x :: r => K x y z r
  | _ => False
def qrir (st : List Value) (K : Nat → Int32 → Nat → List Value → Prop) : Prop := match st with
  | .ref z :: .int y :: .ref x :: r => K x y z r
  | _ => False
def qCpS (st : List Value) (K : Nat → Int32 → Nat → Int32 → Int32 → List Value → Prop) : Prop := match st with
  | .int n :: .int j :: .ref d :: .int i :: .ref s :: r => K s i d j n r
  | _ => False
def qRv (r : Option Nat) (K : Nat → Prop) (N : Prop) : Prop := match r with
  | some c => K c
  | none => N
def qGr (g : qG) (w : qW) (c f : Nat) (K : Nat → Prop) (N : Prop) : Prop := match g with
  | none => qRv (w.2.2.1 c f) K N
  | some _ => match Nat.beq (Nat.add (Nat.mul 64 c) f) 1604 with
    | true => ∃ t, w.2.2.1 25 4 = some t ∧ K t
    | false => qRv (qR0 c f) K N
def qGa (g : qG) (w : qW) (c f : Nat) (K : Nat → Prop) (N : Prop) : Prop := match g with
  | none => qRv (w.2.2.1 c f) K N
  | some _ => ∃ t, qR0 c f = some t ∧ K t
def qCi (c : Int) : Int32 := match c with
  | .ofNat n => Int32.ofNat n
  | .negSucc n => -(Int32.ofNat (n + 1))
def qCl (c : Int) : Int64 := match c with
  | .ofNat n => Int64.ofNat n
  | .negSucc n => -(Int64.ofNat (n + 1))
def qCmp (c : Jvm.ClassFile.Cond) (x y : Int32) (T F : Prop) : Prop := match c with
  | .eq => (x = y → T) ∧ (¬ x = y → F)
  | .ne => (¬ x = y → T) ∧ (x = y → F)
  | .lt => (x < y → T) ∧ (¬ x < y → F)
  | .ge => (y ≤ x → T) ∧ (¬ y ≤ x → F)
  | .gt => (y < x → T) ∧ (¬ y < x → F)
  | .le => (x ≤ y → T) ∧ (¬ x ≤ y → F)
def qTs (K : Nat → Prop) (x : Int32) (d : Nat) : Int → List Nat → Prop
  | _, [] => K d
  | v, t :: r => (x = qCi v → K t) ∧ (¬ x = qCi v → qTs K x d (v + 1) r)
def qLs (K : Nat → Prop) (x : Int32) (d : Nat) : List (Int × Int) → List Nat → Prop
  | (v, _) :: q, t :: r => (x = qCi v → K t) ∧ (¬ x = qCi v → qLs K x d q r)
  | [], [] => K d
  | _, _ => False
def qD1 (st : List Value) (K : Value → List Value → Prop) : Prop := match st with
  | v :: r => qB (Nat.beq v.category 1) (K v r)
  | _ => False
def qD2 (st : List Value) (K : List Value → Prop) : Prop := match st with
  | v :: r => match Nat.beq v.category 2 with
    | true => K (v :: v :: r)
    | false => match r with
      | u :: r' => qB (Nat.beq u.category 1) (K (v :: u :: v :: u :: r'))
      | [] => False
  | _ => False
def qSpl : List Value → Nat → List Value → (List Value → List Value → Prop) → Prop
  | st, 0, a, K => K a st
  | v :: r, n + 1, a, K => qSpl r n (v :: a) K
  | [], _ + 1, _, _ => False
def qRcv (g : qG) (w : qW) (k : Nat) (a : List Value) (A : Prop) : Prop := match Nat.beq k 99 with
  | true => A
  | false => match a with
    | .ref c :: _ => qB (qAl g w c k) A
    | _ => False
def qRt (X : qS → Prop) (n : Nat) (ls : qL) (r : List Value) (rt : Nat) : qQ := match rt with
  | 0 => qQi fun x w => X (n, ls, .int x :: r, w)
  | 1 => qQl fun x w => X (n, ls, .long x :: r, w)
  | 2 => qQv fun w => X (n, ls, r, w)
  | _ => qQr fun c w => (∀ t, c = some t → X (n, ls, .ref t :: r, w)) ∧ (c = none → X (n, ls, .null :: r, w))
def qCat : List Value → Nat
  | [] => 0
  | v :: r => Nat.add v.category (qCat r)
def qStr (c : Nat) : Bool := match Nat.ble 1000 c with
  | true => Nat.ble c 1015
  | false => false
def qInv (g : qG) (C : qC) (X : qS → Prop) (n : Nat) (au : List Nat) (ls : qL) (st : List Value) (w : qW) : Prop := match Nat.ble (q2 au) 3 with
  | true => qSpl st (q1 au) [] fun a r => qB (Nat.ble (qCat r) 8) (qRcv g w (q3 au) a (C (q0 au) a w (qRt X n ls r (q2 au))))
  | false => match q2 au with
    | 10 => q1r st fun _ r => X (n, ls, r, w)
    | 11 => qCpS st fun s i d j m r => qB (Nat.ble (qCat r) 8) (qB (qAl g w s 33) (qB (qAl g w d 33) ((0 ≤ i ∧ 0 ≤ j ∧ 0 ≤ m ∧ qIx i + qIx m ≤ qLn s ∧ qIx j + qIx m ≤ qLn d ∧ ¬ s = d) ∧ X (n, ls, r, qCpI w s (qIx i) d (qIx j) (qIx m)))))
    | 12 => qCpS st fun s i d j m r => qB (Nat.ble (qCat r) 8) (qB (qAl g w s 35) (qB (qAl g w d 35) ((0 ≤ i ∧ 0 ≤ j ∧ 0 ≤ m ∧ qIx i + qIx m ≤ qLn s ∧ qIx j + qIx m ≤ qLn d ∧ ¬ s = d) ∧ X (n, ls, r, qCpL w s (qIx i) d (qIx j) (qIx m)))))
    | 13 => q1r st fun c r => qB (Nat.ble (qCat r) 8) (qB (qStr c) (X (n, ls, .int (Int32.ofNat (qSt (c - 1000)).length) :: r, w)))
    | 14 => qir st fun c i r => qB (Nat.ble (qCat r) 8) (qB (qStr c) (qIn i (qSt (c - 1000)).length ∧ X (n, ls, .int (Int32.ofNat ((qSt (c - 1000)).getD (qIx i) 0)) :: r, w)))
    | 15 => qir st fun c i r => qB (Nat.ble (qCat r) 8) (qB (qStr c) (X (n, ls, .int (qIof (qSt (c - 1000)) i 0) :: r, w)))
    | _ => False
def qAld (g : qG) (w : qW) (c : Nat) (i : Int32) (A : Int32 → Prop) : Prop := match Nat.beq c 0 with
  | true => match g with
    | some s => qIn i s.1 ∧ A (s.2 (qIx i))
    | none => False
  | false => qB (qAl g w c 33) (qIn i (qLn c) ∧ A (w.1 c (qIx i)))
def qAln (g : qG) (w : qW) (c : Nat) (A : Int32 → Prop) : Prop := match Nat.beq c 0 with
  | true => match g with
    | some s => A (Int32.ofNat s.1)
    | none => False
  | false => qB (match Nat.ble 33 (qKd c) with
    | true => qAl g w c (qKd c)
    | false => false) (A (Int32.ofNat (qLn c)))
def qAst (g : qG) (w : qW) (c : Nat) (i : Int32) (A : Nat → Prop) (k : Nat) : Prop := qB (qAl g w c k) (qIn i (qLn c) ∧ A (qIx i))
/-- one instruction: what must hold ahead of it -/
def qEx (g : qG) (C : qC) (Q : qQ) (X : qS → Prop) (n : Nat) (ins : Instr) (au : List Nat) (cs : Int) (ls : qL) (st : List Value) (w : qW) : Prop :=
  match ins with
  | .iconst _ => X (n, ls, .int (qCi cs) :: st, w)
  | .bipush _ => X (n, ls, .int (qCi cs) :: st, w)
  | .sipush _ => X (n, ls, .int (qCi cs) :: st, w)
  | .lconst _ => X (n, ls, .long (qCl cs) :: st, w)
  | .ldc2_w _ => X (n, ls, .long (qCl cs) :: st, w)
  | .ldc _ => match au with
    | [] => X (n, ls, .int (qCi cs) :: st, w)
    | c :: _ => X (n, ls, .ref c :: st, w)
  | .ldc_w _ => match au with
    | [] => X (n, ls, .int (qCi cs) :: st, w)
    | c :: _ => X (n, ls, .ref c :: st, w)
  | .aconst_null => X (n, ls, .null :: st, w)
  | .iload _ => qLi ls (q0 au) fun x => X (n, ls, .int x :: st, w)
  | .iload_n _ => qLi ls (q0 au) fun x => X (n, ls, .int x :: st, w)
  | .lload _ => qLl ls (q0 au) fun x => X (n, ls, .long x :: st, w)
  | .lload_n _ => qLl ls (q0 au) fun x => X (n, ls, .long x :: st, w)
  | .aload _ => qLa ls (q0 au) fun x => X (n, ls, x :: st, w)
  | .aload_n _ => qLa ls (q0 au) fun x => X (n, ls, x :: st, w)
  | .istore _ => q1i st fun x r => qSt1K ls (q0 au) (.int x) fun l => X (n, l, r, w)
  | .istore_n _ => q1i st fun x r => qSt1K ls (q0 au) (.int x) fun l => X (n, l, r, w)
  | .lstore _ => q1l st fun x r => qSt2K ls (q0 au) (.long x) fun l => X (n, l, r, w)
  | .lstore_n _ => q1l st fun x r => qSt2K ls (q0 au) (.long x) fun l => X (n, l, r, w)
  | .astore _ => q1a st fun x r => qSt1K ls (q0 au) x fun l => X (n, l, r, w)
  | .astore_n _ => q1a st fun x r => qSt1K ls (q0 au) x fun l => X (n, l, r, w)
  | .iinc _ _ => qLi ls (q0 au) fun x => qSt1K ls (q0 au) (.int (x + qCi cs)) fun l => X (n, l, st, w)
  | .iadd => q2i st fun x y r => X (n, ls, .int (x + y) :: r, w)
  | .isub => q2i st fun x y r => X (n, ls, .int (x - y) :: r, w)
  | .imul => q2i st fun x y r => X (n, ls, .int (x * y) :: r, w)
  | .iand => q2i st fun x y r => X (n, ls, .int (x &&& y) :: r, w)
  | .ior => q2i st fun x y r => X (n, ls, .int (x ||| y) :: r, w)
  | .ixor => q2i st fun x y r => X (n, ls, .int (x ^^^ y) :: r, w)
  | .idiv => q2i st fun x y r => ¬ y = 0 ∧ X (n, ls, .int (x / y) :: r, w)
  | .irem => q2i st fun x y r => ¬ y = 0 ∧ X (n, ls, .int (qRem x y) :: r, w)
  | .ishl => q2i st fun x y r => X (n, ls, .int (qShl x y) :: r, w)
  | .ishr => q2i st fun x y r => X (n, ls, .int (qShr x y) :: r, w)
  | .iushr => q2i st fun x y r => X (n, ls, .int (qUshr x y) :: r, w)
  | .ineg => q1i st fun x r => X (n, ls, .int (-x) :: r, w)
  | .ladd => q2l st fun x y r => X (n, ls, .long (x + y) :: r, w)
  | .lsub => q2l st fun x y r => X (n, ls, .long (x - y) :: r, w)
  | .lmul => q2l st fun x y r => X (n, ls, .long (x * y) :: r, w)
  | .land => q2l st fun x y r => X (n, ls, .long (x &&& y) :: r, w)
  | .lor => q2l st fun x y r => X (n, ls, .long (x ||| y) :: r, w)
  | .lxor => q2l st fun x y r => X (n, ls, .long (x ^^^ y) :: r, w)
  | .ldiv => q2l st fun x y r => ¬ y = 0 ∧ X (n, ls, .long (x / y) :: r, w)
  | .lrem => q2l st fun x y r => ¬ y = 0 ∧ X (n, ls, .long (qRemL x y) :: r, w)
  | .lshl => qil st fun x y r => X (n, ls, .long (qLshl x y) :: r, w)
  | .lshr => qil st fun x y r => X (n, ls, .long (qLshr x y) :: r, w)
  | .lushr => qil st fun x y r => X (n, ls, .long (qLushr x y) :: r, w)
  | .lneg => q1l st fun x r => X (n, ls, .long (-x) :: r, w)
  | .i2l => q1i st fun x r => X (n, ls, .long x.toInt64 :: r, w)
  | .l2i => q1l st fun x r => X (n, ls, .int x.toInt32 :: r, w)
  | .i2c => q1i st fun x r => X (n, ls, .int (qI2c x) :: r, w)
  | .lcmp => q2l st fun x y r => X (n, ls, .int (lg_cmp x y) :: r, w)
  | .dup => qD1 st fun v r => X (n, ls, v :: v :: r, w)
  | .pop => qD1 st fun _ r => X (n, ls, r, w)
  | .dup2 => qD2 st fun r => X (n, ls, r, w)
  | .goto _ => X (q0 au, ls, st, w)
  | .if_icmp c _ => q2i st fun x y r => qCmp c x y (X (q0 au, ls, r, w)) (X (n, ls, r, w))
  | .ifCond c _ => q1i st fun x r => qCmp c x 0 (X (q0 au, ls, r, w)) (X (n, ls, r, w))
  | .ifnull _ => match st with
    | .ref _ :: r => X (n, ls, r, w)
    | .null :: r => X (q0 au, ls, r, w)
    | _ => False
  | .tableswitch _ _ _ _ => q1i st fun x r => match au with
    | d :: ts => qTs (fun t => X (t, ls, r, w)) x d cs ts
    | [] => False
  | .lookupswitch _ ps => q1i st fun x r => match au with
    | d :: ts => qLs (fun t => X (t, ls, r, w)) x d ps.toList ts
    | [] => False
  | .getfield _ => q1r st fun c r => qB (qAl g w c (q0 au)) (match q2 au with
    | 2 => X (n, ls, .long (w.2.1 c (q1 au)) :: r, w)
    | 3 => qGr g w c (q1 au) (fun d => X (n, ls, .ref d :: r, w)) (X (n, ls, .null :: r, w))
    | _ => X (n, ls, .int (w.1 c (q1 au)) :: r, w))
  | .putfield _ => match q2 au with
    | 0 => qir st fun c v r => qB (qAl g w c (q0 au)) (X (n, ls, r, qPutI w c (q1 au) v))
    | 1 => qir st fun c v r => qB (qAl g w c (q0 au)) (qB (qZb v) (X (n, ls, r, qPutI w c (q1 au) v)))
    | 2 => qlr st fun c v r => qB (qAl g w c (q0 au)) (X (n, ls, r, qPutL w c (q1 au) v))
    | _ => qrr st fun c v r => qB (qAl g w c (q0 au)) (qB (qRp g c (q1 au)) (X (n, ls, r, qPutR w c (q1 au) (some v))))
  | .iaload => qir st fun c i r => qAld g w c i (fun x => X (n, ls, .int x :: r, w))
  | .baload => qir st fun c i r => qAst g w c i (fun j => X (n, ls, .int (w.1 c j) :: r, w)) 34
  | .laload => qir st fun c i r => qAst g w c i (fun j => X (n, ls, .long (w.2.1 c j) :: r, w)) 35
  | .aaload => qir st fun c i r => qAst g w c i (fun j => qGa g w c j (fun d => X (n, ls, .ref d :: r, w)) (X (n, ls, .null :: r, w))) 36
  | .iastore => qiir st fun c i v r => qAst g w c i (fun j => X (n, ls, r, qPutI w c j v)) 33
  | .bastore => qiir st fun c i v r => qAst g w c i (fun j => qB (qZb v) (X (n, ls, r, qPutI w c j v))) 34
  | .lastore => qlir st fun c i v r => qAst g w c i (fun j => X (n, ls, r, qPutL w c j v)) 35
  | .aastore => qrir st fun c i v r => qB (qAl g w v 4) (qB (qRp g c 0) (qAst g w c i (fun j => X (n, ls, r, qPutR w c j (some v))) 36))
  | .arraylength => q1r st fun c r => qAln g w c fun x => X (n, ls, .int x :: r, w)
  | .new _ => qB (qMk g w (q0 au)) (X (n, ls, .ref (qCnt w) :: st, qNew w))
  | .newarray _ => q1i st fun x r => qB (qMk g w (q0 au)) (x = Int32.ofNat (qLn (qCnt w)) ∧ X (n, ls, .ref (qCnt w) :: r, qNew w))
  | .anewarray _ => q1i st fun x r => qB (qMk g w 36) (x = Int32.ofNat (qLn (qCnt w)) ∧ X (n, ls, .ref (qCnt w) :: r, qNew w))
  | .invokevirtual _ => qInv g C X n au ls st w
  | .invokespecial _ => qInv g C X n au ls st w
  | .invokestatic _ => qInv g C X n au ls st w
  | .ireturn => match st with
    | [.int x] => match q0 au with
      | 0 => Q.1 x w
      | _ => qB (qZb x) (Q.1 x w)
    | _ => False
  | .lreturn => match st with
    | [.long x] => Q.2.1 x w
    | _ => False
  | .areturn => match st with
    | [.ref c] => Q.2.2.2 (some c) w
    | [.null] => Q.2.2.2 none w
    | _ => False
  | .return_ => match st with
    | [] => Q.2.2.1 w
    | _ => False
  | _ => False
def qP (g : qG) (C : qC) (cd : List qI) (Q : qQ) (X : qS → Prop) (s : qS) : Prop := qFtK cd s.1 fun i => qEx g C Q X i.2.2.1 i.2.1 i.2.2.2.1 i.2.2.2.2 s.2.1 s.2.2.1 s.2.2.2
def qWp (g : qG) (C : qC) (cd : List qI) (Q : qQ) (s : qS) : Prop := ∀ X : qS → Prop, (∀ s, qP g C cd Q X s → X s) → X s
def qMem (n : Nat) : List (Nat × List Bool) → Option (List Bool)
  | [] => none
  | a :: t => match Nat.beq a.1 n with
    | true => some a.2
    | false => qMem n t
def qMsk : List Bool → qL → qL
  | true :: m, a :: t => a :: qMsk m t
  | false :: m, _ :: t => none :: qMsk m t
  | [], _ :: t => none :: qMsk [] t
  | _, [] => []
/-- the code from a pc on -/
def qDrK : List qI → Nat → (qI → List qI → Prop) → Prop
  | [], _, _ => False
  | i :: t, pc, K => match Nat.beq i.1 pc with
    | true => K i t
    | false => qDrK t pc K
def qHtK (cd : List qI) (suf : List qI) (pc : Nat) (K : qI → List qI → Prop) : Prop := match suf with
  | [] => qDrK cd pc K
  | i :: t => match Nat.beq i.1 pc with
    | true => K i t
    | false => qDrK cd pc K
def qTree (g : qG) (C : qC) (cd : List qI) (Q : qQ) (cuts : List (Nat × List Bool)) : Nat → List qI → qS → Prop
  | 0, _, _ => False
  | k + 1, suf, s => qHtK cd suf s.1 fun i t => qEx g C Q (fun s' => match qMem s'.1 cuts with
    | some m => qWp g C cd Q (s'.1, qMsk m s'.2.1, s'.2.2)
    | none => qTree g C cd Q cuts k t s') i.2.2.1 i.2.1 i.2.2.2.1 i.2.2.2.2 s.2.1 s.2.2.1 s.2.2.2
/-- the pcs rise -/
def qUp : List qI → Bool
  | [] => true
  | i :: t => match t with
    | [] => true
    | j :: _ => match Nat.blt i.1 j.1 with
      | true => qUp t
      | false => false
