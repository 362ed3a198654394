/-! The pieces of the class (and of what it calls of the JDK), from cut to cut: by a program of mine. -/
set_option maxRecDepth 100000 in
theorem A_X_person {s : Nat × (Nat → Int32)} {d : Nat} {w : qW} {Q : Int32 → qW → Prop} {i1 : Int32} {i2 : Int32} (h :
  qCall (some s) d 14 [.ref 2, .int i1, .int i2] w (qQi fun x2 w1 =>
    (x2 = (-1 : Int32) →
      Q x2 w1) ∧
    (¬ x2 = (-1 : Int32) →
      qCall (some s) d 17 [.ref 50, .int x2] w1 (qQv fun w3 =>
        Q x2 w3)))) :
  qCall (some s) (d + 1) 13 [.ref 1, .int i1, .int i2] w (qQi Q) := qCall_of (cd := c_X_person) (mL := 4) rfl u_X_person [] 16 h

set_option maxRecDepth 100000 in
theorem A_State_addPerson {s : Nat × (Nat → Int32)} {d : Nat} {w : qW} {Q : Int32 → qW → Prop} {i1 : Int32} {i2 : Int32} (h :
  qCall (some s) d 15 [.int i1] w (qQi fun x2 w1 =>
    (x2 = 0 →
      Q (-1 : Int32) w1) ∧
    (¬ x2 = 0 →
      qCall (some s) d 16 [.int i2] w1 (qQi fun x4 w3 =>
        (x4 = 0 →
          Q (-1 : Int32) w3) ∧
        (¬ x4 = 0 →
          ((w.1 2 0) < 0 →
            Q (-1 : Int32) w3) ∧
          (¬ (w.1 2 0) < 0 →
            ((w.1 2 0) < (12 : Int32) →
              qIn (w.1 2 0) 12 ∧
              (qIn (w.1 2 0) 12 ∧
              (qIn (w.1 2 0) 12 ∧
              (Q (w.1 2 0) (qPutI (qPutI (qPutI (qPutI w3 3 (qIx (w.1 2 0)) i1) 4 (qIx (w.1 2 0)) i2) 5 (qIx (w.1 2 0)) (0 : Int32)) 2 0 ((w3.1 2 0) + (1 : Int32))))))) ∧
            (¬ (w.1 2 0) < (12 : Int32) →
              Q (-1 : Int32) w3))))))) :
  qCall (some s) (d + 1) 14 [.ref 2, .int i1, .int i2] w (qQi Q) := qCall_of (cd := c_State_addPerson) (mL := 4) rfl u_State_addPerson [] 38 h

set_option maxRecDepth 100000 in
theorem A_X_isNumber {s : Nat × (Nat → Int32)} {d : Nat} {w : qW} {Q : Int32 → qW → Prop} {i0 : Int32} (h :
  (i0 < (1 : Int32) →
    Q (0 : Int32) w) ∧
  (¬ i0 < (1 : Int32) →
    ((9999 : Int32) < i0 →
      Q (0 : Int32) w) ∧
    (¬ (9999 : Int32) < i0 →
      Q (1 : Int32) w))) :
  qCall (some s) (d + 1) 15 [.int i0] w (qQi Q) := qCall_of (cd := c_X_isNumber) (mL := 1) rfl u_X_isNumber [] 10 h

set_option maxRecDepth 100000 in
theorem A_X_isFirst {s : Nat × (Nat → Int32)} {d : Nat} {w : qW} {Q : Int32 → qW → Prop} {i0 : Int32} (h :
  (i0 < 0 →
    Q (0 : Int32) w) ∧
  (¬ i0 < 0 →
    ((9999 : Int32) < i0 →
      Q (0 : Int32) w) ∧
    (¬ (9999 : Int32) < i0 →
      Q (1 : Int32) w))) :
  qCall (some s) (d + 1) 16 [.int i0] w (qQi Q) := qCall_of (cd := c_X_isFirst) (mL := 1) rfl u_X_isFirst [] 9 h

set_option maxRecDepth 100000 in
theorem A_Voices_openFor {s : Nat × (Nat → Int32)} {d : Nat} {w : qW} {Q : qW → Prop} {i1 : Int32} (h :
  qCall (some s) d 18 [.ref 50] w (qQr fun c2 w1 =>
    (∀ u3, c2 = some u3 →
    qB (qAl (some s) w1 u3 4) (((w1.1 u3 1) ≤ 0 →
      qAt s d c_Voices_openFor (qQv Q) 25 [some (.ref 50), some (.int i1), some (.ref u3), some (.int (0 : Int32)), some (.int (0 : Int32)), none] [] w1) ∧
    (¬ (w1.1 u3 1) ≤ 0 →
      qAt s d c_Voices_openFor (qQv Q) 25 [some (.ref 50), some (.int i1), some (.ref u3), some (.int (1 : Int32)), some (.int (0 : Int32)), none] [] w1))) ∧
    (c2 = none →
    qAt s d c_Voices_openFor (qQv Q) 25 [some (.ref 50), some (.int i1), some (.null), some (.int (0 : Int32)), some (.int (0 : Int32)), none] [] w1))) :
  qCall (some s) (d + 1) 17 [.ref 50, .int i1] w (qQv Q) := qCall_of (cd := c_Voices_openFor) (mL := 6) rfl u_Voices_openFor [(25, [true, true, true, true, true, false]), (57, [true, true, true, true, true, false])] 15 h
set_option maxRecDepth 100000 in
theorem A_Voices_openFor_25 {s : Nat × (Nat → Int32)} {d : Nat} {w : qW} {Q : qW → Prop} {i1 : Int32} {t2 : Nat} {i3 : Int32} {i4 : Int32} (h :
  ((w.1 2 5) ≤ i4 →
    Q w) ∧
  (¬ (w.1 2 5) ≤ i4 →
    (i3 = 0 →
      qAt s d c_Voices_openFor (qQv Q) 57 [some (.ref 50), some (.int i1), some (.ref t2), some (.int i3), some (.int i4), none] [.int (0 : Int32)] w) ∧
    (¬ i3 = 0 →
      qCall (some s) d 19 [.ref 50, .ref t2, .int i1, .int i4] w (qQi fun x2 w1 =>
        (x2 = 0 →
          qAt s d c_Voices_openFor (qQv Q) 57 [some (.ref 50), some (.int i1), some (.ref t2), some (.int i3), some (.int i4), none] [.int (0 : Int32)] w1) ∧
        (¬ x2 = 0 →
          qAt s d c_Voices_openFor (qQv Q) 57 [some (.ref 50), some (.int i1), some (.ref t2), some (.int i3), some (.int i4), none] [.int (1 : Int32)] w1))))) :
  qAt s d c_Voices_openFor (qQv Q) 25 [some (.ref 50), some (.int i1), some (.ref t2), some (.int i3), some (.int i4), none] [] w := qAt_of u_Voices_openFor [(25, [true, true, true, true, true, false]), (57, [true, true, true, true, true, false])] 17 h
set_option maxRecDepth 100000 in
theorem A_Voices_openFor_25b {s : Nat × (Nat → Int32)} {d : Nat} {w : qW} {Q : qW → Prop} {i1 : Int32} {i3 : Int32} {i4 : Int32} (h :
  ((w.1 2 5) ≤ i4 →
    Q w) ∧
  (¬ (w.1 2 5) ≤ i4 →
    (i3 = 0 →
      qAt s d c_Voices_openFor (qQv Q) 57 [some (.ref 50), some (.int i1), some (.null), some (.int i3), some (.int i4), none] [.int (0 : Int32)] w) ∧
    (¬ i3 = 0 →
      qCall (some s) d 19 [.ref 50, .null, .int i1, .int i4] w (qQi fun x2 w1 =>
        (x2 = 0 →
          qAt s d c_Voices_openFor (qQv Q) 57 [some (.ref 50), some (.int i1), some (.null), some (.int i3), some (.int i4), none] [.int (0 : Int32)] w1) ∧
        (¬ x2 = 0 →
          qAt s d c_Voices_openFor (qQv Q) 57 [some (.ref 50), some (.int i1), some (.null), some (.int i3), some (.int i4), none] [.int (1 : Int32)] w1))))) :
  qAt s d c_Voices_openFor (qQv Q) 25 [some (.ref 50), some (.int i1), some (.null), some (.int i3), some (.int i4), none] [] w := qAt_of u_Voices_openFor [(25, [true, true, true, true, true, false]), (57, [true, true, true, true, true, false])] 17 h
set_option maxRecDepth 100000 in
theorem A_Voices_openFor_57 {s : Nat × (Nat → Int32)} {d : Nat} {w : qW} {Q : qW → Prop} {i1 : Int32} {t2 : Nat} {i3 : Int32} {i4 : Int32} {is0 : Int32} (h :
  (is0 = 0 →
    qIn i4 60 ∧
    (qIn i4 60 ∧
    (qAt s d c_Voices_openFor (qQv Q) 25 [some (.ref 50), some (.int i1), some (.ref t2), some (.int i3), some (.int (i4 + (1 : Int32))), none] [] (qPutI w 51 (qIx i4) ((w.1 51 (qIx i4)) ||| (qShl (1 : Int32) i1)))))) ∧
  (¬ is0 = 0 →
    qIn i4 60 ∧
    (qIn i4 60 ∧
    (qAt s d c_Voices_openFor (qQv Q) 25 [some (.ref 50), some (.int i1), some (.ref t2), some (.int i3), some (.int (i4 + (1 : Int32))), none] [] (qPutI w 51 (qIx i4) ((w.1 51 (qIx i4)) &&& ((qShl (1 : Int32) i1) ^^^ (-1 : Int32)))))))) :
  qAt s d c_Voices_openFor (qQv Q) 57 [some (.ref 50), some (.int i1), some (.ref t2), some (.int i3), some (.int i4), none] [.int is0] w := qAt_of u_Voices_openFor [(25, [true, true, true, true, true, false]), (57, [true, true, true, true, true, false])] 22 h
set_option maxRecDepth 100000 in
theorem A_Voices_openFor_57b {s : Nat × (Nat → Int32)} {d : Nat} {w : qW} {Q : qW → Prop} {i1 : Int32} {i3 : Int32} {i4 : Int32} {is0 : Int32} (h :
  (is0 = 0 →
    qIn i4 60 ∧
    (qIn i4 60 ∧
    (qAt s d c_Voices_openFor (qQv Q) 25 [some (.ref 50), some (.int i1), some (.null), some (.int i3), some (.int (i4 + (1 : Int32))), none] [] (qPutI w 51 (qIx i4) ((w.1 51 (qIx i4)) ||| (qShl (1 : Int32) i1)))))) ∧
  (¬ is0 = 0 →
    qIn i4 60 ∧
    (qIn i4 60 ∧
    (qAt s d c_Voices_openFor (qQv Q) 25 [some (.ref 50), some (.int i1), some (.null), some (.int i3), some (.int (i4 + (1 : Int32))), none] [] (qPutI w 51 (qIx i4) ((w.1 51 (qIx i4)) &&& ((qShl (1 : Int32) i1) ^^^ (-1 : Int32)))))))) :
  qAt s d c_Voices_openFor (qQv Q) 57 [some (.ref 50), some (.int i1), some (.null), some (.int i3), some (.int i4), none] [.int is0] w := qAt_of u_Voices_openFor [(25, [true, true, true, true, true, false]), (57, [true, true, true, true, true, false])] 22 h

set_option maxRecDepth 100000 in
theorem A_Voices_rulingText {s : Nat × (Nat → Int32)} {d : Nat} {w : qW} {Q : Option Nat → qW → Prop}  (h :
  ((w.1 2 7) < 0 →
    Q none w) ∧
  (¬ (w.1 2 7) < 0 →
    ((w.1 2 6) ≤ (w.1 2 7) →
      Q none w) ∧
    (¬ (w.1 2 6) ≤ (w.1 2 7) →
      ((4 : Int32) ≤ (w.1 2 7) →
        Q none w) ∧
      (¬ (4 : Int32) ≤ (w.1 2 7) →
        qIn (w.1 2 7) 4 ∧ ∃ u1, qR0 24 (qIx (w.1 2 7)) = some u1 ∧
        (Q (some u1) w))))) :
  qCall (some s) (d + 1) 18 [.ref 50] w (qQr Q) := qCall_of (cd := c_Voices_rulingText) (mL := 2) rfl u_Voices_rulingText [] 21 h

set_option maxRecDepth 100000 in
theorem A_Voices_isShut_27 {s : Nat × (Nat → Int32)} {d : Nat} {w : qW} {Q : Int32 → qW → Prop} {i2 : Int32} {i3 : Int32} (h :
  qIn (0 : Int32) 7 ∧
  (qIn i2 12 ∧
  (qIn (1 : Int32) 7 ∧
  (qIn i2 12 ∧
  (qIn (2 : Int32) 7 ∧
  (qIn (3 : Int32) 7 ∧
  (qAt s d c_Voices_isShut (qQi Q) 59 [some (.ref 50), some (.ref 27), none, none, some (.int (0 : Int32))] [] (qPutI (qPutI (qPutI (qPutI w 48 (qIx (0 : Int32)) i3) 48 (qIx (1 : Int32)) (w.1 3 (qIx i2))) 48 (qIx (2 : Int32)) (w.1 4 (qIx i2))) 48 (qIx (3 : Int32)) i2)))))))) :
  qCall (some s) (d + 1) 19 [.ref 50, .ref 27, .int i2, .int i3] w (qQi Q) := qCall_of (cd := c_Voices_isShut) (mL := 5) rfl u_Voices_isShut [(59, [true, true, false, false, true])] 36 h
set_option maxRecDepth 100000 in
theorem A_Voices_isShut_27_59 {s : Nat × (Nat → Int32)} {d : Nat} {w : qW} {Q : Int32 → qW → Prop} {i4 : Int32} (h :
  ((w.1 27 0) ≤ i4 →
    Q (0 : Int32) w) ∧
  (¬ (w.1 27 0) ≤ i4 →
    qIn i4 24 ∧
    ((¬ (w.1 28 (qIx i4)) = (1 : Int32) →
      qAt s d c_Voices_isShut (qQi Q) 59 [some (.ref 50), some (.ref 27), none, none, some (.int (i4 + (1 : Int32)))] [] w) ∧
    ((w.1 28 (qIx i4)) = (1 : Int32) →
      qIn i4 24 ∧
      (qIn i4 24 ∧
      (qCall (some s) d 20 [.ref 47, .ref 27, .int (w.1 29 (qIx i4)), .int (w.1 30 (qIx i4))] w (qQi fun x2 w1 =>
        (x2 = 0 →
          qAt s d c_Voices_isShut (qQi Q) 59 [some (.ref 50), some (.ref 27), none, none, some (.int (i4 + (1 : Int32)))] [] w1) ∧
        (¬ x2 = 0 →
          Q (1 : Int32) w1)))))))) :
  qAt s d c_Voices_isShut (qQi Q) 59 [some (.ref 50), some (.ref 27), none, none, some (.int i4)] [] w := qAt_of u_Voices_isShut [(59, [true, true, false, false, true])] 27 h

set_option maxRecDepth 100000 in
theorem A_Voices_isShut_32 {s : Nat × (Nat → Int32)} {d : Nat} {w : qW} {Q : Int32 → qW → Prop} {i2 : Int32} {i3 : Int32} (h :
  qIn (0 : Int32) 7 ∧
  (qIn i2 12 ∧
  (qIn (1 : Int32) 7 ∧
  (qIn i2 12 ∧
  (qIn (2 : Int32) 7 ∧
  (qIn (3 : Int32) 7 ∧
  (qAt s d c_Voices_isShut (qQi Q) 59 [some (.ref 50), some (.ref 32), none, none, some (.int (0 : Int32))] [] (qPutI (qPutI (qPutI (qPutI w 48 (qIx (0 : Int32)) i3) 48 (qIx (1 : Int32)) (w.1 3 (qIx i2))) 48 (qIx (2 : Int32)) (w.1 4 (qIx i2))) 48 (qIx (3 : Int32)) i2)))))))) :
  qCall (some s) (d + 1) 19 [.ref 50, .ref 32, .int i2, .int i3] w (qQi Q) := qCall_of (cd := c_Voices_isShut) (mL := 5) rfl u_Voices_isShut [(59, [true, true, false, false, true])] 36 h
set_option maxRecDepth 100000 in
theorem A_Voices_isShut_32_59 {s : Nat × (Nat → Int32)} {d : Nat} {w : qW} {Q : Int32 → qW → Prop} {i4 : Int32} (h :
  ((w.1 32 0) ≤ i4 →
    Q (0 : Int32) w) ∧
  (¬ (w.1 32 0) ≤ i4 →
    qIn i4 24 ∧
    ((¬ (w.1 33 (qIx i4)) = (1 : Int32) →
      qAt s d c_Voices_isShut (qQi Q) 59 [some (.ref 50), some (.ref 32), none, none, some (.int (i4 + (1 : Int32)))] [] w) ∧
    ((w.1 33 (qIx i4)) = (1 : Int32) →
      qIn i4 24 ∧
      (qIn i4 24 ∧
      (qCall (some s) d 20 [.ref 47, .ref 32, .int (w.1 34 (qIx i4)), .int (w.1 35 (qIx i4))] w (qQi fun x2 w1 =>
        (x2 = 0 →
          qAt s d c_Voices_isShut (qQi Q) 59 [some (.ref 50), some (.ref 32), none, none, some (.int (i4 + (1 : Int32)))] [] w1) ∧
        (¬ x2 = 0 →
          Q (1 : Int32) w1)))))))) :
  qAt s d c_Voices_isShut (qQi Q) 59 [some (.ref 50), some (.ref 32), none, none, some (.int i4)] [] w := qAt_of u_Voices_isShut [(59, [true, true, false, false, true])] 27 h

set_option maxRecDepth 100000 in
theorem A_Voices_isShut_37 {s : Nat × (Nat → Int32)} {d : Nat} {w : qW} {Q : Int32 → qW → Prop} {i2 : Int32} {i3 : Int32} (h :
  qIn (0 : Int32) 7 ∧
  (qIn i2 12 ∧
  (qIn (1 : Int32) 7 ∧
  (qIn i2 12 ∧
  (qIn (2 : Int32) 7 ∧
  (qIn (3 : Int32) 7 ∧
  (qAt s d c_Voices_isShut (qQi Q) 59 [some (.ref 50), some (.ref 37), none, none, some (.int (0 : Int32))] [] (qPutI (qPutI (qPutI (qPutI w 48 (qIx (0 : Int32)) i3) 48 (qIx (1 : Int32)) (w.1 3 (qIx i2))) 48 (qIx (2 : Int32)) (w.1 4 (qIx i2))) 48 (qIx (3 : Int32)) i2)))))))) :
  qCall (some s) (d + 1) 19 [.ref 50, .ref 37, .int i2, .int i3] w (qQi Q) := qCall_of (cd := c_Voices_isShut) (mL := 5) rfl u_Voices_isShut [(59, [true, true, false, false, true])] 36 h
set_option maxRecDepth 100000 in
theorem A_Voices_isShut_37_59 {s : Nat × (Nat → Int32)} {d : Nat} {w : qW} {Q : Int32 → qW → Prop} {i4 : Int32} (h :
  ((w.1 37 0) ≤ i4 →
    Q (0 : Int32) w) ∧
  (¬ (w.1 37 0) ≤ i4 →
    qIn i4 24 ∧
    ((¬ (w.1 38 (qIx i4)) = (1 : Int32) →
      qAt s d c_Voices_isShut (qQi Q) 59 [some (.ref 50), some (.ref 37), none, none, some (.int (i4 + (1 : Int32)))] [] w) ∧
    ((w.1 38 (qIx i4)) = (1 : Int32) →
      qIn i4 24 ∧
      (qIn i4 24 ∧
      (qCall (some s) d 20 [.ref 47, .ref 37, .int (w.1 39 (qIx i4)), .int (w.1 40 (qIx i4))] w (qQi fun x2 w1 =>
        (x2 = 0 →
          qAt s d c_Voices_isShut (qQi Q) 59 [some (.ref 50), some (.ref 37), none, none, some (.int (i4 + (1 : Int32)))] [] w1) ∧
        (¬ x2 = 0 →
          Q (1 : Int32) w1)))))))) :
  qAt s d c_Voices_isShut (qQi Q) 59 [some (.ref 50), some (.ref 37), none, none, some (.int i4)] [] w := qAt_of u_Voices_isShut [(59, [true, true, false, false, true])] 27 h

set_option maxRecDepth 100000 in
theorem A_Voices_isShut_42 {s : Nat × (Nat → Int32)} {d : Nat} {w : qW} {Q : Int32 → qW → Prop} {i2 : Int32} {i3 : Int32} (h :
  qIn (0 : Int32) 7 ∧
  (qIn i2 12 ∧
  (qIn (1 : Int32) 7 ∧
  (qIn i2 12 ∧
  (qIn (2 : Int32) 7 ∧
  (qIn (3 : Int32) 7 ∧
  (qAt s d c_Voices_isShut (qQi Q) 59 [some (.ref 50), some (.ref 42), none, none, some (.int (0 : Int32))] [] (qPutI (qPutI (qPutI (qPutI w 48 (qIx (0 : Int32)) i3) 48 (qIx (1 : Int32)) (w.1 3 (qIx i2))) 48 (qIx (2 : Int32)) (w.1 4 (qIx i2))) 48 (qIx (3 : Int32)) i2)))))))) :
  qCall (some s) (d + 1) 19 [.ref 50, .ref 42, .int i2, .int i3] w (qQi Q) := qCall_of (cd := c_Voices_isShut) (mL := 5) rfl u_Voices_isShut [(59, [true, true, false, false, true])] 36 h
set_option maxRecDepth 100000 in
theorem A_Voices_isShut_42_59 {s : Nat × (Nat → Int32)} {d : Nat} {w : qW} {Q : Int32 → qW → Prop} {i4 : Int32} (h :
  ((w.1 42 0) ≤ i4 →
    Q (0 : Int32) w) ∧
  (¬ (w.1 42 0) ≤ i4 →
    qIn i4 24 ∧
    ((¬ (w.1 43 (qIx i4)) = (1 : Int32) →
      qAt s d c_Voices_isShut (qQi Q) 59 [some (.ref 50), some (.ref 42), none, none, some (.int (i4 + (1 : Int32)))] [] w) ∧
    ((w.1 43 (qIx i4)) = (1 : Int32) →
      qIn i4 24 ∧
      (qIn i4 24 ∧
      (qCall (some s) d 20 [.ref 47, .ref 42, .int (w.1 44 (qIx i4)), .int (w.1 45 (qIx i4))] w (qQi fun x2 w1 =>
        (x2 = 0 →
          qAt s d c_Voices_isShut (qQi Q) 59 [some (.ref 50), some (.ref 42), none, none, some (.int (i4 + (1 : Int32)))] [] w1) ∧
        (¬ x2 = 0 →
          Q (1 : Int32) w1)))))))) :
  qAt s d c_Voices_isShut (qQi Q) 59 [some (.ref 50), some (.ref 42), none, none, some (.int i4)] [] w := qAt_of u_Voices_isShut [(59, [true, true, false, false, true])] 27 h

set_option maxRecDepth 100000 in
theorem A_Machine_run_27 {s : Nat × (Nat → Int32)} {d : Nat} {w : qW} {Q : Int32 → qW → Prop} {i2 : Int32} {i3 : Int32} (h :
  qCall (some s) d 21 [.int (0 : Int32), .int i2] w (qQi fun x2 w1 =>
    qAt s d c_Machine_run (qQi Q) 10 [some (.ref 47), some (.ref 27), none, some (.int i3), some (.int (0 : Int32)), some (.int x2), none] [] w1)) :
  qCall (some s) (d + 1) 20 [.ref 47, .ref 27, .int i2, .int i3] w (qQi Q) := qCall_of (cd := c_Machine_run) (mL := 7) rfl u_Machine_run [(10, [true, true, false, true, true, true, false]), (101, [true, true, false, true, true, true, true])] 8 h
set_option maxRecDepth 100000 in
theorem A_Machine_run_27_10 {s : Nat × (Nat → Int32)} {d : Nat} {w : qW} {Q : Int32 → qW → Prop} {i3 : Int32} {i4 : Int32} {i5 : Int32} (h :
  (i3 ≤ i5 →
    (i4 ≤ 0 →
      Q (0 : Int32) w) ∧
    (¬ i4 ≤ 0 →
      qIn (0 : Int32) 64 ∧
      (Q (w.1 49 (qIx (0 : Int32))) w))) ∧
  (¬ i3 ≤ i5 →
    ((300 : Int32) ≤ i5 →
      (i4 ≤ 0 →
        Q (0 : Int32) w) ∧
      (¬ i4 ≤ 0 →
        qIn (0 : Int32) 64 ∧
        (Q (w.1 49 (qIx (0 : Int32))) w))) ∧
    (¬ (300 : Int32) ≤ i5 →
      qIn i5 300 ∧
      (((10007 : Int32) ≤ (w.1 31 (qIx i5)) →
        ((w.1 31 (qIx i5)) = (10023 : Int32) →
          qAt s d c_Machine_run (qQi Q) 101 [some (.ref 47), some (.ref 27), none, some (.int i3), some (.int i4), some (.int i5), some (.int (w.1 31 (qIx i5)))] [] w) ∧
        (¬ (w.1 31 (qIx i5)) = (10023 : Int32) →
          (¬ (w.1 31 (qIx i5)) = (10024 : Int32) →
            (i4 ≤ (1 : Int32) →
              qAt s d c_Machine_run (qQi Q) 10 [some (.ref 47), some (.ref 27), none, some (.int i3), some (.int i4), some (.int (i5 + (1 : Int32))), none] [] w) ∧
            (¬ i4 ≤ (1 : Int32) →
              qIn ((i4 + (-1 : Int32)) - (1 : Int32)) 64 ∧
              (qIn (i4 + (-1 : Int32)) 64 ∧
              (qCall (some s) d 22 [.int (w.1 31 (qIx i5)), .int (w.1 49 (qIx ((i4 + (-1 : Int32)) - (1 : Int32)))), .int (w.1 49 (qIx (i4 + (-1 : Int32))))] w (qQi fun x2 w1 =>
                qIn ((i4 + (-1 : Int32)) - (1 : Int32)) 64 ∧
                (qAt s d c_Machine_run (qQi Q) 10 [some (.ref 47), some (.ref 27), none, some (.int i3), some (.int (i4 + (-1 : Int32))), some (.int (i5 + (1 : Int32))), none] [] (qPutI w1 49 (qIx ((i4 + (-1 : Int32)) - (1 : Int32))) x2))))))) ∧
          ((w.1 31 (qIx i5)) = (10024 : Int32) →
            qAt s d c_Machine_run (qQi Q) 101 [some (.ref 47), some (.ref 27), none, some (.int i3), some (.int i4), some (.int i5), some (.int (w.1 31 (qIx i5)))] [] w))) ∧
      (¬ (10007 : Int32) ≤ (w.1 31 (qIx i5)) →
        ((64 : Int32) ≤ i4 →
          qAt s d c_Machine_run (qQi Q) 10 [some (.ref 47), some (.ref 27), none, some (.int i3), some (.int i4), some (.int (i5 + (1 : Int32))), none] [] w) ∧
        (¬ (64 : Int32) ≤ i4 →
          ((10000 : Int32) ≤ (w.1 31 (qIx i5)) →
            qIn ((w.1 31 (qIx i5)) - (10000 : Int32)) 7 ∧
            (qIn i4 64 ∧
            (qAt s d c_Machine_run (qQi Q) 10 [some (.ref 47), some (.ref 27), none, some (.int i3), some (.int (i4 + (1 : Int32))), some (.int (i5 + (1 : Int32))), none] [] (qPutI w 49 (qIx i4) (w.1 48 (qIx ((w.1 31 (qIx i5)) - (10000 : Int32)))))))) ∧
          (¬ (10000 : Int32) ≤ (w.1 31 (qIx i5)) →
            qIn i4 64 ∧
            (qAt s d c_Machine_run (qQi Q) 10 [some (.ref 47), some (.ref 27), none, some (.int i3), some (.int (i4 + (1 : Int32))), some (.int (i5 + (1 : Int32))), none] [] (qPutI w 49 (qIx i4) (w.1 31 (qIx i5))))))))))) :
  qAt s d c_Machine_run (qQi Q) 10 [some (.ref 47), some (.ref 27), none, some (.int i3), some (.int i4), some (.int i5), none] [] w := qAt_of u_Machine_run [(10, [true, true, false, true, true, true, false]), (101, [true, true, false, true, true, true, true])] 46 h
set_option maxRecDepth 100000 in
theorem A_Machine_run_27_101 {s : Nat × (Nat → Int32)} {d : Nat} {w : qW} {Q : Int32 → qW → Prop} {i3 : Int32} {i4 : Int32} {i5 : Int32} {i6 : Int32} (h :
  (i4 ≤ 0 →
    qAt s d c_Machine_run (qQi Q) 10 [some (.ref 47), some (.ref 27), none, some (.int i3), some (.int i4), some (.int (i5 + (1 : Int32))), none] [] w) ∧
  (¬ i4 ≤ 0 →
    (¬ i6 = (10023 : Int32) →
      qIn (i4 - (1 : Int32)) 64 ∧
      (qIn (i4 - (1 : Int32)) 64 ∧
      (qAt s d c_Machine_run (qQi Q) 10 [some (.ref 47), some (.ref 27), none, some (.int i3), some (.int i4), some (.int (i5 + (1 : Int32))), none] [] (qPutI w 49 (qIx (i4 - (1 : Int32))) (-(w.1 49 (qIx (i4 - (1 : Int32))))))))) ∧
    (i6 = (10023 : Int32) →
      qIn (i4 - (1 : Int32)) 64 ∧
      (qIn (i4 - (1 : Int32)) 64 ∧
      (qAt s d c_Machine_run (qQi Q) 10 [some (.ref 47), some (.ref 27), none, some (.int i3), some (.int i4), some (.int (i5 + (1 : Int32))), none] [] (qPutI w 49 (qIx (i4 - (1 : Int32))) ((1 : Int32) - (w.1 49 (qIx (i4 - (1 : Int32))))))))))) :
  qAt s d c_Machine_run (qQi Q) 101 [some (.ref 47), some (.ref 27), none, some (.int i3), some (.int i4), some (.int i5), some (.int i6)] [] w := qAt_of u_Machine_run [(10, [true, true, false, true, true, true, false]), (101, [true, true, false, true, true, true, true])] 25 h

set_option maxRecDepth 100000 in
theorem A_Machine_run_32 {s : Nat × (Nat → Int32)} {d : Nat} {w : qW} {Q : Int32 → qW → Prop} {i2 : Int32} {i3 : Int32} (h :
  qCall (some s) d 21 [.int (0 : Int32), .int i2] w (qQi fun x2 w1 =>
    qAt s d c_Machine_run (qQi Q) 10 [some (.ref 47), some (.ref 32), none, some (.int i3), some (.int (0 : Int32)), some (.int x2), none] [] w1)) :
  qCall (some s) (d + 1) 20 [.ref 47, .ref 32, .int i2, .int i3] w (qQi Q) := qCall_of (cd := c_Machine_run) (mL := 7) rfl u_Machine_run [(10, [true, true, false, true, true, true, false]), (101, [true, true, false, true, true, true, true])] 8 h
set_option maxRecDepth 100000 in
theorem A_Machine_run_32_10 {s : Nat × (Nat → Int32)} {d : Nat} {w : qW} {Q : Int32 → qW → Prop} {i3 : Int32} {i4 : Int32} {i5 : Int32} (h :
  (i3 ≤ i5 →
    (i4 ≤ 0 →
      Q (0 : Int32) w) ∧
    (¬ i4 ≤ 0 →
      qIn (0 : Int32) 64 ∧
      (Q (w.1 49 (qIx (0 : Int32))) w))) ∧
  (¬ i3 ≤ i5 →
    ((300 : Int32) ≤ i5 →
      (i4 ≤ 0 →
        Q (0 : Int32) w) ∧
      (¬ i4 ≤ 0 →
        qIn (0 : Int32) 64 ∧
        (Q (w.1 49 (qIx (0 : Int32))) w))) ∧
    (¬ (300 : Int32) ≤ i5 →
      qIn i5 300 ∧
      (((10007 : Int32) ≤ (w.1 36 (qIx i5)) →
        ((w.1 36 (qIx i5)) = (10023 : Int32) →
          qAt s d c_Machine_run (qQi Q) 101 [some (.ref 47), some (.ref 32), none, some (.int i3), some (.int i4), some (.int i5), some (.int (w.1 36 (qIx i5)))] [] w) ∧
        (¬ (w.1 36 (qIx i5)) = (10023 : Int32) →
          (¬ (w.1 36 (qIx i5)) = (10024 : Int32) →
            (i4 ≤ (1 : Int32) →
              qAt s d c_Machine_run (qQi Q) 10 [some (.ref 47), some (.ref 32), none, some (.int i3), some (.int i4), some (.int (i5 + (1 : Int32))), none] [] w) ∧
            (¬ i4 ≤ (1 : Int32) →
              qIn ((i4 + (-1 : Int32)) - (1 : Int32)) 64 ∧
              (qIn (i4 + (-1 : Int32)) 64 ∧
              (qCall (some s) d 22 [.int (w.1 36 (qIx i5)), .int (w.1 49 (qIx ((i4 + (-1 : Int32)) - (1 : Int32)))), .int (w.1 49 (qIx (i4 + (-1 : Int32))))] w (qQi fun x2 w1 =>
                qIn ((i4 + (-1 : Int32)) - (1 : Int32)) 64 ∧
                (qAt s d c_Machine_run (qQi Q) 10 [some (.ref 47), some (.ref 32), none, some (.int i3), some (.int (i4 + (-1 : Int32))), some (.int (i5 + (1 : Int32))), none] [] (qPutI w1 49 (qIx ((i4 + (-1 : Int32)) - (1 : Int32))) x2))))))) ∧
          ((w.1 36 (qIx i5)) = (10024 : Int32) →
            qAt s d c_Machine_run (qQi Q) 101 [some (.ref 47), some (.ref 32), none, some (.int i3), some (.int i4), some (.int i5), some (.int (w.1 36 (qIx i5)))] [] w))) ∧
      (¬ (10007 : Int32) ≤ (w.1 36 (qIx i5)) →
        ((64 : Int32) ≤ i4 →
          qAt s d c_Machine_run (qQi Q) 10 [some (.ref 47), some (.ref 32), none, some (.int i3), some (.int i4), some (.int (i5 + (1 : Int32))), none] [] w) ∧
        (¬ (64 : Int32) ≤ i4 →
          ((10000 : Int32) ≤ (w.1 36 (qIx i5)) →
            qIn ((w.1 36 (qIx i5)) - (10000 : Int32)) 7 ∧
            (qIn i4 64 ∧
            (qAt s d c_Machine_run (qQi Q) 10 [some (.ref 47), some (.ref 32), none, some (.int i3), some (.int (i4 + (1 : Int32))), some (.int (i5 + (1 : Int32))), none] [] (qPutI w 49 (qIx i4) (w.1 48 (qIx ((w.1 36 (qIx i5)) - (10000 : Int32)))))))) ∧
          (¬ (10000 : Int32) ≤ (w.1 36 (qIx i5)) →
            qIn i4 64 ∧
            (qAt s d c_Machine_run (qQi Q) 10 [some (.ref 47), some (.ref 32), none, some (.int i3), some (.int (i4 + (1 : Int32))), some (.int (i5 + (1 : Int32))), none] [] (qPutI w 49 (qIx i4) (w.1 36 (qIx i5))))))))))) :
  qAt s d c_Machine_run (qQi Q) 10 [some (.ref 47), some (.ref 32), none, some (.int i3), some (.int i4), some (.int i5), none] [] w := qAt_of u_Machine_run [(10, [true, true, false, true, true, true, false]), (101, [true, true, false, true, true, true, true])] 46 h
set_option maxRecDepth 100000 in
theorem A_Machine_run_32_101 {s : Nat × (Nat → Int32)} {d : Nat} {w : qW} {Q : Int32 → qW → Prop} {i3 : Int32} {i4 : Int32} {i5 : Int32} {i6 : Int32} (h :
  (i4 ≤ 0 →
    qAt s d c_Machine_run (qQi Q) 10 [some (.ref 47), some (.ref 32), none, some (.int i3), some (.int i4), some (.int (i5 + (1 : Int32))), none] [] w) ∧
  (¬ i4 ≤ 0 →
    (¬ i6 = (10023 : Int32) →
      qIn (i4 - (1 : Int32)) 64 ∧
      (qIn (i4 - (1 : Int32)) 64 ∧
      (qAt s d c_Machine_run (qQi Q) 10 [some (.ref 47), some (.ref 32), none, some (.int i3), some (.int i4), some (.int (i5 + (1 : Int32))), none] [] (qPutI w 49 (qIx (i4 - (1 : Int32))) (-(w.1 49 (qIx (i4 - (1 : Int32))))))))) ∧
    (i6 = (10023 : Int32) →
      qIn (i4 - (1 : Int32)) 64 ∧
      (qIn (i4 - (1 : Int32)) 64 ∧
      (qAt s d c_Machine_run (qQi Q) 10 [some (.ref 47), some (.ref 32), none, some (.int i3), some (.int i4), some (.int (i5 + (1 : Int32))), none] [] (qPutI w 49 (qIx (i4 - (1 : Int32))) ((1 : Int32) - (w.1 49 (qIx (i4 - (1 : Int32))))))))))) :
  qAt s d c_Machine_run (qQi Q) 101 [some (.ref 47), some (.ref 32), none, some (.int i3), some (.int i4), some (.int i5), some (.int i6)] [] w := qAt_of u_Machine_run [(10, [true, true, false, true, true, true, false]), (101, [true, true, false, true, true, true, true])] 25 h

set_option maxRecDepth 100000 in
theorem A_Machine_run_37 {s : Nat × (Nat → Int32)} {d : Nat} {w : qW} {Q : Int32 → qW → Prop} {i2 : Int32} {i3 : Int32} (h :
  qCall (some s) d 21 [.int (0 : Int32), .int i2] w (qQi fun x2 w1 =>
    qAt s d c_Machine_run (qQi Q) 10 [some (.ref 47), some (.ref 37), none, some (.int i3), some (.int (0 : Int32)), some (.int x2), none] [] w1)) :
  qCall (some s) (d + 1) 20 [.ref 47, .ref 37, .int i2, .int i3] w (qQi Q) := qCall_of (cd := c_Machine_run) (mL := 7) rfl u_Machine_run [(10, [true, true, false, true, true, true, false]), (101, [true, true, false, true, true, true, true])] 8 h
set_option maxRecDepth 100000 in
theorem A_Machine_run_37_10 {s : Nat × (Nat → Int32)} {d : Nat} {w : qW} {Q : Int32 → qW → Prop} {i3 : Int32} {i4 : Int32} {i5 : Int32} (h :
  (i3 ≤ i5 →
    (i4 ≤ 0 →
      Q (0 : Int32) w) ∧
    (¬ i4 ≤ 0 →
      qIn (0 : Int32) 64 ∧
      (Q (w.1 49 (qIx (0 : Int32))) w))) ∧
  (¬ i3 ≤ i5 →
    ((300 : Int32) ≤ i5 →
      (i4 ≤ 0 →
        Q (0 : Int32) w) ∧
      (¬ i4 ≤ 0 →
        qIn (0 : Int32) 64 ∧
        (Q (w.1 49 (qIx (0 : Int32))) w))) ∧
    (¬ (300 : Int32) ≤ i5 →
      qIn i5 300 ∧
      (((10007 : Int32) ≤ (w.1 41 (qIx i5)) →
        ((w.1 41 (qIx i5)) = (10023 : Int32) →
          qAt s d c_Machine_run (qQi Q) 101 [some (.ref 47), some (.ref 37), none, some (.int i3), some (.int i4), some (.int i5), some (.int (w.1 41 (qIx i5)))] [] w) ∧
        (¬ (w.1 41 (qIx i5)) = (10023 : Int32) →
          (¬ (w.1 41 (qIx i5)) = (10024 : Int32) →
            (i4 ≤ (1 : Int32) →
              qAt s d c_Machine_run (qQi Q) 10 [some (.ref 47), some (.ref 37), none, some (.int i3), some (.int i4), some (.int (i5 + (1 : Int32))), none] [] w) ∧
            (¬ i4 ≤ (1 : Int32) →
              qIn ((i4 + (-1 : Int32)) - (1 : Int32)) 64 ∧
              (qIn (i4 + (-1 : Int32)) 64 ∧
              (qCall (some s) d 22 [.int (w.1 41 (qIx i5)), .int (w.1 49 (qIx ((i4 + (-1 : Int32)) - (1 : Int32)))), .int (w.1 49 (qIx (i4 + (-1 : Int32))))] w (qQi fun x2 w1 =>
                qIn ((i4 + (-1 : Int32)) - (1 : Int32)) 64 ∧
                (qAt s d c_Machine_run (qQi Q) 10 [some (.ref 47), some (.ref 37), none, some (.int i3), some (.int (i4 + (-1 : Int32))), some (.int (i5 + (1 : Int32))), none] [] (qPutI w1 49 (qIx ((i4 + (-1 : Int32)) - (1 : Int32))) x2))))))) ∧
          ((w.1 41 (qIx i5)) = (10024 : Int32) →
            qAt s d c_Machine_run (qQi Q) 101 [some (.ref 47), some (.ref 37), none, some (.int i3), some (.int i4), some (.int i5), some (.int (w.1 41 (qIx i5)))] [] w))) ∧
      (¬ (10007 : Int32) ≤ (w.1 41 (qIx i5)) →
        ((64 : Int32) ≤ i4 →
          qAt s d c_Machine_run (qQi Q) 10 [some (.ref 47), some (.ref 37), none, some (.int i3), some (.int i4), some (.int (i5 + (1 : Int32))), none] [] w) ∧
        (¬ (64 : Int32) ≤ i4 →
          ((10000 : Int32) ≤ (w.1 41 (qIx i5)) →
            qIn ((w.1 41 (qIx i5)) - (10000 : Int32)) 7 ∧
            (qIn i4 64 ∧
            (qAt s d c_Machine_run (qQi Q) 10 [some (.ref 47), some (.ref 37), none, some (.int i3), some (.int (i4 + (1 : Int32))), some (.int (i5 + (1 : Int32))), none] [] (qPutI w 49 (qIx i4) (w.1 48 (qIx ((w.1 41 (qIx i5)) - (10000 : Int32)))))))) ∧
          (¬ (10000 : Int32) ≤ (w.1 41 (qIx i5)) →
            qIn i4 64 ∧
            (qAt s d c_Machine_run (qQi Q) 10 [some (.ref 47), some (.ref 37), none, some (.int i3), some (.int (i4 + (1 : Int32))), some (.int (i5 + (1 : Int32))), none] [] (qPutI w 49 (qIx i4) (w.1 41 (qIx i5))))))))))) :
  qAt s d c_Machine_run (qQi Q) 10 [some (.ref 47), some (.ref 37), none, some (.int i3), some (.int i4), some (.int i5), none] [] w := qAt_of u_Machine_run [(10, [true, true, false, true, true, true, false]), (101, [true, true, false, true, true, true, true])] 46 h
set_option maxRecDepth 100000 in
theorem A_Machine_run_37_101 {s : Nat × (Nat → Int32)} {d : Nat} {w : qW} {Q : Int32 → qW → Prop} {i3 : Int32} {i4 : Int32} {i5 : Int32} {i6 : Int32} (h :
  (i4 ≤ 0 →
    qAt s d c_Machine_run (qQi Q) 10 [some (.ref 47), some (.ref 37), none, some (.int i3), some (.int i4), some (.int (i5 + (1 : Int32))), none] [] w) ∧
  (¬ i4 ≤ 0 →
    (¬ i6 = (10023 : Int32) →
      qIn (i4 - (1 : Int32)) 64 ∧
      (qIn (i4 - (1 : Int32)) 64 ∧
      (qAt s d c_Machine_run (qQi Q) 10 [some (.ref 47), some (.ref 37), none, some (.int i3), some (.int i4), some (.int (i5 + (1 : Int32))), none] [] (qPutI w 49 (qIx (i4 - (1 : Int32))) (-(w.1 49 (qIx (i4 - (1 : Int32))))))))) ∧
    (i6 = (10023 : Int32) →
      qIn (i4 - (1 : Int32)) 64 ∧
      (qIn (i4 - (1 : Int32)) 64 ∧
      (qAt s d c_Machine_run (qQi Q) 10 [some (.ref 47), some (.ref 37), none, some (.int i3), some (.int i4), some (.int (i5 + (1 : Int32))), none] [] (qPutI w 49 (qIx (i4 - (1 : Int32))) ((1 : Int32) - (w.1 49 (qIx (i4 - (1 : Int32))))))))))) :
  qAt s d c_Machine_run (qQi Q) 101 [some (.ref 47), some (.ref 37), none, some (.int i3), some (.int i4), some (.int i5), some (.int i6)] [] w := qAt_of u_Machine_run [(10, [true, true, false, true, true, true, false]), (101, [true, true, false, true, true, true, true])] 25 h

set_option maxRecDepth 100000 in
theorem A_Machine_run_42 {s : Nat × (Nat → Int32)} {d : Nat} {w : qW} {Q : Int32 → qW → Prop} {i2 : Int32} {i3 : Int32} (h :
  qCall (some s) d 21 [.int (0 : Int32), .int i2] w (qQi fun x2 w1 =>
    qAt s d c_Machine_run (qQi Q) 10 [some (.ref 47), some (.ref 42), none, some (.int i3), some (.int (0 : Int32)), some (.int x2), none] [] w1)) :
  qCall (some s) (d + 1) 20 [.ref 47, .ref 42, .int i2, .int i3] w (qQi Q) := qCall_of (cd := c_Machine_run) (mL := 7) rfl u_Machine_run [(10, [true, true, false, true, true, true, false]), (101, [true, true, false, true, true, true, true])] 8 h
set_option maxRecDepth 100000 in
theorem A_Machine_run_42_10 {s : Nat × (Nat → Int32)} {d : Nat} {w : qW} {Q : Int32 → qW → Prop} {i3 : Int32} {i4 : Int32} {i5 : Int32} (h :
  (i3 ≤ i5 →
    (i4 ≤ 0 →
      Q (0 : Int32) w) ∧
    (¬ i4 ≤ 0 →
      qIn (0 : Int32) 64 ∧
      (Q (w.1 49 (qIx (0 : Int32))) w))) ∧
  (¬ i3 ≤ i5 →
    ((300 : Int32) ≤ i5 →
      (i4 ≤ 0 →
        Q (0 : Int32) w) ∧
      (¬ i4 ≤ 0 →
        qIn (0 : Int32) 64 ∧
        (Q (w.1 49 (qIx (0 : Int32))) w))) ∧
    (¬ (300 : Int32) ≤ i5 →
      qIn i5 300 ∧
      (((10007 : Int32) ≤ (w.1 46 (qIx i5)) →
        ((w.1 46 (qIx i5)) = (10023 : Int32) →
          qAt s d c_Machine_run (qQi Q) 101 [some (.ref 47), some (.ref 42), none, some (.int i3), some (.int i4), some (.int i5), some (.int (w.1 46 (qIx i5)))] [] w) ∧
        (¬ (w.1 46 (qIx i5)) = (10023 : Int32) →
          (¬ (w.1 46 (qIx i5)) = (10024 : Int32) →
            (i4 ≤ (1 : Int32) →
              qAt s d c_Machine_run (qQi Q) 10 [some (.ref 47), some (.ref 42), none, some (.int i3), some (.int i4), some (.int (i5 + (1 : Int32))), none] [] w) ∧
            (¬ i4 ≤ (1 : Int32) →
              qIn ((i4 + (-1 : Int32)) - (1 : Int32)) 64 ∧
              (qIn (i4 + (-1 : Int32)) 64 ∧
              (qCall (some s) d 22 [.int (w.1 46 (qIx i5)), .int (w.1 49 (qIx ((i4 + (-1 : Int32)) - (1 : Int32)))), .int (w.1 49 (qIx (i4 + (-1 : Int32))))] w (qQi fun x2 w1 =>
                qIn ((i4 + (-1 : Int32)) - (1 : Int32)) 64 ∧
                (qAt s d c_Machine_run (qQi Q) 10 [some (.ref 47), some (.ref 42), none, some (.int i3), some (.int (i4 + (-1 : Int32))), some (.int (i5 + (1 : Int32))), none] [] (qPutI w1 49 (qIx ((i4 + (-1 : Int32)) - (1 : Int32))) x2))))))) ∧
          ((w.1 46 (qIx i5)) = (10024 : Int32) →
            qAt s d c_Machine_run (qQi Q) 101 [some (.ref 47), some (.ref 42), none, some (.int i3), some (.int i4), some (.int i5), some (.int (w.1 46 (qIx i5)))] [] w))) ∧
      (¬ (10007 : Int32) ≤ (w.1 46 (qIx i5)) →
        ((64 : Int32) ≤ i4 →
          qAt s d c_Machine_run (qQi Q) 10 [some (.ref 47), some (.ref 42), none, some (.int i3), some (.int i4), some (.int (i5 + (1 : Int32))), none] [] w) ∧
        (¬ (64 : Int32) ≤ i4 →
          ((10000 : Int32) ≤ (w.1 46 (qIx i5)) →
            qIn ((w.1 46 (qIx i5)) - (10000 : Int32)) 7 ∧
            (qIn i4 64 ∧
            (qAt s d c_Machine_run (qQi Q) 10 [some (.ref 47), some (.ref 42), none, some (.int i3), some (.int (i4 + (1 : Int32))), some (.int (i5 + (1 : Int32))), none] [] (qPutI w 49 (qIx i4) (w.1 48 (qIx ((w.1 46 (qIx i5)) - (10000 : Int32)))))))) ∧
          (¬ (10000 : Int32) ≤ (w.1 46 (qIx i5)) →
            qIn i4 64 ∧
            (qAt s d c_Machine_run (qQi Q) 10 [some (.ref 47), some (.ref 42), none, some (.int i3), some (.int (i4 + (1 : Int32))), some (.int (i5 + (1 : Int32))), none] [] (qPutI w 49 (qIx i4) (w.1 46 (qIx i5))))))))))) :
  qAt s d c_Machine_run (qQi Q) 10 [some (.ref 47), some (.ref 42), none, some (.int i3), some (.int i4), some (.int i5), none] [] w := qAt_of u_Machine_run [(10, [true, true, false, true, true, true, false]), (101, [true, true, false, true, true, true, true])] 46 h
set_option maxRecDepth 100000 in
theorem A_Machine_run_42_101 {s : Nat × (Nat → Int32)} {d : Nat} {w : qW} {Q : Int32 → qW → Prop} {i3 : Int32} {i4 : Int32} {i5 : Int32} {i6 : Int32} (h :
  (i4 ≤ 0 →
    qAt s d c_Machine_run (qQi Q) 10 [some (.ref 47), some (.ref 42), none, some (.int i3), some (.int i4), some (.int (i5 + (1 : Int32))), none] [] w) ∧
  (¬ i4 ≤ 0 →
    (¬ i6 = (10023 : Int32) →
      qIn (i4 - (1 : Int32)) 64 ∧
      (qIn (i4 - (1 : Int32)) 64 ∧
      (qAt s d c_Machine_run (qQi Q) 10 [some (.ref 47), some (.ref 42), none, some (.int i3), some (.int i4), some (.int (i5 + (1 : Int32))), none] [] (qPutI w 49 (qIx (i4 - (1 : Int32))) (-(w.1 49 (qIx (i4 - (1 : Int32))))))))) ∧
    (i6 = (10023 : Int32) →
      qIn (i4 - (1 : Int32)) 64 ∧
      (qIn (i4 - (1 : Int32)) 64 ∧
      (qAt s d c_Machine_run (qQi Q) 10 [some (.ref 47), some (.ref 42), none, some (.int i3), some (.int i4), some (.int (i5 + (1 : Int32))), none] [] (qPutI w 49 (qIx (i4 - (1 : Int32))) ((1 : Int32) - (w.1 49 (qIx (i4 - (1 : Int32))))))))))) :
  qAt s d c_Machine_run (qQi Q) 101 [some (.ref 47), some (.ref 42), none, some (.int i3), some (.int i4), some (.int i5), some (.int i6)] [] w := qAt_of u_Machine_run [(10, [true, true, false, true, true, true, false]), (101, [true, true, false, true, true, true, true])] 25 h

set_option maxRecDepth 100000 in
theorem A_Math_max {s : Nat × (Nat → Int32)} {d : Nat} {w : qW} {Q : Int32 → qW → Prop} {i0 : Int32} {i1 : Int32} (h :
  (i0 < i1 →
    Q i1 w) ∧
  (¬ i0 < i1 →
    Q i0 w)) :
  qCall (some s) (d + 1) 21 [.int i0, .int i1] w (qQi Q) := qCall_of (cd := c_Math_max) (mL := 2) rfl u_Math_max [] 7 h

set_option maxRecDepth 100000 in
theorem A_Machine_join {s : Nat × (Nat → Int32)} {d : Nat} {w : qW} {Q : Int32 → qW → Prop} {i0 : Int32} {i1 : Int32} {i2 : Int32} (h :
  (i0 = (10010 : Int32) →
    qCall (some s) d 23 [.int (1000000 : Int32), .int (i1 + i2)] w (qQi fun x2 w1 =>
      qCall (some s) d 21 [.int (-1000000 : Int32), .int x2] w1 (qQi fun x4 w3 =>
        Q x4 w3))) ∧
  (¬ i0 = (10010 : Int32) →
  (i0 = (10011 : Int32) →
    qCall (some s) d 23 [.int (1000000 : Int32), .int (i1 - i2)] w (qQi fun x6 w5 =>
      qCall (some s) d 21 [.int (-1000000 : Int32), .int x6] w5 (qQi fun x8 w7 =>
        Q x8 w7))) ∧
  (¬ i0 = (10011 : Int32) →
  (i0 = (10012 : Int32) →
    qCall (some s) d 24 [.long (1000000 : Int64), .long ((Int32.toInt64 i1) * (Int32.toInt64 i2))] w (qQl fun y10 w9 =>
      qCall (some s) d 25 [.long (-1000000 : Int64), .long y10] w9 (qQl fun y12 w11 =>
        Q (Int64.toInt32 y12) w11))) ∧
  (¬ i0 = (10012 : Int32) →
  (i0 = (10013 : Int32) →
    (¬ i2 = 0 →
      ¬ i2 = 0 ∧ (Q (i1 / i2) w)) ∧
    (i2 = 0 →
      Q (0 : Int32) w)) ∧
  (¬ i0 = (10013 : Int32) →
  (i0 = (10014 : Int32) →
    (¬ i2 = 0 →
      ¬ i2 = 0 ∧ (Q (qRem i1 i2) w)) ∧
    (i2 = 0 →
      Q (0 : Int32) w)) ∧
  (¬ i0 = (10014 : Int32) →
  (i0 = (10015 : Int32) →
    (i2 ≤ i1 →
      Q (0 : Int32) w) ∧
    (¬ i2 ≤ i1 →
      Q (1 : Int32) w)) ∧
  (¬ i0 = (10015 : Int32) →
  (i0 = (10016 : Int32) →
    (i2 < i1 →
      Q (0 : Int32) w) ∧
    (¬ i2 < i1 →
      Q (1 : Int32) w)) ∧
  (¬ i0 = (10016 : Int32) →
  (i0 = (10017 : Int32) →
    (i1 ≤ i2 →
      Q (0 : Int32) w) ∧
    (¬ i1 ≤ i2 →
      Q (1 : Int32) w)) ∧
  (¬ i0 = (10017 : Int32) →
  (i0 = (10018 : Int32) →
    (i1 < i2 →
      Q (0 : Int32) w) ∧
    (¬ i1 < i2 →
      Q (1 : Int32) w)) ∧
  (¬ i0 = (10018 : Int32) →
  (i0 = (10019 : Int32) →
    (¬ i1 = i2 →
      Q (0 : Int32) w) ∧
    (i1 = i2 →
      Q (1 : Int32) w)) ∧
  (¬ i0 = (10019 : Int32) →
  (i0 = (10020 : Int32) →
    (i1 = i2 →
      Q (0 : Int32) w) ∧
    (¬ i1 = i2 →
      Q (1 : Int32) w)) ∧
  (¬ i0 = (10020 : Int32) →
  (i0 = (10021 : Int32) →
    Q (i1 &&& i2) w) ∧
  (¬ i0 = (10021 : Int32) →
  (i0 = (10022 : Int32) →
    Q (i1 ||| i2) w) ∧
  (¬ i0 = (10022 : Int32) →
  Q (0 : Int32) w)))))))))))))) :
  qCall (some s) (d + 1) 22 [.int i0, .int i1, .int i2] w (qQi Q) := qCall_of (cd := c_Machine_join) (mL := 3) rfl u_Machine_join [] 14 h

set_option maxRecDepth 100000 in
theorem A_Math_min {s : Nat × (Nat → Int32)} {d : Nat} {w : qW} {Q : Int32 → qW → Prop} {i0 : Int32} {i1 : Int32} (h :
  (i1 < i0 →
    Q i1 w) ∧
  (¬ i1 < i0 →
    Q i0 w)) :
  qCall (some s) (d + 1) 23 [.int i0, .int i1] w (qQi Q) := qCall_of (cd := c_Math_min) (mL := 2) rfl u_Math_min [] 7 h

set_option maxRecDepth 100000 in
theorem A_Math_min2 {s : Nat × (Nat → Int32)} {d : Nat} {w : qW} {Q : Int64 → qW → Prop} {l0 : Int64} {l2 : Int64} (h :
  (0 < (lg_cmp l0 l2) →
    Q l2 w) ∧
  (¬ 0 < (lg_cmp l0 l2) →
    Q l0 w)) :
  qCall (some s) (d + 1) 24 [.long l0, .long l2] w (qQl Q) := qCall_of (cd := c_Math_min2) (mL := 4) rfl u_Math_min2 [] 8 h

set_option maxRecDepth 100000 in
theorem A_Math_max2 {s : Nat × (Nat → Int32)} {d : Nat} {w : qW} {Q : Int64 → qW → Prop} {l0 : Int64} {l2 : Int64} (h :
  ((lg_cmp l0 l2) < 0 →
    Q l2 w) ∧
  (¬ (lg_cmp l0 l2) < 0 →
    Q l0 w)) :
  qCall (some s) (d + 1) 25 [.long l0, .long l2] w (qQl Q) := qCall_of (cd := c_Math_max2) (mL := 4) rfl u_Math_max2 [] 8 h

set_option maxRecDepth 100000 in
theorem A_X_change {s : Nat × (Nat → Int32)} {d : Nat} {w : qW} {Q : Int32 → qW → Prop} {i1 : Int32} {i2 : Int32} {i3 : Int32} (h :
  qCall (some s) d 27 [.ref 2, .int i1] w (qQi fun x2 w1 =>
    (x2 = 0 →
      Q (0 : Int32) w1) ∧
    (¬ x2 = 0 →
      qCall (some s) d 15 [.int i2] w1 (qQi fun x4 w3 =>
        (x4 = 0 →
          Q (0 : Int32) w3) ∧
        (¬ x4 = 0 →
          qCall (some s) d 16 [.int i3] w3 (qQi fun x6 w5 =>
            (¬ x6 = 0 →
              qIn i1 12 ∧
              (qIn i1 12 ∧
              (qCall (some s) d 17 [.ref 50, .int i1] (qPutI (qPutI w5 3 (qIx i1) i2) 4 (qIx i1) i3) (qQv fun w7 =>
                Q (1 : Int32) w7)))) ∧
            (x6 = 0 →
              Q (0 : Int32) w5))))))) :
  qCall (some s) (d + 1) 26 [.ref 1, .int i1, .int i2, .int i3] w (qQi Q) := qCall_of (cd := c_X_change) (mL := 4) rfl u_X_change [] 30 h

set_option maxRecDepth 100000 in
theorem A_State_isTold {s : Nat × (Nat → Int32)} {d : Nat} {w : qW} {Q : Int32 → qW → Prop} {i1 : Int32} (h :
  (i1 < 0 →
    Q (0 : Int32) w) ∧
  (¬ i1 < 0 →
    ((w.1 2 0) ≤ i1 →
      Q (0 : Int32) w) ∧
    (¬ (w.1 2 0) ≤ i1 →
      ((12 : Int32) ≤ i1 →
        Q (0 : Int32) w) ∧
      (¬ (12 : Int32) ≤ i1 →
        Q (1 : Int32) w)))) :
  qCall (some s) (d + 1) 27 [.ref 2, .int i1] w (qQi Q) := qCall_of (cd := c_State_isTold) (mL := 2) rfl u_State_isTold [] 13 h

set_option maxRecDepth 100000 in
theorem A_X_day {s : Nat × (Nat → Int32)} {d : Nat} {w : qW} {Q : Int32 → qW → Prop} {i1 : Int32} (h :
  qCall (some s) d 29 [.int i1] w (qQi fun x2 w1 =>
    (¬ x2 = 0 →
      Q (1 : Int32) (qPutI w1 2 4 i1)) ∧
    (x2 = 0 →
      Q (0 : Int32) w1))) :
  qCall (some s) (d + 1) 28 [.ref 1, .int i1] w (qQi Q) := qCall_of (cd := c_X_day) (mL := 2) rfl u_X_day [] 10 h

set_option maxRecDepth 100000 in
theorem A_X_isDay {s : Nat × (Nat → Int32)} {d : Nat} {w : qW} {Q : Int32 → qW → Prop} {i0 : Int32} (h :
  (i0 = 0 →
    Q (1 : Int32) w) ∧
  (¬ i0 = 0 →
    (i0 < (2 : Int32) →
      Q (0 : Int32) w) ∧
    (¬ i0 < (2 : Int32) →
      ((999 : Int32) < i0 →
        Q (0 : Int32) w) ∧
      (¬ (999 : Int32) < i0 →
        Q (1 : Int32) w)))) :
  qCall (some s) (d + 1) 29 [.int i0] w (qQi Q) := qCall_of (cd := c_X_isDay) (mL := 1) rfl u_X_isDay [] 12 h

set_option maxRecDepth 100000 in
theorem A_X_clock {s : Nat × (Nat → Int32)} {d : Nat} {w : qW} {Q : Int32 → qW → Prop} {i1 : Int32} (h :
  (i1 < (1 : Int32) →
    Q (0 : Int32) w) ∧
  (¬ i1 < (1 : Int32) →
    (i1 ≤ (60 : Int32) →
      qCall (some s) d 31 [.ref 50] (qPutI w 2 5 i1) (qQv fun w1 =>
        Q (1 : Int32) w1)) ∧
    (¬ i1 ≤ (60 : Int32) →
      Q (0 : Int32) w))) :
  qCall (some s) (d + 1) 30 [.ref 1, .int i1] w (qQi Q) := qCall_of (cd := c_X_clock) (mL := 2) rfl u_X_clock [] 16 h

set_option maxRecDepth 100000 in
theorem A_Voices_openForAll {s : Nat × (Nat → Int32)} {d : Nat} {w : qW} {Q : qW → Prop}  (h :
  qAt s d c_Voices_openForAll (qQv Q) 2 [some (.ref 50), some (.int (0 : Int32))] [] w) :
  qCall (some s) (d + 1) 31 [.ref 50] w (qQv Q) := qCall_of (cd := c_Voices_openForAll) (mL := 2) rfl u_Voices_openForAll [(2, [true, true])] 4 h
set_option maxRecDepth 100000 in
theorem A_Voices_openForAll_2 {s : Nat × (Nat → Int32)} {d : Nat} {w : qW} {Q : qW → Prop} {i1 : Int32} (h :
  ((w.1 2 0) ≤ i1 →
    Q w) ∧
  (¬ (w.1 2 0) ≤ i1 →
    qCall (some s) d 17 [.ref 50, .int i1] w (qQv fun w1 =>
      qAt s d c_Voices_openForAll (qQv Q) 2 [some (.ref 50), some (.int (i1 + (1 : Int32)))] [] w1))) :
  qAt s d c_Voices_openForAll (qQv Q) 2 [some (.ref 50), some (.int i1)] [] w := qAt_of u_Voices_openForAll [(2, [true, true])] 12 h

set_option maxRecDepth 100000 in
theorem A_X_near {s : Nat × (Nat → Int32)} {d : Nat} {w : qW} {Q : Int32 → qW → Prop} {i1 : Int32} {i2 : Int32} {i3 : Int32} (h :
  qCall (some s) d 33 [.ref 2, .int i1, .int i2, .int i3] w (qQi fun x2 w1 =>
    qB (qZb x2) (Q x2 w1))) :
  qCall (some s) (d + 1) 32 [.ref 1, .int i1, .int i2, .int i3] w (qQi Q) := qCall_of (cd := c_X_near) (mL := 4) rfl u_X_near [] 8 h

set_option maxRecDepth 100000 in
theorem A_State_setNear {s : Nat × (Nat → Int32)} {d : Nat} {w : qW} {Q : Int32 → qW → Prop} {i1 : Int32} {i2 : Int32} {i3 : Int32} (h :
  qCall (some s) d 34 [.ref 2, .int i1, .int i2] w (qQi fun x2 w1 =>
    (¬ x2 = 0 →
      (i3 = 0 →
        qIn i1 12 ∧
        (qAt s d c_State_setNear (qQi Q) 45 [some (.ref 2), some (.int i1), some (.int i2), some (.int i3)] [.int ((w1.1 5 (qIx i1)) &&& ((qShl (1 : Int32) i2) ^^^ (-1 : Int32))), .int i1, .ref 5] w1)) ∧
      (¬ i3 = 0 →
        qIn i1 12 ∧
        (qAt s d c_State_setNear (qQi Q) 45 [some (.ref 2), some (.int i1), some (.int i2), some (.int i3)] [.int ((w1.1 5 (qIx i1)) ||| (qShl (1 : Int32) i2)), .int i1, .ref 5] w1))) ∧
    (x2 = 0 →
      Q (0 : Int32) w1))) :
  qCall (some s) (d + 1) 33 [.ref 2, .int i1, .int i2, .int i3] w (qQi Q) := qCall_of (cd := c_State_setNear) (mL := 4) rfl u_State_setNear [(45, [true, true, true, true])] 22 h
set_option maxRecDepth 100000 in
theorem A_State_setNear_45 {s : Nat × (Nat → Int32)} {d : Nat} {w : qW} {Q : Int32 → qW → Prop} {i1 : Int32} {i2 : Int32} {i3 : Int32} {is0 : Int32} {is1 : Int32} (h :
  qIn is1 12 ∧
  ((i3 = 0 →
    qIn i2 12 ∧
    (qIn i2 12 ∧
    (Q (1 : Int32) (qPutI (qPutI w 5 (qIx is1) is0) 5 (qIx i2) (((qPutI w 5 (qIx is1) is0).1 5 (qIx i2)) &&& ((qShl (1 : Int32) i1) ^^^ (-1 : Int32))))))) ∧
  (¬ i3 = 0 →
    qIn i2 12 ∧
    (qIn i2 12 ∧
    (Q (1 : Int32) (qPutI (qPutI w 5 (qIx is1) is0) 5 (qIx i2) (((qPutI w 5 (qIx is1) is0).1 5 (qIx i2)) ||| (qShl (1 : Int32) i1)))))))) :
  qAt s d c_State_setNear (qQi Q) 45 [some (.ref 2), some (.int i1), some (.int i2), some (.int i3)] [.int is0, .int is1, .ref 5] w := qAt_of u_State_setNear [(45, [true, true, true, true])] 20 h

set_option maxRecDepth 100000 in
theorem A_State_isPair {s : Nat × (Nat → Int32)} {d : Nat} {w : qW} {Q : Int32 → qW → Prop} {i1 : Int32} {i2 : Int32} (h :
  (i1 = i2 →
    Q (0 : Int32) w) ∧
  (¬ i1 = i2 →
    qCall (some s) d 27 [.ref 2, .int i1] w (qQi fun x2 w1 =>
      (x2 = 0 →
        Q (0 : Int32) w1) ∧
      (¬ x2 = 0 →
        qCall (some s) d 27 [.ref 2, .int i2] w1 (qQi fun x4 w3 =>
          (x4 = 0 →
            Q (0 : Int32) w3) ∧
          (¬ x4 = 0 →
            Q (1 : Int32) w3)))))) :
  qCall (some s) (d + 1) 34 [.ref 2, .int i1, .int i2] w (qQi Q) := qCall_of (cd := c_State_isPair) (mL := 3) rfl u_State_isPair [] 15 h

set_option maxRecDepth 100000 in
theorem A_X_feed {s : Nat × (Nat → Int32)} {d : Nat} {w : qW} {Q : Int32 → qW → Prop} {i1 : Int32} {i2 : Int32} {i3 : Int32} {i4 : Int32} {i5 : Int32} (h :
  qCall (some s) d 36 [.ref 25, .int (20 : Int32)] w (qQi fun x2 w1 =>
    (¬ x2 = 0 →
      qCall (some s) d 37 [.ref 25, .int i1] w1 (qQv fun w3 =>
        qCall (some s) d 37 [.ref 25, .int i2] w3 (qQv fun w4 =>
          qCall (some s) d 37 [.ref 25, .int i3] w4 (qQv fun w5 =>
            qCall (some s) d 37 [.ref 25, .int i4] w5 (qQv fun w6 =>
              qCall (some s) d 37 [.ref 25, .int i5] w6 (qQv fun w7 =>
                Q (w7.1 25 1) w7)))))) ∧
    (x2 = 0 →
      Q (-1 : Int32) w1))) :
  qCall (some s) (d + 1) 35 [.ref 1, .int i1, .int i2, .int i3, .int i4, .int i5] w (qQi Q) := qCall_of (cd := c_X_feed) (mL := 6) rfl u_X_feed [] 30 h

set_option maxRecDepth 100000 in
theorem A_Reader_hasRoom {s : Nat × (Nat → Int32)} {d : Nat} {w : qW} {Q : Int32 → qW → Prop} {i1 : Int32} (h :
  ((300 : Int32) < ((w.1 25 1) + i1) →
    Q (0 : Int32) w) ∧
  (¬ (300 : Int32) < ((w.1 25 1) + i1) →
    Q (1 : Int32) w)) :
  qCall (some s) (d + 1) 36 [.ref 25, .int i1] w (qQi Q) := qCall_of (cd := c_Reader_hasRoom) (mL := 2) rfl u_Reader_hasRoom [] 10 h

set_option maxRecDepth 100000 in
theorem A_Reader_addFour {s : Nat × (Nat → Int32)} {d : Nat} {w : qW} {Q : qW → Prop} {i1 : Int32} (h :
  qAt s d c_Reader_addFour (qQv Q) 3 [some (.ref 25), some (.int i1), some (.int (24 : Int32))] [] w) :
  qCall (some s) (d + 1) 37 [.ref 25, .int i1] w (qQv Q) := qCall_of (cd := c_Reader_addFour) (mL := 3) rfl u_Reader_addFour [(3, [true, true, true])] 4 h
set_option maxRecDepth 100000 in
theorem A_Reader_addFour_3 {s : Nat × (Nat → Int32)} {d : Nat} {w : qW} {Q : qW → Prop} {i1 : Int32} {i2 : Int32} (h :
  (i2 < 0 →
    Q w) ∧
  (¬ i2 < 0 →
    ((w.1 25 1) < 0 →
      qAt s d c_Reader_addFour (qQv Q) 3 [some (.ref 25), some (.int i1), some (.int (i2 + (-8 : Int32)))] [] w) ∧
    (¬ (w.1 25 1) < 0 →
      ((300 : Int32) ≤ (w.1 25 1) →
        qAt s d c_Reader_addFour (qQv Q) 3 [some (.ref 25), some (.int i1), some (.int (i2 + (-8 : Int32)))] [] w) ∧
      (¬ (300 : Int32) ≤ (w.1 25 1) →
        qIn (w.1 25 1) 300 ∧
        (qAt s d c_Reader_addFour (qQv Q) 3 [some (.ref 25), some (.int i1), some (.int (i2 + (-8 : Int32)))] [] (qPutI (qPutI w 26 (qIx (w.1 25 1)) ((qUshr i1 i2) &&& (255 : Int32))) 25 1 ((w.1 25 1) + (1 : Int32)))))))) :
  qAt s d c_Reader_addFour (qQv Q) 3 [some (.ref 25), some (.int i1), some (.int i2)] [] w := qAt_of u_Reader_addFour [(3, [true, true, true])] 29 h

set_option maxRecDepth 100000 in
theorem A_X_end {s : Nat × (Nat → Int32)} {d : Nat} {w : qW} {Q : Int32 → qW → Prop} {i1 : Int32} (h :
  (i1 < 0 →
    Q (-1 : Int32) w) ∧
  (¬ i1 < 0 →
    (i1 ≤ (w.1 25 1) →
      Q i1 (qPutI w 25 1 i1)) ∧
    (¬ i1 ≤ (w.1 25 1) →
      Q (-1 : Int32) w))) :
  qCall (some s) (d + 1) 38 [.ref 1, .int i1] w (qQi Q) := qCall_of (cd := c_X_end) (mL := 2) rfl u_X_end [] 14 h

set_option maxRecDepth 100000 in
theorem A_X_text {s : Nat × (Nat → Int32)} {d : Nat} {w : qW} {Q : Int32 → qW → Prop}  (h :
  ((w.1 2 6) < 0 →
    Q (-1 : Int32) w) ∧
  (¬ (w.1 2 6) < 0 →
    ((w.1 2 6) < (4 : Int32) →
      qIn (w.1 2 6) 4 ∧ ∃ u1, qR0 24 (qIx (w.1 2 6)) = some u1 ∧
      (qCall (some s) d 40 [.ref 25, .ref u1] w (qQi fun x3 w2 =>
        (¬ x3 = 0 →
          Q (w.1 2 6) (qPutI (qPutI w2 25 1 (0 : Int32)) 2 6 ((w2.1 2 6) + (1 : Int32)))) ∧
        (x3 = 0 →
          Q (-1 : Int32) (qPutI w2 25 1 (0 : Int32)))))) ∧
    (¬ (w.1 2 6) < (4 : Int32) →
      Q (-1 : Int32) w))) :
  qCall (some s) (d + 1) 39 [.ref 1] w (qQi Q) := qCall_of (cd := c_X_text) (mL := 3) rfl u_X_text [] 33 h

set_option maxRecDepth 100000 in
theorem A_Reader_readAll {s : Nat × (Nat → Int32)} {d : Nat} {w : qW} {Q : Int32 → qW → Prop} {t1 : Nat} (h :
  ∃ u1, (qPutR w 25 4 (some t1)).2.2.1 25 4 = some u1 ∧ (qB (qAl (some s) (qPutR w 25 4 (some t1)) u1 4) (qCall (some s) d 41 [.ref u1] (qPutR w 25 4 (some t1)) (qQv fun w2 =>
    qCall (some s) d 42 [.ref 25] (qPutI (qPutI (qPutI w2 25 2 (0 : Int32)) 25 3 (-1 : Int32)) 25 8 (0 : Int32)) (qQv fun w3 =>
      qAt s d c_Reader_readAll (qQi Q) 33 [some (.ref 25), none, some (.int (0 : Int32))] [] w3))))) :
  qCall (some s) (d + 1) 40 [.ref 25, .ref t1] w (qQi Q) := qCall_of (cd := c_Reader_readAll) (mL := 3) rfl u_Reader_readAll [(33, [true, false, true])] 21 h
set_option maxRecDepth 100000 in
theorem A_Reader_readAll_33 {s : Nat × (Nat → Int32)} {d : Nat} {w : qW} {Q : Int32 → qW → Prop} {i2 : Int32} (h :
  ((24 : Int32) < i2 →
    (¬ (w.1 25 2) = 0 →
      Q (0 : Int32) w) ∧
    ((w.1 25 2) = 0 →
      Q (1 : Int32) w)) ∧
  (¬ (24 : Int32) < i2 →
    ((w.1 25 6) = 0 →
      (¬ (w.1 25 2) = 0 →
        Q (0 : Int32) w) ∧
      ((w.1 25 2) = 0 →
        Q (1 : Int32) w)) ∧
    (¬ (w.1 25 6) = 0 →
      (¬ (w.1 25 2) = 0 →
        (¬ (w.1 25 2) = 0 →
          Q (0 : Int32) w) ∧
        ((w.1 25 2) = 0 →
          Q (1 : Int32) w)) ∧
      ((w.1 25 2) = 0 →
        qCall (some s) d 66 [.ref 25, .int i2] w (qQi fun x2 w1 =>
          qAt s d c_Reader_readAll (qQi Q) 33 [some (.ref 25), none, some (.int (i2 + (1 : Int32)))] [] w1))))) :
  qAt s d c_Reader_readAll (qQi Q) 33 [some (.ref 25), none, some (.int i2)] [] w := qAt_of u_Reader_readAll [(33, [true, false, true])] 17 h

set_option maxRecDepth 100000 in
theorem A_Text_clear_27 {s : Nat × (Nat → Int32)} {d : Nat} {w : qW} {Q : qW → Prop}  (h :
  Q (qPutI (qPutI (qPutI (qPutI w 27 0 (0 : Int32)) 27 1 (0 : Int32)) 27 2 (-1 : Int32)) 27 3 (0 : Int32))) :
  qCall (some s) (d + 1) 41 [.ref 27] w (qQv Q) := qCall_of (cd := c_Text_clear) (mL := 1) rfl u_Text_clear [] 14 h

set_option maxRecDepth 100000 in
theorem A_Text_clear_32 {s : Nat × (Nat → Int32)} {d : Nat} {w : qW} {Q : qW → Prop}  (h :
  Q (qPutI (qPutI (qPutI (qPutI w 32 0 (0 : Int32)) 32 1 (0 : Int32)) 32 2 (-1 : Int32)) 32 3 (0 : Int32))) :
  qCall (some s) (d + 1) 41 [.ref 32] w (qQv Q) := qCall_of (cd := c_Text_clear) (mL := 1) rfl u_Text_clear [] 14 h

set_option maxRecDepth 100000 in
theorem A_Text_clear_37 {s : Nat × (Nat → Int32)} {d : Nat} {w : qW} {Q : qW → Prop}  (h :
  Q (qPutI (qPutI (qPutI (qPutI w 37 0 (0 : Int32)) 37 1 (0 : Int32)) 37 2 (-1 : Int32)) 37 3 (0 : Int32))) :
  qCall (some s) (d + 1) 41 [.ref 37] w (qQv Q) := qCall_of (cd := c_Text_clear) (mL := 1) rfl u_Text_clear [] 14 h

set_option maxRecDepth 100000 in
theorem A_Text_clear_42 {s : Nat × (Nat → Int32)} {d : Nat} {w : qW} {Q : qW → Prop}  (h :
  Q (qPutI (qPutI (qPutI (qPutI w 42 0 (0 : Int32)) 42 1 (0 : Int32)) 42 2 (-1 : Int32)) 42 3 (0 : Int32))) :
  qCall (some s) (d + 1) 41 [.ref 42] w (qQv Q) := qCall_of (cd := c_Text_clear) (mL := 1) rfl u_Text_clear [] 14 h

set_option maxRecDepth 100000 in
theorem A_Reader_advance {s : Nat × (Nat → Int32)} {d : Nat} {w : qW} {Q : qW → Prop}  (h :
  qAt s d c_Reader_advance (qQv Q) 5 [some (.ref 25), some (.int (w.1 25 8)), none] [] w) :
  qCall (some s) (d + 1) 42 [.ref 25] w (qQv Q) := qCall_of (cd := c_Reader_advance) (mL := 3) rfl u_Reader_advance [(5, [true, true, false]), (39, [true, true, false]), (87, [true, false, false]), (145, [true, false, false]), (224, [true, false, true]), (259, [true, false, true])] 5 h
set_option maxRecDepth 100000 in
theorem A_Reader_advance_5 {s : Nat × (Nat → Int32)} {d : Nat} {w : qW} {Q : qW → Prop} {i1 : Int32} (h :
  ((w.1 25 1) ≤ i1 →
    qAt s d c_Reader_advance (qQv Q) 39 [some (.ref 25), some (.int i1), none] [] w) ∧
  (¬ (w.1 25 1) ≤ i1 →
    qCall (some s) d 43 [.ref 25, .int i1] w (qQi fun x2 w1 =>
      (x2 = (32 : Int32) →
        qAt s d c_Reader_advance (qQv Q) 5 [some (.ref 25), some (.int (i1 + (1 : Int32))), none] [] w1) ∧
      (¬ x2 = (32 : Int32) →
        qCall (some s) d 43 [.ref 25, .int i1] w1 (qQi fun x4 w3 =>
          (¬ x4 = (10 : Int32) →
            qAt s d c_Reader_advance (qQv Q) 39 [some (.ref 25), some (.int i1), none] [] w3) ∧
          (x4 = (10 : Int32) →
            qAt s d c_Reader_advance (qQv Q) 5 [some (.ref 25), some (.int (i1 + (1 : Int32))), none] [] w3)))))) :
  qAt s d c_Reader_advance (qQv Q) 5 [some (.ref 25), some (.int i1), none] [] w := qAt_of u_Reader_advance [(5, [true, true, false]), (39, [true, true, false]), (87, [true, false, false]), (145, [true, false, false]), (224, [true, false, true]), (259, [true, false, true])] 18 h
set_option maxRecDepth 100000 in
theorem A_Reader_advance_39 {s : Nat × (Nat → Int32)} {d : Nat} {w : qW} {Q : qW → Prop} {i1 : Int32} (h :
  qCall (some s) d 43 [.ref 25, .int i1] (qPutI w 25 7 i1) (qQi fun x2 w1 =>
    (¬ x2 = (-1 : Int32) →
      qCall (some s) d 44 [.int x2] (qPutI w1 25 8 (i1 + (1 : Int32))) (qQi fun x4 w3 =>
        (x4 = 0 →
          qCall (some s) d 45 [.int x2] w3 (qQi fun x6 w5 =>
            (x6 = 0 →
              (x2 = (60 : Int32) →
                qAt s d c_Reader_advance (qQv Q) 224 [some (.ref 25), none, some (.int x2)] [] w5) ∧
              (¬ x2 = (60 : Int32) →
                (¬ x2 = (62 : Int32) →
                  qAt s d c_Reader_advance (qQv Q) 259 [some (.ref 25), none, some (.int x2)] [] w5) ∧
                (x2 = (62 : Int32) →
                  qAt s d c_Reader_advance (qQv Q) 224 [some (.ref 25), none, some (.int x2)] [] w5))) ∧
            (¬ x6 = 0 →
              qAt s d c_Reader_advance (qQv Q) 145 [some (.ref 25), none, none] [] (qPutI (qPutI w5 25 6 (2 : Int32)) 25 9 (x2 - (48 : Int32)))))) ∧
        (¬ x4 = 0 →
          qAt s d c_Reader_advance (qQv Q) 87 [some (.ref 25), none, none] [] (qPutI w3 25 6 (1 : Int32))))) ∧
    (x2 = (-1 : Int32) →
      Q (qPutI (qPutI (qPutI w1 25 8 (i1 + (1 : Int32))) 25 6 (0 : Int32)) 25 8 i1)))) :
  qAt s d c_Reader_advance (qQv Q) 39 [some (.ref 25), some (.int i1), none] [] w := qAt_of u_Reader_advance [(5, [true, true, false]), (39, [true, true, false]), (87, [true, false, false]), (145, [true, false, false]), (224, [true, false, true]), (259, [true, false, true])] 31 h
set_option maxRecDepth 100000 in
theorem A_Reader_advance_224 {s : Nat × (Nat → Int32)} {d : Nat} {w : qW} {Q : qW → Prop} {i2 : Int32} (h :
  qCall (some s) d 43 [.ref 25, .int (w.1 25 8)] w (qQi fun x2 w1 =>
    (¬ x2 = (61 : Int32) →
      qAt s d c_Reader_advance (qQv Q) 259 [some (.ref 25), none, some (.int i2)] [] w1) ∧
    (x2 = (61 : Int32) →
      Q (qPutI (qPutI w1 25 6 ((256 : Int32) + i2)) 25 8 ((w1.1 25 8) + (1 : Int32)))))) :
  qAt s d c_Reader_advance (qQv Q) 224 [some (.ref 25), none, some (.int i2)] [] w := qAt_of u_Reader_advance [(5, [true, true, false]), (39, [true, true, false]), (87, [true, false, false]), (145, [true, false, false]), (224, [true, false, true]), (259, [true, false, true])] 20 h
set_option maxRecDepth 100000 in
theorem A_Reader_advance_259 {s : Nat × (Nat → Int32)} {d : Nat} {w : qW} {Q : qW → Prop} {i2 : Int32} (h :
  ((qIof (qSt (1000 - 1000)) (qI2c i2) 0) < 0 →
    Q (qPutI w 25 6 (3 : Int32))) ∧
  (¬ (qIof (qSt (1000 - 1000)) (qI2c i2) 0) < 0 →
    Q (qPutI w 25 6 i2))) :
  qAt s d c_Reader_advance (qQv Q) 259 [some (.ref 25), none, some (.int i2)] [] w := qAt_of u_Reader_advance [(5, [true, true, false]), (39, [true, true, false]), (87, [true, false, false]), (145, [true, false, false]), (224, [true, false, true]), (259, [true, false, true])] 11 h
set_option maxRecDepth 100000 in
theorem A_Reader_advance_145 {s : Nat × (Nat → Int32)} {d : Nat} {w : qW} {Q : qW → Prop}  (h :
  ((w.1 25 1) ≤ (w.1 25 8) →
    Q w) ∧
  (¬ (w.1 25 1) ≤ (w.1 25 8) →
    qCall (some s) d 43 [.ref 25, .int (w.1 25 8)] w (qQi fun x2 w1 =>
      qCall (some s) d 45 [.int x2] w1 (qQi fun x4 w3 =>
        (x4 = 0 →
          Q w3) ∧
        (¬ x4 = 0 →
          qCall (some s) d 43 [.ref 25, .int (w3.1 25 8)] w3 (qQi fun x6 w5 =>
            qCall (some s) d 23 [.int (10000 : Int32), .int ((((w3.1 25 9) * (10 : Int32)) + x6) - (48 : Int32))] w5 (qQi fun x8 w7 =>
              qAt s d c_Reader_advance (qQv Q) 145 [some (.ref 25), none, none] [] (qPutI (qPutI w7 25 9 x8) 25 8 ((w7.1 25 8) + (1 : Int32)))))))))) :
  qAt s d c_Reader_advance (qQv Q) 145 [some (.ref 25), none, none] [] w := qAt_of u_Reader_advance [(5, [true, true, false]), (39, [true, true, false]), (87, [true, false, false]), (145, [true, false, false]), (224, [true, false, true]), (259, [true, false, true])] 35 h
set_option maxRecDepth 100000 in
theorem A_Reader_advance_87 {s : Nat × (Nat → Int32)} {d : Nat} {w : qW} {Q : qW → Prop}  (h :
  ((w.1 25 1) ≤ (w.1 25 8) →
    Q w) ∧
  (¬ (w.1 25 1) ≤ (w.1 25 8) →
    qCall (some s) d 43 [.ref 25, .int (w.1 25 8)] w (qQi fun x2 w1 =>
      qCall (some s) d 44 [.int x2] w1 (qQi fun x4 w3 =>
        (x4 = 0 →
          Q w3) ∧
        (¬ x4 = 0 →
          qAt s d c_Reader_advance (qQv Q) 87 [some (.ref 25), none, none] [] (qPutI w3 25 8 ((w3.1 25 8) + (1 : Int32)))))))) :
  qAt s d c_Reader_advance (qQv Q) 87 [some (.ref 25), none, none] [] w := qAt_of u_Reader_advance [(5, [true, true, false]), (39, [true, true, false]), (87, [true, false, false]), (145, [true, false, false]), (224, [true, false, true]), (259, [true, false, true])] 20 h

set_option maxRecDepth 100000 in
theorem A_Reader_byteAt {s : Nat × (Nat → Int32)} {d : Nat} {w : qW} {Q : Int32 → qW → Prop} {i1 : Int32} (h :
  (i1 < 0 →
    Q (-1 : Int32) w) ∧
  (¬ i1 < 0 →
    ((w.1 25 1) ≤ i1 →
      Q (-1 : Int32) w) ∧
    (¬ (w.1 25 1) ≤ i1 →
      ((300 : Int32) ≤ i1 →
        Q (-1 : Int32) w) ∧
      (¬ (300 : Int32) ≤ i1 →
        qIn i1 300 ∧
        (Q (w.1 26 (qIx i1)) w))))) :
  qCall (some s) (d + 1) 43 [.ref 25, .int i1] w (qQi Q) := qCall_of (cd := c_Reader_byteAt) (mL := 2) rfl u_Reader_byteAt [] 16 h

set_option maxRecDepth 100000 in
theorem A_Reader_isLetter {s : Nat × (Nat → Int32)} {d : Nat} {w : qW} {Q : Int32 → qW → Prop} {i0 : Int32} (h :
  (i0 < (97 : Int32) →
    qAt s d c_Reader_isLetter (qQi Q) 12 [some (.int i0)] [] w) ∧
  (¬ i0 < (97 : Int32) →
    (i0 ≤ (122 : Int32) →
      Q (1 : Int32) w) ∧
    (¬ i0 ≤ (122 : Int32) →
      qAt s d c_Reader_isLetter (qQi Q) 12 [some (.int i0)] [] w))) :
  qCall (some s) (d + 1) 44 [.int i0] w (qQi Q) := qCall_of (cd := c_Reader_isLetter) (mL := 1) rfl u_Reader_isLetter [(12, [true])] 10 h
set_option maxRecDepth 100000 in
theorem A_Reader_isLetter_12 {s : Nat × (Nat → Int32)} {d : Nat} {w : qW} {Q : Int32 → qW → Prop} {i0 : Int32} (h :
  (i0 < (65 : Int32) →
    Q (0 : Int32) w) ∧
  (¬ i0 < (65 : Int32) →
    ((90 : Int32) < i0 →
      Q (0 : Int32) w) ∧
    (¬ (90 : Int32) < i0 →
      Q (1 : Int32) w))) :
  qAt s d c_Reader_isLetter (qQi Q) 12 [some (.int i0)] [] w := qAt_of u_Reader_isLetter [(12, [true])] 10 h

set_option maxRecDepth 100000 in
theorem A_Reader_isDigit {s : Nat × (Nat → Int32)} {d : Nat} {w : qW} {Q : Int32 → qW → Prop} {i0 : Int32} (h :
  (i0 < (48 : Int32) →
    Q (0 : Int32) w) ∧
  (¬ i0 < (48 : Int32) →
    ((57 : Int32) < i0 →
      Q (0 : Int32) w) ∧
    (¬ (57 : Int32) < i0 →
      Q (1 : Int32) w))) :
  qCall (some s) (d + 1) 45 [.int i0] w (qQi Q) := qCall_of (cd := c_Reader_isDigit) (mL := 1) rfl u_Reader_isDigit [] 10 h

set_option maxRecDepth 100000 in
theorem A_Reader_readClause {s : Nat × (Nat → Int32)} {d : Nat} {w : qW} {Q : Int32 → qW → Prop} {i1 : Int32} (h :
  qCall (some s) d 67 [.ref 25] w (qQi fun x2 w1 =>
    (¬ x2 = 0 →
      (¬ x2 = (2 : Int32) →
        qAt s d c_Reader_readClause (qQi Q) 37 [some (.ref 25), some (.int i1), some (.int x2), none, none] [] w1) ∧
      (x2 = (2 : Int32) →
        ∃ u3, w1.2.2.1 25 4 = some u3 ∧ (qB (qAl (some s) w1 u3 4) (((w1.1 u3 2) = (-1 : Int32) →
          qAt s d c_Reader_readClause (qQi Q) 37 [some (.ref 25), some (.int i1), some (.int x2), none, none] [] w1) ∧
        (¬ (w1.1 u3 2) = (-1 : Int32) →
          qCall (some s) d 75 [.ref 25, .int (4 : Int32)] w1 (qQi fun x5 w4 =>
            qB (qZb x5) (Q x5 w4))))))) ∧
    (x2 = 0 →
      qCall (some s) d 75 [.ref 25, .int (1 : Int32)] w1 (qQi fun x7 w6 =>
        qB (qZb x7) (Q x7 w6))))) :
  qCall (some s) (d + 1) 66 [.ref 25, .int i1] w (qQi Q) := qCall_of (cd := c_Reader_readClause) (mL := 5) rfl u_Reader_readClause [(37, [true, true, true, false, false]), (128, [true, false, true, false, false]), (158, [true, false, true, true, false])] 18 h
set_option maxRecDepth 100000 in
theorem A_Reader_readClause_37 {s : Nat × (Nat → Int32)} {d : Nat} {w : qW} {Q : Int32 → qW → Prop} {i1 : Int32} {i2 : Int32} (h :
  (i1 < (24 : Int32) →
    qCall (some s) d 42 [.ref 25] w (qQv fun w1 =>
      (¬ i2 = (3 : Int32) →
        (¬ i2 = (4 : Int32) →
          (¬ i2 = (2 : Int32) →
            qAt s d c_Reader_readClause (qQi Q) 128 [some (.ref 25), none, some (.int i2), none, none] [.int (0 : Int32), .ref 25] w1) ∧
          (i2 = (2 : Int32) →
            qAt s d c_Reader_readClause (qQi Q) 128 [some (.ref 25), none, some (.int i2), none, none] [.int (1 : Int32), .ref 25] w1)) ∧
        (i2 = (4 : Int32) →
          qCall (some s) d 76 [.ref 25, .int i2, .int (0 : Int32), .int (11 : Int32)] w1 (qQi fun x3 w2 =>
            (x3 = 0 →
              Q (0 : Int32) w2) ∧
            (¬ x3 = 0 →
              qCall (some s) d 79 [.ref 25, .int (59 : Int32)] w2 (qQi fun x5 w4 =>
                (x5 = 0 →
                  Q (0 : Int32) w4) ∧
                (¬ x5 = 0 →
                  Q (1 : Int32) w4)))))) ∧
      (i2 = (3 : Int32) →
        qCall (some s) d 76 [.ref 25, .int i2, .int (1 : Int32), .int (9999 : Int32)] w1 (qQi fun x7 w6 =>
          (x7 = 0 →
            Q (0 : Int32) w6) ∧
          (¬ x7 = 0 →
            qCall (some s) d 79 [.ref 25, .int (59 : Int32)] w6 (qQi fun x9 w8 =>
              (x9 = 0 →
                Q (0 : Int32) w8) ∧
              (¬ x9 = 0 →
                Q (1 : Int32) w8))))))) ∧
  (¬ i1 < (24 : Int32) →
    qCall (some s) d 75 [.ref 25, .int (6 : Int32)] w (qQi fun x11 w10 =>
      qB (qZb x11) (Q x11 w10)))) :
  qAt s d c_Reader_readClause (qQi Q) 37 [some (.ref 25), some (.int i1), some (.int i2), none, none] [] w := qAt_of u_Reader_readClause [(37, [true, true, true, false, false]), (128, [true, false, true, false, false]), (158, [true, false, true, true, false])] 25 h
set_option maxRecDepth 100000 in
theorem A_Reader_readClause_128 {s : Nat × (Nat → Int32)} {d : Nat} {w : qW} {Q : Int32 → qW → Prop} {i2 : Int32} {is0 : Int32} (h :
  qB (qZb is0) (∃ u1, (qPutI w 25 5 is0).2.2.1 25 4 = some u1 ∧ (qB (qAl (some s) (qPutI w 25 5 is0) u1 4) ((is0 = 0 →
    qCall (some s) d 86 [.ref 25] (qPutI w 25 5 is0) (qQi fun x3 w2 =>
      qAt s d c_Reader_readClause (qQi Q) 158 [some (.ref 25), none, some (.int i2), some (.int ((qPutI w 25 5 is0).1 u1 3)), none] [.int x3] w2)) ∧
  (¬ is0 = 0 →
    qCall (some s) d 80 [.ref 25, .int (0 : Int32)] (qPutI w 25 5 is0) (qQi fun x5 w4 =>
      qAt s d c_Reader_readClause (qQi Q) 158 [some (.ref 25), none, some (.int i2), some (.int ((qPutI w 25 5 is0).1 u1 3)), none] [.int x5] w4)))))) :
  qAt s d c_Reader_readClause (qQi Q) 128 [some (.ref 25), none, some (.int i2), none, none] [.int is0, .ref 25] w := qAt_of u_Reader_readClause [(37, [true, true, true, false, false]), (128, [true, false, true, false, false]), (158, [true, false, true, true, false])] 14 h
set_option maxRecDepth 100000 in
theorem A_Reader_readClause_158 {s : Nat × (Nat → Int32)} {d : Nat} {w : qW} {Q : Int32 → qW → Prop} {i2 : Int32} {i3 : Int32} {is0 : Int32} (h :
  ∃ u1, w.2.2.1 25 4 = some u1 ∧ (∃ u2, w.2.2.1 25 4 = some u2 ∧ (qB (qAl (some s) w u2 4) (qB (qAl (some s) w u1 4) (qCall (some s) d 78 [.ref u1, .int i2, .int i3, .int (w.1 u2 3)] w (qQv fun w3 =>
    (is0 = 0 →
      Q (0 : Int32) w3) ∧
    (¬ is0 = 0 →
      qCall (some s) d 79 [.ref 25, .int (59 : Int32)] w3 (qQi fun x5 w4 =>
        (x5 = 0 →
          Q (0 : Int32) w4) ∧
        (¬ x5 = 0 →
          Q (1 : Int32) w4))))))))) :
  qAt s d c_Reader_readClause (qQi Q) 158 [some (.ref 25), none, some (.int i2), some (.int i3), none] [.int is0] w := qAt_of u_Reader_readClause [(37, [true, true, true, false, false]), (128, [true, false, true, false, false]), (158, [true, false, true, true, false])] 19 h

set_option maxRecDepth 100000 in
theorem A_Reader_clauseKind {s : Nat × (Nat → Int32)} {d : Nat} {w : qW} {Q : Int32 → qW → Prop}  (h :
  qCall (some s) d 68 [.ref 25, .ref 1001] w (qQi fun x2 w1 =>
    (x2 = 0 →
      qCall (some s) d 68 [.ref 25, .ref 1002] w1 (qQi fun x4 w3 =>
        (x4 = 0 →
          qCall (some s) d 68 [.ref 25, .ref 1003] w3 (qQi fun x6 w5 =>
            (x6 = 0 →
              qCall (some s) d 68 [.ref 25, .ref 1004] w5 (qQi fun x8 w7 =>
                (x8 = 0 →
                  Q (0 : Int32) w7) ∧
                (¬ x8 = 0 →
                  Q (4 : Int32) w7))) ∧
            (¬ x6 = 0 →
              Q (3 : Int32) w5))) ∧
        (¬ x4 = 0 →
          Q (2 : Int32) w3))) ∧
    (¬ x2 = 0 →
      Q (1 : Int32) w1))) :
  qCall (some s) (d + 1) 67 [.ref 25] w (qQi Q) := qCall_of (cd := c_Reader_clauseKind) (mL := 1) rfl u_Reader_clauseKind [] 20 h

set_option maxRecDepth 100000 in
theorem A_Reader_isWord {s : Nat × (Nat → Int32)} {d : Nat} {w : qW} {Q : Int32 → qW → Prop} {t1 : Nat} (h :
  (¬ (w.1 25 6) = (1 : Int32) →
    Q (0 : Int32) w) ∧
  ((w.1 25 6) = (1 : Int32) →
    qB (qStr t1) ((¬ ((w.1 25 8) - (w.1 25 7)) = (Int32.ofNat (qSt (t1 - 1000)).length) →
      Q (0 : Int32) w) ∧
    (((w.1 25 8) - (w.1 25 7)) = (Int32.ofNat (qSt (t1 - 1000)).length) →
      ((w.1 25 8) ≤ (300 : Int32) →
        qAt s d c_Reader_isWord (qQi Q) 38 [some (.ref 25), some (.ref t1), some (.int (0 : Int32))] [] w) ∧
      (¬ (w.1 25 8) ≤ (300 : Int32) →
        Q (0 : Int32) w))))) :
  qCall (some s) (d + 1) 68 [.ref 25, .ref t1] w (qQi Q) := qCall_of (cd := c_Reader_isWord) (mL := 3) rfl u_Reader_isWord [(38, [true, true, true])] 20 h
set_option maxRecDepth 100000 in
theorem A_Reader_isWord_38 {s : Nat × (Nat → Int32)} {d : Nat} {w : qW} {Q : Int32 → qW → Prop} {t1 : Nat} {i2 : Int32} (h :
  qB (qStr t1) (((Int32.ofNat (qSt (t1 - 1000)).length) ≤ i2 →
    Q (1 : Int32) w) ∧
  (¬ (Int32.ofNat (qSt (t1 - 1000)).length) ≤ i2 →
    qIn ((w.1 25 7) + i2) 300 ∧
    (qB (qStr t1) (qIn i2 (qSt (t1 - 1000)).length ∧
    (((w.1 26 (qIx ((w.1 25 7) + i2))) = (Int32.ofNat ((qSt (t1 - 1000)).getD (qIx i2) 0)) →
      qAt s d c_Reader_isWord (qQi Q) 38 [some (.ref 25), some (.ref t1), some (.int (i2 + (1 : Int32)))] [] w) ∧
    (¬ (w.1 26 (qIx ((w.1 25 7) + i2))) = (Int32.ofNat ((qSt (t1 - 1000)).getD (qIx i2) 0)) →
      Q (0 : Int32) w))))))) :
  qAt s d c_Reader_isWord (qQi Q) 38 [some (.ref 25), some (.ref t1), some (.int i2)] [] w := qAt_of u_Reader_isWord [(38, [true, true, true])] 19 h

set_option maxRecDepth 100000 in
theorem A_Reader_fail {s : Nat × (Nat → Int32)} {d : Nat} {w : qW} {Q : Int32 → qW → Prop} {i1 : Int32} (h :
  Q (0 : Int32) (qPutI (qPutI w 25 2 i1) 25 3 (w.1 25 7))) :
  qCall (some s) (d + 1) 75 [.ref 25, .int i1] w (qQi Q) := qCall_of (cd := c_Reader_fail) (mL := 2) rfl u_Reader_fail [] 10 h

set_option maxRecDepth 100000 in
theorem A_Reader_readTwo {s : Nat × (Nat → Int32)} {d : Nat} {w : qW} {Q : Int32 → qW → Prop} {i1 : Int32} {i2 : Int32} {i3 : Int32} (h :
  qCall (some s) d 77 [.ref 25, .int i2, .int i3] w (qQi fun x2 w1 =>
    (¬ x2 = 0 →
      qCall (some s) d 42 [.ref 25] w1 (qQv fun w3 =>
        (¬ i1 = (3 : Int32) →
          (¬ (w3.1 25 6) = (44 : Int32) →
            qAt s d c_Reader_readTwo (qQi Q) 49 [some (.ref 25), some (.int i1), none, some (.int i3), some (.int (w1.1 25 9)), none] [.int (0 : Int32)] w3) ∧
          ((w3.1 25 6) = (44 : Int32) →
            qAt s d c_Reader_readTwo (qQi Q) 49 [some (.ref 25), some (.int i1), none, some (.int i3), some (.int (w1.1 25 9)), none] [.int (1 : Int32)] w3)) ∧
        (i1 = (3 : Int32) →
          qCall (some s) d 68 [.ref 25, .ref 1005] w3 (qQi fun x5 w4 =>
            qAt s d c_Reader_readTwo (qQi Q) 49 [some (.ref 25), some (.int i1), none, some (.int i3), some (.int (w1.1 25 9)), none] [.int x5] w4)))) ∧
    (x2 = 0 →
      Q (0 : Int32) w1))) :
  qCall (some s) (d + 1) 76 [.ref 25, .int i1, .int i2, .int i3] w (qQi Q) := qCall_of (cd := c_Reader_readTwo) (mL := 6) rfl u_Reader_readTwo [(49, [true, true, false, true, true, false])] 21 h
set_option maxRecDepth 100000 in
theorem A_Reader_readTwo_49 {s : Nat × (Nat → Int32)} {d : Nat} {w : qW} {Q : Int32 → qW → Prop} {i1 : Int32} {i3 : Int32} {i4 : Int32} {is0 : Int32} (h :
  (¬ is0 = 0 →
    qCall (some s) d 42 [.ref 25] w (qQv fun w1 =>
      qCall (some s) d 77 [.ref 25, .int (0 : Int32), .int i3] w1 (qQi fun x3 w2 =>
        (¬ x3 = 0 →
          ∃ u4, w2.2.2.1 25 4 = some u4 ∧ (qB (qAl (some s) w2 u4 4) (qCall (some s) d 78 [.ref u4, .int i1, .int i4, .int (w2.1 25 9)] w2 (qQv fun w5 =>
            qCall (some s) d 42 [.ref 25] w5 (qQv fun w6 =>
              Q (1 : Int32) w6))))) ∧
        (x3 = 0 →
          Q (0 : Int32) w2)))) ∧
  (is0 = 0 →
    qCall (some s) d 75 [.ref 25, .int (1 : Int32)] w (qQi fun x8 w7 =>
      qB (qZb x8) (Q x8 w7)))) :
  qAt s d c_Reader_readTwo (qQi Q) 49 [some (.ref 25), some (.int i1), none, some (.int i3), some (.int i4), none] [.int is0] w := qAt_of u_Reader_readTwo [(49, [true, true, false, true, true, false])] 22 h

set_option maxRecDepth 100000 in
theorem A_Reader_isNumberOf {s : Nat × (Nat → Int32)} {d : Nat} {w : qW} {Q : Int32 → qW → Prop} {i1 : Int32} {i2 : Int32} (h :
  ((w.1 25 6) = (2 : Int32) →
    ((w.1 25 9) < i1 →
      qCall (some s) d 75 [.ref 25, .int (2 : Int32)] w (qQi fun x2 w1 =>
        (x2 = 0 →
          Q (0 : Int32) w1) ∧
        (¬ x2 = 0 →
          Q (1 : Int32) w1))) ∧
    (¬ (w.1 25 9) < i1 →
      ((w.1 25 9) ≤ i2 →
        Q (1 : Int32) w) ∧
      (¬ (w.1 25 9) ≤ i2 →
        qCall (some s) d 75 [.ref 25, .int (2 : Int32)] w (qQi fun x4 w3 =>
          (x4 = 0 →
            Q (0 : Int32) w3) ∧
          (¬ x4 = 0 →
            Q (1 : Int32) w3))))) ∧
  (¬ (w.1 25 6) = (2 : Int32) →
    qCall (some s) d 75 [.ref 25, .int (1 : Int32)] w (qQi fun x6 w5 =>
      qB (qZb x6) (Q x6 w5)))) :
  qCall (some s) (d + 1) 77 [.ref 25, .int i1, .int i2] w (qQi Q) := qCall_of (cd := c_Reader_isNumberOf) (mL := 3) rfl u_Reader_isNumberOf [] 20 h

set_option maxRecDepth 100000 in
theorem A_Text_addClause_27 {s : Nat × (Nat → Int32)} {d : Nat} {w : qW} {Q : qW → Prop} {i1 : Int32} {i2 : Int32} {i3 : Int32} (h :
  ((w.1 27 0) < 0 →
    Q w) ∧
  (¬ (w.1 27 0) < 0 →
    ((w.1 27 0) < (24 : Int32) →
      qIn (w.1 27 0) 24 ∧
      (qIn (w.1 27 0) 24 ∧
      (qIn (w.1 27 0) 24 ∧
      ((¬ i1 = (1 : Int32) →
        qAt s d c_Text_addClause (qQv Q) 62 [some (.ref 27), some (.int i1), none, none] [] (qPutI (qPutI (qPutI w 28 (qIx (w.1 27 0)) i1) 29 (qIx (w.1 27 0)) i2) 30 (qIx (w.1 27 0)) i3)) ∧
      (i1 = (1 : Int32) →
        qAt s d c_Text_addClause (qQv Q) 62 [some (.ref 27), some (.int i1), none, none] [] (qPutI (qPutI (qPutI (qPutI w 28 (qIx (w.1 27 0)) i1) 29 (qIx (w.1 27 0)) i2) 30 (qIx (w.1 27 0)) i3) 27 1 ((w.1 27 1) + (1 : Int32)))))))) ∧
    (¬ (w.1 27 0) < (24 : Int32) →
      Q w))) :
  qCall (some s) (d + 1) 78 [.ref 27, .int i1, .int i2, .int i3] w (qQv Q) := qCall_of (cd := c_Text_addClause) (mL := 4) rfl u_Text_addClause [(62, [true, true, false, false])] 36 h
set_option maxRecDepth 100000 in
theorem A_Text_addClause_27_62 {s : Nat × (Nat → Int32)} {d : Nat} {w : qW} {Q : qW → Prop} {i1 : Int32} (h :
  (¬ i1 = (2 : Int32) →
    Q (qPutI w 27 0 ((w.1 27 0) + (1 : Int32)))) ∧
  (i1 = (2 : Int32) →
    Q (qPutI (qPutI w 27 2 (w.1 27 0)) 27 0 ((w.1 27 0) + (1 : Int32))))) :
  qAt s d c_Text_addClause (qQv Q) 62 [some (.ref 27), some (.int i1), none, none] [] w := qAt_of u_Text_addClause [(62, [true, true, false, false])] 15 h

set_option maxRecDepth 100000 in
theorem A_Text_addClause_32 {s : Nat × (Nat → Int32)} {d : Nat} {w : qW} {Q : qW → Prop} {i1 : Int32} {i2 : Int32} {i3 : Int32} (h :
  ((w.1 32 0) < 0 →
    Q w) ∧
  (¬ (w.1 32 0) < 0 →
    ((w.1 32 0) < (24 : Int32) →
      qIn (w.1 32 0) 24 ∧
      (qIn (w.1 32 0) 24 ∧
      (qIn (w.1 32 0) 24 ∧
      ((¬ i1 = (1 : Int32) →
        qAt s d c_Text_addClause (qQv Q) 62 [some (.ref 32), some (.int i1), none, none] [] (qPutI (qPutI (qPutI w 33 (qIx (w.1 32 0)) i1) 34 (qIx (w.1 32 0)) i2) 35 (qIx (w.1 32 0)) i3)) ∧
      (i1 = (1 : Int32) →
        qAt s d c_Text_addClause (qQv Q) 62 [some (.ref 32), some (.int i1), none, none] [] (qPutI (qPutI (qPutI (qPutI w 33 (qIx (w.1 32 0)) i1) 34 (qIx (w.1 32 0)) i2) 35 (qIx (w.1 32 0)) i3) 32 1 ((w.1 32 1) + (1 : Int32)))))))) ∧
    (¬ (w.1 32 0) < (24 : Int32) →
      Q w))) :
  qCall (some s) (d + 1) 78 [.ref 32, .int i1, .int i2, .int i3] w (qQv Q) := qCall_of (cd := c_Text_addClause) (mL := 4) rfl u_Text_addClause [(62, [true, true, false, false])] 36 h
set_option maxRecDepth 100000 in
theorem A_Text_addClause_32_62 {s : Nat × (Nat → Int32)} {d : Nat} {w : qW} {Q : qW → Prop} {i1 : Int32} (h :
  (¬ i1 = (2 : Int32) →
    Q (qPutI w 32 0 ((w.1 32 0) + (1 : Int32)))) ∧
  (i1 = (2 : Int32) →
    Q (qPutI (qPutI w 32 2 (w.1 32 0)) 32 0 ((w.1 32 0) + (1 : Int32))))) :
  qAt s d c_Text_addClause (qQv Q) 62 [some (.ref 32), some (.int i1), none, none] [] w := qAt_of u_Text_addClause [(62, [true, true, false, false])] 15 h

set_option maxRecDepth 100000 in
theorem A_Text_addClause_37 {s : Nat × (Nat → Int32)} {d : Nat} {w : qW} {Q : qW → Prop} {i1 : Int32} {i2 : Int32} {i3 : Int32} (h :
  ((w.1 37 0) < 0 →
    Q w) ∧
  (¬ (w.1 37 0) < 0 →
    ((w.1 37 0) < (24 : Int32) →
      qIn (w.1 37 0) 24 ∧
      (qIn (w.1 37 0) 24 ∧
      (qIn (w.1 37 0) 24 ∧
      ((¬ i1 = (1 : Int32) →
        qAt s d c_Text_addClause (qQv Q) 62 [some (.ref 37), some (.int i1), none, none] [] (qPutI (qPutI (qPutI w 38 (qIx (w.1 37 0)) i1) 39 (qIx (w.1 37 0)) i2) 40 (qIx (w.1 37 0)) i3)) ∧
      (i1 = (1 : Int32) →
        qAt s d c_Text_addClause (qQv Q) 62 [some (.ref 37), some (.int i1), none, none] [] (qPutI (qPutI (qPutI (qPutI w 38 (qIx (w.1 37 0)) i1) 39 (qIx (w.1 37 0)) i2) 40 (qIx (w.1 37 0)) i3) 37 1 ((w.1 37 1) + (1 : Int32)))))))) ∧
    (¬ (w.1 37 0) < (24 : Int32) →
      Q w))) :
  qCall (some s) (d + 1) 78 [.ref 37, .int i1, .int i2, .int i3] w (qQv Q) := qCall_of (cd := c_Text_addClause) (mL := 4) rfl u_Text_addClause [(62, [true, true, false, false])] 36 h
set_option maxRecDepth 100000 in
theorem A_Text_addClause_37_62 {s : Nat × (Nat → Int32)} {d : Nat} {w : qW} {Q : qW → Prop} {i1 : Int32} (h :
  (¬ i1 = (2 : Int32) →
    Q (qPutI w 37 0 ((w.1 37 0) + (1 : Int32)))) ∧
  (i1 = (2 : Int32) →
    Q (qPutI (qPutI w 37 2 (w.1 37 0)) 37 0 ((w.1 37 0) + (1 : Int32))))) :
  qAt s d c_Text_addClause (qQv Q) 62 [some (.ref 37), some (.int i1), none, none] [] w := qAt_of u_Text_addClause [(62, [true, true, false, false])] 15 h

set_option maxRecDepth 100000 in
theorem A_Text_addClause_42 {s : Nat × (Nat → Int32)} {d : Nat} {w : qW} {Q : qW → Prop} {i1 : Int32} {i2 : Int32} {i3 : Int32} (h :
  ((w.1 42 0) < 0 →
    Q w) ∧
  (¬ (w.1 42 0) < 0 →
    ((w.1 42 0) < (24 : Int32) →
      qIn (w.1 42 0) 24 ∧
      (qIn (w.1 42 0) 24 ∧
      (qIn (w.1 42 0) 24 ∧
      ((¬ i1 = (1 : Int32) →
        qAt s d c_Text_addClause (qQv Q) 62 [some (.ref 42), some (.int i1), none, none] [] (qPutI (qPutI (qPutI w 43 (qIx (w.1 42 0)) i1) 44 (qIx (w.1 42 0)) i2) 45 (qIx (w.1 42 0)) i3)) ∧
      (i1 = (1 : Int32) →
        qAt s d c_Text_addClause (qQv Q) 62 [some (.ref 42), some (.int i1), none, none] [] (qPutI (qPutI (qPutI (qPutI w 43 (qIx (w.1 42 0)) i1) 44 (qIx (w.1 42 0)) i2) 45 (qIx (w.1 42 0)) i3) 42 1 ((w.1 42 1) + (1 : Int32)))))))) ∧
    (¬ (w.1 42 0) < (24 : Int32) →
      Q w))) :
  qCall (some s) (d + 1) 78 [.ref 42, .int i1, .int i2, .int i3] w (qQv Q) := qCall_of (cd := c_Text_addClause) (mL := 4) rfl u_Text_addClause [(62, [true, true, false, false])] 36 h
set_option maxRecDepth 100000 in
theorem A_Text_addClause_42_62 {s : Nat × (Nat → Int32)} {d : Nat} {w : qW} {Q : qW → Prop} {i1 : Int32} (h :
  (¬ i1 = (2 : Int32) →
    Q (qPutI w 42 0 ((w.1 42 0) + (1 : Int32)))) ∧
  (i1 = (2 : Int32) →
    Q (qPutI (qPutI w 42 2 (w.1 42 0)) 42 0 ((w.1 42 0) + (1 : Int32))))) :
  qAt s d c_Text_addClause (qQv Q) 62 [some (.ref 42), some (.int i1), none, none] [] w := qAt_of u_Text_addClause [(62, [true, true, false, false])] 15 h

set_option maxRecDepth 100000 in
theorem A_Reader_takeSign {s : Nat × (Nat → Int32)} {d : Nat} {w : qW} {Q : Int32 → qW → Prop} {i1 : Int32} (h :
  ((w.1 25 6) = i1 →
    qCall (some s) d 42 [.ref 25] w (qQv fun w1 =>
      Q (1 : Int32) w1)) ∧
  (¬ (w.1 25 6) = i1 →
    qCall (some s) d 75 [.ref 25, .int (1 : Int32)] w (qQi fun x3 w2 =>
      qB (qZb x3) (Q x3 w2)))) :
  qCall (some s) (d + 1) 79 [.ref 25, .int i1] w (qQi Q) := qCall_of (cd := c_Reader_takeSign) (mL := 2) rfl u_Reader_takeSign [] 9 h

set_option maxRecDepth 100000 in
theorem A_Reader_readSum {s : Nat × (Nat → Int32)} {d : Nat} {w : qW} {Q : Int32 → qW → Prop} {i1 : Int32} (h :
  qAt s d c_Reader_readSum (qQi Q) 4 [some (.ref 25), some (.int i1), some (.int (0 : Int32)), some (.int (0 : Int32))] [] w) :
  qCall (some s) (d + 1) 80 [.ref 25, .int i1] w (qQi Q) := qCall_of (cd := c_Reader_readSum) (mL := 4) rfl u_Reader_readSum [(4, [true, true, true, true]), (33, [true, true, false, true])] 6 h
set_option maxRecDepth 100000 in
theorem A_Reader_readSum_4 {s : Nat × (Nat → Int32)} {d : Nat} {w : qW} {Q : Int32 → qW → Prop} {i1 : Int32} {i2 : Int32} {i3 : Int32} (h :
  ((300 : Int32) ≤ i3 →
    Q (0 : Int32) w) ∧
  (¬ (300 : Int32) ≤ i3 →
    qCall (some s) d 81 [.ref 25, .int i1] w (qQi fun x2 w1 =>
      (¬ x2 = 0 →
        (i2 = 0 →
          qAt s d c_Reader_readSum (qQi Q) 33 [some (.ref 25), some (.int i1), none, some (.int i3)] [] w1) ∧
        (¬ i2 = 0 →
          ∃ u3, w1.2.2.1 25 4 = some u3 ∧ (qB (qAl (some s) w1 u3 4) (qCall (some s) d 85 [.ref u3, .int i2] w1 (qQv fun w4 =>
            qAt s d c_Reader_readSum (qQi Q) 33 [some (.ref 25), some (.int i1), none, some (.int i3)] [] w4))))) ∧
      (x2 = 0 →
        Q (0 : Int32) w1)))) :
  qAt s d c_Reader_readSum (qQi Q) 4 [some (.ref 25), some (.int i1), some (.int i2), some (.int i3)] [] w := qAt_of u_Reader_readSum [(4, [true, true, true, true]), (33, [true, true, false, true])] 15 h
set_option maxRecDepth 100000 in
theorem A_Reader_readSum_33 {s : Nat × (Nat → Int32)} {d : Nat} {w : qW} {Q : Int32 → qW → Prop} {i1 : Int32} {i3 : Int32} (h :
  (¬ (w.1 25 6) = (43 : Int32) →
    (¬ (w.1 25 6) = (45 : Int32) →
      (¬ (0 : Int32) = 0 →
        qCall (some s) d 42 [.ref 25] w (qQv fun w1 =>
          qAt s d c_Reader_readSum (qQi Q) 4 [some (.ref 25), some (.int i1), some (.int (0 : Int32)), some (.int (i3 + (1 : Int32)))] [] w1)) ∧
      ((0 : Int32) = 0 →
        Q (1 : Int32) w)) ∧
    ((w.1 25 6) = (45 : Int32) →
      (¬ (10011 : Int32) = 0 →
        qCall (some s) d 42 [.ref 25] w (qQv fun w2 =>
          qAt s d c_Reader_readSum (qQi Q) 4 [some (.ref 25), some (.int i1), some (.int (10011 : Int32)), some (.int (i3 + (1 : Int32)))] [] w2)) ∧
      ((10011 : Int32) = 0 →
        Q (1 : Int32) w))) ∧
  ((w.1 25 6) = (43 : Int32) →
    (¬ (10010 : Int32) = 0 →
      qCall (some s) d 42 [.ref 25] w (qQv fun w3 =>
        qAt s d c_Reader_readSum (qQi Q) 4 [some (.ref 25), some (.int i1), some (.int (10010 : Int32)), some (.int (i3 + (1 : Int32)))] [] w3)) ∧
    ((10010 : Int32) = 0 →
      Q (1 : Int32) w))) :
  qAt s d c_Reader_readSum (qQi Q) 33 [some (.ref 25), some (.int i1), none, some (.int i3)] [] w := qAt_of u_Reader_readSum [(4, [true, true, true, true]), (33, [true, true, false, true])] 19 h

set_option maxRecDepth 100000 in
theorem A_Reader_readProduct {s : Nat × (Nat → Int32)} {d : Nat} {w : qW} {Q : Int32 → qW → Prop} {i1 : Int32} (h :
  qAt s d c_Reader_readProduct (qQi Q) 4 [some (.ref 25), some (.int i1), some (.int (0 : Int32)), some (.int (0 : Int32))] [] w) :
  qCall (some s) (d + 1) 81 [.ref 25, .int i1] w (qQi Q) := qCall_of (cd := c_Reader_readProduct) (mL := 4) rfl u_Reader_readProduct [(4, [true, true, true, true]), (33, [true, true, false, true])] 6 h
set_option maxRecDepth 100000 in
theorem A_Reader_readProduct_4 {s : Nat × (Nat → Int32)} {d : Nat} {w : qW} {Q : Int32 → qW → Prop} {i1 : Int32} {i2 : Int32} {i3 : Int32} (h :
  ((300 : Int32) ≤ i3 →
    Q (0 : Int32) w) ∧
  (¬ (300 : Int32) ≤ i3 →
    qCall (some s) d 82 [.ref 25, .int i1] w (qQi fun x2 w1 =>
      (¬ x2 = 0 →
        (i2 = 0 →
          qAt s d c_Reader_readProduct (qQi Q) 33 [some (.ref 25), some (.int i1), none, some (.int i3)] [] w1) ∧
        (¬ i2 = 0 →
          ∃ u3, w1.2.2.1 25 4 = some u3 ∧ (qB (qAl (some s) w1 u3 4) (qCall (some s) d 85 [.ref u3, .int i2] w1 (qQv fun w4 =>
            qAt s d c_Reader_readProduct (qQi Q) 33 [some (.ref 25), some (.int i1), none, some (.int i3)] [] w4))))) ∧
      (x2 = 0 →
        Q (0 : Int32) w1)))) :
  qAt s d c_Reader_readProduct (qQi Q) 4 [some (.ref 25), some (.int i1), some (.int i2), some (.int i3)] [] w := qAt_of u_Reader_readProduct [(4, [true, true, true, true]), (33, [true, true, false, true])] 15 h
set_option maxRecDepth 100000 in
theorem A_Reader_readProduct_33 {s : Nat × (Nat → Int32)} {d : Nat} {w : qW} {Q : Int32 → qW → Prop} {i1 : Int32} {i3 : Int32} (h :
  (¬ (w.1 25 6) = (42 : Int32) →
    (¬ (w.1 25 6) = (47 : Int32) →
      (¬ (w.1 25 6) = (37 : Int32) →
        (¬ (0 : Int32) = 0 →
          qCall (some s) d 42 [.ref 25] w (qQv fun w1 =>
            qAt s d c_Reader_readProduct (qQi Q) 4 [some (.ref 25), some (.int i1), some (.int (0 : Int32)), some (.int (i3 + (1 : Int32)))] [] w1)) ∧
        ((0 : Int32) = 0 →
          Q (1 : Int32) w)) ∧
      ((w.1 25 6) = (37 : Int32) →
        (¬ (10014 : Int32) = 0 →
          qCall (some s) d 42 [.ref 25] w (qQv fun w2 =>
            qAt s d c_Reader_readProduct (qQi Q) 4 [some (.ref 25), some (.int i1), some (.int (10014 : Int32)), some (.int (i3 + (1 : Int32)))] [] w2)) ∧
        ((10014 : Int32) = 0 →
          Q (1 : Int32) w))) ∧
    ((w.1 25 6) = (47 : Int32) →
      (¬ (10013 : Int32) = 0 →
        qCall (some s) d 42 [.ref 25] w (qQv fun w3 =>
          qAt s d c_Reader_readProduct (qQi Q) 4 [some (.ref 25), some (.int i1), some (.int (10013 : Int32)), some (.int (i3 + (1 : Int32)))] [] w3)) ∧
      ((10013 : Int32) = 0 →
        Q (1 : Int32) w))) ∧
  ((w.1 25 6) = (42 : Int32) →
    (¬ (10012 : Int32) = 0 →
      qCall (some s) d 42 [.ref 25] w (qQv fun w4 =>
        qAt s d c_Reader_readProduct (qQi Q) 4 [some (.ref 25), some (.int i1), some (.int (10012 : Int32)), some (.int (i3 + (1 : Int32)))] [] w4)) ∧
    ((10012 : Int32) = 0 →
      Q (1 : Int32) w))) :
  qAt s d c_Reader_readProduct (qQi Q) 33 [some (.ref 25), some (.int i1), none, some (.int i3)] [] w := qAt_of u_Reader_readProduct [(4, [true, true, true, true]), (33, [true, true, false, true])] 23 h

set_option maxRecDepth 100000 in
theorem A_Reader_readOne {s : Nat × (Nat → Int32)} {d : Nat} {w : qW} {Q : Int32 → qW → Prop} {i1 : Int32} (h :
  ((w.1 25 6) = (2 : Int32) →
    qAt s d c_Reader_readOne (qQi Q) 16 [some (.ref 25), none, none, none] [] w) ∧
  (¬ (w.1 25 6) = (2 : Int32) →
    (¬ (w.1 25 6) = (1 : Int32) →
      ((w.1 25 6) = (40 : Int32) →
        qAt s d c_Reader_readOne (qQi Q) 94 [some (.ref 25), some (.int i1), none, none] [] w) ∧
      (¬ (w.1 25 6) = (40 : Int32) →
        ((w.1 25 6) = (45 : Int32) →
          qAt s d c_Reader_readOne (qQi Q) 94 [some (.ref 25), some (.int i1), none, none] [] w) ∧
        (¬ (w.1 25 6) = (45 : Int32) →
          qCall (some s) d 75 [.ref 25, .int (1 : Int32)] w (qQi fun x2 w1 =>
            qB (qZb x2) (Q x2 w1))))) ∧
    ((w.1 25 6) = (1 : Int32) →
      qAt s d c_Reader_readOne (qQi Q) 16 [some (.ref 25), none, none, none] [] w))) :
  qCall (some s) (d + 1) 82 [.ref 25, .int i1] w (qQi Q) := qCall_of (cd := c_Reader_readOne) (mL := 4) rfl u_Reader_readOne [(16, [true, false, false, false]), (94, [true, true, false, false]), (120, [true, true, false, false])] 21 h
set_option maxRecDepth 100000 in
theorem A_Reader_readOne_16 {s : Nat × (Nat → Int32)} {d : Nat} {w : qW} {Q : Int32 → qW → Prop}  (h :
  qCall (some s) d 83 [.ref 25] w (qQi fun x2 w1 =>
    qCall (some s) d 84 [.ref 25, .int x2] w1 (qQi fun x4 w3 =>
      (x4 = 0 →
        ∃ u5, w3.2.2.1 25 4 = some u5 ∧ ((¬ (w3.1 25 6) = (2 : Int32) →
          qB (qAl (some s) w3 u5 4) (qCall (some s) d 85 [.ref u5, .int ((10000 : Int32) + x2)] w3 (qQv fun w6 =>
            qCall (some s) d 42 [.ref 25] w6 (qQv fun w7 =>
              Q (1 : Int32) w7)))) ∧
        ((w3.1 25 6) = (2 : Int32) →
          qB (qAl (some s) w3 u5 4) (qCall (some s) d 85 [.ref u5, .int (w3.1 25 9)] w3 (qQv fun w8 =>
            qCall (some s) d 42 [.ref 25] w8 (qQv fun w9 =>
              Q (1 : Int32) w9)))))) ∧
      (¬ x4 = 0 →
        qCall (some s) d 75 [.ref 25, .int x4] w3 (qQi fun x11 w10 =>
          qB (qZb x11) (Q x11 w10)))))) :
  qAt s d c_Reader_readOne (qQi Q) 16 [some (.ref 25), none, none, none] [] w := qAt_of u_Reader_readOne [(16, [true, false, false, false]), (94, [true, true, false, false]), (120, [true, true, false, false])] 24 h
set_option maxRecDepth 100000 in
theorem A_Reader_readOne_94 {s : Nat × (Nat → Int32)} {d : Nat} {w : qW} {Q : Int32 → qW → Prop} {i1 : Int32} (h :
  (i1 < (8 : Int32) →
    (¬ (w.1 25 6) = (45 : Int32) →
      qAt s d c_Reader_readOne (qQi Q) 120 [some (.ref 25), some (.int i1), none, none] [.int (0 : Int32)] w) ∧
    ((w.1 25 6) = (45 : Int32) →
      qAt s d c_Reader_readOne (qQi Q) 120 [some (.ref 25), some (.int i1), none, none] [.int (1 : Int32)] w)) ∧
  (¬ i1 < (8 : Int32) →
    qCall (some s) d 75 [.ref 25, .int (3 : Int32)] w (qQi fun x2 w1 =>
      qB (qZb x2) (Q x2 w1)))) :
  qAt s d c_Reader_readOne (qQi Q) 94 [some (.ref 25), some (.int i1), none, none] [] w := qAt_of u_Reader_readOne [(16, [true, false, false, false]), (94, [true, true, false, false]), (120, [true, true, false, false])] 11 h
set_option maxRecDepth 100000 in
theorem A_Reader_readOne_120 {s : Nat × (Nat → Int32)} {d : Nat} {w : qW} {Q : Int32 → qW → Prop} {i1 : Int32} {is0 : Int32} (h :
  qCall (some s) d 42 [.ref 25] w (qQv fun w1 =>
    (is0 = 0 →
      qCall (some s) d 80 [.ref 25, .int (i1 + (1 : Int32))] w1 (qQi fun x3 w2 =>
        (¬ x3 = 0 →
          ((w2.1 25 6) = (41 : Int32) →
            qCall (some s) d 42 [.ref 25] w2 (qQv fun w4 =>
              Q (1 : Int32) w4)) ∧
          (¬ (w2.1 25 6) = (41 : Int32) →
            qCall (some s) d 75 [.ref 25, .int (1 : Int32)] w2 (qQi fun x6 w5 =>
              qB (qZb x6) (Q x6 w5)))) ∧
        (x3 = 0 →
          Q (0 : Int32) w2))) ∧
    (¬ is0 = 0 →
      qCall (some s) d 82 [.ref 25, .int (i1 + (1 : Int32))] w1 (qQi fun x8 w7 =>
        ∃ u9, w7.2.2.1 25 4 = some u9 ∧ (qB (qAl (some s) w7 u9 4) (qCall (some s) d 85 [.ref u9, .int (10024 : Int32)] w7 (qQv fun w10 =>
          qB (qZb x8) (Q x8 w10)))))))) :
  qAt s d c_Reader_readOne (qQi Q) 120 [some (.ref 25), some (.int i1), none, none] [.int is0] w := qAt_of u_Reader_readOne [(16, [true, false, false, false]), (94, [true, true, false, false]), (120, [true, true, false, false])] 20 h

set_option maxRecDepth 100000 in
theorem A_Reader_nameOf {s : Nat × (Nat → Int32)} {d : Nat} {w : qW} {Q : Int32 → qW → Prop}  (h :
  qCall (some s) d 68 [.ref 25, .ref 1006] w (qQi fun x2 w1 =>
    (x2 = 0 →
      qCall (some s) d 68 [.ref 25, .ref 1007] w1 (qQi fun x4 w3 =>
        (x4 = 0 →
          qCall (some s) d 68 [.ref 25, .ref 1008] w3 (qQi fun x6 w5 =>
            (x6 = 0 →
              qCall (some s) d 68 [.ref 25, .ref 1009] w5 (qQi fun x8 w7 =>
                (x8 = 0 →
                  qCall (some s) d 68 [.ref 25, .ref 1010] w7 (qQi fun x10 w9 =>
                    (x10 = 0 →
                      qCall (some s) d 68 [.ref 25, .ref 1011] w9 (qQi fun x12 w11 =>
                        (x12 = 0 →
                          qCall (some s) d 68 [.ref 25, .ref 1012] w11 (qQi fun x14 w13 =>
                            (x14 = 0 →
                              Q (-1 : Int32) w13) ∧
                            (¬ x14 = 0 →
                              Q (6 : Int32) w13))) ∧
                        (¬ x12 = 0 →
                          Q (5 : Int32) w11))) ∧
                    (¬ x10 = 0 →
                      Q (4 : Int32) w9))) ∧
                (¬ x8 = 0 →
                  Q (3 : Int32) w7))) ∧
            (¬ x6 = 0 →
              Q (2 : Int32) w5))) ∧
        (¬ x4 = 0 →
          Q (1 : Int32) w3))) ∧
    (¬ x2 = 0 →
      Q (0 : Int32) w1))) :
  qCall (some s) (d + 1) 83 [.ref 25] w (qQi Q) := qCall_of (cd := c_Reader_nameOf) (mL := 1) rfl u_Reader_nameOf [] 32 h

set_option maxRecDepth 100000 in
theorem A_Reader_faultOfLeaf {s : Nat × (Nat → Int32)} {d : Nat} {w : qW} {Q : Int32 → qW → Prop} {i1 : Int32} (h :
  (¬ (w.1 25 6) = (2 : Int32) →
    (¬ i1 = (-1 : Int32) →
      (i1 < (4 : Int32) →
        (¬ (w.1 25 5) = (0 : Int32) →
          Q (5 : Int32) w) ∧
        ((w.1 25 5) = (0 : Int32) →
          Q (0 : Int32) w)) ∧
      (¬ i1 < (4 : Int32) →
        (¬ (w.1 25 5) = (1 : Int32) →
          Q (5 : Int32) w) ∧
        ((w.1 25 5) = (1 : Int32) →
          Q (0 : Int32) w))) ∧
    (i1 = (-1 : Int32) →
      Q (1 : Int32) w)) ∧
  ((w.1 25 6) = (2 : Int32) →
    ((w.1 25 9) ≤ (9999 : Int32) →
      Q (0 : Int32) w) ∧
    (¬ (w.1 25 9) ≤ (9999 : Int32) →
      Q (2 : Int32) w))) :
  qCall (some s) (d + 1) 84 [.ref 25, .int i1] w (qQi Q) := qCall_of (cd := c_Reader_faultOfLeaf) (mL := 2) rfl u_Reader_faultOfLeaf [] 19 h

set_option maxRecDepth 100000 in
theorem A_Text_addStep_27 {s : Nat × (Nat → Int32)} {d : Nat} {w : qW} {Q : qW → Prop} {i1 : Int32} (h :
  ((w.1 27 3) < 0 →
    Q w) ∧
  (¬ (w.1 27 3) < 0 →
    ((300 : Int32) ≤ (w.1 27 3) →
      Q w) ∧
    (¬ (300 : Int32) ≤ (w.1 27 3) →
      qIn (w.1 27 3) 300 ∧
      (Q (qPutI (qPutI w 31 (qIx (w.1 27 3)) i1) 27 3 ((w.1 27 3) + (1 : Int32))))))) :
  qCall (some s) (d + 1) 85 [.ref 27, .int i1] w (qQv Q) := qCall_of (cd := c_Text_addStep) (mL := 2) rfl u_Text_addStep [] 21 h

set_option maxRecDepth 100000 in
theorem A_Text_addStep_32 {s : Nat × (Nat → Int32)} {d : Nat} {w : qW} {Q : qW → Prop} {i1 : Int32} (h :
  ((w.1 32 3) < 0 →
    Q w) ∧
  (¬ (w.1 32 3) < 0 →
    ((300 : Int32) ≤ (w.1 32 3) →
      Q w) ∧
    (¬ (300 : Int32) ≤ (w.1 32 3) →
      qIn (w.1 32 3) 300 ∧
      (Q (qPutI (qPutI w 36 (qIx (w.1 32 3)) i1) 32 3 ((w.1 32 3) + (1 : Int32))))))) :
  qCall (some s) (d + 1) 85 [.ref 32, .int i1] w (qQv Q) := qCall_of (cd := c_Text_addStep) (mL := 2) rfl u_Text_addStep [] 21 h

set_option maxRecDepth 100000 in
theorem A_Text_addStep_37 {s : Nat × (Nat → Int32)} {d : Nat} {w : qW} {Q : qW → Prop} {i1 : Int32} (h :
  ((w.1 37 3) < 0 →
    Q w) ∧
  (¬ (w.1 37 3) < 0 →
    ((300 : Int32) ≤ (w.1 37 3) →
      Q w) ∧
    (¬ (300 : Int32) ≤ (w.1 37 3) →
      qIn (w.1 37 3) 300 ∧
      (Q (qPutI (qPutI w 41 (qIx (w.1 37 3)) i1) 37 3 ((w.1 37 3) + (1 : Int32))))))) :
  qCall (some s) (d + 1) 85 [.ref 37, .int i1] w (qQv Q) := qCall_of (cd := c_Text_addStep) (mL := 2) rfl u_Text_addStep [] 21 h

set_option maxRecDepth 100000 in
theorem A_Text_addStep_42 {s : Nat × (Nat → Int32)} {d : Nat} {w : qW} {Q : qW → Prop} {i1 : Int32} (h :
  ((w.1 42 3) < 0 →
    Q w) ∧
  (¬ (w.1 42 3) < 0 →
    ((300 : Int32) ≤ (w.1 42 3) →
      Q w) ∧
    (¬ (300 : Int32) ≤ (w.1 42 3) →
      qIn (w.1 42 3) 300 ∧
      (Q (qPutI (qPutI w 46 (qIx (w.1 42 3)) i1) 42 3 ((w.1 42 3) + (1 : Int32))))))) :
  qCall (some s) (d + 1) 85 [.ref 42, .int i1] w (qQv Q) := qCall_of (cd := c_Text_addStep) (mL := 2) rfl u_Text_addStep [] 21 h

set_option maxRecDepth 100000 in
theorem A_Reader_readEither {s : Nat × (Nat → Int32)} {d : Nat} {w : qW} {Q : Int32 → qW → Prop}  (h :
  qAt s d c_Reader_readEither (qQi Q) 4 [some (.ref 25), some (.int (0 : Int32)), some (.int (0 : Int32)), none] [] w) :
  qCall (some s) (d + 1) 86 [.ref 25] w (qQi Q) := qCall_of (cd := c_Reader_readEither) (mL := 4) rfl u_Reader_readEither [(4, [true, true, true, false]), (23, [true, true, true, true]), (83, [true, false, true, false])] 6 h
set_option maxRecDepth 100000 in
theorem A_Reader_readEither_4 {s : Nat × (Nat → Int32)} {d : Nat} {w : qW} {Q : Int32 → qW → Prop} {i1 : Int32} {i2 : Int32} (h :
  ((300 : Int32) ≤ i2 →
    Q (0 : Int32) w) ∧
  (¬ (300 : Int32) ≤ i2 →
    qCall (some s) d 87 [.ref 25, .int (0 : Int32)] w (qQi fun x2 w1 =>
      (¬ x2 = 0 →
        qAt s d c_Reader_readEither (qQi Q) 23 [some (.ref 25), some (.int i1), some (.int i2), some (.int (0 : Int32))] [] w1) ∧
      (x2 = 0 →
        Q (0 : Int32) w1)))) :
  qAt s d c_Reader_readEither (qQi Q) 4 [some (.ref 25), some (.int i1), some (.int i2), none] [] w := qAt_of u_Reader_readEither [(4, [true, true, true, false]), (23, [true, true, true, true]), (83, [true, false, true, false])] 11 h
set_option maxRecDepth 100000 in
theorem A_Reader_readEither_23 {s : Nat × (Nat → Int32)} {d : Nat} {w : qW} {Q : Int32 → qW → Prop} {i1 : Int32} {i2 : Int32} {i3 : Int32} (h :
  ((300 : Int32) ≤ i3 →
    (i1 = 0 →
      qAt s d c_Reader_readEither (qQi Q) 83 [some (.ref 25), none, some (.int i2), none] [] w) ∧
    (¬ i1 = 0 →
      ∃ u1, w.2.2.1 25 4 = some u1 ∧ (qB (qAl (some s) w u1 4) (qCall (some s) d 85 [.ref u1, .int (10022 : Int32)] w (qQv fun w2 =>
        qAt s d c_Reader_readEither (qQi Q) 83 [some (.ref 25), none, some (.int i2), none] [] w2))))) ∧
  (¬ (300 : Int32) ≤ i3 →
    qCall (some s) d 68 [.ref 25, .ref 1014] w (qQi fun x4 w3 =>
      (x4 = 0 →
        (i1 = 0 →
          qAt s d c_Reader_readEither (qQi Q) 83 [some (.ref 25), none, some (.int i2), none] [] w3) ∧
        (¬ i1 = 0 →
          ∃ u5, w3.2.2.1 25 4 = some u5 ∧ (qB (qAl (some s) w3 u5 4) (qCall (some s) d 85 [.ref u5, .int (10022 : Int32)] w3 (qQv fun w6 =>
            qAt s d c_Reader_readEither (qQi Q) 83 [some (.ref 25), none, some (.int i2), none] [] w6))))) ∧
      (¬ x4 = 0 →
        qCall (some s) d 42 [.ref 25] w3 (qQv fun w7 =>
          qCall (some s) d 87 [.ref 25, .int (0 : Int32)] w7 (qQi fun x9 w8 =>
            (¬ x9 = 0 →
              ∃ u10, w8.2.2.1 25 4 = some u10 ∧ (qB (qAl (some s) w8 u10 4) (qCall (some s) d 85 [.ref u10, .int (10021 : Int32)] w8 (qQv fun w11 =>
                qAt s d c_Reader_readEither (qQi Q) 23 [some (.ref 25), some (.int i1), some (.int i2), some (.int (i3 + (1 : Int32)))] [] w11)))) ∧
            (x9 = 0 →
              Q (0 : Int32) w8))))))) :
  qAt s d c_Reader_readEither (qQi Q) 23 [some (.ref 25), some (.int i1), some (.int i2), some (.int i3)] [] w := qAt_of u_Reader_readEither [(4, [true, true, true, false]), (23, [true, true, true, true]), (83, [true, false, true, false])] 21 h
set_option maxRecDepth 100000 in
theorem A_Reader_readEither_83 {s : Nat × (Nat → Int32)} {d : Nat} {w : qW} {Q : Int32 → qW → Prop} {i2 : Int32} (h :
  qCall (some s) d 68 [.ref 25, .ref 1015] w (qQi fun x2 w1 =>
    (¬ x2 = 0 →
      qCall (some s) d 42 [.ref 25] w1 (qQv fun w3 =>
        qAt s d c_Reader_readEither (qQi Q) 4 [some (.ref 25), some (.int (1 : Int32)), some (.int (i2 + (1 : Int32))), none] [] w3)) ∧
    (x2 = 0 →
      Q (1 : Int32) w1))) :
  qAt s d c_Reader_readEither (qQi Q) 83 [some (.ref 25), none, some (.int i2), none] [] w := qAt_of u_Reader_readEither [(4, [true, true, true, false]), (23, [true, true, true, true]), (83, [true, false, true, false])] 12 h

set_option maxRecDepth 100000 in
theorem A_Reader_readAsk {s : Nat × (Nat → Int32)} {d : Nat} {w : qW} {Q : Int32 → qW → Prop} {i1 : Int32} (h :
  qCall (some s) d 68 [.ref 25, .ref 1013] w (qQi fun x2 w1 =>
    (x2 = 0 →
      qCall (some s) d 80 [.ref 25, .int i1] w1 (qQi fun x4 w3 =>
        (¬ x4 = 0 →
          qCall (some s) d 88 [.ref 25] w3 (qQi fun x6 w5 =>
            (¬ x6 = 0 →
              qCall (some s) d 42 [.ref 25] w5 (qQv fun w7 =>
                qCall (some s) d 80 [.ref 25, .int i1] w7 (qQi fun x9 w8 =>
                  (¬ x9 = 0 →
                    ∃ u10, w8.2.2.1 25 4 = some u10 ∧ (qB (qAl (some s) w8 u10 4) (qCall (some s) d 85 [.ref u10, .int x6] w8 (qQv fun w11 =>
                      Q (1 : Int32) w11)))) ∧
                  (x9 = 0 →
                    Q (0 : Int32) w8)))) ∧
            (x6 = 0 →
              qCall (some s) d 75 [.ref 25, .int (1 : Int32)] w5 (qQi fun x13 w12 =>
                qB (qZb x13) (Q x13 w12))))) ∧
        (x4 = 0 →
          Q (0 : Int32) w3))) ∧
    (¬ x2 = 0 →
      (i1 < (8 : Int32) →
        qCall (some s) d 42 [.ref 25] w1 (qQv fun w14 =>
          qCall (some s) d 87 [.ref 25, .int (i1 + (1 : Int32))] w14 (qQi fun x16 w15 =>
            (¬ x16 = 0 →
              ∃ u17, w15.2.2.1 25 4 = some u17 ∧ (qB (qAl (some s) w15 u17 4) (qCall (some s) d 85 [.ref u17, .int (10023 : Int32)] w15 (qQv fun w18 =>
                Q (1 : Int32) w18)))) ∧
            (x16 = 0 →
              Q (0 : Int32) w15)))) ∧
      (¬ i1 < (8 : Int32) →
        qCall (some s) d 75 [.ref 25, .int (3 : Int32)] w1 (qQi fun x20 w19 =>
          qB (qZb x20) (Q x20 w19)))))) :
  qCall (some s) (d + 1) 87 [.ref 25, .int i1] w (qQi Q) := qCall_of (cd := c_Reader_readAsk) (mL := 3) rfl u_Reader_readAsk [] 26 h

set_option maxRecDepth 100000 in
theorem A_Reader_comparing {s : Nat × (Nat → Int32)} {d : Nat} {w : qW} {Q : Int32 → qW → Prop}  (h :
  ((w.1 25 6) = (35 : Int32) →
    Q (10020 : Int32) w) ∧
  (¬ (w.1 25 6) = (35 : Int32) →
  ((w.1 25 6) = (60 : Int32) →
    Q (10015 : Int32) w) ∧
  (¬ (w.1 25 6) = (60 : Int32) →
  ((w.1 25 6) = (61 : Int32) →
    Q (10019 : Int32) w) ∧
  (¬ (w.1 25 6) = (61 : Int32) →
  ((w.1 25 6) = (62 : Int32) →
    Q (10017 : Int32) w) ∧
  (¬ (w.1 25 6) = (62 : Int32) →
  ((w.1 25 6) = (316 : Int32) →
    Q (10016 : Int32) w) ∧
  (¬ (w.1 25 6) = (316 : Int32) →
  ((w.1 25 6) = (318 : Int32) →
    Q (10018 : Int32) w) ∧
  (¬ (w.1 25 6) = (318 : Int32) →
  Q (0 : Int32) w))))))) :
  qCall (some s) (d + 1) 88 [.ref 25] w (qQi Q) := qCall_of (cd := c_Reader_comparing) (mL := 1) rfl u_Reader_comparing [] 6 h

set_option maxRecDepth 100000 in
theorem A_X_fault {s : Nat × (Nat → Int32)} {d : Nat} {w : qW} {Q : Int32 → qW → Prop} {i1 : Int32} (h :
  (¬ i1 = 0 →
    (¬ i1 = (1 : Int32) →
      Q (-1 : Int32) w) ∧
    (i1 = (1 : Int32) →
      Q (w.1 25 3) w)) ∧
  (i1 = 0 →
    Q (w.1 25 2) w)) :
  qCall (some s) (d + 1) 89 [.ref 1, .int i1] w (qQi Q) := qCall_of (cd := c_X_fault) (mL := 2) rfl u_X_fault [] 11 h

set_option maxRecDepth 100000 in
theorem A_X_by {s : Nat × (Nat → Int32)} {d : Nat} {w : qW} {Q : Int32 → qW → Prop} {i1 : Int32} (h :
  (i1 < (-1 : Int32) →
    Q (0 : Int32) w) ∧
  (¬ i1 < (-1 : Int32) →
    (i1 < (w.1 2 6) →
      qCall (some s) d 31 [.ref 50] (qPutI w 2 7 i1) (qQv fun w1 =>
        Q (1 : Int32) w1)) ∧
    (¬ i1 < (w.1 2 6) →
      Q (0 : Int32) w))) :
  qCall (some s) (d + 1) 90 [.ref 1, .int i1] w (qQi Q) := qCall_of (cd := c_X_by) (mL := 2) rfl u_X_by [] 18 h

set_option maxRecDepth 100000 in
theorem A_X_speaks {s : Nat × (Nat → Int32)} {d : Nat} {w : qW} {Q : Int32 → qW → Prop} {i1 : Int32} {l2 : Int64} (h :
  qCall (some s) d 27 [.ref 2, .int i1] w (qQi fun x2 w1 =>
    (x2 = 0 →
      Q (0 : Int32) w1) ∧
    (¬ x2 = 0 →
      qCall (some s) d 92 [.long l2] w1 (qQi fun x4 w3 =>
        (x4 = 0 →
          Q (0 : Int32) w3) ∧
        (¬ x4 = 0 →
          qCall (some s) d 93 [.ref 50, .int i1, .long l2] w3 (qQi fun x6 w5 =>
            (x6 = 0 →
              Q (0 : Int32) w5) ∧
            (¬ x6 = 0 →
              Q (1 : Int32) w5))))))) :
  qCall (some s) (d + 1) 91 [.ref 1, .int i1, .long l2] w (qQi Q) := qCall_of (cd := c_X_speaks) (mL := 4) rfl u_X_speaks [] 18 h

set_option maxRecDepth 100000 in
theorem A_X_isHour {s : Nat × (Nat → Int32)} {d : Nat} {w : qW} {Q : Int32 → qW → Prop} {l0 : Int64} (h :
  ((lg_cmp l0 (0 : Int64)) < 0 →
    Q (0 : Int32) w) ∧
  (¬ (lg_cmp l0 (0 : Int64)) < 0 →
    (0 < (lg_cmp l0 (1000000000000000 : Int64)) →
      Q (0 : Int32) w) ∧
    (¬ 0 < (lg_cmp l0 (1000000000000000 : Int64)) →
      Q (1 : Int32) w))) :
  qCall (some s) (d + 1) 92 [.long l0] w (qQi Q) := qCall_of (cd := c_X_isHour) (mL := 2) rfl u_X_isHour [] 12 h

set_option maxRecDepth 100000 in
theorem A_Voices_isHeardAt {s : Nat × (Nat → Int32)} {d : Nat} {w : qW} {Q : Int32 → qW → Prop} {i1 : Int32} {l2 : Int64} (h :
  qCall (some s) d 94 [.ref 50, .int i1, .long l2, .int (w.1 2 4)] w (qQi fun x2 w1 =>
    (x2 = 0 →
      Q (0 : Int32) w1) ∧
    (¬ x2 = 0 →
      qCall (some s) d 95 [.ref 50, .int i1, .long l2] w1 (qQi fun x4 w3 =>
        (x4 = 0 →
          Q (0 : Int32) w3) ∧
        (¬ x4 = 0 →
          Q (1 : Int32) w3))))) :
  qCall (some s) (d + 1) 93 [.ref 50, .int i1, .long l2] w (qQi Q) := qCall_of (cd := c_Voices_isHeardAt) (mL := 4) rfl u_Voices_isHeardAt [] 17 h

set_option maxRecDepth 100000 in
theorem A_Voices_isDue {s : Nat × (Nat → Int32)} {d : Nat} {w : qW} {Q : Int32 → qW → Prop} {i1 : Int32} {l2 : Int64} {i4 : Int32} (h :
  (i4 ≤ 0 →
    qAt s d c_Voices_isDue (qQi Q) 14 [some (.ref 50), some (.int i1), none, none, none, none, none] [.long l2] w) ∧
  (¬ i4 ≤ 0 →
    ¬ (Int32.toInt64 i4) = 0 ∧ (qAt s d c_Voices_isDue (qQi Q) 14 [some (.ref 50), some (.int i1), none, none, none, none, none] [.long (qRemL l2 (Int32.toInt64 i4))] w))) :
  qCall (some s) (d + 1) 94 [.ref 50, .int i1, .long l2, .int i4] w (qQi Q) := qCall_of (cd := c_Voices_isDue) (mL := 7) rfl u_Voices_isDue [(14, [true, true, false, false, false, false, false])] 9 h
set_option maxRecDepth 100000 in
theorem A_Voices_isDue_14 {s : Nat × (Nat → Int32)} {d : Nat} {w : qW} {Q : Int32 → qW → Prop} {i1 : Int32} {ls0 : Int64} (h :
  qIn i1 12 ∧
  (((lg_cmp (ls0 - (Int32.toInt64 (w.1 4 (qIx i1)))) (0 : Int64)) < 0 →
    Q (0 : Int32) w) ∧
  (¬ (lg_cmp (ls0 - (Int32.toInt64 (w.1 4 (qIx i1)))) (0 : Int64)) < 0 →
    qIn i1 12 ∧
    (¬ (Int32.toInt64 (w.1 3 (qIx i1))) = 0 ∧ ((¬ (lg_cmp (qRemL (ls0 - (Int32.toInt64 (w.1 4 (qIx i1)))) (Int32.toInt64 (w.1 3 (qIx i1)))) (0 : Int64)) = 0 →
      Q (0 : Int32) w) ∧
    ((lg_cmp (qRemL (ls0 - (Int32.toInt64 (w.1 4 (qIx i1)))) (Int32.toInt64 (w.1 3 (qIx i1)))) (0 : Int64)) = 0 →
      Q (1 : Int32) w)))))) :
  qAt s d c_Voices_isDue (qQi Q) 14 [some (.ref 50), some (.int i1), none, none, none, none, none] [.long ls0] w := qAt_of u_Voices_isDue [(14, [true, true, false, false, false, false, false])] 27 h

set_option maxRecDepth 100000 in
theorem A_Voices_isOpen {s : Nat × (Nat → Int32)} {d : Nat} {w : qW} {Q : Int32 → qW → Prop} {i1 : Int32} {l2 : Int64} (h :
  ¬ (Int32.toInt64 (w.1 2 5)) = 0 ∧ (qIn (Int64.toInt32 (qRemL l2 (Int32.toInt64 (w.1 2 5)))) 60 ∧
  ((((qUshr (w.1 51 (qIx (Int64.toInt32 (qRemL l2 (Int32.toInt64 (w.1 2 5)))))) i1) &&& (1 : Int32)) = 0 →
    Q (0 : Int32) w) ∧
  (¬ ((qUshr (w.1 51 (qIx (Int64.toInt32 (qRemL l2 (Int32.toInt64 (w.1 2 5)))))) i1) &&& (1 : Int32)) = 0 →
    Q (1 : Int32) w)))) :
  qCall (some s) (d + 1) 95 [.ref 50, .int i1, .long l2] w (qQi Q) := qCall_of (cd := c_Voices_isOpen) (mL := 4) rfl u_Voices_isOpen [] 19 h

set_option maxRecDepth 100000 in
theorem A_X_next {s : Nat × (Nat → Int32)} {d : Nat} {w : qW} {Q : Int64 → qW → Prop} {i1 : Int32} {l2 : Int64} (h :
  qCall (some s) d 97 [.ref 2, .int i1] w (qQi fun x2 w1 =>
    (x2 = 0 →
      Q (-1 : Int64) w1) ∧
    (¬ x2 = 0 →
      qCall (some s) d 92 [.long l2] w1 (qQi fun x4 w3 =>
        (¬ x4 = 0 →
          qCall (some s) d 98 [.ref 53, .int i1, .long l2] w3 (qQl fun y6 w5 =>
            Q y6 w5)) ∧
        (x4 = 0 →
          Q (-1 : Int64) w3))))) :
  qCall (some s) (d + 1) 96 [.ref 1, .int i1, .long l2] w (qQl Q) := qCall_of (cd := c_X_next) (mL := 4) rfl u_X_next [] 15 h

set_option maxRecDepth 100000 in
theorem A_State_isSet {s : Nat × (Nat → Int32)} {d : Nat} {w : qW} {Q : Int32 → qW → Prop} {i1 : Int32} (h :
  (i1 ≤ 0 →
    Q (0 : Int32) w) ∧
  (¬ i1 ≤ 0 →
    ((qShl (1 : Int32) (w.1 2 0)) ≤ i1 →
      Q (0 : Int32) w) ∧
    (¬ (qShl (1 : Int32) (w.1 2 0)) ≤ i1 →
      Q (1 : Int32) w))) :
  qCall (some s) (d + 1) 97 [.ref 2, .int i1] w (qQi Q) := qCall_of (cd := c_State_isSet) (mL := 2) rfl u_State_isSet [] 12 h

set_option maxRecDepth 100000 in
theorem A_Meetings_firstFrom {s : Nat × (Nat → Int32)} {d : Nat} {w : qW} {Q : Int64 → qW → Prop} {i1 : Int32} {l2 : Int64} (h :
  qCall (some s) d 99 [.ref 50, .int i1] w (qQl fun y2 w1 =>
    ((w1.1 2 4) ≤ 0 →
      qCall (some s) d 108 [.ref 53, .int i1, .long l2, .long y2] w1 (qQl fun y4 w3 =>
        Q y4 w3)) ∧
    (¬ (w1.1 2 4) ≤ 0 →
      qCall (some s) d 100 [.ref 53, .int i1, .long l2, .long y2] w1 (qQl fun y6 w5 =>
        Q y6 w5)))) :
  qCall (some s) (d + 1) 98 [.ref 53, .int i1, .long l2] w (qQl Q) := qCall_of (cd := c_Meetings_firstFrom) (mL := 6) rfl u_Meetings_firstFrom [] 17 h

set_option maxRecDepth 100000 in
theorem A_Voices_openClocks {s : Nat × (Nat → Int32)} {d : Nat} {w : qW} {Q : Int64 → qW → Prop} {i1 : Int32} (h :
  qAt s d c_Voices_openClocks (qQl Q) 5 [some (.ref 50), some (.int i1), some (.long (0 : Int64)), none, some (.int (0 : Int32))] [] w) :
  qCall (some s) (d + 1) 99 [.ref 50, .int i1] w (qQl Q) := qCall_of (cd := c_Voices_openClocks) (mL := 5) rfl u_Voices_openClocks [(5, [true, true, true, false, true])] 6 h
set_option maxRecDepth 100000 in
theorem A_Voices_openClocks_5 {s : Nat × (Nat → Int32)} {d : Nat} {w : qW} {Q : Int64 → qW → Prop} {i1 : Int32} {l2 : Int64} {i4 : Int32} (h :
  ((w.1 2 5) ≤ i4 →
    Q l2 w) ∧
  (¬ (w.1 2 5) ≤ i4 →
    qIn i4 60 ∧
    ((¬ ((w.1 51 (qIx i4)) &&& i1) = i1 →
      qAt s d c_Voices_openClocks (qQl Q) 5 [some (.ref 50), some (.int i1), some (.long l2), none, some (.int (i4 + (1 : Int32)))] [] w) ∧
    (((w.1 51 (qIx i4)) &&& i1) = i1 →
      qAt s d c_Voices_openClocks (qQl Q) 5 [some (.ref 50), some (.int i1), some (.long (l2 ||| (qLshl (1 : Int64) i4))), none, some (.int (i4 + (1 : Int32)))] [] w)))) :
  qAt s d c_Voices_openClocks (qQl Q) 5 [some (.ref 50), some (.int i1), some (.long l2), none, some (.int i4)] [] w := qAt_of u_Voices_openClocks [(5, [true, true, true, false, true])] 23 h

set_option maxRecDepth 100000 in
theorem A_Meetings_firstByDay {s : Nat × (Nat → Int32)} {d : Nat} {w : qW} {Q : Int64 → qW → Prop} {i1 : Int32} {l2 : Int64} {l4 : Int64} (h :
  qCall (some s) d 101 [.ref 53, .int i1] w (qQi fun x2 w1 =>
    qIn x2 12 ∧
    (qAt s d c_Meetings_firstByDay (qQl Q) 24 [some (.ref 53), some (.int i1), some (.long l2), none, some (.long l4), none, some (.int x2), some (.long (-1 : Int64)), none, some (.int (w1.1 4 (qIx x2))), none, none] [] w1))) :
  qCall (some s) (d + 1) 100 [.ref 53, .int i1, .long l2, .long l4] w (qQl Q) := qCall_of (cd := c_Meetings_firstByDay) (mL := 12) rfl u_Meetings_firstByDay [(24, [true, true, true, false, true, false, true, true, false, true, false, false]), (65, [true, true, true, false, true, false, true, true, false, true, false, false]), (93, [true, true, true, false, true, false, true, false, false, true, true, false])] 14 h
set_option maxRecDepth 100000 in
theorem A_Meetings_firstByDay_24 {s : Nat × (Nat → Int32)} {d : Nat} {w : qW} {Q : Int64 → qW → Prop} {i1 : Int32} {l2 : Int64} {l4 : Int64} {i6 : Int32} {l7 : Int64} {i9 : Int32} (h :
  ((w.1 2 4) ≤ i9 →
    ((lg_cmp l7 (1000000000000000 : Int64)) ≤ 0 →
      Q l7 w) ∧
    (¬ (lg_cmp l7 (1000000000000000 : Int64)) ≤ 0 →
      Q (-2 : Int64) w)) ∧
  (¬ (w.1 2 4) ≤ i9 →
    qCall (some s) d 105 [.ref 53, .int i1, .int i9] w (qQi fun x2 w1 =>
      (x2 = 0 →
        qAt s d c_Meetings_firstByDay (qQl Q) 65 [some (.ref 53), some (.int i1), some (.long l2), none, some (.long l4), none, some (.int i6), some (.long l7), none, some (.int i9), none, none] [.long (-1 : Int64)] w1) ∧
      (¬ x2 = 0 →
        qCall (some s) d 106 [.ref 53, .long l2, .int i9] w1 (qQl fun y4 w3 =>
          qCall (some s) d 107 [.ref 53, .long y4, .long l4] w3 (qQl fun y6 w5 =>
            qAt s d c_Meetings_firstByDay (qQl Q) 65 [some (.ref 53), some (.int i1), some (.long l2), none, some (.long l4), none, some (.int i6), some (.long l7), none, some (.int i9), none, none] [.long y6] w5)))))) :
  qAt s d c_Meetings_firstByDay (qQl Q) 24 [some (.ref 53), some (.int i1), some (.long l2), none, some (.long l4), none, some (.int i6), some (.long l7), none, some (.int i9), none, none] [] w := qAt_of u_Meetings_firstByDay [(24, [true, true, true, false, true, false, true, true, false, true, false, false]), (65, [true, true, true, false, true, false, true, true, false, true, false, false]), (93, [true, true, true, false, true, false, true, false, false, true, true, false])] 20 h
set_option maxRecDepth 100000 in
theorem A_Meetings_firstByDay_65 {s : Nat × (Nat → Int32)} {d : Nat} {w : qW} {Q : Int64 → qW → Prop} {i1 : Int32} {l2 : Int64} {l4 : Int64} {i6 : Int32} {l7 : Int64} {i9 : Int32} {ls0 : Int64} (h :
  ((lg_cmp ls0 (-1 : Int64)) = 0 →
    qIn i6 12 ∧
    (qCall (some s) d 21 [.int (1 : Int32), .int (w.1 3 (qIx i6))] w (qQi fun x2 w1 =>
      qAt s d c_Meetings_firstByDay (qQl Q) 24 [some (.ref 53), some (.int i1), some (.long l2), none, some (.long l4), none, some (.int i6), some (.long l7), none, some (.int (i9 + x2)), none, none] [] w1))) ∧
  (¬ (lg_cmp ls0 (-1 : Int64)) = 0 →
    ((lg_cmp l7 (-1 : Int64)) = 0 →
      qAt s d c_Meetings_firstByDay (qQl Q) 93 [some (.ref 53), some (.int i1), some (.long l2), none, some (.long l4), none, some (.int i6), none, none, some (.int i9), some (.long ls0), none] [] w) ∧
    (¬ (lg_cmp l7 (-1 : Int64)) = 0 →
      (0 ≤ (lg_cmp ls0 l7) →
        qIn i6 12 ∧
        (qCall (some s) d 21 [.int (1 : Int32), .int (w.1 3 (qIx i6))] w (qQi fun x4 w3 =>
          qAt s d c_Meetings_firstByDay (qQl Q) 24 [some (.ref 53), some (.int i1), some (.long l2), none, some (.long l4), none, some (.int i6), some (.long l7), none, some (.int (i9 + x4)), none, none] [] w3))) ∧
      (¬ 0 ≤ (lg_cmp ls0 l7) →
        qAt s d c_Meetings_firstByDay (qQl Q) 93 [some (.ref 53), some (.int i1), some (.long l2), none, some (.long l4), none, some (.int i6), none, none, some (.int i9), some (.long ls0), none] [] w)))) :
  qAt s d c_Meetings_firstByDay (qQl Q) 65 [some (.ref 53), some (.int i1), some (.long l2), none, some (.long l4), none, some (.int i6), some (.long l7), none, some (.int i9), none, none] [.long ls0] w := qAt_of u_Meetings_firstByDay [(24, [true, true, true, false, true, false, true, true, false, true, false, false]), (65, [true, true, true, false, true, false, true, true, false, true, false, false]), (93, [true, true, true, false, true, false, true, false, false, true, true, false])] 26 h
set_option maxRecDepth 100000 in
theorem A_Meetings_firstByDay_93 {s : Nat × (Nat → Int32)} {d : Nat} {w : qW} {Q : Int64 → qW → Prop} {i1 : Int32} {l2 : Int64} {l4 : Int64} {i6 : Int32} {i9 : Int32} {l10 : Int64} (h :
  qIn i6 12 ∧
  (qCall (some s) d 21 [.int (1 : Int32), .int (w.1 3 (qIx i6))] w (qQi fun x2 w1 =>
    qAt s d c_Meetings_firstByDay (qQl Q) 24 [some (.ref 53), some (.int i1), some (.long l2), none, some (.long l4), none, some (.int i6), some (.long l10), none, some (.int (i9 + x2)), none, none] [] w1))) :
  qAt s d c_Meetings_firstByDay (qQl Q) 93 [some (.ref 53), some (.int i1), some (.long l2), none, some (.long l4), none, some (.int i6), none, none, some (.int i9), some (.long l10), none] [] w := qAt_of u_Meetings_firstByDay [(24, [true, true, true, false, true, false, true, true, false, true, false, false]), (65, [true, true, true, false, true, false, true, true, false, true, false, false]), (93, [true, true, true, false, true, false, true, false, false, true, true, false])] 15 h

set_option maxRecDepth 100000 in
theorem A_Meetings_rarestOf {s : Nat × (Nat → Int32)} {d : Nat} {w : qW} {Q : Int32 → qW → Prop} {i1 : Int32} (h :
  qCall (some s) d 102 [.int i1] w (qQi fun x2 w1 =>
    qAt s d c_Meetings_rarestOf (qQi Q) 7 [some (.ref 53), some (.int i1), some (.int x2), some (.int x2)] [] w1)) :
  qCall (some s) (d + 1) 101 [.ref 53, .int i1] w (qQi Q) := qCall_of (cd := c_Meetings_rarestOf) (mL := 4) rfl u_Meetings_rarestOf [(7, [true, true, true, true])] 7 h
set_option maxRecDepth 100000 in
theorem A_Meetings_rarestOf_7 {s : Nat × (Nat → Int32)} {d : Nat} {w : qW} {Q : Int32 → qW → Prop} {i1 : Int32} {i2 : Int32} {i3 : Int32} (h :
  ((w.1 2 0) ≤ i3 →
    Q i2 w) ∧
  (¬ (w.1 2 0) ≤ i3 →
    qCall (some s) d 104 [.int i3, .int i1] w (qQi fun x2 w1 =>
      (x2 = 0 →
        qAt s d c_Meetings_rarestOf (qQi Q) 7 [some (.ref 53), some (.int i1), some (.int i2), some (.int (i3 + (1 : Int32)))] [] w1) ∧
      (¬ x2 = 0 →
        qIn i3 12 ∧
        (qIn i2 12 ∧
        (((w1.1 3 (qIx i3)) ≤ (w1.1 3 (qIx i2)) →
          qAt s d c_Meetings_rarestOf (qQi Q) 7 [some (.ref 53), some (.int i1), some (.int i2), some (.int (i3 + (1 : Int32)))] [] w1) ∧
        (¬ (w1.1 3 (qIx i3)) ≤ (w1.1 3 (qIx i2)) →
          qAt s d c_Meetings_rarestOf (qQi Q) 7 [some (.ref 53), some (.int i1), some (.int i3), some (.int (i3 + (1 : Int32)))] [] w1))))))) :
  qAt s d c_Meetings_rarestOf (qQi Q) 7 [some (.ref 53), some (.int i1), some (.int i2), some (.int i3)] [] w := qAt_of u_Meetings_rarestOf [(7, [true, true, true, true])] 26 h

set_option maxRecDepth 100000 in
theorem A_X_lowestOf {s : Nat × (Nat → Int32)} {d : Nat} {w : qW} {Q : Int32 → qW → Prop} {i0 : Int32} (h :
  qCall (some s) d 103 [.int ((i0 &&& (-i0)) - (1 : Int32))] w (qQi fun x2 w1 =>
    Q x2 w1)) :
  qCall (some s) (d + 1) 102 [.int i0] w (qQi Q) := qCall_of (cd := c_X_lowestOf) (mL := 1) rfl u_X_lowestOf [] 9 h

set_option maxRecDepth 100000 in
theorem A_Integer_bitCount {s : Nat × (Nat → Int32)} {d : Nat} {w : qW} {Q : Int32 → qW → Prop} {i0 : Int32} (h :
  Q ((((((((i0 - ((qUshr i0 (1 : Int32)) &&& (1431655765 : Int32))) &&& (858993459 : Int32)) + ((qUshr (i0 - ((qUshr i0 (1 : Int32)) &&& (1431655765 : Int32))) (2 : Int32)) &&& (858993459 : Int32))) + (qUshr (((i0 - ((qUshr i0 (1 : Int32)) &&& (1431655765 : Int32))) &&& (858993459 : Int32)) + ((qUshr (i0 - ((qUshr i0 (1 : Int32)) &&& (1431655765 : Int32))) (2 : Int32)) &&& (858993459 : Int32))) (4 : Int32))) &&& (252645135 : Int32)) + (qUshr (((((i0 - ((qUshr i0 (1 : Int32)) &&& (1431655765 : Int32))) &&& (858993459 : Int32)) + ((qUshr (i0 - ((qUshr i0 (1 : Int32)) &&& (1431655765 : Int32))) (2 : Int32)) &&& (858993459 : Int32))) + (qUshr (((i0 - ((qUshr i0 (1 : Int32)) &&& (1431655765 : Int32))) &&& (858993459 : Int32)) + ((qUshr (i0 - ((qUshr i0 (1 : Int32)) &&& (1431655765 : Int32))) (2 : Int32)) &&& (858993459 : Int32))) (4 : Int32))) &&& (252645135 : Int32)) (8 : Int32))) + (qUshr ((((((i0 - ((qUshr i0 (1 : Int32)) &&& (1431655765 : Int32))) &&& (858993459 : Int32)) + ((qUshr (i0 - ((qUshr i0 (1 : Int32)) &&& (1431655765 : Int32))) (2 : Int32)) &&& (858993459 : Int32))) + (qUshr (((i0 - ((qUshr i0 (1 : Int32)) &&& (1431655765 : Int32))) &&& (858993459 : Int32)) + ((qUshr (i0 - ((qUshr i0 (1 : Int32)) &&& (1431655765 : Int32))) (2 : Int32)) &&& (858993459 : Int32))) (4 : Int32))) &&& (252645135 : Int32)) + (qUshr (((((i0 - ((qUshr i0 (1 : Int32)) &&& (1431655765 : Int32))) &&& (858993459 : Int32)) + ((qUshr (i0 - ((qUshr i0 (1 : Int32)) &&& (1431655765 : Int32))) (2 : Int32)) &&& (858993459 : Int32))) + (qUshr (((i0 - ((qUshr i0 (1 : Int32)) &&& (1431655765 : Int32))) &&& (858993459 : Int32)) + ((qUshr (i0 - ((qUshr i0 (1 : Int32)) &&& (1431655765 : Int32))) (2 : Int32)) &&& (858993459 : Int32))) (4 : Int32))) &&& (252645135 : Int32)) (8 : Int32))) (16 : Int32))) &&& (63 : Int32)) w) :
  qCall (some s) (d + 1) 103 [.int i0] w (qQi Q) := qCall_of (cd := c_Integer_bitCount) (mL := 1) rfl u_Integer_bitCount [] 43 h

set_option maxRecDepth 100000 in
theorem A_X_isOf {s : Nat × (Nat → Int32)} {d : Nat} {w : qW} {Q : Int32 → qW → Prop} {i0 : Int32} {i1 : Int32} (h :
  (i0 < 0 →
    Q (0 : Int32) w) ∧
  (¬ i0 < 0 →
    ((12 : Int32) ≤ i0 →
      Q (0 : Int32) w) ∧
    (¬ (12 : Int32) ≤ i0 →
      (((qUshr i1 i0) &&& (1 : Int32)) = 0 →
        Q (0 : Int32) w) ∧
      (¬ ((qUshr i1 i0) &&& (1 : Int32)) = 0 →
        Q (1 : Int32) w)))) :
  qCall (some s) (d + 1) 104 [.int i0, .int i1] w (qQi Q) := qCall_of (cd := c_X_isOf) (mL := 2) rfl u_X_isOf [] 15 h

set_option maxRecDepth 100000 in
theorem A_Meetings_areDue {s : Nat × (Nat → Int32)} {d : Nat} {w : qW} {Q : Int32 → qW → Prop} {i1 : Int32} {i2 : Int32} (h :
  qAt s d c_Meetings_areDue (qQi Q) 2 [some (.ref 53), some (.int i1), some (.int i2), some (.int (0 : Int32)), none] [] w) :
  qCall (some s) (d + 1) 105 [.ref 53, .int i1, .int i2] w (qQi Q) := qCall_of (cd := c_Meetings_areDue) (mL := 5) rfl u_Meetings_areDue [(2, [true, true, true, true, false])] 4 h
set_option maxRecDepth 100000 in
theorem A_Meetings_areDue_2 {s : Nat × (Nat → Int32)} {d : Nat} {w : qW} {Q : Int32 → qW → Prop} {i1 : Int32} {i2 : Int32} {i3 : Int32} (h :
  ((w.1 2 0) ≤ i3 →
    Q (1 : Int32) w) ∧
  (¬ (w.1 2 0) ≤ i3 →
    qIn i3 12 ∧
    (qCall (some s) d 104 [.int i3, .int i1] w (qQi fun x2 w1 =>
      (x2 = 0 →
        qAt s d c_Meetings_areDue (qQi Q) 2 [some (.ref 53), some (.int i1), some (.int i2), some (.int (i3 + (1 : Int32))), none] [] w1) ∧
      (¬ x2 = 0 →
        ((i2 - (w.1 4 (qIx i3))) < 0 →
          Q (0 : Int32) w1) ∧
        (¬ (i2 - (w.1 4 (qIx i3))) < 0 →
          qIn i3 12 ∧
          (¬ (w1.1 3 (qIx i3)) = 0 ∧ (((qRem (i2 - (w.1 4 (qIx i3))) (w1.1 3 (qIx i3))) = 0 →
            qAt s d c_Meetings_areDue (qQi Q) 2 [some (.ref 53), some (.int i1), some (.int i2), some (.int (i3 + (1 : Int32))), none] [] w1) ∧
          (¬ (qRem (i2 - (w.1 4 (qIx i3))) (w1.1 3 (qIx i3))) = 0 →
            Q (0 : Int32) w1))))))))) :
  qAt s d c_Meetings_areDue (qQi Q) 2 [some (.ref 53), some (.int i1), some (.int i2), some (.int i3), none] [] w := qAt_of u_Meetings_areDue [(2, [true, true, true, true, false])] 31 h

set_option maxRecDepth 100000 in
theorem A_Meetings_inDay {s : Nat × (Nat → Int32)} {d : Nat} {w : qW} {Q : Int64 → qW → Prop} {l1 : Int64} {i3 : Int32} (h :
  ¬ (Int32.toInt64 (w.1 2 4)) = 0 ∧ ((0 ≤ (lg_cmp ((l1 - (qRemL l1 (Int32.toInt64 (w.1 2 4)))) + (Int32.toInt64 i3)) l1) →
    Q ((l1 - (qRemL l1 (Int32.toInt64 (w.1 2 4)))) + (Int32.toInt64 i3)) w) ∧
  (¬ 0 ≤ (lg_cmp ((l1 - (qRemL l1 (Int32.toInt64 (w.1 2 4)))) + (Int32.toInt64 i3)) l1) →
    Q (((l1 - (qRemL l1 (Int32.toInt64 (w.1 2 4)))) + (Int32.toInt64 i3)) + (Int32.toInt64 (w.1 2 4))) w))) :
  qCall (some s) (d + 1) 106 [.ref 53, .long l1, .int i3] w (qQl Q) := qCall_of (cd := c_Meetings_inDay) (mL := 6) rfl u_Meetings_inDay [] 25 h

set_option maxRecDepth 100000 in
theorem A_Meetings_firstOpen {s : Nat × (Nat → Int32)} {d : Nat} {w : qW} {Q : Int64 → qW → Prop} {l1 : Int64} {l3 : Int64} (h :
  qAt s d c_Meetings_firstOpen (qQl Q) 3 [some (.ref 53), some (.long l1), none, some (.long l3), none, some (.int (0 : Int32)), none, none] [] w) :
  qCall (some s) (d + 1) 107 [.ref 53, .long l1, .long l3] w (qQl Q) := qCall_of (cd := c_Meetings_firstOpen) (mL := 8) rfl u_Meetings_firstOpen [(3, [true, true, false, true, false, true, false, false])] 4 h
set_option maxRecDepth 100000 in
theorem A_Meetings_firstOpen_3 {s : Nat × (Nat → Int32)} {d : Nat} {w : qW} {Q : Int64 → qW → Prop} {l1 : Int64} {l3 : Int64} {i5 : Int32} (h :
  ((w.1 2 5) ≤ i5 →
    Q (-1 : Int64) w) ∧
  (¬ (w.1 2 5) ≤ i5 →
    ¬ (Int32.toInt64 (w.1 2 5)) = 0 ∧ (((lg_cmp ((qLushr l3 (Int64.toInt32 (qRemL (l1 + ((Int32.toInt64 i5) * (Int32.toInt64 (w.1 2 4)))) (Int32.toInt64 (w.1 2 5))))) &&& (1 : Int64)) (0 : Int64)) = 0 →
      qAt s d c_Meetings_firstOpen (qQl Q) 3 [some (.ref 53), some (.long l1), none, some (.long l3), none, some (.int (i5 + (1 : Int32))), none, none] [] w) ∧
    (¬ (lg_cmp ((qLushr l3 (Int64.toInt32 (qRemL (l1 + ((Int32.toInt64 i5) * (Int32.toInt64 (w.1 2 4)))) (Int32.toInt64 (w.1 2 5))))) &&& (1 : Int64)) (0 : Int64)) = 0 →
      Q (l1 + ((Int32.toInt64 i5) * (Int32.toInt64 (w.1 2 4)))) w)))) :
  qAt s d c_Meetings_firstOpen (qQl Q) 3 [some (.ref 53), some (.long l1), none, some (.long l3), none, some (.int i5), none, none] [] w := qAt_of u_Meetings_firstOpen [(3, [true, true, false, true, false, true, false, false])] 33 h

set_option maxRecDepth 100000 in
theorem A_Meetings_firstWithoutDay {s : Nat × (Nat → Int32)} {d : Nat} {w : qW} {Q : Int64 → qW → Prop} {i1 : Int32} {l2 : Int64} {l4 : Int64} (h :
  qCall (some s) d 109 [.ref 53, .int i1] w (qQi fun x2 w1 =>
    (¬ x2 = (-1 : Int32) →
      Q (-1 : Int64) w1) ∧
    (x2 = (-1 : Int32) →
      qCall (some s) d 112 [.ref 53, .int i1, .long l4] w1 (qQl fun y4 w3 =>
        (¬ (lg_cmp y4 (0 : Int64)) = 0 →
          qCall (some s) d 113 [.ref 53, .int i1] w3 (qQv fun w5 =>
            ((w5.1 53 4) = 0 →
              qCall (some s) d 117 [.ref 53, .int i1, .long l2] w5 (qQv fun w6 =>
                qAt s d c_Meetings_firstWithoutDay (qQl Q) 50 [some (.ref 53), none, none, none, some (.long l4), none, some (.int (0 : Int32))] [] w6)) ∧
            (¬ (w5.1 53 4) = 0 →
              Q (-2 : Int64) w5))) ∧
        ((lg_cmp y4 (0 : Int64)) = 0 →
          Q (-1 : Int64) w3))))) :
  qCall (some s) (d + 1) 108 [.ref 53, .int i1, .long l2, .long l4] w (qQl Q) := qCall_of (cd := c_Meetings_firstWithoutDay) (mL := 7) rfl u_Meetings_firstWithoutDay [(50, [true, false, false, false, true, false, true])] 26 h
set_option maxRecDepth 100000 in
theorem A_Meetings_firstWithoutDay_50 {s : Nat × (Nat → Int32)} {d : Nat} {w : qW} {Q : Int64 → qW → Prop} {l4 : Int64} {i6 : Int32} (h :
  ((w.1 2 5) ≤ i6 →
    Q (-2 : Int64) w) ∧
  (¬ (w.1 2 5) ≤ i6 →
    (0 < (lg_cmp (w.2.1 53 2) (1000000000000000 : Int64)) →
      Q (-2 : Int64) w) ∧
    (¬ 0 < (lg_cmp (w.2.1 53 2) (1000000000000000 : Int64)) →
      ¬ (Int32.toInt64 (w.1 2 5)) = 0 ∧ (((lg_cmp ((qLushr l4 (Int64.toInt32 (qRemL (w.2.1 53 2) (Int32.toInt64 (w.1 2 5))))) &&& (1 : Int64)) (0 : Int64)) = 0 →
        qAt s d c_Meetings_firstWithoutDay (qQl Q) 50 [some (.ref 53), none, none, none, some (.long l4), none, some (.int (i6 + (1 : Int32)))] [] (qPutL w 53 2 ((w.2.1 53 2) + (w.2.1 53 3)))) ∧
      (¬ (lg_cmp ((qLushr l4 (Int64.toInt32 (qRemL (w.2.1 53 2) (Int32.toInt64 (w.1 2 5))))) &&& (1 : Int64)) (0 : Int64)) = 0 →
        Q (w.2.1 53 2) w))))) :
  qAt s d c_Meetings_firstWithoutDay (qQl Q) 50 [some (.ref 53), none, none, none, some (.long l4), none, some (.int i6)] [] w := qAt_of u_Meetings_firstWithoutDay [(50, [true, false, false, false, true, false, true])] 36 h

set_option maxRecDepth 100000 in
theorem A_Meetings_pairApart {s : Nat × (Nat → Int32)} {d : Nat} {w : qW} {Q : Int32 → qW → Prop} {i1 : Int32} (h :
  qAt s d c_Meetings_pairApart (qQi Q) 2 [some (.ref 53), some (.int i1), some (.int (0 : Int32)), none] [] w) :
  qCall (some s) (d + 1) 109 [.ref 53, .int i1] w (qQi Q) := qCall_of (cd := c_Meetings_pairApart) (mL := 4) rfl u_Meetings_pairApart [(2, [true, true, true, false]), (17, [true, true, true, true])] 4 h
set_option maxRecDepth 100000 in
theorem A_Meetings_pairApart_2 {s : Nat × (Nat → Int32)} {d : Nat} {w : qW} {Q : Int32 → qW → Prop} {i1 : Int32} {i2 : Int32} (h :
  ((w.1 2 0) ≤ i2 →
    Q (-1 : Int32) w) ∧
  (¬ (w.1 2 0) ≤ i2 →
    qAt s d c_Meetings_pairApart (qQi Q) 17 [some (.ref 53), some (.int i1), some (.int i2), some (.int (i2 + (1 : Int32)))] [] w)) :
  qAt s d c_Meetings_pairApart (qQi Q) 2 [some (.ref 53), some (.int i1), some (.int i2), none] [] w := qAt_of u_Meetings_pairApart [(2, [true, true, true, false]), (17, [true, true, true, true])] 11 h
set_option maxRecDepth 100000 in
theorem A_Meetings_pairApart_17 {s : Nat × (Nat → Int32)} {d : Nat} {w : qW} {Q : Int32 → qW → Prop} {i1 : Int32} {i2 : Int32} {i3 : Int32} (h :
  ((w.1 2 0) ≤ i3 →
    qAt s d c_Meetings_pairApart (qQi Q) 2 [some (.ref 53), some (.int i1), some (.int (i2 + (1 : Int32))), none] [] w) ∧
  (¬ (w.1 2 0) ≤ i3 →
    qCall (some s) d 104 [.int i2, .int i1] w (qQi fun x2 w1 =>
      (x2 = 0 →
        qAt s d c_Meetings_pairApart (qQi Q) 17 [some (.ref 53), some (.int i1), some (.int i2), some (.int (i3 + (1 : Int32)))] [] w1) ∧
      (¬ x2 = 0 →
        qCall (some s) d 104 [.int i3, .int i1] w1 (qQi fun x4 w3 =>
          (x4 = 0 →
            qAt s d c_Meetings_pairApart (qQi Q) 17 [some (.ref 53), some (.int i1), some (.int i2), some (.int (i3 + (1 : Int32)))] [] w3) ∧
          (¬ x4 = 0 →
            qCall (some s) d 110 [.ref 53, .int i2, .int i3] w3 (qQi fun x6 w5 =>
              (¬ x6 = 0 →
                qAt s d c_Meetings_pairApart (qQi Q) 17 [some (.ref 53), some (.int i1), some (.int i2), some (.int (i3 + (1 : Int32)))] [] w5) ∧
              (x6 = 0 →
                Q (((12 : Int32) * i2) + i3) w5)))))))) :
  qAt s d c_Meetings_pairApart (qQi Q) 17 [some (.ref 53), some (.int i1), some (.int i2), some (.int i3)] [] w := qAt_of u_Meetings_pairApart [(2, [true, true, true, false]), (17, [true, true, true, true])] 25 h

set_option maxRecDepth 100000 in
theorem A_Meetings_isMeeting {s : Nat × (Nat → Int32)} {d : Nat} {w : qW} {Q : Int32 → qW → Prop} {i1 : Int32} {i2 : Int32} (h :
  qIn i1 12 ∧
  (qIn i2 12 ∧
  (qIn i1 12 ∧
  (qIn i2 12 ∧
  (qCall (some s) d 111 [.long (Int32.toInt64 (w.1 3 (qIx i1))), .long (Int32.toInt64 (w.1 3 (qIx i2)))] w (qQl fun y2 w1 =>
    ¬ y2 = 0 ∧ ((¬ (lg_cmp (qRemL (Int32.toInt64 ((w.1 4 (qIx i1)) - (w.1 4 (qIx i2)))) y2) (0 : Int64)) = 0 →
      Q (0 : Int32) w1) ∧
    ((lg_cmp (qRemL (Int32.toInt64 ((w.1 4 (qIx i1)) - (w.1 4 (qIx i2)))) y2) (0 : Int64)) = 0 →
      Q (1 : Int32) w1)))))))) :
  qCall (some s) (d + 1) 110 [.ref 53, .int i1, .int i2] w (qQi Q) := qCall_of (cd := c_Meetings_isMeeting) (mL := 3) rfl u_Meetings_isMeeting [] 33 h

set_option maxRecDepth 100000 in
theorem A_X_gcd {s : Nat × (Nat → Int32)} {d : Nat} {w : qW} {Q : Int64 → qW → Prop} {l0 : Int64} {l2 : Int64} (h :
  qAt s d c_X_gcd (qQl Q) 9 [none, none, none, none, some (.long l0), none, some (.long l2), none, some (.int (0 : Int32)), none, none] [] w) :
  qCall (some s) (d + 1) 111 [.long l0, .long l2] w (qQl Q) := qCall_of (cd := c_X_gcd) (mL := 11) rfl u_X_gcd [(9, [false, false, false, false, true, false, true, false, true, false, false])] 8 h
set_option maxRecDepth 100000 in
theorem A_X_gcd_9 {s : Nat × (Nat → Int32)} {d : Nat} {w : qW} {Q : Int64 → qW → Prop} {l4 : Int64} {l6 : Int64} {i8 : Int32} (h :
  ((200 : Int32) ≤ i8 →
    Q l4 w) ∧
  (¬ (200 : Int32) ≤ i8 →
    ((lg_cmp l6 (0 : Int64)) = 0 →
      Q l4 w) ∧
    (¬ (lg_cmp l6 (0 : Int64)) = 0 →
      ¬ l6 = 0 ∧ (qAt s d c_X_gcd (qQl Q) 9 [none, none, none, none, some (.long l6), none, some (.long (qRemL l4 l6)), none, some (.int (i8 + (1 : Int32))), none, none] [] w)))) :
  qAt s d c_X_gcd (qQl Q) 9 [none, none, none, none, some (.long l4), none, some (.long l6), none, some (.int i8), none, none] [] w := qAt_of u_X_gcd [(9, [false, false, false, false, true, false, true, false, true, false, false])] 19 h

set_option maxRecDepth 100000 in
theorem A_Meetings_clocksInReach {s : Nat × (Nat → Int32)} {d : Nat} {w : qW} {Q : Int64 → qW → Prop} {i1 : Int32} {l2 : Int64} (h :
  qAt s d c_Meetings_clocksInReach (qQl Q) 6 [some (.ref 53), some (.int i1), none, none, some (.long l2), none, some (.int (0 : Int32)), none, none, none] [] w) :
  qCall (some s) (d + 1) 112 [.ref 53, .int i1, .long l2] w (qQl Q) := qCall_of (cd := c_Meetings_clocksInReach) (mL := 10) rfl u_Meetings_clocksInReach [(6, [true, true, false, false, true, false, true, false, false, false]), (54, [true, true, false, false, true, false, true, true, false, true])] 6 h
set_option maxRecDepth 100000 in
theorem A_Meetings_clocksInReach_6 {s : Nat × (Nat → Int32)} {d : Nat} {w : qW} {Q : Int64 → qW → Prop} {i1 : Int32} {l4 : Int64} {i6 : Int32} (h :
  ((w.1 2 0) ≤ i6 →
    Q l4 w) ∧
  (¬ (w.1 2 0) ≤ i6 →
    qCall (some s) d 104 [.int i6, .int i1] w (qQi fun x2 w1 =>
      (x2 = 0 →
        qAt s d c_Meetings_clocksInReach (qQl Q) 6 [some (.ref 53), some (.int i1), none, none, some (.long l4), none, some (.int (i6 + (1 : Int32))), none, none, none] [] w1) ∧
      (¬ x2 = 0 →
        qIn i6 12 ∧
        (qCall (some s) d 111 [.long (Int32.toInt64 (w1.1 3 (qIx i6))), .long (Int32.toInt64 (w1.1 2 5))] w1 (qQl fun y4 w3 =>
          qAt s d c_Meetings_clocksInReach (qQl Q) 54 [some (.ref 53), some (.int i1), none, none, some (.long l4), none, some (.int i6), some (.long y4), none, some (.int (0 : Int32))] [] w3)))))) :
  qAt s d c_Meetings_clocksInReach (qQl Q) 6 [some (.ref 53), some (.int i1), none, none, some (.long l4), none, some (.int i6), none, none, none] [] w := qAt_of u_Meetings_clocksInReach [(6, [true, true, false, false, true, false, true, false, false, false]), (54, [true, true, false, false, true, false, true, true, false, true])] 25 h
set_option maxRecDepth 100000 in
theorem A_Meetings_clocksInReach_54 {s : Nat × (Nat → Int32)} {d : Nat} {w : qW} {Q : Int64 → qW → Prop} {i1 : Int32} {l4 : Int64} {i6 : Int32} {l7 : Int64} {i9 : Int32} (h :
  ((w.1 2 5) ≤ i9 →
    qAt s d c_Meetings_clocksInReach (qQl Q) 6 [some (.ref 53), some (.int i1), none, none, some (.long l4), none, some (.int (i6 + (1 : Int32))), none, none, none] [] w) ∧
  (¬ (w.1 2 5) ≤ i9 →
    qIn i6 12 ∧
    (¬ l7 = 0 ∧ (((lg_cmp (qRemL (Int32.toInt64 (i9 - (w.1 4 (qIx i6)))) l7) (0 : Int64)) = 0 →
      qAt s d c_Meetings_clocksInReach (qQl Q) 54 [some (.ref 53), some (.int i1), none, none, some (.long l4), none, some (.int i6), some (.long l7), none, some (.int (i9 + (1 : Int32)))] [] w) ∧
    (¬ (lg_cmp (qRemL (Int32.toInt64 (i9 - (w.1 4 (qIx i6)))) l7) (0 : Int64)) = 0 →
      qAt s d c_Meetings_clocksInReach (qQl Q) 54 [some (.ref 53), some (.int i1), none, none, some (.long (l4 &&& ((qLshl (1 : Int64) i9) ^^^ (-1 : Int64)))), none, some (.int i6), some (.long l7), none, some (.int (i9 + (1 : Int32)))] [] w))))) :
  qAt s d c_Meetings_clocksInReach (qQl Q) 54 [some (.ref 53), some (.int i1), none, none, some (.long l4), none, some (.int i6), some (.long l7), none, some (.int i9)] [] w := qAt_of u_Meetings_clocksInReach [(6, [true, true, false, false, true, false, true, false, false, false]), (54, [true, true, false, false, true, false, true, true, false, true])] 30 h

set_option maxRecDepth 100000 in
theorem A_Meetings_gather {s : Nat × (Nat → Int32)} {d : Nat} {w : qW} {Q : qW → Prop} {i1 : Int32} (h :
  qAt s d c_Meetings_gather (qQv Q) 17 [some (.ref 53), some (.int i1), some (.int (0 : Int32))] [] (qPutI (qPutL (qPutL w 53 2 (0 : Int64)) 53 3 (1 : Int64)) 53 4 (0 : Int32))) :
  qCall (some s) (d + 1) 113 [.ref 53, .int i1] w (qQv Q) := qCall_of (cd := c_Meetings_gather) (mL := 3) rfl u_Meetings_gather [(17, [true, true, true])] 13 h
set_option maxRecDepth 100000 in
theorem A_Meetings_gather_17 {s : Nat × (Nat → Int32)} {d : Nat} {w : qW} {Q : qW → Prop} {i1 : Int32} {i2 : Int32} (h :
  ((w.1 2 0) ≤ i2 →
    Q w) ∧
  (¬ (w.1 2 0) ≤ i2 →
    (¬ (w.1 53 4) = 0 →
      Q w) ∧
    ((w.1 53 4) = 0 →
      qCall (some s) d 104 [.int i2, .int i1] w (qQi fun x2 w1 =>
        (x2 = 0 →
          qAt s d c_Meetings_gather (qQv Q) 17 [some (.ref 53), some (.int i1), some (.int (i2 + (1 : Int32)))] [] w1) ∧
        (¬ x2 = 0 →
          qIn i2 12 ∧
          (qIn i2 12 ∧
          (qCall (some s) d 114 [.ref 53, .int (w1.1 4 (qIx i2)), .int (w1.1 3 (qIx i2))] w1 (qQv fun w3 =>
            qAt s d c_Meetings_gather (qQv Q) 17 [some (.ref 53), some (.int i1), some (.int (i2 + (1 : Int32)))] [] w3)))))))) :
  qAt s d c_Meetings_gather (qQv Q) 17 [some (.ref 53), some (.int i1), some (.int i2)] [] w := qAt_of u_Meetings_gather [(17, [true, true, true])] 28 h

set_option maxRecDepth 100000 in
theorem A_Meetings_join {s : Nat × (Nat → Int32)} {d : Nat} {w : qW} {Q : qW → Prop} {i1 : Int32} {i2 : Int32} (h :
  ((lg_cmp (w.2.1 53 3) (1000000000000000 : Int64)) ≤ 0 →
    qCall (some s) d 111 [.long (w.2.1 53 3), .long (Int32.toInt64 i2)] w (qQl fun y2 w1 =>
      ¬ y2 = 0 ∧ (¬ y2 = 0 ∧ (qCall (some s) d 115 [.long (((Int32.toInt64 i1) - (w1.2.1 53 2)) / y2), .long ((Int32.toInt64 i2) / y2)] w1 (qQl fun y4 w3 =>
        ¬ y2 = 0 ∧ (¬ ((Int32.toInt64 i2) / y2) = 0 ∧ (qCall (some s) d 116 [.long (qRemL ((w3.2.1 53 3) / y2) ((Int32.toInt64 i2) / y2)), .long ((Int32.toInt64 i2) / y2)] w3 (qQl fun y6 w5 =>
          ¬ ((Int32.toInt64 i2) / y2) = 0 ∧ (¬ (w5.2.1 53 3) = 0 ∧ (((lg_cmp (qRemL (y4 * y6) ((Int32.toInt64 i2) / y2)) (((1000000000000000 : Int64) - (w5.2.1 53 2)) / (w5.2.1 53 3))) ≤ 0 →
            ¬ ((Int32.toInt64 i2) / y2) = 0 ∧ (((lg_cmp (w5.2.1 53 3) ((1000000000000000 : Int64) / ((Int32.toInt64 i2) / y2))) ≤ 0 →
              Q (qPutL (qPutL w5 53 2 ((w5.2.1 53 2) + ((qRemL (y4 * y6) ((Int32.toInt64 i2) / y2)) * (w5.2.1 53 3)))) 53 3 ((w5.2.1 53 3) * ((Int32.toInt64 i2) / y2)))) ∧
            (¬ (lg_cmp (w5.2.1 53 3) ((1000000000000000 : Int64) / ((Int32.toInt64 i2) / y2))) ≤ 0 →
              Q (qPutL (qPutL w5 53 2 ((w5.2.1 53 2) + ((qRemL (y4 * y6) ((Int32.toInt64 i2) / y2)) * (w5.2.1 53 3)))) 53 3 (1000000000000001 : Int64))))) ∧
          (¬ (lg_cmp (qRemL (y4 * y6) ((Int32.toInt64 i2) / y2)) (((1000000000000000 : Int64) - (w5.2.1 53 2)) / (w5.2.1 53 3))) ≤ 0 →
            Q (qPutI w5 53 4 (1 : Int32))))))))))))) ∧
  (¬ (lg_cmp (w.2.1 53 3) (1000000000000000 : Int64)) ≤ 0 →
    ¬ (Int32.toInt64 i2) = 0 ∧ (((lg_cmp (qRemL ((w.2.1 53 2) - (Int32.toInt64 i1)) (Int32.toInt64 i2)) (0 : Int64)) = 0 →
      Q (qPutI w 53 4 (0 : Int32))) ∧
    (¬ (lg_cmp (qRemL ((w.2.1 53 2) - (Int32.toInt64 i1)) (Int32.toInt64 i2)) (0 : Int64)) = 0 →
      Q (qPutI w 53 4 (1 : Int32)))))) :
  qCall (some s) (d + 1) 114 [.ref 53, .int i1, .int i2] w (qQv Q) := qCall_of (cd := c_Meetings_join) (mL := 9) rfl u_Meetings_join [] 71 h

set_option maxRecDepth 100000 in
theorem A_Math_floorMod {s : Nat × (Nat → Int32)} {d : Nat} {w : qW} {Q : Int64 → qW → Prop} {l0 : Int64} {l2 : Int64} (h :
  ¬ l2 = 0 ∧ ((0 ≤ (lg_cmp (l0 ^^^ l2) (0 : Int64)) →
    Q (qRemL l0 l2) w) ∧
  (¬ 0 ≤ (lg_cmp (l0 ^^^ l2) (0 : Int64)) →
    ((lg_cmp (qRemL l0 l2) (0 : Int64)) = 0 →
      Q (qRemL l0 l2) w) ∧
    (¬ (lg_cmp (qRemL l0 l2) (0 : Int64)) = 0 →
      Q ((qRemL l0 l2) + l2) w)))) :
  qCall (some s) (d + 1) 115 [.long l0, .long l2] w (qQl Q) := qCall_of (cd := c_Math_floorMod) (mL := 6) rfl u_Math_floorMod [] 19 h

set_option maxRecDepth 100000 in
theorem A_Meetings_inverse {s : Nat × (Nat → Int32)} {d : Nat} {w : qW} {Q : Int64 → qW → Prop} {l0 : Int64} {l2 : Int64} (h :
  qAt s d c_Meetings_inverse (qQl Q) 15 [none, none, some (.long l2), none, some (.long l2), none, some (.long l0), none, some (.long (0 : Int64)), none, some (.long (1 : Int64)), none, some (.int (0 : Int32)), none, none, none, none, none, none] [] w) :
  qCall (some s) (d + 1) 116 [.long l0, .long l2] w (qQl Q) := qCall_of (cd := c_Meetings_inverse) (mL := 19) rfl u_Meetings_inverse [(15, [false, false, true, false, true, false, true, false, true, false, true, false, true, false, false, false, false, false, false])] 12 h
set_option maxRecDepth 100000 in
theorem A_Meetings_inverse_15 {s : Nat × (Nat → Int32)} {d : Nat} {w : qW} {Q : Int64 → qW → Prop} {l2 : Int64} {l4 : Int64} {l6 : Int64} {l8 : Int64} {l10 : Int64} {i12 : Int32} (h :
  ((200 : Int32) ≤ i12 →
    qCall (some s) d 115 [.long l8, .long l2] w (qQl fun y2 w1 =>
      Q y2 w1)) ∧
  (¬ (200 : Int32) ≤ i12 →
    ((lg_cmp l6 (0 : Int64)) = 0 →
      qCall (some s) d 115 [.long l8, .long l2] w (qQl fun y4 w3 =>
        Q y4 w3)) ∧
    (¬ (lg_cmp l6 (0 : Int64)) = 0 →
      ¬ l6 = 0 ∧ (qAt s d c_Meetings_inverse (qQl Q) 15 [none, none, some (.long l2), none, some (.long l6), none, some (.long (l4 - ((l4 / l6) * l6))), none, some (.long l10), none, some (.long (l8 - ((l4 / l6) * l10))), none, some (.int (i12 + (1 : Int32))), none, none, none, none, none, none] [] w)))) :
  qAt s d c_Meetings_inverse (qQl Q) 15 [none, none, some (.long l2), none, some (.long l4), none, some (.long l6), none, some (.long l8), none, some (.long l10), none, some (.int i12), none, none, none, none, none, none] [] w := qAt_of u_Meetings_inverse [(15, [false, false, true, false, true, false, true, false, true, false, true, false, true, false, false, false, false, false, false])] 35 h

set_option maxRecDepth 100000 in
theorem A_Meetings_moveOn {s : Nat × (Nat → Int32)} {d : Nat} {w : qW} {Q : qW → Prop} {i1 : Int32} {l2 : Int64} (h :
  qAt s d c_Meetings_moveOn (qQv Q) 6 [some (.ref 53), some (.int i1), none, none, some (.long l2), none, some (.int (0 : Int32))] [] w) :
  qCall (some s) (d + 1) 117 [.ref 53, .int i1, .long l2] w (qQv Q) := qCall_of (cd := c_Meetings_moveOn) (mL := 7) rfl u_Meetings_moveOn [(6, [true, true, false, false, true, false, true])] 6 h
set_option maxRecDepth 100000 in
theorem A_Meetings_moveOn_6 {s : Nat × (Nat → Int32)} {d : Nat} {w : qW} {Q : qW → Prop} {i1 : Int32} {l4 : Int64} {i6 : Int32} (h :
  ((w.1 2 0) ≤ i6 →
    (0 ≤ (lg_cmp (w.2.1 53 2) l4) →
      Q w) ∧
    (¬ 0 ≤ (lg_cmp (w.2.1 53 2) l4) →
      ¬ (w.2.1 53 3) = 0 ∧ (Q (qPutL w 53 2 ((w.2.1 53 2) + (((((l4 - (w.2.1 53 2)) + (w.2.1 53 3)) - (1 : Int64)) / (w.2.1 53 3)) * (w.2.1 53 3))))))) ∧
  (¬ (w.1 2 0) ≤ i6 →
    qCall (some s) d 104 [.int i6, .int i1] w (qQi fun x2 w1 =>
      (x2 = 0 →
        qAt s d c_Meetings_moveOn (qQv Q) 6 [some (.ref 53), some (.int i1), none, none, some (.long l4), none, some (.int (i6 + (1 : Int32)))] [] w1) ∧
      (¬ x2 = 0 →
        qIn i6 12 ∧
        (qCall (some s) d 25 [.long l4, .long (Int32.toInt64 (w1.1 4 (qIx i6)))] w1 (qQl fun y4 w3 =>
          qAt s d c_Meetings_moveOn (qQv Q) 6 [some (.ref 53), some (.int i1), none, none, some (.long y4), none, some (.int (i6 + (1 : Int32)))] [] w3)))))) :
  qAt s d c_Meetings_moveOn (qQv Q) 6 [some (.ref 53), some (.int i1), none, none, some (.long l4), none, some (.int i6)] [] w := qAt_of u_Meetings_moveOn [(6, [true, true, false, false, true, false, true])] 32 h

set_option maxRecDepth 100000 in
theorem A_X_barred {s : Nat × (Nat → Int32)} {d : Nat} {w : qW} {Q : Int32 → qW → Prop} {i1 : Int32} {i2 : Int32} (h :
  qCall (some s) d 97 [.ref 2, .int i1] w (qQi fun x2 w1 =>
    (x2 = 0 →
      Q (-1 : Int32) w1) ∧
    (¬ x2 = 0 →
      (0 < (w1.1 2 4) →
        Q (-1 : Int32) w1) ∧
      (¬ 0 < (w1.1 2 4) →
        (i2 < 0 →
          Q (-1 : Int32) w1) ∧
        (¬ i2 < 0 →
          (i2 ≤ (1 : Int32) →
            qCall (some s) d 109 [.ref 53, .int i1] w1 (qQi fun x4 w3 =>
              (¬ x4 = (-1 : Int32) →
                (¬ i2 = 0 →
                  ¬ (12 : Int32) = 0 ∧ (Q (qRem x4 (12 : Int32)) w3)) ∧
                (i2 = 0 →
                  ¬ (12 : Int32) = 0 ∧ (Q (x4 / (12 : Int32)) w3))) ∧
              (x4 = (-1 : Int32) →
                Q (-1 : Int32) w3))) ∧
          (¬ i2 ≤ (1 : Int32) →
            Q (-1 : Int32) w1)))))) :
  qCall (some s) (d + 1) 118 [.ref 1, .int i1, .int i2] w (qQi Q) := qCall_of (cd := c_X_barred) (mL := 4) rfl u_X_barred [] 30 h

set_option maxRecDepth 100000 in
theorem A_X_together {s : Nat × (Nat → Int32)} {d : Nat} {w : qW} {Q : Int64 → qW → Prop} {i1 : Int32} {l2 : Int64} {l4 : Int64} (h :
  qCall (some s) d 97 [.ref 2, .int i1] w (qQi fun x2 w1 =>
    (x2 = 0 →
      Q (-1 : Int64) w1) ∧
    (¬ x2 = 0 →
      qCall (some s) d 120 [.long l2, .long l4] w1 (qQi fun x4 w3 =>
        (¬ x4 = 0 →
          qCall (some s) d 121 [.ref 53, .int i1, .long l2, .long ((l2 + l4) - (1 : Int64))] w3 (qQl fun y6 w5 =>
            Q y6 w5)) ∧
        (x4 = 0 →
          Q (-1 : Int64) w3))))) :
  qCall (some s) (d + 1) 119 [.ref 1, .int i1, .long l2, .long l4] w (qQl Q) := qCall_of (cd := c_X_together) (mL := 6) rfl u_X_together [] 21 h

set_option maxRecDepth 100000 in
theorem A_X_areHours {s : Nat × (Nat → Int32)} {d : Nat} {w : qW} {Q : Int32 → qW → Prop} {l0 : Int64} {l2 : Int64} (h :
  ((lg_cmp l2 (1 : Int64)) < 0 →
    Q (0 : Int32) w) ∧
  (¬ (lg_cmp l2 (1 : Int64)) < 0 →
    (0 < (lg_cmp l2 (1000000000000000 : Int64)) →
      Q (0 : Int32) w) ∧
    (¬ 0 < (lg_cmp l2 (1000000000000000 : Int64)) →
      ((lg_cmp l0 (0 : Int64)) < 0 →
        Q (0 : Int32) w) ∧
      (¬ (lg_cmp l0 (0 : Int64)) < 0 →
        (0 < (lg_cmp l0 ((1000000000000000 : Int64) - (l2 - (1 : Int64)))) →
          Q (0 : Int32) w) ∧
        (¬ 0 < (lg_cmp l0 ((1000000000000000 : Int64) - (l2 - (1 : Int64)))) →
          Q (1 : Int32) w))))) :
  qCall (some s) (d + 1) 120 [.long l0, .long l2] w (qQi Q) := qCall_of (cd := c_X_areHours) (mL := 4) rfl u_X_areHours [] 24 h

set_option maxRecDepth 100000 in
theorem A_Meetings_countOf {s : Nat × (Nat → Int32)} {d : Nat} {w : qW} {Q : Int64 → qW → Prop} {i1 : Int32} {l2 : Int64} {l4 : Int64} (h :
  qCall (some s) d 99 [.ref 50, .int i1] w (qQl fun y2 w1 =>
    ((w1.1 2 4) ≤ 0 →
      qCall (some s) d 109 [.ref 53, .int i1] w1 (qQi fun x4 w3 =>
        (x4 = (-1 : Int32) →
          qCall (some s) d 113 [.ref 53, .int i1] w3 (qQv fun w5 =>
            ((w5.1 53 4) = 0 →
              qCall (some s) d 117 [.ref 53, .int i1, .long l2] w5 (qQv fun w6 =>
                qCall (some s) d 123 [.ref 53, .long (w6.2.1 53 3)] w6 (qQv fun w7 =>
                  qCall (some s) d 124 [.ref 53, .long (w7.2.1 53 2), .long (w7.2.1 53 3), .long l4, .long y2] w7 (qQl fun y9 w8 =>
                    Q y9 w8)))) ∧
            (¬ (w5.1 53 4) = 0 →
              Q (0 : Int64) w5))) ∧
        (¬ x4 = (-1 : Int32) →
          Q (0 : Int64) w3))) ∧
    (¬ (w1.1 2 4) ≤ 0 →
      qCall (some s) d 122 [.ref 53, .int i1, .long l2, .long l4, .long y2] w1 (qQl fun y11 w10 =>
        Q y11 w10)))) :
  qCall (some s) (d + 1) 121 [.ref 53, .int i1, .long l2, .long l4] w (qQl Q) := qCall_of (cd := c_Meetings_countOf) (mL := 8) rfl u_Meetings_countOf [] 38 h

set_option maxRecDepth 100000 in
theorem A_Meetings_countByDay {s : Nat × (Nat → Int32)} {d : Nat} {w : qW} {Q : Int64 → qW → Prop} {i1 : Int32} {l2 : Int64} {l4 : Int64} {l6 : Int64} (h :
  qCall (some s) d 101 [.ref 53, .int i1] w (qQi fun x2 w1 =>
    qCall (some s) d 123 [.ref 53, .long (Int32.toInt64 (w1.1 2 4))] w1 (qQv fun w3 =>
      qIn x2 12 ∧
      (qAt s d c_Meetings_countByDay (qQl Q) 34 [some (.ref 53), some (.int i1), some (.long l2), none, some (.long l4), none, some (.long l6), none, some (.int x2), some (.long (0 : Int64)), none, some (.int (w3.1 4 (qIx x2)))] [] w3)))) :
  qCall (some s) (d + 1) 122 [.ref 53, .int i1, .long l2, .long l4, .long l6] w (qQl Q) := qCall_of (cd := c_Meetings_countByDay) (mL := 12) rfl u_Meetings_countByDay [(34, [true, true, true, false, true, false, true, false, true, true, false, true])] 20 h
set_option maxRecDepth 100000 in
theorem A_Meetings_countByDay_34 {s : Nat × (Nat → Int32)} {d : Nat} {w : qW} {Q : Int64 → qW → Prop} {i1 : Int32} {l2 : Int64} {l4 : Int64} {l6 : Int64} {i8 : Int32} {l9 : Int64} {i11 : Int32} (h :
  ((w.1 2 4) ≤ i11 →
    Q l9 w) ∧
  (¬ (w.1 2 4) ≤ i11 →
    qCall (some s) d 105 [.ref 53, .int i1, .int i11] w (qQi fun x2 w1 =>
      (x2 = 0 →
        qIn i8 12 ∧
        (qCall (some s) d 21 [.int (1 : Int32), .int (w1.1 3 (qIx i8))] w1 (qQi fun x4 w3 =>
          qAt s d c_Meetings_countByDay (qQl Q) 34 [some (.ref 53), some (.int i1), some (.long l2), none, some (.long l4), none, some (.long l6), none, some (.int i8), some (.long l9), none, some (.int (i11 + x4))] [] w3))) ∧
      (¬ x2 = 0 →
        qCall (some s) d 106 [.ref 53, .long l2, .int i11] w1 (qQl fun y6 w5 =>
          qCall (some s) d 124 [.ref 53, .long y6, .long (Int32.toInt64 (w5.1 2 4)), .long l4, .long l6] w5 (qQl fun y8 w7 =>
            qIn i8 12 ∧
            (qCall (some s) d 21 [.int (1 : Int32), .int (w7.1 3 (qIx i8))] w7 (qQi fun x10 w9 =>
              qAt s d c_Meetings_countByDay (qQl Q) 34 [some (.ref 53), some (.int i1), some (.long l2), none, some (.long l4), none, some (.long l6), none, some (.int i8), some (.long (l9 + y8)), none, some (.int (i11 + x10))] [] w9)))))))) :
  qAt s d c_Meetings_countByDay (qQl Q) 34 [some (.ref 53), some (.int i1), some (.long l2), none, some (.long l4), none, some (.long l6), none, some (.int i8), some (.long l9), none, some (.int i11)] [] w := qAt_of u_Meetings_countByDay [(34, [true, true, true, false, true, false, true, false, true, true, false, true])] 38 h

set_option maxRecDepth 100000 in
theorem A_Meetings_layClocks {s : Nat × (Nat → Int32)} {d : Nat} {w : qW} {Q : qW → Prop} {l1 : Int64} (h :
  ¬ (Int32.toInt64 (w.1 2 5)) = 0 ∧ (qCall (some s) d 111 [.long (Int32.toInt64 (w.1 2 5)), .long (Int32.toInt64 (Int64.toInt32 (qRemL l1 (Int32.toInt64 (w.1 2 5)))))] w (qQl fun y2 w1 =>
    ¬ (Int64.toInt32 y2) = 0 ∧ (qIn (0 : Int32) 61 ∧
    (qAt s d c_Meetings_layClocks (qQv Q) 51 [some (.ref 53), none, none, some (.int (Int64.toInt32 (qRemL l1 (Int32.toInt64 (w.1 2 5))))), some (.int (0 : Int32)), some (.int (0 : Int32))] [] (qPutL (qPutI w1 53 6 ((w.1 2 5) / (Int64.toInt32 y2))) 54 (qIx (0 : Int32)) (0 : Int64))))))) :
  qCall (some s) (d + 1) 123 [.ref 53, .long l1] w (qQv Q) := qCall_of (cd := c_Meetings_layClocks) (mL := 6) rfl u_Meetings_layClocks [(51, [true, false, false, true, true, true])] 33 h
set_option maxRecDepth 100000 in
theorem A_Meetings_layClocks_51 {s : Nat × (Nat → Int32)} {d : Nat} {w : qW} {Q : qW → Prop} {i3 : Int32} {i4 : Int32} {i5 : Int32} (h :
  ((w.1 53 6) ≤ i5 →
    Q w) ∧
  (¬ (w.1 53 6) ≤ i5 →
    qIn i5 61 ∧
    (qIn (i5 + (1 : Int32)) 61 ∧
    (¬ (w.1 2 5) = 0 ∧ (qAt s d c_Meetings_layClocks (qQv Q) 51 [some (.ref 53), none, none, some (.int i3), some (.int (qRem (i4 + i3) (w.1 2 5))), some (.int (i5 + (1 : Int32)))] [] (qPutL w 54 (qIx (i5 + (1 : Int32))) ((w.2.1 54 (qIx i5)) ||| (qLshl (1 : Int64) i4)))))))) :
  qAt s d c_Meetings_layClocks (qQv Q) 51 [some (.ref 53), none, none, some (.int i3), some (.int i4), some (.int i5)] [] w := qAt_of u_Meetings_layClocks [(51, [true, false, false, true, true, true])] 30 h

set_option maxRecDepth 100000 in
theorem A_Meetings_countOpen {s : Nat × (Nat → Int32)} {d : Nat} {w : qW} {Q : Int64 → qW → Prop} {l1 : Int64} {l3 : Int64} {l5 : Int64} {l7 : Int64} (h :
  ((lg_cmp l1 l5) ≤ 0 →
    ¬ l3 = 0 ∧ (¬ (Int32.toInt64 (w.1 2 5)) = 0 ∧ (qIn (w.1 53 6) 61 ∧
    (qCall (some s) d 125 [.ref 53, .long (w.2.1 54 (qIx (w.1 53 6))), .int (Int64.toInt32 (qRemL l1 (Int32.toInt64 (w.1 2 5))))] w (qQl fun y2 w1 =>
      ¬ (Int32.toInt64 (w1.1 53 6)) = 0 ∧ (qIn (Int64.toInt32 (qRemL (((l5 - l1) / l3) + (1 : Int64)) (Int32.toInt64 (w1.1 53 6)))) 61 ∧
      (qCall (some s) d 125 [.ref 53, .long (w1.2.1 54 (qIx (Int64.toInt32 (qRemL (((l5 - l1) / l3) + (1 : Int64)) (Int32.toInt64 (w1.1 53 6)))))), .int (Int64.toInt32 (qRemL l1 (Int32.toInt64 (w.1 2 5))))] w1 (qQl fun y4 w3 =>
        ¬ (Int32.toInt64 (w3.1 53 6)) = 0 ∧ (qCall (some s) d 126 [.long (l7 &&& y2)] w3 (qQi fun x6 w5 =>
          qCall (some s) d 126 [.long (l7 &&& y4)] w5 (qQi fun x8 w7 =>
            Q ((((((l5 - l1) / l3) + (1 : Int64)) / (Int32.toInt64 (w3.1 53 6))) * (Int32.toInt64 x6)) + (Int32.toInt64 x8)) w7))))))))))) ∧
  (¬ (lg_cmp l1 l5) ≤ 0 →
    Q (0 : Int64) w)) :
  qCall (some s) (d + 1) 124 [.ref 53, .long l1, .long l3, .long l5, .long l7] w (qQl Q) := qCall_of (cd := c_Meetings_countOpen) (mL := 16) rfl u_Meetings_countOpen [] 61 h

set_option maxRecDepth 100000 in
theorem A_Meetings_turned {s : Nat × (Nat → Int32)} {d : Nat} {w : qW} {Q : Int64 → qW → Prop} {l1 : Int64} {i3 : Int32} (h :
  Q ((qLshl l1 i3) ||| (qLushr l1 ((w.1 2 5) - i3))) w) :
  qCall (some s) (d + 1) 125 [.ref 53, .long l1, .int i3] w (qQl Q) := qCall_of (cd := c_Meetings_turned) (mL := 4) rfl u_Meetings_turned [] 13 h

set_option maxRecDepth 100000 in
theorem A_Long_bitCount {s : Nat × (Nat → Int32)} {d : Nat} {w : qW} {Q : Int32 → qW → Prop} {l0 : Int64} (h :
  Q ((Int64.toInt32 ((((((((l0 - ((qLushr l0 (1 : Int32)) &&& (6148914691236517205 : Int64))) &&& (3689348814741910323 : Int64)) + ((qLushr (l0 - ((qLushr l0 (1 : Int32)) &&& (6148914691236517205 : Int64))) (2 : Int32)) &&& (3689348814741910323 : Int64))) + (qLushr (((l0 - ((qLushr l0 (1 : Int32)) &&& (6148914691236517205 : Int64))) &&& (3689348814741910323 : Int64)) + ((qLushr (l0 - ((qLushr l0 (1 : Int32)) &&& (6148914691236517205 : Int64))) (2 : Int32)) &&& (3689348814741910323 : Int64))) (4 : Int32))) &&& (1085102592571150095 : Int64)) + (qLushr (((((l0 - ((qLushr l0 (1 : Int32)) &&& (6148914691236517205 : Int64))) &&& (3689348814741910323 : Int64)) + ((qLushr (l0 - ((qLushr l0 (1 : Int32)) &&& (6148914691236517205 : Int64))) (2 : Int32)) &&& (3689348814741910323 : Int64))) + (qLushr (((l0 - ((qLushr l0 (1 : Int32)) &&& (6148914691236517205 : Int64))) &&& (3689348814741910323 : Int64)) + ((qLushr (l0 - ((qLushr l0 (1 : Int32)) &&& (6148914691236517205 : Int64))) (2 : Int32)) &&& (3689348814741910323 : Int64))) (4 : Int32))) &&& (1085102592571150095 : Int64)) (8 : Int32))) + (qLushr ((((((l0 - ((qLushr l0 (1 : Int32)) &&& (6148914691236517205 : Int64))) &&& (3689348814741910323 : Int64)) + ((qLushr (l0 - ((qLushr l0 (1 : Int32)) &&& (6148914691236517205 : Int64))) (2 : Int32)) &&& (3689348814741910323 : Int64))) + (qLushr (((l0 - ((qLushr l0 (1 : Int32)) &&& (6148914691236517205 : Int64))) &&& (3689348814741910323 : Int64)) + ((qLushr (l0 - ((qLushr l0 (1 : Int32)) &&& (6148914691236517205 : Int64))) (2 : Int32)) &&& (3689348814741910323 : Int64))) (4 : Int32))) &&& (1085102592571150095 : Int64)) + (qLushr (((((l0 - ((qLushr l0 (1 : Int32)) &&& (6148914691236517205 : Int64))) &&& (3689348814741910323 : Int64)) + ((qLushr (l0 - ((qLushr l0 (1 : Int32)) &&& (6148914691236517205 : Int64))) (2 : Int32)) &&& (3689348814741910323 : Int64))) + (qLushr (((l0 - ((qLushr l0 (1 : Int32)) &&& (6148914691236517205 : Int64))) &&& (3689348814741910323 : Int64)) + ((qLushr (l0 - ((qLushr l0 (1 : Int32)) &&& (6148914691236517205 : Int64))) (2 : Int32)) &&& (3689348814741910323 : Int64))) (4 : Int32))) &&& (1085102592571150095 : Int64)) (8 : Int32))) (16 : Int32))) + (qLushr (((((((l0 - ((qLushr l0 (1 : Int32)) &&& (6148914691236517205 : Int64))) &&& (3689348814741910323 : Int64)) + ((qLushr (l0 - ((qLushr l0 (1 : Int32)) &&& (6148914691236517205 : Int64))) (2 : Int32)) &&& (3689348814741910323 : Int64))) + (qLushr (((l0 - ((qLushr l0 (1 : Int32)) &&& (6148914691236517205 : Int64))) &&& (3689348814741910323 : Int64)) + ((qLushr (l0 - ((qLushr l0 (1 : Int32)) &&& (6148914691236517205 : Int64))) (2 : Int32)) &&& (3689348814741910323 : Int64))) (4 : Int32))) &&& (1085102592571150095 : Int64)) + (qLushr (((((l0 - ((qLushr l0 (1 : Int32)) &&& (6148914691236517205 : Int64))) &&& (3689348814741910323 : Int64)) + ((qLushr (l0 - ((qLushr l0 (1 : Int32)) &&& (6148914691236517205 : Int64))) (2 : Int32)) &&& (3689348814741910323 : Int64))) + (qLushr (((l0 - ((qLushr l0 (1 : Int32)) &&& (6148914691236517205 : Int64))) &&& (3689348814741910323 : Int64)) + ((qLushr (l0 - ((qLushr l0 (1 : Int32)) &&& (6148914691236517205 : Int64))) (2 : Int32)) &&& (3689348814741910323 : Int64))) (4 : Int32))) &&& (1085102592571150095 : Int64)) (8 : Int32))) + (qLushr ((((((l0 - ((qLushr l0 (1 : Int32)) &&& (6148914691236517205 : Int64))) &&& (3689348814741910323 : Int64)) + ((qLushr (l0 - ((qLushr l0 (1 : Int32)) &&& (6148914691236517205 : Int64))) (2 : Int32)) &&& (3689348814741910323 : Int64))) + (qLushr (((l0 - ((qLushr l0 (1 : Int32)) &&& (6148914691236517205 : Int64))) &&& (3689348814741910323 : Int64)) + ((qLushr (l0 - ((qLushr l0 (1 : Int32)) &&& (6148914691236517205 : Int64))) (2 : Int32)) &&& (3689348814741910323 : Int64))) (4 : Int32))) &&& (1085102592571150095 : Int64)) + (qLushr (((((l0 - ((qLushr l0 (1 : Int32)) &&& (6148914691236517205 : Int64))) &&& (3689348814741910323 : Int64)) + ((qLushr (l0 - ((qLushr l0 (1 : Int32)) &&& (6148914691236517205 : Int64))) (2 : Int32)) &&& (3689348814741910323 : Int64))) + (qLushr (((l0 - ((qLushr l0 (1 : Int32)) &&& (6148914691236517205 : Int64))) &&& (3689348814741910323 : Int64)) + ((qLushr (l0 - ((qLushr l0 (1 : Int32)) &&& (6148914691236517205 : Int64))) (2 : Int32)) &&& (3689348814741910323 : Int64))) (4 : Int32))) &&& (1085102592571150095 : Int64)) (8 : Int32))) (16 : Int32))) (32 : Int32)))) &&& (127 : Int32)) w) :
  qCall (some s) (d + 1) 126 [.long l0] w (qQi Q) := qCall_of (cd := c_Long_bitCount) (mL := 2) rfl u_Long_bitCount [] 50 h

set_option maxRecDepth 100000 in
theorem A_X_alone {s : Nat × (Nat → Int32)} {d : Nat} {w : qW} {Q : Int32 → qW → Prop} {i1 : Int32} {l2 : Int64} {i4 : Int32} (h :
  (i1 = (-1 : Int32) →
    qAt s d c_X_alone (qQi Q) 27 [some (.ref 1), some (.int i1), some (.long l2), none, some (.int i4), none, none, none, none, none, none] [.int (1 : Int32)] w) ∧
  (¬ i1 = (-1 : Int32) →
    (i1 = (12 : Int32) →
      qAt s d c_X_alone (qQi Q) 27 [some (.ref 1), some (.int i1), some (.long l2), none, some (.int i4), none, none, none, none, none, none] [.int (1 : Int32)] w) ∧
    (¬ i1 = (12 : Int32) →
      qCall (some s) d 27 [.ref 2, .int i1] w (qQi fun x2 w1 =>
        (x2 = 0 →
          qAt s d c_X_alone (qQi Q) 27 [some (.ref 1), some (.int i1), some (.long l2), none, some (.int i4), none, none, none, none, none, none] [.int (0 : Int32)] w1) ∧
        (¬ x2 = 0 →
          qAt s d c_X_alone (qQi Q) 27 [some (.ref 1), some (.int i1), some (.long l2), none, some (.int i4), none, none, none, none, none, none] [.int (1 : Int32)] w1))))) :
  qCall (some s) (d + 1) 127 [.ref 1, .int i1, .long l2, .int i4] w (qQi Q) := qCall_of (cd := c_X_alone) (mL := 11) rfl u_X_alone [(27, [true, true, true, false, true, false, false, false, false, false, false]), (83, [true, true, false, false, true, false, true, true, true, false, false])] 15 h
set_option maxRecDepth 100000 in
theorem A_X_alone_27 {s : Nat × (Nat → Int32)} {d : Nat} {w : qW} {Q : Int32 → qW → Prop} {i1 : Int32} {l2 : Int64} {i4 : Int32} {is0 : Int32} (h :
  (is0 = 0 →
    Q (-1 : Int32) w) ∧
  (¬ is0 = 0 →
    ((100000 : Int32) < i4 →
      Q (-1 : Int32) w) ∧
    (¬ (100000 : Int32) < i4 →
      qCall (some s) d 120 [.long l2, .long (Int32.toInt64 i4)] w (qQi fun x2 w1 =>
        (¬ x2 = 0 →
          (¬ i1 = (-1 : Int32) →
            qCall (some s) d 128 [.ref 50, .long l2, .int i4] w1 (qQv fun w3 =>
              qAt s d c_X_alone (qQi Q) 83 [some (.ref 1), some (.int i1), none, none, some (.int i4), none, some (.int (qShl (1 : Int32) i1)), some (.int (0 : Int32)), some (.int (0 : Int32)), none, none] [] w3)) ∧
          (i1 = (-1 : Int32) →
            qCall (some s) d 128 [.ref 50, .long l2, .int i4] w1 (qQv fun w4 =>
              qAt s d c_X_alone (qQi Q) 83 [some (.ref 1), some (.int i1), none, none, some (.int i4), none, some (.int (0 : Int32)), some (.int (0 : Int32)), some (.int (0 : Int32)), none, none] [] w4))) ∧
        (x2 = 0 →
          Q (-1 : Int32) w1))))) :
  qAt s d c_X_alone (qQi Q) 27 [some (.ref 1), some (.int i1), some (.long l2), none, some (.int i4), none, none, none, none, none, none] [.int is0] w := qAt_of u_X_alone [(27, [true, true, true, false, true, false, false, false, false, false, false]), (83, [true, true, false, false, true, false, true, true, true, false, false])] 29 h
set_option maxRecDepth 100000 in
theorem A_X_alone_83 {s : Nat × (Nat → Int32)} {d : Nat} {w : qW} {Q : Int32 → qW → Prop} {i1 : Int32} {i4 : Int32} {i6 : Int32} {i7 : Int32} {i8 : Int32} (h :
  (i4 ≤ i8 →
    Q i7 w) ∧
  (¬ i4 ≤ i8 →
    qCall (some s) d 132 [.ref 50] w (qQi fun x2 w1 =>
      (¬ i1 = (12 : Int32) →
        (¬ x2 = i6 →
          ((0 : Int32) = 0 →
            qAt s d c_X_alone (qQi Q) 83 [some (.ref 1), some (.int i1), none, none, some (.int i4), none, some (.int i6), some (.int i7), some (.int (i8 + (1 : Int32))), none, none] [] w1) ∧
          (¬ (0 : Int32) = 0 →
            qAt s d c_X_alone (qQi Q) 83 [some (.ref 1), some (.int i1), none, none, some (.int i4), none, some (.int i6), some (.int (i7 + (1 : Int32))), some (.int (i8 + (1 : Int32))), none, none] [] w1)) ∧
        (x2 = i6 →
          ((1 : Int32) = 0 →
            qAt s d c_X_alone (qQi Q) 83 [some (.ref 1), some (.int i1), none, none, some (.int i4), none, some (.int i6), some (.int i7), some (.int (i8 + (1 : Int32))), none, none] [] w1) ∧
          (¬ (1 : Int32) = 0 →
            qAt s d c_X_alone (qQi Q) 83 [some (.ref 1), some (.int i1), none, none, some (.int i4), none, some (.int i6), some (.int (i7 + (1 : Int32))), some (.int (i8 + (1 : Int32))), none, none] [] w1))) ∧
      (i1 = (12 : Int32) →
        qCall (some s) d 103 [.int x2] w1 (qQi fun x4 w3 =>
          (¬ x4 = (1 : Int32) →
            ((0 : Int32) = 0 →
              qAt s d c_X_alone (qQi Q) 83 [some (.ref 1), some (.int i1), none, none, some (.int i4), none, some (.int i6), some (.int i7), some (.int (i8 + (1 : Int32))), none, none] [] w3) ∧
            (¬ (0 : Int32) = 0 →
              qAt s d c_X_alone (qQi Q) 83 [some (.ref 1), some (.int i1), none, none, some (.int i4), none, some (.int i6), some (.int (i7 + (1 : Int32))), some (.int (i8 + (1 : Int32))), none, none] [] w3)) ∧
          (x4 = (1 : Int32) →
            ((1 : Int32) = 0 →
              qAt s d c_X_alone (qQi Q) 83 [some (.ref 1), some (.int i1), none, none, some (.int i4), none, some (.int i6), some (.int i7), some (.int (i8 + (1 : Int32))), none, none] [] w3) ∧
            (¬ (1 : Int32) = 0 →
              qAt s d c_X_alone (qQi Q) 83 [some (.ref 1), some (.int i1), none, none, some (.int i4), none, some (.int i6), some (.int (i7 + (1 : Int32))), some (.int (i8 + (1 : Int32))), none, none] [] w3))))))) :
  qAt s d c_X_alone (qQi Q) 83 [some (.ref 1), some (.int i1), none, none, some (.int i4), none, some (.int i6), some (.int i7), some (.int i8), none, none] [] w := qAt_of u_X_alone [(27, [true, true, true, false, true, false, false, false, false, false, false]), (83, [true, true, false, false, true, false, true, true, true, false, false])] 24 h

set_option maxRecDepth 100000 in
theorem A_Voices_begin {s : Nat × (Nat → Int32)} {d : Nat} {w : qW} {Q : qW → Prop} {l1 : Int64} {i3 : Int32} (h :
  ¬ (Int32.toInt64 (w.1 2 5)) = 0 ∧ (((w.1 2 4) ≤ 0 →
    qCall (some s) d 23 [.int i3, .int (1024 : Int32)] (qPutI w 50 8 (Int64.toInt32 (qRemL l1 (Int32.toInt64 (w.1 2 5))))) (qQi fun x2 w1 =>
      qCall (some s) d 129 [.ref 50, .long l1, .int x2] w1 (qQv fun w3 =>
        Q (qPutI w3 50 7 (0 : Int32))))) ∧
  (¬ (w.1 2 4) ≤ 0 →
    qCall (some s) d 129 [.ref 50, .long (0 : Int64), .int (w.1 2 4)] (qPutI w 50 8 (Int64.toInt32 (qRemL l1 (Int32.toInt64 (w.1 2 5))))) (qQv fun w4 =>
      ¬ (Int32.toInt64 (w4.1 2 4)) = 0 ∧ (Q (qPutI w4 50 7 (Int64.toInt32 (qRemL l1 (Int32.toInt64 (w4.1 2 4)))))))))) :
  qCall (some s) (d + 1) 128 [.ref 50, .long l1, .int i3] w (qQv Q) := qCall_of (cd := c_Voices_begin) (mL := 4) rfl u_Voices_begin [] 31 h

set_option maxRecDepth 100000 in
theorem A_Voices_layRow {s : Nat × (Nat → Int32)} {d : Nat} {w : qW} {Q : qW → Prop} {l1 : Int64} {i3 : Int32} (h :
  qCall (some s) d 23 [.int i3, .int (1024 : Int32)] (qPutL w 50 5 l1) (qQi fun x2 w1 =>
    qCall (some s) d 21 [.int (1 : Int32), .int x2] w1 (qQi fun x4 w3 =>
      qCall (some s) d 130 [.ref 52, .int (0 : Int32), .int x4, .int (0 : Int32)] (qPutI w3 50 6 x4) (qQv fun w5 =>
        qAt s d c_Voices_layRow (qQv Q) 36 [some (.ref 50), some (.long l1), none, none, some (.int (0 : Int32)), none, none, none, none, none] [] w5)))) :
  qCall (some s) (d + 1) 129 [.ref 50, .long l1, .int i3] w (qQv Q) := qCall_of (cd := c_Voices_layRow) (mL := 10) rfl u_Voices_layRow [(36, [true, true, false, false, true, false, false, false, false, false]), (100, [true, true, false, false, true, true, false, false, true, false])] 21 h
set_option maxRecDepth 100000 in
theorem A_Voices_layRow_36 {s : Nat × (Nat → Int32)} {d : Nat} {w : qW} {Q : qW → Prop} {l1 : Int64} {i4 : Int32} (h :
  ((w.1 2 0) ≤ i4 →
    Q w) ∧
  (¬ (w.1 2 0) ≤ i4 →
    qIn i4 12 ∧
    (qCall (some s) d 21 [.int (1 : Int32), .int (w.1 3 (qIx i4))] w (qQi fun x2 w1 =>
      qIn i4 12 ∧
      ((0 ≤ (lg_cmp ((Int32.toInt64 (w1.1 4 (qIx i4))) - l1) (0 : Int64)) →
        qAt s d c_Voices_layRow (qQv Q) 100 [some (.ref 50), some (.long l1), none, none, some (.int i4), some (.int x2), none, none, some (.long ((Int32.toInt64 (w1.1 4 (qIx i4))) - l1)), none] [] w1) ∧
      (¬ 0 ≤ (lg_cmp ((Int32.toInt64 (w1.1 4 (qIx i4))) - l1) (0 : Int64)) →
        qCall (some s) d 115 [.long ((Int32.toInt64 (w1.1 4 (qIx i4))) - l1), .long (Int32.toInt64 x2)] w1 (qQl fun y4 w3 =>
          qAt s d c_Voices_layRow (qQv Q) 100 [some (.ref 50), some (.long l1), none, none, some (.int i4), some (.int x2), none, none, some (.long y4), none] [] w3))))))) :
  qAt s d c_Voices_layRow (qQv Q) 36 [some (.ref 50), some (.long l1), none, none, some (.int i4), none, none, none, none, none] [] w := qAt_of u_Voices_layRow [(36, [true, true, false, false, true, false, false, false, false, false]), (100, [true, true, false, false, true, true, false, false, true, false])] 35 h
set_option maxRecDepth 100000 in
theorem A_Voices_layRow_100 {s : Nat × (Nat → Int32)} {d : Nat} {w : qW} {Q : qW → Prop} {l1 : Int64} {i4 : Int32} {i5 : Int32} {l8 : Int64} (h :
  (0 ≤ (lg_cmp l8 (Int32.toInt64 (w.1 50 6))) →
    qAt s d c_Voices_layRow (qQv Q) 36 [some (.ref 50), some (.long l1), none, none, some (.int (i4 + (1 : Int32))), none, none, none, none, none] [] w) ∧
  (¬ 0 ≤ (lg_cmp l8 (Int32.toInt64 (w.1 50 6))) →
    qIn (Int64.toInt32 l8) 1024 ∧
    (qIn (Int64.toInt32 l8) 1024 ∧
    (qAt s d c_Voices_layRow (qQv Q) 100 [some (.ref 50), some (.long l1), none, none, some (.int i4), some (.int i5), none, none, some (.long (l8 + (Int32.toInt64 i5))), none] [] (qPutI w 52 (qIx (Int64.toInt32 l8)) ((w.1 52 (qIx (Int64.toInt32 l8))) ||| (qShl (1 : Int32) i4))))))) :
  qAt s d c_Voices_layRow (qQv Q) 100 [some (.ref 50), some (.long l1), none, none, some (.int i4), some (.int i5), none, none, some (.long l8), none] [] w := qAt_of u_Voices_layRow [(36, [true, true, false, false, true, false, false, false, false, false]), (100, [true, true, false, false, true, true, false, false, true, false])] 25 h

set_option maxRecDepth 100000 in
theorem A_Arrays_fill_52 {s : Nat × (Nat → Int32)} {d : Nat} {w : qW} {Q : qW → Prop} {i1 : Int32} {i2 : Int32} {i3 : Int32} (h :
  qCall (some s) d 131 [.int (1024 : Int32), .int i1, .int i2] w (qQv fun w1 =>
    qAt s d c_Arrays_fill (qQv Q) 10 [some (.ref 52), none, some (.int i2), some (.int i3), some (.int i1)] [] w1)) :
  qCall (some s) (d + 1) 130 [.ref 52, .int i1, .int i2, .int i3] w (qQv Q) := qCall_of (cd := c_Arrays_fill) (mL := 5) rfl u_Arrays_fill [(10, [true, false, true, true, true])] 9 h
set_option maxRecDepth 100000 in
theorem A_Arrays_fill_52_10 {s : Nat × (Nat → Int32)} {d : Nat} {w : qW} {Q : qW → Prop} {i2 : Int32} {i3 : Int32} {i4 : Int32} (h :
  (i2 ≤ i4 →
    Q w) ∧
  (¬ i2 ≤ i4 →
    qIn i4 1024 ∧
    (qAt s d c_Arrays_fill (qQv Q) 10 [some (.ref 52), none, some (.int i2), some (.int i3), some (.int (i4 + (1 : Int32)))] [] (qPutI w 52 (qIx i4) i3)))) :
  qAt s d c_Arrays_fill (qQv Q) 10 [some (.ref 52), none, some (.int i2), some (.int i3), some (.int i4)] [] w := qAt_of u_Arrays_fill [(10, [true, false, true, true, true])] 11 h

set_option maxRecDepth 100000 in
theorem A_Arrays_rangeCheck {s : Nat × (Nat → Int32)} {d : Nat} {w : qW} {Q : qW → Prop} {i0 : Int32} {i1 : Int32} {i2 : Int32} (h :
  (i1 ≤ i2 →
    (0 ≤ i1 →
      (i2 ≤ i0 →
        Q w) ∧
      (¬ i2 ≤ i0 →
        False)) ∧
    (¬ 0 ≤ i1 →
      False)) ∧
  (¬ i1 ≤ i2 →
    False)) :
  qCall (some s) (d + 1) 131 [.int i0, .int i1, .int i2] w (qQv Q) := qCall_of (cd := c_Arrays_rangeCheck) (mL := 3) rfl u_Arrays_rangeCheck [] 10 h

set_option maxRecDepth 100000 in
theorem A_Voices_nextMask {s : Nat × (Nat → Int32)} {d : Nat} {w : qW} {Q : Int32 → qW → Prop}  (h :
  ((w.1 50 7) < (w.1 50 6) →
    qAt s d c_Voices_nextMask (qQi Q) 44 [some (.ref 50), none] [] w) ∧
  (¬ (w.1 50 7) < (w.1 50 6) →
    (¬ (w.1 2 4) = 0 →
      qAt s d c_Voices_nextMask (qQi Q) 44 [some (.ref 50), none] [] (qPutI w 50 7 (0 : Int32))) ∧
    ((w.1 2 4) = 0 →
      qCall (some s) d 129 [.ref 50, .long ((w.2.1 50 5) + (Int32.toInt64 (w.1 50 6))), .int (w.1 50 6)] w (qQv fun w1 =>
        qAt s d c_Voices_nextMask (qQi Q) 44 [some (.ref 50), none] [] (qPutI w1 50 7 (0 : Int32)))))) :
  qCall (some s) (d + 1) 132 [.ref 50] w (qQi Q) := qCall_of (cd := c_Voices_nextMask) (mL := 2) rfl u_Voices_nextMask [(44, [true, false])] 24 h
set_option maxRecDepth 100000 in
theorem A_Voices_nextMask_44 {s : Nat × (Nat → Int32)} {d : Nat} {w : qW} {Q : Int32 → qW → Prop}  (h :
  qIn (w.1 50 7) 1024 ∧
  (qIn (w.1 50 8) 60 ∧
  (((w.1 2 5) ≤ ((w.1 50 8) + (1 : Int32)) →
    Q ((w.1 52 (qIx (w.1 50 7))) &&& (w.1 51 (qIx (w.1 50 8)))) (qPutI (qPutI w 50 7 ((w.1 50 7) + (1 : Int32))) 50 8 (0 : Int32))) ∧
  (¬ (w.1 2 5) ≤ ((w.1 50 8) + (1 : Int32)) →
    Q ((w.1 52 (qIx (w.1 50 7))) &&& (w.1 51 (qIx (w.1 50 8)))) (qPutI (qPutI w 50 7 ((w.1 50 7) + (1 : Int32))) 50 8 ((w.1 50 8) + (1 : Int32))))))) :
  qAt s d c_Voices_nextMask (qQi Q) 44 [some (.ref 50), none] [] w := qAt_of u_Voices_nextMask [(44, [true, false])] 36 h

set_option maxRecDepth 100000 in
theorem A_X_secret {s : Nat × (Nat → Int32)} {d : Nat} {w : qW} {Q : Int64 → qW → Prop} {i1 : Int32} {i2 : Int32} {l3 : Int64} {i5 : Int32} (h :
  (¬ i5 = 0 →
    qAt s d c_X_secret (qQl Q) 12 [some (.ref 1), some (.int i1), some (.int i2), some (.long l3), none, some (.int i5), none, none, none, none, none, none, none] [.int i5] w) ∧
  (i5 = 0 →
    qAt s d c_X_secret (qQl Q) 12 [some (.ref 1), some (.int i1), some (.int i2), some (.long l3), none, some (.int i5), none, none, none, none, none, none, none] [.int (100000 : Int32)] w)) :
  qCall (some s) (d + 1) 133 [.ref 1, .int i1, .int i2, .long l3, .int i5] w (qQl Q) := qCall_of (cd := c_X_secret) (mL := 13) rfl u_X_secret [(12, [true, true, true, true, false, true, false, false, false, false, false, false, false]), (83, [true, false, false, true, false, true, true, true, true, true, false, true, false])] 6 h
set_option maxRecDepth 100000 in
theorem A_X_secret_12 {s : Nat × (Nat → Int32)} {d : Nat} {w : qW} {Q : Int64 → qW → Prop} {i1 : Int32} {i2 : Int32} {l3 : Int64} {i5 : Int32} {is0 : Int32} (h :
  qCall (some s) d 34 [.ref 2, .int i1, .int i2] w (qQi fun x2 w1 =>
    (x2 = 0 →
      Q (-1 : Int64) w1) ∧
    (¬ x2 = 0 →
      ((100000 : Int32) < is0 →
        Q (-1 : Int64) w1) ∧
      (¬ (100000 : Int32) < is0 →
        qCall (some s) d 120 [.long l3, .long (Int32.toInt64 is0)] w1 (qQi fun x4 w3 =>
          (¬ x4 = 0 →
            qCall (some s) d 134 [.ref 2, .int ((qShl (1 : Int32) i1) ||| (qShl (1 : Int32) i2))] w3 (qQi fun x6 w5 =>
              qCall (some s) d 128 [.ref 50, .long l3, .int is0] w5 (qQv fun w7 =>
                qAt s d c_X_secret (qQl Q) 83 [some (.ref 1), none, none, some (.long l3), none, some (.int i5), some (.int is0), some (.int ((qShl (1 : Int32) i1) ||| (qShl (1 : Int32) i2))), some (.int x6), some (.long (0 : Int64)), none, some (.int (0 : Int32)), none] [] w7))) ∧
          (x4 = 0 →
            Q (-1 : Int64) w3)))))) :
  qAt s d c_X_secret (qQl Q) 12 [some (.ref 1), some (.int i1), some (.int i2), some (.long l3), none, some (.int i5), none, none, none, none, none, none, none] [.int is0] w := qAt_of u_X_secret [(12, [true, true, true, true, false, true, false, false, false, false, false, false, false]), (83, [true, false, false, true, false, true, true, true, true, true, false, true, false])] 39 h
set_option maxRecDepth 100000 in
theorem A_X_secret_83 {s : Nat × (Nat → Int32)} {d : Nat} {w : qW} {Q : Int64 → qW → Prop} {l3 : Int64} {i5 : Int32} {i6 : Int32} {i7 : Int32} {i8 : Int32} {l9 : Int64} {i11 : Int32} (h :
  (i6 ≤ i11 →
    (¬ i5 = 0 →
      Q l9 w) ∧
    (i5 = 0 →
      Q (-1 : Int64) w)) ∧
  (¬ i6 ≤ i11 →
    qCall (some s) d 132 [.ref 50] w (qQi fun x2 w1 =>
      (¬ (x2 &&& i7) = i7 →
        qAt s d c_X_secret (qQl Q) 83 [some (.ref 1), none, none, some (.long l3), none, some (.int i5), some (.int i6), some (.int i7), some (.int i8), some (.long l9), none, some (.int (i11 + (1 : Int32))), none] [] w1) ∧
      ((x2 &&& i7) = i7 →
        (¬ (x2 &&& i8) = 0 →
          qAt s d c_X_secret (qQl Q) 83 [some (.ref 1), none, none, some (.long l3), none, some (.int i5), some (.int i6), some (.int i7), some (.int i8), some (.long l9), none, some (.int (i11 + (1 : Int32))), none] [] w1) ∧
        ((x2 &&& i8) = 0 →
          (¬ i5 = 0 →
            qAt s d c_X_secret (qQl Q) 83 [some (.ref 1), none, none, some (.long l3), none, some (.int i5), some (.int i6), some (.int i7), some (.int i8), some (.long (l9 + (1 : Int64))), none, some (.int (i11 + (1 : Int32))), none] [] w1) ∧
          (i5 = 0 →
            Q (l3 + (Int32.toInt64 i11)) w1)))))) :
  qAt s d c_X_secret (qQl Q) 83 [some (.ref 1), none, none, some (.long l3), none, some (.int i5), some (.int i6), some (.int i7), some (.int i8), some (.long l9), none, some (.int i11), none] [] w := qAt_of u_X_secret [(12, [true, true, true, true, false, true, false, false, false, false, false, false, false]), (83, [true, false, false, true, false, true, true, true, true, true, false, true, false])] 26 h

set_option maxRecDepth 100000 in
theorem A_State_listenersOf {s : Nat × (Nat → Int32)} {d : Nat} {w : qW} {Q : Int32 → qW → Prop} {i1 : Int32} (h :
  qAt s d c_State_listenersOf (qQi Q) 4 [some (.ref 2), some (.int i1), some (.int (0 : Int32)), some (.int (0 : Int32))] [] w) :
  qCall (some s) (d + 1) 134 [.ref 2, .int i1] w (qQi Q) := qCall_of (cd := c_State_listenersOf) (mL := 4) rfl u_State_listenersOf [(4, [true, true, true, true])] 6 h
set_option maxRecDepth 100000 in
theorem A_State_listenersOf_4 {s : Nat × (Nat → Int32)} {d : Nat} {w : qW} {Q : Int32 → qW → Prop} {i1 : Int32} {i2 : Int32} {i3 : Int32} (h :
  ((w.1 2 0) ≤ i3 →
    Q (i2 &&& (i1 ^^^ (-1 : Int32))) w) ∧
  (¬ (w.1 2 0) ≤ i3 →
    (((qUshr i1 i3) &&& (1 : Int32)) = 0 →
      qAt s d c_State_listenersOf (qQi Q) 4 [some (.ref 2), some (.int i1), some (.int i2), some (.int (i3 + (1 : Int32)))] [] w) ∧
    (¬ ((qUshr i1 i3) &&& (1 : Int32)) = 0 →
      qIn i3 12 ∧
      (qAt s d c_State_listenersOf (qQi Q) 4 [some (.ref 2), some (.int i1), some (.int (i2 ||| (w.1 5 (qIx i3)))), some (.int (i3 + (1 : Int32)))] [] w)))) :
  qAt s d c_State_listenersOf (qQi Q) 4 [some (.ref 2), some (.int i1), some (.int i2), some (.int i3)] [] w := qAt_of u_State_listenersOf [(4, [true, true, true, true])] 21 h

set_option maxRecDepth 100000 in
theorem A_X_pass {s : Nat × (Nat → Int32)} {d : Nat} {w : qW} {Q : Int64 → qW → Prop} {i1 : Int32} {l2 : Int64} {i4 : Int32} {i5 : Int32} (h :
  qCall (some s) d 27 [.ref 2, .int i1] w (qQi fun x2 w1 =>
    (x2 = 0 →
      Q (-1 : Int64) w1) ∧
    (¬ x2 = 0 →
      qCall (some s) d 27 [.ref 2, .int i4] w1 (qQi fun x4 w3 =>
        (x4 = 0 →
          Q (-1 : Int64) w3) ∧
        (¬ x4 = 0 →
          qCall (some s) d 136 [.long l2] w3 (qQi fun x6 w5 =>
            (x6 = 0 →
              Q (-1 : Int64) w5) ∧
            (¬ x6 = 0 →
              (i5 < 0 →
                Q (-1 : Int64) w5) ∧
              (¬ i5 < 0 →
                (i5 ≤ (1 : Int32) →
                  (¬ i1 = i4 →
                    qCall (some s) d 128 [.ref 50, .long l2, .int (100000 : Int32)] w5 (qQv fun w7 =>
                      qAt s d c_X_pass (qQl Q) 82 [some (.ref 1), none, some (.long l2), none, some (.int i4), some (.int i5), some (.int (qShl (1 : Int32) i1)), some (.int (0 : Int32)), none, none] [] w7)) ∧
                  (i1 = i4 →
                    (¬ i5 = 0 →
                      Q (-1 : Int64) w5) ∧
                    (i5 = 0 →
                      Q l2 w5))) ∧
                (¬ i5 ≤ (1 : Int32) →
                  Q (-1 : Int64) w5))))))))) :
  qCall (some s) (d + 1) 135 [.ref 1, .int i1, .long l2, .int i4, .int i5] w (qQl Q) := qCall_of (cd := c_X_pass) (mL := 10) rfl u_X_pass [(82, [true, false, true, false, true, true, true, true, false, false])] 34 h
set_option maxRecDepth 100000 in
theorem A_X_pass_82 {s : Nat × (Nat → Int32)} {d : Nat} {w : qW} {Q : Int64 → qW → Prop} {l2 : Int64} {i4 : Int32} {i5 : Int32} {i6 : Int32} {i7 : Int32} (h :
  ((100000 : Int32) ≤ i7 →
    Q (-1 : Int64) w) ∧
  (¬ (100000 : Int32) ≤ i7 →
    qCall (some s) d 132 [.ref 50] w (qQi fun x2 w1 =>
      ((x2 &&& i6) = 0 →
        qAt s d c_X_pass (qQl Q) 82 [some (.ref 1), none, some (.long l2), none, some (.int i4), some (.int i5), some (.int i6), some (.int (i7 + (1 : Int32))), none, none] [] w1) ∧
      (¬ (x2 &&& i6) = 0 →
        (((qUshr x2 i4) &&& (1 : Int32)) = 0 →
          qAt s d c_X_pass (qQl Q) 82 [some (.ref 1), none, some (.long l2), none, some (.int i4), some (.int i5), some (.int (i6 ||| x2)), some (.int (i7 + (1 : Int32))), none, none] [] w1) ∧
        (¬ ((qUshr x2 i4) &&& (1 : Int32)) = 0 →
          (¬ i5 = 0 →
            qCall (some s) d 102 [.int (x2 &&& i6)] w1 (qQi fun x4 w3 =>
              Q (Int32.toInt64 x4) w3)) ∧
          (i5 = 0 →
            Q (l2 + (Int32.toInt64 i7)) w1)))))) :
  qAt s d c_X_pass (qQl Q) 82 [some (.ref 1), none, some (.long l2), none, some (.int i4), some (.int i5), some (.int i6), some (.int i7), none, none] [] w := qAt_of u_X_pass [(82, [true, false, true, false, true, true, true, true, false, false])] 28 h

set_option maxRecDepth 100000 in
theorem A_X_isStart {s : Nat × (Nat → Int32)} {d : Nat} {w : qW} {Q : Int32 → qW → Prop} {l0 : Int64} (h :
  ((lg_cmp l0 (0 : Int64)) < 0 →
    Q (0 : Int32) w) ∧
  (¬ (lg_cmp l0 (0 : Int64)) < 0 →
    (0 < (lg_cmp l0 (100000000000000 : Int64)) →
      Q (0 : Int32) w) ∧
    (¬ 0 < (lg_cmp l0 (100000000000000 : Int64)) →
      Q (1 : Int32) w))) :
  qCall (some s) (d + 1) 136 [.long l0] w (qQi Q) := qCall_of (cd := c_X_isStart) (mL := 2) rfl u_X_isStart [] 12 h

set_option maxRecDepth 100000 in
theorem A_X_talk {s : Nat × (Nat → Int32)} {d : Nat} {w : qW} {Q : Int32 → qW → Prop} {l1 : Int64} {i3 : Int32} {i4 : Int32} (h :
  qCall (some s) d 92 [.long l1] w (qQi fun x2 w1 =>
    (x2 = 0 →
      Q (-1 : Int32) w1) ∧
    (¬ x2 = 0 →
      qCall (some s) d 34 [.ref 2, .int i3, .int i4] w1 (qQi fun x4 w3 =>
        (x4 = 0 →
          Q (-1 : Int32) w3) ∧
        (¬ x4 = 0 →
          ((w.1 2 8) < 0 →
            Q (-1 : Int32) w3) ∧
          (¬ (w.1 2 8) < 0 →
            ((w.1 2 8) < (30 : Int32) →
              qIn (w.1 2 8) 30 ∧
              (qIn (w.1 2 8) 30 ∧
              (Q (w.1 2 8) (qPutI (qPutI (qPutL w3 6 (qIx (w.1 2 8)) l1) 7 (qIx (w.1 2 8)) ((qShl (1 : Int32) i3) ||| (qShl (1 : Int32) i4))) 2 8 ((w3.1 2 8) + (1 : Int32)))))) ∧
            (¬ (w.1 2 8) < (30 : Int32) →
              Q (-1 : Int32) w3))))))) :
  qCall (some s) (d + 1) 137 [.ref 1, .long l1, .int i3, .int i4] w (qQi Q) := qCall_of (cd := c_X_talk) (mL := 6) rfl u_X_talk [] 46 h

set_option maxRecDepth 100000 in
theorem A_X_judge {s : Nat × (Nat → Int32)} {d : Nat} {w : qW} {Q : Int32 → qW → Prop}  (h :
  qAt s d c_X_judge (qQi Q) 2 [some (.ref 1), some (.int (0 : Int32))] [] w) :
  qCall (some s) (d + 1) 138 [.ref 1] w (qQi Q) := qCall_of (cd := c_X_judge) (mL := 2) rfl u_X_judge [(2, [true, true])] 4 h
set_option maxRecDepth 100000 in
theorem A_X_judge_2 {s : Nat × (Nat → Int32)} {d : Nat} {w : qW} {Q : Int32 → qW → Prop} {i1 : Int32} (h :
  ((w.1 2 8) ≤ i1 →
    Q (-1 : Int32) w) ∧
  (¬ (w.1 2 8) ≤ i1 →
    qIn i1 30 ∧
    (qIn i1 30 ∧
    (qCall (some s) d 139 [.ref 50, .int (w.1 7 (qIx i1)), .long (w.2.1 6 (qIx i1))] w (qQi fun x2 w1 =>
      qIn i1 30 ∧
      ((x2 = (w1.1 7 (qIx i1)) →
        qAt s d c_X_judge (qQi Q) 2 [some (.ref 1), some (.int (i1 + (1 : Int32)))] [] w1) ∧
      (¬ x2 = (w1.1 7 (qIx i1)) →
        Q i1 w1))))))) :
  qAt s d c_X_judge (qQi Q) 2 [some (.ref 1), some (.int i1)] [] w := qAt_of u_X_judge [(2, [true, true])] 28 h

set_option maxRecDepth 100000 in
theorem A_Voices_heardOf {s : Nat × (Nat → Int32)} {d : Nat} {w : qW} {Q : Int32 → qW → Prop} {i1 : Int32} {l2 : Int64} (h :
  qAt s d c_Voices_heardOf (qQi Q) 6 [some (.ref 50), some (.int i1), some (.long l2), none, some (.int (0 : Int32)), some (.int (0 : Int32))] [] w) :
  qCall (some s) (d + 1) 139 [.ref 50, .int i1, .long l2] w (qQi Q) := qCall_of (cd := c_Voices_heardOf) (mL := 6) rfl u_Voices_heardOf [(6, [true, true, true, false, true, true])] 6 h
set_option maxRecDepth 100000 in
theorem A_Voices_heardOf_6 {s : Nat × (Nat → Int32)} {d : Nat} {w : qW} {Q : Int32 → qW → Prop} {i1 : Int32} {l2 : Int64} {i4 : Int32} {i5 : Int32} (h :
  ((w.1 2 0) ≤ i5 →
    Q i4 w) ∧
  (¬ (w.1 2 0) ≤ i5 →
    (((qUshr i1 i5) &&& (1 : Int32)) = 0 →
      qAt s d c_Voices_heardOf (qQi Q) 6 [some (.ref 50), some (.int i1), some (.long l2), none, some (.int i4), some (.int (i5 + (1 : Int32)))] [] w) ∧
    (¬ ((qUshr i1 i5) &&& (1 : Int32)) = 0 →
      qCall (some s) d 93 [.ref 50, .int i5, .long l2] w (qQi fun x2 w1 =>
        (x2 = 0 →
          qAt s d c_Voices_heardOf (qQi Q) 6 [some (.ref 50), some (.int i1), some (.long l2), none, some (.int i4), some (.int (i5 + (1 : Int32)))] [] w1) ∧
        (¬ x2 = 0 →
          qAt s d c_Voices_heardOf (qQi Q) 6 [some (.ref 50), some (.int i1), some (.long l2), none, some (.int (i4 ||| (qShl (1 : Int32) i5))), some (.int (i5 + (1 : Int32)))] [] w1))))) :
  qAt s d c_Voices_heardOf (qQi Q) 6 [some (.ref 50), some (.int i1), some (.long l2), none, some (.int i4), some (.int i5)] [] w := qAt_of u_Voices_heardOf [(6, [true, true, true, false, true, true])] 26 h

set_option maxRecDepth 100000 in
theorem A_X_overheard {s : Nat × (Nat → Int32)} {d : Nat} {w : qW} {Q : Int32 → qW → Prop} {i1 : Int32} (h :
  (i1 < 0 →
    Q (-1 : Int32) w) ∧
  (¬ i1 < 0 →
    (i1 < (w.1 2 8) →
      qIn i1 30 ∧
      (qCall (some s) d 134 [.ref 2, .int (w.1 7 (qIx i1))] w (qQi fun x2 w1 =>
        qIn i1 30 ∧
        (qCall (some s) d 139 [.ref 50, .int x2, .long (w1.2.1 6 (qIx i1))] w1 (qQi fun x4 w3 =>
          Q x4 w3))))) ∧
    (¬ i1 < (w.1 2 8) →
      Q (-1 : Int32) w))) :
  qCall (some s) (d + 1) 140 [.ref 1, .int i1] w (qQi Q) := qCall_of (cd := c_X_overheard) (mL := 2) rfl u_X_overheard [] 25 h

set_option maxRecDepth 100000 in
theorem A_X_turn {s : Nat × (Nat → Int32)} {d : Nat} {w : qW} {Q : Int64 → qW → Prop} {i1 : Int32} {l2 : Int64} {i4 : Int32} (h :
  qCall (some s) d 97 [.ref 2, .int i1] w (qQi fun x2 w1 =>
    (x2 = 0 →
      Q (-1 : Int64) w1) ∧
    (¬ x2 = 0 →
      qCall (some s) d 136 [.long l2] w1 (qQi fun x4 w3 =>
        (x4 = 0 →
          Q (-1 : Int64) w3) ∧
        (¬ x4 = 0 →
          qCall (some s) d 142 [.int i4, .int i1] w3 (qQi fun x6 w5 =>
            (¬ x6 = 0 →
              qCall (some s) d 143 [.ref 55, .int i1, .long l2] w5 (qQi fun x8 w7 =>
                (x8 = (-1 : Int32) →
                  Q (Int32.toInt64 x8) w7) ∧
                (¬ x8 = (-1 : Int32) →
                  (¬ i4 = (-1 : Int32) →
                    qCall (some s) d 150 [.ref 55, .int i1, .int x8] w7 (qQv fun w9 =>
                      qIn i4 12 ∧
                      (Q (l2 + (Int32.toInt64 (w9.1 56 (qIx i4)))) w9))) ∧
                  (i4 = (-1 : Int32) →
                    Q (Int32.toInt64 x8) w7)))) ∧
            (x6 = 0 →
              Q (-1 : Int64) w5))))))) :
  qCall (some s) (d + 1) 141 [.ref 1, .int i1, .long l2, .int i4] w (qQl Q) := qCall_of (cd := c_X_turn) (mL := 6) rfl u_X_turn [] 39 h

set_option maxRecDepth 100000 in
theorem A_X_isOfOrNone {s : Nat × (Nat → Int32)} {d : Nat} {w : qW} {Q : Int32 → qW → Prop} {i0 : Int32} {i1 : Int32} (h :
  (i0 = (-1 : Int32) →
    Q (1 : Int32) w) ∧
  (¬ i0 = (-1 : Int32) →
    qCall (some s) d 104 [.int i0, .int i1] w (qQi fun x2 w1 =>
      (x2 = 0 →
        Q (0 : Int32) w1) ∧
      (¬ x2 = 0 →
        Q (1 : Int32) w1)))) :
  qCall (some s) (d + 1) 142 [.int i0, .int i1] w (qQi Q) := qCall_of (cd := c_X_isOfOrNone) (mL := 2) rfl u_X_isOfOrNone [] 11 h

set_option maxRecDepth 100000 in
theorem A_Turns_fewest {s : Nat × (Nat → Int32)} {d : Nat} {w : qW} {Q : Int32 → qW → Prop} {i1 : Int32} {l2 : Int64} (h :
  qCall (some s) d 144 [.ref 55, .long l2] w (qQv fun w1 =>
    qCall (some s) d 146 [.int (64 : Int32)] w1 (qQl fun y3 w2 =>
      qCall (some s) d 147 [.ref 55, .int i1, .long y3] w2 (qQi fun x5 w4 =>
        (¬ x5 = 0 →
          qCall (some s) d 103 [.int i1] w4 (qQi fun x7 w6 =>
            qAt s d c_Turns_fewest (qQi Q) 33 [some (.ref 55), some (.int i1), none, none, some (.int x7), some (.int (64 : Int32)), some (.int (0 : Int32)), none] [] w6)) ∧
        (x5 = 0 →
          Q (-1 : Int32) w4))))) :
  qCall (some s) (d + 1) 143 [.ref 55, .int i1, .long l2] w (qQi Q) := qCall_of (cd := c_Turns_fewest) (mL := 8) rfl u_Turns_fewest [(33, [true, true, false, false, true, true, true, false])] 18 h
set_option maxRecDepth 100000 in
theorem A_Turns_fewest_33 {s : Nat × (Nat → Int32)} {d : Nat} {w : qW} {Q : Int32 → qW → Prop} {i1 : Int32} {i4 : Int32} {i5 : Int32} {i6 : Int32} (h :
  ((64 : Int32) ≤ i6 →
    Q i5 w) ∧
  (¬ (64 : Int32) ≤ i6 →
    (i5 ≤ i4 →
      Q i5 w) ∧
    (¬ i5 ≤ i4 →
      ¬ (2 : Int32) = 0 ∧ (qCall (some s) d 146 [.int ((i4 + i5) / (2 : Int32))] w (qQl fun y2 w1 =>
        qCall (some s) d 147 [.ref 55, .int i1, .long y2] w1 (qQi fun x4 w3 =>
          (x4 = 0 →
            qAt s d c_Turns_fewest (qQi Q) 33 [some (.ref 55), some (.int i1), none, none, some (.int (((i4 + i5) / (2 : Int32)) + (1 : Int32))), some (.int i5), some (.int (i6 + (1 : Int32))), none] [] w3) ∧
          (¬ x4 = 0 →
            qAt s d c_Turns_fewest (qQi Q) 33 [some (.ref 55), some (.int i1), none, none, some (.int i4), some (.int ((i4 + i5) / (2 : Int32))), some (.int (i6 + (1 : Int32))), none] [] w3))))))) :
  qAt s d c_Turns_fewest (qQi Q) 33 [some (.ref 55), some (.int i1), none, none, some (.int i4), some (.int i5), some (.int i6), none] [] w := qAt_of u_Turns_fewest [(33, [true, true, false, false, true, true, true, false])] 26 h

set_option maxRecDepth 100000 in
theorem A_Turns_listHours {s : Nat × (Nat → Int32)} {d : Nat} {w : qW} {Q : qW → Prop} {l1 : Int64} (h :
  qCall (some s) d 145 [.ref 57, .long (0 : Int64)] w (qQv fun w1 =>
    qCall (some s) d 128 [.ref 50, .long l1, .int (64 : Int32)] w1 (qQv fun w2 =>
      qAt s d c_Turns_listHours (qQv Q) 20 [some (.ref 55), none, none, some (.int (0 : Int32)), none, none] [] w2))) :
  qCall (some s) (d + 1) 144 [.ref 55, .long l1] w (qQv Q) := qCall_of (cd := c_Turns_listHours) (mL := 6) rfl u_Turns_listHours [(20, [true, false, false, true, false, false]), (38, [true, false, false, true, true, true])] 13 h
set_option maxRecDepth 100000 in
theorem A_Turns_listHours_20 {s : Nat × (Nat → Int32)} {d : Nat} {w : qW} {Q : qW → Prop} {i3 : Int32} (h :
  ((64 : Int32) ≤ i3 →
    Q w) ∧
  (¬ (64 : Int32) ≤ i3 →
    qCall (some s) d 132 [.ref 50] w (qQi fun x2 w1 =>
      qAt s d c_Turns_listHours (qQv Q) 38 [some (.ref 55), none, none, some (.int i3), some (.int x2), some (.int (0 : Int32))] [] w1))) :
  qAt s d c_Turns_listHours (qQv Q) 20 [some (.ref 55), none, none, some (.int i3), none, none] [] w := qAt_of u_Turns_listHours [(20, [true, false, false, true, false, false]), (38, [true, false, false, true, true, true])] 11 h
set_option maxRecDepth 100000 in
theorem A_Turns_listHours_38 {s : Nat × (Nat → Int32)} {d : Nat} {w : qW} {Q : qW → Prop} {i3 : Int32} {i4 : Int32} {i5 : Int32} (h :
  ((12 : Int32) ≤ i5 →
    qAt s d c_Turns_listHours (qQv Q) 20 [some (.ref 55), none, none, some (.int (i3 + (1 : Int32))), none, none] [] w) ∧
  (¬ (12 : Int32) ≤ i5 →
    qIn i5 12 ∧
    (qIn i5 12 ∧
    (qAt s d c_Turns_listHours (qQv Q) 38 [some (.ref 55), none, none, some (.int i3), some (.int i4), some (.int (i5 + (1 : Int32)))] [] (qPutL w 57 (qIx i5) ((w.2.1 57 (qIx i5)) ||| (qLshl (Int32.toInt64 ((qUshr i4 i5) &&& (1 : Int32))) i3))))))) :
  qAt s d c_Turns_listHours (qQv Q) 38 [some (.ref 55), none, none, some (.int i3), some (.int i4), some (.int i5)] [] w := qAt_of u_Turns_listHours [(20, [true, false, false, true, false, false]), (38, [true, false, false, true, true, true])] 22 h

set_option maxRecDepth 100000 in
theorem A_Arrays_fill2_57 {s : Nat × (Nat → Int32)} {d : Nat} {w : qW} {Q : qW → Prop} {l1 : Int64} (h :
  qAt s d c_Arrays_fill2 (qQv Q) 6 [some (.ref 57), some (.long l1), none, some (.int (0 : Int32)), some (.int (12 : Int32))] [] w) :
  qCall (some s) (d + 1) 145 [.ref 57, .long l1] w (qQv Q) := qCall_of (cd := c_Arrays_fill2) (mL := 5) rfl u_Arrays_fill2 [(6, [true, true, false, true, true])] 7 h
set_option maxRecDepth 100000 in
theorem A_Arrays_fill2_57_6 {s : Nat × (Nat → Int32)} {d : Nat} {w : qW} {Q : qW → Prop} {l1 : Int64} {i3 : Int32} {i4 : Int32} (h :
  (i4 ≤ i3 →
    Q w) ∧
  (¬ i4 ≤ i3 →
    qIn i3 12 ∧
    (qAt s d c_Arrays_fill2 (qQv Q) 6 [some (.ref 57), some (.long l1), none, some (.int (i3 + (1 : Int32))), some (.int i4)] [] (qPutL w 57 (qIx i3) l1)))) :
  qAt s d c_Arrays_fill2 (qQv Q) 6 [some (.ref 57), some (.long l1), none, some (.int i3), some (.int i4)] [] w := qAt_of u_Arrays_fill2 [(6, [true, true, false, true, true])] 11 h

set_option maxRecDepth 100000 in
theorem A_Arrays_fill2_71 {s : Nat × (Nat → Int32)} {d : Nat} {w : qW} {Q : qW → Prop} {l1 : Int64} (h :
  qAt s d c_Arrays_fill2 (qQv Q) 6 [some (.ref 71), some (.long l1), none, some (.int (0 : Int32)), some (.int (64 : Int32))] [] w) :
  qCall (some s) (d + 1) 145 [.ref 71, .long l1] w (qQv Q) := qCall_of (cd := c_Arrays_fill2) (mL := 5) rfl u_Arrays_fill2 [(6, [true, true, false, true, true])] 7 h
set_option maxRecDepth 100000 in
theorem A_Arrays_fill2_71_6 {s : Nat × (Nat → Int32)} {d : Nat} {w : qW} {Q : qW → Prop} {l1 : Int64} {i3 : Int32} {i4 : Int32} (h :
  (i4 ≤ i3 →
    Q w) ∧
  (¬ i4 ≤ i3 →
    qIn i3 64 ∧
    (qAt s d c_Arrays_fill2 (qQv Q) 6 [some (.ref 71), some (.long l1), none, some (.int (i3 + (1 : Int32))), some (.int i4)] [] (qPutL w 71 (qIx i3) l1)))) :
  qAt s d c_Arrays_fill2 (qQv Q) 6 [some (.ref 71), some (.long l1), none, some (.int i3), some (.int i4)] [] w := qAt_of u_Arrays_fill2 [(6, [true, true, false, true, true])] 11 h

set_option maxRecDepth 100000 in
theorem A_Turns_firstHours {s : Nat × (Nat → Int32)} {d : Nat} {w : qW} {Q : Int64 → qW → Prop} {i0 : Int32} (h :
  (i0 < (64 : Int32) →
    Q ((qLshl (1 : Int64) i0) - (1 : Int64)) w) ∧
  (¬ i0 < (64 : Int32) →
    Q (-1 : Int64) w)) :
  qCall (some s) (d + 1) 146 [.int i0] w (qQl Q) := qCall_of (cd := c_Turns_firstHours) (mL := 1) rfl u_Turns_firstHours [] 10 h

set_option maxRecDepth 100000 in
theorem A_Turns_canAll {s : Nat × (Nat → Int32)} {d : Nat} {w : qW} {Q : Int32 → qW → Prop} {i1 : Int32} {l2 : Int64} (h :
  qCall (some s) d 148 [.ref 58, .int (-1 : Int32)] w (qQv fun w1 =>
    qAt s d c_Turns_canAll (qQi Q) 11 [some (.ref 55), some (.int i1), some (.long l2), none, some (.int (0 : Int32))] [] w1)) :
  qCall (some s) (d + 1) 147 [.ref 55, .int i1, .long l2] w (qQi Q) := qCall_of (cd := c_Turns_canAll) (mL := 5) rfl u_Turns_canAll [(11, [true, true, true, false, true])] 8 h
set_option maxRecDepth 100000 in
theorem A_Turns_canAll_11 {s : Nat × (Nat → Int32)} {d : Nat} {w : qW} {Q : Int32 → qW → Prop} {i1 : Int32} {l2 : Int64} {i4 : Int32} (h :
  ((12 : Int32) ≤ i4 →
    Q (1 : Int32) w) ∧
  (¬ (12 : Int32) ≤ i4 →
    qCall (some s) d 104 [.int i4, .int i1] (qPutL w 55 4 (0 : Int64)) (qQi fun x2 w1 =>
      (x2 = 0 →
        qAt s d c_Turns_canAll (qQi Q) 11 [some (.ref 55), some (.int i1), some (.long l2), none, some (.int (i4 + (1 : Int32)))] [] w1) ∧
      (¬ x2 = 0 →
        qCall (some s) d 149 [.ref 55, .int i4, .long l2, .int (0 : Int32)] w1 (qQi fun x4 w3 =>
          (¬ x4 = 0 →
            qAt s d c_Turns_canAll (qQi Q) 11 [some (.ref 55), some (.int i1), some (.long l2), none, some (.int (i4 + (1 : Int32)))] [] w3) ∧
          (x4 = 0 →
            Q (0 : Int32) w3)))))) :
  qAt s d c_Turns_canAll (qQi Q) 11 [some (.ref 55), some (.int i1), some (.long l2), none, some (.int i4)] [] w := qAt_of u_Turns_canAll [(11, [true, true, true, false, true])] 20 h

set_option maxRecDepth 100000 in
theorem A_Arrays_fill3_58 {s : Nat × (Nat → Int32)} {d : Nat} {w : qW} {Q : qW → Prop} {i1 : Int32} (h :
  qAt s d c_Arrays_fill3 (qQv Q) 5 [some (.ref 58), some (.int i1), some (.int (0 : Int32)), some (.int (64 : Int32))] [] w) :
  qCall (some s) (d + 1) 148 [.ref 58, .int i1] w (qQv Q) := qCall_of (cd := c_Arrays_fill3) (mL := 4) rfl u_Arrays_fill3 [(5, [true, true, true, true])] 7 h
set_option maxRecDepth 100000 in
theorem A_Arrays_fill3_58_5 {s : Nat × (Nat → Int32)} {d : Nat} {w : qW} {Q : qW → Prop} {i1 : Int32} {i2 : Int32} {i3 : Int32} (h :
  (i3 ≤ i2 →
    Q w) ∧
  (¬ i3 ≤ i2 →
    qIn i2 64 ∧
    (qAt s d c_Arrays_fill3 (qQv Q) 5 [some (.ref 58), some (.int i1), some (.int (i2 + (1 : Int32))), some (.int i3)] [] (qPutI w 58 (qIx i2) i1)))) :
  qAt s d c_Arrays_fill3 (qQv Q) 5 [some (.ref 58), some (.int i1), some (.int i2), some (.int i3)] [] w := qAt_of u_Arrays_fill3 [(5, [true, true, true, true])] 11 h

set_option maxRecDepth 100000 in
theorem A_Turns_canHold {s : Nat × (Nat → Int32)} {d : Nat} {w : qW} {Q : Int32 → qW → Prop} {i1 : Int32} {l2 : Int64} {i4 : Int32} (h :
  ((12 : Int32) < i4 →
    Q (0 : Int32) w) ∧
  (¬ (12 : Int32) < i4 →
    (i1 < 0 →
      Q (0 : Int32) w) ∧
    (¬ i1 < 0 →
      (i1 < (12 : Int32) →
        qIn i1 12 ∧
        (qAt s d c_Turns_canHold (qQi Q) 32 [some (.ref 55), some (.int i1), some (.long l2), none, some (.int i4), some (.long ((w.2.1 57 (qIx i1)) &&& l2)), none, some (.int (0 : Int32)), none, none] [] w)) ∧
      (¬ i1 < (12 : Int32) →
        Q (0 : Int32) w)))) :
  qCall (some s) (d + 1) 149 [.ref 55, .int i1, .long l2, .int i4] w (qQi Q) := qCall_of (cd := c_Turns_canHold) (mL := 10) rfl u_Turns_canHold [(32, [true, true, true, false, true, true, false, true, false, false])] 19 h
set_option maxRecDepth 100000 in
theorem A_Turns_canHold_32 {s : Nat × (Nat → Int32)} {d : Nat} {w : qW} {Q : Int32 → qW → Prop} {i1 : Int32} {l2 : Int64} {i4 : Int32} {l5 : Int64} {i7 : Int32} (h :
  ((64 : Int32) ≤ i7 →
    Q (0 : Int32) w) ∧
  (¬ (64 : Int32) ≤ i7 →
    ((lg_cmp (qLushr l5 i7) (0 : Int64)) = 0 →
      Q (0 : Int32) w) ∧
    (¬ (lg_cmp (qLushr l5 i7) (0 : Int64)) = 0 →
      ((lg_cmp (l5 &&& (qLshl (1 : Int64) i7)) (0 : Int64)) = 0 →
        qAt s d c_Turns_canHold (qQi Q) 32 [some (.ref 55), some (.int i1), some (.long l2), none, some (.int i4), some (.long l5), none, some (.int (i7 + (1 : Int32))), none, none] [] w) ∧
      (¬ (lg_cmp (l5 &&& (qLshl (1 : Int64) i7)) (0 : Int64)) = 0 →
        (¬ (lg_cmp ((w.2.1 55 4) &&& (qLshl (1 : Int64) i7)) (0 : Int64)) = 0 →
          qAt s d c_Turns_canHold (qQi Q) 32 [some (.ref 55), some (.int i1), some (.long l2), none, some (.int i4), some (.long l5), none, some (.int (i7 + (1 : Int32))), none, none] [] w) ∧
        ((lg_cmp ((w.2.1 55 4) &&& (qLshl (1 : Int64) i7)) (0 : Int64)) = 0 →
          qIn i7 64 ∧
          (((w.1 58 (qIx i7)) = (-1 : Int32) →
            qIn i7 64 ∧
            (Q (1 : Int32) (qPutI (qPutL w 55 4 ((w.2.1 55 4) ||| (qLshl (1 : Int64) i7))) 58 (qIx i7) i1))) ∧
          (¬ (w.1 58 (qIx i7)) = (-1 : Int32) →
            qIn i7 64 ∧
            (qCall (some s) d 149 [.ref 55, .int (w.1 58 (qIx i7)), .long l2, .int (i4 + (1 : Int32))] (qPutL w 55 4 ((w.2.1 55 4) ||| (qLshl (1 : Int64) i7))) (qQi fun x2 w1 =>
              (x2 = 0 →
                qAt s d c_Turns_canHold (qQi Q) 32 [some (.ref 55), some (.int i1), some (.long l2), none, some (.int i4), some (.long l5), none, some (.int (i7 + (1 : Int32))), none, none] [] w1) ∧
              (¬ x2 = 0 →
                qIn i7 64 ∧
                (Q (1 : Int32) (qPutI w1 58 (qIx i7) i1)))))))))))) :
  qAt s d c_Turns_canHold (qQi Q) 32 [some (.ref 55), some (.int i1), some (.long l2), none, some (.int i4), some (.long l5), none, some (.int i7), none, none] [] w := qAt_of u_Turns_canHold [(32, [true, true, true, false, true, true, false, true, false, false])] 57 h

set_option maxRecDepth 100000 in
theorem A_Turns_allot {s : Nat × (Nat → Int32)} {d : Nat} {w : qW} {Q : qW → Prop} {i1 : Int32} {i2 : Int32} (h :
  qCall (some s) d 146 [.int i2] w (qQl fun y2 w1 =>
    qAt s d c_Turns_allot (qQv Q) 11 [some (.ref 55), some (.int i1), none, some (.long y2), none, some (.int i1), some (.int (0 : Int32))] [] w1)) :
  qCall (some s) (d + 1) 150 [.ref 55, .int i1, .int i2] w (qQv Q) := qCall_of (cd := c_Turns_allot) (mL := 7) rfl u_Turns_allot [(11, [true, true, false, true, false, true, true])] 9 h
set_option maxRecDepth 100000 in
theorem A_Turns_allot_11 {s : Nat × (Nat → Int32)} {d : Nat} {w : qW} {Q : qW → Prop} {i1 : Int32} {l3 : Int64} {i5 : Int32} {i6 : Int32} (h :
  ((12 : Int32) ≤ i6 →
    Q w) ∧
  (¬ (12 : Int32) ≤ i6 →
    qCall (some s) d 104 [.int i6, .int i1] w (qQi fun x2 w1 =>
      (x2 = 0 →
        qAt s d c_Turns_allot (qQv Q) 11 [some (.ref 55), some (.int i1), none, some (.long l3), none, some (.int i5), some (.int (i6 + (1 : Int32)))] [] w1) ∧
      (¬ x2 = 0 →
        qCall (some s) d 151 [.ref 55, .int i6, .int (i5 &&& ((qShl (1 : Int32) i6) ^^^ (-1 : Int32))), .long l3] w1 (qQi fun x4 w3 =>
          qIn i6 12 ∧
          (qIn i6 12 ∧
          (qAt s d c_Turns_allot (qQv Q) 11 [some (.ref 55), some (.int i1), none, some (.long (l3 &&& ((qLshl (1 : Int64) ((qPutI w3 56 (qIx i6) x4).1 56 (qIx i6))) ^^^ (-1 : Int64)))), none, some (.int (i5 &&& ((qShl (1 : Int32) i6) ^^^ (-1 : Int32)))), some (.int (i6 + (1 : Int32)))] [] (qPutI w3 56 (qIx i6) x4)))))))) :
  qAt s d c_Turns_allot (qQv Q) 11 [some (.ref 55), some (.int i1), none, some (.long l3), none, some (.int i5), some (.int i6)] [] w := qAt_of u_Turns_allot [(11, [true, true, false, true, false, true, true])] 39 h

set_option maxRecDepth 100000 in
theorem A_Turns_lowestFor {s : Nat × (Nat → Int32)} {d : Nat} {w : qW} {Q : Int32 → qW → Prop} {i1 : Int32} {i2 : Int32} {l3 : Int64} (h :
  qAt s d c_Turns_lowestFor (qQi Q) 3 [some (.ref 55), some (.int i1), some (.int i2), some (.long l3), none, some (.int (0 : Int32)), none, none] [] w) :
  qCall (some s) (d + 1) 151 [.ref 55, .int i1, .int i2, .long l3] w (qQi Q) := qCall_of (cd := c_Turns_lowestFor) (mL := 8) rfl u_Turns_lowestFor [(3, [true, true, true, true, false, true, false, false])] 4 h
set_option maxRecDepth 100000 in
theorem A_Turns_lowestFor_3 {s : Nat × (Nat → Int32)} {d : Nat} {w : qW} {Q : Int32 → qW → Prop} {i1 : Int32} {i2 : Int32} {l3 : Int64} {i5 : Int32} (h :
  ((64 : Int32) ≤ i5 →
    Q (0 : Int32) w) ∧
  (¬ (64 : Int32) ≤ i5 →
    qIn i1 12 ∧
    (((lg_cmp (((w.2.1 57 (qIx i1)) &&& l3) &&& (qLshl (1 : Int64) i5)) (0 : Int64)) = 0 →
      qAt s d c_Turns_lowestFor (qQi Q) 3 [some (.ref 55), some (.int i1), some (.int i2), some (.long l3), none, some (.int (i5 + (1 : Int32))), none, none] [] w) ∧
    (¬ (lg_cmp (((w.2.1 57 (qIx i1)) &&& l3) &&& (qLshl (1 : Int64) i5)) (0 : Int64)) = 0 →
      qCall (some s) d 147 [.ref 55, .int i2, .long (l3 &&& ((qLshl (1 : Int64) i5) ^^^ (-1 : Int64)))] w (qQi fun x2 w1 =>
        (x2 = 0 →
          qAt s d c_Turns_lowestFor (qQi Q) 3 [some (.ref 55), some (.int i1), some (.int i2), some (.long l3), none, some (.int (i5 + (1 : Int32))), none, none] [] w1) ∧
        (¬ x2 = 0 →
          Q i5 w1)))))) :
  qAt s d c_Turns_lowestFor (qQi Q) 3 [some (.ref 55), some (.int i1), some (.int i2), some (.long l3), none, some (.int i5), none, none] [] w := qAt_of u_Turns_lowestFor [(3, [true, true, true, true, false, true, false, false])] 31 h

set_option maxRecDepth 100000 in
theorem A_X_given {s : Nat × (Nat → Int32)} {d : Nat} {w : qW} {Q : Int32 → qW → Prop} {i1 : Int32} (h :
  qCall (some s) d 15 [.int i1] w (qQi fun x2 w1 =>
    (x2 = 0 →
      Q (-1 : Int32) w1) ∧
    (¬ x2 = 0 →
      ((w1.1 2 11) < 0 →
        Q (-1 : Int32) w1) ∧
      (¬ (w1.1 2 11) < 0 →
        ((w1.1 2 11) < (6 : Int32) →
          qAt s d c_X_given (qQi Q) 33 [some (.ref 1), some (.int i1), some (.int (0 : Int32))] [] w1) ∧
        (¬ (w1.1 2 11) < (6 : Int32) →
          Q (-1 : Int32) w1))))) :
  qCall (some s) (d + 1) 152 [.ref 1, .int i1] w (qQi Q) := qCall_of (cd := c_X_given) (mL := 3) rfl u_X_given [(33, [true, true, true])] 16 h
set_option maxRecDepth 100000 in
theorem A_X_given_33 {s : Nat × (Nat → Int32)} {d : Nat} {w : qW} {Q : Int32 → qW → Prop} {i1 : Int32} {i2 : Int32} (h :
  ((w.1 2 11) ≤ i2 →
    qIn (w.1 2 11) 6 ∧
    (Q ((w.1 2 11) + (1 : Int32)) (qPutI (qPutI w 8 (qIx (w.1 2 11)) i1) 2 11 ((w.1 2 11) + (1 : Int32))))) ∧
  (¬ (w.1 2 11) ≤ i2 →
    qIn i2 6 ∧
    ((¬ (w.1 8 (qIx i2)) = i1 →
      qAt s d c_X_given (qQi Q) 33 [some (.ref 1), some (.int i1), some (.int (i2 + (1 : Int32)))] [] w) ∧
    ((w.1 8 (qIx i2)) = i1 →
      Q (-1 : Int32) w)))) :
  qAt s d c_X_given (qQi Q) 33 [some (.ref 1), some (.int i1), some (.int i2)] [] w := qAt_of u_X_given [(33, [true, true, true])] 25 h

set_option maxRecDepth 100000 in
theorem A_X_need {s : Nat × (Nat → Int32)} {d : Nat} {w : qW} {Q : Int32 → qW → Prop} {i1 : Int32} {i2 : Int32} {i3 : Int32} {i4 : Int32} (h :
  qCall (some s) d 34 [.ref 2, .int i1, .int i2] w (qQi fun x2 w1 =>
    (x2 = 0 →
      Q (-1 : Int32) w1) ∧
    (¬ x2 = 0 →
      ((w.1 2 13) < 0 →
        Q (-1 : Int32) w1) ∧
      (¬ (w.1 2 13) < 0 →
        ((w.1 2 13) < (12 : Int32) →
          (i3 < (1 : Int32) →
            Q (-1 : Int32) w1) ∧
          (¬ i3 < (1 : Int32) →
            ((999 : Int32) < i3 →
              Q (-1 : Int32) w1) ∧
            (¬ (999 : Int32) < i3 →
              (i4 < (1 : Int32) →
                Q (-1 : Int32) w1) ∧
              (¬ i4 < (1 : Int32) →
                (i4 ≤ (100000 : Int32) →
                  qIn (w.1 2 13) 12 ∧
                  (qIn (w.1 2 13) 12 ∧
                  (qIn (w.1 2 13) 12 ∧
                  (Q (w.1 2 13) (qPutI (qPutI (qPutI (qPutI w1 9 (qIx (w.1 2 13)) ((qShl (1 : Int32) i1) ||| (qShl (1 : Int32) i2))) 10 (qIx (w.1 2 13)) i3) 11 (qIx (w.1 2 13)) i4) 2 13 ((w1.1 2 13) + (1 : Int32))))))) ∧
                (¬ i4 ≤ (100000 : Int32) →
                  Q (-1 : Int32) w1))))) ∧
        (¬ (w.1 2 13) < (12 : Int32) →
          Q (-1 : Int32) w1))))) :
  qCall (some s) (d + 1) 153 [.ref 1, .int i1, .int i2, .int i3, .int i4] w (qQi Q) := qCall_of (cd := c_X_need) (mL := 6) rfl u_X_need [] 61 h

set_option maxRecDepth 100000 in
theorem A_X_worth {s : Nat × (Nat → Int32)} {d : Nat} {w : qW} {Q : Int32 → qW → Prop} {i1 : Int32} (h :
  (i1 < (-1 : Int32) →
    Q (-1000000 : Int32) w) ∧
  (¬ i1 < (-1 : Int32) →
    (i1 < (w.1 2 13) →
      (¬ i1 = (-1 : Int32) →
        qCall (some s) d 156 [.ref 59, .int i1] w (qQi fun x2 w1 =>
          Q x2 w1)) ∧
      (i1 = (-1 : Int32) →
        qCall (some s) d 155 [.ref 59] w (qQi fun x4 w3 =>
          Q x4 w3))) ∧
    (¬ i1 < (w.1 2 13) →
      Q (-1000000 : Int32) w))) :
  qCall (some s) (d + 1) 154 [.ref 1, .int i1] w (qQi Q) := qCall_of (cd := c_X_worth) (mL := 2) rfl u_X_worth [] 17 h

set_option maxRecDepth 100000 in
theorem A_Gifts_total {s : Nat × (Nat → Int32)} {d : Nat} {w : qW} {Q : Int32 → qW → Prop}  (h :
  qAt s d c_Gifts_total (qQi Q) 4 [some (.ref 59), some (.int (0 : Int32)), some (.int (0 : Int32))] [] w) :
  qCall (some s) (d + 1) 155 [.ref 59] w (qQi Q) := qCall_of (cd := c_Gifts_total) (mL := 3) rfl u_Gifts_total [(4, [true, true, true])] 6 h
set_option maxRecDepth 100000 in
theorem A_Gifts_total_4 {s : Nat × (Nat → Int32)} {d : Nat} {w : qW} {Q : Int32 → qW → Prop} {i1 : Int32} {i2 : Int32} (h :
  ((w.1 2 13) ≤ i2 →
    Q i1 w) ∧
  (¬ (w.1 2 13) ≤ i2 →
    qCall (some s) d 156 [.ref 59, .int i2] w (qQi fun x2 w1 =>
      qIn i2 12 ∧
      (qIn i2 12 ∧
      (qAt s d c_Gifts_total (qQi Q) 4 [some (.ref 59), some (.int (i1 + ((qPutI w1 60 (qIx i2) x2).1 60 (qIx i2)))), some (.int (i2 + (1 : Int32)))] [] (qPutI w1 60 (qIx i2) x2)))))) :
  qAt s d c_Gifts_total (qQi Q) 4 [some (.ref 59), some (.int i1), some (.int i2)] [] w := qAt_of u_Gifts_total [(4, [true, true, true])] 23 h

set_option maxRecDepth 100000 in
theorem A_Gifts_worthOf {s : Nat × (Nat → Int32)} {d : Nat} {w : qW} {Q : Int32 → qW → Prop} {i1 : Int32} (h :
  qIn i1 12 ∧
  (qIn i1 12 ∧
  (qCall (some s) d 121 [.ref 53, .int (w.1 9 (qIx i1)), .long (0 : Int64), .long (Int32.toInt64 ((w.1 11 (qIx i1)) - (1 : Int32)))] w (qQl fun y2 w1 =>
    qCall (some s) d 18 [.ref 50] w1 (qQr fun c4 w3 =>
      (∀ u5, c4 = some u5 →
      qB (qAl (some s) w3 u5 4) (((w3.1 u5 2) < 0 →
        qAt s d c_Gifts_worthOf (qQi Q) 65 [some (.ref 59), some (.int i1), some (.long y2), none, none, none] [] w3) ∧
      (¬ (w3.1 u5 2) < 0 →
        qB (qAl (some s) w3 u5 4) (qB (qAl (some s) w3 u5 4) (((w3.1 u5 2) < (w3.1 u5 0) →
          qIn (4 : Int32) 7 ∧
          (qIn i1 12 ∧
          (qIn (5 : Int32) 7 ∧
          (qIn i1 12 ∧
          (qIn (6 : Int32) 7 ∧
          (qB (qAl (some s) (qPutI (qPutI (qPutI w3 48 (qIx (4 : Int32)) (Int64.toInt32 y2)) 48 (qIx (5 : Int32)) (w3.1 10 (qIx i1))) 48 (qIx (6 : Int32)) (w3.1 11 (qIx i1))) u5 4) (qGr (some s) (qPutI (qPutI (qPutI w3 48 (qIx (4 : Int32)) (Int64.toInt32 y2)) 48 (qIx (5 : Int32)) (w3.1 10 (qIx i1))) 48 (qIx (6 : Int32)) (w3.1 11 (qIx i1))) u5 5 (fun u6 =>
            qB (qAl (some s) (qPutI (qPutI (qPutI w3 48 (qIx (4 : Int32)) (Int64.toInt32 y2)) 48 (qIx (5 : Int32)) (w3.1 10 (qIx i1))) 48 (qIx (6 : Int32)) (w3.1 11 (qIx i1))) u5 4) (qAld (some s) (qPutI (qPutI (qPutI w3 48 (qIx (4 : Int32)) (Int64.toInt32 y2)) 48 (qIx (5 : Int32)) (w3.1 10 (qIx i1))) 48 (qIx (6 : Int32)) (w3.1 11 (qIx i1))) u6 ((qPutI (qPutI (qPutI w3 48 (qIx (4 : Int32)) (Int64.toInt32 y2)) 48 (qIx (5 : Int32)) (w3.1 10 (qIx i1))) 48 (qIx (6 : Int32)) (w3.1 11 (qIx i1))).1 u5 2) fun x7 =>
              qB (qAl (some s) (qPutI (qPutI (qPutI w3 48 (qIx (4 : Int32)) (Int64.toInt32 y2)) 48 (qIx (5 : Int32)) (w3.1 10 (qIx i1))) 48 (qIx (6 : Int32)) (w3.1 11 (qIx i1))) u5 4) (qGr (some s) (qPutI (qPutI (qPutI w3 48 (qIx (4 : Int32)) (Int64.toInt32 y2)) 48 (qIx (5 : Int32)) (w3.1 10 (qIx i1))) 48 (qIx (6 : Int32)) (w3.1 11 (qIx i1))) u5 6 (fun u8 =>
              qB (qAl (some s) (qPutI (qPutI (qPutI w3 48 (qIx (4 : Int32)) (Int64.toInt32 y2)) 48 (qIx (5 : Int32)) (w3.1 10 (qIx i1))) 48 (qIx (6 : Int32)) (w3.1 11 (qIx i1))) u5 4) (qAld (some s) (qPutI (qPutI (qPutI w3 48 (qIx (4 : Int32)) (Int64.toInt32 y2)) 48 (qIx (5 : Int32)) (w3.1 10 (qIx i1))) 48 (qIx (6 : Int32)) (w3.1 11 (qIx i1))) u8 ((qPutI (qPutI (qPutI w3 48 (qIx (4 : Int32)) (Int64.toInt32 y2)) 48 (qIx (5 : Int32)) (w3.1 10 (qIx i1))) 48 (qIx (6 : Int32)) (w3.1 11 (qIx i1))).1 u5 2) fun x9 =>
                qCall (some s) d 20 [.ref 47, .ref u5, .int x7, .int x9] (qPutI (qPutI (qPutI w3 48 (qIx (4 : Int32)) (Int64.toInt32 y2)) 48 (qIx (5 : Int32)) (w3.1 10 (qIx i1))) 48 (qIx (6 : Int32)) (w3.1 11 (qIx i1))) (qQi fun x11 w10 =>
                qCall (some s) d 23 [.int (9999 : Int32), .int x11] w10 (qQi fun x13 w12 =>
                  qCall (some s) d 21 [.int (-9999 : Int32), .int x13] w12 (qQi fun x15 w14 =>
                    Q x15 w14))))) (qB (qAl (some s) (qPutI (qPutI (qPutI w3 48 (qIx (4 : Int32)) (Int64.toInt32 y2)) 48 (qIx (5 : Int32)) (w3.1 10 (qIx i1))) 48 (qIx (6 : Int32)) (w3.1 11 (qIx i1))) u5 4) (False))))) (qB (qAl (some s) (qPutI (qPutI (qPutI w3 48 (qIx (4 : Int32)) (Int64.toInt32 y2)) 48 (qIx (5 : Int32)) (w3.1 10 (qIx i1))) 48 (qIx (6 : Int32)) (w3.1 11 (qIx i1))) u5 4) (False))))))))) ∧
        (¬ (w3.1 u5 2) < (w3.1 u5 0) →
          qAt s d c_Gifts_worthOf (qQi Q) 65 [some (.ref 59), some (.int i1), some (.long y2), none, none, none] [] w3)))))) ∧
      (c4 = none →
      qAt s d c_Gifts_worthOf (qQi Q) 65 [some (.ref 59), some (.int i1), some (.long y2), none, none, none] [] w3)))))) :
  qCall (some s) (d + 1) 156 [.ref 59, .int i1] w (qQi Q) := qCall_of (cd := c_Gifts_worthOf) (mL := 6) rfl u_Gifts_worthOf [(65, [true, true, true, false, false, false])] 81 h
set_option maxRecDepth 100000 in
theorem A_Gifts_worthOf_65 {s : Nat × (Nat → Int32)} {d : Nat} {w : qW} {Q : Int32 → qW → Prop} {i1 : Int32} {l2 : Int64} (h :
  qIn i1 12 ∧
  (((lg_cmp l2 (Int32.toInt64 (w.1 10 (qIx i1)))) < 0 →
    Q (0 : Int32) w) ∧
  (¬ (lg_cmp l2 (Int32.toInt64 (w.1 10 (qIx i1)))) < 0 →
    Q (1 : Int32) w))) :
  qAt s d c_Gifts_worthOf (qQi Q) 65 [some (.ref 59), some (.int i1), some (.long l2), none, none, none] [] w := qAt_of u_Gifts_worthOf [(65, [true, true, true, false, false, false])] 13 h

set_option maxRecDepth 100000 in
theorem A_X_give {s : Nat × (Nat → Int32)} {d : Nat} {w : qW} {Q : Int32 → qW → Prop} {i1 : Int32} {i2 : Int32} (h :
  qCall (some s) d 97 [.ref 2, .int i1] w (qQi fun x2 w1 =>
    (x2 = 0 →
      Q (-1000000 : Int32) w1) ∧
    (¬ x2 = 0 →
      qCall (some s) d 103 [.int i1] w1 (qQi fun x4 w3 =>
        ((2 : Int32) < x4 →
          Q (-1000000 : Int32) w3) ∧
        (¬ (2 : Int32) < x4 →
          qCall (some s) d 142 [.int i2, .int i1] w3 (qQi fun x6 w5 =>
            (x6 = 0 →
              Q (-1000000 : Int32) w5) ∧
            (¬ x6 = 0 →
              (¬ (w5.1 2 11) = 0 →
                qCall (some s) d 158 [.ref 59, .int i1] w5 (qQv fun w7 =>
                  (¬ i2 = (-1 : Int32) →
                    qCall (some s) d 102 [.int i1] w7 (qQi fun x9 w8 =>
                      (¬ i2 = x9 →
                        Q (w8.1 59 3) w8) ∧
                      (i2 = x9 →
                        Q (w8.1 59 2) w8))) ∧
                  (i2 = (-1 : Int32) →
                    Q (w7.1 59 0) w7))) ∧
              ((w5.1 2 11) = 0 →
                Q (-1000000 : Int32) w5)))))))) :
  qCall (some s) (d + 1) 157 [.ref 1, .int i1, .int i2] w (qQi Q) := qCall_of (cd := c_X_give) (mL := 3) rfl u_X_give [] 34 h

set_option maxRecDepth 100000 in
theorem A_Gifts_findBest {s : Nat × (Nat → Int32)} {d : Nat} {w : qW} {Q : qW → Prop} {i1 : Int32} (h :
  qCall (some s) d 102 [.int i1] w (qQi fun x2 w1 =>
    (¬ (i1 &&& ((qShl (1 : Int32) x2) ^^^ (-1 : Int32))) = 0 →
      qCall (some s) d 102 [.int (i1 &&& ((qShl (1 : Int32) x2) ^^^ (-1 : Int32)))] w1 (qQi fun x4 w3 =>
        qAt s d c_Gifts_findBest (qQv Q) 25 [some (.ref 59), some (.int i1), some (.int x2), some (.int (i1 &&& ((qShl (1 : Int32) x2) ^^^ (-1 : Int32)))), none, none, none, none, none, none] [.int x4] w3)) ∧
    ((i1 &&& ((qShl (1 : Int32) x2) ^^^ (-1 : Int32))) = 0 →
      qAt s d c_Gifts_findBest (qQv Q) 25 [some (.ref 59), some (.int i1), some (.int x2), some (.int (i1 &&& ((qShl (1 : Int32) x2) ^^^ (-1 : Int32)))), none, none, none, none, none, none] [.int x2] w1))) :
  qCall (some s) (d + 1) 158 [.ref 59, .int i1] w (qQv Q) := qCall_of (cd := c_Gifts_findBest) (mL := 10) rfl u_Gifts_findBest [(25, [true, true, true, true, false, false, false, false, false, false]), (81, [true, true, true, true, true, true, true, true, true, false]), (111, [true, true, true, true, true, true, true, true, true, true])] 17 h
set_option maxRecDepth 100000 in
theorem A_Gifts_findBest_25 {s : Nat × (Nat → Int32)} {d : Nat} {w : qW} {Q : qW → Prop} {i1 : Int32} {i2 : Int32} {i3 : Int32} {is0 : Int32} (h :
  qIn i2 12 ∧
  (qIn is0 12 ∧
  ((¬ i3 = 0 →
    qCall (some s) d 155 [.ref 59] w (qQi fun x2 w1 =>
      qAt s d c_Gifts_findBest (qQv Q) 81 [some (.ref 59), some (.int i1), some (.int i2), some (.int i3), some (.int is0), some (.int (w.1 3 (qIx i2))), some (.int (w.1 3 (qIx is0))), some (.int (w.1 2 11)), some (.int (0 : Int32)), none] [] (qPutI w1 59 0 (-1000000 : Int32)))) ∧
  (i3 = 0 →
    qCall (some s) d 155 [.ref 59] w (qQi fun x4 w3 =>
      qAt s d c_Gifts_findBest (qQv Q) 81 [some (.ref 59), some (.int i1), some (.int i2), some (.int i3), some (.int is0), some (.int (w.1 3 (qIx i2))), some (.int (w.1 3 (qIx is0))), some (.int (1 : Int32)), some (.int (0 : Int32)), none] [] (qPutI w3 59 0 (-1000000 : Int32))))))) :
  qAt s d c_Gifts_findBest (qQv Q) 25 [some (.ref 59), some (.int i1), some (.int i2), some (.int i3), none, none, none, none, none, none] [.int is0] w := qAt_of u_Gifts_findBest [(25, [true, true, true, true, false, false, false, false, false, false]), (81, [true, true, true, true, true, true, true, true, true, false]), (111, [true, true, true, true, true, true, true, true, true, true])] 29 h
set_option maxRecDepth 100000 in
theorem A_Gifts_findBest_81 {s : Nat × (Nat → Int32)} {d : Nat} {w : qW} {Q : qW → Prop} {i1 : Int32} {i2 : Int32} {i3 : Int32} {i4 : Int32} {i5 : Int32} {i6 : Int32} {i7 : Int32} {i8 : Int32} (h :
  ((w.1 2 11) ≤ i8 →
    qCall (some s) d 159 [.ref 59, .int i2, .int i5] w (qQv fun w1 =>
      qCall (some s) d 159 [.ref 59, .int i4, .int i6] w1 (qQv fun w2 =>
        Q w2))) ∧
  (¬ (w.1 2 11) ≤ i8 →
    qIn i8 6 ∧
    (qCall (some s) d 159 [.ref 59, .int i2, .int (w.1 8 (qIx i8))] w (qQv fun w3 =>
      qAt s d c_Gifts_findBest (qQv Q) 111 [some (.ref 59), some (.int i1), some (.int i2), some (.int i3), some (.int i4), some (.int i5), some (.int i6), some (.int i7), some (.int i8), some (.int (0 : Int32))] [] w3)))) :
  qAt s d c_Gifts_findBest (qQv Q) 81 [some (.ref 59), some (.int i1), some (.int i2), some (.int i3), some (.int i4), some (.int i5), some (.int i6), some (.int i7), some (.int i8), none] [] w := qAt_of u_Gifts_findBest [(25, [true, true, true, true, false, false, false, false, false, false]), (81, [true, true, true, true, true, true, true, true, true, false]), (111, [true, true, true, true, true, true, true, true, true, true])] 17 h
set_option maxRecDepth 100000 in
theorem A_Gifts_findBest_111 {s : Nat × (Nat → Int32)} {d : Nat} {w : qW} {Q : qW → Prop} {i1 : Int32} {i2 : Int32} {i3 : Int32} {i4 : Int32} {i5 : Int32} {i6 : Int32} {i7 : Int32} {i8 : Int32} {i9 : Int32} (h :
  (i7 ≤ i9 →
    qAt s d c_Gifts_findBest (qQv Q) 81 [some (.ref 59), some (.int i1), some (.int i2), some (.int i3), some (.int i4), some (.int i5), some (.int i6), some (.int i7), some (.int (i8 + (1 : Int32))), none] [] w) ∧
  (¬ i7 ≤ i9 →
    (i3 = 0 →
      qCall (some s) d 160 [.ref 59, .int i1, .int i2, .int i4] w (qQi fun x2 w1 =>
        qAt s d c_Gifts_findBest (qQv Q) 111 [some (.ref 59), some (.int i1), some (.int i2), some (.int i3), some (.int i4), some (.int i5), some (.int i6), some (.int i7), some (.int i8), some (.int (i9 + (1 : Int32)))] [] w1)) ∧
    (¬ i3 = 0 →
      qIn i9 6 ∧
      (qCall (some s) d 159 [.ref 59, .int i4, .int (w.1 8 (qIx i9))] w (qQv fun w3 =>
        qCall (some s) d 160 [.ref 59, .int i1, .int i2, .int i4] w3 (qQi fun x5 w4 =>
          qAt s d c_Gifts_findBest (qQv Q) 111 [some (.ref 59), some (.int i1), some (.int i2), some (.int i3), some (.int i4), some (.int i5), some (.int i6), some (.int i7), some (.int i8), some (.int (i9 + (1 : Int32)))] [] w4)))))) :
  qAt s d c_Gifts_findBest (qQv Q) 111 [some (.ref 59), some (.int i1), some (.int i2), some (.int i3), some (.int i4), some (.int i5), some (.int i6), some (.int i7), some (.int i8), some (.int i9)] [] w := qAt_of u_Gifts_findBest [(25, [true, true, true, true, false, false, false, false, false, false]), (81, [true, true, true, true, true, true, true, true, true, false]), (111, [true, true, true, true, true, true, true, true, true, true])] 23 h

set_option maxRecDepth 100000 in
theorem A_Gifts_renumber {s : Nat × (Nat → Int32)} {d : Nat} {w : qW} {Q : qW → Prop} {i1 : Int32} {i2 : Int32} (h :
  qIn i1 12 ∧
  (qCall (some s) d 17 [.ref 50, .int i1] (qPutI w 3 (qIx i1) i2) (qQv fun w1 =>
    Q w1))) :
  qCall (some s) (d + 1) 159 [.ref 59, .int i1, .int i2] w (qQv Q) := qCall_of (cd := c_Gifts_renumber) (mL := 3) rfl u_Gifts_renumber [] 12 h

set_option maxRecDepth 100000 in
theorem A_Gifts_isBetter {s : Nat × (Nat → Int32)} {d : Nat} {w : qW} {Q : Int32 → qW → Prop} {i1 : Int32} {i2 : Int32} {i3 : Int32} (h :
  qAt s d c_Gifts_isBetter (qQi Q) 6 [some (.ref 59), some (.int i1), some (.int i2), some (.int i3), some (.int (0 : Int32)), some (.int (0 : Int32))] [] w) :
  qCall (some s) (d + 1) 160 [.ref 59, .int i1, .int i2, .int i3] w (qQi Q) := qCall_of (cd := c_Gifts_isBetter) (mL := 6) rfl u_Gifts_isBetter [(6, [true, true, true, true, true, true])] 6 h
set_option maxRecDepth 100000 in
theorem A_Gifts_isBetter_6 {s : Nat × (Nat → Int32)} {d : Nat} {w : qW} {Q : Int32 → qW → Prop} {i1 : Int32} {i2 : Int32} {i3 : Int32} {i4 : Int32} {i5 : Int32} (h :
  ((w.1 2 13) ≤ i5 →
    ((w.1 59 0) < i4 →
      qIn i2 12 ∧
      (qIn i3 12 ∧
      (Q (1 : Int32) (qPutI (qPutI (qPutI w 59 0 i4) 59 2 (w.1 3 (qIx i2))) 59 3 (w.1 3 (qIx i3)))))) ∧
    (¬ (w.1 59 0) < i4 →
      Q (0 : Int32) w)) ∧
  (¬ (w.1 2 13) ≤ i5 →
    qIn i5 12 ∧
    ((¬ ((w.1 9 (qIx i5)) &&& i1) = 0 →
      qCall (some s) d 156 [.ref 59, .int i5] w (qQi fun x2 w1 =>
        qAt s d c_Gifts_isBetter (qQi Q) 6 [some (.ref 59), some (.int i1), some (.int i2), some (.int i3), some (.int (i4 + x2)), some (.int (i5 + (1 : Int32)))] [] w1)) ∧
    (((w.1 9 (qIx i5)) &&& i1) = 0 →
      qIn i5 12 ∧
      (qAt s d c_Gifts_isBetter (qQi Q) 6 [some (.ref 59), some (.int i1), some (.int i2), some (.int i3), some (.int (i4 + (w.1 60 (qIx i5)))), some (.int (i5 + (1 : Int32)))] [] w))))) :
  qAt s d c_Gifts_isBetter (qQi Q) 6 [some (.ref 59), some (.int i1), some (.int i2), some (.int i3), some (.int i4), some (.int i5)] [] w := qAt_of u_Gifts_isBetter [(6, [true, true, true, true, true, true])] 29 h

set_option maxRecDepth 100000 in
theorem A_X_mend {s : Nat × (Nat → Int32)} {d : Nat} {w : qW} {Q : Int32 → qW → Prop} {i1 : Int32} (h :
  (i1 < 0 →
    Q (-1000000 : Int32) w) ∧
  (¬ i1 < 0 →
    ((2 : Int32) < i1 →
      Q (-1000000 : Int32) w) ∧
    (¬ (2 : Int32) < i1 →
      qCall (some s) d 162 [.ref 59] w (qQi fun x2 w1 =>
        (¬ x2 = 0 →
          (¬ i1 = 0 →
            (¬ i1 = (1 : Int32) →
              Q (w1.1 59 0) w1) ∧
            (i1 = (1 : Int32) →
              Q (w1.1 59 2) w1)) ∧
          (i1 = 0 →
            Q (w1.1 59 1) w1)) ∧
        (x2 = 0 →
          Q (-1000000 : Int32) w1))))) :
  qCall (some s) (d + 1) 161 [.ref 1, .int i1] w (qQi Q) := qCall_of (cd := c_X_mend) (mL := 2) rfl u_X_mend [] 20 h

set_option maxRecDepth 100000 in
theorem A_Gifts_findChange {s : Nat × (Nat → Int32)} {d : Nat} {w : qW} {Q : Int32 → qW → Prop}  (h :
  qCall (some s) d 155 [.ref 59] w (qQi fun x2 w1 =>
    qAt s d c_Gifts_findChange (qQi Q) 15 [some (.ref 59), some (.int (0 : Int32)), none, none] [] (qPutI (qPutI w1 59 0 x2) 59 1 (-1 : Int32)))) :
  qCall (some s) (d + 1) 162 [.ref 59] w (qQi Q) := qCall_of (cd := c_Gifts_findChange) (mL := 4) rfl u_Gifts_findChange [(15, [true, true, false, false]), (38, [true, true, true, true])] 11 h
set_option maxRecDepth 100000 in
theorem A_Gifts_findChange_15 {s : Nat × (Nat → Int32)} {d : Nat} {w : qW} {Q : Int32 → qW → Prop} {i1 : Int32} (h :
  ((w.1 2 0) ≤ i1 →
    ((w.1 59 1) = (-1 : Int32) →
      Q (0 : Int32) w) ∧
    (¬ (w.1 59 1) = (-1 : Int32) →
      Q (1 : Int32) w)) ∧
  (¬ (w.1 2 0) ≤ i1 →
    qIn i1 12 ∧
    (qAt s d c_Gifts_findChange (qQi Q) 38 [some (.ref 59), some (.int i1), some (.int (w.1 3 (qIx i1))), some (.int (0 : Int32))] [] w))) :
  qAt s d c_Gifts_findChange (qQi Q) 15 [some (.ref 59), some (.int i1), none, none] [] w := qAt_of u_Gifts_findChange [(15, [true, true, false, false]), (38, [true, true, true, true])] 15 h
set_option maxRecDepth 100000 in
theorem A_Gifts_findChange_38 {s : Nat × (Nat → Int32)} {d : Nat} {w : qW} {Q : Int32 → qW → Prop} {i1 : Int32} {i2 : Int32} {i3 : Int32} (h :
  ((w.1 2 11) ≤ i3 →
    qCall (some s) d 159 [.ref 59, .int i1, .int i2] w (qQv fun w1 =>
      qAt s d c_Gifts_findChange (qQi Q) 15 [some (.ref 59), some (.int (i1 + (1 : Int32))), none, none] [] w1)) ∧
  (¬ (w.1 2 11) ≤ i3 →
    qIn i3 6 ∧
    (qCall (some s) d 159 [.ref 59, .int i1, .int (w.1 8 (qIx i3))] w (qQv fun w2 =>
      qCall (some s) d 160 [.ref 59, .int (qShl (1 : Int32) i1), .int i1, .int i1] w2 (qQi fun x4 w3 =>
        (x4 = 0 →
          qAt s d c_Gifts_findChange (qQi Q) 38 [some (.ref 59), some (.int i1), some (.int i2), some (.int (i3 + (1 : Int32)))] [] w3) ∧
        (¬ x4 = 0 →
          qAt s d c_Gifts_findChange (qQi Q) 38 [some (.ref 59), some (.int i1), some (.int i2), some (.int (i3 + (1 : Int32)))] [] (qPutI w3 59 1 i1))))))) :
  qAt s d c_Gifts_findChange (qQi Q) 38 [some (.ref 59), some (.int i1), some (.int i2), some (.int i3)] [] w := qAt_of u_Gifts_findChange [(15, [true, true, false, false]), (38, [true, true, true, true])] 28 h

set_option maxRecDepth 100000 in
theorem A_X_cover {s : Nat × (Nat → Int32)} {d : Nat} {w : qW} {Q : Int32 → qW → Prop}  (h :
  (¬ (w.1 2 0) = 0 →
    qCall (some s) d 164 [.ref 70] w (qQi fun x2 w1 =>
      Q x2 w1)) ∧
  ((w.1 2 0) = 0 →
    Q (-1 : Int32) w)) :
  qCall (some s) (d + 1) 163 [.ref 1] w (qQi Q) := qCall_of (cd := c_X_cover) (mL := 1) rfl u_X_cover [] 9 h

set_option maxRecDepth 100000 in
theorem A_Cover_fewestOf {s : Nat × (Nat → Int32)} {d : Nat} {w : qW} {Q : Int32 → qW → Prop}  (h :
  qCall (some s) d 165 [.ref 70] w (qQi fun x2 w1 =>
    (x2 ≤ (5040 : Int32) →
      qCall (some s) d 145 [.ref 71, .long (0 : Int64)] w1 (qQv fun w3 =>
        qCall (some s) d 128 [.ref 50, .long (10000 : Int64), .int x2] w3 (qQv fun w4 =>
          qAt s d c_Cover_fewestOf (qQi Q) 36 [some (.ref 70), some (.int x2), some (.int (0 : Int32))] [] w4))) ∧
    (¬ x2 ≤ (5040 : Int32) →
      Q (-2 : Int32) w1))) :
  qCall (some s) (d + 1) 164 [.ref 70] w (qQi Q) := qCall_of (cd := c_Cover_fewestOf) (mL := 3) rfl u_Cover_fewestOf [(36, [true, true, true])] 19 h
set_option maxRecDepth 100000 in
theorem A_Cover_fewestOf_36 {s : Nat × (Nat → Int32)} {d : Nat} {w : qW} {Q : Int32 → qW → Prop} {i1 : Int32} {i2 : Int32} (h :
  (i1 ≤ i2 →
    qCall (some s) d 168 [.ref 70] w (qQv fun w1 =>
      qCall (some s) d 170 [.ref 70] w1 (qQi fun x3 w2 =>
        Q x3 w2))) ∧
  (¬ i1 ≤ i2 →
    qCall (some s) d 132 [.ref 50] w (qQi fun x5 w4 =>
      qCall (some s) d 167 [.ref 70, .int x5] w4 (qQv fun w6 =>
        qAt s d c_Cover_fewestOf (qQi Q) 36 [some (.ref 70), some (.int i1), some (.int (i2 + (1 : Int32)))] [] w6)))) :
  qAt s d c_Cover_fewestOf (qQi Q) 36 [some (.ref 70), some (.int i1), some (.int i2)] [] w := qAt_of u_Cover_fewestOf [(36, [true, true, true])] 12 h

set_option maxRecDepth 100000 in
theorem A_Cover_hoursToCover {s : Nat × (Nat → Int32)} {d : Nat} {w : qW} {Q : Int32 → qW → Prop}  (h :
  ((w.1 2 4) ≤ 0 →
    qAt s d c_Cover_hoursToCover (qQi Q) 41 [some (.ref 70), some (.int (w.1 2 5)), some (.int (0 : Int32))] [] w) ∧
  (¬ (w.1 2 4) ≤ 0 →
    qCall (some s) d 166 [.long (Int32.toInt64 (w.1 2 4)), .long (Int32.toInt64 (w.1 2 5))] w (qQl fun y2 w1 =>
      Q (Int64.toInt32 y2) w1))) :
  qCall (some s) (d + 1) 165 [.ref 70] w (qQi Q) := qCall_of (cd := c_Cover_hoursToCover) (mL := 3) rfl u_Cover_hoursToCover [(41, [true, true, true])] 16 h
set_option maxRecDepth 100000 in
theorem A_Cover_hoursToCover_41 {s : Nat × (Nat → Int32)} {d : Nat} {w : qW} {Q : Int32 → qW → Prop} {i1 : Int32} {i2 : Int32} (h :
  ((w.1 2 0) ≤ i2 →
    Q i1 w) ∧
  (¬ (w.1 2 0) ≤ i2 →
    ((5040 : Int32) < i1 →
      Q i1 w) ∧
    (¬ (5040 : Int32) < i1 →
      qIn i2 12 ∧
      (qCall (some s) d 166 [.long (Int32.toInt64 i1), .long (Int32.toInt64 (w.1 3 (qIx i2)))] w (qQl fun y2 w1 =>
        qAt s d c_Cover_hoursToCover (qQi Q) 41 [some (.ref 70), some (.int (Int64.toInt32 y2)), some (.int (i2 + (1 : Int32)))] [] w1))))) :
  qAt s d c_Cover_hoursToCover (qQi Q) 41 [some (.ref 70), some (.int i1), some (.int i2)] [] w := qAt_of u_Cover_hoursToCover [(41, [true, true, true])] 23 h

set_option maxRecDepth 100000 in
theorem A_X_common {s : Nat × (Nat → Int32)} {d : Nat} {w : qW} {Q : Int64 → qW → Prop} {l0 : Int64} {l2 : Int64} (h :
  qCall (some s) d 111 [.long l0, .long l2] w (qQl fun y2 w1 =>
    ¬ y2 = 0 ∧ (Q ((l0 / y2) * l2) w1))) :
  qCall (some s) (d + 1) 166 [.long l0, .long l2] w (qQl Q) := qCall_of (cd := c_X_common) (mL := 4) rfl u_X_common [] 9 h

set_option maxRecDepth 100000 in
theorem A_Cover_add {s : Nat × (Nat → Int32)} {d : Nat} {w : qW} {Q : qW → Prop} {i1 : Int32} (h :
  ¬ (64 : Int32) = 0 ∧ (qIn (i1 / (64 : Int32)) 64 ∧
  (¬ (64 : Int32) = 0 ∧ (qIn (i1 / (64 : Int32)) 64 ∧
  (Q (qPutL w 71 (qIx (i1 / (64 : Int32))) ((w.2.1 71 (qIx (i1 / (64 : Int32)))) ||| (qLshl (1 : Int64) (qRem i1 (64 : Int32)))))))))) :
  qCall (some s) (d + 1) 167 [.ref 70, .int i1] w (qQv Q) := qCall_of (cd := c_Cover_add) (mL := 2) rfl u_Cover_add [] 16 h

set_option maxRecDepth 100000 in
theorem A_Cover_widen {s : Nat × (Nat → Int32)} {d : Nat} {w : qW} {Q : qW → Prop}  (h :
  qAt s d c_Cover_widen (qQv Q) 2 [some (.ref 70), some (.int (0 : Int32)), none] [] w) :
  qCall (some s) (d + 1) 168 [.ref 70] w (qQv Q) := qCall_of (cd := c_Cover_widen) (mL := 3) rfl u_Cover_widen [(2, [true, true, false]), (15, [true, true, true])] 4 h
set_option maxRecDepth 100000 in
theorem A_Cover_widen_2 {s : Nat × (Nat → Int32)} {d : Nat} {w : qW} {Q : qW → Prop} {i1 : Int32} (h :
  ((w.1 2 0) ≤ i1 →
    Q w) ∧
  (¬ (w.1 2 0) ≤ i1 →
    qAt s d c_Cover_widen (qQv Q) 15 [some (.ref 70), some (.int i1), some (.int (0 : Int32))] [] w)) :
  qAt s d c_Cover_widen (qQv Q) 2 [some (.ref 70), some (.int i1), none] [] w := qAt_of u_Cover_widen [(2, [true, true, false]), (15, [true, true, true])] 9 h
set_option maxRecDepth 100000 in
theorem A_Cover_widen_15 {s : Nat × (Nat → Int32)} {d : Nat} {w : qW} {Q : qW → Prop} {i1 : Int32} {i2 : Int32} (h :
  ((qShl (1 : Int32) (w.1 2 0)) ≤ i2 →
    qAt s d c_Cover_widen (qQv Q) 2 [some (.ref 70), some (.int (i1 + (1 : Int32))), none] [] w) ∧
  (¬ (qShl (1 : Int32) (w.1 2 0)) ≤ i2 →
    (((qUshr i2 i1) &&& (1 : Int32)) = 0 →
      qAt s d c_Cover_widen (qQv Q) 15 [some (.ref 70), some (.int i1), some (.int (i2 + (1 : Int32)))] [] w) ∧
    (¬ ((qUshr i2 i1) &&& (1 : Int32)) = 0 →
      qCall (some s) d 169 [.ref 70, .int (i2 &&& ((qShl (1 : Int32) i1) ^^^ (-1 : Int32)))] w (qQi fun x2 w1 =>
        (x2 = 0 →
          qAt s d c_Cover_widen (qQv Q) 15 [some (.ref 70), some (.int i1), some (.int (i2 + (1 : Int32)))] [] w1) ∧
        (¬ x2 = 0 →
          qCall (some s) d 167 [.ref 70, .int i2] w1 (qQv fun w3 =>
            qAt s d c_Cover_widen (qQv Q) 15 [some (.ref 70), some (.int i1), some (.int (i2 + (1 : Int32)))] [] w3)))))) :
  qAt s d c_Cover_widen (qQv Q) 15 [some (.ref 70), some (.int i1), some (.int i2)] [] w := qAt_of u_Cover_widen [(2, [true, true, false]), (15, [true, true, true])] 30 h

set_option maxRecDepth 100000 in
theorem A_Cover_has {s : Nat × (Nat → Int32)} {d : Nat} {w : qW} {Q : Int32 → qW → Prop} {i1 : Int32} (h :
  ¬ (64 : Int32) = 0 ∧ (qIn (i1 / (64 : Int32)) 64 ∧
  (¬ (64 : Int32) = 0 ∧ (((lg_cmp ((qLushr (w.2.1 71 (qIx (i1 / (64 : Int32)))) (qRem i1 (64 : Int32))) &&& (1 : Int64)) (0 : Int64)) = 0 →
    Q (0 : Int32) w) ∧
  (¬ (lg_cmp ((qLushr (w.2.1 71 (qIx (i1 / (64 : Int32)))) (qRem i1 (64 : Int32))) &&& (1 : Int64)) (0 : Int64)) = 0 →
    Q (1 : Int32) w))))) :
  qCall (some s) (d + 1) 169 [.ref 70, .int i1] w (qQi Q) := qCall_of (cd := c_Cover_has) (mL := 2) rfl u_Cover_has [] 19 h

set_option maxRecDepth 100000 in
theorem A_Cover_leastCover {s : Nat × (Nat → Int32)} {d : Nat} {w : qW} {Q : Int32 → qW → Prop}  (h :
  qAt s d c_Cover_leastCover (qQi Q) 20 [some (.ref 70), some (.int ((qShl (1 : Int32) (w.1 2 0)) - (1 : Int32))), some (.int (-1 : Int32)), some (.int (13 : Int32)), some (.int (1 : Int32))] [] w) :
  qCall (some s) (d + 1) 170 [.ref 70] w (qQi Q) := qCall_of (cd := c_Cover_leastCover) (mL := 5) rfl u_Cover_leastCover [(20, [true, true, true, true, true])] 16 h
set_option maxRecDepth 100000 in
theorem A_Cover_leastCover_20 {s : Nat × (Nat → Int32)} {d : Nat} {w : qW} {Q : Int32 → qW → Prop} {i1 : Int32} {i2 : Int32} {i3 : Int32} {i4 : Int32} (h :
  (i1 < i4 →
    Q i2 w) ∧
  (¬ i1 < i4 →
    qCall (some s) d 103 [.int i4] w (qQi fun x2 w1 =>
      (i3 ≤ x2 →
        qAt s d c_Cover_leastCover (qQi Q) 20 [some (.ref 70), some (.int i1), some (.int i2), some (.int i3), some (.int (i4 + (1 : Int32)))] [] w1) ∧
      (¬ i3 ≤ x2 →
        qCall (some s) d 169 [.ref 70, .int (i1 &&& (i4 ^^^ (-1 : Int32)))] w1 (qQi fun x4 w3 =>
          (¬ x4 = 0 →
            qAt s d c_Cover_leastCover (qQi Q) 20 [some (.ref 70), some (.int i1), some (.int i2), some (.int i3), some (.int (i4 + (1 : Int32)))] [] w3) ∧
          (x4 = 0 →
            qCall (some s) d 103 [.int i4] w3 (qQi fun x6 w5 =>
              qAt s d c_Cover_leastCover (qQi Q) 20 [some (.ref 70), some (.int i1), some (.int i4), some (.int x6), some (.int (i4 + (1 : Int32)))] [] w5))))))) :
  qAt s d c_Cover_leastCover (qQi Q) 20 [some (.ref 70), some (.int i1), some (.int i2), some (.int i3), some (.int i4)] [] w := qAt_of u_Cover_leastCover [(20, [true, true, true, true, true])] 24 h

set_option maxRecDepth 100000 in
theorem A_X_apart {s : Nat × (Nat → Int32)} {d : Nat} {w : qW} {Q : Int32 → qW → Prop} {i1 : Int32} {i2 : Int32} (h :
  qCall (some s) d 97 [.ref 2, .int i1] w (qQi fun x2 w1 =>
    (x2 = 0 →
      Q (-1 : Int32) w1) ∧
    (¬ x2 = 0 →
      (i2 < 0 →
        Q (-1 : Int32) w1) ∧
      (¬ i2 < 0 →
        qCall (some s) d 142 [.int i2, .int i1] w1 (qQi fun x4 w3 =>
          (x4 = 0 →
            Q (-1 : Int32) w3) ∧
          (¬ x4 = 0 →
            qCall (some s) d 172 [.ref 61, .int i1] w3 (qQi fun x6 w5 =>
              (¬ x6 = 0 →
                qCall (some s) d 173 [.ref 61, .int i1] w5 (qQi fun x8 w7 =>
                  (x8 = 0 →
                    Q (-1 : Int32) w7) ∧
                  (¬ x8 = 0 →
                    qCall (some s) d 177 [.ref 61, .int i2] w7 (qQi fun x10 w9 =>
                      Q x10 w9)))) ∧
              (x6 = 0 →
                Q (-1 : Int32) w5)))))))) :
  qCall (some s) (d + 1) 171 [.ref 1, .int i1, .int i2] w (qQi Q) := qCall_of (cd := c_X_apart) (mL := 3) rfl u_X_apart [] 28 h

set_option maxRecDepth 100000 in
theorem A_Searches_canPart {s : Nat × (Nat → Int32)} {d : Nat} {w : qW} {Q : Int32 → qW → Prop} {i1 : Int32} (h :
  qCall (some s) d 103 [.int i1] w (qQi fun x2 w1 =>
    (x2 ≤ (5 : Int32) →
      qAt s d c_Searches_canPart (qQi Q) 12 [some (.ref 61), some (.int i1), some (.int (0 : Int32))] [] w1) ∧
    (¬ x2 ≤ (5 : Int32) →
      Q (0 : Int32) w1))) :
  qCall (some s) (d + 1) 172 [.ref 61, .int i1] w (qQi Q) := qCall_of (cd := c_Searches_canPart) (mL := 3) rfl u_Searches_canPart [(12, [true, true, true])] 8 h
set_option maxRecDepth 100000 in
theorem A_Searches_canPart_12 {s : Nat × (Nat → Int32)} {d : Nat} {w : qW} {Q : Int32 → qW → Prop} {i1 : Int32} {i2 : Int32} (h :
  ((w.1 2 0) ≤ i2 →
    Q (1 : Int32) w) ∧
  (¬ (w.1 2 0) ≤ i2 →
    qCall (some s) d 104 [.int i2, .int i1] w (qQi fun x2 w1 =>
      (x2 = 0 →
        qAt s d c_Searches_canPart (qQi Q) 12 [some (.ref 61), some (.int i1), some (.int (i2 + (1 : Int32)))] [] w1) ∧
      (¬ x2 = 0 →
        qIn i2 12 ∧
        (((w1.1 3 (qIx i2)) ≤ (60 : Int32) →
          qAt s d c_Searches_canPart (qQi Q) 12 [some (.ref 61), some (.int i1), some (.int (i2 + (1 : Int32)))] [] w1) ∧
        (¬ (w1.1 3 (qIx i2)) ≤ (60 : Int32) →
          Q (0 : Int32) w1)))))) :
  qAt s d c_Searches_canPart (qQi Q) 12 [some (.ref 61), some (.int i1), some (.int i2)] [] w := qAt_of u_Searches_canPart [(12, [true, true, true])] 20 h

set_option maxRecDepth 100000 in
theorem A_Searches_part {s : Nat × (Nat → Int32)} {d : Nat} {w : qW} {Q : Int32 → qW → Prop} {i1 : Int32} (h :
  qAt s d c_Searches_part (qQi Q) 7 [some (.ref 61), some (.int i1), some (.int (0 : Int32))] [] (qPutI w 61 1 (0 : Int32))) :
  qCall (some s) (d + 1) 173 [.ref 61, .int i1] w (qQi Q) := qCall_of (cd := c_Searches_part) (mL := 3) rfl u_Searches_part [(7, [true, true, true]), (79, [true, false, false])] 7 h
set_option maxRecDepth 100000 in
theorem A_Searches_part_7 {s : Nat × (Nat → Int32)} {d : Nat} {w : qW} {Q : Int32 → qW → Prop} {i1 : Int32} {i2 : Int32} (h :
  ((w.1 2 0) ≤ i2 →
    qAt s d c_Searches_part (qQi Q) 79 [some (.ref 61), none, none] [] w) ∧
  (¬ (w.1 2 0) ≤ i2 →
    ((5 : Int32) ≤ (w.1 61 1) →
      qAt s d c_Searches_part (qQi Q) 79 [some (.ref 61), none, none] [] w) ∧
    (¬ (5 : Int32) ≤ (w.1 61 1) →
      qCall (some s) d 104 [.int i2, .int i1] w (qQi fun x2 w1 =>
        (x2 = 0 →
          qAt s d c_Searches_part (qQi Q) 7 [some (.ref 61), some (.int i1), some (.int (i2 + (1 : Int32)))] [] w1) ∧
        (¬ x2 = 0 →
          qIn (w1.1 61 1) 5 ∧
          (qCall (some s) d 174 [.ref 61, .int i2, .int i1] (qPutI w1 62 (qIx (w1.1 61 1)) i2) (qQi fun x4 w3 =>
            qIn (w1.1 61 1) 25 ∧
            (qAt s d c_Searches_part (qQi Q) 7 [some (.ref 61), some (.int i1), some (.int (i2 + (1 : Int32)))] [] (qPutI (qPutL w3 64 (qIx (w1.1 61 1)) ((qLshl (1 : Int64) x4) - (1 : Int64))) 61 1 ((w3.1 61 1) + (1 : Int32))))))))))) :
  qAt s d c_Searches_part (qQi Q) 7 [some (.ref 61), some (.int i1), some (.int i2)] [] w := qAt_of u_Searches_part [(7, [true, true, true]), (79, [true, false, false])] 42 h
set_option maxRecDepth 100000 in
theorem A_Searches_part_79 {s : Nat × (Nat → Int32)} {d : Nat} {w : qW} {Q : Int32 → qW → Prop}  (h :
  qIn (0 : Int32) 25 ∧
  (qCall (some s) d 329 [.ref 61] (qPutL w 64 (qIx (0 : Int32)) (1 : Int64)) (qQi fun x2 w1 =>
    (x2 = 0 →
      Q (0 : Int32) w1) ∧
    (¬ x2 = 0 →
      qCall (some s) d 175 [.ref 61, .int (0 : Int32)] w1 (qQi fun x4 w3 =>
        (x4 = 0 →
          Q (0 : Int32) w3) ∧
        (¬ x4 = 0 →
          Q (1 : Int32) w3)))))) :
  qAt s d c_Searches_part (qQi Q) 79 [some (.ref 61), none, none] [] w := qAt_of u_Searches_part [(7, [true, true, true]), (79, [true, false, false])] 16 h

set_option maxRecDepth 100000 in
theorem A_Searches_spanOf {s : Nat × (Nat → Int32)} {d : Nat} {w : qW} {Q : Int32 → qW → Prop} {i1 : Int32} {i2 : Int32} (h :
  qAt s d c_Searches_spanOf (qQi Q) 5 [some (.ref 61), some (.int i1), some (.int i2), some (.long (1 : Int64)), none, some (.int (0 : Int32))] [] w) :
  qCall (some s) (d + 1) 174 [.ref 61, .int i1, .int i2] w (qQi Q) := qCall_of (cd := c_Searches_spanOf) (mL := 6) rfl u_Searches_spanOf [(5, [true, true, true, true, false, true])] 6 h
set_option maxRecDepth 100000 in
theorem A_Searches_spanOf_5 {s : Nat × (Nat → Int32)} {d : Nat} {w : qW} {Q : Int32 → qW → Prop} {i1 : Int32} {i2 : Int32} {l3 : Int64} {i5 : Int32} (h :
  ((w.1 2 0) ≤ i5 →
    Q (Int64.toInt32 l3) w) ∧
  (¬ (w.1 2 0) ≤ i5 →
    (i5 = i1 →
      qAt s d c_Searches_spanOf (qQi Q) 5 [some (.ref 61), some (.int i1), some (.int i2), some (.long l3), none, some (.int (i5 + (1 : Int32)))] [] w) ∧
    (¬ i5 = i1 →
      qCall (some s) d 104 [.int i5, .int i2] w (qQi fun x2 w1 =>
        (x2 = 0 →
          qAt s d c_Searches_spanOf (qQi Q) 5 [some (.ref 61), some (.int i1), some (.int i2), some (.long l3), none, some (.int (i5 + (1 : Int32)))] [] w1) ∧
        (¬ x2 = 0 →
          qIn i1 12 ∧
          (qIn i5 12 ∧
          (qCall (some s) d 111 [.long (Int32.toInt64 (w1.1 3 (qIx i1))), .long (Int32.toInt64 (w1.1 3 (qIx i5)))] w1 (qQl fun y4 w3 =>
            qCall (some s) d 166 [.long l3, .long y4] w3 (qQl fun y6 w5 =>
              qAt s d c_Searches_spanOf (qQi Q) 5 [some (.ref 61), some (.int i1), some (.int i2), some (.long y6), none, some (.int (i5 + (1 : Int32)))] [] w5))))))))) :
  qAt s d c_Searches_spanOf (qQi Q) 5 [some (.ref 61), some (.int i1), some (.int i2), some (.long l3), none, some (.int i5)] [] w := qAt_of u_Searches_spanOf [(5, [true, true, true, true, false, true])] 32 h

set_option maxRecDepth 100000 in
theorem A_Searches_place {s : Nat × (Nat → Int32)} {d : Nat} {w : qW} {Q : Int32 → qW → Prop} {i1 : Int32} (h :
  ((w.1 61 1) ≤ i1 →
    Q (1 : Int32) w) ∧
  (¬ (w.1 61 1) ≤ i1 →
    (i1 < (5 : Int32) →
      qIn (((5 : Int32) * i1) + i1) 25 ∧
      (qAt s d c_Searches_place (qQi Q) 29 [some (.ref 61), some (.int i1), some (.long (w.2.1 64 (qIx (((5 : Int32) * i1) + i1)))), none, some (.int (0 : Int32))] [] w)) ∧
    (¬ i1 < (5 : Int32) →
      Q (1 : Int32) w))) :
  qCall (some s) (d + 1) 175 [.ref 61, .int i1] w (qQi Q) := qCall_of (cd := c_Searches_place) (mL := 5) rfl u_Searches_place [(29, [true, true, true, false, true])] 20 h
set_option maxRecDepth 100000 in
theorem A_Searches_place_29 {s : Nat × (Nat → Int32)} {d : Nat} {w : qW} {Q : Int32 → qW → Prop} {i1 : Int32} {l2 : Int64} {i4 : Int32} (h :
  ((60 : Int32) ≤ i4 →
    Q (0 : Int32) w) ∧
  (¬ (60 : Int32) ≤ i4 →
    ((lg_cmp ((qLushr l2 i4) &&& (1 : Int64)) (0 : Int64)) = 0 →
      qAt s d c_Searches_place (qQi Q) 29 [some (.ref 61), some (.int i1), some (.long l2), none, some (.int (i4 + (1 : Int32)))] [] w) ∧
    (¬ (lg_cmp ((qLushr l2 i4) &&& (1 : Int64)) (0 : Int64)) = 0 →
      qIn i1 5 ∧
      (qCall (some s) d 176 [.ref 61, .int i1] (qPutI w 63 (qIx i1) i4) (qQi fun x2 w1 =>
        (x2 = 0 →
          qAt s d c_Searches_place (qQi Q) 29 [some (.ref 61), some (.int i1), some (.long l2), none, some (.int (i4 + (1 : Int32)))] [] w1) ∧
        (¬ x2 = 0 →
          qCall (some s) d 175 [.ref 61, .int (i1 + (1 : Int32))] w1 (qQi fun x4 w3 =>
            (x4 = 0 →
              qAt s d c_Searches_place (qQi Q) 29 [some (.ref 61), some (.int i1), some (.long l2), none, some (.int (i4 + (1 : Int32)))] [] w3) ∧
            (¬ x4 = 0 →
              Q (1 : Int32) w3)))))))) :
  qAt s d c_Searches_place (qQi Q) 29 [some (.ref 61), some (.int i1), some (.long l2), none, some (.int i4)] [] w := qAt_of u_Searches_place [(29, [true, true, true, false, true])] 30 h

set_option maxRecDepth 100000 in
theorem A_Searches_leavesChoices {s : Nat × (Nat → Int32)} {d : Nat} {w : qW} {Q : Int32 → qW → Prop} {i1 : Int32} (h :
  qAt s d c_Searches_leavesChoices (qQi Q) 4 [some (.ref 61), some (.int i1), some (.int (i1 + (1 : Int32))), none, none, none, none] [] w) :
  qCall (some s) (d + 1) 176 [.ref 61, .int i1] w (qQi Q) := qCall_of (cd := c_Searches_leavesChoices) (mL := 7) rfl u_Searches_leavesChoices [(4, [true, true, true, false, false, false, false]), (74, [true, true, true, true, true, false, true])] 6 h
set_option maxRecDepth 100000 in
theorem A_Searches_leavesChoices_4 {s : Nat × (Nat → Int32)} {d : Nat} {w : qW} {Q : Int32 → qW → Prop} {i1 : Int32} {i2 : Int32} (h :
  ((w.1 61 1) ≤ i2 →
    Q (1 : Int32) w) ∧
  (¬ (w.1 61 1) ≤ i2 →
    ((5 : Int32) ≤ i2 →
      Q (1 : Int32) w) ∧
    (¬ (5 : Int32) ≤ i2 →
      qIn i1 5 ∧
      (qIn (w.1 62 (qIx i1)) 12 ∧
      (qIn i2 5 ∧
      (qIn (w.1 62 (qIx i2)) 12 ∧
      (qCall (some s) d 111 [.long (Int32.toInt64 (w.1 3 (qIx (w.1 62 (qIx i1))))), .long (Int32.toInt64 (w.1 3 (qIx (w.1 62 (qIx i2)))))] w (qQl fun y2 w1 =>
        qIn (((5 : Int32) * i1) + i2) 25 ∧
        (qIn i1 5 ∧
        (¬ (Int64.toInt32 y2) = 0 ∧ (qAt s d c_Searches_leavesChoices (qQi Q) 74 [some (.ref 61), some (.int i1), some (.int i2), some (.int (Int64.toInt32 y2)), some (.long (w1.2.1 64 (qIx (((5 : Int32) * i1) + i2)))), none, some (.int (qRem (w1.1 63 (qIx i1)) (Int64.toInt32 y2)))] [] w1))))))))))) :
  qAt s d c_Searches_leavesChoices (qQi Q) 4 [some (.ref 61), some (.int i1), some (.int i2), none, none, none, none] [] w := qAt_of u_Searches_leavesChoices [(4, [true, true, true, false, false, false, false]), (74, [true, true, true, true, true, false, true])] 46 h
set_option maxRecDepth 100000 in
theorem A_Searches_leavesChoices_74 {s : Nat × (Nat → Int32)} {d : Nat} {w : qW} {Q : Int32 → qW → Prop} {i1 : Int32} {i2 : Int32} {i3 : Int32} {l4 : Int64} {i6 : Int32} (h :
  ((60 : Int32) ≤ i6 →
    (¬ (lg_cmp l4 (0 : Int64)) = 0 →
      qIn (((5 : Int32) * (i1 + (1 : Int32))) + i2) 25 ∧
      (qAt s d c_Searches_leavesChoices (qQi Q) 4 [some (.ref 61), some (.int i1), some (.int (i2 + (1 : Int32))), none, none, none, none] [] (qPutL w 64 (qIx (((5 : Int32) * (i1 + (1 : Int32))) + i2)) l4))) ∧
    ((lg_cmp l4 (0 : Int64)) = 0 →
      Q (0 : Int32) w)) ∧
  (¬ (60 : Int32) ≤ i6 →
    qCall (some s) d 21 [.int (1 : Int32), .int i3] w (qQi fun x2 w1 =>
      qAt s d c_Searches_leavesChoices (qQi Q) 74 [some (.ref 61), some (.int i1), some (.int i2), some (.int i3), some (.long (l4 &&& ((qLshl (1 : Int64) i6) ^^^ (-1 : Int64)))), none, some (.int (i6 + x2))] [] w1))) :
  qAt s d c_Searches_leavesChoices (qQi Q) 74 [some (.ref 61), some (.int i1), some (.int i2), some (.int i3), some (.long l4), none, some (.int i6)] [] w := qAt_of u_Searches_leavesChoices [(4, [true, true, true, false, false, false, false]), (74, [true, true, true, true, true, false, true])] 22 h

set_option maxRecDepth 100000 in
theorem A_Searches_firstOf {s : Nat × (Nat → Int32)} {d : Nat} {w : qW} {Q : Int32 → qW → Prop} {i1 : Int32} (h :
  qAt s d c_Searches_firstOf (qQi Q) 2 [some (.ref 61), some (.int i1), some (.int (0 : Int32))] [] w) :
  qCall (some s) (d + 1) 177 [.ref 61, .int i1] w (qQi Q) := qCall_of (cd := c_Searches_firstOf) (mL := 3) rfl u_Searches_firstOf [(2, [true, true, true])] 4 h
set_option maxRecDepth 100000 in
theorem A_Searches_firstOf_2 {s : Nat × (Nat → Int32)} {d : Nat} {w : qW} {Q : Int32 → qW → Prop} {i1 : Int32} {i2 : Int32} (h :
  ((w.1 61 1) ≤ i2 →
    Q (-1 : Int32) w) ∧
  (¬ (w.1 61 1) ≤ i2 →
    ((5 : Int32) ≤ i2 →
      Q (-1 : Int32) w) ∧
    (¬ (5 : Int32) ≤ i2 →
      qIn i2 5 ∧
      ((¬ (w.1 62 (qIx i2)) = i1 →
        qAt s d c_Searches_firstOf (qQi Q) 2 [some (.ref 61), some (.int i1), some (.int (i2 + (1 : Int32)))] [] w) ∧
      ((w.1 62 (qIx i2)) = i1 →
        qIn i2 5 ∧
        (Q (w.1 63 (qIx i2)) w)))))) :
  qAt s d c_Searches_firstOf (qQi Q) 2 [some (.ref 61), some (.int i1), some (.int i2)] [] w := qAt_of u_Searches_firstOf [(2, [true, true, true])] 19 h

set_option maxRecDepth 100000 in
theorem A_X_heard {s : Nat × (Nat → Int32)} {d : Nat} {w : qW} {Q : Int32 → qW → Prop} {i1 : Int32} {i2 : Int32} (h :
  (i1 < 0 →
    Q (-1 : Int32) w) ∧
  (¬ i1 < 0 →
    ((999999 : Int32) < i1 →
      Q (-1 : Int32) w) ∧
    (¬ (999999 : Int32) < i1 →
      ((w.1 2 17) < 0 →
        Q (-1 : Int32) w) ∧
      (¬ (w.1 2 17) < 0 →
        ((w.1 2 17) < (20 : Int32) →
          qCall (some s) d 179 [.ref 2, .int i1, .int i2] w (qQv fun w1 =>
            Q (w1.1 2 17) w1)) ∧
        (¬ (w.1 2 17) < (20 : Int32) →
          Q (-1 : Int32) w))))) :
  qCall (some s) (d + 1) 178 [.ref 1, .int i1, .int i2] w (qQi Q) := qCall_of (cd := c_X_heard) (mL := 3) rfl u_X_heard [] 24 h

set_option maxRecDepth 100000 in
theorem A_State_addHeard {s : Nat × (Nat → Int32)} {d : Nat} {w : qW} {Q : qW → Prop} {i1 : Int32} {i2 : Int32} (h :
  qIn (w.1 2 17) 20 ∧
  ((i2 = 0 →
    Q (qPutI (qPutI w 12 (qIx (w.1 2 17)) i1) 2 17 ((w.1 2 17) + (1 : Int32)))) ∧
  (¬ i2 = 0 →
    Q (qPutI (qPutI (qPutI w 12 (qIx (w.1 2 17)) i1) 2 19 ((w.1 2 19) ||| (qShl (1 : Int32) (w.1 2 17)))) 2 17 ((w.1 2 17) + (1 : Int32)))))) :
  qCall (some s) (d + 1) 179 [.ref 2, .int i1, .int i2] w (qQv Q) := qCall_of (cd := c_State_addHeard) (mL := 3) rfl u_State_addHeard [] 25 h

set_option maxRecDepth 100000 in
theorem A_X_fits {s : Nat × (Nat → Int32)} {d : Nat} {w : qW} {Q : Int32 → qW → Prop} {i1 : Int32} {i2 : Int32} (h :
  (i1 < (1 : Int32) →
    Q (-1 : Int32) w) ∧
  (¬ i1 < (1 : Int32) →
    ((60 : Int32) < i1 →
      Q (-1 : Int32) w) ∧
    (¬ (60 : Int32) < i1 →
      ((-1 : Int32) ≤ i2 →
        qAt s d c_X_fits (qQi Q) 23 [some (.ref 1), some (.int i1), some (.int i2), some (.int (0 : Int32)), some (.int (1 : Int32)), none] [] w) ∧
      (¬ (-1 : Int32) ≤ i2 →
        Q (-1 : Int32) w)))) :
  qCall (some s) (d + 1) 180 [.ref 1, .int i1, .int i2] w (qQi Q) := qCall_of (cd := c_X_fits) (mL := 6) rfl u_X_fits [(23, [true, true, true, true, true, false]), (32, [true, true, true, true, true, true])] 15 h
set_option maxRecDepth 100000 in
theorem A_X_fits_23 {s : Nat × (Nat → Int32)} {d : Nat} {w : qW} {Q : Int32 → qW → Prop} {i1 : Int32} {i2 : Int32} {i3 : Int32} {i4 : Int32} (h :
  (i1 < i4 →
    (¬ i2 = (-1 : Int32) →
      Q (-1 : Int32) w) ∧
    (i2 = (-1 : Int32) →
      Q i3 w)) ∧
  (¬ i1 < i4 →
    qAt s d c_X_fits (qQi Q) 32 [some (.ref 1), some (.int i1), some (.int i2), some (.int i3), some (.int i4), some (.int (0 : Int32))] [] w)) :
  qAt s d c_X_fits (qQi Q) 23 [some (.ref 1), some (.int i1), some (.int i2), some (.int i3), some (.int i4), none] [] w := qAt_of u_X_fits [(23, [true, true, true, true, true, false]), (32, [true, true, true, true, true, true])] 10 h
set_option maxRecDepth 100000 in
theorem A_X_fits_32 {s : Nat × (Nat → Int32)} {d : Nat} {w : qW} {Q : Int32 → qW → Prop} {i1 : Int32} {i2 : Int32} {i3 : Int32} {i4 : Int32} {i5 : Int32} (h :
  (i4 ≤ i5 →
    qAt s d c_X_fits (qQi Q) 23 [some (.ref 1), some (.int i1), some (.int i2), some (.int i3), some (.int (i4 + (1 : Int32))), none] [] w) ∧
  (¬ i4 ≤ i5 →
    qCall (some s) d 181 [.ref 61, .int i4, .int i5] w (qQi fun x2 w1 =>
      (x2 = 0 →
        qAt s d c_X_fits (qQi Q) 32 [some (.ref 1), some (.int i1), some (.int i2), some (.int i3), some (.int i4), some (.int (i5 + (1 : Int32)))] [] w1) ∧
      (¬ x2 = 0 →
        (¬ i3 = i2 →
          qAt s d c_X_fits (qQi Q) 32 [some (.ref 1), some (.int i1), some (.int i2), some (.int (i3 + (1 : Int32))), some (.int i4), some (.int (i5 + (1 : Int32)))] [] w1) ∧
        (i3 = i2 →
          Q (((100 : Int32) * i4) + i5) w1))))) :
  qAt s d c_X_fits (qQi Q) 32 [some (.ref 1), some (.int i1), some (.int i2), some (.int i3), some (.int i4), some (.int i5)] [] w := qAt_of u_X_fits [(23, [true, true, true, true, true, false]), (32, [true, true, true, true, true, true])] 19 h

set_option maxRecDepth 100000 in
theorem A_Searches_isFitting {s : Nat × (Nat → Int32)} {d : Nat} {w : qW} {Q : Int32 → qW → Prop} {i1 : Int32} {i2 : Int32} (h :
  qAt s d c_Searches_isFitting (qQi Q) 2 [some (.ref 61), some (.int i1), some (.int i2), some (.int (0 : Int32)), none, none] [] w) :
  qCall (some s) (d + 1) 181 [.ref 61, .int i1, .int i2] w (qQi Q) := qCall_of (cd := c_Searches_isFitting) (mL := 6) rfl u_Searches_isFitting [(2, [true, true, true, true, false, false]), (42, [true, true, true, true, false, false])] 4 h
set_option maxRecDepth 100000 in
theorem A_Searches_isFitting_2 {s : Nat × (Nat → Int32)} {d : Nat} {w : qW} {Q : Int32 → qW → Prop} {i1 : Int32} {i2 : Int32} {i3 : Int32} (h :
  ((w.1 2 17) ≤ i3 →
    Q (1 : Int32) w) ∧
  (¬ (w.1 2 17) ≤ i3 →
    qIn i3 20 ∧
    ((((w.1 12 (qIx i3)) - i2) < 0 →
      qAt s d c_Searches_isFitting (qQi Q) 42 [some (.ref 61), some (.int i1), some (.int i2), some (.int i3), none, none] [] w) ∧
    (¬ ((w.1 12 (qIx i3)) - i2) < 0 →
      ¬ i1 = 0 ∧ ((¬ (qRem ((w.1 12 (qIx i3)) - i2) i1) = 0 →
        qAt s d c_Searches_isFitting (qQi Q) 42 [some (.ref 61), some (.int i1), some (.int i2), some (.int i3), none, none] [] w) ∧
      ((qRem ((w.1 12 (qIx i3)) - i2) i1) = 0 →
        qCall (some s) d 182 [.ref 2, .int i3] w (qQi fun x2 w1 =>
          ((1 : Int32) = x2 →
            qAt s d c_Searches_isFitting (qQi Q) 2 [some (.ref 61), some (.int i1), some (.int i2), some (.int (i3 + (1 : Int32))), none, none] [] w1) ∧
          (¬ (1 : Int32) = x2 →
            Q (0 : Int32) w1)))))))) :
  qAt s d c_Searches_isFitting (qQi Q) 2 [some (.ref 61), some (.int i1), some (.int i2), some (.int i3), none, none] [] w := qAt_of u_Searches_isFitting [(2, [true, true, true, true, false, false]), (42, [true, true, true, true, false, false])] 32 h
set_option maxRecDepth 100000 in
theorem A_Searches_isFitting_42 {s : Nat × (Nat → Int32)} {d : Nat} {w : qW} {Q : Int32 → qW → Prop} {i1 : Int32} {i2 : Int32} {i3 : Int32} (h :
  qCall (some s) d 182 [.ref 2, .int i3] w (qQi fun x2 w1 =>
    ((0 : Int32) = x2 →
      qAt s d c_Searches_isFitting (qQi Q) 2 [some (.ref 61), some (.int i1), some (.int i2), some (.int (i3 + (1 : Int32))), none, none] [] w1) ∧
    (¬ (0 : Int32) = x2 →
      Q (0 : Int32) w1))) :
  qAt s d c_Searches_isFitting (qQi Q) 42 [some (.ref 61), some (.int i1), some (.int i2), some (.int i3), none, none] [] w := qAt_of u_Searches_isFitting [(2, [true, true, true, true, false, false]), (42, [true, true, true, true, false, false])] 12 h

set_option maxRecDepth 100000 in
theorem A_State_wasHeard {s : Nat × (Nat → Int32)} {d : Nat} {w : qW} {Q : Int32 → qW → Prop} {i1 : Int32} (h :
  (((qUshr (w.1 2 19) i1) &&& (1 : Int32)) = 0 →
    Q (0 : Int32) w) ∧
  (¬ ((qUshr (w.1 2 19) i1) &&& (1 : Int32)) = 0 →
    Q (1 : Int32) w)) :
  qCall (some s) (d + 1) 182 [.ref 2, .int i1] w (qQi Q) := qCall_of (cd := c_State_wasHeard) (mL := 2) rfl u_State_wasHeard [] 11 h

set_option maxRecDepth 100000 in
theorem A_X_who {s : Nat × (Nat → Int32)} {d : Nat} {w : qW} {Q : Int32 → qW → Prop}  (h :
  qAt s d c_X_who (qQi Q) 14 [some (.ref 1), some (.int ((qShl (1 : Int32) (w.1 2 0)) - (1 : Int32))), some (.int (0 : Int32)), none] [] w) :
  qCall (some s) (d + 1) 183 [.ref 1] w (qQi Q) := qCall_of (cd := c_X_who) (mL := 4) rfl u_X_who [(14, [true, true, true, false])] 12 h
set_option maxRecDepth 100000 in
theorem A_X_who_14 {s : Nat × (Nat → Int32)} {d : Nat} {w : qW} {Q : Int32 → qW → Prop} {i1 : Int32} {i2 : Int32} (h :
  ((w.1 2 17) ≤ i2 →
    Q i1 w) ∧
  (¬ (w.1 2 17) ≤ i2 →
    qIn i2 20 ∧
    (qCall (some s) d 139 [.ref 50, .int i1, .long (Int32.toInt64 (w.1 12 (qIx i2)))] w (qQi fun x2 w1 =>
      qCall (some s) d 182 [.ref 2, .int i2] w1 (qQi fun x4 w3 =>
        (x4 = 0 →
          qAt s d c_X_who (qQi Q) 14 [some (.ref 1), some (.int (i1 &&& (x2 ^^^ (-1 : Int32)))), some (.int (i2 + (1 : Int32))), none] [] w3) ∧
        (¬ x4 = 0 →
          qAt s d c_X_who (qQi Q) 14 [some (.ref 1), some (.int x2), some (.int (i2 + (1 : Int32))), none] [] w3)))))) :
  qAt s d c_X_who (qQi Q) 14 [some (.ref 1), some (.int i1), some (.int i2), none] [] w := qAt_of u_X_who [(14, [true, true, true, false])] 31 h

set_option maxRecDepth 100000 in
theorem A_X_bits {s : Nat × (Nat → Int32)} {d : Nat} {w : qW} {Q : Int64 → qW → Prop} {i1 : Int32} {l2 : Int64} (h :
  qCall (some s) d 27 [.ref 2, .int i1] w (qQi fun x2 w1 =>
    (x2 = 0 →
      Q (-1 : Int64) w1) ∧
    (¬ x2 = 0 →
      qCall (some s) d 136 [.long l2] w1 (qQi fun x4 w3 =>
        (¬ x4 = 0 →
          qCall (some s) d 128 [.ref 50, .long l2, .int (60 : Int32)] w3 (qQv fun w5 =>
            qAt s d c_X_bits (qQl Q) 38 [some (.ref 1), some (.int i1), none, none, some (.long (0 : Int64)), none, some (.int (0 : Int32))] [] w5)) ∧
        (x4 = 0 →
          Q (-1 : Int64) w3))))) :
  qCall (some s) (d + 1) 184 [.ref 1, .int i1, .long l2] w (qQl Q) := qCall_of (cd := c_X_bits) (mL := 7) rfl u_X_bits [(38, [true, true, false, false, true, false, true])] 19 h
set_option maxRecDepth 100000 in
theorem A_X_bits_38 {s : Nat × (Nat → Int32)} {d : Nat} {w : qW} {Q : Int64 → qW → Prop} {i1 : Int32} {l4 : Int64} {i6 : Int32} (h :
  ((60 : Int32) ≤ i6 →
    Q l4 w) ∧
  (¬ (60 : Int32) ≤ i6 →
    qCall (some s) d 132 [.ref 50] w (qQi fun x2 w1 =>
      qAt s d c_X_bits (qQl Q) 38 [some (.ref 1), some (.int i1), none, none, some (.long (l4 ||| (qLshl (Int32.toInt64 ((qUshr x2 i1) &&& (1 : Int32))) i6))), none, some (.int (i6 + (1 : Int32)))] [] w1))) :
  qAt s d c_X_bits (qQl Q) 38 [some (.ref 1), some (.int i1), none, none, some (.long l4), none, some (.int i6)] [] w := qAt_of u_X_bits [(38, [true, true, false, false, true, false, true])] 20 h

set_option maxRecDepth 100000 in
theorem A_X_other {s : Nat × (Nat → Int32)} {d : Nat} {w : qW} {Q : Int32 → qW → Prop} {i1 : Int32} {i2 : Int32} {i3 : Int32} {i4 : Int32} (h :
  (i4 = 0 →
    qAt s d c_X_other (qQi Q) 16 [some (.ref 1), some (.int i1), some (.int i2), some (.int i3), some (.int i4), none] [.int (1 : Int32)] w) ∧
  (¬ i4 = 0 →
    (¬ i4 = (1 : Int32) →
      qAt s d c_X_other (qQi Q) 16 [some (.ref 1), some (.int i1), some (.int i2), some (.int i3), some (.int i4), none] [.int (0 : Int32)] w) ∧
    (i4 = (1 : Int32) →
      qAt s d c_X_other (qQi Q) 16 [some (.ref 1), some (.int i1), some (.int i2), some (.int i3), some (.int i4), none] [.int (1 : Int32)] w))) :
  qCall (some s) (d + 1) 185 [.ref 1, .int i1, .int i2, .int i3, .int i4] w (qQi Q) := qCall_of (cd := c_X_other) (mL := 6) rfl u_X_other [(16, [true, true, true, true, true, false])] 9 h
set_option maxRecDepth 100000 in
theorem A_X_other_16 {s : Nat × (Nat → Int32)} {d : Nat} {w : qW} {Q : Int32 → qW → Prop} {i1 : Int32} {i2 : Int32} {i3 : Int32} {i4 : Int32} {is0 : Int32} (h :
  qCall (some s) d 27 [.ref 2, .int i1] w (qQi fun x2 w1 =>
    (x2 = 0 →
      Q (-1 : Int32) w1) ∧
    (¬ x2 = 0 →
      qCall (some s) d 29 [.int i2] w1 (qQi fun x4 w3 =>
        (x4 = 0 →
          Q (-1 : Int32) w3) ∧
        (¬ x4 = 0 →
          (i3 < (1 : Int32) →
            Q (-1 : Int32) w3) ∧
          (¬ i3 < (1 : Int32) →
            ((100000 : Int32) < i3 →
              Q (-1 : Int32) w3) ∧
            (¬ (100000 : Int32) < i3 →
              (¬ is0 = 0 →
                (¬ i4 = 0 →
                  qCall (some s) d 186 [.ref 50, .int i1, .int (w3.1 2 4), .int i2, .int i3] w3 (qQi fun x6 w5 =>
                    Q x6 w5)) ∧
                (i4 = 0 →
                  qCall (some s) d 186 [.ref 50, .int i1, .int i2, .int (w3.1 2 4), .int i3] w3 (qQi fun x8 w7 =>
                    Q x8 w7))) ∧
              (is0 = 0 →
                Q (-1 : Int32) w3)))))))) :
  qAt s d c_X_other (qQi Q) 16 [some (.ref 1), some (.int i1), some (.int i2), some (.int i3), some (.int i4), none] [.int is0] w := qAt_of u_X_other [(16, [true, true, true, true, true, false])] 31 h

set_option maxRecDepth 100000 in
theorem A_Voices_countAlone {s : Nat × (Nat → Int32)} {d : Nat} {w : qW} {Q : Int32 → qW → Prop} {i1 : Int32} {i2 : Int32} {i3 : Int32} {i4 : Int32} (h :
  qAt s d c_Voices_countAlone (qQi Q) 6 [some (.ref 50), some (.int i1), some (.int i2), some (.int i3), some (.int i4), some (.int (0 : Int32)), some (.int (0 : Int32))] [] w) :
  qCall (some s) (d + 1) 186 [.ref 50, .int i1, .int i2, .int i3, .int i4] w (qQi Q) := qCall_of (cd := c_Voices_countAlone) (mL := 7) rfl u_Voices_countAlone [(6, [true, true, true, true, true, true, true])] 6 h
set_option maxRecDepth 100000 in
theorem A_Voices_countAlone_6 {s : Nat × (Nat → Int32)} {d : Nat} {w : qW} {Q : Int32 → qW → Prop} {i1 : Int32} {i2 : Int32} {i3 : Int32} {i4 : Int32} {i5 : Int32} {i6 : Int32} (h :
  (i4 ≤ i6 →
    Q i5 w) ∧
  (¬ i4 ≤ i6 →
    qCall (some s) d 94 [.ref 50, .int i1, .long (Int32.toInt64 i6), .int i2] w (qQi fun x2 w1 =>
      (x2 = 0 →
        qAt s d c_Voices_countAlone (qQi Q) 6 [some (.ref 50), some (.int i1), some (.int i2), some (.int i3), some (.int i4), some (.int i5), some (.int (i6 + (1 : Int32)))] [] w1) ∧
      (¬ x2 = 0 →
        qCall (some s) d 94 [.ref 50, .int i1, .long (Int32.toInt64 i6), .int i3] w1 (qQi fun x4 w3 =>
          (¬ x4 = 0 →
            qAt s d c_Voices_countAlone (qQi Q) 6 [some (.ref 50), some (.int i1), some (.int i2), some (.int i3), some (.int i4), some (.int i5), some (.int (i6 + (1 : Int32)))] [] w3) ∧
          (x4 = 0 →
            qCall (some s) d 95 [.ref 50, .int i1, .long (Int32.toInt64 i6)] w3 (qQi fun x6 w5 =>
              (x6 = 0 →
                qAt s d c_Voices_countAlone (qQi Q) 6 [some (.ref 50), some (.int i1), some (.int i2), some (.int i3), some (.int i4), some (.int i5), some (.int (i6 + (1 : Int32)))] [] w5) ∧
              (¬ x6 = 0 →
                qAt s d c_Voices_countAlone (qQi Q) 6 [some (.ref 50), some (.int i1), some (.int i2), some (.int i3), some (.int i4), some (.int (i5 + (1 : Int32))), some (.int (i6 + (1 : Int32)))] [] w5)))))))) :
  qAt s d c_Voices_countAlone (qQi Q) 6 [some (.ref 50), some (.int i1), some (.int i2), some (.int i3), some (.int i4), some (.int i5), some (.int i6)] [] w := qAt_of u_Voices_countAlone [(6, [true, true, true, true, true, true, true])] 28 h

set_option maxRecDepth 100000 in
theorem A_X_hush {s : Nat × (Nat → Int32)} {d : Nat} {w : qW} {Q : Int64 → qW → Prop} {l1 : Int64} {i3 : Int32} {i4 : Int32} (h :
  ((100000 : Int32) < i3 →
    Q (-1 : Int64) w) ∧
  (¬ (100000 : Int32) < i3 →
    qCall (some s) d 120 [.long l1, .long (Int32.toInt64 i3)] w (qQi fun x2 w1 =>
      (x2 = 0 →
        Q (-1 : Int64) w1) ∧
      (¬ x2 = 0 →
        (i4 < 0 →
          Q (-1 : Int64) w1) ∧
        (¬ i4 < 0 →
          (i4 ≤ (3 : Int32) →
            ((2 : Int32) ≤ i4 →
              qCall (some s) d 189 [.ref 1, .long l1, .int i3, .int i4] w1 (qQl fun y4 w3 =>
                Q y4 w3)) ∧
            (¬ (2 : Int32) ≤ i4 →
              qCall (some s) d 188 [.ref 1, .long l1, .int i3, .int i4] w1 (qQl fun y6 w5 =>
                Q y6 w5))) ∧
          (¬ i4 ≤ (3 : Int32) →
            Q (-1 : Int64) w1)))))) :
  qCall (some s) (d + 1) 187 [.ref 1, .long l1, .int i3, .int i4] w (qQl Q) := qCall_of (cd := c_X_hush) (mL := 5) rfl u_X_hush [] 24 h

set_option maxRecDepth 100000 in
theorem A_X_silence {s : Nat × (Nat → Int32)} {d : Nat} {w : qW} {Q : Int64 → qW → Prop} {l1 : Int64} {i3 : Int32} {i4 : Int32} (h :
  qCall (some s) d 128 [.ref 50, .long l1, .int i3] w (qQv fun w1 =>
    qAt s d c_X_silence (qQl Q) 23 [some (.ref 1), some (.long l1), none, some (.int i3), some (.int i4), some (.int (0 : Int32)), some (.long (-1 : Int64)), none, some (.int (0 : Int32)), some (.int (0 : Int32))] [] w1)) :
  qCall (some s) (d + 1) 188 [.ref 1, .long l1, .int i3, .int i4] w (qQl Q) := qCall_of (cd := c_X_silence) (mL := 10) rfl u_X_silence [(23, [true, true, false, true, true, true, true, false, true, true]), (47, [true, true, false, true, true, true, true, false, false, true])] 15 h
set_option maxRecDepth 100000 in
theorem A_X_silence_23 {s : Nat × (Nat → Int32)} {d : Nat} {w : qW} {Q : Int64 → qW → Prop} {l1 : Int64} {i3 : Int32} {i4 : Int32} {i5 : Int32} {l6 : Int64} {i8 : Int32} {i9 : Int32} (h :
  (i3 ≤ i9 →
    (¬ i4 = 0 →
      Q l6 w) ∧
    (i4 = 0 →
      Q (Int32.toInt64 i5) w)) ∧
  (¬ i3 ≤ i9 →
    qCall (some s) d 132 [.ref 50] w (qQi fun x2 w1 =>
      (¬ x2 = 0 →
        qAt s d c_X_silence (qQl Q) 47 [some (.ref 1), some (.long l1), none, some (.int i3), some (.int i4), some (.int i5), some (.long l6), none, none, some (.int i9)] [.int (0 : Int32)] w1) ∧
      (x2 = 0 →
        qAt s d c_X_silence (qQl Q) 47 [some (.ref 1), some (.long l1), none, some (.int i3), some (.int i4), some (.int i5), some (.long l6), none, none, some (.int i9)] [.int (i8 + (1 : Int32))] w1)))) :
  qAt s d c_X_silence (qQl Q) 23 [some (.ref 1), some (.long l1), none, some (.int i3), some (.int i4), some (.int i5), some (.long l6), none, some (.int i8), some (.int i9)] [] w := qAt_of u_X_silence [(23, [true, true, false, true, true, true, true, false, true, true]), (47, [true, true, false, true, true, true, true, false, false, true])] 13 h
set_option maxRecDepth 100000 in
theorem A_X_silence_47 {s : Nat × (Nat → Int32)} {d : Nat} {w : qW} {Q : Int64 → qW → Prop} {l1 : Int64} {i3 : Int32} {i4 : Int32} {i5 : Int32} {l6 : Int64} {i9 : Int32} {is0 : Int32} (h :
  (is0 ≤ i5 →
    qAt s d c_X_silence (qQl Q) 23 [some (.ref 1), some (.long l1), none, some (.int i3), some (.int i4), some (.int i5), some (.long l6), none, some (.int is0), some (.int (i9 + (1 : Int32)))] [] w) ∧
  (¬ is0 ≤ i5 →
    qAt s d c_X_silence (qQl Q) 23 [some (.ref 1), some (.long l1), none, some (.int i3), some (.int i4), some (.int is0), some (.long (((l1 + (Int32.toInt64 i9)) - (Int32.toInt64 is0)) + (1 : Int64))), none, some (.int is0), some (.int (i9 + (1 : Int32)))] [] w)) :
  qAt s d c_X_silence (qQl Q) 47 [some (.ref 1), some (.long l1), none, some (.int i3), some (.int i4), some (.int i5), some (.long l6), none, none, some (.int i9)] [.int is0] w := qAt_of u_X_silence [(23, [true, true, false, true, true, true, true, false, true, true]), (47, [true, true, false, true, true, true, true, false, false, true])] 20 h

set_option maxRecDepth 100000 in
theorem A_X_crowd {s : Nat × (Nat → Int32)} {d : Nat} {w : qW} {Q : Int64 → qW → Prop} {l1 : Int64} {i3 : Int32} {i4 : Int32} (h :
  qCall (some s) d 128 [.ref 50, .long l1, .int i3] w (qQv fun w1 =>
    qAt s d c_X_crowd (qQl Q) 20 [some (.ref 1), some (.long l1), none, some (.int i3), some (.int i4), some (.int (-1 : Int32)), some (.long (-1 : Int64)), none, some (.int (0 : Int32)), none] [] w1)) :
  qCall (some s) (d + 1) 189 [.ref 1, .long l1, .int i3, .int i4] w (qQl Q) := qCall_of (cd := c_X_crowd) (mL := 10) rfl u_X_crowd [(20, [true, true, false, true, true, true, true, false, true, false])] 13 h
set_option maxRecDepth 100000 in
theorem A_X_crowd_20 {s : Nat × (Nat → Int32)} {d : Nat} {w : qW} {Q : Int64 → qW → Prop} {l1 : Int64} {i3 : Int32} {i4 : Int32} {i5 : Int32} {l6 : Int64} {i8 : Int32} (h :
  (i3 ≤ i8 →
    (¬ i4 = (2 : Int32) →
      Q (Int32.toInt64 i5) w) ∧
    (i4 = (2 : Int32) →
      Q l6 w)) ∧
  (¬ i3 ≤ i8 →
    qCall (some s) d 132 [.ref 50] w (qQi fun x2 w1 =>
      qCall (some s) d 103 [.int x2] w1 (qQi fun x4 w3 =>
        (x4 ≤ i5 →
          qAt s d c_X_crowd (qQl Q) 20 [some (.ref 1), some (.long l1), none, some (.int i3), some (.int i4), some (.int i5), some (.long l6), none, some (.int (i8 + (1 : Int32))), none] [] w3) ∧
        (¬ x4 ≤ i5 →
          qAt s d c_X_crowd (qQl Q) 20 [some (.ref 1), some (.long l1), none, some (.int i3), some (.int i4), some (.int x4), some (.long (l1 + (Int32.toInt64 i8))), none, some (.int (i8 + (1 : Int32))), none] [] w3))))) :
  qAt s d c_X_crowd (qQl Q) 20 [some (.ref 1), some (.long l1), none, some (.int i3), some (.int i4), some (.int i5), some (.long l6), none, some (.int i8), none] [] w := qAt_of u_X_crowd [(20, [true, true, false, true, true, true, true, false, true, false])] 22 h

set_option maxRecDepth 100000 in
theorem A_X_child {s : Nat × (Nat → Int32)} {d : Nat} {w : qW} {Q : Int32 → qW → Prop} {i1 : Int32} {i2 : Int32} {i3 : Int32} {i4 : Int32} (h :
  qCall (some s) d 34 [.ref 2, .int i1, .int i2] w (qQi fun x2 w1 =>
    (x2 = 0 →
      Q (-1 : Int32) w1) ∧
    (¬ x2 = 0 →
      (i4 < (1 : Int32) →
        Q (-1 : Int32) w1) ∧
      (¬ i4 < (1 : Int32) →
        (i4 ≤ (999 : Int32) →
          (i3 = 0 →
            qAt s d c_X_child (qQi Q) 52 [some (.ref 1), none, none, some (.int i3), some (.int i4), some (.int ((qShl (1 : Int32) i1) ||| (qShl (1 : Int32) i2)))] [] w1) ∧
          (¬ i3 = 0 →
            qCall (some s) d 97 [.ref 2, .int i3] w1 (qQi fun x4 w3 =>
              (x4 = 0 →
                Q (-1 : Int32) w3) ∧
              (¬ x4 = 0 →
                qAt s d c_X_child (qQi Q) 52 [some (.ref 1), none, none, some (.int i3), some (.int i4), some (.int ((qShl (1 : Int32) i1) ||| (qShl (1 : Int32) i2)))] [] w3)))) ∧
        (¬ i4 ≤ (999 : Int32) →
          Q (-1 : Int32) w1))))) :
  qCall (some s) (d + 1) 190 [.ref 1, .int i1, .int i2, .int i3, .int i4] w (qQi Q) := qCall_of (cd := c_X_child) (mL := 6) rfl u_X_child [(52, [true, false, false, true, true, true])] 30 h
set_option maxRecDepth 100000 in
theorem A_X_child_52 {s : Nat × (Nat → Int32)} {d : Nat} {w : qW} {Q : Int32 → qW → Prop} {i3 : Int32} {i4 : Int32} {i5 : Int32} (h :
  ((i3 &&& i5) = 0 →
    qCall (some s) d 191 [.ref 61, .int i5, .int i3, .int i4] w (qQi fun x2 w1 =>
      Q x2 w1)) ∧
  (¬ (i3 &&& i5) = 0 →
    Q (-1 : Int32) w)) :
  qAt s d c_X_child (qQi Q) 52 [some (.ref 1), none, none, some (.int i3), some (.int i4), some (.int i5)] [] w := qAt_of u_X_child [(52, [true, false, false, true, true, true])] 12 h

set_option maxRecDepth 100000 in
theorem A_Searches_leastChild {s : Nat × (Nat → Int32)} {d : Nat} {w : qW} {Q : Int32 → qW → Prop} {i1 : Int32} {i2 : Int32} {i3 : Int32} (h :
  qAt s d c_Searches_leastChild (qQi Q) 3 [some (.ref 61), some (.int i1), some (.int i2), some (.int i3), some (.int (1 : Int32)), none, none] [] w) :
  qCall (some s) (d + 1) 191 [.ref 61, .int i1, .int i2, .int i3] w (qQi Q) := qCall_of (cd := c_Searches_leastChild) (mL := 7) rfl u_Searches_leastChild [(3, [true, true, true, true, true, false, false]), (23, [true, true, true, true, true, true, true])] 4 h
set_option maxRecDepth 100000 in
theorem A_Searches_leastChild_3 {s : Nat × (Nat → Int32)} {d : Nat} {w : qW} {Q : Int32 → qW → Prop} {i1 : Int32} {i2 : Int32} {i3 : Int32} {i4 : Int32} (h :
  (i3 < i4 →
    Q (-1 : Int32) w) ∧
  (¬ i3 < i4 →
    qCall (some s) d 192 [.ref 61, .int i4, .int (i1 ||| i2)] w (qQi fun x2 w1 =>
      qAt s d c_Searches_leastChild (qQi Q) 23 [some (.ref 61), some (.int i1), some (.int i2), some (.int i3), some (.int i4), some (.int x2), some (.int (0 : Int32))] [] w1))) :
  qAt s d c_Searches_leastChild (qQi Q) 3 [some (.ref 61), some (.int i1), some (.int i2), some (.int i3), some (.int i4), none, none] [] w := qAt_of u_Searches_leastChild [(3, [true, true, true, true, true, false, false]), (23, [true, true, true, true, true, true, true])] 14 h
set_option maxRecDepth 100000 in
theorem A_Searches_leastChild_23 {s : Nat × (Nat → Int32)} {d : Nat} {w : qW} {Q : Int32 → qW → Prop} {i1 : Int32} {i2 : Int32} {i3 : Int32} {i4 : Int32} {i5 : Int32} {i6 : Int32} (h :
  (i5 ≤ i6 →
    qAt s d c_Searches_leastChild (qQi Q) 3 [some (.ref 61), some (.int i1), some (.int i2), some (.int i3), some (.int (i4 + (1 : Int32))), none, none] [] w) ∧
  (¬ i5 ≤ i6 →
    qCall (some s) d 193 [.ref 61, .int i6, .int i1, .int i2] w (qQi fun x2 w1 =>
      (x2 = 0 →
        qAt s d c_Searches_leastChild (qQi Q) 23 [some (.ref 61), some (.int i1), some (.int i2), some (.int i3), some (.int i4), some (.int i5), some (.int (i6 + (1 : Int32)))] [] w1) ∧
      (¬ x2 = 0 →
        Q (((1000 : Int32) * i4) + i6) w1)))) :
  qAt s d c_Searches_leastChild (qQi Q) 23 [some (.ref 61), some (.int i1), some (.int i2), some (.int i3), some (.int i4), some (.int i5), some (.int i6)] [] w := qAt_of u_Searches_leastChild [(3, [true, true, true, true, true, false, false]), (23, [true, true, true, true, true, true, true])] 16 h

set_option maxRecDepth 100000 in
theorem A_Searches_spanOfChild {s : Nat × (Nat → Int32)} {d : Nat} {w : qW} {Q : Int32 → qW → Prop} {i1 : Int32} {i2 : Int32} (h :
  qAt s d c_Searches_spanOfChild (qQi Q) 5 [some (.ref 61), some (.int i1), some (.int i2), some (.long (1 : Int64)), none, some (.int (0 : Int32))] [] w) :
  qCall (some s) (d + 1) 192 [.ref 61, .int i1, .int i2] w (qQi Q) := qCall_of (cd := c_Searches_spanOfChild) (mL := 6) rfl u_Searches_spanOfChild [(5, [true, true, true, true, false, true])] 6 h
set_option maxRecDepth 100000 in
theorem A_Searches_spanOfChild_5 {s : Nat × (Nat → Int32)} {d : Nat} {w : qW} {Q : Int32 → qW → Prop} {i1 : Int32} {i2 : Int32} {l3 : Int64} {i5 : Int32} (h :
  ((w.1 2 0) ≤ i5 →
    Q (Int64.toInt32 l3) w) ∧
  (¬ (w.1 2 0) ≤ i5 →
    qCall (some s) d 104 [.int i5, .int i2] w (qQi fun x2 w1 =>
      (x2 = 0 →
        qAt s d c_Searches_spanOfChild (qQi Q) 5 [some (.ref 61), some (.int i1), some (.int i2), some (.long l3), none, some (.int (i5 + (1 : Int32)))] [] w1) ∧
      (¬ x2 = 0 →
        qIn i5 12 ∧
        (qCall (some s) d 111 [.long (Int32.toInt64 i1), .long (Int32.toInt64 (w1.1 3 (qIx i5)))] w1 (qQl fun y4 w3 =>
          qIn i5 12 ∧
          (qIn i5 12 ∧
          (qCall (some s) d 166 [.long l3, .long (Int32.toInt64 ((qPutI w3 65 (qIx i5) (Int64.toInt32 y4)).1 65 (qIx i5)))] (qPutI w3 65 (qIx i5) (Int64.toInt32 y4)) (qQl fun y6 w5 =>
            qAt s d c_Searches_spanOfChild (qQi Q) 5 [some (.ref 61), some (.int i1), some (.int i2), some (.long y6), none, some (.int (i5 + (1 : Int32)))] [] w5))))))))) :
  qAt s d c_Searches_spanOfChild (qQi Q) 5 [some (.ref 61), some (.int i1), some (.int i2), some (.long l3), none, some (.int i5)] [] w := qAt_of u_Searches_spanOfChild [(5, [true, true, true, true, false, true])] 35 h

set_option maxRecDepth 100000 in
theorem A_Searches_isChild {s : Nat × (Nat → Int32)} {d : Nat} {w : qW} {Q : Int32 → qW → Prop} {i1 : Int32} {i2 : Int32} {i3 : Int32} (h :
  qAt s d c_Searches_isChild (qQi Q) 3 [some (.ref 61), some (.int i1), some (.int i2), some (.int i3), some (.int (0 : Int32)), none] [] w) :
  qCall (some s) (d + 1) 193 [.ref 61, .int i1, .int i2, .int i3] w (qQi Q) := qCall_of (cd := c_Searches_isChild) (mL := 6) rfl u_Searches_isChild [(3, [true, true, true, true, true, false])] 4 h
set_option maxRecDepth 100000 in
theorem A_Searches_isChild_3 {s : Nat × (Nat → Int32)} {d : Nat} {w : qW} {Q : Int32 → qW → Prop} {i1 : Int32} {i2 : Int32} {i3 : Int32} {i4 : Int32} (h :
  ((w.1 2 0) ≤ i4 →
    Q (1 : Int32) w) ∧
  (¬ (w.1 2 0) ≤ i4 →
    qCall (some s) d 104 [.int i4, .int (i2 ||| i3)] w (qQi fun x2 w1 =>
      (x2 = 0 →
        qAt s d c_Searches_isChild (qQi Q) 3 [some (.ref 61), some (.int i1), some (.int i2), some (.int i3), some (.int (i4 + (1 : Int32))), none] [] w1) ∧
      (¬ x2 = 0 →
        qIn i4 12 ∧
        (qIn i4 12 ∧
        (¬ (w1.1 65 (qIx i4)) = 0 ∧ ((¬ (qRem (i1 - (w1.1 4 (qIx i4))) (w1.1 65 (qIx i4))) = 0 →
          qCall (some s) d 104 [.int i4, .int i2] w1 (qQi fun x4 w3 =>
            ((0 : Int32) = x4 →
              qAt s d c_Searches_isChild (qQi Q) 3 [some (.ref 61), some (.int i1), some (.int i2), some (.int i3), some (.int (i4 + (1 : Int32))), none] [] w3) ∧
            (¬ (0 : Int32) = x4 →
              Q (0 : Int32) w3))) ∧
        ((qRem (i1 - (w1.1 4 (qIx i4))) (w1.1 65 (qIx i4))) = 0 →
          qCall (some s) d 104 [.int i4, .int i2] w1 (qQi fun x6 w5 =>
            ((1 : Int32) = x6 →
              qAt s d c_Searches_isChild (qQi Q) 3 [some (.ref 61), some (.int i1), some (.int i2), some (.int i3), some (.int (i4 + (1 : Int32))), none] [] w5) ∧
            (¬ (1 : Int32) = x6 →
              Q (0 : Int32) w5)))))))))) :
  qAt s d c_Searches_isChild (qQi Q) 3 [some (.ref 61), some (.int i1), some (.int i2), some (.int i3), some (.int i4), none] [] w := qAt_of u_Searches_isChild [(3, [true, true, true, true, true, false])] 36 h

set_option maxRecDepth 100000 in
theorem A_X_pairs {s : Nat × (Nat → Int32)} {d : Nat} {w : qW} {Q : Int32 → qW → Prop} {i1 : Int32} {i2 : Int32} {i3 : Int32} (h :
  qCall (some s) d 103 [.int i1] w (qQi fun x2 w1 =>
    qCall (some s) d 97 [.ref 2, .int i1] w1 (qQi fun x4 w3 =>
      (x4 = 0 →
        Q (-1 : Int32) w3) ∧
      (¬ x4 = 0 →
        ((8 : Int32) < x2 →
          Q (-1 : Int32) w3) ∧
        (¬ (8 : Int32) < x2 →
          ¬ (2 : Int32) = 0 ∧ ((¬ (qRem x2 (2 : Int32)) = 0 →
            Q (-1 : Int32) w3) ∧
          ((qRem x2 (2 : Int32)) = 0 →
            (i2 < (1 : Int32) →
              Q (-1 : Int32) w3) ∧
            (¬ i2 < (1 : Int32) →
              ((100000 : Int32) < i2 →
                Q (-1 : Int32) w3) ∧
              (¬ (100000 : Int32) < i2 →
                qCall (some s) d 142 [.int i3, .int i1] w3 (qQi fun x6 w5 =>
                  (¬ x6 = 0 →
                    qCall (some s) d 195 [.ref 66, .int i1, .int i2] w5 (qQv fun w7 =>
                      (¬ i3 = (-1 : Int32) →
                        qIn i3 12 ∧
                        (Q (w7.1 67 (qIx i3)) w7)) ∧
                      (i3 = (-1 : Int32) →
                        Q (w7.1 66 0) w7))) ∧
                  (x6 = 0 →
                    Q (-1 : Int32) w5))))))))))) :
  qCall (some s) (d + 1) 194 [.ref 1, .int i1, .int i2, .int i3] w (qQi Q) := qCall_of (cd := c_X_pairs) (mL := 5) rfl u_X_pairs [] 40 h

set_option maxRecDepth 100000 in
theorem A_Couples_pairUp {s : Nat × (Nat → Int32)} {d : Nat} {w : qW} {Q : qW → Prop} {i1 : Int32} {i2 : Int32} (h :
  qAt s d c_Couples_pairUp (qQv Q) 2 [some (.ref 66), some (.int i1), some (.int i2), some (.int (0 : Int32)), none] [] w) :
  qCall (some s) (d + 1) 195 [.ref 66, .int i1, .int i2] w (qQv Q) := qCall_of (cd := c_Couples_pairUp) (mL := 5) rfl u_Couples_pairUp [(2, [true, true, true, true, false]), (13, [true, true, true, true, true])] 4 h
set_option maxRecDepth 100000 in
theorem A_Couples_pairUp_2 {s : Nat × (Nat → Int32)} {d : Nat} {w : qW} {Q : qW → Prop} {i1 : Int32} {i2 : Int32} {i3 : Int32} (h :
  ((12 : Int32) ≤ i3 →
    qCall (some s) d 196 [.ref 66, .int i1, .int (0 : Int32), .int (0 : Int32)] (qPutI w 66 0 (-1 : Int32)) (qQv fun w1 =>
      Q w1)) ∧
  (¬ (12 : Int32) ≤ i3 →
    qAt s d c_Couples_pairUp (qQv Q) 13 [some (.ref 66), some (.int i1), some (.int i2), some (.int i3), some (.int (i3 + (1 : Int32)))] [] w)) :
  qAt s d c_Couples_pairUp (qQv Q) 2 [some (.ref 66), some (.int i1), some (.int i2), some (.int i3), none] [] w := qAt_of u_Couples_pairUp [(2, [true, true, true, true, false]), (13, [true, true, true, true, true])] 13 h
set_option maxRecDepth 100000 in
theorem A_Couples_pairUp_13 {s : Nat × (Nat → Int32)} {d : Nat} {w : qW} {Q : qW → Prop} {i1 : Int32} {i2 : Int32} {i3 : Int32} {i4 : Int32} (h :
  ((12 : Int32) ≤ i4 →
    qAt s d c_Couples_pairUp (qQv Q) 2 [some (.ref 66), some (.int i1), some (.int i2), some (.int (i3 + (1 : Int32))), none] [] w) ∧
  (¬ (12 : Int32) ≤ i4 →
    qCall (some s) d 104 [.int i3, .int i1] w (qQi fun x2 w1 =>
      (x2 = 0 →
        qAt s d c_Couples_pairUp (qQv Q) 13 [some (.ref 66), some (.int i1), some (.int i2), some (.int i3), some (.int (i4 + (1 : Int32)))] [] w1) ∧
      (¬ x2 = 0 →
        qCall (some s) d 104 [.int i4, .int i1] w1 (qQi fun x4 w3 =>
          (x4 = 0 →
            qAt s d c_Couples_pairUp (qQv Q) 13 [some (.ref 66), some (.int i1), some (.int i2), some (.int i3), some (.int (i4 + (1 : Int32)))] [] w3) ∧
          (¬ x4 = 0 →
            qCall (some s) d 121 [.ref 53, .int ((qShl (1 : Int32) i3) ||| (qShl (1 : Int32) i4)), .long (0 : Int64), .long (Int32.toInt64 (i2 - (1 : Int32)))] w3 (qQl fun y6 w5 =>
              qIn (((12 : Int32) * i3) + i4) 144 ∧
              (qAt s d c_Couples_pairUp (qQv Q) 13 [some (.ref 66), some (.int i1), some (.int i2), some (.int i3), some (.int (i4 + (1 : Int32)))] [] (qPutI w5 69 (qIx (((12 : Int32) * i3) + i4)) (Int64.toInt32 y6)))))))))) :
  qAt s d c_Couples_pairUp (qQv Q) 13 [some (.ref 66), some (.int i1), some (.int i2), some (.int i3), some (.int i4)] [] w := qAt_of u_Couples_pairUp [(2, [true, true, true, true, false]), (13, [true, true, true, true, true])] 39 h

set_option maxRecDepth 100000 in
theorem A_Couples_tryAll {s : Nat × (Nat → Int32)} {d : Nat} {w : qW} {Q : qW → Prop} {i1 : Int32} {i2 : Int32} {i3 : Int32} (h :
  (i1 = 0 →
    qAt s d c_Couples_tryAll (qQv Q) 10 [some (.ref 66), none, some (.int i2), none, none, none] [] w) ∧
  (¬ i1 = 0 →
    (i3 ≤ (12 : Int32) →
      qCall (some s) d 102 [.int i1] w (qQi fun x2 w1 =>
        qAt s d c_Couples_tryAll (qQv Q) 51 [some (.ref 66), some (.int i1), some (.int i2), some (.int i3), some (.int x2), some (.int (x2 + (1 : Int32)))] [] w1)) ∧
    (¬ i3 ≤ (12 : Int32) →
      qAt s d c_Couples_tryAll (qQv Q) 10 [some (.ref 66), none, some (.int i2), none, none, none] [] w))) :
  qCall (some s) (d + 1) 196 [.ref 66, .int i1, .int i2, .int i3] w (qQv Q) := qCall_of (cd := c_Couples_tryAll) (mL := 6) rfl u_Couples_tryAll [(10, [true, false, true, false, false, false]), (51, [true, true, true, true, true, true])] 14 h
set_option maxRecDepth 100000 in
theorem A_Couples_tryAll_10 {s : Nat × (Nat → Int32)} {d : Nat} {w : qW} {Q : qW → Prop} {i2 : Int32} (h :
  (i2 ≤ (w.1 66 0) →
    Q w) ∧
  (¬ i2 ≤ (w.1 66 0) →
    (0 ≤ (0 : Int32) ∧ 0 ≤ (0 : Int32) ∧ 0 ≤ (12 : Int32) ∧ qIx (0 : Int32) + qIx (12 : Int32) ≤ 12 ∧ qIx (0 : Int32) + qIx (12 : Int32) ≤ 12 ∧ ¬ 68 = 67) ∧
    (Q (qCpI (qPutI w 66 0 i2) 68 (qIx (0 : Int32)) 67 (qIx (0 : Int32)) (qIx (12 : Int32)))))) :
  qAt s d c_Couples_tryAll (qQv Q) 10 [some (.ref 66), none, some (.int i2), none, none, none] [] w := qAt_of u_Couples_tryAll [(10, [true, false, true, false, false, false]), (51, [true, true, true, true, true, true])] 17 h
set_option maxRecDepth 100000 in
theorem A_Couples_tryAll_51 {s : Nat × (Nat → Int32)} {d : Nat} {w : qW} {Q : qW → Prop} {i1 : Int32} {i2 : Int32} {i3 : Int32} {i4 : Int32} {i5 : Int32} (h :
  ((12 : Int32) ≤ i5 →
    Q w) ∧
  (¬ (12 : Int32) ≤ i5 →
    qCall (some s) d 104 [.int i5, .int i1] w (qQi fun x2 w1 =>
      (x2 = 0 →
        qAt s d c_Couples_tryAll (qQv Q) 51 [some (.ref 66), some (.int i1), some (.int i2), some (.int i3), some (.int i4), some (.int (i5 + (1 : Int32)))] [] w1) ∧
      (¬ x2 = 0 →
        qIn i4 12 ∧
        (qIn i5 12 ∧
        (qIn (((12 : Int32) * i4) + i5) 144 ∧
        (qCall (some s) d 196 [.ref 66, .int (i1 &&& (((qShl (1 : Int32) i4) ||| (qShl (1 : Int32) i5)) ^^^ (-1 : Int32))), .int (i2 + (w1.1 69 (qIx (((12 : Int32) * i4) + i5)))), .int (i3 + (1 : Int32))] (qPutI (qPutI w1 68 (qIx i4) i5) 68 (qIx i5) i4) (qQv fun w3 =>
          qAt s d c_Couples_tryAll (qQv Q) 51 [some (.ref 66), some (.int i1), some (.int i2), some (.int i3), some (.int i4), some (.int (i5 + (1 : Int32)))] [] w3)))))))) :
  qAt s d c_Couples_tryAll (qQv Q) 51 [some (.ref 66), some (.int i1), some (.int i2), some (.int i3), some (.int i4), some (.int i5)] [] w := qAt_of u_Couples_tryAll [(10, [true, false, true, false, false, false]), (51, [true, true, true, true, true, true])] 47 h

set_option maxRecDepth 100000 in
theorem A_X_roll {s : Nat × (Nat → Int32)} {d : Nat} {w : qW} {Q : Int32 → qW → Prop} {i1 : Int32} (h :
  (i1 < 0 →
    Q (-2 : Int32) w) ∧
  (¬ i1 < 0 →
    ((w.1 2 6) ≤ i1 →
      Q (-2 : Int32) w) ∧
    (¬ (w.1 2 6) ≤ i1 →
      (i1 < (4 : Int32) →
        qIn i1 4 ∧ ∃ u1, qR0 24 (qIx i1) = some u1 ∧
        (qCall (some s) d 198 [.ref 2] w (qQv fun w2 =>
          qAt s d c_X_roll (qQi Q) 42 [some (.ref 1), none, some (.ref u1), some (.int (-1 : Int32)), some (.int (0 : Int32))] [] w2))) ∧
      (¬ i1 < (4 : Int32) →
        Q (-2 : Int32) w)))) :
  qCall (some s) (d + 1) 197 [.ref 1, .int i1] w (qQi Q) := qCall_of (cd := c_X_roll) (mL := 5) rfl u_X_roll [(42, [true, false, true, true, true])] 24 h
set_option maxRecDepth 100000 in
theorem A_X_roll_42 {s : Nat × (Nat → Int32)} {d : Nat} {w : qW} {Q : Int32 → qW → Prop} {t2 : Nat} {i3 : Int32} {i4 : Int32} (h :
  qB (qAl (some s) w t2 4) (((w.1 t2 0) ≤ i4 →
    qCall (some s) d 31 [.ref 50] w (qQv fun w1 =>
      Q i3 w1)) ∧
  (¬ (w.1 t2 0) ≤ i4 →
    (¬ i3 = (-1 : Int32) →
      qCall (some s) d 31 [.ref 50] w (qQv fun w2 =>
        Q i3 w2)) ∧
    (i3 = (-1 : Int32) →
      qB (qAl (some s) w t2 4) (qGr (some s) w t2 4 (fun u3 =>
        qAld (some s) w u3 i4 fun x4 =>
          qB (qAl (some s) w t2 4) (qGr (some s) w t2 5 (fun u5 =>
          qAld (some s) w u5 i4 fun x6 =>
            qB (qAl (some s) w t2 4) (qGr (some s) w t2 6 (fun u7 =>
            qAld (some s) w u7 i4 fun x8 =>
              qCall (some s) d 199 [.ref 2, .int x4, .int x6, .int x8] w (qQi fun x10 w9 =>
              (¬ x10 = 0 →
                qAt s d c_X_roll (qQi Q) 42 [some (.ref 1), none, some (.ref t2), some (.int i3), some (.int (i4 + (1 : Int32)))] [] w9) ∧
              (x10 = 0 →
                qAt s d c_X_roll (qQi Q) 42 [some (.ref 1), none, some (.ref t2), some (.int i4), some (.int (i4 + (1 : Int32)))] [] w9))) (False))) (False))) (False)))))) :
  qAt s d c_X_roll (qQi Q) 42 [some (.ref 1), none, some (.ref t2), some (.int i3), some (.int i4)] [] w := qAt_of u_X_roll [(42, [true, false, true, true, true])] 29 h

set_option maxRecDepth 100000 in
theorem A_State_forgetPeople {s : Nat × (Nat → Int32)} {d : Nat} {w : qW} {Q : qW → Prop}  (h :
  Q (qPutI (qPutI (qPutI w 2 0 (0 : Int32)) 2 8 (0 : Int32)) 2 13 (0 : Int32))) :
  qCall (some s) (d + 1) 198 [.ref 2] w (qQv Q) := qCall_of (cd := c_State_forgetPeople) (mL := 1) rfl u_State_forgetPeople [] 11 h

set_option maxRecDepth 100000 in
theorem A_State_isDone {s : Nat × (Nat → Int32)} {d : Nat} {w : qW} {Q : Int32 → qW → Prop} {i1 : Int32} {i2 : Int32} {i3 : Int32} (h :
  (¬ i1 = (3 : Int32) →
    (¬ i1 = (4 : Int32) →
      Q (1 : Int32) w) ∧
    (i1 = (4 : Int32) →
      qCall (some s) d 33 [.ref 2, .int i2, .int i3, .int (1 : Int32)] w (qQi fun x2 w1 =>
        (x2 = 0 →
          Q (0 : Int32) w1) ∧
        (¬ x2 = 0 →
          Q (1 : Int32) w1)))) ∧
  (i1 = (3 : Int32) →
    qCall (some s) d 14 [.ref 2, .int i2, .int i3] w (qQi fun x4 w3 =>
      (x4 = (-1 : Int32) →
        Q (0 : Int32) w3) ∧
      (¬ x4 = (-1 : Int32) →
        Q (1 : Int32) w3)))) :
  qCall (some s) (d + 1) 199 [.ref 2, .int i1, .int i2, .int i3] w (qQi Q) := qCall_of (cd := c_State_isDone) (mL := 4) rfl u_State_isDone [] 16 h

set_option maxRecDepth 100000 in
theorem A_X_image {s : Nat × (Nat → Int32)} {d : Nat} {w : qW} {Q : Int32 → qW → Prop}  (h :
  qCall (some s) d 201 [.ref 13, .ref 2] w (qQv fun w1 =>
    Q (w1.1 2 0) w1)) :
  qCall (some s) (d + 1) 200 [.ref 1] w (qQi Q) := qCall_of (cd := c_X_image) (mL := 1) rfl u_X_image [] 10 h

set_option maxRecDepth 100000 in
theorem A_State_takeAll_2 {s : Nat × (Nat → Int32)} {d : Nat} {w : qW} {Q : qW → Prop}  (h :
  (0 ≤ (0 : Int32) ∧ 0 ≤ (0 : Int32) ∧ 0 ≤ (12 : Int32) ∧ qIx (0 : Int32) + qIx (12 : Int32) ≤ 12 ∧ qIx (0 : Int32) + qIx (12 : Int32) ≤ 12 ∧ ¬ 14 = 3) ∧
  ((0 ≤ (0 : Int32) ∧ 0 ≤ (0 : Int32) ∧ 0 ≤ (12 : Int32) ∧ qIx (0 : Int32) + qIx (12 : Int32) ≤ 12 ∧ qIx (0 : Int32) + qIx (12 : Int32) ≤ 12 ∧ ¬ 15 = 4) ∧
  ((0 ≤ (0 : Int32) ∧ 0 ≤ (0 : Int32) ∧ 0 ≤ (12 : Int32) ∧ qIx (0 : Int32) + qIx (12 : Int32) ≤ 12 ∧ qIx (0 : Int32) + qIx (12 : Int32) ≤ 12 ∧ ¬ 16 = 5) ∧
  (qAt s d c_State_takeAll (qQv Q) 61 [some (.ref 2), some (.ref 13)] [] (qPutI (qCpI (qCpI (qCpI (qPutI w 2 0 (w.1 13 0)) 14 (qIx (0 : Int32)) 3 (qIx (0 : Int32)) (qIx (12 : Int32))) 15 (qIx (0 : Int32)) 4 (qIx (0 : Int32)) (qIx (12 : Int32))) 16 (qIx (0 : Int32)) 5 (qIx (0 : Int32)) (qIx (12 : Int32))) 2 4 (w.1 13 4)))))) :
  qCall (some s) (d + 1) 201 [.ref 2, .ref 13] w (qQv Q) := qCall_of (cd := c_State_takeAll) (mL := 2) rfl u_State_takeAll [(61, [true, true]), (93, [true, true]), (154, [true, true]), (207, [true, true])] 34 h
set_option maxRecDepth 100000 in
theorem A_State_takeAll_2_61 {s : Nat × (Nat → Int32)} {d : Nat} {w : qW} {Q : qW → Prop}  (h :
  qAt s d c_State_takeAll (qQv Q) 93 [some (.ref 2), some (.ref 13)] [] (qPutI (qPutI (qPutI (qPutI w 2 5 (w.1 13 5)) 2 6 (w.1 13 6)) 2 7 (w.1 13 7)) 2 8 (w.1 13 8))) :
  qAt s d c_State_takeAll (qQv Q) 61 [some (.ref 2), some (.ref 13)] [] w := qAt_of u_State_takeAll [(61, [true, true]), (93, [true, true]), (154, [true, true]), (207, [true, true])] 18 h
set_option maxRecDepth 100000 in
theorem A_State_takeAll_2_93 {s : Nat × (Nat → Int32)} {d : Nat} {w : qW} {Q : qW → Prop}  (h :
  (0 ≤ (0 : Int32) ∧ 0 ≤ (0 : Int32) ∧ 0 ≤ (30 : Int32) ∧ qIx (0 : Int32) + qIx (30 : Int32) ≤ 30 ∧ qIx (0 : Int32) + qIx (30 : Int32) ≤ 30 ∧ ¬ 17 = 6) ∧
  ((0 ≤ (0 : Int32) ∧ 0 ≤ (0 : Int32) ∧ 0 ≤ (30 : Int32) ∧ qIx (0 : Int32) + qIx (30 : Int32) ≤ 30 ∧ qIx (0 : Int32) + qIx (30 : Int32) ≤ 30 ∧ ¬ 18 = 7) ∧
  ((0 ≤ (0 : Int32) ∧ 0 ≤ (0 : Int32) ∧ 0 ≤ (6 : Int32) ∧ qIx (0 : Int32) + qIx (6 : Int32) ≤ 6 ∧ qIx (0 : Int32) + qIx (6 : Int32) ≤ 6 ∧ ¬ 19 = 8) ∧
  (qAt s d c_State_takeAll (qQv Q) 154 [some (.ref 2), some (.ref 13)] [] (qPutI (qCpI (qPutI (qCpI (qCpL w 17 (qIx (0 : Int32)) 6 (qIx (0 : Int32)) (qIx (30 : Int32))) 18 (qIx (0 : Int32)) 7 (qIx (0 : Int32)) (qIx (30 : Int32))) 2 11 (w.1 13 11)) 19 (qIx (0 : Int32)) 8 (qIx (0 : Int32)) (qIx (6 : Int32))) 2 13 (w.1 13 13)))))) :
  qAt s d c_State_takeAll (qQv Q) 93 [some (.ref 2), some (.ref 13)] [] w := qAt_of u_State_takeAll [(61, [true, true]), (93, [true, true]), (154, [true, true]), (207, [true, true])] 34 h
set_option maxRecDepth 100000 in
theorem A_State_takeAll_2_154 {s : Nat × (Nat → Int32)} {d : Nat} {w : qW} {Q : qW → Prop}  (h :
  (0 ≤ (0 : Int32) ∧ 0 ≤ (0 : Int32) ∧ 0 ≤ (12 : Int32) ∧ qIx (0 : Int32) + qIx (12 : Int32) ≤ 12 ∧ qIx (0 : Int32) + qIx (12 : Int32) ≤ 12 ∧ ¬ 20 = 9) ∧
  ((0 ≤ (0 : Int32) ∧ 0 ≤ (0 : Int32) ∧ 0 ≤ (12 : Int32) ∧ qIx (0 : Int32) + qIx (12 : Int32) ≤ 12 ∧ qIx (0 : Int32) + qIx (12 : Int32) ≤ 12 ∧ ¬ 21 = 10) ∧
  ((0 ≤ (0 : Int32) ∧ 0 ≤ (0 : Int32) ∧ 0 ≤ (12 : Int32) ∧ qIx (0 : Int32) + qIx (12 : Int32) ≤ 12 ∧ qIx (0 : Int32) + qIx (12 : Int32) ≤ 12 ∧ ¬ 22 = 11) ∧
  (qAt s d c_State_takeAll (qQv Q) 207 [some (.ref 2), some (.ref 13)] [] (qPutI (qCpI (qCpI (qCpI w 20 (qIx (0 : Int32)) 9 (qIx (0 : Int32)) (qIx (12 : Int32))) 21 (qIx (0 : Int32)) 10 (qIx (0 : Int32)) (qIx (12 : Int32))) 22 (qIx (0 : Int32)) 11 (qIx (0 : Int32)) (qIx (12 : Int32))) 2 17 (w.1 13 17)))))) :
  qAt s d c_State_takeAll (qQv Q) 154 [some (.ref 2), some (.ref 13)] [] w := qAt_of u_State_takeAll [(61, [true, true]), (93, [true, true]), (154, [true, true]), (207, [true, true])] 30 h
set_option maxRecDepth 100000 in
theorem A_State_takeAll_2_207 {s : Nat × (Nat → Int32)} {d : Nat} {w : qW} {Q : qW → Prop}  (h :
  (0 ≤ (0 : Int32) ∧ 0 ≤ (0 : Int32) ∧ 0 ≤ (20 : Int32) ∧ qIx (0 : Int32) + qIx (20 : Int32) ≤ 20 ∧ qIx (0 : Int32) + qIx (20 : Int32) ≤ 20 ∧ ¬ 23 = 12) ∧
  (Q (qPutI (qCpI w 23 (qIx (0 : Int32)) 12 (qIx (0 : Int32)) (qIx (20 : Int32))) 2 19 (w.1 13 19)))) :
  qAt s d c_State_takeAll (qQv Q) 207 [some (.ref 2), some (.ref 13)] [] w := qAt_of u_State_takeAll [(61, [true, true]), (93, [true, true]), (154, [true, true]), (207, [true, true])] 14 h

set_option maxRecDepth 100000 in
theorem A_State_takeAll_13 {s : Nat × (Nat → Int32)} {d : Nat} {w : qW} {Q : qW → Prop}  (h :
  (0 ≤ (0 : Int32) ∧ 0 ≤ (0 : Int32) ∧ 0 ≤ (12 : Int32) ∧ qIx (0 : Int32) + qIx (12 : Int32) ≤ 12 ∧ qIx (0 : Int32) + qIx (12 : Int32) ≤ 12 ∧ ¬ 3 = 14) ∧
  ((0 ≤ (0 : Int32) ∧ 0 ≤ (0 : Int32) ∧ 0 ≤ (12 : Int32) ∧ qIx (0 : Int32) + qIx (12 : Int32) ≤ 12 ∧ qIx (0 : Int32) + qIx (12 : Int32) ≤ 12 ∧ ¬ 4 = 15) ∧
  ((0 ≤ (0 : Int32) ∧ 0 ≤ (0 : Int32) ∧ 0 ≤ (12 : Int32) ∧ qIx (0 : Int32) + qIx (12 : Int32) ≤ 12 ∧ qIx (0 : Int32) + qIx (12 : Int32) ≤ 12 ∧ ¬ 5 = 16) ∧
  (qAt s d c_State_takeAll (qQv Q) 61 [some (.ref 13), some (.ref 2)] [] (qPutI (qCpI (qCpI (qCpI (qPutI w 13 0 (w.1 2 0)) 3 (qIx (0 : Int32)) 14 (qIx (0 : Int32)) (qIx (12 : Int32))) 4 (qIx (0 : Int32)) 15 (qIx (0 : Int32)) (qIx (12 : Int32))) 5 (qIx (0 : Int32)) 16 (qIx (0 : Int32)) (qIx (12 : Int32))) 13 4 (w.1 2 4)))))) :
  qCall (some s) (d + 1) 201 [.ref 13, .ref 2] w (qQv Q) := qCall_of (cd := c_State_takeAll) (mL := 2) rfl u_State_takeAll [(61, [true, true]), (93, [true, true]), (154, [true, true]), (207, [true, true])] 34 h
set_option maxRecDepth 100000 in
theorem A_State_takeAll_13_61 {s : Nat × (Nat → Int32)} {d : Nat} {w : qW} {Q : qW → Prop}  (h :
  qAt s d c_State_takeAll (qQv Q) 93 [some (.ref 13), some (.ref 2)] [] (qPutI (qPutI (qPutI (qPutI w 13 5 (w.1 2 5)) 13 6 (w.1 2 6)) 13 7 (w.1 2 7)) 13 8 (w.1 2 8))) :
  qAt s d c_State_takeAll (qQv Q) 61 [some (.ref 13), some (.ref 2)] [] w := qAt_of u_State_takeAll [(61, [true, true]), (93, [true, true]), (154, [true, true]), (207, [true, true])] 18 h
set_option maxRecDepth 100000 in
theorem A_State_takeAll_13_93 {s : Nat × (Nat → Int32)} {d : Nat} {w : qW} {Q : qW → Prop}  (h :
  (0 ≤ (0 : Int32) ∧ 0 ≤ (0 : Int32) ∧ 0 ≤ (30 : Int32) ∧ qIx (0 : Int32) + qIx (30 : Int32) ≤ 30 ∧ qIx (0 : Int32) + qIx (30 : Int32) ≤ 30 ∧ ¬ 6 = 17) ∧
  ((0 ≤ (0 : Int32) ∧ 0 ≤ (0 : Int32) ∧ 0 ≤ (30 : Int32) ∧ qIx (0 : Int32) + qIx (30 : Int32) ≤ 30 ∧ qIx (0 : Int32) + qIx (30 : Int32) ≤ 30 ∧ ¬ 7 = 18) ∧
  ((0 ≤ (0 : Int32) ∧ 0 ≤ (0 : Int32) ∧ 0 ≤ (6 : Int32) ∧ qIx (0 : Int32) + qIx (6 : Int32) ≤ 6 ∧ qIx (0 : Int32) + qIx (6 : Int32) ≤ 6 ∧ ¬ 8 = 19) ∧
  (qAt s d c_State_takeAll (qQv Q) 154 [some (.ref 13), some (.ref 2)] [] (qPutI (qCpI (qPutI (qCpI (qCpL w 6 (qIx (0 : Int32)) 17 (qIx (0 : Int32)) (qIx (30 : Int32))) 7 (qIx (0 : Int32)) 18 (qIx (0 : Int32)) (qIx (30 : Int32))) 13 11 (w.1 2 11)) 8 (qIx (0 : Int32)) 19 (qIx (0 : Int32)) (qIx (6 : Int32))) 13 13 (w.1 2 13)))))) :
  qAt s d c_State_takeAll (qQv Q) 93 [some (.ref 13), some (.ref 2)] [] w := qAt_of u_State_takeAll [(61, [true, true]), (93, [true, true]), (154, [true, true]), (207, [true, true])] 34 h
set_option maxRecDepth 100000 in
theorem A_State_takeAll_13_154 {s : Nat × (Nat → Int32)} {d : Nat} {w : qW} {Q : qW → Prop}  (h :
  (0 ≤ (0 : Int32) ∧ 0 ≤ (0 : Int32) ∧ 0 ≤ (12 : Int32) ∧ qIx (0 : Int32) + qIx (12 : Int32) ≤ 12 ∧ qIx (0 : Int32) + qIx (12 : Int32) ≤ 12 ∧ ¬ 9 = 20) ∧
  ((0 ≤ (0 : Int32) ∧ 0 ≤ (0 : Int32) ∧ 0 ≤ (12 : Int32) ∧ qIx (0 : Int32) + qIx (12 : Int32) ≤ 12 ∧ qIx (0 : Int32) + qIx (12 : Int32) ≤ 12 ∧ ¬ 10 = 21) ∧
  ((0 ≤ (0 : Int32) ∧ 0 ≤ (0 : Int32) ∧ 0 ≤ (12 : Int32) ∧ qIx (0 : Int32) + qIx (12 : Int32) ≤ 12 ∧ qIx (0 : Int32) + qIx (12 : Int32) ≤ 12 ∧ ¬ 11 = 22) ∧
  (qAt s d c_State_takeAll (qQv Q) 207 [some (.ref 13), some (.ref 2)] [] (qPutI (qCpI (qCpI (qCpI w 9 (qIx (0 : Int32)) 20 (qIx (0 : Int32)) (qIx (12 : Int32))) 10 (qIx (0 : Int32)) 21 (qIx (0 : Int32)) (qIx (12 : Int32))) 11 (qIx (0 : Int32)) 22 (qIx (0 : Int32)) (qIx (12 : Int32))) 13 17 (w.1 2 17)))))) :
  qAt s d c_State_takeAll (qQv Q) 154 [some (.ref 13), some (.ref 2)] [] w := qAt_of u_State_takeAll [(61, [true, true]), (93, [true, true]), (154, [true, true]), (207, [true, true])] 30 h
set_option maxRecDepth 100000 in
theorem A_State_takeAll_13_207 {s : Nat × (Nat → Int32)} {d : Nat} {w : qW} {Q : qW → Prop}  (h :
  (0 ≤ (0 : Int32) ∧ 0 ≤ (0 : Int32) ∧ 0 ≤ (20 : Int32) ∧ qIx (0 : Int32) + qIx (20 : Int32) ≤ 20 ∧ qIx (0 : Int32) + qIx (20 : Int32) ≤ 20 ∧ ¬ 12 = 23) ∧
  (Q (qPutI (qCpI w 12 (qIx (0 : Int32)) 23 (qIx (0 : Int32)) (qIx (20 : Int32))) 13 19 (w.1 2 19)))) :
  qAt s d c_State_takeAll (qQv Q) 207 [some (.ref 13), some (.ref 2)] [] w := qAt_of u_State_takeAll [(61, [true, true]), (93, [true, true]), (154, [true, true]), (207, [true, true])] 14 h

set_option maxRecDepth 100000 in
theorem A_X_back {s : Nat × (Nat → Int32)} {d : Nat} {w : qW} {Q : Int32 → qW → Prop}  (h :
  qCall (some s) d 201 [.ref 2, .ref 13] w (qQv fun w1 =>
    qCall (some s) d 31 [.ref 50] w1 (qQv fun w2 =>
      Q (w2.1 2 0) w2))) :
  qCall (some s) (d + 1) 202 [.ref 1] w (qQi Q) := qCall_of (cd := c_X_back) (mL := 1) rfl u_X_back [] 13 h

set_option maxRecDepth 100000 in
theorem A_X_about {s : Nat × (Nat → Int32)} {d : Nat} {w : qW} {Q : Int32 → qW → Prop} {i1 : Int32} (h :
  (0 ≤ i1 →
    ¬ (100 : Int32) = 0 ∧ (qAt s d c_X_about (qQi Q) 12 [some (.ref 1), some (.int i1), none] [.int (qRem i1 (100 : Int32))] w)) ∧
  (¬ 0 ≤ i1 →
    qAt s d c_X_about (qQi Q) 12 [some (.ref 1), some (.int i1), none] [.int (-1 : Int32)] w)) :
  qCall (some s) (d + 1) 203 [.ref 1, .int i1] w (qQi Q) := qCall_of (cd := c_X_about) (mL := 3) rfl u_X_about [(12, [true, true, false]), (85, [true, true, false])] 7 h
set_option maxRecDepth 100000 in
theorem A_X_about_12 {s : Nat × (Nat → Int32)} {d : Nat} {w : qW} {Q : Int32 → qW → Prop} {i1 : Int32} {is0 : Int32} (h :
  (i1 < (100 : Int32) →
    qAt s d c_X_about (qQi Q) 85 [some (.ref 1), some (.int i1), none] [] w) ∧
  (¬ i1 < (100 : Int32) →
    ((400 : Int32) ≤ i1 →
      qAt s d c_X_about (qQi Q) 85 [some (.ref 1), some (.int i1), none] [] w) ∧
    (¬ (400 : Int32) ≤ i1 →
      qCall (some s) d 27 [.ref 2, .int is0] w (qQi fun x2 w1 =>
        (x2 = 0 →
          qAt s d c_X_about (qQi Q) 85 [some (.ref 1), some (.int i1), none] [] w1) ∧
        (¬ x2 = 0 →
          ((200 : Int32) ≤ i1 →
            ((300 : Int32) ≤ i1 →
              qIn is0 12 ∧
              (Q (w1.1 5 (qIx is0)) w1)) ∧
            (¬ (300 : Int32) ≤ i1 →
              qIn is0 12 ∧
              (Q (w1.1 4 (qIx is0)) w1))) ∧
          (¬ (200 : Int32) ≤ i1 →
            qIn is0 12 ∧
            (Q (w1.1 3 (qIx is0)) w1))))))) :
  qAt s d c_X_about (qQi Q) 12 [some (.ref 1), some (.int i1), none] [.int is0] w := qAt_of u_X_about [(12, [true, true, false]), (85, [true, true, false])] 26 h
set_option maxRecDepth 100000 in
theorem A_X_about_85 {s : Nat × (Nat → Int32)} {d : Nat} {w : qW} {Q : Int32 → qW → Prop} {i1 : Int32} (h :
  (¬ i1 = (9 : Int32) →
    qCall (some s) d 204 [.ref 2, .int i1] w (qQi fun x2 w1 =>
      Q x2 w1)) ∧
  (i1 = (9 : Int32) →
    Q (w.1 25 1) w)) :
  qAt s d c_X_about (qQi Q) 85 [some (.ref 1), some (.int i1), none] [] w := qAt_of u_X_about [(12, [true, true, false]), (85, [true, true, false])] 9 h

set_option maxRecDepth 100000 in
theorem A_State_countAbout {s : Nat × (Nat → Int32)} {d : Nat} {w : qW} {Q : Int32 → qW → Prop} {i1 : Int32} (h :
  (i1 = (0 : Int32) →
    Q (w.1 2 0) w) ∧
  (¬ i1 = (0 : Int32) →
  (i1 = (1 : Int32) →
    Q (w.1 2 4) w) ∧
  (¬ i1 = (1 : Int32) →
  (i1 = (2 : Int32) →
    Q (w.1 2 5) w) ∧
  (¬ i1 = (2 : Int32) →
  (i1 = (3 : Int32) →
    Q (w.1 2 6) w) ∧
  (¬ i1 = (3 : Int32) →
  (i1 = (4 : Int32) →
    Q (w.1 2 7) w) ∧
  (¬ i1 = (4 : Int32) →
  (i1 = (5 : Int32) →
    Q (w.1 2 8) w) ∧
  (¬ i1 = (5 : Int32) →
  (i1 = (6 : Int32) →
    Q (w.1 2 11) w) ∧
  (¬ i1 = (6 : Int32) →
  (i1 = (7 : Int32) →
    Q (w.1 2 13) w) ∧
  (¬ i1 = (7 : Int32) →
  (i1 = (8 : Int32) →
    Q (w.1 2 17) w) ∧
  (¬ i1 = (8 : Int32) →
  Q (-2 : Int32) w)))))))))) :
  qCall (some s) (d + 1) 204 [.ref 2, .int i1] w (qQi Q) := qCall_of (cd := c_State_countAbout) (mL := 2) rfl u_State_countAbout [] 6 h

set_option maxRecDepth 100000 in
theorem A_Searches_areSharing {s : Nat × (Nat → Int32)} {d : Nat} {w : qW} {Q : Int32 → qW → Prop}  (h :
  qAt s d c_Searches_areSharing (qQi Q) 2 [some (.ref 61), some (.int (0 : Int32)), none] [] w) :
  qCall (some s) (d + 1) 329 [.ref 61] w (qQi Q) := qCall_of (cd := c_Searches_areSharing) (mL := 3) rfl u_Searches_areSharing [(2, [true, true, false]), (19, [true, true, true])] 4 h
set_option maxRecDepth 100000 in
theorem A_Searches_areSharing_2 {s : Nat × (Nat → Int32)} {d : Nat} {w : qW} {Q : Int32 → qW → Prop} {i1 : Int32} (h :
  ((w.1 61 1) ≤ i1 →
    Q (1 : Int32) w) ∧
  (¬ (w.1 61 1) ≤ i1 →
    ((5 : Int32) ≤ i1 →
      Q (1 : Int32) w) ∧
    (¬ (5 : Int32) ≤ i1 →
      qAt s d c_Searches_areSharing (qQi Q) 19 [some (.ref 61), some (.int i1), some (.int (i1 + (1 : Int32)))] [] w))) :
  qAt s d c_Searches_areSharing (qQi Q) 2 [some (.ref 61), some (.int i1), none] [] w := qAt_of u_Searches_areSharing [(2, [true, true, false]), (19, [true, true, true])] 13 h
set_option maxRecDepth 100000 in
theorem A_Searches_areSharing_19 {s : Nat × (Nat → Int32)} {d : Nat} {w : qW} {Q : Int32 → qW → Prop} {i1 : Int32} {i2 : Int32} (h :
  ((w.1 61 1) ≤ i2 →
    qAt s d c_Searches_areSharing (qQi Q) 2 [some (.ref 61), some (.int (i1 + (1 : Int32))), none] [] w) ∧
  (¬ (w.1 61 1) ≤ i2 →
    ((5 : Int32) ≤ i2 →
      qAt s d c_Searches_areSharing (qQi Q) 2 [some (.ref 61), some (.int (i1 + (1 : Int32))), none] [] w) ∧
    (¬ (5 : Int32) ≤ i2 →
      qIn i1 5 ∧
      (qIn (w.1 62 (qIx i1)) 12 ∧
      (qIn i2 5 ∧
      (qIn (w.1 62 (qIx i2)) 12 ∧
      (qCall (some s) d 111 [.long (Int32.toInt64 (w.1 3 (qIx (w.1 62 (qIx i1))))), .long (Int32.toInt64 (w.1 3 (qIx (w.1 62 (qIx i2)))))] w (qQl fun y2 w1 =>
        (¬ (lg_cmp y2 (1 : Int64)) = 0 →
          qAt s d c_Searches_areSharing (qQi Q) 19 [some (.ref 61), some (.int i1), some (.int (i2 + (1 : Int32)))] [] w1) ∧
        ((lg_cmp y2 (1 : Int64)) = 0 →
          Q (0 : Int32) w1))))))))) :
  qAt s d c_Searches_areSharing (qQi Q) 19 [some (.ref 61), some (.int i1), some (.int i2)] [] w := qAt_of u_Searches_areSharing [(2, [true, true, false]), (19, [true, true, true])] 33 h
