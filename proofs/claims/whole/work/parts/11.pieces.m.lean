/-! The pieces of the reference, from cut to cut: by a program of mine. -/
set_option maxRecDepth 100000 in
theorem A_Mo_copy_73 {s : Nat × (Nat → Int32)} {d : Nat} {w : qW} {Q : qW → Prop}  (h :
  qAt s d c_Mo_copy (qQv Q) 2 [some (.ref 73), some (.ref 74), some (.int (0 : Int32))] [] w) :
  qCall (some s) (d + 1) 206 [.ref 73, .ref 74] w (qQv Q) := qCall_of (cd := c_Mo_copy) (mL := 3) rfl u_Mo_copy [(2, [true, true, true])] 4 h
set_option maxRecDepth 100000 in
theorem A_Mo_copy_73_2 {s : Nat × (Nat → Int32)} {d : Nat} {w : qW} {Q : qW → Prop} {i2 : Int32} (h :
  ((262 : Int32) ≤ i2 →
    Q w) ∧
  (¬ (262 : Int32) ≤ i2 →
    qIn i2 262 ∧
    (qIn i2 262 ∧
    (qAt s d c_Mo_copy (qQv Q) 2 [some (.ref 73), some (.ref 74), some (.int (i2 + (1 : Int32)))] [] (qPutI w 74 (qIx i2) (w.1 73 (qIx i2))))))) :
  qAt s d c_Mo_copy (qQv Q) 2 [some (.ref 73), some (.ref 74), some (.int i2)] [] w := qAt_of u_Mo_copy [(2, [true, true, true])] 13 h

set_option maxRecDepth 100000 in
theorem A_Mo_copy_74 {s : Nat × (Nat → Int32)} {d : Nat} {w : qW} {Q : qW → Prop}  (h :
  qAt s d c_Mo_copy (qQv Q) 2 [some (.ref 74), some (.ref 73), some (.int (0 : Int32))] [] w) :
  qCall (some s) (d + 1) 206 [.ref 74, .ref 73] w (qQv Q) := qCall_of (cd := c_Mo_copy) (mL := 3) rfl u_Mo_copy [(2, [true, true, true])] 4 h
set_option maxRecDepth 100000 in
theorem A_Mo_copy_74_2 {s : Nat × (Nat → Int32)} {d : Nat} {w : qW} {Q : qW → Prop} {i2 : Int32} (h :
  ((262 : Int32) ≤ i2 →
    Q w) ∧
  (¬ (262 : Int32) ≤ i2 →
    qIn i2 262 ∧
    (qIn i2 262 ∧
    (qAt s d c_Mo_copy (qQv Q) 2 [some (.ref 74), some (.ref 73), some (.int (i2 + (1 : Int32)))] [] (qPutI w 73 (qIx i2) (w.1 74 (qIx i2))))))) :
  qAt s d c_Mo_copy (qQv Q) 2 [some (.ref 74), some (.ref 73), some (.int i2)] [] w := qAt_of u_Mo_copy [(2, [true, true, true])] 13 h

set_option maxRecDepth 100000 in
theorem A_Mo_person {s : Nat × (Nat → Int32)} {d : Nat} {w : qW} {Q : Int32 → qW → Prop} {i1 : Int32} {i2 : Int32} (h :
  qCall (some s) d 208 [.int i1, .int i2] w (qQi fun x2 w1 =>
    (x2 = 0 →
      Q (-1 : Int32) w1) ∧
    (¬ x2 = 0 →
      qIn (0 : Int32) 262 ∧
      ((¬ (w1.1 73 (qIx (0 : Int32))) = (12 : Int32) →
        qIn (0 : Int32) 262 ∧
        (qIn ((10 : Int32) + ((2 : Int32) * (w1.1 73 (qIx (0 : Int32))))) 262 ∧
        (qIn (0 : Int32) 262 ∧
        (qIn (((10 : Int32) + ((2 : Int32) * ((qPutI w1 73 (qIx ((10 : Int32) + ((2 : Int32) * (w1.1 73 (qIx (0 : Int32)))))) i1).1 73 (qIx (0 : Int32))))) + (1 : Int32)) 262 ∧
        (qIn (0 : Int32) 262 ∧
        (qIn (0 : Int32) 262 ∧
        (qIn (0 : Int32) 262 ∧
        (Q (((qPutI (qPutI (qPutI w1 73 (qIx ((10 : Int32) + ((2 : Int32) * (w1.1 73 (qIx (0 : Int32)))))) i1) 73 (qIx (((10 : Int32) + ((2 : Int32) * ((qPutI w1 73 (qIx ((10 : Int32) + ((2 : Int32) * (w1.1 73 (qIx (0 : Int32)))))) i1).1 73 (qIx (0 : Int32))))) + (1 : Int32))) i2) 73 (qIx (0 : Int32)) (((qPutI (qPutI w1 73 (qIx ((10 : Int32) + ((2 : Int32) * (w1.1 73 (qIx (0 : Int32)))))) i1) 73 (qIx (((10 : Int32) + ((2 : Int32) * ((qPutI w1 73 (qIx ((10 : Int32) + ((2 : Int32) * (w1.1 73 (qIx (0 : Int32)))))) i1).1 73 (qIx (0 : Int32))))) + (1 : Int32))) i2).1 73 (qIx (0 : Int32))) + (1 : Int32))).1 73 (qIx (0 : Int32))) - (1 : Int32)) (qPutI (qPutI (qPutI w1 73 (qIx ((10 : Int32) + ((2 : Int32) * (w1.1 73 (qIx (0 : Int32)))))) i1) 73 (qIx (((10 : Int32) + ((2 : Int32) * ((qPutI w1 73 (qIx ((10 : Int32) + ((2 : Int32) * (w1.1 73 (qIx (0 : Int32)))))) i1).1 73 (qIx (0 : Int32))))) + (1 : Int32))) i2) 73 (qIx (0 : Int32)) (((qPutI (qPutI w1 73 (qIx ((10 : Int32) + ((2 : Int32) * (w1.1 73 (qIx (0 : Int32)))))) i1) 73 (qIx (((10 : Int32) + ((2 : Int32) * ((qPutI w1 73 (qIx ((10 : Int32) + ((2 : Int32) * (w1.1 73 (qIx (0 : Int32)))))) i1).1 73 (qIx (0 : Int32))))) + (1 : Int32))) i2).1 73 (qIx (0 : Int32))) + (1 : Int32))))))))))) ∧
      ((w1.1 73 (qIx (0 : Int32))) = (12 : Int32) →
        Q (-1 : Int32) w1))))) :
  qCall (some s) (d + 1) 207 [.ref 72, .int i1, .int i2] w (qQi Q) := qCall_of (cd := c_Mo_person) (mL := 3) rfl u_Mo_person [] 52 h

set_option maxRecDepth 100000 in
theorem A_Mo_isCaller {s : Nat × (Nat → Int32)} {d : Nat} {w : qW} {Q : Int32 → qW → Prop} {i0 : Int32} {i1 : Int32} (h :
  qCall (some s) d 209 [.int i0, .int (1 : Int32), .int (9999 : Int32)] w (qQi fun x2 w1 =>
    (x2 = 0 →
      Q (0 : Int32) w1) ∧
    (¬ x2 = 0 →
      qCall (some s) d 209 [.int i1, .int (0 : Int32), .int (9999 : Int32)] w1 (qQi fun x4 w3 =>
        (x4 = 0 →
          Q (0 : Int32) w3) ∧
        (¬ x4 = 0 →
          Q (1 : Int32) w3))))) :
  qCall (some s) (d + 1) 208 [.int i0, .int i1] w (qQi Q) := qCall_of (cd := c_Mo_isCaller) (mL := 2) rfl u_Mo_isCaller [] 14 h

set_option maxRecDepth 100000 in
theorem A_Mo_isIn {s : Nat × (Nat → Int32)} {d : Nat} {w : qW} {Q : Int32 → qW → Prop} {i0 : Int32} {i1 : Int32} {i2 : Int32} (h :
  (i0 < i1 →
    Q (0 : Int32) w) ∧
  (¬ i0 < i1 →
    (i2 < i0 →
      Q (0 : Int32) w) ∧
    (¬ i2 < i0 →
      Q (1 : Int32) w))) :
  qCall (some s) (d + 1) 209 [.int i0, .int i1, .int i2] w (qQi Q) := qCall_of (cd := c_Mo_isIn) (mL := 3) rfl u_Mo_isIn [] 10 h

set_option maxRecDepth 100000 in
theorem A_Mo_change {s : Nat × (Nat → Int32)} {d : Nat} {w : qW} {Q : Int32 → qW → Prop} {i1 : Int32} {i2 : Int32} {i3 : Int32} (h :
  qCall (some s) d 211 [.ref 72, .int i1] w (qQi fun x2 w1 =>
    (x2 = 0 →
      Q (0 : Int32) w1) ∧
    (¬ x2 = 0 →
      qCall (some s) d 208 [.int i2, .int i3] w1 (qQi fun x4 w3 =>
        (¬ x4 = 0 →
          qIn ((10 : Int32) + ((2 : Int32) * i1)) 262 ∧
          (qIn (((10 : Int32) + ((2 : Int32) * i1)) + (1 : Int32)) 262 ∧
          (Q (1 : Int32) (qPutI (qPutI w3 73 (qIx ((10 : Int32) + ((2 : Int32) * i1))) i2) 73 (qIx (((10 : Int32) + ((2 : Int32) * i1)) + (1 : Int32))) i3)))) ∧
        (x4 = 0 →
          Q (0 : Int32) w3))))) :
  qCall (some s) (d + 1) 210 [.ref 72, .int i1, .int i2, .int i3] w (qQi Q) := qCall_of (cd := c_Mo_change) (mL := 4) rfl u_Mo_change [] 31 h

set_option maxRecDepth 100000 in
theorem A_Mo_isPerson {s : Nat × (Nat → Int32)} {d : Nat} {w : qW} {Q : Int32 → qW → Prop} {i1 : Int32} (h :
  qIn (0 : Int32) 262 ∧
  (qCall (some s) d 209 [.int i1, .int (0 : Int32), .int ((w.1 73 (qIx (0 : Int32))) - (1 : Int32))] w (qQi fun x2 w1 =>
    qB (qZb x2) (Q x2 w1)))) :
  qCall (some s) (d + 1) 211 [.ref 72, .int i1] w (qQi Q) := qCall_of (cd := c_Mo_isPerson) (mL := 2) rfl u_Mo_isPerson [] 11 h

set_option maxRecDepth 100000 in
theorem A_Mo_day {s : Nat × (Nat → Int32)} {d : Nat} {w : qW} {Q : Int32 → qW → Prop} {i1 : Int32} (h :
  qCall (some s) d 213 [.int i1] w (qQi fun x2 w1 =>
    (¬ x2 = 0 →
      qIn (1 : Int32) 262 ∧
      (Q (1 : Int32) (qPutI w1 73 (qIx (1 : Int32)) i1))) ∧
    (x2 = 0 →
      Q (0 : Int32) w1))) :
  qCall (some s) (d + 1) 212 [.ref 72, .int i1] w (qQi Q) := qCall_of (cd := c_Mo_day) (mL := 2) rfl u_Mo_day [] 11 h

set_option maxRecDepth 100000 in
theorem A_Mo_isDay {s : Nat × (Nat → Int32)} {d : Nat} {w : qW} {Q : Int32 → qW → Prop} {i0 : Int32} (h :
  (i0 = 0 →
    Q (1 : Int32) w) ∧
  (¬ i0 = 0 →
    qCall (some s) d 209 [.int i0, .int (2 : Int32), .int (999 : Int32)] w (qQi fun x2 w1 =>
      (x2 = 0 →
        Q (0 : Int32) w1) ∧
      (¬ x2 = 0 →
        Q (1 : Int32) w1)))) :
  qCall (some s) (d + 1) 213 [.int i0] w (qQi Q) := qCall_of (cd := c_Mo_isDay) (mL := 1) rfl u_Mo_isDay [] 11 h

set_option maxRecDepth 100000 in
theorem A_Mo_clock {s : Nat × (Nat → Int32)} {d : Nat} {w : qW} {Q : Int32 → qW → Prop} {i1 : Int32} (h :
  qCall (some s) d 209 [.int i1, .int (1 : Int32), .int (60 : Int32)] w (qQi fun x2 w1 =>
    (¬ x2 = 0 →
      qIn (2 : Int32) 262 ∧
      (Q (1 : Int32) (qPutI w1 73 (qIx (2 : Int32)) i1))) ∧
    (x2 = 0 →
      Q (0 : Int32) w1))) :
  qCall (some s) (d + 1) 214 [.ref 72, .int i1] w (qQi Q) := qCall_of (cd := c_Mo_clock) (mL := 2) rfl u_Mo_clock [] 13 h

set_option maxRecDepth 100000 in
theorem A_Mo_near {s : Nat × (Nat → Int32)} {d : Nat} {w : qW} {Q : Int32 → qW → Prop} {i1 : Int32} {i2 : Int32} {i3 : Int32} (h :
  qCall (some s) d 211 [.ref 72, .int i1] w (qQi fun x2 w1 =>
    (x2 = 0 →
      Q (0 : Int32) w1) ∧
    (¬ x2 = 0 →
      qCall (some s) d 211 [.ref 72, .int i2] w1 (qQi fun x4 w3 =>
        (x4 = 0 →
          Q (0 : Int32) w3) ∧
        (¬ x4 = 0 →
          (¬ i1 = i2 →
            (i3 = 0 →
              qIn ((40 : Int32) + i1) 262 ∧
              (qAt s d c_Mo_near (qQi Q) 66 [some (.ref 72), some (.int i1), some (.int i2), some (.int i3)] [.int ((w3.1 73 (qIx ((40 : Int32) + i1))) &&& ((qShl (1 : Int32) i2) ^^^ (-1 : Int32))), .int ((40 : Int32) + i1), .ref 73] w3)) ∧
            (¬ i3 = 0 →
              qIn ((40 : Int32) + i1) 262 ∧
              (qAt s d c_Mo_near (qQi Q) 66 [some (.ref 72), some (.int i1), some (.int i2), some (.int i3)] [.int ((w3.1 73 (qIx ((40 : Int32) + i1))) ||| (qShl (1 : Int32) i2)), .int ((40 : Int32) + i1), .ref 73] w3))) ∧
          (i1 = i2 →
            Q (0 : Int32) w3)))))) :
  qCall (some s) (d + 1) 215 [.ref 72, .int i1, .int i2, .int i3] w (qQi Q) := qCall_of (cd := c_Mo_near) (mL := 4) rfl u_Mo_near [(66, [true, true, true, true])] 32 h
set_option maxRecDepth 100000 in
theorem A_Mo_near_66 {s : Nat × (Nat → Int32)} {d : Nat} {w : qW} {Q : Int32 → qW → Prop} {i1 : Int32} {i2 : Int32} {i3 : Int32} {is0 : Int32} {is1 : Int32} (h :
  qIn is1 262 ∧
  ((i3 = 0 →
    qIn ((40 : Int32) + i2) 262 ∧
    (qIn ((40 : Int32) + i2) 262 ∧
    (Q (1 : Int32) (qPutI (qPutI w 73 (qIx is1) is0) 73 (qIx ((40 : Int32) + i2)) (((qPutI w 73 (qIx is1) is0).1 73 (qIx ((40 : Int32) + i2))) &&& ((qShl (1 : Int32) i1) ^^^ (-1 : Int32))))))) ∧
  (¬ i3 = 0 →
    qIn ((40 : Int32) + i2) 262 ∧
    (qIn ((40 : Int32) + i2) 262 ∧
    (Q (1 : Int32) (qPutI (qPutI w 73 (qIx is1) is0) 73 (qIx ((40 : Int32) + i2)) (((qPutI w 73 (qIx is1) is0).1 73 (qIx ((40 : Int32) + i2))) ||| (qShl (1 : Int32) i1)))))))) :
  qAt s d c_Mo_near (qQi Q) 66 [some (.ref 72), some (.int i1), some (.int i2), some (.int i3)] [.int is0, .int is1, .ref 73] w := qAt_of u_Mo_near [(66, [true, true, true, true])] 24 h

set_option maxRecDepth 100000 in
theorem A_Mo_feed {s : Nat × (Nat → Int32)} {d : Nat} {w : qW} {Q : Int32 → qW → Prop} {i1 : Int32} {i2 : Int32} {i3 : Int32} {i4 : Int32} {i5 : Int32} (h :
  (((w.1 72 6) + (20 : Int32)) ≤ (300 : Int32) →
    qCall (some s) d 217 [.ref 72, .int i1] w (qQv fun w1 =>
      qCall (some s) d 217 [.ref 72, .int i2] w1 (qQv fun w2 =>
        qCall (some s) d 217 [.ref 72, .int i3] w2 (qQv fun w3 =>
          qCall (some s) d 217 [.ref 72, .int i4] w3 (qQv fun w4 =>
            qCall (some s) d 217 [.ref 72, .int i5] w4 (qQv fun w5 =>
              Q (w5.1 72 6) w5)))))) ∧
  (¬ ((w.1 72 6) + (20 : Int32)) ≤ (300 : Int32) →
    Q (-1 : Int32) w)) :
  qCall (some s) (d + 1) 216 [.ref 72, .int i1, .int i2, .int i3, .int i4, .int i5] w (qQi Q) := qCall_of (cd := c_Mo_feed) (mL := 6) rfl u_Mo_feed [] 25 h

set_option maxRecDepth 100000 in
theorem A_Mo_four {s : Nat × (Nat → Int32)} {d : Nat} {w : qW} {Q : qW → Prop} {i1 : Int32} (h :
  qAt s d c_Mo_four (qQv Q) 3 [some (.ref 72), some (.int i1), some (.int (24 : Int32))] [] w) :
  qCall (some s) (d + 1) 217 [.ref 72, .int i1] w (qQv Q) := qCall_of (cd := c_Mo_four) (mL := 3) rfl u_Mo_four [(3, [true, true, true])] 4 h
set_option maxRecDepth 100000 in
theorem A_Mo_four_3 {s : Nat × (Nat → Int32)} {d : Nat} {w : qW} {Q : qW → Prop} {i1 : Int32} {i2 : Int32} (h :
  (i2 < 0 →
    Q w) ∧
  (¬ i2 < 0 →
    qIn (w.1 72 6) 300 ∧
    (qAt s d c_Mo_four (qQv Q) 3 [some (.ref 72), some (.int i1), some (.int (i2 + (-8 : Int32)))] [] (qPutI (qPutI w 78 (qIx (w.1 72 6)) ((qShr i1 i2) &&& (255 : Int32))) 72 6 ((w.1 72 6) + (1 : Int32)))))) :
  qAt s d c_Mo_four (qQv Q) 3 [some (.ref 72), some (.int i1), some (.int i2)] [] w := qAt_of u_Mo_four [(3, [true, true, true])] 22 h

set_option maxRecDepth 100000 in
theorem A_Mo_end {s : Nat × (Nat → Int32)} {d : Nat} {w : qW} {Q : Int32 → qW → Prop} {i1 : Int32} (h :
  qCall (some s) d 209 [.int i1, .int (0 : Int32), .int (w.1 72 6)] w (qQi fun x2 w1 =>
    (¬ x2 = 0 →
      Q i1 (qPutI w1 72 6 i1)) ∧
    (x2 = 0 →
      Q (-1 : Int32) w1))) :
  qCall (some s) (d + 1) 218 [.ref 72, .int i1] w (qQi Q) := qCall_of (cd := c_Mo_end) (mL := 2) rfl u_Mo_end [] 12 h

set_option maxRecDepth 100000 in
theorem A_Mo_text {s : Nat × (Nat → Int32)} {d : Nat} {w : qW} {Q : Int32 → qW → Prop}  (h :
  qIn (3 : Int32) 262 ∧
  ((¬ (w.1 73 (qIx (3 : Int32))) = (4 : Int32) →
    qCall (some s) d 220 [.ref 72] w (qQi fun x2 w1 =>
      (¬ x2 = 0 →
        qAt s d c_Mo_text (qQi Q) 36 [some (.ref 72)] [.int (w1.1 72 10), .ref 72] (qPutI w1 72 7 x2)) ∧
      (x2 = 0 →
        qAt s d c_Mo_text (qQi Q) 36 [some (.ref 72)] [.int (-1 : Int32), .ref 72] (qPutI w1 72 7 x2)))) ∧
  ((w.1 73 (qIx (3 : Int32))) = (4 : Int32) →
    Q (-1 : Int32) w))) :
  qCall (some s) (d + 1) 219 [.ref 72] w (qQi Q) := qCall_of (cd := c_Mo_text) (mL := 1) rfl u_Mo_text [(36, [true])] 18 h
set_option maxRecDepth 100000 in
theorem A_Mo_text_36 {s : Nat × (Nat → Int32)} {d : Nat} {w : qW} {Q : Int32 → qW → Prop} {is0 : Int32} (h :
  ((w.1 72 7) = 0 →
    qIn (3 : Int32) 262 ∧
    (qIn (3 : Int32) 262 ∧
    (qIn (3 : Int32) 262 ∧
    (Q (((qPutI (qPutI (qPutI w 72 8 is0) 72 6 (0 : Int32)) 73 (qIx (3 : Int32)) ((w.1 73 (qIx (3 : Int32))) + (1 : Int32))).1 73 (qIx (3 : Int32))) - (1 : Int32)) (qPutI (qPutI (qPutI w 72 8 is0) 72 6 (0 : Int32)) 73 (qIx (3 : Int32)) ((w.1 73 (qIx (3 : Int32))) + (1 : Int32))))))) ∧
  (¬ (w.1 72 7) = 0 →
    Q (-1 : Int32) (qPutI (qPutI w 72 8 is0) 72 6 (0 : Int32)))) :
  qAt s d c_Mo_text (qQi Q) 36 [some (.ref 72)] [.int is0, .ref 72] w := qAt_of u_Mo_text [(36, [true])] 23 h

set_option maxRecDepth 100000 in
theorem A_Mo_readText {s : Nat × (Nat → Int32)} {d : Nat} {w : qW} {Q : Int32 → qW → Prop}  (h :
  qIn (3 : Int32) 262 ∧
  (qIn ((700 : Int32) * (w.1 73 (qIx (3 : Int32)))) 2800 ∧
  (qAt s d c_Mo_readText (qQi Q) 34 [some (.ref 72), none] [] (qPutI (qPutI (qPutI (qPutI w 72 14 ((700 : Int32) * (w.1 73 (qIx (3 : Int32))))) 77 (qIx ((700 : Int32) * (w.1 73 (qIx (3 : Int32))))) (0 : Int32)) 72 16 (0 : Int32)) 72 20 (0 : Int32))))) :
  qCall (some s) (d + 1) 220 [.ref 72] w (qQi Q) := qCall_of (cd := c_Mo_readText) (mL := 2) rfl u_Mo_readText [(34, [true, false]), (48, [true, false])] 22 h
set_option maxRecDepth 100000 in
theorem A_Mo_readText_34 {s : Nat × (Nat → Int32)} {d : Nat} {w : qW} {Q : Int32 → qW → Prop}  (h :
  qCall (some s) d 221 [.ref 72] (qPutI (qPutI w 72 23 (0 : Int32)) 72 9 (0 : Int32)) (qQv fun w1 =>
    qAt s d c_Mo_readText (qQi Q) 48 [some (.ref 72), none] [] w1)) :
  qAt s d c_Mo_readText (qQi Q) 34 [some (.ref 72), none] [] w := qAt_of u_Mo_readText [(34, [true, false]), (48, [true, false])] 10 h
set_option maxRecDepth 100000 in
theorem A_Mo_readText_48 {s : Nat × (Nat → Int32)} {d : Nat} {w : qW} {Q : Int32 → qW → Prop}  (h :
  ((w.1 72 11) = 0 →
    Q (0 : Int32) w) ∧
  (¬ (w.1 72 11) = 0 →
    qCall (some s) d 225 [.ref 72] w (qQi fun x2 w1 =>
      (x2 = 0 →
        qAt s d c_Mo_readText (qQi Q) 48 [some (.ref 72), none] [] w1) ∧
      (¬ x2 = 0 →
        Q x2 w1)))) :
  qAt s d c_Mo_readText (qQi Q) 48 [some (.ref 72), none] [] w := qAt_of u_Mo_readText [(34, [true, false]), (48, [true, false])] 11 h

theorem A_Mo_nextToken {s : Nat × (Nat → Int32)} {d : Nat} {w : qW} {Q : qW → Prop}  (h : qAt s d c_Mo_nextToken (qQv Q) 0 [some (.ref 72), none, none] [] w) :
  qCall (some s) (d + 1) 221 [.ref 72] w (qQv Q) := qCall_at (cd := c_Mo_nextToken) (mL := 3) rfl [true, false, false] h
set_option maxRecDepth 100000 in
theorem A_Mo_nextToken_0 {s : Nat × (Nat → Int32)} {d : Nat} {w : qW} {Q : qW → Prop}  (h :
  qCall (some s) d 222 [.ref 72, .int (w.1 72 9)] w (qQi fun x2 w1 =>
    (x2 = (32 : Int32) →
      qAt s d c_Mo_nextToken (qQv Q) 0 [some (.ref 72), none, none] [] (qPutI w1 72 9 ((w1.1 72 9) + (1 : Int32)))) ∧
    (¬ x2 = (32 : Int32) →
      qCall (some s) d 222 [.ref 72, .int (w1.1 72 9)] w1 (qQi fun x4 w3 =>
        (¬ x4 = (10 : Int32) →
          qCall (some s) d 222 [.ref 72, .int (w3.1 72 9)] (qPutI w3 72 10 (w3.1 72 9)) (qQi fun x6 w5 =>
            (0 ≤ x6 →
              qCall (some s) d 223 [.int x6] w5 (qQi fun x8 w7 =>
                (x8 = 0 →
                  qCall (some s) d 224 [.int x6] w7 (qQi fun x10 w9 =>
                    (x10 = 0 →
                      (x6 = (60 : Int32) →
                        qAt s d c_Mo_nextToken (qQv Q) 338 [some (.ref 72), some (.int x6), none] [.int (1 : Int32)] (qPutI w9 72 9 ((w9.1 72 9) + (1 : Int32)))) ∧
                      (¬ x6 = (60 : Int32) →
                        (x6 = (62 : Int32) →
                          qAt s d c_Mo_nextToken (qQv Q) 338 [some (.ref 72), some (.int x6), none] [.int (1 : Int32)] (qPutI w9 72 9 ((w9.1 72 9) + (1 : Int32)))) ∧
                        (¬ x6 = (62 : Int32) →
                          (x6 = (61 : Int32) →
                            qAt s d c_Mo_nextToken (qQv Q) 338 [some (.ref 72), some (.int x6), none] [.int (1 : Int32)] (qPutI w9 72 9 ((w9.1 72 9) + (1 : Int32)))) ∧
                          (¬ x6 = (61 : Int32) →
                            (x6 = (35 : Int32) →
                              qAt s d c_Mo_nextToken (qQv Q) 338 [some (.ref 72), some (.int x6), none] [.int (1 : Int32)] (qPutI w9 72 9 ((w9.1 72 9) + (1 : Int32)))) ∧
                            (¬ x6 = (35 : Int32) →
                              (x6 = (43 : Int32) →
                                qAt s d c_Mo_nextToken (qQv Q) 338 [some (.ref 72), some (.int x6), none] [.int (1 : Int32)] (qPutI w9 72 9 ((w9.1 72 9) + (1 : Int32)))) ∧
                              (¬ x6 = (43 : Int32) →
                                (x6 = (45 : Int32) →
                                  qAt s d c_Mo_nextToken (qQv Q) 338 [some (.ref 72), some (.int x6), none] [.int (1 : Int32)] (qPutI w9 72 9 ((w9.1 72 9) + (1 : Int32)))) ∧
                                (¬ x6 = (45 : Int32) →
                                  (x6 = (42 : Int32) →
                                    qAt s d c_Mo_nextToken (qQv Q) 338 [some (.ref 72), some (.int x6), none] [.int (1 : Int32)] (qPutI w9 72 9 ((w9.1 72 9) + (1 : Int32)))) ∧
                                  (¬ x6 = (42 : Int32) →
                                    (x6 = (47 : Int32) →
                                      qAt s d c_Mo_nextToken (qQv Q) 338 [some (.ref 72), some (.int x6), none] [.int (1 : Int32)] (qPutI w9 72 9 ((w9.1 72 9) + (1 : Int32)))) ∧
                                    (¬ x6 = (47 : Int32) →
                                      (x6 = (37 : Int32) →
                                        qAt s d c_Mo_nextToken (qQv Q) 338 [some (.ref 72), some (.int x6), none] [.int (1 : Int32)] (qPutI w9 72 9 ((w9.1 72 9) + (1 : Int32)))) ∧
                                      (¬ x6 = (37 : Int32) →
                                        (x6 = (40 : Int32) →
                                          qAt s d c_Mo_nextToken (qQv Q) 338 [some (.ref 72), some (.int x6), none] [.int (1 : Int32)] (qPutI w9 72 9 ((w9.1 72 9) + (1 : Int32)))) ∧
                                        (¬ x6 = (40 : Int32) →
                                          (x6 = (41 : Int32) →
                                            qAt s d c_Mo_nextToken (qQv Q) 338 [some (.ref 72), some (.int x6), none] [.int (1 : Int32)] (qPutI w9 72 9 ((w9.1 72 9) + (1 : Int32)))) ∧
                                          (¬ x6 = (41 : Int32) →
                                            (x6 = (59 : Int32) →
                                              qAt s d c_Mo_nextToken (qQv Q) 338 [some (.ref 72), some (.int x6), none] [.int (1 : Int32)] (qPutI w9 72 9 ((w9.1 72 9) + (1 : Int32)))) ∧
                                            (¬ x6 = (59 : Int32) →
                                              (¬ x6 = (44 : Int32) →
                                                qAt s d c_Mo_nextToken (qQv Q) 338 [some (.ref 72), some (.int x6), none] [.int (0 : Int32)] (qPutI w9 72 9 ((w9.1 72 9) + (1 : Int32)))) ∧
                                              (x6 = (44 : Int32) →
                                                qAt s d c_Mo_nextToken (qQv Q) 338 [some (.ref 72), some (.int x6), none] [.int (1 : Int32)] (qPutI w9 72 9 ((w9.1 72 9) + (1 : Int32))))))))))))))))) ∧
                    (¬ x10 = 0 →
                      qAt s d c_Mo_nextToken (qQv Q) 161 [some (.ref 72), none, none] [] (qPutL (qPutI w9 72 11 (2 : Int32)) 72 13 (0 : Int64))))) ∧
                (¬ x8 = 0 →
                  qAt s d c_Mo_nextToken (qQv Q) 85 [some (.ref 72), none, none] [] (qPutI (qPutI w7 72 11 (1 : Int32)) 72 12 (0 : Int32))))) ∧
            (¬ 0 ≤ x6 →
              Q (qPutI w5 72 11 (0 : Int32))))) ∧
        (x4 = (10 : Int32) →
          qAt s d c_Mo_nextToken (qQv Q) 0 [some (.ref 72), none, none] [] (qPutI w3 72 9 ((w3.1 72 9) + (1 : Int32)))))))) :
  qAt s d c_Mo_nextToken (qQv Q) 0 [some (.ref 72), none, none] [] w := qAt_of u_Mo_nextToken [(0, [true, false, false]), (85, [true, false, false]), (161, [true, false, false]), (338, [true, true, false]), (364, [true, true, false])] 78 h
set_option maxRecDepth 100000 in
theorem A_Mo_nextToken_338 {s : Nat × (Nat → Int32)} {d : Nat} {w : qW} {Q : qW → Prop} {i1 : Int32} {is0 : Int32} (h :
  (is0 = 0 →
    (i1 = (60 : Int32) →
      qAt s d c_Mo_nextToken (qQv Q) 364 [some (.ref 72), some (.int i1), none] [] (qPutI w 72 11 (3 : Int32))) ∧
    (¬ i1 = (60 : Int32) →
      (¬ i1 = (62 : Int32) →
        Q (qPutI w 72 11 (3 : Int32))) ∧
      (i1 = (62 : Int32) →
        qAt s d c_Mo_nextToken (qQv Q) 364 [some (.ref 72), some (.int i1), none] [] (qPutI w 72 11 (3 : Int32))))) ∧
  (¬ is0 = 0 →
    (i1 = (60 : Int32) →
      qAt s d c_Mo_nextToken (qQv Q) 364 [some (.ref 72), some (.int i1), none] [] (qPutI w 72 11 i1)) ∧
    (¬ i1 = (60 : Int32) →
      (¬ i1 = (62 : Int32) →
        Q (qPutI w 72 11 i1)) ∧
      (i1 = (62 : Int32) →
        qAt s d c_Mo_nextToken (qQv Q) 364 [some (.ref 72), some (.int i1), none] [] (qPutI w 72 11 i1))))) :
  qAt s d c_Mo_nextToken (qQv Q) 338 [some (.ref 72), some (.int i1), none] [.int is0] w := qAt_of u_Mo_nextToken [(0, [true, false, false]), (85, [true, false, false]), (161, [true, false, false]), (338, [true, true, false]), (364, [true, true, false])] 15 h
set_option maxRecDepth 100000 in
theorem A_Mo_nextToken_161 {s : Nat × (Nat → Int32)} {d : Nat} {w : qW} {Q : qW → Prop}  (h :
  qCall (some s) d 222 [.ref 72, .int (w.1 72 9)] w (qQi fun x2 w1 =>
    qCall (some s) d 224 [.int x2] w1 (qQi fun x4 w3 =>
      (x4 = 0 →
        (((w3.1 72 9) - (w3.1 72 10)) ≤ (7 : Int32) →
          Q w3) ∧
        (¬ ((w3.1 72 9) - (w3.1 72 10)) ≤ (7 : Int32) →
          Q (qPutL w3 72 13 (0 : Int64)))) ∧
      (¬ x4 = 0 →
        ((7 : Int32) ≤ ((w3.1 72 9) - (w3.1 72 10)) →
          qAt s d c_Mo_nextToken (qQv Q) 161 [some (.ref 72), none, none] [] (qPutI w3 72 9 ((w3.1 72 9) + (1 : Int32)))) ∧
        (¬ (7 : Int32) ≤ ((w3.1 72 9) - (w3.1 72 10)) →
          qCall (some s) d 222 [.ref 72, .int (w3.1 72 9)] w3 (qQi fun x6 w5 =>
            qAt s d c_Mo_nextToken (qQv Q) 161 [some (.ref 72), none, none] [] (qPutI (qPutL w5 72 13 ((qLshl (w3.2.1 72 13) (8 : Int32)) ||| (Int32.toInt64 x6))) 72 9 ((w5.1 72 9) + (1 : Int32))))))))) :
  qAt s d c_Mo_nextToken (qQv Q) 161 [some (.ref 72), none, none] [] w := qAt_of u_Mo_nextToken [(0, [true, false, false]), (85, [true, false, false]), (161, [true, false, false]), (338, [true, true, false]), (364, [true, true, false])] 34 h
set_option maxRecDepth 100000 in
theorem A_Mo_nextToken_85 {s : Nat × (Nat → Int32)} {d : Nat} {w : qW} {Q : qW → Prop}  (h :
  qCall (some s) d 222 [.ref 72, .int (w.1 72 9)] w (qQi fun x2 w1 =>
    qCall (some s) d 223 [.int x2] w1 (qQi fun x4 w3 =>
      (x4 = 0 →
        Q w3) ∧
      (¬ x4 = 0 →
        ((100000 : Int32) ≤ (w3.1 72 12) →
          qAt s d c_Mo_nextToken (qQv Q) 85 [some (.ref 72), none, none] [] (qPutI w3 72 9 ((w3.1 72 9) + (1 : Int32)))) ∧
        (¬ (100000 : Int32) ≤ (w3.1 72 12) →
          qCall (some s) d 222 [.ref 72, .int (w3.1 72 9)] w3 (qQi fun x6 w5 =>
            qAt s d c_Mo_nextToken (qQv Q) 85 [some (.ref 72), none, none] [] (qPutI (qPutI w5 72 12 ((((10 : Int32) * (w3.1 72 12)) + x6) - (48 : Int32))) 72 9 ((w5.1 72 9) + (1 : Int32))))))))) :
  qAt s d c_Mo_nextToken (qQv Q) 85 [some (.ref 72), none, none] [] w := qAt_of u_Mo_nextToken [(0, [true, false, false]), (85, [true, false, false]), (161, [true, false, false]), (338, [true, true, false]), (364, [true, true, false])] 32 h
set_option maxRecDepth 100000 in
theorem A_Mo_nextToken_364 {s : Nat × (Nat → Int32)} {d : Nat} {w : qW} {Q : qW → Prop} {i1 : Int32} (h :
  qCall (some s) d 222 [.ref 72, .int (w.1 72 9)] w (qQi fun x2 w1 =>
    (¬ x2 = (61 : Int32) →
      Q w1) ∧
    (x2 = (61 : Int32) →
      (¬ i1 = (60 : Int32) →
        Q (qPutI (qPutI w1 72 9 ((w1.1 72 9) + (1 : Int32))) 72 11 (5 : Int32))) ∧
      (i1 = (60 : Int32) →
        Q (qPutI (qPutI w1 72 9 ((w1.1 72 9) + (1 : Int32))) 72 11 (4 : Int32)))))) :
  qAt s d c_Mo_nextToken (qQv Q) 364 [some (.ref 72), some (.int i1), none] [] w := qAt_of u_Mo_nextToken [(0, [true, false, false]), (85, [true, false, false]), (161, [true, false, false]), (338, [true, true, false]), (364, [true, true, false])] 21 h

set_option maxRecDepth 100000 in
theorem A_Mo_byteAt {s : Nat × (Nat → Int32)} {d : Nat} {w : qW} {Q : Int32 → qW → Prop} {i1 : Int32} (h :
  ((w.1 72 6) ≤ i1 →
    Q (-1 : Int32) w) ∧
  (¬ (w.1 72 6) ≤ i1 →
    qIn i1 300 ∧
    (Q (w.1 78 (qIx i1)) w))) :
  qCall (some s) (d + 1) 222 [.ref 72, .int i1] w (qQi Q) := qCall_of (cd := c_Mo_byteAt) (mL := 2) rfl u_Mo_byteAt [] 11 h

set_option maxRecDepth 100000 in
theorem A_Mo_isDigit {s : Nat × (Nat → Int32)} {d : Nat} {w : qW} {Q : Int32 → qW → Prop} {i0 : Int32} (h :
  qCall (some s) d 209 [.int i0, .int (48 : Int32), .int (57 : Int32)] w (qQi fun x2 w1 =>
    qB (qZb x2) (Q x2 w1))) :
  qCall (some s) (d + 1) 223 [.int i0] w (qQi Q) := qCall_of (cd := c_Mo_isDigit) (mL := 1) rfl u_Mo_isDigit [] 6 h

set_option maxRecDepth 100000 in
theorem A_Mo_isLetter {s : Nat × (Nat → Int32)} {d : Nat} {w : qW} {Q : Int32 → qW → Prop} {i0 : Int32} (h :
  qCall (some s) d 209 [.int i0, .int (97 : Int32), .int (122 : Int32)] w (qQi fun x2 w1 =>
    (¬ x2 = 0 →
      Q (1 : Int32) w1) ∧
    (x2 = 0 →
      qCall (some s) d 209 [.int i0, .int (65 : Int32), .int (90 : Int32)] w1 (qQi fun x4 w3 =>
        (x4 = 0 →
          Q (0 : Int32) w3) ∧
        (¬ x4 = 0 →
          Q (1 : Int32) w3))))) :
  qCall (some s) (d + 1) 224 [.int i0] w (qQi Q) := qCall_of (cd := c_Mo_isLetter) (mL := 1) rfl u_Mo_isLetter [] 14 h

set_option maxRecDepth 100000 in
theorem A_Mo_clause {s : Nat × (Nat → Int32)} {d : Nat} {w : qW} {Q : Int32 → qW → Prop}  (h :
  qCall (some s) d 226 [.ref 72] w (qQi fun x2 w1 =>
    (¬ x2 = 0 →
      (¬ x2 = (2 : Int32) →
        qAt s d c_Mo_clause (qQi Q) 25 [some (.ref 72), some (.int x2), none, none, none, none] [] w1) ∧
      (x2 = (2 : Int32) →
        ((w1.1 72 23) = 0 →
          qAt s d c_Mo_clause (qQi Q) 25 [some (.ref 72), some (.int x2), none, none, none, none] [] w1) ∧
        (¬ (w1.1 72 23) = 0 →
          Q (4 : Int32) w1))) ∧
    (x2 = 0 →
      Q (1 : Int32) w1))) :
  qCall (some s) (d + 1) 225 [.ref 72] w (qQi Q) := qCall_of (cd := c_Mo_clause) (mL := 6) rfl u_Mo_clause [(25, [true, true, false, false, false, false]), (62, [true, true, true, false, false, false]), (128, [true, true, false, true, true, false]), (165, [true, false, false, false, false, false])] 14 h
set_option maxRecDepth 100000 in
theorem A_Mo_clause_25 {s : Nat × (Nat → Int32)} {d : Nat} {w : qW} {Q : Int32 → qW → Prop} {i1 : Int32} (h :
  qIn (w.1 72 14) 2800 ∧
  ((¬ (w.1 77 (qIx (w.1 72 14))) = (24 : Int32) →
    (¬ (w.1 72 23) = 0 →
      qAt s d c_Mo_clause (qQi Q) 62 [some (.ref 72), some (.int i1), some (.int (w.1 77 (qIx (w.1 72 14)))), none, none, none] [.int (1 : Int32), .ref 72] w) ∧
    ((w.1 72 23) = 0 →
      (¬ i1 = (2 : Int32) →
        qAt s d c_Mo_clause (qQi Q) 62 [some (.ref 72), some (.int i1), some (.int (w.1 77 (qIx (w.1 72 14)))), none, none, none] [.int (0 : Int32), .ref 72] w) ∧
      (i1 = (2 : Int32) →
        qAt s d c_Mo_clause (qQi Q) 62 [some (.ref 72), some (.int i1), some (.int (w.1 77 (qIx (w.1 72 14)))), none, none, none] [.int (1 : Int32), .ref 72] w))) ∧
  ((w.1 77 (qIx (w.1 72 14))) = (24 : Int32) →
    Q (6 : Int32) w))) :
  qAt s d c_Mo_clause (qQi Q) 25 [some (.ref 72), some (.int i1), none, none, none, none] [] w := qAt_of u_Mo_clause [(25, [true, true, false, false, false, false]), (62, [true, true, true, false, false, false]), (128, [true, true, false, true, true, false]), (165, [true, false, false, false, false, false])] 20 h
set_option maxRecDepth 100000 in
theorem A_Mo_clause_62 {s : Nat × (Nat → Int32)} {d : Nat} {w : qW} {Q : Int32 → qW → Prop} {i1 : Int32} {i2 : Int32} {is0 : Int32} (h :
  qB (qZb is0) (qCall (some s) d 221 [.ref 72] (qPutI (qPutI w 72 23 is0) 72 22 i1) (qQv fun w1 =>
    qIn (((w1.1 72 14) + (1 : Int32)) + ((3 : Int32) * i2)) 2800 ∧
    ((i1 < (3 : Int32) →
      (¬ i1 = (2 : Int32) →
        qCall (some s) d 245 [.ref 72] (qPutI w1 77 (qIx (((w1.1 72 14) + (1 : Int32)) + ((3 : Int32) * i2))) i1) (qQi fun x3 w2 =>
          qAt s d c_Mo_clause (qQi Q) 128 [some (.ref 72), some (.int i1), none, some (.int (((w1.1 72 14) + (1 : Int32)) + ((3 : Int32) * i2))), some (.int (w1.1 72 16)), none] [.int x3] w2)) ∧
      (i1 = (2 : Int32) →
        qCall (some s) d 234 [.ref 72] (qPutI w1 77 (qIx (((w1.1 72 14) + (1 : Int32)) + ((3 : Int32) * i2))) i1) (qQi fun x5 w4 =>
          qAt s d c_Mo_clause (qQi Q) 128 [some (.ref 72), some (.int i1), none, some (.int (((w1.1 72 14) + (1 : Int32)) + ((3 : Int32) * i2))), some (.int (w1.1 72 16)), none] [.int x5] w4))) ∧
    (¬ i1 < (3 : Int32) →
      qCall (some s) d 232 [.ref 72, .int (((w1.1 72 14) + (1 : Int32)) + ((3 : Int32) * i2)), .int i1] (qPutI w1 77 (qIx (((w1.1 72 14) + (1 : Int32)) + ((3 : Int32) * i2))) i1) (qQi fun x7 w6 =>
        qAt s d c_Mo_clause (qQi Q) 128 [some (.ref 72), some (.int i1), none, some (.int (((w1.1 72 14) + (1 : Int32)) + ((3 : Int32) * i2))), some (.int (w1.1 72 16)), none] [.int x7] w6)))))) :
  qAt s d c_Mo_clause (qQi Q) 62 [some (.ref 72), some (.int i1), some (.int i2), none, none, none] [.int is0, .ref 72] w := qAt_of u_Mo_clause [(25, [true, true, false, false, false, false]), (62, [true, true, true, false, false, false]), (128, [true, true, false, true, true, false]), (165, [true, false, false, false, false, false])] 34 h
set_option maxRecDepth 100000 in
theorem A_Mo_clause_128 {s : Nat × (Nat → Int32)} {d : Nat} {w : qW} {Q : Int32 → qW → Prop} {i1 : Int32} {i3 : Int32} {i4 : Int32} {is0 : Int32} (h :
  (is0 = 0 →
    ((3 : Int32) ≤ i1 →
      qAt s d c_Mo_clause (qQi Q) 165 [some (.ref 72), none, none, none, none, none] [] w) ∧
    (¬ (3 : Int32) ≤ i1 →
      qIn (i3 + (1 : Int32)) 2800 ∧
      (qIn (i3 + (2 : Int32)) 2800 ∧
      (qAt s d c_Mo_clause (qQi Q) 165 [some (.ref 72), none, none, none, none, none] [] (qPutI (qPutI w 77 (qIx (i3 + (1 : Int32))) i4) 77 (qIx (i3 + (2 : Int32))) (w.1 72 16)))))) ∧
  (¬ is0 = 0 →
    Q is0 w)) :
  qAt s d c_Mo_clause (qQi Q) 128 [some (.ref 72), some (.int i1), none, some (.int i3), some (.int i4), none] [.int is0] w := qAt_of u_Mo_clause [(25, [true, true, false, false, false, false]), (62, [true, true, true, false, false, false]), (128, [true, true, false, true, true, false]), (165, [true, false, false, false, false, false])] 23 h
set_option maxRecDepth 100000 in
theorem A_Mo_clause_165 {s : Nat × (Nat → Int32)} {d : Nat} {w : qW} {Q : Int32 → qW → Prop}  (h :
  qIn (w.1 72 14) 2800 ∧
  (qIn (w.1 72 14) 2800 ∧
  (((w.1 72 11) = (59 : Int32) →
    qCall (some s) d 221 [.ref 72] (qPutI w 77 (qIx (w.1 72 14)) ((w.1 77 (qIx (w.1 72 14))) + (1 : Int32))) (qQv fun w1 =>
      Q (0 : Int32) w1)) ∧
  (¬ (w.1 72 11) = (59 : Int32) →
    Q (1 : Int32) (qPutI w 77 (qIx (w.1 72 14)) ((w.1 77 (qIx (w.1 72 14))) + (1 : Int32))))))) :
  qAt s d c_Mo_clause (qQi Q) 165 [some (.ref 72), none, none, none, none, none] [] w := qAt_of u_Mo_clause [(25, [true, true, false, false, false, false]), (62, [true, true, true, false, false, false]), (128, [true, true, false, true, true, false]), (165, [true, false, false, false, false, false])] 18 h

set_option maxRecDepth 100000 in
theorem A_Mo_sortOf {s : Nat × (Nat → Int32)} {d : Nat} {w : qW} {Q : Int32 → qW → Prop}  (h :
  qCall (some s) d 227 [.int (98 : Int32), .int (97 : Int32), .int (114 : Int32), .int (115 : Int32)] w (qQl fun y2 w1 =>
    qCall (some s) d 229 [.ref 72, .long y2] w1 (qQi fun x4 w3 =>
      (x4 = 0 →
        qCall (some s) d 230 [.int (119 : Int32), .int (111 : Int32), .int (114 : Int32), .int (116 : Int32), .int (104 : Int32)] w3 (qQl fun y6 w5 =>
          qCall (some s) d 229 [.ref 72, .long y6] w5 (qQi fun x8 w7 =>
            (x8 = 0 →
              qCall (some s) d 231 [.int (112 : Int32), .int (101 : Int32), .int (114 : Int32), .int (115 : Int32), .int (111 : Int32), .int (110 : Int32)] w7 (qQl fun y10 w9 =>
                qCall (some s) d 229 [.ref 72, .long y10] w9 (qQi fun x12 w11 =>
                  (x12 = 0 →
                    qCall (some s) d 227 [.int (110 : Int32), .int (101 : Int32), .int (97 : Int32), .int (114 : Int32)] w11 (qQl fun y14 w13 =>
                      qCall (some s) d 229 [.ref 72, .long y14] w13 (qQi fun x16 w15 =>
                        (x16 = 0 →
                          Q (0 : Int32) w15) ∧
                        (¬ x16 = 0 →
                          Q (4 : Int32) w15)))) ∧
                  (¬ x12 = 0 →
                    Q (3 : Int32) w11)))) ∧
            (¬ x8 = 0 →
              Q (2 : Int32) w7)))) ∧
      (¬ x4 = 0 →
        Q (1 : Int32) w3)))) :
  qCall (some s) (d + 1) 226 [.ref 72] w (qQi Q) := qCall_of (cd := c_Mo_sortOf) (mL := 1) rfl u_Mo_sortOf [] 39 h

set_option maxRecDepth 100000 in
theorem A_Mo_w4 {s : Nat × (Nat → Int32)} {d : Nat} {w : qW} {Q : Int64 → qW → Prop} {i0 : Int32} {i1 : Int32} {i2 : Int32} {i3 : Int32} (h :
  qCall (some s) d 228 [.int i0, .int i1, .int i2] w (qQl fun y2 w1 =>
    Q ((qLshl y2 (8 : Int32)) ||| (Int32.toInt64 i3)) w1)) :
  qCall (some s) (d + 1) 227 [.int i0, .int i1, .int i2, .int i3] w (qQl Q) := qCall_of (cd := c_Mo_w4) (mL := 4) rfl u_Mo_w4 [] 11 h

set_option maxRecDepth 100000 in
theorem A_Mo_w3 {s : Nat × (Nat → Int32)} {d : Nat} {w : qW} {Q : Int64 → qW → Prop} {i0 : Int32} {i1 : Int32} {i2 : Int32} (h :
  Q ((qLshl ((qLshl (Int32.toInt64 i0) (8 : Int32)) ||| (Int32.toInt64 i1)) (8 : Int32)) ||| (Int32.toInt64 i2)) w) :
  qCall (some s) (d + 1) 228 [.int i0, .int i1, .int i2] w (qQl Q) := qCall_of (cd := c_Mo_w3) (mL := 3) rfl u_Mo_w3 [] 14 h

set_option maxRecDepth 100000 in
theorem A_Mo_isWord {s : Nat × (Nat → Int32)} {d : Nat} {w : qW} {Q : Int32 → qW → Prop} {l1 : Int64} (h :
  (¬ (w.1 72 11) = (2 : Int32) →
    Q (0 : Int32) w) ∧
  ((w.1 72 11) = (2 : Int32) →
    (¬ (lg_cmp (w.2.1 72 13) l1) = 0 →
      Q (0 : Int32) w) ∧
    ((lg_cmp (w.2.1 72 13) l1) = 0 →
      Q (1 : Int32) w))) :
  qCall (some s) (d + 1) 229 [.ref 72, .long l1] w (qQi Q) := qCall_of (cd := c_Mo_isWord) (mL := 3) rfl u_Mo_isWord [] 13 h

set_option maxRecDepth 100000 in
theorem A_Mo_w5 {s : Nat × (Nat → Int32)} {d : Nat} {w : qW} {Q : Int64 → qW → Prop} {i0 : Int32} {i1 : Int32} {i2 : Int32} {i3 : Int32} {i4 : Int32} (h :
  qCall (some s) d 228 [.int i0, .int i1, .int i2] w (qQl fun y2 w1 =>
    Q ((qLshl ((qLshl y2 (8 : Int32)) ||| (Int32.toInt64 i3)) (8 : Int32)) ||| (Int32.toInt64 i4)) w1)) :
  qCall (some s) (d + 1) 230 [.int i0, .int i1, .int i2, .int i3, .int i4] w (qQl Q) := qCall_of (cd := c_Mo_w5) (mL := 5) rfl u_Mo_w5 [] 16 h

set_option maxRecDepth 100000 in
theorem A_Mo_w6 {s : Nat × (Nat → Int32)} {d : Nat} {w : qW} {Q : Int64 → qW → Prop} {i0 : Int32} {i1 : Int32} {i2 : Int32} {i3 : Int32} {i4 : Int32} {i5 : Int32} (h :
  qCall (some s) d 230 [.int i0, .int i1, .int i2, .int i3, .int i4] w (qQl fun y2 w1 =>
    Q ((qLshl y2 (8 : Int32)) ||| (Int32.toInt64 i5)) w1)) :
  qCall (some s) (d + 1) 231 [.int i0, .int i1, .int i2, .int i3, .int i4, .int i5] w (qQl Q) := qCall_of (cd := c_Mo_w6) (mL := 6) rfl u_Mo_w6 [] 13 h

set_option maxRecDepth 100000 in
theorem A_Mo_rolled {s : Nat × (Nat → Int32)} {d : Nat} {w : qW} {Q : Int32 → qW → Prop} {i1 : Int32} {i2 : Int32} (h :
  (¬ i2 = (3 : Int32) →
    (¬ i2 = (3 : Int32) →
      qAt s d c_Mo_rolled (qQi Q) 27 [some (.ref 72), some (.int i1), some (.int i2), none] [.int (11 : Int32), .int (0 : Int32), .int (i1 + (1 : Int32)), .ref 72] w) ∧
    (i2 = (3 : Int32) →
      qAt s d c_Mo_rolled (qQi Q) 27 [some (.ref 72), some (.int i1), some (.int i2), none] [.int (9999 : Int32), .int (0 : Int32), .int (i1 + (1 : Int32)), .ref 72] w)) ∧
  (i2 = (3 : Int32) →
    (¬ i2 = (3 : Int32) →
      qAt s d c_Mo_rolled (qQi Q) 27 [some (.ref 72), some (.int i1), some (.int i2), none] [.int (11 : Int32), .int (1 : Int32), .int (i1 + (1 : Int32)), .ref 72] w) ∧
    (i2 = (3 : Int32) →
      qAt s d c_Mo_rolled (qQi Q) 27 [some (.ref 72), some (.int i1), some (.int i2), none] [.int (9999 : Int32), .int (1 : Int32), .int (i1 + (1 : Int32)), .ref 72] w))) :
  qCall (some s) (d + 1) 232 [.ref 72, .int i1, .int i2] w (qQi Q) := qCall_of (cd := c_Mo_rolled) (mL := 4) rfl u_Mo_rolled [(27, [true, true, true, false]), (74, [true, true, true, false])] 16 h
set_option maxRecDepth 100000 in
theorem A_Mo_rolled_27 {s : Nat × (Nat → Int32)} {d : Nat} {w : qW} {Q : Int32 → qW → Prop} {i1 : Int32} {i2 : Int32} {is0 : Int32} {is1 : Int32} {is2 : Int32} (h :
  qCall (some s) d 233 [.ref 72, .int is2, .int is1, .int is0] w (qQi fun x2 w1 =>
    (x2 = 0 →
      (¬ i2 = (3 : Int32) →
        ((w1.1 72 11) = (44 : Int32) →
          qAt s d c_Mo_rolled (qQi Q) 74 [some (.ref 72), some (.int i1), some (.int i2), none] [] w1) ∧
        (¬ (w1.1 72 11) = (44 : Int32) →
          Q (1 : Int32) w1)) ∧
      (i2 = (3 : Int32) →
        qCall (some s) d 227 [.int (102 : Int32), .int (114 : Int32), .int (111 : Int32), .int (109 : Int32)] w1 (qQl fun y4 w3 =>
          qCall (some s) d 229 [.ref 72, .long y4] w3 (qQi fun x6 w5 =>
            (¬ x6 = 0 →
              qAt s d c_Mo_rolled (qQi Q) 74 [some (.ref 72), some (.int i1), some (.int i2), none] [] w5) ∧
            (x6 = 0 →
              Q (1 : Int32) w5))))) ∧
    (¬ x2 = 0 →
      Q x2 w1))) :
  qAt s d c_Mo_rolled (qQi Q) 27 [some (.ref 72), some (.int i1), some (.int i2), none] [.int is0, .int is1, .int is2, .ref 72] w := qAt_of u_Mo_rolled [(27, [true, true, true, false]), (74, [true, true, true, false])] 19 h
set_option maxRecDepth 100000 in
theorem A_Mo_rolled_74 {s : Nat × (Nat → Int32)} {d : Nat} {w : qW} {Q : Int32 → qW → Prop} {i1 : Int32} {i2 : Int32} (h :
  qCall (some s) d 221 [.ref 72] w (qQv fun w1 =>
    (¬ i2 = (3 : Int32) →
      qCall (some s) d 233 [.ref 72, .int (i1 + (2 : Int32)), .int (0 : Int32), .int (11 : Int32)] w1 (qQi fun x3 w2 =>
        Q x3 w2)) ∧
    (i2 = (3 : Int32) →
      qCall (some s) d 233 [.ref 72, .int (i1 + (2 : Int32)), .int (0 : Int32), .int (9999 : Int32)] w1 (qQi fun x5 w4 =>
        Q x5 w4)))) :
  qAt s d c_Mo_rolled (qQi Q) 74 [some (.ref 72), some (.int i1), some (.int i2), none] [] w := qAt_of u_Mo_rolled [(27, [true, true, true, false]), (74, [true, true, true, false])] 15 h

set_option maxRecDepth 100000 in
theorem A_Mo_figure {s : Nat × (Nat → Int32)} {d : Nat} {w : qW} {Q : Int32 → qW → Prop} {i1 : Int32} {i2 : Int32} {i3 : Int32} (h :
  ((w.1 72 11) = (1 : Int32) →
    qCall (some s) d 209 [.int (w.1 72 12), .int i2, .int i3] w (qQi fun x2 w1 =>
      (¬ x2 = 0 →
        qIn i1 2800 ∧
        (qCall (some s) d 221 [.ref 72] (qPutI w1 77 (qIx i1) (w1.1 72 12)) (qQv fun w3 =>
          Q (0 : Int32) w3))) ∧
      (x2 = 0 →
        Q (2 : Int32) w1))) ∧
  (¬ (w.1 72 11) = (1 : Int32) →
    Q (1 : Int32) w)) :
  qCall (some s) (d + 1) 233 [.ref 72, .int i1, .int i2, .int i3] w (qQi Q) := qCall_of (cd := c_Mo_figure) (mL := 4) rfl u_Mo_figure [] 21 h

set_option maxRecDepth 100000 in
theorem A_Mo_summed {s : Nat × (Nat → Int32)} {d : Nat} {w : qW} {Q : Int32 → qW → Prop}  (h :
  qAt s d c_Mo_summed (qQi Q) 10 [some (.ref 72), none] [] (qPutI (qPutI w 72 19 (0 : Int32)) 72 21 (0 : Int32))) :
  qCall (some s) (d + 1) 234 [.ref 72] w (qQi Q) := qCall_of (cd := c_Mo_summed) (mL := 2) rfl u_Mo_summed [(10, [true, false]), (24, [true, false])] 8 h
set_option maxRecDepth 100000 in
theorem A_Mo_summed_10 {s : Nat × (Nat → Int32)} {d : Nat} {w : qW} {Q : Int32 → qW → Prop}  (h :
  ((w.1 72 21) = 0 →
    qAt s d c_Mo_summed (qQi Q) 24 [some (.ref 72), none] [] w) ∧
  (¬ (w.1 72 21) = 0 →
    qCall (some s) d 235 [.ref 72] w (qQi fun x2 w1 =>
      (x2 = 0 →
        qCall (some s) d 238 [.ref 72, .int (3 : Int32)] w1 (qQv fun w3 =>
          ((w3.1 72 19) ≤ 0 →
            Q (0 : Int32) w3) ∧
          (¬ (w3.1 72 19) ≤ 0 →
            Q (1 : Int32) w3))) ∧
      (¬ x2 = 0 →
        qAt s d c_Mo_summed (qQi Q) 24 [some (.ref 72), none] [] w1)))) :
  qAt s d c_Mo_summed (qQi Q) 10 [some (.ref 72), none] [] w := qAt_of u_Mo_summed [(10, [true, false]), (24, [true, false])] 16 h
set_option maxRecDepth 100000 in
theorem A_Mo_summed_24 {s : Nat × (Nat → Int32)} {d : Nat} {w : qW} {Q : Int32 → qW → Prop}  (h :
  ((w.1 72 21) = 0 →
    qCall (some s) d 242 [.ref 72] w (qQi fun x2 w1 =>
      (x2 = 0 →
        qAt s d c_Mo_summed (qQi Q) 10 [some (.ref 72), none] [] w1) ∧
      (¬ x2 = 0 →
        Q x2 w1))) ∧
  (¬ (w.1 72 21) = 0 →
    qCall (some s) d 237 [.ref 72] w (qQi fun x4 w3 =>
      (x4 = 0 →
        qAt s d c_Mo_summed (qQi Q) 10 [some (.ref 72), none] [] w3) ∧
      (¬ x4 = 0 →
        Q x4 w3)))) :
  qAt s d c_Mo_summed (qQi Q) 24 [some (.ref 72), none] [] w := qAt_of u_Mo_summed [(10, [true, false]), (24, [true, false])] 12 h

set_option maxRecDepth 100000 in
theorem A_Mo_goesOn {s : Nat × (Nat → Int32)} {d : Nat} {w : qW} {Q : Int32 → qW → Prop}  (h :
  ((w.1 72 11) = (43 : Int32) →
    Q (1 : Int32) w) ∧
  (¬ (w.1 72 11) = (43 : Int32) →
    ((w.1 72 11) = (45 : Int32) →
      Q (1 : Int32) w) ∧
    (¬ (w.1 72 11) = (45 : Int32) →
      ((w.1 72 11) = (42 : Int32) →
        Q (1 : Int32) w) ∧
      (¬ (w.1 72 11) = (42 : Int32) →
        ((w.1 72 11) = (47 : Int32) →
          Q (1 : Int32) w) ∧
        (¬ (w.1 72 11) = (47 : Int32) →
          ((w.1 72 11) = (37 : Int32) →
            Q (1 : Int32) w) ∧
          (¬ (w.1 72 11) = (37 : Int32) →
            (¬ (w.1 72 11) = (41 : Int32) →
              Q (0 : Int32) w) ∧
            ((w.1 72 11) = (41 : Int32) →
              qCall (some s) d 236 [.ref 72] w (qQi fun x2 w1 =>
                (x2 = 0 →
                  Q (0 : Int32) w1) ∧
                (¬ x2 = 0 →
                  Q (1 : Int32) w1))))))))) :
  qCall (some s) (d + 1) 235 [.ref 72] w (qQi Q) := qCall_of (cd := c_Mo_goesOn) (mL := 1) rfl u_Mo_goesOn [] 31 h

set_option maxRecDepth 100000 in
theorem A_Mo_hasParen {s : Nat × (Nat → Int32)} {d : Nat} {w : qW} {Q : Int32 → qW → Prop}  (h :
  qAt s d c_Mo_hasParen (qQi Q) 2 [some (.ref 72), some (.int (0 : Int32))] [] w) :
  qCall (some s) (d + 1) 236 [.ref 72] w (qQi Q) := qCall_of (cd := c_Mo_hasParen) (mL := 2) rfl u_Mo_hasParen [(2, [true, true])] 4 h
set_option maxRecDepth 100000 in
theorem A_Mo_hasParen_2 {s : Nat × (Nat → Int32)} {d : Nat} {w : qW} {Q : Int32 → qW → Prop} {i1 : Int32} (h :
  ((w.1 72 19) ≤ i1 →
    Q (0 : Int32) w) ∧
  (¬ (w.1 72 19) ≤ i1 →
    qIn i1 160 ∧
    ((¬ (w.1 79 (qIx i1)) = (40 : Int32) →
      qAt s d c_Mo_hasParen (qQi Q) 2 [some (.ref 72), some (.int (i1 + (1 : Int32)))] [] w) ∧
    ((w.1 79 (qIx i1)) = (40 : Int32) →
      Q (1 : Int32) w)))) :
  qAt s d c_Mo_hasParen (qQi Q) 2 [some (.ref 72), some (.int i1)] [] w := qAt_of u_Mo_hasParen [(2, [true, true])] 14 h

set_option maxRecDepth 100000 in
theorem A_Mo_behindOne {s : Nat × (Nat → Int32)} {d : Nat} {w : qW} {Q : Int32 → qW → Prop}  (h :
  ((w.1 72 11) = (43 : Int32) →
    qAt s d c_Mo_behindOne (qQi Q) 17 [some (.ref 72), some (.int (w.1 72 11))] [] w) ∧
  (¬ (w.1 72 11) = (43 : Int32) →
    (¬ (w.1 72 11) = (45 : Int32) →
      ((w.1 72 11) = (42 : Int32) →
        qAt s d c_Mo_behindOne (qQi Q) 63 [some (.ref 72), some (.int (w.1 72 11))] [] w) ∧
      (¬ (w.1 72 11) = (42 : Int32) →
        ((w.1 72 11) = (47 : Int32) →
          qAt s d c_Mo_behindOne (qQi Q) 63 [some (.ref 72), some (.int (w.1 72 11))] [] w) ∧
        (¬ (w.1 72 11) = (47 : Int32) →
          (¬ (w.1 72 11) = (37 : Int32) →
            qCall (some s) d 238 [.ref 72, .int (3 : Int32)] w (qQv fun w1 =>
              qCall (some s) d 241 [.ref 72] (qPutI (qPutI w1 72 19 ((w1.1 72 19) - (1 : Int32))) 72 20 ((w1.1 72 20) - (1 : Int32))) (qQv fun w2 =>
                qCall (some s) d 221 [.ref 72] w2 (qQv fun w3 =>
                  Q (0 : Int32) w3)))) ∧
          ((w.1 72 11) = (37 : Int32) →
            qAt s d c_Mo_behindOne (qQi Q) 63 [some (.ref 72), some (.int (w.1 72 11))] [] w)))) ∧
    ((w.1 72 11) = (45 : Int32) →
      qAt s d c_Mo_behindOne (qQi Q) 17 [some (.ref 72), some (.int (w.1 72 11))] [] w))) :
  qCall (some s) (d + 1) 237 [.ref 72] w (qQi Q) := qCall_of (cd := c_Mo_behindOne) (mL := 2) rfl u_Mo_behindOne [(17, [true, true]), (63, [true, true])] 40 h
set_option maxRecDepth 100000 in
theorem A_Mo_behindOne_17 {s : Nat × (Nat → Int32)} {d : Nat} {w : qW} {Q : Int32 → qW → Prop} {i1 : Int32} (h :
  qCall (some s) d 238 [.ref 72, .int (3 : Int32)] w (qQv fun w1 =>
    (¬ i1 = (43 : Int32) →
      qCall (some s) d 240 [.ref 72, .int (4 : Int32)] w1 (qQv fun w2 =>
        qCall (some s) d 221 [.ref 72] (qPutI w2 72 21 (0 : Int32)) (qQv fun w3 =>
          Q (0 : Int32) w3))) ∧
    (i1 = (43 : Int32) →
      qCall (some s) d 240 [.ref 72, .int (3 : Int32)] w1 (qQv fun w4 =>
        qCall (some s) d 221 [.ref 72] (qPutI w4 72 21 (0 : Int32)) (qQv fun w5 =>
          Q (0 : Int32) w5))))) :
  qAt s d c_Mo_behindOne (qQi Q) 17 [some (.ref 72), some (.int i1)] [] w := qAt_of u_Mo_behindOne [(17, [true, true]), (63, [true, true])] 19 h
set_option maxRecDepth 100000 in
theorem A_Mo_behindOne_63 {s : Nat × (Nat → Int32)} {d : Nat} {w : qW} {Q : Int32 → qW → Prop} {i1 : Int32} (h :
  qCall (some s) d 238 [.ref 72, .int (5 : Int32)] w (qQv fun w1 =>
    (¬ i1 = (42 : Int32) →
      (¬ i1 = (47 : Int32) →
        qCall (some s) d 240 [.ref 72, .int (7 : Int32)] w1 (qQv fun w2 =>
          qCall (some s) d 221 [.ref 72] (qPutI w2 72 21 (0 : Int32)) (qQv fun w3 =>
            Q (0 : Int32) w3))) ∧
      (i1 = (47 : Int32) →
        qCall (some s) d 240 [.ref 72, .int (6 : Int32)] w1 (qQv fun w4 =>
          qCall (some s) d 221 [.ref 72] (qPutI w4 72 21 (0 : Int32)) (qQv fun w5 =>
            Q (0 : Int32) w5)))) ∧
    (i1 = (42 : Int32) →
      qCall (some s) d 240 [.ref 72, .int (5 : Int32)] w1 (qQv fun w6 =>
        qCall (some s) d 221 [.ref 72] (qPutI w6 72 21 (0 : Int32)) (qQv fun w7 =>
          Q (0 : Int32) w7))))) :
  qAt s d c_Mo_behindOne (qQi Q) 63 [some (.ref 72), some (.int i1)] [] w := qAt_of u_Mo_behindOne [(17, [true, true]), (63, [true, true])] 22 h

theorem A_Mo_settle {s : Nat × (Nat → Int32)} {d : Nat} {w : qW} {Q : qW → Prop} {i1 : Int32} (h : qAt s d c_Mo_settle (qQv Q) 0 [some (.ref 72), some (.int i1)] [] w) :
  qCall (some s) (d + 1) 238 [.ref 72, .int i1] w (qQv Q) := qCall_at (cd := c_Mo_settle) (mL := 2) rfl [true, true] h
set_option maxRecDepth 100000 in
theorem A_Mo_settle_0 {s : Nat × (Nat → Int32)} {d : Nat} {w : qW} {Q : qW → Prop} {i1 : Int32} (h :
  ((w.1 72 19) ≤ 0 →
    Q w) ∧
  (¬ (w.1 72 19) ≤ 0 →
    qIn ((w.1 72 19) - (1 : Int32)) 160 ∧
    (((40 : Int32) ≤ (w.1 79 (qIx ((w.1 72 19) - (1 : Int32)))) →
      Q w) ∧
    (¬ (40 : Int32) ≤ (w.1 79 (qIx ((w.1 72 19) - (1 : Int32)))) →
      qIn ((w.1 72 19) - (1 : Int32)) 160 ∧
      (((w.1 79 (qIx ((w.1 72 19) - (1 : Int32)))) < i1 →
        Q w) ∧
      (¬ (w.1 79 (qIx ((w.1 72 19) - (1 : Int32)))) < i1 →
        qIn ((w.1 72 19) - (1 : Int32)) 160 ∧
        (qCall (some s) d 239 [.ref 72, .int (w.1 79 (qIx ((w.1 72 19) - (1 : Int32)))), .int (0 : Int32)] (qPutI w 72 19 ((w.1 72 19) - (1 : Int32))) (qQv fun w1 =>
          qAt s d c_Mo_settle (qQv Q) 0 [some (.ref 72), some (.int i1)] [] w1)))))))) :
  qAt s d c_Mo_settle (qQv Q) 0 [some (.ref 72), some (.int i1)] [] w := qAt_of u_Mo_settle [(0, [true, true])] 38 h

set_option maxRecDepth 100000 in
theorem A_Mo_emit {s : Nat × (Nat → Int32)} {d : Nat} {w : qW} {Q : qW → Prop} {i1 : Int32} {i2 : Int32} (h :
  qIn (((w.1 72 14) + (80 : Int32)) + ((2 : Int32) * (w.1 72 16))) 2800 ∧
  (qIn ((((w.1 72 14) + (80 : Int32)) + ((2 : Int32) * (w.1 72 16))) + (1 : Int32)) 2800 ∧
  (Q (qPutI (qPutI (qPutI w 77 (qIx (((w.1 72 14) + (80 : Int32)) + ((2 : Int32) * (w.1 72 16)))) i1) 77 (qIx ((((w.1 72 14) + (80 : Int32)) + ((2 : Int32) * (w.1 72 16))) + (1 : Int32))) i2) 72 16 ((w.1 72 16) + (1 : Int32)))))) :
  qCall (some s) (d + 1) 239 [.ref 72, .int i1, .int i2] w (qQv Q) := qCall_of (cd := c_Mo_emit) (mL := 3) rfl u_Mo_emit [] 36 h

set_option maxRecDepth 100000 in
theorem A_Mo_push {s : Nat × (Nat → Int32)} {d : Nat} {w : qW} {Q : qW → Prop} {i1 : Int32} (h :
  qIn (w.1 72 19) 160 ∧
  (Q (qPutI (qPutI w 79 (qIx (w.1 72 19)) i1) 72 19 ((w.1 72 19) + (1 : Int32))))) :
  qCall (some s) (d + 1) 240 [.ref 72, .int i1] w (qQv Q) := qCall_of (cd := c_Mo_push) (mL := 2) rfl u_Mo_push [] 14 h

set_option maxRecDepth 100000 in
theorem A_Mo_whole {s : Nat × (Nat → Int32)} {d : Nat} {w : qW} {Q : qW → Prop}  (h :
  qAt s d c_Mo_whole (qQv Q) 5 [some (.ref 72)] [] (qPutI w 72 21 (1 : Int32))) :
  qCall (some s) (d + 1) 241 [.ref 72] w (qQv Q) := qCall_of (cd := c_Mo_whole) (mL := 1) rfl u_Mo_whole [(5, [true])] 5 h
set_option maxRecDepth 100000 in
theorem A_Mo_whole_5 {s : Nat × (Nat → Int32)} {d : Nat} {w : qW} {Q : qW → Prop}  (h :
  ((w.1 72 19) ≤ 0 →
    Q w) ∧
  (¬ (w.1 72 19) ≤ 0 →
    qIn ((w.1 72 19) - (1 : Int32)) 160 ∧
    ((¬ (w.1 79 (qIx ((w.1 72 19) - (1 : Int32)))) = (2 : Int32) →
      Q w) ∧
    ((w.1 79 (qIx ((w.1 72 19) - (1 : Int32)))) = (2 : Int32) →
      qCall (some s) d 239 [.ref 72, .int (2 : Int32), .int (0 : Int32)] (qPutI (qPutI w 72 19 ((w.1 72 19) - (1 : Int32))) 72 20 ((w.1 72 20) - (1 : Int32))) (qQv fun w1 =>
        qAt s d c_Mo_whole (qQv Q) 5 [some (.ref 72)] [] w1))))) :
  qAt s d c_Mo_whole (qQv Q) 5 [some (.ref 72)] [] w := qAt_of u_Mo_whole [(5, [true])] 31 h

set_option maxRecDepth 100000 in
theorem A_Mo_beginOne {s : Nat × (Nat → Int32)} {d : Nat} {w : qW} {Q : Int32 → qW → Prop}  (h :
  (¬ (w.1 72 11) = (1 : Int32) →
    qCall (some s) d 243 [.ref 72] w (qQi fun x2 w1 =>
      (x2 < 0 →
        (¬ (w1.1 72 11) = (40 : Int32) →
          (¬ (w1.1 72 11) = (45 : Int32) →
            qAt s d c_Mo_beginOne (qQi Q) 106 [some (.ref 72), none] [.int (0 : Int32)] w1) ∧
          ((w1.1 72 11) = (45 : Int32) →
            qAt s d c_Mo_beginOne (qQi Q) 106 [some (.ref 72), none] [.int (2 : Int32)] w1)) ∧
        ((w1.1 72 11) = (40 : Int32) →
          qAt s d c_Mo_beginOne (qQi Q) 106 [some (.ref 72), none] [.int (40 : Int32)] w1)) ∧
      (¬ x2 < 0 →
        qCall (some s) d 243 [.ref 72] w1 (qQi fun x4 w3 =>
          qCall (some s) d 244 [.ref 72, .int x4] w3 (qQi fun x6 w5 =>
            (x6 = 0 →
              qCall (some s) d 243 [.ref 72] w5 (qQi fun x8 w7 =>
                qCall (some s) d 239 [.ref 72, .int (1 : Int32), .int x8] w7 (qQv fun w9 =>
                  qCall (some s) d 221 [.ref 72] w9 (qQv fun w10 =>
                    qCall (some s) d 241 [.ref 72] w10 (qQv fun w11 =>
                      Q (0 : Int32) w11))))) ∧
            (¬ x6 = 0 →
              Q (5 : Int32) w5)))))) ∧
  ((w.1 72 11) = (1 : Int32) →
    ((w.1 72 12) ≤ (9999 : Int32) →
      qCall (some s) d 239 [.ref 72, .int (0 : Int32), .int (w.1 72 12)] w (qQv fun w12 =>
        qCall (some s) d 221 [.ref 72] w12 (qQv fun w13 =>
          qCall (some s) d 241 [.ref 72] w13 (qQv fun w14 =>
            Q (0 : Int32) w14)))) ∧
    (¬ (w.1 72 12) ≤ (9999 : Int32) →
      Q (2 : Int32) w))) :
  qCall (some s) (d + 1) 242 [.ref 72] w (qQi Q) := qCall_of (cd := c_Mo_beginOne) (mL := 2) rfl u_Mo_beginOne [(106, [true, false])] 24 h
set_option maxRecDepth 100000 in
theorem A_Mo_beginOne_106 {s : Nat × (Nat → Int32)} {d : Nat} {w : qW} {Q : Int32 → qW → Prop} {is0 : Int32} (h :
  (¬ is0 = 0 →
    (¬ (w.1 72 20) = (8 : Int32) →
      qCall (some s) d 240 [.ref 72, .int is0] (qPutI w 72 20 ((w.1 72 20) + (1 : Int32))) (qQv fun w1 =>
        qCall (some s) d 221 [.ref 72] w1 (qQv fun w2 =>
          Q (0 : Int32) w2))) ∧
    ((w.1 72 20) = (8 : Int32) →
      Q (3 : Int32) w)) ∧
  (is0 = 0 →
    Q (1 : Int32) w)) :
  qAt s d c_Mo_beginOne (qQi Q) 106 [some (.ref 72), none] [.int is0] w := qAt_of u_Mo_beginOne [(106, [true, false])] 21 h

set_option maxRecDepth 100000 in
theorem A_Mo_nameOf {s : Nat × (Nat → Int32)} {d : Nat} {w : qW} {Q : Int32 → qW → Prop}  (h :
  ((w.1 72 11) = (2 : Int32) →
    qCall (some s) d 230 [.int (99 : Int32), .int (108 : Int32), .int (111 : Int32), .int (99 : Int32), .int (107 : Int32)] w (qQl fun y2 w1 =>
      (¬ (lg_cmp (w.2.1 72 13) y2) = 0 →
        qCall (some s) d 231 [.int (110 : Int32), .int (117 : Int32), .int (109 : Int32), .int (98 : Int32), .int (101 : Int32), .int (114 : Int32)] w1 (qQl fun y4 w3 =>
          (¬ (lg_cmp (w1.2.1 72 13) y4) = 0 →
            qCall (some s) d 230 [.int (102 : Int32), .int (105 : Int32), .int (114 : Int32), .int (115 : Int32), .int (116 : Int32)] w3 (qQl fun y6 w5 =>
              (¬ (lg_cmp (w3.2.1 72 13) y6) = 0 →
                qCall (some s) d 228 [.int (119 : Int32), .int (104 : Int32), .int (111 : Int32)] w5 (qQl fun y8 w7 =>
                  (¬ (lg_cmp (w5.2.1 72 13) y8) = 0 →
                    qCall (some s) d 228 [.int (103 : Int32), .int (111 : Int32), .int (116 : Int32)] w7 (qQl fun y10 w9 =>
                      (¬ (lg_cmp (w7.2.1 72 13) y10) = 0 →
                        qCall (some s) d 230 [.int (97 : Int32), .int (115 : Int32), .int (107 : Int32), .int (101 : Int32), .int (100 : Int32)] w9 (qQl fun y12 w11 =>
                          (¬ (lg_cmp (w9.2.1 72 13) y12) = 0 →
                            qCall (some s) d 230 [.int (104 : Int32), .int (111 : Int32), .int (117 : Int32), .int (114 : Int32), .int (115 : Int32)] w11 (qQl fun y14 w13 =>
                              (¬ (lg_cmp (w11.2.1 72 13) y14) = 0 →
                                Q (-1 : Int32) w13) ∧
                              ((lg_cmp (w11.2.1 72 13) y14) = 0 →
                                Q (6 : Int32) w13))) ∧
                          ((lg_cmp (w9.2.1 72 13) y12) = 0 →
                            Q (5 : Int32) w11))) ∧
                      ((lg_cmp (w7.2.1 72 13) y10) = 0 →
                        Q (4 : Int32) w9))) ∧
                  ((lg_cmp (w5.2.1 72 13) y8) = 0 →
                    Q (3 : Int32) w7))) ∧
              ((lg_cmp (w3.2.1 72 13) y6) = 0 →
                Q (2 : Int32) w5))) ∧
          ((lg_cmp (w1.2.1 72 13) y4) = 0 →
            Q (1 : Int32) w3))) ∧
      ((lg_cmp (w.2.1 72 13) y2) = 0 →
        Q (0 : Int32) w1))) ∧
  (¬ (w.1 72 11) = (2 : Int32) →
    Q (-1 : Int32) w)) :
  qCall (some s) (d + 1) 243 [.ref 72] w (qQi Q) := qCall_of (cd := c_Mo_nameOf) (mL := 1) rfl u_Mo_nameOf [] 75 h

set_option maxRecDepth 100000 in
theorem A_Mo_isBarred {s : Nat × (Nat → Int32)} {d : Nat} {w : qW} {Q : Int32 → qW → Prop} {i1 : Int32} (h :
  (i1 ≤ (3 : Int32) →
    qAt s d c_Mo_isBarred (qQi Q) 10 [some (.ref 72), none] [.int (0 : Int32)] w) ∧
  (¬ i1 ≤ (3 : Int32) →
    qAt s d c_Mo_isBarred (qQi Q) 10 [some (.ref 72), none] [.int (1 : Int32)] w)) :
  qCall (some s) (d + 1) 244 [.ref 72, .int i1] w (qQi Q) := qCall_of (cd := c_Mo_isBarred) (mL := 2) rfl u_Mo_isBarred [(10, [true, false])] 7 h
set_option maxRecDepth 100000 in
theorem A_Mo_isBarred_10 {s : Nat × (Nat → Int32)} {d : Nat} {w : qW} {Q : Int32 → qW → Prop} {is0 : Int32} (h :
  (¬ (w.1 72 22) = (2 : Int32) →
    (is0 = (0 : Int32) →
      Q (0 : Int32) w) ∧
    (¬ is0 = (0 : Int32) →
      Q (1 : Int32) w)) ∧
  ((w.1 72 22) = (2 : Int32) →
    (is0 = (1 : Int32) →
      Q (0 : Int32) w) ∧
    (¬ is0 = (1 : Int32) →
      Q (1 : Int32) w))) :
  qAt s d c_Mo_isBarred (qQi Q) 10 [some (.ref 72), none] [.int is0] w := qAt_of u_Mo_isBarred [(10, [true, false])] 11 h

set_option maxRecDepth 100000 in
theorem A_Mo_either {s : Nat × (Nat → Int32)} {d : Nat} {w : qW} {Q : Int32 → qW → Prop}  (h :
  qAt s d c_Mo_either (qQi Q) 6 [some (.ref 72), some (.int (0 : Int32)), some (.int (0 : Int32)), some (.int (1 : Int32)), none, none] [] w) :
  qCall (some s) (d + 1) 245 [.ref 72] w (qQi Q) := qCall_of (cd := c_Mo_either) (mL := 6) rfl u_Mo_either [(6, [true, true, true, true, false, false]), (35, [true, false, true, false, false, false]), (73, [true, true, true, false, false, false]), (93, [true, true, true, false, false, true])] 8 h
set_option maxRecDepth 100000 in
theorem A_Mo_either_6 {s : Nat × (Nat → Int32)} {d : Nat} {w : qW} {Q : Int32 → qW → Prop} {i1 : Int32} {i2 : Int32} {i3 : Int32} (h :
  (i3 = 0 →
    Q (0 : Int32) w) ∧
  (¬ i3 = 0 →
    qCall (some s) d 246 [.ref 72] w (qQi fun x2 w1 =>
      (x2 = 0 →
        (i1 = 0 →
          qAt s d c_Mo_either (qQi Q) 35 [some (.ref 72), none, some (.int i2), none, none, none] [] w1) ∧
        (¬ i1 = 0 →
          qCall (some s) d 239 [.ref 72, .int (21 : Int32), .int (0 : Int32)] w1 (qQv fun w3 =>
            qAt s d c_Mo_either (qQi Q) 35 [some (.ref 72), none, some (.int i2), none, none, none] [] w3))) ∧
      (¬ x2 = 0 →
        Q x2 w1)))) :
  qAt s d c_Mo_either (qQi Q) 6 [some (.ref 72), some (.int i1), some (.int i2), some (.int i3), none, none] [] w := qAt_of u_Mo_either [(6, [true, true, true, true, false, false]), (35, [true, false, true, false, false, false]), (73, [true, true, true, false, false, false]), (93, [true, true, true, false, false, true])] 15 h
set_option maxRecDepth 100000 in
theorem A_Mo_either_35 {s : Nat × (Nat → Int32)} {d : Nat} {w : qW} {Q : Int32 → qW → Prop} {i2 : Int32} (h :
  qCall (some s) d 228 [.int (97 : Int32), .int (110 : Int32), .int (100 : Int32)] w (qQl fun y2 w1 =>
    qCall (some s) d 229 [.ref 72, .long y2] w1 (qQi fun x4 w3 =>
      (¬ (w3.1 72 11) = (2 : Int32) →
        qAt s d c_Mo_either (qQi Q) 73 [some (.ref 72), some (.int x4), some (.int i2), none, none, none] [.int (0 : Int32)] w3) ∧
      ((w3.1 72 11) = (2 : Int32) →
        (¬ (lg_cmp (w3.2.1 72 13) (28530 : Int64)) = 0 →
          qAt s d c_Mo_either (qQi Q) 73 [some (.ref 72), some (.int x4), some (.int i2), none, none, none] [.int (0 : Int32)] w3) ∧
        ((lg_cmp (w3.2.1 72 13) (28530 : Int64)) = 0 →
          qAt s d c_Mo_either (qQi Q) 73 [some (.ref 72), some (.int x4), some (.int i2), none, none, none] [.int (1 : Int32)] w3))))) :
  qAt s d c_Mo_either (qQi Q) 35 [some (.ref 72), none, some (.int i2), none, none, none] [] w := qAt_of u_Mo_either [(6, [true, true, true, true, false, false]), (35, [true, false, true, false, false, false]), (73, [true, true, true, false, false, false]), (93, [true, true, true, false, false, true])] 20 h
set_option maxRecDepth 100000 in
theorem A_Mo_either_73 {s : Nat × (Nat → Int32)} {d : Nat} {w : qW} {Q : Int32 → qW → Prop} {i1 : Int32} {i2 : Int32} {is0 : Int32} (h :
  (¬ i1 = 0 →
    qAt s d c_Mo_either (qQi Q) 93 [some (.ref 72), some (.int i1), some (.int i2), none, none, some (.int is0)] [] w) ∧
  (i1 = 0 →
    (i2 = 0 →
      qAt s d c_Mo_either (qQi Q) 93 [some (.ref 72), some (.int i1), some (.int is0), none, none, some (.int is0)] [] w) ∧
    (¬ i2 = 0 →
      qCall (some s) d 239 [.ref 72, .int (22 : Int32), .int (0 : Int32)] w (qQv fun w1 =>
        qAt s d c_Mo_either (qQi Q) 93 [some (.ref 72), some (.int i1), some (.int is0), none, none, some (.int is0)] [] w1)))) :
  qAt s d c_Mo_either (qQi Q) 73 [some (.ref 72), some (.int i1), some (.int i2), none, none, none] [.int is0] w := qAt_of u_Mo_either [(6, [true, true, true, true, false, false]), (35, [true, false, true, false, false, false]), (73, [true, true, true, false, false, false]), (93, [true, true, true, false, false, true])] 13 h
set_option maxRecDepth 100000 in
theorem A_Mo_either_93 {s : Nat × (Nat → Int32)} {d : Nat} {w : qW} {Q : Int32 → qW → Prop} {i1 : Int32} {i2 : Int32} {i5 : Int32} (h :
  (¬ i1 = 0 →
    ((1 : Int32) = 0 →
      qAt s d c_Mo_either (qQi Q) 6 [some (.ref 72), some (.int i1), some (.int i2), some (.int (1 : Int32)), none, none] [] w) ∧
    (¬ (1 : Int32) = 0 →
      qCall (some s) d 221 [.ref 72] w (qQv fun w1 =>
        qAt s d c_Mo_either (qQi Q) 6 [some (.ref 72), some (.int i1), some (.int i2), some (.int (1 : Int32)), none, none] [] w1))) ∧
  (i1 = 0 →
    (i5 = 0 →
      ((0 : Int32) = 0 →
        qAt s d c_Mo_either (qQi Q) 6 [some (.ref 72), some (.int i1), some (.int i2), some (.int (0 : Int32)), none, none] [] w) ∧
      (¬ (0 : Int32) = 0 →
        qCall (some s) d 221 [.ref 72] w (qQv fun w2 =>
          qAt s d c_Mo_either (qQi Q) 6 [some (.ref 72), some (.int i1), some (.int i2), some (.int (0 : Int32)), none, none] [] w2))) ∧
    (¬ i5 = 0 →
      ((1 : Int32) = 0 →
        qAt s d c_Mo_either (qQi Q) 6 [some (.ref 72), some (.int i1), some (.int i2), some (.int (1 : Int32)), none, none] [] w) ∧
      (¬ (1 : Int32) = 0 →
        qCall (some s) d 221 [.ref 72] w (qQv fun w3 =>
          qAt s d c_Mo_either (qQi Q) 6 [some (.ref 72), some (.int i1), some (.int i2), some (.int (1 : Int32)), none, none] [] w3))))) :
  qAt s d c_Mo_either (qQi Q) 93 [some (.ref 72), some (.int i1), some (.int i2), none, none, some (.int i5)] [] w := qAt_of u_Mo_either [(6, [true, true, true, true, false, false]), (35, [true, false, true, false, false, false]), (73, [true, true, true, false, false, false]), (93, [true, true, true, false, false, true])] 14 h

set_option maxRecDepth 100000 in
theorem A_Mo_asks {s : Nat × (Nat → Int32)} {d : Nat} {w : qW} {Q : Int32 → qW → Prop}  (h :
  qAt s d c_Mo_asks (qQi Q) 2 [some (.ref 72), some (.int (0 : Int32)), none, none, none] [] w) :
  qCall (some s) (d + 1) 246 [.ref 72] w (qQi Q) := qCall_of (cd := c_Mo_asks) (mL := 5) rfl u_Mo_asks [(2, [true, true, false, false, false]), (105, [true, true, false, false, true])] 4 h
set_option maxRecDepth 100000 in
theorem A_Mo_asks_2 {s : Nat × (Nat → Int32)} {d : Nat} {w : qW} {Q : Int32 → qW → Prop} {i1 : Int32} (h :
  qCall (some s) d 228 [.int (110 : Int32), .int (111 : Int32), .int (116 : Int32)] w (qQl fun y2 w1 =>
    qCall (some s) d 229 [.ref 72, .long y2] w1 (qQi fun x4 w3 =>
      (x4 = 0 →
        qCall (some s) d 234 [.ref 72] w3 (qQi fun x6 w5 =>
          (x6 = 0 →
            qCall (some s) d 247 [.ref 72] w5 (qQi fun x8 w7 =>
              (0 ≤ x8 →
                qCall (some s) d 221 [.ref 72] w7 (qQv fun w9 =>
                  qCall (some s) d 234 [.ref 72] w9 (qQi fun x11 w10 =>
                    (x11 = 0 →
                      qCall (some s) d 239 [.ref 72, .int x8, .int (0 : Int32)] w10 (qQv fun w12 =>
                        qAt s d c_Mo_asks (qQi Q) 105 [some (.ref 72), some (.int i1), none, none, some (.int (0 : Int32))] [] (qPutI w12 72 20 ((w12.1 72 20) - i1)))) ∧
                    (¬ x11 = 0 →
                      Q x11 w10)))) ∧
              (¬ 0 ≤ x8 →
                Q (1 : Int32) w7))) ∧
          (¬ x6 = 0 →
            Q x6 w5))) ∧
      (¬ x4 = 0 →
        (¬ (w3.1 72 20) = (8 : Int32) →
          qCall (some s) d 221 [.ref 72] (qPutI w3 72 20 ((w3.1 72 20) + (1 : Int32))) (qQv fun w13 =>
            qAt s d c_Mo_asks (qQi Q) 2 [some (.ref 72), some (.int (i1 + (1 : Int32))), none, none, none] [] w13)) ∧
        ((w3.1 72 20) = (8 : Int32) →
          Q (3 : Int32) w3))))) :
  qAt s d c_Mo_asks (qQi Q) 2 [some (.ref 72), some (.int i1), none, none, none] [] w := qAt_of u_Mo_asks [(2, [true, true, false, false, false]), (105, [true, true, false, false, true])] 38 h
set_option maxRecDepth 100000 in
theorem A_Mo_asks_105 {s : Nat × (Nat → Int32)} {d : Nat} {w : qW} {Q : Int32 → qW → Prop} {i1 : Int32} {i4 : Int32} (h :
  (i1 ≤ i4 →
    Q (0 : Int32) w) ∧
  (¬ i1 ≤ i4 →
    qCall (some s) d 239 [.ref 72, .int (20 : Int32), .int (0 : Int32)] w (qQv fun w1 =>
      qAt s d c_Mo_asks (qQi Q) 105 [some (.ref 72), some (.int i1), none, none, some (.int (i4 + (1 : Int32)))] [] w1))) :
  qAt s d c_Mo_asks (qQi Q) 105 [some (.ref 72), some (.int i1), none, none, some (.int i4)] [] w := qAt_of u_Mo_asks [(2, [true, true, false, false, false]), (105, [true, true, false, false, true])] 11 h

set_option maxRecDepth 100000 in
theorem A_Mo_compareOf {s : Nat × (Nat → Int32)} {d : Nat} {w : qW} {Q : Int32 → qW → Prop}  (h :
  (¬ (w.1 72 11) = (60 : Int32) →
    (¬ (w.1 72 11) = (4 : Int32) →
      (¬ (w.1 72 11) = (62 : Int32) →
        (¬ (w.1 72 11) = (5 : Int32) →
          (¬ (w.1 72 11) = (61 : Int32) →
            (¬ (w.1 72 11) = (35 : Int32) →
              Q (-1 : Int32) w) ∧
            ((w.1 72 11) = (35 : Int32) →
              Q (15 : Int32) w)) ∧
          ((w.1 72 11) = (61 : Int32) →
            Q (14 : Int32) w)) ∧
        ((w.1 72 11) = (5 : Int32) →
          Q (13 : Int32) w)) ∧
      ((w.1 72 11) = (62 : Int32) →
        Q (12 : Int32) w)) ∧
    ((w.1 72 11) = (4 : Int32) →
      Q (11 : Int32) w)) ∧
  ((w.1 72 11) = (60 : Int32) →
    Q (10 : Int32) w)) :
  qCall (some s) (d + 1) 247 [.ref 72] w (qQi Q) := qCall_of (cd := c_Mo_compareOf) (mL := 1) rfl u_Mo_compareOf [] 28 h

set_option maxRecDepth 100000 in
theorem A_Mo_fault {s : Nat × (Nat → Int32)} {d : Nat} {w : qW} {Q : Int32 → qW → Prop} {i1 : Int32} (h :
  (¬ i1 = 0 →
    (¬ i1 = (1 : Int32) →
      Q (-1 : Int32) w) ∧
    (i1 = (1 : Int32) →
      Q (w.1 72 8) w)) ∧
  (i1 = 0 →
    Q (w.1 72 7) w)) :
  qCall (some s) (d + 1) 248 [.ref 72, .int i1] w (qQi Q) := qCall_of (cd := c_Mo_fault) (mL := 2) rfl u_Mo_fault [] 10 h

set_option maxRecDepth 100000 in
theorem A_Mo_by {s : Nat × (Nat → Int32)} {d : Nat} {w : qW} {Q : Int32 → qW → Prop} {i1 : Int32} (h :
  qIn (3 : Int32) 262 ∧
  (qCall (some s) d 209 [.int i1, .int (-1 : Int32), .int ((w.1 73 (qIx (3 : Int32))) - (1 : Int32))] w (qQi fun x2 w1 =>
    (¬ x2 = 0 →
      qIn (4 : Int32) 262 ∧
      (Q (1 : Int32) (qPutI w1 73 (qIx (4 : Int32)) i1))) ∧
    (x2 = 0 →
      Q (0 : Int32) w1)))) :
  qCall (some s) (d + 1) 249 [.ref 72, .int i1] w (qQi Q) := qCall_of (cd := c_Mo_by) (mL := 2) rfl u_Mo_by [] 18 h

set_option maxRecDepth 100000 in
theorem A_Mo_roll {s : Nat × (Nat → Int32)} {d : Nat} {w : qW} {Q : Int32 → qW → Prop} {i1 : Int32} (h :
  qIn (3 : Int32) 262 ∧
  (qCall (some s) d 209 [.int i1, .int (0 : Int32), .int ((w.1 73 (qIx (3 : Int32))) - (1 : Int32))] w (qQi fun x2 w1 =>
    (¬ x2 = 0 →
      qIn (0 : Int32) 262 ∧
      (qIn (5 : Int32) 262 ∧
      (qIn (7 : Int32) 262 ∧
      (qAt s d c_Mo_roll (qQi Q) 43 [some (.ref 72), some (.int i1), some (.int (0 : Int32)), none] [] (qPutI (qPutI (qPutI w1 73 (qIx (0 : Int32)) (0 : Int32)) 73 (qIx (5 : Int32)) (0 : Int32)) 73 (qIx (7 : Int32)) (0 : Int32)))))) ∧
    (x2 = 0 →
      Q (-2 : Int32) w1)))) :
  qCall (some s) (d + 1) 250 [.ref 72, .int i1] w (qQi Q) := qCall_of (cd := c_Mo_roll) (mL := 4) rfl u_Mo_roll [(43, [true, true, true, false]), (67, [true, true, true, false]), (128, [true, true, true, true])] 29 h
set_option maxRecDepth 100000 in
theorem A_Mo_roll_43 {s : Nat × (Nat → Int32)} {d : Nat} {w : qW} {Q : Int32 → qW → Prop} {i1 : Int32} {i2 : Int32} (h :
  ((12 : Int32) ≤ i2 →
    qAt s d c_Mo_roll (qQi Q) 67 [some (.ref 72), some (.int i1), some (.int (0 : Int32)), none] [] w) ∧
  (¬ (12 : Int32) ≤ i2 →
    qIn ((40 : Int32) + i2) 262 ∧
    (qAt s d c_Mo_roll (qQi Q) 43 [some (.ref 72), some (.int i1), some (.int (i2 + (1 : Int32))), none] [] (qPutI w 73 (qIx ((40 : Int32) + i2)) (0 : Int32))))) :
  qAt s d c_Mo_roll (qQi Q) 43 [some (.ref 72), some (.int i1), some (.int i2), none] [] w := qAt_of u_Mo_roll [(43, [true, true, true, false]), (67, [true, true, true, false]), (128, [true, true, true, true])] 14 h
set_option maxRecDepth 100000 in
theorem A_Mo_roll_67 {s : Nat × (Nat → Int32)} {d : Nat} {w : qW} {Q : Int32 → qW → Prop} {i1 : Int32} {i2 : Int32} (h :
  qIn ((700 : Int32) * i1) 2800 ∧
  (((w.1 77 (qIx ((700 : Int32) * i1))) ≤ i2 →
    Q (-1 : Int32) w) ∧
  (¬ (w.1 77 (qIx ((700 : Int32) * i1))) ≤ i2 →
    qIn ((((700 : Int32) * i1) + (1 : Int32)) + ((3 : Int32) * i2)) 2800 ∧
    ((¬ (w.1 77 (qIx ((((700 : Int32) * i1) + (1 : Int32)) + ((3 : Int32) * i2)))) = (3 : Int32) →
      qAt s d c_Mo_roll (qQi Q) 128 [some (.ref 72), some (.int i1), some (.int i2), some (.int ((((700 : Int32) * i1) + (1 : Int32)) + ((3 : Int32) * i2)))] [] w) ∧
    ((w.1 77 (qIx ((((700 : Int32) * i1) + (1 : Int32)) + ((3 : Int32) * i2)))) = (3 : Int32) →
      qIn (((((700 : Int32) * i1) + (1 : Int32)) + ((3 : Int32) * i2)) + (1 : Int32)) 2800 ∧
      (qIn (((((700 : Int32) * i1) + (1 : Int32)) + ((3 : Int32) * i2)) + (2 : Int32)) 2800 ∧
      (qCall (some s) d 207 [.ref 72, .int (w.1 77 (qIx (((((700 : Int32) * i1) + (1 : Int32)) + ((3 : Int32) * i2)) + (1 : Int32)))), .int (w.1 77 (qIx (((((700 : Int32) * i1) + (1 : Int32)) + ((3 : Int32) * i2)) + (2 : Int32))))] w (qQi fun x2 w1 =>
        (0 ≤ x2 →
          qAt s d c_Mo_roll (qQi Q) 128 [some (.ref 72), some (.int i1), some (.int i2), some (.int ((((700 : Int32) * i1) + (1 : Int32)) + ((3 : Int32) * i2)))] [] w1) ∧
        (¬ 0 ≤ x2 →
          Q i2 w1))))))))) :
  qAt s d c_Mo_roll (qQi Q) 67 [some (.ref 72), some (.int i1), some (.int i2), none] [] w := qAt_of u_Mo_roll [(43, [true, true, true, false]), (67, [true, true, true, false]), (128, [true, true, true, true])] 42 h
set_option maxRecDepth 100000 in
theorem A_Mo_roll_128 {s : Nat × (Nat → Int32)} {d : Nat} {w : qW} {Q : Int32 → qW → Prop} {i1 : Int32} {i2 : Int32} {i3 : Int32} (h :
  qIn i3 2800 ∧
  ((¬ (w.1 77 (qIx i3)) = (4 : Int32) →
    qAt s d c_Mo_roll (qQi Q) 67 [some (.ref 72), some (.int i1), some (.int (i2 + (1 : Int32))), none] [] w) ∧
  ((w.1 77 (qIx i3)) = (4 : Int32) →
    qIn (i3 + (1 : Int32)) 2800 ∧
    (qIn (i3 + (2 : Int32)) 2800 ∧
    (qCall (some s) d 215 [.ref 72, .int (w.1 77 (qIx (i3 + (1 : Int32)))), .int (w.1 77 (qIx (i3 + (2 : Int32)))), .int (1 : Int32)] w (qQi fun x2 w1 =>
      (¬ x2 = 0 →
        qAt s d c_Mo_roll (qQi Q) 67 [some (.ref 72), some (.int i1), some (.int (i2 + (1 : Int32))), none] [] w1) ∧
      (x2 = 0 →
        Q i2 w1))))))) :
  qAt s d c_Mo_roll (qQi Q) 128 [some (.ref 72), some (.int i1), some (.int i2), some (.int i3)] [] w := qAt_of u_Mo_roll [(43, [true, true, true, false]), (67, [true, true, true, false]), (128, [true, true, true, true])] 26 h

set_option maxRecDepth 100000 in
theorem A_Mo_speaks {s : Nat × (Nat → Int32)} {d : Nat} {w : qW} {Q : Int32 → qW → Prop} {i1 : Int32} {l2 : Int64} (h :
  qCall (some s) d 211 [.ref 72, .int i1] w (qQi fun x2 w1 =>
    (x2 = 0 →
      Q (0 : Int32) w1) ∧
    (¬ x2 = 0 →
      qCall (some s) d 252 [.long l2] w1 (qQi fun x4 w3 =>
        (¬ x4 = 0 →
          qCall (some s) d 253 [.ref 72] w3 (qQv fun w5 =>
            qCall (some s) d 262 [.ref 72, .int i1, .long l2] w5 (qQi fun x7 w6 =>
              qB (qZb x7) (Q x7 w6)))) ∧
        (x4 = 0 →
          Q (0 : Int32) w3))))) :
  qCall (some s) (d + 1) 251 [.ref 72, .int i1, .long l2] w (qQi Q) := qCall_of (cd := c_Mo_speaks) (mL := 4) rfl u_Mo_speaks [] 15 h

set_option maxRecDepth 100000 in
theorem A_Mo_isHour {s : Nat × (Nat → Int32)} {d : Nat} {w : qW} {Q : Int32 → qW → Prop} {l0 : Int64} (h :
  ((lg_cmp l0 (0 : Int64)) < 0 →
    Q (0 : Int32) w) ∧
  (¬ (lg_cmp l0 (0 : Int64)) < 0 →
    (0 < (lg_cmp l0 (1000000000000000 : Int64)) →
      Q (0 : Int32) w) ∧
    (¬ 0 < (lg_cmp l0 (1000000000000000 : Int64)) →
      Q (1 : Int32) w))) :
  qCall (some s) (d + 1) 252 [.long l0] w (qQi Q) := qCall_of (cd := c_Mo_isHour) (mL := 2) rfl u_Mo_isHour [] 12 h

set_option maxRecDepth 100000 in
theorem A_Mo_take {s : Nat × (Nat → Int32)} {d : Nat} {w : qW} {Q : qW → Prop}  (h :
  qAt s d c_Mo_take (qQv Q) 2 [some (.ref 72), some (.int (0 : Int32))] [] w) :
  qCall (some s) (d + 1) 253 [.ref 72] w (qQv Q) := qCall_of (cd := c_Mo_take) (mL := 2) rfl u_Mo_take [(2, [true, true])] 4 h
set_option maxRecDepth 100000 in
theorem A_Mo_take_2 {s : Nat × (Nat → Int32)} {d : Nat} {w : qW} {Q : qW → Prop} {i1 : Int32} (h :
  qIn (0 : Int32) 262 ∧
  (((w.1 73 (qIx (0 : Int32))) ≤ i1 →
    Q w) ∧
  (¬ (w.1 73 (qIx (0 : Int32))) ≤ i1 →
    qIn ((10 : Int32) + ((2 : Int32) * i1)) 262 ∧
    (qIn i1 12 ∧
    (qIn (((10 : Int32) + ((2 : Int32) * i1)) + (1 : Int32)) 262 ∧
    (qIn i1 12 ∧
    (qCall (some s) d 254 [.ref 72, .int i1] (qPutI (qPutI w 83 (qIx i1) (w.1 73 (qIx ((10 : Int32) + ((2 : Int32) * i1))))) 84 (qIx i1) (w.1 73 (qIx (((10 : Int32) + ((2 : Int32) * i1)) + (1 : Int32))))) (qQv fun w1 =>
      qAt s d c_Mo_take (qQv Q) 2 [some (.ref 72), some (.int (i1 + (1 : Int32)))] [] w1)))))))) :
  qAt s d c_Mo_take (qQv Q) 2 [some (.ref 72), some (.int i1)] [] w := qAt_of u_Mo_take [(2, [true, true])] 39 h

set_option maxRecDepth 100000 in
theorem A_Mo_bar {s : Nat × (Nat → Int32)} {d : Nat} {w : qW} {Q : qW → Prop} {i1 : Int32} (h :
  qAt s d c_Mo_bar (qQv Q) 2 [some (.ref 72), some (.int i1), some (.int (0 : Int32)), none, none] [] w) :
  qCall (some s) (d + 1) 254 [.ref 72, .int i1] w (qQv Q) := qCall_of (cd := c_Mo_bar) (mL := 5) rfl u_Mo_bar [(2, [true, true, true, false, false]), (70, [true, true, true, false, false]), (92, [true, true, true, true, true])] 4 h
set_option maxRecDepth 100000 in
theorem A_Mo_bar_2 {s : Nat × (Nat → Int32)} {d : Nat} {w : qW} {Q : qW → Prop} {i1 : Int32} {i2 : Int32} (h :
  qIn (1 : Int32) 262 ∧
  (((w.1 73 (qIx (1 : Int32))) ≤ i2 →
    qIn i1 12 ∧
    (qIn (1 : Int32) 7 ∧
    (qIn i1 12 ∧
    (qIn (2 : Int32) 7 ∧
    (qIn (3 : Int32) 7 ∧
    (qAt s d c_Mo_bar (qQv Q) 70 [some (.ref 72), some (.int i1), some (.int (0 : Int32)), none, none] [] (qPutI (qPutI (qPutI w 80 (qIx (1 : Int32)) (w.1 83 (qIx i1))) 80 (qIx (2 : Int32)) (w.1 84 (qIx i1))) 80 (qIx (3 : Int32)) i1))))))) ∧
  (¬ (w.1 73 (qIx (1 : Int32))) ≤ i2 →
    qCall (some s) d 255 [.ref 72, .int i1, .long (Int32.toInt64 i2)] w (qQi fun x2 w1 =>
      qIn (((999 : Int32) * i1) + i2) 11988 ∧
      (qB (qZb x2) (qAt s d c_Mo_bar (qQv Q) 2 [some (.ref 72), some (.int i1), some (.int (i2 + (1 : Int32))), none, none] [] (qPutI w1 86 (qIx (((999 : Int32) * i1) + i2)) x2))))))) :
  qAt s d c_Mo_bar (qQv Q) 2 [some (.ref 72), some (.int i1), some (.int i2), none, none] [] w := qAt_of u_Mo_bar [(2, [true, true, true, false, false]), (70, [true, true, true, false, false]), (92, [true, true, true, true, true])] 31 h
set_option maxRecDepth 100000 in
theorem A_Mo_bar_70 {s : Nat × (Nat → Int32)} {d : Nat} {w : qW} {Q : qW → Prop} {i1 : Int32} {i2 : Int32} (h :
  qIn (2 : Int32) 262 ∧
  (((w.1 73 (qIx (2 : Int32))) ≤ i2 →
    Q w) ∧
  (¬ (w.1 73 (qIx (2 : Int32))) ≤ i2 →
    qIn (0 : Int32) 7 ∧
    (qAt s d c_Mo_bar (qQv Q) 92 [some (.ref 72), some (.int i1), some (.int i2), some (.int (0 : Int32)), some (.int (0 : Int32))] [] (qPutI w 80 (qIx (0 : Int32)) i2))))) :
  qAt s d c_Mo_bar (qQv Q) 70 [some (.ref 72), some (.int i1), some (.int i2), none, none] [] w := qAt_of u_Mo_bar [(2, [true, true, true, false, false]), (70, [true, true, true, false, false]), (92, [true, true, true, true, true])] 17 h
set_option maxRecDepth 100000 in
theorem A_Mo_bar_92 {s : Nat × (Nat → Int32)} {d : Nat} {w : qW} {Q : qW → Prop} {i1 : Int32} {i2 : Int32} {i3 : Int32} {i4 : Int32} (h :
  qCall (some s) d 256 [.ref 72] w (qQi fun x2 w1 =>
    (x2 ≤ i4 →
      qIn (((60 : Int32) * i1) + i2) 720 ∧
      (qB (qZb i3) (qAt s d c_Mo_bar (qQv Q) 70 [some (.ref 72), some (.int i1), some (.int (i2 + (1 : Int32))), none, none] [] (qPutI w1 85 (qIx (((60 : Int32) * i1) + i2)) i3)))) ∧
    (¬ x2 ≤ i4 →
      (¬ i3 = 0 →
        qIn (((60 : Int32) * i1) + i2) 720 ∧
        (qB (qZb i3) (qAt s d c_Mo_bar (qQv Q) 70 [some (.ref 72), some (.int i1), some (.int (i2 + (1 : Int32))), none, none] [] (qPutI w1 85 (qIx (((60 : Int32) * i1) + i2)) i3)))) ∧
      (i3 = 0 →
        qCall (some s) d 257 [.ref 72, .int i4] w1 (qQi fun x4 w3 =>
          (x4 = (1 : Int32) →
            qCall (some s) d 258 [.ref 72, .int i4] w3 (qQv fun w5 =>
              qIn (0 : Int32) 330 ∧
              (qAt s d c_Mo_bar (qQv Q) 92 [some (.ref 72), some (.int i1), some (.int i2), some (.int (w5.1 82 (qIx (0 : Int32)))), some (.int (i4 + (1 : Int32)))] [] w5))) ∧
          (¬ x4 = (1 : Int32) →
            qAt s d c_Mo_bar (qQv Q) 92 [some (.ref 72), some (.int i1), some (.int i2), some (.int i3), some (.int (i4 + (1 : Int32)))] [] w3)))))) :
  qAt s d c_Mo_bar (qQv Q) 92 [some (.ref 72), some (.int i1), some (.int i2), some (.int i3), some (.int i4)] [] w := qAt_of u_Mo_bar [(2, [true, true, true, false, false]), (70, [true, true, true, false, false]), (92, [true, true, true, true, true])] 23 h

set_option maxRecDepth 100000 in
theorem A_Mo_isDue {s : Nat × (Nat → Int32)} {d : Nat} {w : qW} {Q : Int32 → qW → Prop} {i1 : Int32} {l2 : Int64} (h :
  qIn i1 12 ∧
  (((lg_cmp l2 (Int32.toInt64 (w.1 84 (qIx i1)))) < 0 →
    Q (0 : Int32) w) ∧
  (¬ (lg_cmp l2 (Int32.toInt64 (w.1 84 (qIx i1)))) < 0 →
    qIn i1 12 ∧
    (qIn i1 12 ∧
    (¬ (Int32.toInt64 (w.1 83 (qIx i1))) = 0 ∧ ((¬ (lg_cmp (qRemL (l2 - (Int32.toInt64 (w.1 84 (qIx i1)))) (Int32.toInt64 (w.1 83 (qIx i1)))) (0 : Int64)) = 0 →
      Q (0 : Int32) w) ∧
    ((lg_cmp (qRemL (l2 - (Int32.toInt64 (w.1 84 (qIx i1)))) (Int32.toInt64 (w.1 83 (qIx i1)))) (0 : Int64)) = 0 →
      Q (1 : Int32) w))))))) :
  qCall (some s) (d + 1) 255 [.ref 72, .int i1, .long l2] w (qQi Q) := qCall_of (cd := c_Mo_isDue) (mL := 4) rfl u_Mo_isDue [] 28 h

set_option maxRecDepth 100000 in
theorem A_Mo_clauses {s : Nat × (Nat → Int32)} {d : Nat} {w : qW} {Q : Int32 → qW → Prop}  (h :
  qIn (4 : Int32) 262 ∧
  ((0 ≤ (w.1 73 (qIx (4 : Int32))) →
    qIn (4 : Int32) 262 ∧
    (qIn ((700 : Int32) * (w.1 73 (qIx (4 : Int32)))) 2800 ∧
    (Q (w.1 77 (qIx ((700 : Int32) * (w.1 73 (qIx (4 : Int32)))))) w))) ∧
  (¬ 0 ≤ (w.1 73 (qIx (4 : Int32))) →
    Q (0 : Int32) w))) :
  qCall (some s) (d + 1) 256 [.ref 72] w (qQi Q) := qCall_of (cd := c_Mo_clauses) (mL := 1) rfl u_Mo_clauses [] 16 h

set_option maxRecDepth 100000 in
theorem A_Mo_sortAt {s : Nat × (Nat → Int32)} {d : Nat} {w : qW} {Q : Int32 → qW → Prop} {i1 : Int32} (h :
  qIn (4 : Int32) 262 ∧
  (qIn ((((700 : Int32) * (w.1 73 (qIx (4 : Int32)))) + (1 : Int32)) + ((3 : Int32) * i1)) 2800 ∧
  (Q (w.1 77 (qIx ((((700 : Int32) * (w.1 73 (qIx (4 : Int32)))) + (1 : Int32)) + ((3 : Int32) * i1)))) w))) :
  qCall (some s) (d + 1) 257 [.ref 72, .int i1] w (qQi Q) := qCall_of (cd := c_Mo_sortAt) (mL := 2) rfl u_Mo_sortAt [] 17 h

set_option maxRecDepth 100000 in
theorem A_Mo_work {s : Nat × (Nat → Int32)} {d : Nat} {w : qW} {Q : qW → Prop} {i1 : Int32} (h :
  qIn (4 : Int32) 262 ∧
  (qIn (4 : Int32) 262 ∧
  (qIn (((((700 : Int32) * (w.1 73 (qIx (4 : Int32)))) + (1 : Int32)) + ((3 : Int32) * i1)) + (1 : Int32)) 2800 ∧
  (qAt s d c_Mo_work (qQv Q) 47 [some (.ref 72), none, some (.int ((((700 : Int32) * (w.1 73 (qIx (4 : Int32)))) + (1 : Int32)) + ((3 : Int32) * i1))), some (.int (((700 : Int32) * (w.1 73 (qIx (4 : Int32)))) + (80 : Int32))), some (.int (0 : Int32)), some (.int (0 : Int32)), some (.int (w.1 77 (qIx (((((700 : Int32) * (w.1 73 (qIx (4 : Int32)))) + (1 : Int32)) + ((3 : Int32) * i1)) + (1 : Int32))))), none, none] [] w)))) :
  qCall (some s) (d + 1) 258 [.ref 72, .int i1] w (qQv Q) := qCall_of (cd := c_Mo_work) (mL := 9) rfl u_Mo_work [(47, [true, false, true, true, true, true, true, false, false])] 35 h
set_option maxRecDepth 100000 in
theorem A_Mo_work_47 {s : Nat × (Nat → Int32)} {d : Nat} {w : qW} {Q : qW → Prop} {i2 : Int32} {i3 : Int32} {i4 : Int32} {i5 : Int32} {i6 : Int32} (h :
  qIn (i2 + (2 : Int32)) 2800 ∧
  (((w.1 77 (qIx (i2 + (2 : Int32)))) ≤ i6 →
    Q w) ∧
  (¬ (w.1 77 (qIx (i2 + (2 : Int32)))) ≤ i6 →
    qIn (i3 + ((2 : Int32) * i6)) 2800 ∧
    (qIn ((i3 + ((2 : Int32) * i6)) + (1 : Int32)) 2800 ∧
    (((1 : Int32) < (w.1 77 (qIx (i3 + ((2 : Int32) * i6)))) →
      (¬ (w.1 77 (qIx (i3 + ((2 : Int32) * i6)))) = (2 : Int32) →
        ((10 : Int32) ≤ (w.1 77 (qIx (i3 + ((2 : Int32) * i6)))) →
          ((20 : Int32) ≤ (w.1 77 (qIx (i3 + ((2 : Int32) * i6)))) →
            (¬ (w.1 77 (qIx (i3 + ((2 : Int32) * i6)))) = (20 : Int32) →
              (¬ (w.1 77 (qIx (i3 + ((2 : Int32) * i6)))) = (21 : Int32) →
                qIn ((i5 + (-1 : Int32)) - (1 : Int32)) 330 ∧
                ((¬ (w.1 82 (qIx ((i5 + (-1 : Int32)) - (1 : Int32)))) = 0 →
                  qIn ((i5 + (-1 : Int32)) - (1 : Int32)) 330 ∧
                  (qAt s d c_Mo_work (qQv Q) 47 [some (.ref 72), none, some (.int i2), some (.int i3), some (.int i4), some (.int (i5 + (-1 : Int32))), some (.int (i6 + (1 : Int32))), none, none] [] (qPutI w 82 (qIx ((i5 + (-1 : Int32)) - (1 : Int32))) (1 : Int32)))) ∧
                ((w.1 82 (qIx ((i5 + (-1 : Int32)) - (1 : Int32)))) = 0 →
                  qIn (i5 + (-1 : Int32)) 330 ∧
                  (((w.1 82 (qIx (i5 + (-1 : Int32)))) = 0 →
                    qIn ((i5 + (-1 : Int32)) - (1 : Int32)) 330 ∧
                    (qAt s d c_Mo_work (qQv Q) 47 [some (.ref 72), none, some (.int i2), some (.int i3), some (.int i4), some (.int (i5 + (-1 : Int32))), some (.int (i6 + (1 : Int32))), none, none] [] (qPutI w 82 (qIx ((i5 + (-1 : Int32)) - (1 : Int32))) (0 : Int32)))) ∧
                  (¬ (w.1 82 (qIx (i5 + (-1 : Int32)))) = 0 →
                    qIn ((i5 + (-1 : Int32)) - (1 : Int32)) 330 ∧
                    (qAt s d c_Mo_work (qQv Q) 47 [some (.ref 72), none, some (.int i2), some (.int i3), some (.int i4), some (.int (i5 + (-1 : Int32))), some (.int (i6 + (1 : Int32))), none, none] [] (qPutI w 82 (qIx ((i5 + (-1 : Int32)) - (1 : Int32))) (1 : Int32)))))))) ∧
              ((w.1 77 (qIx (i3 + ((2 : Int32) * i6)))) = (21 : Int32) →
                qIn ((i5 + (-1 : Int32)) - (1 : Int32)) 330 ∧
                (((w.1 82 (qIx ((i5 + (-1 : Int32)) - (1 : Int32)))) = 0 →
                  qIn ((i5 + (-1 : Int32)) - (1 : Int32)) 330 ∧
                  (qAt s d c_Mo_work (qQv Q) 47 [some (.ref 72), none, some (.int i2), some (.int i3), some (.int i4), some (.int (i5 + (-1 : Int32))), some (.int (i6 + (1 : Int32))), none, none] [] (qPutI w 82 (qIx ((i5 + (-1 : Int32)) - (1 : Int32))) (0 : Int32)))) ∧
                (¬ (w.1 82 (qIx ((i5 + (-1 : Int32)) - (1 : Int32)))) = 0 →
                  qIn (i5 + (-1 : Int32)) 330 ∧
                  (((w.1 82 (qIx (i5 + (-1 : Int32)))) = 0 →
                    qIn ((i5 + (-1 : Int32)) - (1 : Int32)) 330 ∧
                    (qAt s d c_Mo_work (qQv Q) 47 [some (.ref 72), none, some (.int i2), some (.int i3), some (.int i4), some (.int (i5 + (-1 : Int32))), some (.int (i6 + (1 : Int32))), none, none] [] (qPutI w 82 (qIx ((i5 + (-1 : Int32)) - (1 : Int32))) (0 : Int32)))) ∧
                  (¬ (w.1 82 (qIx (i5 + (-1 : Int32)))) = 0 →
                    qIn ((i5 + (-1 : Int32)) - (1 : Int32)) 330 ∧
                    (qAt s d c_Mo_work (qQv Q) 47 [some (.ref 72), none, some (.int i2), some (.int i3), some (.int i4), some (.int (i5 + (-1 : Int32))), some (.int (i6 + (1 : Int32))), none, none] [] (qPutI w 82 (qIx ((i5 + (-1 : Int32)) - (1 : Int32))) (1 : Int32))))))))) ∧
            ((w.1 77 (qIx (i3 + ((2 : Int32) * i6)))) = (20 : Int32) →
              qIn (i5 - (1 : Int32)) 330 ∧
              ((¬ (w.1 82 (qIx (i5 - (1 : Int32)))) = 0 →
                qIn (i5 - (1 : Int32)) 330 ∧
                (qAt s d c_Mo_work (qQv Q) 47 [some (.ref 72), none, some (.int i2), some (.int i3), some (.int i4), some (.int i5), some (.int (i6 + (1 : Int32))), none, none] [] (qPutI w 82 (qIx (i5 - (1 : Int32))) (0 : Int32)))) ∧
              ((w.1 82 (qIx (i5 - (1 : Int32)))) = 0 →
                qIn (i5 - (1 : Int32)) 330 ∧
                (qAt s d c_Mo_work (qQv Q) 47 [some (.ref 72), none, some (.int i2), some (.int i3), some (.int i4), some (.int i5), some (.int (i6 + (1 : Int32))), none, none] [] (qPutI w 82 (qIx (i5 - (1 : Int32))) (1 : Int32))))))) ∧
          (¬ (20 : Int32) ≤ (w.1 77 (qIx (i3 + ((2 : Int32) * i6)))) →
            qIn (i4 + (-2 : Int32)) 330 ∧
            (qIn ((i4 + (-2 : Int32)) + (1 : Int32)) 330 ∧
            (qCall (some s) d 261 [.int (w.1 77 (qIx (i3 + ((2 : Int32) * i6)))), .long (w.2.1 81 (qIx (i4 + (-2 : Int32)))), .long (w.2.1 81 (qIx ((i4 + (-2 : Int32)) + (1 : Int32))))] w (qQi fun x2 w1 =>
              qIn i5 330 ∧
              (qB (qZb x2) (qAt s d c_Mo_work (qQv Q) 47 [some (.ref 72), none, some (.int i2), some (.int i3), some (.int (i4 + (-2 : Int32))), some (.int (i5 + (1 : Int32))), some (.int (i6 + (1 : Int32))), none, none] [] (qPutI w1 82 (qIx i5) x2)))))))) ∧
        (¬ (10 : Int32) ≤ (w.1 77 (qIx (i3 + ((2 : Int32) * i6)))) →
          qIn ((i4 + (-1 : Int32)) - (1 : Int32)) 330 ∧
          (qIn (i4 + (-1 : Int32)) 330 ∧
          (qCall (some s) d 259 [.int (w.1 77 (qIx (i3 + ((2 : Int32) * i6)))), .long (w.2.1 81 (qIx ((i4 + (-1 : Int32)) - (1 : Int32)))), .long (w.2.1 81 (qIx (i4 + (-1 : Int32))))] w (qQl fun y4 w3 =>
            qIn ((i4 + (-1 : Int32)) - (1 : Int32)) 330 ∧
            (qAt s d c_Mo_work (qQv Q) 47 [some (.ref 72), none, some (.int i2), some (.int i3), some (.int (i4 + (-1 : Int32))), some (.int i5), some (.int (i6 + (1 : Int32))), none, none] [] (qPutL w3 81 (qIx ((i4 + (-1 : Int32)) - (1 : Int32))) y4))))))) ∧
      ((w.1 77 (qIx (i3 + ((2 : Int32) * i6)))) = (2 : Int32) →
        qIn (i4 - (1 : Int32)) 330 ∧
        (qIn (i4 - (1 : Int32)) 330 ∧
        (qAt s d c_Mo_work (qQv Q) 47 [some (.ref 72), none, some (.int i2), some (.int i3), some (.int i4), some (.int i5), some (.int (i6 + (1 : Int32))), none, none] [] (qPutL w 81 (qIx (i4 - (1 : Int32))) (-(w.2.1 81 (qIx (i4 - (1 : Int32)))))))))) ∧
    (¬ (1 : Int32) < (w.1 77 (qIx (i3 + ((2 : Int32) * i6)))) →
      (¬ (w.1 77 (qIx (i3 + ((2 : Int32) * i6)))) = 0 →
        qIn (w.1 77 (qIx ((i3 + ((2 : Int32) * i6)) + (1 : Int32)))) 7 ∧
        (qIn i4 330 ∧
        (qAt s d c_Mo_work (qQv Q) 47 [some (.ref 72), none, some (.int i2), some (.int i3), some (.int (i4 + (1 : Int32))), some (.int i5), some (.int (i6 + (1 : Int32))), none, none] [] (qPutL w 81 (qIx i4) (Int32.toInt64 (w.1 80 (qIx (w.1 77 (qIx ((i3 + ((2 : Int32) * i6)) + (1 : Int32))))))))))) ∧
      ((w.1 77 (qIx (i3 + ((2 : Int32) * i6)))) = 0 →
        qIn i4 330 ∧
        (qAt s d c_Mo_work (qQv Q) 47 [some (.ref 72), none, some (.int i2), some (.int i3), some (.int (i4 + (1 : Int32))), some (.int i5), some (.int (i6 + (1 : Int32))), none, none] [] (qPutL w 81 (qIx i4) (Int32.toInt64 (w.1 77 (qIx ((i3 + ((2 : Int32) * i6)) + (1 : Int32)))))))))))))) :
  qAt s d c_Mo_work (qQv Q) 47 [some (.ref 72), none, some (.int i2), some (.int i3), some (.int i4), some (.int i5), some (.int i6), none, none] [] w := qAt_of u_Mo_work [(47, [true, false, true, true, true, true, true, false, false])] 71 h

set_option maxRecDepth 100000 in
theorem A_Mo_two {s : Nat × (Nat → Int32)} {d : Nat} {w : qW} {Q : Int64 → qW → Prop} {i0 : Int32} {l1 : Int64} {l3 : Int64} (h :
  (i0 = (3 : Int32) →
    qCall (some s) d 260 [.long (l1 + l3)] w (qQl fun y2 w1 =>
      Q y2 w1)) ∧
  (¬ i0 = (3 : Int32) →
  (i0 = (4 : Int32) →
    qCall (some s) d 260 [.long (l1 - l3)] w (qQl fun y4 w3 =>
      Q y4 w3)) ∧
  (¬ i0 = (4 : Int32) →
  (i0 = (5 : Int32) →
    qCall (some s) d 260 [.long (l1 * l3)] w (qQl fun y6 w5 =>
      Q y6 w5)) ∧
  (¬ i0 = (5 : Int32) →
  (i0 = (6 : Int32) →
    (¬ (lg_cmp l3 (0 : Int64)) = 0 →
      ¬ l3 = 0 ∧ (qCall (some s) d 260 [.long (l1 / l3)] w (qQl fun y8 w7 =>
        Q y8 w7))) ∧
    ((lg_cmp l3 (0 : Int64)) = 0 →
      Q (0 : Int64) w)) ∧
  (¬ i0 = (6 : Int32) →
  (i0 = (7 : Int32) →
    (¬ (lg_cmp l3 (0 : Int64)) = 0 →
      ¬ l3 = 0 ∧ (Q (qRemL l1 l3) w)) ∧
    ((lg_cmp l3 (0 : Int64)) = 0 →
      Q (0 : Int64) w)) ∧
  (¬ i0 = (7 : Int32) →
  (¬ (lg_cmp l3 (0 : Int64)) = 0 →
      ¬ l3 = 0 ∧ (qCall (some s) d 260 [.long (l1 / l3)] w (qQl fun y10 w9 =>
        Q y10 w9))) ∧
    ((lg_cmp l3 (0 : Int64)) = 0 →
      Q (0 : Int64) w))))))) :
  qCall (some s) (d + 1) 259 [.int i0, .long l1, .long l3] w (qQl Q) := qCall_of (cd := c_Mo_two) (mL := 5) rfl u_Mo_two [] 12 h

set_option maxRecDepth 100000 in
theorem A_Mo_clip {s : Nat × (Nat → Int32)} {d : Nat} {w : qW} {Q : Int64 → qW → Prop} {l0 : Int64} (h :
  ((lg_cmp l0 (1000000 : Int64)) ≤ 0 →
    (0 ≤ (lg_cmp l0 (-1000000 : Int64)) →
      Q l0 w) ∧
    (¬ 0 ≤ (lg_cmp l0 (-1000000 : Int64)) →
      Q (-1000000 : Int64) w)) ∧
  (¬ (lg_cmp l0 (1000000 : Int64)) ≤ 0 →
    Q (1000000 : Int64) w)) :
  qCall (some s) (d + 1) 260 [.long l0] w (qQl Q) := qCall_of (cd := c_Mo_clip) (mL := 2) rfl u_Mo_clip [] 12 h

set_option maxRecDepth 100000 in
theorem A_Mo_isAsked {s : Nat × (Nat → Int32)} {d : Nat} {w : qW} {Q : Int32 → qW → Prop} {i0 : Int32} {l1 : Int64} {l3 : Int64} (h :
  (¬ i0 = (10 : Int32) →
    (¬ i0 = (11 : Int32) →
      (¬ i0 = (12 : Int32) →
        (¬ i0 = (13 : Int32) →
          (¬ i0 = (14 : Int32) →
            ((lg_cmp l1 l3) = 0 →
              Q (0 : Int32) w) ∧
            (¬ (lg_cmp l1 l3) = 0 →
              Q (1 : Int32) w)) ∧
          (i0 = (14 : Int32) →
            (¬ (lg_cmp l1 l3) = 0 →
              Q (0 : Int32) w) ∧
            ((lg_cmp l1 l3) = 0 →
              Q (1 : Int32) w))) ∧
        (i0 = (13 : Int32) →
          ((lg_cmp l1 l3) < 0 →
            Q (0 : Int32) w) ∧
          (¬ (lg_cmp l1 l3) < 0 →
            Q (1 : Int32) w))) ∧
      (i0 = (12 : Int32) →
        ((lg_cmp l1 l3) ≤ 0 →
          Q (0 : Int32) w) ∧
        (¬ (lg_cmp l1 l3) ≤ 0 →
          Q (1 : Int32) w))) ∧
    (i0 = (11 : Int32) →
      (0 < (lg_cmp l1 l3) →
        Q (0 : Int32) w) ∧
      (¬ 0 < (lg_cmp l1 l3) →
        Q (1 : Int32) w))) ∧
  (i0 = (10 : Int32) →
    (0 ≤ (lg_cmp l1 l3) →
      Q (0 : Int32) w) ∧
    (¬ 0 ≤ (lg_cmp l1 l3) →
      Q (1 : Int32) w))) :
  qCall (some s) (d + 1) 261 [.int i0, .long l1, .long l3] w (qQi Q) := qCall_of (cd := c_Mo_isAsked) (mL := 5) rfl u_Mo_isAsked [] 23 h

set_option maxRecDepth 100000 in
theorem A_Mo_isSpeaking {s : Nat × (Nat → Int32)} {d : Nat} {w : qW} {Q : Int32 → qW → Prop} {i1 : Int32} {l2 : Int64} (h :
  qIn (1 : Int32) 262 ∧
  (qCall (some s) d 263 [.ref 72, .int i1, .long l2, .int (w.1 73 (qIx (1 : Int32)))] w (qQi fun x2 w1 =>
    qB (qZb x2) (Q x2 w1)))) :
  qCall (some s) (d + 1) 262 [.ref 72, .int i1, .long l2] w (qQi Q) := qCall_of (cd := c_Mo_isSpeaking) (mL := 4) rfl u_Mo_isSpeaking [] 10 h

set_option maxRecDepth 100000 in
theorem A_Mo_isSpeakingBy {s : Nat × (Nat → Int32)} {d : Nat} {w : qW} {Q : Int32 → qW → Prop} {i1 : Int32} {l2 : Int64} {i4 : Int32} (h :
  (¬ i4 = 0 →
    ¬ (Int32.toInt64 i4) = 0 ∧ (qAt s d c_Mo_isSpeakingBy (qQi Q) 16 [some (.ref 72), some (.int i1), some (.long l2), none, none] [.long (qRemL l2 (Int32.toInt64 i4)), .int i1, .ref 72] w)) ∧
  (i4 = 0 →
    qAt s d c_Mo_isSpeakingBy (qQi Q) 16 [some (.ref 72), some (.int i1), some (.long l2), none, none] [.long l2, .int i1, .ref 72] w)) :
  qCall (some s) (d + 1) 263 [.ref 72, .int i1, .long l2, .int i4] w (qQi Q) := qCall_of (cd := c_Mo_isSpeakingBy) (mL := 5) rfl u_Mo_isSpeakingBy [(16, [true, true, true, false, false])] 10 h
set_option maxRecDepth 100000 in
theorem A_Mo_isSpeakingBy_16 {s : Nat × (Nat → Int32)} {d : Nat} {w : qW} {Q : Int32 → qW → Prop} {i1 : Int32} {l2 : Int64} {ls0 : Int64} {is1 : Int32} (h :
  qCall (some s) d 255 [.ref 72, .int is1, .long ls0] w (qQi fun x2 w1 =>
    (x2 = 0 →
      Q (0 : Int32) w1) ∧
    (¬ x2 = 0 →
      qIn (2 : Int32) 262 ∧
      (¬ (Int32.toInt64 (w1.1 73 (qIx (2 : Int32)))) = 0 ∧ (qIn (((60 : Int32) * i1) + (Int64.toInt32 (qRemL l2 (Int32.toInt64 (w1.1 73 (qIx (2 : Int32))))))) 720 ∧
      ((¬ (w1.1 85 (qIx (((60 : Int32) * i1) + (Int64.toInt32 (qRemL l2 (Int32.toInt64 (w1.1 73 (qIx (2 : Int32))))))))) = 0 →
        Q (0 : Int32) w1) ∧
      ((w1.1 85 (qIx (((60 : Int32) * i1) + (Int64.toInt32 (qRemL l2 (Int32.toInt64 (w1.1 73 (qIx (2 : Int32))))))))) = 0 →
        Q (1 : Int32) w1))))))) :
  qAt s d c_Mo_isSpeakingBy (qQi Q) 16 [some (.ref 72), some (.int i1), some (.long l2), none, none] [.long ls0, .int is1, .ref 72] w := qAt_of u_Mo_isSpeakingBy [(16, [true, true, true, false, false])] 22 h

set_option maxRecDepth 100000 in
theorem A_Mo_next {s : Nat × (Nat → Int32)} {d : Nat} {w : qW} {Q : Int64 → qW → Prop} {i1 : Int32} {l2 : Int64} (h :
  qCall (some s) d 265 [.ref 72, .int i1] w (qQi fun x2 w1 =>
    (x2 = 0 →
      Q (-1 : Int64) w1) ∧
    (¬ x2 = 0 →
      qCall (some s) d 252 [.long l2] w1 (qQi fun x4 w3 =>
        (¬ x4 = 0 →
          qCall (some s) d 253 [.ref 72] w3 (qQv fun w5 =>
            qIn (1 : Int32) 262 ∧
            (((w5.1 73 (qIx (1 : Int32))) ≤ 0 →
              qCall (some s) d 271 [.ref 72, .int i1] w5 (qQi fun x7 w6 =>
                (¬ x7 = 0 →
                  qAt s d c_Mo_next (qQl Q) 62 [some (.ref 72), some (.int i1), some (.long l2), none, some (.int (0 : Int32)), some (.long (1000000000000001 : Int64)), none, some (.int (0 : Int32)), none, none] [] w6) ∧
                (x7 = 0 →
                  Q (-1 : Int64) w6))) ∧
            (¬ (w5.1 73 (qIx (1 : Int32))) ≤ 0 →
              qCall (some s) d 266 [.ref 72, .int i1, .long l2] w5 (qQl fun y9 w8 =>
                Q y9 w8))))) ∧
        (x4 = 0 →
          Q (-1 : Int64) w3))))) :
  qCall (some s) (d + 1) 264 [.ref 72, .int i1, .long l2] w (qQl Q) := qCall_of (cd := c_Mo_next) (mL := 10) rfl u_Mo_next [(62, [true, true, true, false, true, true, false, true, false, false])] 26 h
set_option maxRecDepth 100000 in
theorem A_Mo_next_62 {s : Nat × (Nat → Int32)} {d : Nat} {w : qW} {Q : Int64 → qW → Prop} {i1 : Int32} {l2 : Int64} {i4 : Int32} {l5 : Int64} {i7 : Int32} (h :
  qIn (2 : Int32) 262 ∧
  (((w.1 73 (qIx (2 : Int32))) ≤ i7 →
    (¬ i4 = 0 →
      ((lg_cmp l5 (1000000000000000 : Int64)) ≤ 0 →
        Q l5 w) ∧
      (¬ (lg_cmp l5 (1000000000000000 : Int64)) ≤ 0 →
        Q (-2 : Int64) w)) ∧
    (i4 = 0 →
      Q (-1 : Int64) w)) ∧
  (¬ (w.1 73 (qIx (2 : Int32))) ≤ i7 →
    qCall (some s) d 273 [.ref 72, .int i1, .int i7] w (qQi fun x2 w1 =>
      (¬ x2 = 0 →
        qCall (some s) d 274 [.ref 72, .int i1, .int i7] w1 (qQi fun x4 w3 =>
          (¬ x4 = 0 →
            qCall (some s) d 277 [.ref 72, .int i1, .long l2] w3 (qQl fun y6 w5 =>
              qCall (some s) d 278 [.ref 72, .long y6] w5 (qQl fun y8 w7 =>
                (0 ≤ (lg_cmp y8 l5) →
                  qAt s d c_Mo_next (qQl Q) 62 [some (.ref 72), some (.int i1), some (.long l2), none, some (.int (1 : Int32)), some (.long l5), none, some (.int (i7 + (1 : Int32))), none, none] [] w7) ∧
                (¬ 0 ≤ (lg_cmp y8 l5) →
                  qAt s d c_Mo_next (qQl Q) 62 [some (.ref 72), some (.int i1), some (.long l2), none, some (.int (1 : Int32)), some (.long y8), none, some (.int (i7 + (1 : Int32))), none, none] [] w7)))) ∧
          (x4 = 0 →
            qAt s d c_Mo_next (qQl Q) 62 [some (.ref 72), some (.int i1), some (.long l2), none, some (.int (1 : Int32)), some (.long l5), none, some (.int (i7 + (1 : Int32))), none, none] [] w3))) ∧
      (x2 = 0 →
        qAt s d c_Mo_next (qQl Q) 62 [some (.ref 72), some (.int i1), some (.long l2), none, some (.int i4), some (.long l5), none, some (.int (i7 + (1 : Int32))), none, none] [] w1))))) :
  qAt s d c_Mo_next (qQl Q) 62 [some (.ref 72), some (.int i1), some (.long l2), none, some (.int i4), some (.long l5), none, some (.int i7), none, none] [] w := qAt_of u_Mo_next [(62, [true, true, true, false, true, true, false, true, false, false])] 36 h

set_option maxRecDepth 100000 in
theorem A_Mo_isSet {s : Nat × (Nat → Int32)} {d : Nat} {w : qW} {Q : Int32 → qW → Prop} {i1 : Int32} (h :
  qIn (0 : Int32) 262 ∧
  (qCall (some s) d 209 [.int i1, .int (1 : Int32), .int ((qShl (1 : Int32) (w.1 73 (qIx (0 : Int32)))) - (1 : Int32))] w (qQi fun x2 w1 =>
    qB (qZb x2) (Q x2 w1)))) :
  qCall (some s) (d + 1) 265 [.ref 72, .int i1] w (qQi Q) := qCall_of (cd := c_Mo_isSet) (mL := 2) rfl u_Mo_isSet [] 13 h

set_option maxRecDepth 100000 in
theorem A_Mo_nextByDay {s : Nat × (Nat → Int32)} {d : Nat} {w : qW} {Q : Int64 → qW → Prop} {i1 : Int32} {l2 : Int64} (h :
  qAt s d c_Mo_nextByDay (qQl Q) 3 [some (.ref 72), some (.int i1), some (.long l2), none, some (.long l2), none] [] w) :
  qCall (some s) (d + 1) 266 [.ref 72, .int i1, .long l2] w (qQl Q) := qCall_of (cd := c_Mo_nextByDay) (mL := 6) rfl u_Mo_nextByDay [(3, [true, true, true, false, true, false])] 4 h
set_option maxRecDepth 100000 in
theorem A_Mo_nextByDay_3 {s : Nat × (Nat → Int32)} {d : Nat} {w : qW} {Q : Int64 → qW → Prop} {i1 : Int32} {l2 : Int64} {l4 : Int64} (h :
  qCall (some s) d 267 [.ref 72] w (qQi fun x2 w1 =>
    (0 ≤ (lg_cmp l4 (l2 + (Int32.toInt64 x2))) →
      Q (-1 : Int64) w1) ∧
    (¬ 0 ≤ (lg_cmp l4 (l2 + (Int32.toInt64 x2))) →
      qCall (some s) d 269 [.ref 72, .int i1, .long l4] w1 (qQi fun x4 w3 =>
        (x4 = 0 →
          qAt s d c_Mo_nextByDay (qQl Q) 3 [some (.ref 72), some (.int i1), some (.long l2), none, some (.long (l4 + (1 : Int64))), none] [] w3) ∧
        (¬ x4 = 0 →
          ((lg_cmp l4 (1000000000000000 : Int64)) ≤ 0 →
            Q l4 w3) ∧
          (¬ (lg_cmp l4 (1000000000000000 : Int64)) ≤ 0 →
            Q (-2 : Int64) w3)))))) :
  qAt s d c_Mo_nextByDay (qQl Q) 3 [some (.ref 72), some (.int i1), some (.long l2), none, some (.long l4), none] [] w := qAt_of u_Mo_nextByDay [(3, [true, true, true, false, true, false])] 21 h

set_option maxRecDepth 100000 in
theorem A_Mo_turnRound {s : Nat × (Nat → Int32)} {d : Nat} {w : qW} {Q : Int32 → qW → Prop}  (h :
  qIn (1 : Int32) 262 ∧
  (qIn (1 : Int32) 262 ∧
  (qIn (2 : Int32) 262 ∧
  (qCall (some s) d 268 [.long (Int32.toInt64 (w.1 73 (qIx (1 : Int32)))), .long (Int32.toInt64 (w.1 73 (qIx (2 : Int32))))] w (qQl fun y2 w1 =>
    ¬ y2 = 0 ∧ (qIn (2 : Int32) 262 ∧
    (Q (Int64.toInt32 (((Int32.toInt64 (w.1 73 (qIx (1 : Int32)))) / y2) * (Int32.toInt64 (w1.1 73 (qIx (2 : Int32)))))) w1))))))) :
  qCall (some s) (d + 1) 267 [.ref 72] w (qQi Q) := qCall_of (cd := c_Mo_turnRound) (mL := 1) rfl u_Mo_turnRound [] 26 h

set_option maxRecDepth 100000 in
theorem A_Mo_common {s : Nat × (Nat → Int32)} {d : Nat} {w : qW} {Q : Int64 → qW → Prop} {l0 : Int64} {l2 : Int64} (h :
  qAt s d c_Mo_common (qQl Q) 6 [none, none, none, none, some (.long l0), none, some (.long l2), none, none, none] [] w) :
  qCall (some s) (d + 1) 268 [.long l0, .long l2] w (qQl Q) := qCall_of (cd := c_Mo_common) (mL := 10) rfl u_Mo_common [(6, [false, false, false, false, true, false, true, false, false, false])] 6 h
set_option maxRecDepth 100000 in
theorem A_Mo_common_6 {s : Nat × (Nat → Int32)} {d : Nat} {w : qW} {Q : Int64 → qW → Prop} {l4 : Int64} {l6 : Int64} (h :
  ((lg_cmp l6 (0 : Int64)) = 0 →
    Q l4 w) ∧
  (¬ (lg_cmp l6 (0 : Int64)) = 0 →
    ¬ l6 = 0 ∧ (qAt s d c_Mo_common (qQl Q) 6 [none, none, none, none, some (.long l6), none, some (.long (qRemL l4 l6)), none, none, none] [] w))) :
  qAt s d c_Mo_common (qQl Q) 6 [none, none, none, none, some (.long l4), none, some (.long l6), none, none, none] [] w := qAt_of u_Mo_common [(6, [false, false, false, false, true, false, true, false, false, false])] 15 h

set_option maxRecDepth 100000 in
theorem A_Mo_doAll {s : Nat × (Nat → Int32)} {d : Nat} {w : qW} {Q : Int32 → qW → Prop} {i1 : Int32} {l2 : Int64} (h :
  qAt s d c_Mo_doAll (qQi Q) 3 [some (.ref 72), some (.int i1), some (.long l2), none, some (.int (0 : Int32))] [] w) :
  qCall (some s) (d + 1) 269 [.ref 72, .int i1, .long l2] w (qQi Q) := qCall_of (cd := c_Mo_doAll) (mL := 5) rfl u_Mo_doAll [(3, [true, true, true, false, true])] 4 h
set_option maxRecDepth 100000 in
theorem A_Mo_doAll_3 {s : Nat × (Nat → Int32)} {d : Nat} {w : qW} {Q : Int32 → qW → Prop} {i1 : Int32} {l2 : Int64} {i4 : Int32} (h :
  qIn (0 : Int32) 262 ∧
  (((w.1 73 (qIx (0 : Int32))) ≤ i4 →
    Q (1 : Int32) w) ∧
  (¬ (w.1 73 (qIx (0 : Int32))) ≤ i4 →
    qCall (some s) d 270 [.int i1, .int i4] w (qQi fun x2 w1 =>
      (x2 = 0 →
        qAt s d c_Mo_doAll (qQi Q) 3 [some (.ref 72), some (.int i1), some (.long l2), none, some (.int (i4 + (1 : Int32)))] [] w1) ∧
      (¬ x2 = 0 →
        qCall (some s) d 262 [.ref 72, .int i4, .long l2] w1 (qQi fun x4 w3 =>
          (¬ x4 = 0 →
            qAt s d c_Mo_doAll (qQi Q) 3 [some (.ref 72), some (.int i1), some (.long l2), none, some (.int (i4 + (1 : Int32)))] [] w3) ∧
          (x4 = 0 →
            Q (0 : Int32) w3))))))) :
  qAt s d c_Mo_doAll (qQi Q) 3 [some (.ref 72), some (.int i1), some (.long l2), none, some (.int i4)] [] w := qAt_of u_Mo_doAll [(3, [true, true, true, false, true])] 19 h

set_option maxRecDepth 100000 in
theorem A_Mo_has {s : Nat × (Nat → Int32)} {d : Nat} {w : qW} {Q : Int32 → qW → Prop} {i0 : Int32} {i1 : Int32} (h :
  (¬ ((qShr i0 i1) &&& (1 : Int32)) = (1 : Int32) →
    Q (0 : Int32) w) ∧
  (((qShr i0 i1) &&& (1 : Int32)) = (1 : Int32) →
    Q (1 : Int32) w)) :
  qCall (some s) (d + 1) 270 [.int i0, .int i1] w (qQi Q) := qCall_of (cd := c_Mo_has) (mL := 2) rfl u_Mo_has [] 11 h

set_option maxRecDepth 100000 in
theorem A_Mo_areJoined {s : Nat × (Nat → Int32)} {d : Nat} {w : qW} {Q : Int32 → qW → Prop} {i1 : Int32} (h :
  qAt s d c_Mo_areJoined (qQi Q) 2 [some (.ref 72), some (.int i1), some (.int (0 : Int32)), none] [] w) :
  qCall (some s) (d + 1) 271 [.ref 72, .int i1] w (qQi Q) := qCall_of (cd := c_Mo_areJoined) (mL := 4) rfl u_Mo_areJoined [(2, [true, true, true, false]), (14, [true, true, true, true])] 4 h
set_option maxRecDepth 100000 in
theorem A_Mo_areJoined_2 {s : Nat × (Nat → Int32)} {d : Nat} {w : qW} {Q : Int32 → qW → Prop} {i1 : Int32} {i2 : Int32} (h :
  qIn (0 : Int32) 262 ∧
  (((w.1 73 (qIx (0 : Int32))) ≤ i2 →
    Q (1 : Int32) w) ∧
  (¬ (w.1 73 (qIx (0 : Int32))) ≤ i2 →
    qAt s d c_Mo_areJoined (qQi Q) 14 [some (.ref 72), some (.int i1), some (.int i2), some (.int (0 : Int32))] [] w))) :
  qAt s d c_Mo_areJoined (qQi Q) 2 [some (.ref 72), some (.int i1), some (.int i2), none] [] w := qAt_of u_Mo_areJoined [(2, [true, true, true, false]), (14, [true, true, true, true])] 10 h
set_option maxRecDepth 100000 in
theorem A_Mo_areJoined_14 {s : Nat × (Nat → Int32)} {d : Nat} {w : qW} {Q : Int32 → qW → Prop} {i1 : Int32} {i2 : Int32} {i3 : Int32} (h :
  (i2 ≤ i3 →
    qAt s d c_Mo_areJoined (qQi Q) 2 [some (.ref 72), some (.int i1), some (.int (i2 + (1 : Int32))), none] [] w) ∧
  (¬ i2 ≤ i3 →
    qCall (some s) d 270 [.int i1, .int i2] w (qQi fun x2 w1 =>
      (x2 = 0 →
        qAt s d c_Mo_areJoined (qQi Q) 14 [some (.ref 72), some (.int i1), some (.int i2), some (.int (i3 + (1 : Int32)))] [] w1) ∧
      (¬ x2 = 0 →
        qCall (some s) d 270 [.int i1, .int i3] w1 (qQi fun x4 w3 =>
          (x4 = 0 →
            qAt s d c_Mo_areJoined (qQi Q) 14 [some (.ref 72), some (.int i1), some (.int i2), some (.int (i3 + (1 : Int32)))] [] w3) ∧
          (¬ x4 = 0 →
            qCall (some s) d 272 [.ref 72, .int i2, .int i3] w3 (qQi fun x6 w5 =>
              (¬ x6 = 0 →
                qAt s d c_Mo_areJoined (qQi Q) 14 [some (.ref 72), some (.int i1), some (.int i2), some (.int (i3 + (1 : Int32)))] [] w5) ∧
              (x6 = 0 →
                Q (0 : Int32) w5)))))))) :
  qAt s d c_Mo_areJoined (qQi Q) 14 [some (.ref 72), some (.int i1), some (.int i2), some (.int i3)] [] w := qAt_of u_Mo_areJoined [(2, [true, true, true, false]), (14, [true, true, true, true])] 20 h

set_option maxRecDepth 100000 in
theorem A_Mo_canMeet {s : Nat × (Nat → Int32)} {d : Nat} {w : qW} {Q : Int32 → qW → Prop} {i1 : Int32} {i2 : Int32} (h :
  qIn i1 12 ∧
  (qIn i2 12 ∧
  (qIn i1 12 ∧
  (qIn i2 12 ∧
  (qCall (some s) d 268 [.long (Int32.toInt64 (w.1 83 (qIx i1))), .long (Int32.toInt64 (w.1 83 (qIx i2)))] w (qQl fun y2 w1 =>
    ¬ y2 = 0 ∧ ((¬ (lg_cmp (qRemL (Int32.toInt64 ((w.1 84 (qIx i1)) - (w.1 84 (qIx i2)))) y2) (0 : Int64)) = 0 →
      Q (0 : Int32) w1) ∧
    ((lg_cmp (qRemL (Int32.toInt64 ((w.1 84 (qIx i1)) - (w.1 84 (qIx i2)))) y2) (0 : Int64)) = 0 →
      Q (1 : Int32) w1)))))))) :
  qCall (some s) (d + 1) 272 [.ref 72, .int i1, .int i2] w (qQi Q) := qCall_of (cd := c_Mo_canMeet) (mL := 3) rfl u_Mo_canMeet [] 29 h

set_option maxRecDepth 100000 in
theorem A_Mo_isOpen {s : Nat × (Nat → Int32)} {d : Nat} {w : qW} {Q : Int32 → qW → Prop} {i1 : Int32} {i2 : Int32} (h :
  qAt s d c_Mo_isOpen (qQi Q) 2 [some (.ref 72), some (.int i1), some (.int i2), some (.int (0 : Int32))] [] w) :
  qCall (some s) (d + 1) 273 [.ref 72, .int i1, .int i2] w (qQi Q) := qCall_of (cd := c_Mo_isOpen) (mL := 4) rfl u_Mo_isOpen [(2, [true, true, true, true])] 4 h
set_option maxRecDepth 100000 in
theorem A_Mo_isOpen_2 {s : Nat × (Nat → Int32)} {d : Nat} {w : qW} {Q : Int32 → qW → Prop} {i1 : Int32} {i2 : Int32} {i3 : Int32} (h :
  qIn (0 : Int32) 262 ∧
  (((w.1 73 (qIx (0 : Int32))) ≤ i3 →
    Q (1 : Int32) w) ∧
  (¬ (w.1 73 (qIx (0 : Int32))) ≤ i3 →
    qCall (some s) d 270 [.int i1, .int i3] w (qQi fun x2 w1 =>
      (x2 = 0 →
        qAt s d c_Mo_isOpen (qQi Q) 2 [some (.ref 72), some (.int i1), some (.int i2), some (.int (i3 + (1 : Int32)))] [] w1) ∧
      (¬ x2 = 0 →
        qIn (((60 : Int32) * i3) + i2) 720 ∧
        ((¬ (w1.1 85 (qIx (((60 : Int32) * i3) + i2))) = 0 →
          Q (0 : Int32) w1) ∧
        ((w1.1 85 (qIx (((60 : Int32) * i3) + i2))) = 0 →
          qIn i3 12 ∧
          (qIn i3 12 ∧
          (qIn (2 : Int32) 262 ∧
          (qCall (some s) d 268 [.long (Int32.toInt64 (w1.1 83 (qIx i3))), .long (Int32.toInt64 (w1.1 73 (qIx (2 : Int32))))] w1 (qQl fun y4 w3 =>
            ¬ y4 = 0 ∧ (((lg_cmp (qRemL (Int32.toInt64 ((w1.1 84 (qIx i3)) - i2)) y4) (0 : Int64)) = 0 →
              qAt s d c_Mo_isOpen (qQi Q) 2 [some (.ref 72), some (.int i1), some (.int i2), some (.int (i3 + (1 : Int32)))] [] w3) ∧
            (¬ (lg_cmp (qRemL (Int32.toInt64 ((w1.1 84 (qIx i3)) - i2)) y4) (0 : Int64)) = 0 →
              Q (0 : Int32) w3))))))))))))) :
  qAt s d c_Mo_isOpen (qQi Q) 2 [some (.ref 72), some (.int i1), some (.int i2), some (.int i3)] [] w := qAt_of u_Mo_isOpen [(2, [true, true, true, true])] 45 h

set_option maxRecDepth 100000 in
theorem A_Mo_findHours {s : Nat × (Nat → Int32)} {d : Nat} {w : qW} {Q : Int32 → qW → Prop} {i1 : Int32} {i2 : Int32} (h :
  qIn (2 : Int32) 262 ∧
  (qAt s d c_Mo_findHours (qQi Q) 19 [some (.ref 72), some (.int i1), none, some (.int (0 : Int32))] [] (qPutL (qPutL w 72 31 (Int32.toInt64 i2)) 72 32 (Int32.toInt64 (w.1 73 (qIx (2 : Int32))))))) :
  qCall (some s) (d + 1) 274 [.ref 72, .int i1, .int i2] w (qQi Q) := qCall_of (cd := c_Mo_findHours) (mL := 4) rfl u_Mo_findHours [(19, [true, true, false, true])] 15 h
set_option maxRecDepth 100000 in
theorem A_Mo_findHours_19 {s : Nat × (Nat → Int32)} {d : Nat} {w : qW} {Q : Int32 → qW → Prop} {i1 : Int32} {i3 : Int32} (h :
  qIn (0 : Int32) 262 ∧
  (((w.1 73 (qIx (0 : Int32))) ≤ i3 →
    Q (1 : Int32) w) ∧
  (¬ (w.1 73 (qIx (0 : Int32))) ≤ i3 →
    qCall (some s) d 270 [.int i1, .int i3] w (qQi fun x2 w1 =>
      (x2 = 0 →
        qAt s d c_Mo_findHours (qQi Q) 19 [some (.ref 72), some (.int i1), none, some (.int (i3 + (1 : Int32)))] [] w1) ∧
      (¬ x2 = 0 →
        qCall (some s) d 275 [.ref 72, .int i3] w1 (qQi fun x4 w3 =>
          (¬ x4 = 0 →
            qAt s d c_Mo_findHours (qQi Q) 19 [some (.ref 72), some (.int i1), none, some (.int (i3 + (1 : Int32)))] [] w3) ∧
          (x4 = 0 →
            Q (0 : Int32) w3))))))) :
  qAt s d c_Mo_findHours (qQi Q) 19 [some (.ref 72), some (.int i1), none, some (.int i3)] [] w := qAt_of u_Mo_findHours [(19, [true, true, false, true])] 18 h

set_option maxRecDepth 100000 in
theorem A_Mo_join {s : Nat × (Nat → Int32)} {d : Nat} {w : qW} {Q : Int32 → qW → Prop} {i1 : Int32} (h :
  qIn i1 12 ∧
  ((¬ (lg_cmp (w.2.1 72 32) (2000000000000000000 : Int64)) = 0 →
    qCall (some s) d 268 [.long (w.2.1 72 32), .long (Int32.toInt64 (w.1 83 (qIx i1)))] w (qQl fun y2 w1 =>
      ¬ y2 = 0 ∧ (qIn i1 12 ∧
      (¬ y2 = 0 ∧ (¬ ((Int32.toInt64 (w.1 83 (qIx i1))) / y2) = 0 ∧ (¬ ((Int32.toInt64 (w.1 83 (qIx i1))) / y2) = 0 ∧ (¬ y2 = 0 ∧ (qCall (some s) d 276 [.long ((w1.2.1 72 32) / y2), .long ((Int32.toInt64 (w.1 83 (qIx i1))) / y2)] w1 (qQl fun y4 w3 =>
        ¬ ((Int32.toInt64 (w.1 83 (qIx i1))) / y2) = 0 ∧ (((lg_cmp (qRemL ((qRemL ((qRemL (((Int32.toInt64 (w1.1 84 (qIx i1))) - (w1.2.1 72 31)) / y2) ((Int32.toInt64 (w.1 83 (qIx i1))) / y2)) + ((Int32.toInt64 (w.1 83 (qIx i1))) / y2)) ((Int32.toInt64 (w.1 83 (qIx i1))) / y2)) * y4) ((Int32.toInt64 (w.1 83 (qIx i1))) / y2)) (0 : Int64)) ≤ 0 →
          qAt s d c_Mo_join (qQi Q) 134 [some (.ref 72), none, none, none, none, none, some (.long ((Int32.toInt64 (w.1 83 (qIx i1))) / y2)), none, none, none, some (.long (qRemL ((qRemL ((qRemL (((Int32.toInt64 (w1.1 84 (qIx i1))) - (w1.2.1 72 31)) / y2) ((Int32.toInt64 (w.1 83 (qIx i1))) / y2)) + ((Int32.toInt64 (w.1 83 (qIx i1))) / y2)) ((Int32.toInt64 (w.1 83 (qIx i1))) / y2)) * y4) ((Int32.toInt64 (w.1 83 (qIx i1))) / y2))), none] [] w3) ∧
        (¬ (lg_cmp (qRemL ((qRemL ((qRemL (((Int32.toInt64 (w1.1 84 (qIx i1))) - (w1.2.1 72 31)) / y2) ((Int32.toInt64 (w.1 83 (qIx i1))) / y2)) + ((Int32.toInt64 (w.1 83 (qIx i1))) / y2)) ((Int32.toInt64 (w.1 83 (qIx i1))) / y2)) * y4) ((Int32.toInt64 (w.1 83 (qIx i1))) / y2)) (0 : Int64)) ≤ 0 →
          ¬ (qRemL ((qRemL ((qRemL (((Int32.toInt64 (w1.1 84 (qIx i1))) - (w1.2.1 72 31)) / y2) ((Int32.toInt64 (w.1 83 (qIx i1))) / y2)) + ((Int32.toInt64 (w.1 83 (qIx i1))) / y2)) ((Int32.toInt64 (w.1 83 (qIx i1))) / y2)) * y4) ((Int32.toInt64 (w.1 83 (qIx i1))) / y2)) = 0 ∧ (((lg_cmp (w3.2.1 72 32) (((1000000000000000 : Int64) - (w3.2.1 72 31)) / (qRemL ((qRemL ((qRemL (((Int32.toInt64 (w1.1 84 (qIx i1))) - (w1.2.1 72 31)) / y2) ((Int32.toInt64 (w.1 83 (qIx i1))) / y2)) + ((Int32.toInt64 (w.1 83 (qIx i1))) / y2)) ((Int32.toInt64 (w.1 83 (qIx i1))) / y2)) * y4) ((Int32.toInt64 (w.1 83 (qIx i1))) / y2)))) ≤ 0 →
            qAt s d c_Mo_join (qQi Q) 134 [some (.ref 72), none, none, none, none, none, some (.long ((Int32.toInt64 (w.1 83 (qIx i1))) / y2)), none, none, none, some (.long (qRemL ((qRemL ((qRemL (((Int32.toInt64 (w1.1 84 (qIx i1))) - (w1.2.1 72 31)) / y2) ((Int32.toInt64 (w.1 83 (qIx i1))) / y2)) + ((Int32.toInt64 (w.1 83 (qIx i1))) / y2)) ((Int32.toInt64 (w.1 83 (qIx i1))) / y2)) * y4) ((Int32.toInt64 (w.1 83 (qIx i1))) / y2))), none] [] w3) ∧
          (¬ (lg_cmp (w3.2.1 72 32) (((1000000000000000 : Int64) - (w3.2.1 72 31)) / (qRemL ((qRemL ((qRemL (((Int32.toInt64 (w1.1 84 (qIx i1))) - (w1.2.1 72 31)) / y2) ((Int32.toInt64 (w.1 83 (qIx i1))) / y2)) + ((Int32.toInt64 (w.1 83 (qIx i1))) / y2)) ((Int32.toInt64 (w.1 83 (qIx i1))) / y2)) * y4) ((Int32.toInt64 (w.1 83 (qIx i1))) / y2)))) ≤ 0 →
            Q (0 : Int32) w3))))))))))))) ∧
  ((lg_cmp (w.2.1 72 32) (2000000000000000000 : Int64)) = 0 →
    qIn i1 12 ∧
    (¬ (Int32.toInt64 (w.1 83 (qIx i1))) = 0 ∧ ((¬ (lg_cmp (qRemL ((w.2.1 72 31) - (Int32.toInt64 (w.1 84 (qIx i1)))) (Int32.toInt64 (w.1 83 (qIx i1)))) (0 : Int64)) = 0 →
      Q (0 : Int32) w) ∧
    ((lg_cmp (qRemL ((w.2.1 72 31) - (Int32.toInt64 (w.1 84 (qIx i1)))) (Int32.toInt64 (w.1 83 (qIx i1)))) (0 : Int64)) = 0 →
      Q (1 : Int32) w)))))) :
  qCall (some s) (d + 1) 275 [.ref 72, .int i1] w (qQi Q) := qCall_of (cd := c_Mo_join) (mL := 12) rfl u_Mo_join [(134, [true, false, false, false, false, false, true, false, false, false, true, false])] 65 h
set_option maxRecDepth 100000 in
theorem A_Mo_join_134 {s : Nat × (Nat → Int32)} {d : Nat} {w : qW} {Q : Int32 → qW → Prop} {l6 : Int64} {l10 : Int64} (h :
  ¬ l6 = 0 ∧ (((lg_cmp (w.2.1 72 32) ((1000000000000000 : Int64) / l6)) ≤ 0 →
    Q (1 : Int32) (qPutL (qPutL w 72 31 ((w.2.1 72 31) + (l10 * (w.2.1 72 32)))) 72 32 ((w.2.1 72 32) * l6))) ∧
  (¬ (lg_cmp (w.2.1 72 32) ((1000000000000000 : Int64) / l6)) ≤ 0 →
    Q (1 : Int32) (qPutL (qPutL w 72 31 ((w.2.1 72 31) + (l10 * (w.2.1 72 32)))) 72 32 (2000000000000000000 : Int64))))) :
  qAt s d c_Mo_join (qQi Q) 134 [some (.ref 72), none, none, none, none, none, some (.long l6), none, none, none, some (.long l10), none] [] w := qAt_of u_Mo_join [(134, [true, false, false, false, false, false, true, false, false, false, true, false])] 25 h

set_option maxRecDepth 100000 in
theorem A_Mo_inverse {s : Nat × (Nat → Int32)} {d : Nat} {w : qW} {Q : Int64 → qW → Prop} {l0 : Int64} {l2 : Int64} (h :
  ¬ l2 = 0 ∧ (qAt s d c_Mo_inverse (qQl Q) 14 [none, none, some (.long l2), none, some (.long l2), none, some (.long (qRemL l0 l2)), none, some (.long (0 : Int64)), none, some (.long (1 : Int64)), none, none, none, none, none, none, none] [] w)) :
  qCall (some s) (d + 1) 276 [.long l0, .long l2] w (qQl Q) := qCall_of (cd := c_Mo_inverse) (mL := 18) rfl u_Mo_inverse [(14, [false, false, true, false, true, false, true, false, true, false, true, false, false, false, false, false, false, false])] 12 h
set_option maxRecDepth 100000 in
theorem A_Mo_inverse_14 {s : Nat × (Nat → Int32)} {d : Nat} {w : qW} {Q : Int64 → qW → Prop} {l2 : Int64} {l4 : Int64} {l6 : Int64} {l8 : Int64} {l10 : Int64} (h :
  ((lg_cmp l6 (1 : Int64)) ≤ 0 →
    (¬ (lg_cmp l2 (1 : Int64)) = 0 →
      ¬ l2 = 0 ∧ (¬ l2 = 0 ∧ (Q (qRemL ((qRemL l10 l2) + l2) l2) w))) ∧
    ((lg_cmp l2 (1 : Int64)) = 0 →
      Q (0 : Int64) w)) ∧
  (¬ (lg_cmp l6 (1 : Int64)) ≤ 0 →
    ¬ l6 = 0 ∧ (qAt s d c_Mo_inverse (qQl Q) 14 [none, none, some (.long l2), none, some (.long l6), none, some (.long (l4 - ((l4 / l6) * l6))), none, some (.long l10), none, some (.long (l8 - ((l4 / l6) * l10))), none, none, none, none, none, none, none] [] w))) :
  qAt s d c_Mo_inverse (qQl Q) 14 [none, none, some (.long l2), none, some (.long l4), none, some (.long l6), none, some (.long l8), none, some (.long l10), none, none, none, none, none, none, none] [] w := qAt_of u_Mo_inverse [(14, [false, false, true, false, true, false, true, false, true, false, true, false, false, false, false, false, false, false])] 31 h

set_option maxRecDepth 100000 in
theorem A_Mo_begin {s : Nat × (Nat → Int32)} {d : Nat} {w : qW} {Q : Int64 → qW → Prop} {i1 : Int32} {l2 : Int64} (h :
  qAt s d c_Mo_begin (qQl Q) 6 [some (.ref 72), some (.int i1), none, none, some (.long l2), none, some (.int (0 : Int32))] [] w) :
  qCall (some s) (d + 1) 277 [.ref 72, .int i1, .long l2] w (qQl Q) := qCall_of (cd := c_Mo_begin) (mL := 7) rfl u_Mo_begin [(6, [true, true, false, false, true, false, true])] 6 h
set_option maxRecDepth 100000 in
theorem A_Mo_begin_6 {s : Nat × (Nat → Int32)} {d : Nat} {w : qW} {Q : Int64 → qW → Prop} {i1 : Int32} {l4 : Int64} {i6 : Int32} (h :
  qIn (0 : Int32) 262 ∧
  (((w.1 73 (qIx (0 : Int32))) ≤ i6 →
    Q l4 w) ∧
  (¬ (w.1 73 (qIx (0 : Int32))) ≤ i6 →
    qCall (some s) d 270 [.int i1, .int i6] w (qQi fun x2 w1 =>
      (x2 = 0 →
        qAt s d c_Mo_begin (qQl Q) 6 [some (.ref 72), some (.int i1), none, none, some (.long l4), none, some (.int (i6 + (1 : Int32)))] [] w1) ∧
      (¬ x2 = 0 →
        qIn i6 12 ∧
        (((lg_cmp (Int32.toInt64 (w1.1 84 (qIx i6))) l4) ≤ 0 →
          qAt s d c_Mo_begin (qQl Q) 6 [some (.ref 72), some (.int i1), none, none, some (.long l4), none, some (.int (i6 + (1 : Int32)))] [] w1) ∧
        (¬ (lg_cmp (Int32.toInt64 (w1.1 84 (qIx i6))) l4) ≤ 0 →
          qIn i6 12 ∧
          (qAt s d c_Mo_begin (qQl Q) 6 [some (.ref 72), some (.int i1), none, none, some (.long (Int32.toInt64 (w1.1 84 (qIx i6)))), none, some (.int (i6 + (1 : Int32)))] [] w1)))))))) :
  qAt s d c_Mo_begin (qQl Q) 6 [some (.ref 72), some (.int i1), none, none, some (.long l4), none, some (.int i6)] [] w := qAt_of u_Mo_begin [(6, [true, true, false, false, true, false, true])] 28 h

set_option maxRecDepth 100000 in
theorem A_Mo_from {s : Nat × (Nat → Int32)} {d : Nat} {w : qW} {Q : Int64 → qW → Prop} {l1 : Int64} (h :
  ((lg_cmp (w.2.1 72 31) l1) < 0 →
    (¬ (lg_cmp (w.2.1 72 32) (2000000000000000000 : Int64)) = 0 →
      ¬ (w.2.1 72 32) = 0 ∧ (Q ((w.2.1 72 31) + (((((l1 - (w.2.1 72 31)) + (w.2.1 72 32)) - (1 : Int64)) / (w.2.1 72 32)) * (w.2.1 72 32))) w)) ∧
    ((lg_cmp (w.2.1 72 32) (2000000000000000000 : Int64)) = 0 →
      Q (1000000000000001 : Int64) w)) ∧
  (¬ (lg_cmp (w.2.1 72 31) l1) < 0 →
    Q (w.2.1 72 31) w)) :
  qCall (some s) (d + 1) 278 [.ref 72, .long l1] w (qQl Q) := qCall_of (cd := c_Mo_from) (mL := 3) rfl u_Mo_from [] 30 h

set_option maxRecDepth 100000 in
theorem A_Mo_barred {s : Nat × (Nat → Int32)} {d : Nat} {w : qW} {Q : Int32 → qW → Prop} {i1 : Int32} {i2 : Int32} (h :
  qCall (some s) d 265 [.ref 72, .int i1] w (qQi fun x2 w1 =>
    (x2 = 0 →
      Q (-1 : Int32) w1) ∧
    (¬ x2 = 0 →
      qCall (some s) d 209 [.int i2, .int (0 : Int32), .int (1 : Int32)] w1 (qQi fun x4 w3 =>
        (x4 = 0 →
          Q (-1 : Int32) w3) ∧
        (¬ x4 = 0 →
          qIn (1 : Int32) 262 ∧
          (((w3.1 73 (qIx (1 : Int32))) ≤ 0 →
            qCall (some s) d 253 [.ref 72] w3 (qQv fun w5 =>
              qAt s d c_Mo_barred (qQi Q) 34 [some (.ref 72), some (.int i1), some (.int i2), some (.int (0 : Int32)), none] [] w5)) ∧
          (¬ (w3.1 73 (qIx (1 : Int32))) ≤ 0 →
            Q (-1 : Int32) w3))))))) :
  qCall (some s) (d + 1) 279 [.ref 72, .int i1, .int i2] w (qQi Q) := qCall_of (cd := c_Mo_barred) (mL := 5) rfl u_Mo_barred [(34, [true, true, true, true, false]), (49, [true, true, true, true, true])] 20 h
set_option maxRecDepth 100000 in
theorem A_Mo_barred_34 {s : Nat × (Nat → Int32)} {d : Nat} {w : qW} {Q : Int32 → qW → Prop} {i1 : Int32} {i2 : Int32} {i3 : Int32} (h :
  qIn (0 : Int32) 262 ∧
  (((w.1 73 (qIx (0 : Int32))) ≤ i3 →
    Q (-1 : Int32) w) ∧
  (¬ (w.1 73 (qIx (0 : Int32))) ≤ i3 →
    qAt s d c_Mo_barred (qQi Q) 49 [some (.ref 72), some (.int i1), some (.int i2), some (.int i3), some (.int (i3 + (1 : Int32)))] [] w))) :
  qAt s d c_Mo_barred (qQi Q) 34 [some (.ref 72), some (.int i1), some (.int i2), some (.int i3), none] [] w := qAt_of u_Mo_barred [(34, [true, true, true, true, false]), (49, [true, true, true, true, true])] 12 h
set_option maxRecDepth 100000 in
theorem A_Mo_barred_49 {s : Nat × (Nat → Int32)} {d : Nat} {w : qW} {Q : Int32 → qW → Prop} {i1 : Int32} {i2 : Int32} {i3 : Int32} {i4 : Int32} (h :
  qIn (0 : Int32) 262 ∧
  (((w.1 73 (qIx (0 : Int32))) ≤ i4 →
    qAt s d c_Mo_barred (qQi Q) 34 [some (.ref 72), some (.int i1), some (.int i2), some (.int (i3 + (1 : Int32))), none] [] w) ∧
  (¬ (w.1 73 (qIx (0 : Int32))) ≤ i4 →
    qCall (some s) d 270 [.int i1, .int i3] w (qQi fun x2 w1 =>
      (x2 = 0 →
        qAt s d c_Mo_barred (qQi Q) 49 [some (.ref 72), some (.int i1), some (.int i2), some (.int i3), some (.int (i4 + (1 : Int32)))] [] w1) ∧
      (¬ x2 = 0 →
        qCall (some s) d 270 [.int i1, .int i4] w1 (qQi fun x4 w3 =>
          (x4 = 0 →
            qAt s d c_Mo_barred (qQi Q) 49 [some (.ref 72), some (.int i1), some (.int i2), some (.int i3), some (.int (i4 + (1 : Int32)))] [] w3) ∧
          (¬ x4 = 0 →
            qCall (some s) d 272 [.ref 72, .int i3, .int i4] w3 (qQi fun x6 w5 =>
              (¬ x6 = 0 →
                qAt s d c_Mo_barred (qQi Q) 49 [some (.ref 72), some (.int i1), some (.int i2), some (.int i3), some (.int (i4 + (1 : Int32)))] [] w5) ∧
              (x6 = 0 →
                (¬ i2 = 0 →
                  Q i4 w5) ∧
                (i2 = 0 →
                  Q i3 w5)))))))))) :
  qAt s d c_Mo_barred (qQi Q) 49 [some (.ref 72), some (.int i1), some (.int i2), some (.int i3), some (.int i4)] [] w := qAt_of u_Mo_barred [(34, [true, true, true, true, false]), (49, [true, true, true, true, true])] 25 h

set_option maxRecDepth 100000 in
theorem A_Mo_together {s : Nat × (Nat → Int32)} {d : Nat} {w : qW} {Q : Int64 → qW → Prop} {i1 : Int32} {l2 : Int64} {l4 : Int64} (h :
  qCall (some s) d 265 [.ref 72, .int i1] w (qQi fun x2 w1 =>
    (x2 = 0 →
      Q (-1 : Int64) w1) ∧
    (¬ x2 = 0 →
      qCall (some s) d 281 [.long l2, .long l4] w1 (qQi fun x4 w3 =>
        (¬ x4 = 0 →
          qCall (some s) d 253 [.ref 72] w3 (qQv fun w5 =>
            qCall (some s) d 282 [.ref 72, .int i1, .long l2, .long l4] w5 (qQl fun y7 w6 =>
              Q y7 w6))) ∧
        (x4 = 0 →
          Q (-1 : Int64) w3))))) :
  qCall (some s) (d + 1) 280 [.ref 72, .int i1, .long l2, .long l4] w (qQl Q) := qCall_of (cd := c_Mo_together) (mL := 6) rfl u_Mo_together [] 17 h

set_option maxRecDepth 100000 in
theorem A_Mo_areHours {s : Nat × (Nat → Int32)} {d : Nat} {w : qW} {Q : Int32 → qW → Prop} {l0 : Int64} {l2 : Int64} (h :
  qCall (some s) d 252 [.long l0] w (qQi fun x2 w1 =>
    (x2 = 0 →
      Q (0 : Int32) w1) ∧
    (¬ x2 = 0 →
      ((lg_cmp l2 (1 : Int64)) < 0 →
        Q (0 : Int32) w1) ∧
      (¬ (lg_cmp l2 (1 : Int64)) < 0 →
        (0 < (lg_cmp l2 (1000000000000000 : Int64)) →
          Q (0 : Int32) w1) ∧
        (¬ 0 < (lg_cmp l2 (1000000000000000 : Int64)) →
          (0 < (lg_cmp ((l0 + l2) - (1 : Int64)) (1000000000000000 : Int64)) →
            Q (0 : Int32) w1) ∧
          (¬ 0 < (lg_cmp ((l0 + l2) - (1 : Int64)) (1000000000000000 : Int64)) →
            Q (1 : Int32) w1)))))) :
  qCall (some s) (d + 1) 281 [.long l0, .long l2] w (qQi Q) := qCall_of (cd := c_Mo_areHours) (mL := 4) rfl u_Mo_areHours [] 23 h

set_option maxRecDepth 100000 in
theorem A_Mo_togetherOf {s : Nat × (Nat → Int32)} {d : Nat} {w : qW} {Q : Int64 → qW → Prop} {i1 : Int32} {l2 : Int64} {l4 : Int64} (h :
  qIn (1 : Int32) 262 ∧
  (((w.1 73 (qIx (1 : Int32))) ≤ 0 →
    qCall (some s) d 271 [.ref 72, .int i1] w (qQi fun x2 w1 =>
      qAt s d c_Mo_togetherOf (qQl Q) 90 [some (.ref 72), some (.int i1), some (.long l2), none, none, none, some (.long (0 : Int64)), none, some (.long ((l2 + l4) - (1 : Int64))), none, some (.int x2), some (.int (0 : Int32)), none, none] [] w1)) ∧
  (¬ (w.1 73 (qIx (1 : Int32))) ≤ 0 →
    qCall (some s) d 267 [.ref 72] w (qQi fun x4 w3 =>
      (0 ≤ (lg_cmp l4 (Int32.toInt64 x4)) →
        ¬ (Int32.toInt64 x4) = 0 ∧ (qCall (some s) d 283 [.ref 72, .int i1, .long l2, .int x4] w3 (qQi fun x6 w5 =>
          ¬ (Int32.toInt64 x4) = 0 ∧ (qCall (some s) d 283 [.ref 72, .int i1, .long l2, .int (Int64.toInt32 (qRemL l4 (Int32.toInt64 x4)))] w5 (qQi fun x8 w7 =>
            Q (((l4 / (Int32.toInt64 x4)) * (Int32.toInt64 x6)) + (Int32.toInt64 x8)) w7))))) ∧
      (¬ 0 ≤ (lg_cmp l4 (Int32.toInt64 x4)) →
        qCall (some s) d 283 [.ref 72, .int i1, .long l2, .int (Int64.toInt32 l4)] w3 (qQi fun x10 w9 =>
          Q (Int32.toInt64 x10) w9)))))) :
  qCall (some s) (d + 1) 282 [.ref 72, .int i1, .long l2, .long l4] w (qQl Q) := qCall_of (cd := c_Mo_togetherOf) (mL := 14) rfl u_Mo_togetherOf [(90, [true, true, true, false, false, false, true, false, true, false, true, true, false, false])] 37 h
set_option maxRecDepth 100000 in
theorem A_Mo_togetherOf_90 {s : Nat × (Nat → Int32)} {d : Nat} {w : qW} {Q : Int64 → qW → Prop} {i1 : Int32} {l2 : Int64} {l6 : Int64} {l8 : Int64} {i10 : Int32} {i11 : Int32} (h :
  qIn (2 : Int32) 262 ∧
  (((w.1 73 (qIx (2 : Int32))) ≤ i11 →
    Q l6 w) ∧
  (¬ (w.1 73 (qIx (2 : Int32))) ≤ i11 →
    (i10 = 0 →
      Q l6 w) ∧
    (¬ i10 = 0 →
      qCall (some s) d 273 [.ref 72, .int i1, .int i11] w (qQi fun x2 w1 =>
        (x2 = 0 →
          qAt s d c_Mo_togetherOf (qQl Q) 90 [some (.ref 72), some (.int i1), some (.long l2), none, none, none, some (.long l6), none, some (.long l8), none, some (.int i10), some (.int (i11 + (1 : Int32))), none, none] [] w1) ∧
        (¬ x2 = 0 →
          qCall (some s) d 274 [.ref 72, .int i1, .int i11] w1 (qQi fun x4 w3 =>
            (¬ x4 = 0 →
              qCall (some s) d 277 [.ref 72, .int i1, .long l2] w3 (qQl fun y6 w5 =>
                qCall (some s) d 278 [.ref 72, .long y6] w5 (qQl fun y8 w7 =>
                  (0 < (lg_cmp y8 l8) →
                    qAt s d c_Mo_togetherOf (qQl Q) 90 [some (.ref 72), some (.int i1), some (.long l2), none, none, none, some (.long l6), none, some (.long l8), none, some (.int i10), some (.int (i11 + (1 : Int32))), none, none] [] w7) ∧
                  (¬ 0 < (lg_cmp y8 l8) →
                    ¬ (w7.2.1 72 32) = 0 ∧ (qAt s d c_Mo_togetherOf (qQl Q) 90 [some (.ref 72), some (.int i1), some (.long l2), none, none, none, some (.long (l6 + (((l8 - y8) / (w7.2.1 72 32)) + (1 : Int64)))), none, some (.long l8), none, some (.int i10), some (.int (i11 + (1 : Int32))), none, none] [] w7))))) ∧
            (x4 = 0 →
              qAt s d c_Mo_togetherOf (qQl Q) 90 [some (.ref 72), some (.int i1), some (.long l2), none, none, none, some (.long l6), none, some (.long l8), none, some (.int i10), some (.int (i11 + (1 : Int32))), none, none] [] w3)))))))) :
  qAt s d c_Mo_togetherOf (qQl Q) 90 [some (.ref 72), some (.int i1), some (.long l2), none, none, none, some (.long l6), none, some (.long l8), none, some (.int i10), some (.int i11), none, none] [] w := qAt_of u_Mo_togetherOf [(90, [true, true, true, false, false, false, true, false, true, false, true, true, false, false])] 44 h

set_option maxRecDepth 100000 in
theorem A_Mo_countIn {s : Nat × (Nat → Int32)} {d : Nat} {w : qW} {Q : Int32 → qW → Prop} {i1 : Int32} {l2 : Int64} {i4 : Int32} (h :
  qAt s d c_Mo_countIn (qQi Q) 9 [some (.ref 72), some (.int i1), some (.long l2), none, some (.int i4), some (.int (0 : Int32)), some (.int (0 : Int32)), some (.int (0 : Int32)), none, none, none, none] [] w) :
  qCall (some s) (d + 1) 283 [.ref 72, .int i1, .long l2, .int i4] w (qQi Q) := qCall_of (cd := c_Mo_countIn) (mL := 12) rfl u_Mo_countIn [(9, [true, true, true, false, true, true, true, true, false, false, false, false]), (77, [true, false, false, false, true, true, true, true, true, true, false, false]), (90, [true, false, false, false, true, true, true, true, true, true, true, true]), (170, [true, false, false, false, true, false, true, true, true, true, false, false]), (194, [true, false, false, false, true, true, true, false, true, true, false, false])] 8 h
set_option maxRecDepth 100000 in
theorem A_Mo_countIn_9 {s : Nat × (Nat → Int32)} {d : Nat} {w : qW} {Q : Int32 → qW → Prop} {i1 : Int32} {l2 : Int64} {i4 : Int32} {i5 : Int32} {i6 : Int32} {i7 : Int32} (h :
  qIn (0 : Int32) 262 ∧
  (((w.1 73 (qIx (0 : Int32))) ≤ i7 →
    qIn (1 : Int32) 262 ∧
    (¬ (Int32.toInt64 (w.1 73 (qIx (1 : Int32)))) = 0 ∧ (qIn (2 : Int32) 262 ∧
    (¬ (Int32.toInt64 (w.1 73 (qIx (2 : Int32)))) = 0 ∧ (qAt s d c_Mo_countIn (qQi Q) 77 [some (.ref 72), none, none, none, some (.int i4), some (.int i5), some (.int i6), some (.int (Int64.toInt32 (qRemL l2 (Int32.toInt64 (w.1 73 (qIx (1 : Int32))))))), some (.int (Int64.toInt32 (qRemL l2 (Int32.toInt64 (w.1 73 (qIx (2 : Int32))))))), some (.int (0 : Int32)), none, none] [] w))))) ∧
  (¬ (w.1 73 (qIx (0 : Int32))) ≤ i7 →
    qCall (some s) d 270 [.int i1, .int i7] w (qQi fun x2 w1 =>
      (¬ x2 = 0 →
        qIn i6 12 ∧
        (qAt s d c_Mo_countIn (qQi Q) 9 [some (.ref 72), some (.int i1), some (.long l2), none, some (.int i4), some (.int i5), some (.int (i6 + (1 : Int32))), some (.int (i7 + (1 : Int32))), none, none, none, none] [] (qPutI w1 87 (qIx i6) i7))) ∧
      (x2 = 0 →
        qAt s d c_Mo_countIn (qQi Q) 9 [some (.ref 72), some (.int i1), some (.long l2), none, some (.int i4), some (.int i5), some (.int i6), some (.int (i7 + (1 : Int32))), none, none, none, none] [] w1))))) :
  qAt s d c_Mo_countIn (qQi Q) 9 [some (.ref 72), some (.int i1), some (.long l2), none, some (.int i4), some (.int i5), some (.int i6), some (.int i7), none, none, none, none] [] w := qAt_of u_Mo_countIn [(9, [true, true, true, false, true, true, true, true, false, false, false, false]), (77, [true, false, false, false, true, true, true, true, true, true, false, false]), (90, [true, false, false, false, true, true, true, true, true, true, true, true]), (170, [true, false, false, false, true, false, true, true, true, true, false, false]), (194, [true, false, false, false, true, true, true, false, true, true, false, false])] 28 h
set_option maxRecDepth 100000 in
theorem A_Mo_countIn_77 {s : Nat × (Nat → Int32)} {d : Nat} {w : qW} {Q : Int32 → qW → Prop} {i4 : Int32} {i5 : Int32} {i6 : Int32} {i7 : Int32} {i8 : Int32} {i9 : Int32} (h :
  (i4 ≤ i9 →
    Q i5 w) ∧
  (¬ i4 ≤ i9 →
    qAt s d c_Mo_countIn (qQi Q) 90 [some (.ref 72), none, none, none, some (.int i4), some (.int i5), some (.int i6), some (.int i7), some (.int i8), some (.int i9), some (.int (1 : Int32)), some (.int (0 : Int32))] [] w)) :
  qAt s d c_Mo_countIn (qQi Q) 77 [some (.ref 72), none, none, none, some (.int i4), some (.int i5), some (.int i6), some (.int i7), some (.int i8), some (.int i9), none, none] [] w := qAt_of u_Mo_countIn [(9, [true, true, true, false, true, true, true, true, false, false, false, false]), (77, [true, false, false, false, true, true, true, true, true, true, false, false]), (90, [true, false, false, false, true, true, true, true, true, true, true, true]), (170, [true, false, false, false, true, false, true, true, true, true, false, false]), (194, [true, false, false, false, true, true, true, false, true, true, false, false])] 9 h
set_option maxRecDepth 100000 in
theorem A_Mo_countIn_90 {s : Nat × (Nat → Int32)} {d : Nat} {w : qW} {Q : Int32 → qW → Prop} {i4 : Int32} {i5 : Int32} {i6 : Int32} {i7 : Int32} {i8 : Int32} {i9 : Int32} {i10 : Int32} {i11 : Int32} (h :
  (i6 ≤ i11 →
    (i10 = 0 →
      qAt s d c_Mo_countIn (qQi Q) 170 [some (.ref 72), none, none, none, some (.int i4), none, some (.int i6), some (.int i7), some (.int i8), some (.int i9), none, none] [.int (0 : Int32), .int i5] w) ∧
    (¬ i10 = 0 →
      qAt s d c_Mo_countIn (qQi Q) 170 [some (.ref 72), none, none, none, some (.int i4), none, some (.int i6), some (.int i7), some (.int i8), some (.int i9), none, none] [.int (1 : Int32), .int i5] w)) ∧
  (¬ i6 ≤ i11 →
    (i10 = 0 →
      (i10 = 0 →
        qAt s d c_Mo_countIn (qQi Q) 170 [some (.ref 72), none, none, none, some (.int i4), none, some (.int i6), some (.int i7), some (.int i8), some (.int i9), none, none] [.int (0 : Int32), .int i5] w) ∧
      (¬ i10 = 0 →
        qAt s d c_Mo_countIn (qQi Q) 170 [some (.ref 72), none, none, none, some (.int i4), none, some (.int i6), some (.int i7), some (.int i8), some (.int i9), none, none] [.int (1 : Int32), .int i5] w)) ∧
    (¬ i10 = 0 →
      qIn i11 12 ∧
      (qIn (((999 : Int32) * (w.1 87 (qIx i11))) + i7) 11988 ∧
      (((w.1 86 (qIx (((999 : Int32) * (w.1 87 (qIx i11))) + i7))) = 0 →
        qAt s d c_Mo_countIn (qQi Q) 90 [some (.ref 72), none, none, none, some (.int i4), some (.int i5), some (.int i6), some (.int i7), some (.int i8), some (.int i9), some (.int (0 : Int32)), some (.int (i11 + (1 : Int32)))] [] w) ∧
      (¬ (w.1 86 (qIx (((999 : Int32) * (w.1 87 (qIx i11))) + i7))) = 0 →
        qIn i11 12 ∧
        (qIn (((60 : Int32) * (w.1 87 (qIx i11))) + i8) 720 ∧
        ((¬ (w.1 85 (qIx (((60 : Int32) * (w.1 87 (qIx i11))) + i8))) = 0 →
          qAt s d c_Mo_countIn (qQi Q) 90 [some (.ref 72), none, none, none, some (.int i4), some (.int i5), some (.int i6), some (.int i7), some (.int i8), some (.int i9), some (.int (0 : Int32)), some (.int (i11 + (1 : Int32)))] [] w) ∧
        ((w.1 85 (qIx (((60 : Int32) * (w.1 87 (qIx i11))) + i8))) = 0 →
          qAt s d c_Mo_countIn (qQi Q) 90 [some (.ref 72), none, none, none, some (.int i4), some (.int i5), some (.int i6), some (.int i7), some (.int i8), some (.int i9), some (.int (1 : Int32)), some (.int (i11 + (1 : Int32)))] [] w))))))))) :
  qAt s d c_Mo_countIn (qQi Q) 90 [some (.ref 72), none, none, none, some (.int i4), some (.int i5), some (.int i6), some (.int i7), some (.int i8), some (.int i9), some (.int i10), some (.int i11)] [] w := qAt_of u_Mo_countIn [(9, [true, true, true, false, true, true, true, true, false, false, false, false]), (77, [true, false, false, false, true, true, true, true, true, true, false, false]), (90, [true, false, false, false, true, true, true, true, true, true, true, true]), (170, [true, false, false, false, true, false, true, true, true, true, false, false]), (194, [true, false, false, false, true, true, true, false, true, true, false, false])] 36 h
set_option maxRecDepth 100000 in
theorem A_Mo_countIn_170 {s : Nat × (Nat → Int32)} {d : Nat} {w : qW} {Q : Int32 → qW → Prop} {i4 : Int32} {i6 : Int32} {i7 : Int32} {i8 : Int32} {i9 : Int32} {is0 : Int32} {is1 : Int32} (h :
  qIn (1 : Int32) 262 ∧
  ((¬ (i7 + (1 : Int32)) = (w.1 73 (qIx (1 : Int32))) →
    qAt s d c_Mo_countIn (qQi Q) 194 [some (.ref 72), none, none, none, some (.int i4), some (.int (is1 + is0)), some (.int i6), none, some (.int i8), some (.int i9), none, none] [.int (i7 + (1 : Int32))] w) ∧
  ((i7 + (1 : Int32)) = (w.1 73 (qIx (1 : Int32))) →
    qAt s d c_Mo_countIn (qQi Q) 194 [some (.ref 72), none, none, none, some (.int i4), some (.int (is1 + is0)), some (.int i6), none, some (.int i8), some (.int i9), none, none] [.int (0 : Int32)] w))) :
  qAt s d c_Mo_countIn (qQi Q) 170 [some (.ref 72), none, none, none, some (.int i4), none, some (.int i6), some (.int i7), some (.int i8), some (.int i9), none, none] [.int is0, .int is1] w := qAt_of u_Mo_countIn [(9, [true, true, true, false, true, true, true, true, false, false, false, false]), (77, [true, false, false, false, true, true, true, true, true, true, false, false]), (90, [true, false, false, false, true, true, true, true, true, true, true, true]), (170, [true, false, false, false, true, false, true, true, true, true, false, false]), (194, [true, false, false, false, true, true, true, false, true, true, false, false])] 15 h
set_option maxRecDepth 100000 in
theorem A_Mo_countIn_194 {s : Nat × (Nat → Int32)} {d : Nat} {w : qW} {Q : Int32 → qW → Prop} {i4 : Int32} {i5 : Int32} {i6 : Int32} {i8 : Int32} {i9 : Int32} {is0 : Int32} (h :
  qIn (2 : Int32) 262 ∧
  ((¬ (i8 + (1 : Int32)) = (w.1 73 (qIx (2 : Int32))) →
    qAt s d c_Mo_countIn (qQi Q) 77 [some (.ref 72), none, none, none, some (.int i4), some (.int i5), some (.int i6), some (.int is0), some (.int (i8 + (1 : Int32))), some (.int (i9 + (1 : Int32))), none, none] [] w) ∧
  ((i8 + (1 : Int32)) = (w.1 73 (qIx (2 : Int32))) →
    qAt s d c_Mo_countIn (qQi Q) 77 [some (.ref 72), none, none, none, some (.int i4), some (.int i5), some (.int i6), some (.int is0), some (.int (0 : Int32)), some (.int (i9 + (1 : Int32))), none, none] [] w))) :
  qAt s d c_Mo_countIn (qQi Q) 194 [some (.ref 72), none, none, none, some (.int i4), some (.int i5), some (.int i6), none, some (.int i8), some (.int i9), none, none] [.int is0] w := qAt_of u_Mo_countIn [(9, [true, true, true, false, true, true, true, true, false, false, false, false]), (77, [true, false, false, false, true, true, true, true, true, true, false, false]), (90, [true, false, false, false, true, true, true, true, true, true, true, true]), (170, [true, false, false, false, true, false, true, true, true, true, false, false]), (194, [true, false, false, false, true, true, true, false, true, true, false, false])] 17 h

set_option maxRecDepth 100000 in
theorem A_Mo_alone {s : Nat × (Nat → Int32)} {d : Nat} {w : qW} {Q : Int32 → qW → Prop} {i1 : Int32} {l2 : Int64} {i4 : Int32} (h :
  (i1 = (-1 : Int32) →
    qAt s d c_Mo_alone (qQi Q) 19 [some (.ref 72), some (.int i1), some (.long l2), none, some (.int i4), none, none, none, none, none] [] w) ∧
  (¬ i1 = (-1 : Int32) →
    (i1 = (12 : Int32) →
      qAt s d c_Mo_alone (qQi Q) 19 [some (.ref 72), some (.int i1), some (.long l2), none, some (.int i4), none, none, none, none, none] [] w) ∧
    (¬ i1 = (12 : Int32) →
      qCall (some s) d 211 [.ref 72, .int i1] w (qQi fun x2 w1 =>
        (x2 = 0 →
          Q (-1 : Int32) w1) ∧
        (¬ x2 = 0 →
          qAt s d c_Mo_alone (qQi Q) 19 [some (.ref 72), some (.int i1), some (.long l2), none, some (.int i4), none, none, none, none, none] [] w1))))) :
  qCall (some s) (d + 1) 284 [.ref 72, .int i1, .long l2, .int i4] w (qQi Q) := qCall_of (cd := c_Mo_alone) (mL := 10) rfl u_Mo_alone [(19, [true, true, true, false, true, false, false, false, false, false]), (48, [true, true, true, false, true, true, true, false, false, false]), (87, [true, true, true, false, true, true, true, false, true, false])] 13 h
set_option maxRecDepth 100000 in
theorem A_Mo_alone_19 {s : Nat × (Nat → Int32)} {d : Nat} {w : qW} {Q : Int32 → qW → Prop} {i1 : Int32} {l2 : Int64} {i4 : Int32} (h :
  ((100000 : Int32) < i4 →
    Q (-1 : Int32) w) ∧
  (¬ (100000 : Int32) < i4 →
    qCall (some s) d 281 [.long l2, .long (Int32.toInt64 i4)] w (qQi fun x2 w1 =>
      (¬ x2 = 0 →
        qCall (some s) d 253 [.ref 72] w1 (qQv fun w3 =>
          qAt s d c_Mo_alone (qQi Q) 48 [some (.ref 72), some (.int i1), some (.long l2), none, some (.int i4), some (.int (0 : Int32)), some (.long l2), none, none, none] [] w3)) ∧
      (x2 = 0 →
        Q (-1 : Int32) w1)))) :
  qAt s d c_Mo_alone (qQi Q) 19 [some (.ref 72), some (.int i1), some (.long l2), none, some (.int i4), none, none, none, none, none] [] w := qAt_of u_Mo_alone [(19, [true, true, true, false, true, false, false, false, false, false]), (48, [true, true, true, false, true, true, true, false, false, false]), (87, [true, true, true, false, true, true, true, false, true, false])] 16 h
set_option maxRecDepth 100000 in
theorem A_Mo_alone_48 {s : Nat × (Nat → Int32)} {d : Nat} {w : qW} {Q : Int32 → qW → Prop} {i1 : Int32} {l2 : Int64} {i4 : Int32} {i5 : Int32} {l6 : Int64} (h :
  (0 ≤ (lg_cmp l6 (l2 + (Int32.toInt64 i4))) →
    Q i5 w) ∧
  (¬ 0 ≤ (lg_cmp l6 (l2 + (Int32.toInt64 i4))) →
    qCall (some s) d 285 [.ref 72, .long l6] w (qQi fun x2 w1 =>
      (x2 = 0 →
        qAt s d c_Mo_alone (qQi Q) 87 [some (.ref 72), some (.int i1), some (.long l2), none, some (.int i4), some (.int i5), some (.long l6), none, some (.int x2), none] [.int (0 : Int32)] w1) ∧
      (¬ x2 = 0 →
        (¬ (x2 &&& (x2 - (1 : Int32))) = 0 →
          qAt s d c_Mo_alone (qQi Q) 87 [some (.ref 72), some (.int i1), some (.long l2), none, some (.int i4), some (.int i5), some (.long l6), none, some (.int x2), none] [.int (0 : Int32)] w1) ∧
        ((x2 &&& (x2 - (1 : Int32))) = 0 →
          qAt s d c_Mo_alone (qQi Q) 87 [some (.ref 72), some (.int i1), some (.long l2), none, some (.int i4), some (.int i5), some (.long l6), none, some (.int x2), none] [.int (1 : Int32)] w1))))) :
  qAt s d c_Mo_alone (qQi Q) 48 [some (.ref 72), some (.int i1), some (.long l2), none, some (.int i4), some (.int i5), some (.long l6), none, none, none] [] w := qAt_of u_Mo_alone [(19, [true, true, true, false, true, false, false, false, false, false]), (48, [true, true, true, false, true, true, true, false, false, false]), (87, [true, true, true, false, true, true, true, false, true, false])] 23 h
set_option maxRecDepth 100000 in
theorem A_Mo_alone_87 {s : Nat × (Nat → Int32)} {d : Nat} {w : qW} {Q : Int32 → qW → Prop} {i1 : Int32} {l2 : Int64} {i4 : Int32} {i5 : Int32} {l6 : Int64} {i8 : Int32} {is0 : Int32} (h :
  (0 ≤ i1 →
    (¬ i1 = (12 : Int32) →
      (¬ i8 = (qShl (1 : Int32) i1) →
        qAt s d c_Mo_alone (qQi Q) 48 [some (.ref 72), some (.int i1), some (.long l2), none, some (.int i4), some (.int (i5 + (0 : Int32))), some (.long (l6 + (1 : Int64))), none, none, none] [] w) ∧
      (i8 = (qShl (1 : Int32) i1) →
        qAt s d c_Mo_alone (qQi Q) 48 [some (.ref 72), some (.int i1), some (.long l2), none, some (.int i4), some (.int (i5 + (1 : Int32))), some (.long (l6 + (1 : Int64))), none, none, none] [] w)) ∧
    (i1 = (12 : Int32) →
      (is0 = 0 →
        qAt s d c_Mo_alone (qQi Q) 48 [some (.ref 72), some (.int i1), some (.long l2), none, some (.int i4), some (.int (i5 + (0 : Int32))), some (.long (l6 + (1 : Int64))), none, none, none] [] w) ∧
      (¬ is0 = 0 →
        qAt s d c_Mo_alone (qQi Q) 48 [some (.ref 72), some (.int i1), some (.long l2), none, some (.int i4), some (.int (i5 + (1 : Int32))), some (.long (l6 + (1 : Int64))), none, none, none] [] w))) ∧
  (¬ 0 ≤ i1 →
    (¬ i8 = 0 →
      qAt s d c_Mo_alone (qQi Q) 48 [some (.ref 72), some (.int i1), some (.long l2), none, some (.int i4), some (.int (i5 + (0 : Int32))), some (.long (l6 + (1 : Int64))), none, none, none] [] w) ∧
    (i8 = 0 →
      qAt s d c_Mo_alone (qQi Q) 48 [some (.ref 72), some (.int i1), some (.long l2), none, some (.int i4), some (.int (i5 + (1 : Int32))), some (.long (l6 + (1 : Int64))), none, none, none] [] w))) :
  qAt s d c_Mo_alone (qQi Q) 87 [some (.ref 72), some (.int i1), some (.long l2), none, some (.int i4), some (.int i5), some (.long l6), none, some (.int i8), none] [.int is0] w := qAt_of u_Mo_alone [(19, [true, true, true, false, true, false, false, false, false, false]), (48, [true, true, true, false, true, true, true, false, false, false]), (87, [true, true, true, false, true, true, true, false, true, false])] 23 h

set_option maxRecDepth 100000 in
theorem A_Mo_speakers {s : Nat × (Nat → Int32)} {d : Nat} {w : qW} {Q : Int32 → qW → Prop} {l1 : Int64} (h :
  qAt s d c_Mo_speakers (qQi Q) 5 [some (.ref 72), some (.long l1), none, some (.int (0 : Int32)), some (.int (0 : Int32))] [] w) :
  qCall (some s) (d + 1) 285 [.ref 72, .long l1] w (qQi Q) := qCall_of (cd := c_Mo_speakers) (mL := 5) rfl u_Mo_speakers [(5, [true, true, false, true, true])] 6 h
set_option maxRecDepth 100000 in
theorem A_Mo_speakers_5 {s : Nat × (Nat → Int32)} {d : Nat} {w : qW} {Q : Int32 → qW → Prop} {l1 : Int64} {i3 : Int32} {i4 : Int32} (h :
  qIn (0 : Int32) 262 ∧
  (((w.1 73 (qIx (0 : Int32))) ≤ i4 →
    Q i3 w) ∧
  (¬ (w.1 73 (qIx (0 : Int32))) ≤ i4 →
    qCall (some s) d 262 [.ref 72, .int i4, .long l1] w (qQi fun x2 w1 =>
      (x2 = 0 →
        qAt s d c_Mo_speakers (qQi Q) 5 [some (.ref 72), some (.long l1), none, some (.int (i3 ||| (0 : Int32))), some (.int (i4 + (1 : Int32)))] [] w1) ∧
      (¬ x2 = 0 →
        qAt s d c_Mo_speakers (qQi Q) 5 [some (.ref 72), some (.long l1), none, some (.int (i3 ||| (qShl (1 : Int32) i4))), some (.int (i4 + (1 : Int32)))] [] w1))))) :
  qAt s d c_Mo_speakers (qQi Q) 5 [some (.ref 72), some (.long l1), none, some (.int i3), some (.int i4)] [] w := qAt_of u_Mo_speakers [(5, [true, true, false, true, true])] 22 h

set_option maxRecDepth 100000 in
theorem A_Mo_secret {s : Nat × (Nat → Int32)} {d : Nat} {w : qW} {Q : Int64 → qW → Prop} {i1 : Int32} {i2 : Int32} {l3 : Int64} {i5 : Int32} (h :
  qCall (some s) d 211 [.ref 72, .int i1] w (qQi fun x2 w1 =>
    (x2 = 0 →
      Q (-1 : Int64) w1) ∧
    (¬ x2 = 0 →
      qCall (some s) d 211 [.ref 72, .int i2] w1 (qQi fun x4 w3 =>
        (x4 = 0 →
          Q (-1 : Int64) w3) ∧
        (¬ x4 = 0 →
          (i1 = i2 →
            Q (-1 : Int64) w3) ∧
          (¬ i1 = i2 →
            qCall (some s) d 209 [.int i5, .int (0 : Int32), .int (100000 : Int32)] w3 (qQi fun x6 w5 =>
              (x6 = 0 →
                Q (-1 : Int64) w5) ∧
              (¬ x6 = 0 →
                (¬ i5 = 0 →
                  qCall (some s) d 281 [.long l3, .long (Int32.toInt64 i5)] w5 (qQi fun x8 w7 =>
                    (¬ x8 = 0 →
                      qCall (some s) d 253 [.ref 72] w7 (qQv fun w9 =>
                        qAt s d c_Mo_secret (qQl Q) 67 [some (.ref 72), some (.int i1), some (.int i2), some (.long l3), none, some (.int i5), some (.int (0 : Int32)), some (.long l3), none] [] w9)) ∧
                    (x8 = 0 →
                      Q (-1 : Int64) w7))) ∧
                (i5 = 0 →
                  qCall (some s) d 281 [.long l3, .long (100000 : Int64)] w5 (qQi fun x11 w10 =>
                    (¬ x11 = 0 →
                      qCall (some s) d 253 [.ref 72] w10 (qQv fun w12 =>
                        qAt s d c_Mo_secret (qQl Q) 67 [some (.ref 72), some (.int i1), some (.int i2), some (.long l3), none, some (.int i5), some (.int (0 : Int32)), some (.long l3), none] [] w12)) ∧
                    (x11 = 0 →
                      Q (-1 : Int64) w10))))))))))) :
  qCall (some s) (d + 1) 286 [.ref 72, .int i1, .int i2, .long l3, .int i5] w (qQl Q) := qCall_of (cd := c_Mo_secret) (mL := 9) rfl u_Mo_secret [(67, [true, true, true, true, false, true, true, true, false]), (82, [true, true, true, true, false, true, true, true, false])] 31 h
set_option maxRecDepth 100000 in
theorem A_Mo_secret_67 {s : Nat × (Nat → Int32)} {d : Nat} {w : qW} {Q : Int64 → qW → Prop} {i1 : Int32} {i2 : Int32} {l3 : Int64} {i5 : Int32} {i6 : Int32} {l7 : Int64} (h :
  (¬ i5 = 0 →
    qAt s d c_Mo_secret (qQl Q) 82 [some (.ref 72), some (.int i1), some (.int i2), some (.long l3), none, some (.int i5), some (.int i6), some (.long l7), none] [.int i5, .long l3, .long l7] w) ∧
  (i5 = 0 →
    qAt s d c_Mo_secret (qQl Q) 82 [some (.ref 72), some (.int i1), some (.int i2), some (.long l3), none, some (.int i5), some (.int i6), some (.long l7), none] [.int (100000 : Int32), .long l3, .long l7] w)) :
  qAt s d c_Mo_secret (qQl Q) 67 [some (.ref 72), some (.int i1), some (.int i2), some (.long l3), none, some (.int i5), some (.int i6), some (.long l7), none] [] w := qAt_of u_Mo_secret [(67, [true, true, true, true, false, true, true, true, false]), (82, [true, true, true, true, false, true, true, true, false])] 8 h
set_option maxRecDepth 100000 in
theorem A_Mo_secret_82 {s : Nat × (Nat → Int32)} {d : Nat} {w : qW} {Q : Int64 → qW → Prop} {i1 : Int32} {i2 : Int32} {l3 : Int64} {i5 : Int32} {i6 : Int32} {l7 : Int64} {is0 : Int32} {ls1 : Int64} {ls2 : Int64} (h :
  (0 ≤ (lg_cmp ls2 (ls1 + (Int32.toInt64 is0))) →
    (¬ i5 = 0 →
      Q (Int32.toInt64 i6) w) ∧
    (i5 = 0 →
      Q (-1 : Int64) w)) ∧
  (¬ 0 ≤ (lg_cmp ls2 (ls1 + (Int32.toInt64 is0))) →
    qCall (some s) d 287 [.ref 72, .int i1, .int i2, .long l7] w (qQi fun x2 w1 =>
      (¬ x2 = 0 →
        (¬ i5 = 0 →
          qAt s d c_Mo_secret (qQl Q) 67 [some (.ref 72), some (.int i1), some (.int i2), some (.long l3), none, some (.int i5), some (.int (i6 + (1 : Int32))), some (.long (l7 + (1 : Int64))), none] [] w1) ∧
        (i5 = 0 →
          Q l7 w1)) ∧
      (x2 = 0 →
        qAt s d c_Mo_secret (qQl Q) 67 [some (.ref 72), some (.int i1), some (.int i2), some (.long l3), none, some (.int i5), some (.int i6), some (.long (l7 + (1 : Int64))), none] [] w1)))) :
  qAt s d c_Mo_secret (qQl Q) 82 [some (.ref 72), some (.int i1), some (.int i2), some (.long l3), none, some (.int i5), some (.int i6), some (.long l7), none] [.int is0, .long ls1, .long ls2] w := qAt_of u_Mo_secret [(67, [true, true, true, true, false, true, true, true, false]), (82, [true, true, true, true, false, true, true, true, false])] 20 h

set_option maxRecDepth 100000 in
theorem A_Mo_isSecret {s : Nat × (Nat → Int32)} {d : Nat} {w : qW} {Q : Int32 → qW → Prop} {i1 : Int32} {i2 : Int32} {l3 : Int64} (h :
  qCall (some s) d 285 [.ref 72, .long l3] w (qQi fun x2 w1 =>
    (¬ (x2 &&& ((qShl (1 : Int32) i1) ||| (qShl (1 : Int32) i2))) = ((qShl (1 : Int32) i1) ||| (qShl (1 : Int32) i2)) →
      Q (0 : Int32) w1) ∧
    ((x2 &&& ((qShl (1 : Int32) i1) ||| (qShl (1 : Int32) i2))) = ((qShl (1 : Int32) i1) ||| (qShl (1 : Int32) i2)) →
      qIn ((40 : Int32) + i1) 262 ∧
      (qIn ((40 : Int32) + i2) 262 ∧
      ((¬ ((x2 &&& (((qShl (1 : Int32) i1) ||| (qShl (1 : Int32) i2)) ^^^ (-1 : Int32))) &&& ((w1.1 73 (qIx ((40 : Int32) + i1))) ||| (w1.1 73 (qIx ((40 : Int32) + i2))))) = 0 →
        Q (0 : Int32) w1) ∧
      (((x2 &&& (((qShl (1 : Int32) i1) ||| (qShl (1 : Int32) i2)) ^^^ (-1 : Int32))) &&& ((w1.1 73 (qIx ((40 : Int32) + i1))) ||| (w1.1 73 (qIx ((40 : Int32) + i2))))) = 0 →
        Q (1 : Int32) w1)))))) :
  qCall (some s) (d + 1) 287 [.ref 72, .int i1, .int i2, .long l3] w (qQi Q) := qCall_of (cd := c_Mo_isSecret) (mL := 7) rfl u_Mo_isSecret [] 41 h

set_option maxRecDepth 100000 in
theorem A_Mo_pass {s : Nat × (Nat → Int32)} {d : Nat} {w : qW} {Q : Int64 → qW → Prop} {i1 : Int32} {l2 : Int64} {i4 : Int32} {i5 : Int32} (h :
  qCall (some s) d 211 [.ref 72, .int i1] w (qQi fun x2 w1 =>
    (x2 = 0 →
      Q (-1 : Int64) w1) ∧
    (¬ x2 = 0 →
      qCall (some s) d 211 [.ref 72, .int i4] w1 (qQi fun x4 w3 =>
        (x4 = 0 →
          Q (-1 : Int64) w3) ∧
        (¬ x4 = 0 →
          ((lg_cmp l2 (0 : Int64)) < 0 →
            Q (-1 : Int64) w3) ∧
          (¬ (lg_cmp l2 (0 : Int64)) < 0 →
            (0 < (lg_cmp l2 (100000000000000 : Int64)) →
              Q (-1 : Int64) w3) ∧
            (¬ 0 < (lg_cmp l2 (100000000000000 : Int64)) →
              qCall (some s) d 209 [.int i5, .int (0 : Int32), .int (1 : Int32)] w3 (qQi fun x6 w5 =>
                (¬ x6 = 0 →
                  (¬ i1 = i4 →
                    qCall (some s) d 253 [.ref 72] w5 (qQv fun w7 =>
                      qAt s d c_Mo_pass (qQl Q) 76 [some (.ref 72), none, some (.long l2), none, some (.int i4), some (.int i5), some (.int (qShl (1 : Int32) i1)), some (.long l2), none, none] [] w7)) ∧
                  (i1 = i4 →
                    (¬ i5 = 0 →
                      Q (-1 : Int64) w5) ∧
                    (i5 = 0 →
                      Q l2 w5))) ∧
                (x6 = 0 →
                  Q (-1 : Int64) w5))))))))) :
  qCall (some s) (d + 1) 288 [.ref 72, .int i1, .long l2, .int i4, .int i5] w (qQl Q) := qCall_of (cd := c_Mo_pass) (mL := 10) rfl u_Mo_pass [(76, [true, false, true, false, true, true, true, true, false, false])] 34 h
set_option maxRecDepth 100000 in
theorem A_Mo_pass_76 {s : Nat × (Nat → Int32)} {d : Nat} {w : qW} {Q : Int64 → qW → Prop} {l2 : Int64} {i4 : Int32} {i5 : Int32} {i6 : Int32} {l7 : Int64} (h :
  (0 ≤ (lg_cmp l7 (l2 + (100000 : Int64))) →
    Q (-1 : Int64) w) ∧
  (¬ 0 ≤ (lg_cmp l7 (l2 + (100000 : Int64))) →
    qCall (some s) d 285 [.ref 72, .long l7] w (qQi fun x2 w1 =>
      (¬ (x2 &&& i6) = 0 →
        qCall (some s) d 270 [.int x2, .int i4] w1 (qQi fun x4 w3 =>
          (x4 = 0 →
            qAt s d c_Mo_pass (qQl Q) 76 [some (.ref 72), none, some (.long l2), none, some (.int i4), some (.int i5), some (.int (i6 ||| x2)), some (.long (l7 + (1 : Int64))), none, none] [] w3) ∧
          (¬ x4 = 0 →
            (¬ i5 = 0 →
              qCall (some s) d 289 [.int (x2 &&& i6)] w3 (qQi fun x6 w5 =>
                Q (Int32.toInt64 x6) w5)) ∧
            (i5 = 0 →
              Q l7 w3)))) ∧
      ((x2 &&& i6) = 0 →
        qAt s d c_Mo_pass (qQl Q) 76 [some (.ref 72), none, some (.long l2), none, some (.int i4), some (.int i5), some (.int i6), some (.long (l7 + (1 : Int64))), none, none] [] w1)))) :
  qAt s d c_Mo_pass (qQl Q) 76 [some (.ref 72), none, some (.long l2), none, some (.int i4), some (.int i5), some (.int i6), some (.long l7), none, none] [] w := qAt_of u_Mo_pass [(76, [true, false, true, false, true, true, true, true, false, false])] 29 h

set_option maxRecDepth 100000 in
theorem A_Mo_lowest {s : Nat × (Nat → Int32)} {d : Nat} {w : qW} {Q : Int32 → qW → Prop} {i0 : Int32} (h :
  qAt s d c_Mo_lowest (qQi Q) 2 [some (.int i0), some (.int (0 : Int32))] [] w) :
  qCall (some s) (d + 1) 289 [.int i0] w (qQi Q) := qCall_of (cd := c_Mo_lowest) (mL := 2) rfl u_Mo_lowest [(2, [true, true])] 4 h
set_option maxRecDepth 100000 in
theorem A_Mo_lowest_2 {s : Nat × (Nat → Int32)} {d : Nat} {w : qW} {Q : Int32 → qW → Prop} {i0 : Int32} {i1 : Int32} (h :
  qCall (some s) d 270 [.int i0, .int i1] w (qQi fun x2 w1 =>
    (¬ x2 = 0 →
      Q i1 w1) ∧
    (x2 = 0 →
      qAt s d c_Mo_lowest (qQi Q) 2 [some (.int i0), some (.int (i1 + (1 : Int32)))] [] w1))) :
  qAt s d c_Mo_lowest (qQi Q) 2 [some (.int i0), some (.int i1)] [] w := qAt_of u_Mo_lowest [(2, [true, true])] 8 h

set_option maxRecDepth 100000 in
theorem A_Mo_talk {s : Nat × (Nat → Int32)} {d : Nat} {w : qW} {Q : Int32 → qW → Prop} {l1 : Int64} {i3 : Int32} {i4 : Int32} (h :
  qCall (some s) d 252 [.long l1] w (qQi fun x2 w1 =>
    (x2 = 0 →
      Q (-1 : Int32) w1) ∧
    (¬ x2 = 0 →
      qCall (some s) d 211 [.ref 72, .int i3] w1 (qQi fun x4 w3 =>
        (x4 = 0 →
          Q (-1 : Int32) w3) ∧
        (¬ x4 = 0 →
          qCall (some s) d 211 [.ref 72, .int i4] w3 (qQi fun x6 w5 =>
            (x6 = 0 →
              Q (-1 : Int32) w5) ∧
            (¬ x6 = 0 →
              (i3 = i4 →
                Q (-1 : Int32) w5) ∧
              (¬ i3 = i4 →
                qIn (5 : Int32) 262 ∧
                ((¬ (w5.1 73 (qIx (5 : Int32))) = (30 : Int32) →
                  qIn (5 : Int32) 262 ∧
                  (qIn (w5.1 73 (qIx (5 : Int32))) 30 ∧
                  (qIn (5 : Int32) 262 ∧
                  (qIn ((200 : Int32) + ((2 : Int32) * (w5.1 73 (qIx (5 : Int32))))) 262 ∧
                  (qIn (5 : Int32) 262 ∧
                  (qIn (((200 : Int32) + ((2 : Int32) * ((qPutI (qPutL w5 75 (qIx (w5.1 73 (qIx (5 : Int32)))) l1) 73 (qIx ((200 : Int32) + ((2 : Int32) * (w5.1 73 (qIx (5 : Int32)))))) i3).1 73 (qIx (5 : Int32))))) + (1 : Int32)) 262 ∧
                  (qIn (5 : Int32) 262 ∧
                  (qIn (5 : Int32) 262 ∧
                  (qIn (5 : Int32) 262 ∧
                  (Q (((qPutI (qPutI (qPutI (qPutL w5 75 (qIx (w5.1 73 (qIx (5 : Int32)))) l1) 73 (qIx ((200 : Int32) + ((2 : Int32) * (w5.1 73 (qIx (5 : Int32)))))) i3) 73 (qIx (((200 : Int32) + ((2 : Int32) * ((qPutI (qPutL w5 75 (qIx (w5.1 73 (qIx (5 : Int32)))) l1) 73 (qIx ((200 : Int32) + ((2 : Int32) * (w5.1 73 (qIx (5 : Int32)))))) i3).1 73 (qIx (5 : Int32))))) + (1 : Int32))) i4) 73 (qIx (5 : Int32)) (((qPutI (qPutI (qPutL w5 75 (qIx (w5.1 73 (qIx (5 : Int32)))) l1) 73 (qIx ((200 : Int32) + ((2 : Int32) * (w5.1 73 (qIx (5 : Int32)))))) i3) 73 (qIx (((200 : Int32) + ((2 : Int32) * ((qPutI (qPutL w5 75 (qIx (w5.1 73 (qIx (5 : Int32)))) l1) 73 (qIx ((200 : Int32) + ((2 : Int32) * (w5.1 73 (qIx (5 : Int32)))))) i3).1 73 (qIx (5 : Int32))))) + (1 : Int32))) i4).1 73 (qIx (5 : Int32))) + (1 : Int32))).1 73 (qIx (5 : Int32))) - (1 : Int32)) (qPutI (qPutI (qPutI (qPutL w5 75 (qIx (w5.1 73 (qIx (5 : Int32)))) l1) 73 (qIx ((200 : Int32) + ((2 : Int32) * (w5.1 73 (qIx (5 : Int32)))))) i3) 73 (qIx (((200 : Int32) + ((2 : Int32) * ((qPutI (qPutL w5 75 (qIx (w5.1 73 (qIx (5 : Int32)))) l1) 73 (qIx ((200 : Int32) + ((2 : Int32) * (w5.1 73 (qIx (5 : Int32)))))) i3).1 73 (qIx (5 : Int32))))) + (1 : Int32))) i4) 73 (qIx (5 : Int32)) (((qPutI (qPutI (qPutL w5 75 (qIx (w5.1 73 (qIx (5 : Int32)))) l1) 73 (qIx ((200 : Int32) + ((2 : Int32) * (w5.1 73 (qIx (5 : Int32)))))) i3) 73 (qIx (((200 : Int32) + ((2 : Int32) * ((qPutI (qPutL w5 75 (qIx (w5.1 73 (qIx (5 : Int32)))) l1) 73 (qIx ((200 : Int32) + ((2 : Int32) * (w5.1 73 (qIx (5 : Int32)))))) i3).1 73 (qIx (5 : Int32))))) + (1 : Int32))) i4).1 73 (qIx (5 : Int32))) + (1 : Int32))))))))))))) ∧
                ((w5.1 73 (qIx (5 : Int32))) = (30 : Int32) →
                  Q (-1 : Int32) w5)))))))))) :
  qCall (some s) (d + 1) 290 [.ref 72, .long l1, .int i3, .int i4] w (qQi Q) := qCall_of (cd := c_Mo_talk) (mL := 5) rfl u_Mo_talk [] 70 h

set_option maxRecDepth 100000 in
theorem A_Mo_judge {s : Nat × (Nat → Int32)} {d : Nat} {w : qW} {Q : Int32 → qW → Prop}  (h :
  qCall (some s) d 253 [.ref 72] w (qQv fun w1 =>
    qAt s d c_Mo_judge (qQi Q) 6 [some (.ref 72), some (.int (0 : Int32))] [] w1)) :
  qCall (some s) (d + 1) 291 [.ref 72] w (qQi Q) := qCall_of (cd := c_Mo_judge) (mL := 2) rfl u_Mo_judge [(6, [true, true])] 6 h
set_option maxRecDepth 100000 in
theorem A_Mo_judge_6 {s : Nat × (Nat → Int32)} {d : Nat} {w : qW} {Q : Int32 → qW → Prop} {i1 : Int32} (h :
  qIn (5 : Int32) 262 ∧
  (((w.1 73 (qIx (5 : Int32))) ≤ i1 →
    Q (-1 : Int32) w) ∧
  (¬ (w.1 73 (qIx (5 : Int32))) ≤ i1 →
    qIn ((200 : Int32) + ((2 : Int32) * i1)) 262 ∧
    (qIn i1 30 ∧
    (qCall (some s) d 262 [.ref 72, .int (w.1 73 (qIx ((200 : Int32) + ((2 : Int32) * i1)))), .long (w.2.1 75 (qIx i1))] w (qQi fun x2 w1 =>
      (x2 = 0 →
        Q i1 w1) ∧
      (¬ x2 = 0 →
        qIn (((200 : Int32) + ((2 : Int32) * i1)) + (1 : Int32)) 262 ∧
        (qIn i1 30 ∧
        (qCall (some s) d 262 [.ref 72, .int (w1.1 73 (qIx (((200 : Int32) + ((2 : Int32) * i1)) + (1 : Int32)))), .long (w1.2.1 75 (qIx i1))] w1 (qQi fun x4 w3 =>
          (¬ x4 = 0 →
            qAt s d c_Mo_judge (qQi Q) 6 [some (.ref 72), some (.int (i1 + (1 : Int32)))] [] w3) ∧
          (x4 = 0 →
            Q i1 w3))))))))))) :
  qAt s d c_Mo_judge (qQi Q) 6 [some (.ref 72), some (.int i1)] [] w := qAt_of u_Mo_judge [(6, [true, true])] 42 h

set_option maxRecDepth 100000 in
theorem A_Mo_overheard {s : Nat × (Nat → Int32)} {d : Nat} {w : qW} {Q : Int32 → qW → Prop} {i1 : Int32} (h :
  qIn (5 : Int32) 262 ∧
  (qCall (some s) d 209 [.int i1, .int (0 : Int32), .int ((w.1 73 (qIx (5 : Int32))) - (1 : Int32))] w (qQi fun x2 w1 =>
    (¬ x2 = 0 →
      qCall (some s) d 253 [.ref 72] w1 (qQv fun w3 =>
        qIn ((200 : Int32) + ((2 : Int32) * i1)) 262 ∧
        (qIn (((200 : Int32) + ((2 : Int32) * i1)) + (1 : Int32)) 262 ∧
        (qIn i1 30 ∧
        (qCall (some s) d 285 [.ref 72, .long (w3.2.1 75 (qIx i1))] w3 (qQi fun x5 w4 =>
          qIn ((40 : Int32) + (w3.1 73 (qIx ((200 : Int32) + ((2 : Int32) * i1))))) 262 ∧
          (qIn ((40 : Int32) + (w3.1 73 (qIx (((200 : Int32) + ((2 : Int32) * i1)) + (1 : Int32))))) 262 ∧
          (Q ((x5 &&& ((w4.1 73 (qIx ((40 : Int32) + (w3.1 73 (qIx ((200 : Int32) + ((2 : Int32) * i1))))))) ||| (w4.1 73 (qIx ((40 : Int32) + (w3.1 73 (qIx (((200 : Int32) + ((2 : Int32) * i1)) + (1 : Int32))))))))) &&& (((qShl (1 : Int32) (w3.1 73 (qIx ((200 : Int32) + ((2 : Int32) * i1))))) ||| (qShl (1 : Int32) (w3.1 73 (qIx (((200 : Int32) + ((2 : Int32) * i1)) + (1 : Int32)))))) ^^^ (-1 : Int32))) w4)))))))) ∧
    (x2 = 0 →
      Q (-1 : Int32) w1)))) :
  qCall (some s) (d + 1) 292 [.ref 72, .int i1] w (qQi Q) := qCall_of (cd := c_Mo_overheard) (mL := 4) rfl u_Mo_overheard [] 64 h

set_option maxRecDepth 100000 in
theorem A_Mo_turn {s : Nat × (Nat → Int32)} {d : Nat} {w : qW} {Q : Int64 → qW → Prop} {i1 : Int32} {l2 : Int64} {i4 : Int32} (h :
  qCall (some s) d 265 [.ref 72, .int i1] w (qQi fun x2 w1 =>
    (x2 = 0 →
      Q (-1 : Int64) w1) ∧
    (¬ x2 = 0 →
      ((lg_cmp l2 (0 : Int64)) < 0 →
        Q (-1 : Int64) w1) ∧
      (¬ (lg_cmp l2 (0 : Int64)) < 0 →
        (0 < (lg_cmp l2 (100000000000000 : Int64)) →
          Q (-1 : Int64) w1) ∧
        (¬ 0 < (lg_cmp l2 (100000000000000 : Int64)) →
          (i4 = (-1 : Int32) →
            qCall (some s) d 253 [.ref 72] w1 (qQv fun w3 =>
              qAt s d c_Mo_turn (qQl Q) 57 [some (.ref 72), some (.int i1), some (.long l2), none, some (.int i4), some (.int (0 : Int32)), none, none, none, none, none] [] w3)) ∧
          (¬ i4 = (-1 : Int32) →
            qCall (some s) d 211 [.ref 72, .int i4] w1 (qQi fun x5 w4 =>
              (x5 = 0 →
                Q (-1 : Int64) w4) ∧
              (¬ x5 = 0 →
                qCall (some s) d 270 [.int i1, .int i4] w4 (qQi fun x7 w6 =>
                  (¬ x7 = 0 →
                    qCall (some s) d 253 [.ref 72] w6 (qQv fun w8 =>
                      qAt s d c_Mo_turn (qQl Q) 57 [some (.ref 72), some (.int i1), some (.long l2), none, some (.int i4), some (.int (0 : Int32)), none, none, none, none, none] [] w8)) ∧
                  (x7 = 0 →
                    Q (-1 : Int64) w6)))))))))) :
  qCall (some s) (d + 1) 293 [.ref 72, .int i1, .long l2, .int i4] w (qQl Q) := qCall_of (cd := c_Mo_turn) (mL := 11) rfl u_Mo_turn [(57, [true, true, true, false, true, true, false, false, false, false, false]), (79, [true, true, true, false, true, true, true, false, false, false, false]), (133, [true, true, true, false, true, true, false, false, false, false, false]), (159, [true, true, true, false, true, true, false, false, false, false, false]), (198, [true, true, true, false, true, false, true, false, true, true, false]), (231, [true, true, true, false, true, false, true, false, true, true, true])] 29 h
set_option maxRecDepth 100000 in
theorem A_Mo_turn_57 {s : Nat × (Nat → Int32)} {d : Nat} {w : qW} {Q : Int64 → qW → Prop} {i1 : Int32} {l2 : Int64} {i4 : Int32} {i5 : Int32} (h :
  qIn (0 : Int32) 262 ∧
  (((w.1 73 (qIx (0 : Int32))) ≤ i5 →
    qAt s d c_Mo_turn (qQl Q) 133 [some (.ref 72), some (.int i1), some (.long l2), none, some (.int i4), some (.int (1 : Int32)), none, none, none, none, none] [] w) ∧
  (¬ (w.1 73 (qIx (0 : Int32))) ≤ i5 →
    qIn i5 12 ∧
    (qAt s d c_Mo_turn (qQl Q) 79 [some (.ref 72), some (.int i1), some (.long l2), none, some (.int i4), some (.int i5), some (.int (0 : Int32)), none, none, none, none] [] (qPutL w 88 (qIx i5) (0 : Int64)))))) :
  qAt s d c_Mo_turn (qQl Q) 57 [some (.ref 72), some (.int i1), some (.long l2), none, some (.int i4), some (.int i5), none, none, none, none, none] [] w := qAt_of u_Mo_turn [(57, [true, true, true, false, true, true, false, false, false, false, false]), (79, [true, true, true, false, true, true, true, false, false, false, false]), (133, [true, true, true, false, true, true, false, false, false, false, false]), (159, [true, true, true, false, true, true, false, false, false, false, false]), (198, [true, true, true, false, true, false, true, false, true, true, false]), (231, [true, true, true, false, true, false, true, false, true, true, true])] 15 h
set_option maxRecDepth 100000 in
theorem A_Mo_turn_133 {s : Nat × (Nat → Int32)} {d : Nat} {w : qW} {Q : Int64 → qW → Prop} {i1 : Int32} {l2 : Int64} {i4 : Int32} {i5 : Int32} (h :
  ((64 : Int32) ≤ i5 →
    qAt s d c_Mo_turn (qQl Q) 159 [some (.ref 72), some (.int i1), some (.long l2), none, some (.int i4), some (.int i5), none, none, none, none, none] [] w) ∧
  (¬ (64 : Int32) ≤ i5 →
    qCall (some s) d 294 [.int i5] w (qQl fun y2 w1 =>
      qCall (some s) d 295 [.ref 72, .int i1, .long y2] w1 (qQi fun x4 w3 =>
        (¬ x4 = 0 →
          qAt s d c_Mo_turn (qQl Q) 159 [some (.ref 72), some (.int i1), some (.long l2), none, some (.int i4), some (.int i5), none, none, none, none, none] [] w3) ∧
        (x4 = 0 →
          qAt s d c_Mo_turn (qQl Q) 133 [some (.ref 72), some (.int i1), some (.long l2), none, some (.int i4), some (.int (i5 + (1 : Int32))), none, none, none, none, none] [] w3))))) :
  qAt s d c_Mo_turn (qQl Q) 133 [some (.ref 72), some (.int i1), some (.long l2), none, some (.int i4), some (.int i5), none, none, none, none, none] [] w := qAt_of u_Mo_turn [(57, [true, true, true, false, true, true, false, false, false, false, false]), (79, [true, true, true, false, true, true, true, false, false, false, false]), (133, [true, true, true, false, true, true, false, false, false, false, false]), (159, [true, true, true, false, true, true, false, false, false, false, false]), (198, [true, true, true, false, true, false, true, false, true, true, false]), (231, [true, true, true, false, true, false, true, false, true, true, true])] 13 h
set_option maxRecDepth 100000 in
theorem A_Mo_turn_79 {s : Nat × (Nat → Int32)} {d : Nat} {w : qW} {Q : Int64 → qW → Prop} {i1 : Int32} {l2 : Int64} {i4 : Int32} {i5 : Int32} {i6 : Int32} (h :
  ((64 : Int32) ≤ i6 →
    qAt s d c_Mo_turn (qQl Q) 57 [some (.ref 72), some (.int i1), some (.long l2), none, some (.int i4), some (.int (i5 + (1 : Int32))), none, none, none, none, none] [] w) ∧
  (¬ (64 : Int32) ≤ i6 →
    qIn i5 12 ∧
    (qCall (some s) d 262 [.ref 72, .int i5, .long (l2 + (Int32.toInt64 i6))] w (qQi fun x2 w1 =>
      (x2 = 0 →
        qIn i5 12 ∧
        (qAt s d c_Mo_turn (qQl Q) 79 [some (.ref 72), some (.int i1), some (.long l2), none, some (.int i4), some (.int i5), some (.int (i6 + (1 : Int32))), none, none, none, none] [] (qPutL w1 88 (qIx i5) ((w.2.1 88 (qIx i5)) ||| (0 : Int64))))) ∧
      (¬ x2 = 0 →
        qIn i5 12 ∧
        (qAt s d c_Mo_turn (qQl Q) 79 [some (.ref 72), some (.int i1), some (.long l2), none, some (.int i4), some (.int i5), some (.int (i6 + (1 : Int32))), none, none, none, none] [] (qPutL w1 88 (qIx i5) ((w.2.1 88 (qIx i5)) ||| (qLshl (1 : Int64) i6))))))))) :
  qAt s d c_Mo_turn (qQl Q) 79 [some (.ref 72), some (.int i1), some (.long l2), none, some (.int i4), some (.int i5), some (.int i6), none, none, none, none] [] w := qAt_of u_Mo_turn [(57, [true, true, true, false, true, true, false, false, false, false, false]), (79, [true, true, true, false, true, true, true, false, false, false, false]), (133, [true, true, true, false, true, true, false, false, false, false, false]), (159, [true, true, true, false, true, true, false, false, false, false, false]), (198, [true, true, true, false, true, false, true, false, true, true, false]), (231, [true, true, true, false, true, false, true, false, true, true, true])] 26 h
set_option maxRecDepth 100000 in
theorem A_Mo_turn_159 {s : Nat × (Nat → Int32)} {d : Nat} {w : qW} {Q : Int64 → qW → Prop} {i1 : Int32} {l2 : Int64} {i4 : Int32} {i5 : Int32} (h :
  qCall (some s) d 294 [.int i5] w (qQl fun y2 w1 =>
    qCall (some s) d 295 [.ref 72, .int i1, .long y2] w1 (qQi fun x4 w3 =>
      (¬ x4 = 0 →
        (0 ≤ i4 →
          qCall (some s) d 294 [.int i5] w3 (qQl fun y6 w5 =>
            qAt s d c_Mo_turn (qQl Q) 198 [some (.ref 72), some (.int i1), some (.long l2), none, some (.int i4), none, some (.long y6), none, some (.int i1), some (.int (0 : Int32)), none] [] w5)) ∧
        (¬ 0 ≤ i4 →
          Q (Int32.toInt64 i5) w3)) ∧
      (x4 = 0 →
        Q (-1 : Int64) w3)))) :
  qAt s d c_Mo_turn (qQl Q) 159 [some (.ref 72), some (.int i1), some (.long l2), none, some (.int i4), some (.int i5), none, none, none, none, none] [] w := qAt_of u_Mo_turn [(57, [true, true, true, false, true, true, false, false, false, false, false]), (79, [true, true, true, false, true, true, true, false, false, false, false]), (133, [true, true, true, false, true, true, false, false, false, false, false]), (159, [true, true, true, false, true, true, false, false, false, false, false]), (198, [true, true, true, false, true, false, true, false, true, true, false]), (231, [true, true, true, false, true, false, true, false, true, true, true])] 17 h
set_option maxRecDepth 100000 in
theorem A_Mo_turn_198 {s : Nat × (Nat → Int32)} {d : Nat} {w : qW} {Q : Int64 → qW → Prop} {i1 : Int32} {l2 : Int64} {i4 : Int32} {l6 : Int64} {i8 : Int32} {i9 : Int32} (h :
  (i4 < i9 →
    Q (-1 : Int64) w) ∧
  (¬ i4 < i9 →
    qCall (some s) d 270 [.int i1, .int i9] w (qQi fun x2 w1 =>
      (¬ x2 = 0 →
        qAt s d c_Mo_turn (qQl Q) 231 [some (.ref 72), some (.int i1), some (.long l2), none, some (.int i4), none, some (.long l6), none, some (.int (i8 &&& ((qShl (1 : Int32) i9) ^^^ (-1 : Int32)))), some (.int i9), some (.int (0 : Int32))] [] w1) ∧
      (x2 = 0 →
        qAt s d c_Mo_turn (qQl Q) 198 [some (.ref 72), some (.int i1), some (.long l2), none, some (.int i4), none, some (.long l6), none, some (.int i8), some (.int (i9 + (1 : Int32))), none] [] w1)))) :
  qAt s d c_Mo_turn (qQl Q) 198 [some (.ref 72), some (.int i1), some (.long l2), none, some (.int i4), none, some (.long l6), none, some (.int i8), some (.int i9), none] [] w := qAt_of u_Mo_turn [(57, [true, true, true, false, true, true, false, false, false, false, false]), (79, [true, true, true, false, true, true, true, false, false, false, false]), (133, [true, true, true, false, true, true, false, false, false, false, false]), (159, [true, true, true, false, true, true, false, false, false, false, false]), (198, [true, true, true, false, true, false, true, false, true, true, false]), (231, [true, true, true, false, true, false, true, false, true, true, true])] 19 h
set_option maxRecDepth 100000 in
theorem A_Mo_turn_231 {s : Nat × (Nat → Int32)} {d : Nat} {w : qW} {Q : Int64 → qW → Prop} {i1 : Int32} {l2 : Int64} {i4 : Int32} {l6 : Int64} {i8 : Int32} {i9 : Int32} {i10 : Int32} (h :
  qIn i9 12 ∧
  (((lg_cmp (((w.2.1 88 (qIx i9)) &&& l6) &&& (qLshl (1 : Int64) i10)) (0 : Int64)) = 0 →
    qAt s d c_Mo_turn (qQl Q) 231 [some (.ref 72), some (.int i1), some (.long l2), none, some (.int i4), none, some (.long l6), none, some (.int i8), some (.int i9), some (.int (i10 + (1 : Int32)))] [] w) ∧
  (¬ (lg_cmp (((w.2.1 88 (qIx i9)) &&& l6) &&& (qLshl (1 : Int64) i10)) (0 : Int64)) = 0 →
    qCall (some s) d 295 [.ref 72, .int i8, .long (l6 &&& ((qLshl (1 : Int64) i10) ^^^ (-1 : Int64)))] w (qQi fun x2 w1 =>
      (¬ x2 = 0 →
        (¬ i9 = i4 →
          qAt s d c_Mo_turn (qQl Q) 198 [some (.ref 72), some (.int i1), some (.long l2), none, some (.int i4), none, some (.long (l6 &&& ((qLshl (1 : Int64) i10) ^^^ (-1 : Int64)))), none, some (.int i8), some (.int (i9 + (1 : Int32))), none] [] w1) ∧
        (i9 = i4 →
          Q (l2 + (Int32.toInt64 i10)) w1)) ∧
      (x2 = 0 →
        qAt s d c_Mo_turn (qQl Q) 231 [some (.ref 72), some (.int i1), some (.long l2), none, some (.int i4), none, some (.long l6), none, some (.int i8), some (.int i9), some (.int (i10 + (1 : Int32)))] [] w1))))) :
  qAt s d c_Mo_turn (qQl Q) 231 [some (.ref 72), some (.int i1), some (.long l2), none, some (.int i4), none, some (.long l6), none, some (.int i8), some (.int i9), some (.int i10)] [] w := qAt_of u_Mo_turn [(57, [true, true, true, false, true, true, false, false, false, false, false]), (79, [true, true, true, false, true, true, true, false, false, false, false]), (133, [true, true, true, false, true, true, false, false, false, false, false]), (159, [true, true, true, false, true, true, false, false, false, false, false]), (198, [true, true, true, false, true, false, true, false, true, true, false]), (231, [true, true, true, false, true, false, true, false, true, true, true])] 41 h

set_option maxRecDepth 100000 in
theorem A_Mo_firstHours {s : Nat × (Nat → Int32)} {d : Nat} {w : qW} {Q : Int64 → qW → Prop} {i0 : Int32} (h :
  (¬ i0 = (64 : Int32) →
    Q ((qLshl (1 : Int64) i0) - (1 : Int64)) w) ∧
  (i0 = (64 : Int32) →
    Q (-1 : Int64) w)) :
  qCall (some s) (d + 1) 294 [.int i0] w (qQl Q) := qCall_of (cd := c_Mo_firstHours) (mL := 1) rfl u_Mo_firstHours [] 10 h

set_option maxRecDepth 100000 in
theorem A_Mo_canTurn {s : Nat × (Nat → Int32)} {d : Nat} {w : qW} {Q : Int32 → qW → Prop} {i1 : Int32} {l2 : Int64} (h :
  qIn (0 : Int32) 4096 ∧
  (qAt s d c_Mo_canTurn (qQi Q) 10 [some (.ref 72), some (.int i1), some (.long l2), none, some (.int (1 : Int32))] [] (qPutL w 89 (qIx (0 : Int32)) (0 : Int64)))) :
  qCall (some s) (d + 1) 295 [.ref 72, .int i1, .long l2] w (qQi Q) := qCall_of (cd := c_Mo_canTurn) (mL := 5) rfl u_Mo_canTurn [(10, [true, true, true, false, true])] 9 h
set_option maxRecDepth 100000 in
theorem A_Mo_canTurn_10 {s : Nat × (Nat → Int32)} {d : Nat} {w : qW} {Q : Int32 → qW → Prop} {i1 : Int32} {l2 : Int64} {i4 : Int32} (h :
  qIn (0 : Int32) 262 ∧
  (((qShl (1 : Int32) (w.1 73 (qIx (0 : Int32)))) ≤ i4 →
    Q (1 : Int32) w) ∧
  (¬ (qShl (1 : Int32) (w.1 73 (qIx (0 : Int32)))) ≤ i4 →
    ((i4 &&& (i1 ^^^ (-1 : Int32))) = 0 →
      qIn (i4 &&& (i4 - (1 : Int32))) 4096 ∧
      (qCall (some s) d 289 [.int i4] w (qQi fun x2 w1 =>
        qIn x2 12 ∧
        (qIn i4 4096 ∧
        (qIn i4 4096 ∧
        (qCall (some s) d 296 [.int i4] (qPutL w1 89 (qIx i4) ((w.2.1 89 (qIx (i4 &&& (i4 - (1 : Int32))))) ||| (w1.2.1 88 (qIx x2)))) (qQi fun x4 w3 =>
          qCall (some s) d 297 [.long (((qPutL w1 89 (qIx i4) ((w.2.1 89 (qIx (i4 &&& (i4 - (1 : Int32))))) ||| (w1.2.1 88 (qIx x2)))).2.1 89 (qIx i4)) &&& l2), .int x4] w3 (qQi fun x6 w5 =>
            (¬ x6 = 0 →
              qAt s d c_Mo_canTurn (qQi Q) 10 [some (.ref 72), some (.int i1), some (.long l2), none, some (.int (i4 + (1 : Int32)))] [] w5) ∧
            (x6 = 0 →
              Q (0 : Int32) w5))))))))) ∧
    (¬ (i4 &&& (i1 ^^^ (-1 : Int32))) = 0 →
      qAt s d c_Mo_canTurn (qQi Q) 10 [some (.ref 72), some (.int i1), some (.long l2), none, some (.int (i4 + (1 : Int32)))] [] w)))) :
  qAt s d c_Mo_canTurn (qQi Q) 10 [some (.ref 72), some (.int i1), some (.long l2), none, some (.int i4)] [] w := qAt_of u_Mo_canTurn [(10, [true, true, true, false, true])] 46 h

set_option maxRecDepth 100000 in
theorem A_Mo_size {s : Nat × (Nat → Int32)} {d : Nat} {w : qW} {Q : Int32 → qW → Prop} {i0 : Int32} (h :
  qAt s d c_Mo_size (qQi Q) 4 [some (.int i0), some (.int (0 : Int32)), some (.int (0 : Int32))] [] w) :
  qCall (some s) (d + 1) 296 [.int i0] w (qQi Q) := qCall_of (cd := c_Mo_size) (mL := 3) rfl u_Mo_size [(4, [true, true, true])] 6 h
set_option maxRecDepth 100000 in
theorem A_Mo_size_4 {s : Nat × (Nat → Int32)} {d : Nat} {w : qW} {Q : Int32 → qW → Prop} {i0 : Int32} {i1 : Int32} {i2 : Int32} (h :
  ((12 : Int32) ≤ i2 →
    Q i1 w) ∧
  (¬ (12 : Int32) ≤ i2 →
    qAt s d c_Mo_size (qQi Q) 4 [some (.int i0), some (.int (i1 + ((qShr i0 i2) &&& (1 : Int32)))), some (.int (i2 + (1 : Int32)))] [] w)) :
  qAt s d c_Mo_size (qQi Q) 4 [some (.int i0), some (.int i1), some (.int i2)] [] w := qAt_of u_Mo_size [(4, [true, true, true])] 15 h

set_option maxRecDepth 100000 in
theorem A_Mo_hasAtLeast {s : Nat × (Nat → Int32)} {d : Nat} {w : qW} {Q : Int32 → qW → Prop} {l0 : Int64} {i2 : Int32} (h :
  qAt s d c_Mo_hasAtLeast (qQi Q) 5 [none, none, some (.int i2), some (.long l0), none, some (.int (0 : Int32))] [] w) :
  qCall (some s) (d + 1) 297 [.long l0, .int i2] w (qQi Q) := qCall_of (cd := c_Mo_hasAtLeast) (mL := 6) rfl u_Mo_hasAtLeast [(5, [false, false, true, true, false, true])] 6 h
set_option maxRecDepth 100000 in
theorem A_Mo_hasAtLeast_5 {s : Nat × (Nat → Int32)} {d : Nat} {w : qW} {Q : Int32 → qW → Prop} {i2 : Int32} {l3 : Int64} {i5 : Int32} (h :
  (i2 ≤ i5 →
    (¬ i5 = i2 →
      Q (0 : Int32) w) ∧
    (i5 = i2 →
      Q (1 : Int32) w)) ∧
  (¬ i2 ≤ i5 →
    ((lg_cmp l3 (0 : Int64)) = 0 →
      (¬ i5 = i2 →
        Q (0 : Int32) w) ∧
      (i5 = i2 →
        Q (1 : Int32) w)) ∧
    (¬ (lg_cmp l3 (0 : Int64)) = 0 →
      qAt s d c_Mo_hasAtLeast (qQi Q) 5 [none, none, some (.int i2), some (.long (l3 &&& (l3 - (1 : Int64)))), none, some (.int (i5 + (1 : Int32)))] [] w))) :
  qAt s d c_Mo_hasAtLeast (qQi Q) 5 [none, none, some (.int i2), some (.long l3), none, some (.int i5)] [] w := qAt_of u_Mo_hasAtLeast [(5, [false, false, true, true, false, true])] 17 h

set_option maxRecDepth 100000 in
theorem A_Mo_given {s : Nat × (Nat → Int32)} {d : Nat} {w : qW} {Q : Int32 → qW → Prop} {i1 : Int32} (h :
  qCall (some s) d 209 [.int i1, .int (1 : Int32), .int (9999 : Int32)] w (qQi fun x2 w1 =>
    (x2 = 0 →
      Q (-1 : Int32) w1) ∧
    (¬ x2 = 0 →
      qIn (6 : Int32) 262 ∧
      ((¬ (w1.1 73 (qIx (6 : Int32))) = (6 : Int32) →
        qAt s d c_Mo_given (qQi Q) 27 [some (.ref 72), some (.int i1), some (.int (0 : Int32))] [] w1) ∧
      ((w1.1 73 (qIx (6 : Int32))) = (6 : Int32) →
        Q (-1 : Int32) w1))))) :
  qCall (some s) (d + 1) 298 [.ref 72, .int i1] w (qQi Q) := qCall_of (cd := c_Mo_given) (mL := 3) rfl u_Mo_given [(27, [true, true, true])] 15 h
set_option maxRecDepth 100000 in
theorem A_Mo_given_27 {s : Nat × (Nat → Int32)} {d : Nat} {w : qW} {Q : Int32 → qW → Prop} {i1 : Int32} {i2 : Int32} (h :
  qIn (6 : Int32) 262 ∧
  (((w.1 73 (qIx (6 : Int32))) ≤ i2 →
    qIn (6 : Int32) 262 ∧
    (qIn ((55 : Int32) + (w.1 73 (qIx (6 : Int32)))) 262 ∧
    (qIn (6 : Int32) 262 ∧
    (qIn (6 : Int32) 262 ∧
    (qIn (6 : Int32) 262 ∧
    (Q ((qPutI (qPutI w 73 (qIx ((55 : Int32) + (w.1 73 (qIx (6 : Int32))))) i1) 73 (qIx (6 : Int32)) (((qPutI w 73 (qIx ((55 : Int32) + (w.1 73 (qIx (6 : Int32))))) i1).1 73 (qIx (6 : Int32))) + (1 : Int32))).1 73 (qIx (6 : Int32))) (qPutI (qPutI w 73 (qIx ((55 : Int32) + (w.1 73 (qIx (6 : Int32))))) i1) 73 (qIx (6 : Int32)) (((qPutI w 73 (qIx ((55 : Int32) + (w.1 73 (qIx (6 : Int32))))) i1).1 73 (qIx (6 : Int32))) + (1 : Int32))))))))) ∧
  (¬ (w.1 73 (qIx (6 : Int32))) ≤ i2 →
    qIn ((55 : Int32) + i2) 262 ∧
    ((¬ (w.1 73 (qIx ((55 : Int32) + i2))) = i1 →
      qAt s d c_Mo_given (qQi Q) 27 [some (.ref 72), some (.int i1), some (.int (i2 + (1 : Int32)))] [] w) ∧
    ((w.1 73 (qIx ((55 : Int32) + i2))) = i1 →
      Q (-1 : Int32) w))))) :
  qAt s d c_Mo_given (qQi Q) 27 [some (.ref 72), some (.int i1), some (.int i2)] [] w := qAt_of u_Mo_given [(27, [true, true, true])] 30 h

set_option maxRecDepth 100000 in
theorem A_Mo_need {s : Nat × (Nat → Int32)} {d : Nat} {w : qW} {Q : Int32 → qW → Prop} {i1 : Int32} {i2 : Int32} {i3 : Int32} {i4 : Int32} (h :
  qCall (some s) d 211 [.ref 72, .int i1] w (qQi fun x2 w1 =>
    (x2 = 0 →
      Q (-1 : Int32) w1) ∧
    (¬ x2 = 0 →
      qCall (some s) d 211 [.ref 72, .int i2] w1 (qQi fun x4 w3 =>
        (x4 = 0 →
          Q (-1 : Int32) w3) ∧
        (¬ x4 = 0 →
          (i1 = i2 →
            Q (-1 : Int32) w3) ∧
          (¬ i1 = i2 →
            qCall (some s) d 209 [.int i3, .int (1 : Int32), .int (999 : Int32)] w3 (qQi fun x6 w5 =>
              (x6 = 0 →
                Q (-1 : Int32) w5) ∧
              (¬ x6 = 0 →
                qCall (some s) d 209 [.int i4, .int (1 : Int32), .int (100000 : Int32)] w5 (qQi fun x8 w7 =>
                  (x8 = 0 →
                    Q (-1 : Int32) w7) ∧
                  (¬ x8 = 0 →
                    qIn (7 : Int32) 262 ∧
                    ((¬ (w7.1 73 (qIx (7 : Int32))) = (12 : Int32) →
                      qIn (7 : Int32) 262 ∧
                      (qIn ((65 : Int32) + ((4 : Int32) * (w7.1 73 (qIx (7 : Int32))))) 262 ∧
                      (qIn (((65 : Int32) + ((4 : Int32) * (w7.1 73 (qIx (7 : Int32))))) + (1 : Int32)) 262 ∧
                      (qIn (((65 : Int32) + ((4 : Int32) * (w7.1 73 (qIx (7 : Int32))))) + (2 : Int32)) 262 ∧
                      (qIn (((65 : Int32) + ((4 : Int32) * (w7.1 73 (qIx (7 : Int32))))) + (3 : Int32)) 262 ∧
                      (qIn (7 : Int32) 262 ∧
                      (qIn (7 : Int32) 262 ∧
                      (qIn (7 : Int32) 262 ∧
                      (Q (((qPutI (qPutI (qPutI (qPutI (qPutI w7 73 (qIx ((65 : Int32) + ((4 : Int32) * (w7.1 73 (qIx (7 : Int32)))))) i1) 73 (qIx (((65 : Int32) + ((4 : Int32) * (w7.1 73 (qIx (7 : Int32))))) + (1 : Int32))) i2) 73 (qIx (((65 : Int32) + ((4 : Int32) * (w7.1 73 (qIx (7 : Int32))))) + (2 : Int32))) i3) 73 (qIx (((65 : Int32) + ((4 : Int32) * (w7.1 73 (qIx (7 : Int32))))) + (3 : Int32))) i4) 73 (qIx (7 : Int32)) (((qPutI (qPutI (qPutI (qPutI w7 73 (qIx ((65 : Int32) + ((4 : Int32) * (w7.1 73 (qIx (7 : Int32)))))) i1) 73 (qIx (((65 : Int32) + ((4 : Int32) * (w7.1 73 (qIx (7 : Int32))))) + (1 : Int32))) i2) 73 (qIx (((65 : Int32) + ((4 : Int32) * (w7.1 73 (qIx (7 : Int32))))) + (2 : Int32))) i3) 73 (qIx (((65 : Int32) + ((4 : Int32) * (w7.1 73 (qIx (7 : Int32))))) + (3 : Int32))) i4).1 73 (qIx (7 : Int32))) + (1 : Int32))).1 73 (qIx (7 : Int32))) - (1 : Int32)) (qPutI (qPutI (qPutI (qPutI (qPutI w7 73 (qIx ((65 : Int32) + ((4 : Int32) * (w7.1 73 (qIx (7 : Int32)))))) i1) 73 (qIx (((65 : Int32) + ((4 : Int32) * (w7.1 73 (qIx (7 : Int32))))) + (1 : Int32))) i2) 73 (qIx (((65 : Int32) + ((4 : Int32) * (w7.1 73 (qIx (7 : Int32))))) + (2 : Int32))) i3) 73 (qIx (((65 : Int32) + ((4 : Int32) * (w7.1 73 (qIx (7 : Int32))))) + (3 : Int32))) i4) 73 (qIx (7 : Int32)) (((qPutI (qPutI (qPutI (qPutI w7 73 (qIx ((65 : Int32) + ((4 : Int32) * (w7.1 73 (qIx (7 : Int32)))))) i1) 73 (qIx (((65 : Int32) + ((4 : Int32) * (w7.1 73 (qIx (7 : Int32))))) + (1 : Int32))) i2) 73 (qIx (((65 : Int32) + ((4 : Int32) * (w7.1 73 (qIx (7 : Int32))))) + (2 : Int32))) i3) 73 (qIx (((65 : Int32) + ((4 : Int32) * (w7.1 73 (qIx (7 : Int32))))) + (3 : Int32))) i4).1 73 (qIx (7 : Int32))) + (1 : Int32)))))))))))) ∧
                    ((w7.1 73 (qIx (7 : Int32))) = (12 : Int32) →
                      Q (-1 : Int32) w7)))))))))))) :
  qCall (some s) (d + 1) 299 [.ref 72, .int i1, .int i2, .int i3, .int i4] w (qQi Q) := qCall_of (cd := c_Mo_need) (mL := 6) rfl u_Mo_need [] 78 h

set_option maxRecDepth 100000 in
theorem A_Mo_worth {s : Nat × (Nat → Int32)} {d : Nat} {w : qW} {Q : Int32 → qW → Prop} {i1 : Int32} (h :
  qIn (7 : Int32) 262 ∧
  (qCall (some s) d 209 [.int i1, .int (-1 : Int32), .int ((w.1 73 (qIx (7 : Int32))) - (1 : Int32))] w (qQi fun x2 w1 =>
    (¬ x2 = 0 →
      qCall (some s) d 253 [.ref 72] w1 (qQv fun w3 =>
        (0 ≤ i1 →
          qCall (some s) d 302 [.ref 72, .int i1] w3 (qQi fun x5 w4 =>
            Q x5 w4)) ∧
        (¬ 0 ≤ i1 →
          qCall (some s) d 301 [.ref 72] w3 (qQi fun x7 w6 =>
            Q x7 w6)))) ∧
    (x2 = 0 →
      Q (-1000000 : Int32) w1)))) :
  qCall (some s) (d + 1) 300 [.ref 72, .int i1] w (qQi Q) := qCall_of (cd := c_Mo_worth) (mL := 2) rfl u_Mo_worth [] 19 h

set_option maxRecDepth 100000 in
theorem A_Mo_worthOfAll {s : Nat × (Nat → Int32)} {d : Nat} {w : qW} {Q : Int32 → qW → Prop}  (h :
  qAt s d c_Mo_worthOfAll (qQi Q) 4 [some (.ref 72), some (.int (0 : Int32)), some (.int (0 : Int32))] [] w) :
  qCall (some s) (d + 1) 301 [.ref 72] w (qQi Q) := qCall_of (cd := c_Mo_worthOfAll) (mL := 3) rfl u_Mo_worthOfAll [(4, [true, true, true])] 6 h
set_option maxRecDepth 100000 in
theorem A_Mo_worthOfAll_4 {s : Nat × (Nat → Int32)} {d : Nat} {w : qW} {Q : Int32 → qW → Prop} {i1 : Int32} {i2 : Int32} (h :
  qIn (7 : Int32) 262 ∧
  (((w.1 73 (qIx (7 : Int32))) ≤ i2 →
    Q i1 w) ∧
  (¬ (w.1 73 (qIx (7 : Int32))) ≤ i2 →
    qCall (some s) d 302 [.ref 72, .int i2] w (qQi fun x2 w1 =>
      qAt s d c_Mo_worthOfAll (qQi Q) 4 [some (.ref 72), some (.int (i1 + x2)), some (.int (i2 + (1 : Int32)))] [] w1)))) :
  qAt s d c_Mo_worthOfAll (qQi Q) 4 [some (.ref 72), some (.int i1), some (.int i2)] [] w := qAt_of u_Mo_worthOfAll [(4, [true, true, true])] 16 h

set_option maxRecDepth 100000 in
theorem A_Mo_worthOf {s : Nat × (Nat → Int32)} {d : Nat} {w : qW} {Q : Int32 → qW → Prop} {i1 : Int32} (h :
  qIn ((65 : Int32) + ((4 : Int32) * i1)) 262 ∧
  (qIn (((65 : Int32) + ((4 : Int32) * i1)) + (1 : Int32)) 262 ∧
  (qIn (((65 : Int32) + ((4 : Int32) * i1)) + (3 : Int32)) 262 ∧
  (qCall (some s) d 282 [.ref 72, .int ((qShl (1 : Int32) (w.1 73 (qIx ((65 : Int32) + ((4 : Int32) * i1))))) ||| (qShl (1 : Int32) (w.1 73 (qIx (((65 : Int32) + ((4 : Int32) * i1)) + (1 : Int32)))))), .long (0 : Int64), .long (Int32.toInt64 (w.1 73 (qIx (((65 : Int32) + ((4 : Int32) * i1)) + (3 : Int32)))))] w (qQl fun y2 w1 =>
    qIn (4 : Int32) 7 ∧
    (qIn (((65 : Int32) + ((4 : Int32) * i1)) + (2 : Int32)) 262 ∧
    (qIn (5 : Int32) 7 ∧
    (qIn (((65 : Int32) + ((4 : Int32) * i1)) + (3 : Int32)) 262 ∧
    (qIn (6 : Int32) 7 ∧
    (qAt s d c_Mo_worthOf (qQi Q) 81 [some (.ref 72), none, some (.int ((65 : Int32) + ((4 : Int32) * i1))), some (.int (Int64.toInt32 y2)), some (.int (0 : Int32))] [] (qPutI (qPutI (qPutI w1 80 (qIx (4 : Int32)) (Int64.toInt32 y2)) 80 (qIx (5 : Int32)) (w1.1 73 (qIx (((65 : Int32) + ((4 : Int32) * i1)) + (2 : Int32))))) 80 (qIx (6 : Int32)) (w1.1 73 (qIx (((65 : Int32) + ((4 : Int32) * i1)) + (3 : Int32))))))))))))))) :
  qCall (some s) (d + 1) 302 [.ref 72, .int i1] w (qQi Q) := qCall_of (cd := c_Mo_worthOf) (mL := 5) rfl u_Mo_worthOf [(81, [true, false, true, true, true])] 62 h
set_option maxRecDepth 100000 in
theorem A_Mo_worthOf_81 {s : Nat × (Nat → Int32)} {d : Nat} {w : qW} {Q : Int32 → qW → Prop} {i2 : Int32} {i3 : Int32} {i4 : Int32} (h :
  qCall (some s) d 256 [.ref 72] w (qQi fun x2 w1 =>
    (x2 ≤ i4 →
      qIn (i2 + (2 : Int32)) 262 ∧
      ((i3 < (w1.1 73 (qIx (i2 + (2 : Int32)))) →
        Q (0 : Int32) w1) ∧
      (¬ i3 < (w1.1 73 (qIx (i2 + (2 : Int32)))) →
        Q (1 : Int32) w1))) ∧
    (¬ x2 ≤ i4 →
      qCall (some s) d 257 [.ref 72, .int i4] w1 (qQi fun x4 w3 =>
        (x4 = (2 : Int32) →
          qCall (some s) d 258 [.ref 72, .int i4] w3 (qQv fun w5 =>
            qIn (0 : Int32) 330 ∧
            ((0 ≤ (lg_cmp (w5.2.1 81 (qIx (0 : Int32))) (-9999 : Int64)) →
              qIn (0 : Int32) 330 ∧
              (((lg_cmp (w5.2.1 81 (qIx (0 : Int32))) (9999 : Int64)) ≤ 0 →
                qIn (0 : Int32) 330 ∧
                (Q (Int64.toInt32 (w5.2.1 81 (qIx (0 : Int32)))) w5)) ∧
              (¬ (lg_cmp (w5.2.1 81 (qIx (0 : Int32))) (9999 : Int64)) ≤ 0 →
                Q (9999 : Int32) w5))) ∧
            (¬ 0 ≤ (lg_cmp (w5.2.1 81 (qIx (0 : Int32))) (-9999 : Int64)) →
              Q (-9999 : Int32) w5)))) ∧
        (¬ x4 = (2 : Int32) →
          qAt s d c_Mo_worthOf (qQi Q) 81 [some (.ref 72), none, some (.int i2), some (.int i3), some (.int (i4 + (1 : Int32)))] [] w3))))) :
  qAt s d c_Mo_worthOf (qQi Q) 81 [some (.ref 72), none, some (.int i2), some (.int i3), some (.int i4)] [] w := qAt_of u_Mo_worthOf [(81, [true, false, true, true, true])] 33 h

set_option maxRecDepth 100000 in
theorem A_Mo_give {s : Nat × (Nat → Int32)} {d : Nat} {w : qW} {Q : Int32 → qW → Prop} {i1 : Int32} {i2 : Int32} (h :
  qCall (some s) d 265 [.ref 72, .int i1] w (qQi fun x2 w1 =>
    (x2 = 0 →
      Q (-1000000 : Int32) w1) ∧
    (¬ x2 = 0 →
      qCall (some s) d 296 [.int i1] w1 (qQi fun x4 w3 =>
        ((2 : Int32) < x4 →
          Q (-1000000 : Int32) w3) ∧
        (¬ (2 : Int32) < x4 →
          qIn (6 : Int32) 262 ∧
          (((w3.1 73 (qIx (6 : Int32))) = 0 →
            Q (-1000000 : Int32) w3) ∧
          (¬ (w3.1 73 (qIx (6 : Int32))) = 0 →
            (i2 = (-1 : Int32) →
              qCall (some s) d 253 [.ref 72] w3 (qQv fun w5 =>
                qAt s d c_Mo_give (qQi Q) 60 [some (.ref 72), some (.int i1), some (.int i2), some (.int (0 : Int32)), some (.int (0 : Int32)), none, none, none, none, none, none] [] w5)) ∧
            (¬ i2 = (-1 : Int32) →
              qCall (some s) d 211 [.ref 72, .int i2] w3 (qQi fun x7 w6 =>
                (x7 = 0 →
                  Q (-1000000 : Int32) w6) ∧
                (¬ x7 = 0 →
                  qCall (some s) d 270 [.int i1, .int i2] w6 (qQi fun x9 w8 =>
                    (¬ x9 = 0 →
                      qCall (some s) d 253 [.ref 72] w8 (qQv fun w10 =>
                        qAt s d c_Mo_give (qQi Q) 60 [some (.ref 72), some (.int i1), some (.int i2), some (.int (0 : Int32)), some (.int (0 : Int32)), none, none, none, none, none, none] [] w10)) ∧
                    (x9 = 0 →
                      Q (-1000000 : Int32) w8)))))))))))) :
  qCall (some s) (d + 1) 303 [.ref 72, .int i1, .int i2] w (qQi Q) := qCall_of (cd := c_Mo_give) (mL := 11) rfl u_Mo_give [(60, [true, true, true, true, true, false, false, false, false, false, false]), (112, [true, false, true, true, true, true, true, true, false, false, false]), (139, [true, false, true, true, true, true, true, true, false, false, false]), (155, [true, false, true, true, true, true, true, true, true, true, false]), (198, [true, false, true, true, true, true, true, true, false, true, false]), (259, [true, false, true, true, true, true, true, true, false, false, true]), (301, [true, false, true, true, false, false, false, true, false, false, false])] 32 h
set_option maxRecDepth 100000 in
theorem A_Mo_give_60 {s : Nat × (Nat → Int32)} {d : Nat} {w : qW} {Q : Int32 → qW → Prop} {i1 : Int32} {i2 : Int32} {i3 : Int32} {i4 : Int32} (h :
  qIn (0 : Int32) 262 ∧
  (((w.1 73 (qIx (0 : Int32))) ≤ i4 →
    qAt s d c_Mo_give (qQi Q) 112 [some (.ref 72), none, some (.int i2), some (.int i3), some (.int (-1 : Int32)), some (.int (0 : Int32)), some (.int (1 : Int32)), some (.int (0 : Int32)), none, none, none] [] w) ∧
  (¬ (w.1 73 (qIx (0 : Int32))) ≤ i4 →
    qCall (some s) d 270 [.int i1, .int i4] w (qQi fun x2 w1 =>
      (¬ x2 = 0 →
        qIn i3 3 ∧
        (qAt s d c_Mo_give (qQi Q) 60 [some (.ref 72), some (.int i1), some (.int i2), some (.int (i3 + (1 : Int32))), some (.int (i4 + (1 : Int32))), none, none, none, none, none, none] [] (qPutI w1 90 (qIx i3) i4))) ∧
      (x2 = 0 →
        qAt s d c_Mo_give (qQi Q) 60 [some (.ref 72), some (.int i1), some (.int i2), some (.int i3), some (.int (i4 + (1 : Int32))), none, none, none, none, none, none] [] w1))))) :
  qAt s d c_Mo_give (qQi Q) 60 [some (.ref 72), some (.int i1), some (.int i2), some (.int i3), some (.int i4), none, none, none, none, none, none] [] w := qAt_of u_Mo_give [(60, [true, true, true, true, true, false, false, false, false, false, false]), (112, [true, false, true, true, true, true, true, true, false, false, false]), (139, [true, false, true, true, true, true, true, true, false, false, false]), (155, [true, false, true, true, true, true, true, true, true, true, false]), (198, [true, false, true, true, true, true, true, true, false, true, false]), (259, [true, false, true, true, true, true, true, true, false, false, true]), (301, [true, false, true, true, false, false, false, true, false, false, false])] 20 h
set_option maxRecDepth 100000 in
theorem A_Mo_give_112 {s : Nat × (Nat → Int32)} {d : Nat} {w : qW} {Q : Int32 → qW → Prop} {i2 : Int32} {i3 : Int32} {i4 : Int32} {i5 : Int32} {i6 : Int32} {i7 : Int32} (h :
  (i3 ≤ i7 →
    qAt s d c_Mo_give (qQi Q) 139 [some (.ref 72), none, some (.int i2), some (.int i3), some (.int i4), some (.int i5), some (.int i6), some (.int (0 : Int32)), none, none, none] [] w) ∧
  (¬ i3 ≤ i7 →
    qIn (6 : Int32) 262 ∧
    (qAt s d c_Mo_give (qQi Q) 112 [some (.ref 72), none, some (.int i2), some (.int i3), some (.int i4), some (.int i5), some (.int (i6 * (w.1 73 (qIx (6 : Int32))))), some (.int (i7 + (1 : Int32))), none, none, none] [] w))) :
  qAt s d c_Mo_give (qQi Q) 112 [some (.ref 72), none, some (.int i2), some (.int i3), some (.int i4), some (.int i5), some (.int i6), some (.int i7), none, none, none] [] w := qAt_of u_Mo_give [(60, [true, true, true, true, true, false, false, false, false, false, false]), (112, [true, false, true, true, true, true, true, true, false, false, false]), (139, [true, false, true, true, true, true, true, true, false, false, false]), (155, [true, false, true, true, true, true, true, true, true, true, false]), (198, [true, false, true, true, true, true, true, true, false, true, false]), (259, [true, false, true, true, true, true, true, true, false, false, true]), (301, [true, false, true, true, false, false, false, true, false, false, false])] 14 h
set_option maxRecDepth 100000 in
theorem A_Mo_give_139 {s : Nat × (Nat → Int32)} {d : Nat} {w : qW} {Q : Int32 → qW → Prop} {i2 : Int32} {i3 : Int32} {i4 : Int32} {i5 : Int32} {i6 : Int32} {i7 : Int32} (h :
  (i6 ≤ i7 →
    (0 ≤ i2 →
      qAt s d c_Mo_give (qQi Q) 301 [some (.ref 72), none, some (.int i2), some (.int i3), none, none, none, some (.int (0 : Int32)), none, none, none] [] w) ∧
    (¬ 0 ≤ i2 →
      Q i4 w)) ∧
  (¬ i6 ≤ i7 →
    qAt s d c_Mo_give (qQi Q) 155 [some (.ref 72), none, some (.int i2), some (.int i3), some (.int i4), some (.int i5), some (.int i6), some (.int i7), some (.int i7), some (.int (i3 - (1 : Int32))), none] [] w)) :
  qAt s d c_Mo_give (qQi Q) 139 [some (.ref 72), none, some (.int i2), some (.int i3), some (.int i4), some (.int i5), some (.int i6), some (.int i7), none, none, none] [] w := qAt_of u_Mo_give [(60, [true, true, true, true, true, false, false, false, false, false, false]), (112, [true, false, true, true, true, true, true, true, false, false, false]), (139, [true, false, true, true, true, true, true, true, false, false, false]), (155, [true, false, true, true, true, true, true, true, true, true, false]), (198, [true, false, true, true, true, true, true, true, false, true, false]), (259, [true, false, true, true, true, true, true, true, false, false, true]), (301, [true, false, true, true, false, false, false, true, false, false, false])] 11 h
set_option maxRecDepth 100000 in
theorem A_Mo_give_301 {s : Nat × (Nat → Int32)} {d : Nat} {w : qW} {Q : Int32 → qW → Prop} {i2 : Int32} {i3 : Int32} {i7 : Int32} (h :
  (i3 ≤ i7 →
    Q (-1000000 : Int32) w) ∧
  (¬ i3 ≤ i7 →
    qIn i7 3 ∧
    ((¬ (w.1 90 (qIx i7)) = i2 →
      qAt s d c_Mo_give (qQi Q) 301 [some (.ref 72), none, some (.int i2), some (.int i3), none, none, none, some (.int (i7 + (1 : Int32))), none, none, none] [] w) ∧
    ((w.1 90 (qIx i7)) = i2 →
      qIn i7 3 ∧
      (qIn ((55 : Int32) + (w.1 92 (qIx i7))) 262 ∧
      (Q (w.1 73 (qIx ((55 : Int32) + (w.1 92 (qIx i7))))) w)))))) :
  qAt s d c_Mo_give (qQi Q) 301 [some (.ref 72), none, some (.int i2), some (.int i3), none, none, none, some (.int i7), none, none, none] [] w := qAt_of u_Mo_give [(60, [true, true, true, true, true, false, false, false, false, false, false]), (112, [true, false, true, true, true, true, true, true, false, false, false]), (139, [true, false, true, true, true, true, true, true, false, false, false]), (155, [true, false, true, true, true, true, true, true, true, true, false]), (198, [true, false, true, true, true, true, true, true, false, true, false]), (259, [true, false, true, true, true, true, true, true, false, false, true]), (301, [true, false, true, true, false, false, false, true, false, false, false])] 20 h
set_option maxRecDepth 100000 in
theorem A_Mo_give_155 {s : Nat × (Nat → Int32)} {d : Nat} {w : qW} {Q : Int32 → qW → Prop} {i2 : Int32} {i3 : Int32} {i4 : Int32} {i5 : Int32} {i6 : Int32} {i7 : Int32} {i8 : Int32} {i9 : Int32} (h :
  (i9 < 0 →
    qAt s d c_Mo_give (qQi Q) 198 [some (.ref 72), none, some (.int i2), some (.int i3), some (.int i4), some (.int i5), some (.int i6), some (.int i7), none, some (.int (0 : Int32)), none] [] w) ∧
  (¬ i9 < 0 →
    qIn (6 : Int32) 262 ∧
    (¬ (w.1 73 (qIx (6 : Int32))) = 0 ∧ (qIn i9 3 ∧
    (qIn (6 : Int32) 262 ∧
    (¬ (w.1 73 (qIx (6 : Int32))) = 0 ∧ (qAt s d c_Mo_give (qQi Q) 155 [some (.ref 72), none, some (.int i2), some (.int i3), some (.int i4), some (.int i5), some (.int i6), some (.int i7), some (.int (i8 / (w.1 73 (qIx (6 : Int32))))), some (.int (i9 + (-1 : Int32))), none] [] (qPutI w 91 (qIx i9) (qRem i8 (w.1 73 (qIx (6 : Int32)))))))))))) :
  qAt s d c_Mo_give (qQi Q) 155 [some (.ref 72), none, some (.int i2), some (.int i3), some (.int i4), some (.int i5), some (.int i6), some (.int i7), some (.int i8), some (.int i9), none] [] w := qAt_of u_Mo_give [(60, [true, true, true, true, true, false, false, false, false, false, false]), (112, [true, false, true, true, true, true, true, true, false, false, false]), (139, [true, false, true, true, true, true, true, true, false, false, false]), (155, [true, false, true, true, true, true, true, true, true, true, false]), (198, [true, false, true, true, true, true, true, true, false, true, false]), (259, [true, false, true, true, true, true, true, true, false, false, true]), (301, [true, false, true, true, false, false, false, true, false, false, false])] 23 h
set_option maxRecDepth 100000 in
theorem A_Mo_give_198 {s : Nat × (Nat → Int32)} {d : Nat} {w : qW} {Q : Int32 → qW → Prop} {i2 : Int32} {i3 : Int32} {i4 : Int32} {i5 : Int32} {i6 : Int32} {i7 : Int32} {i9 : Int32} (h :
  (i3 ≤ i9 →
    qCall (some s) d 301 [.ref 72] w (qQi fun x2 w1 =>
      (i5 = 0 →
        qAt s d c_Mo_give (qQi Q) 259 [some (.ref 72), none, some (.int i2), some (.int i3), some (.int x2), some (.int (1 : Int32)), some (.int i6), some (.int i7), none, none, some (.int (0 : Int32))] [] w1) ∧
      (¬ i5 = 0 →
        (i4 < x2 →
          qAt s d c_Mo_give (qQi Q) 259 [some (.ref 72), none, some (.int i2), some (.int i3), some (.int x2), some (.int (1 : Int32)), some (.int i6), some (.int i7), none, none, some (.int (0 : Int32))] [] w1) ∧
        (¬ i4 < x2 →
          qAt s d c_Mo_give (qQi Q) 139 [some (.ref 72), none, some (.int i2), some (.int i3), some (.int i4), some (.int i5), some (.int i6), some (.int (i7 + (1 : Int32))), none, none, none] [] w1)))) ∧
  (¬ i3 ≤ i9 →
    qIn i9 3 ∧
    (qIn i9 3 ∧
    (qCall (some s) d 304 [.ref 72, .int (w.1 90 (qIx i9)), .int (w.1 91 (qIx i9))] w (qQv fun w3 =>
      qAt s d c_Mo_give (qQi Q) 198 [some (.ref 72), none, some (.int i2), some (.int i3), some (.int i4), some (.int i5), some (.int i6), some (.int i7), none, some (.int (i9 + (1 : Int32))), none] [] w3))))) :
  qAt s d c_Mo_give (qQi Q) 198 [some (.ref 72), none, some (.int i2), some (.int i3), some (.int i4), some (.int i5), some (.int i6), some (.int i7), none, some (.int i9), none] [] w := qAt_of u_Mo_give [(60, [true, true, true, true, true, false, false, false, false, false, false]), (112, [true, false, true, true, true, true, true, true, false, false, false]), (139, [true, false, true, true, true, true, true, true, false, false, false]), (155, [true, false, true, true, true, true, true, true, true, true, false]), (198, [true, false, true, true, true, true, true, true, false, true, false]), (259, [true, false, true, true, true, true, true, true, false, false, true]), (301, [true, false, true, true, false, false, false, true, false, false, false])] 19 h
set_option maxRecDepth 100000 in
theorem A_Mo_give_259 {s : Nat × (Nat → Int32)} {d : Nat} {w : qW} {Q : Int32 → qW → Prop} {i2 : Int32} {i3 : Int32} {i4 : Int32} {i5 : Int32} {i6 : Int32} {i7 : Int32} {i10 : Int32} (h :
  (i3 ≤ i10 →
    qAt s d c_Mo_give (qQi Q) 139 [some (.ref 72), none, some (.int i2), some (.int i3), some (.int i4), some (.int i5), some (.int i6), some (.int (i7 + (1 : Int32))), none, none, none] [] w) ∧
  (¬ i3 ≤ i10 →
    qIn i10 3 ∧
    (qIn i10 3 ∧
    (qAt s d c_Mo_give (qQi Q) 259 [some (.ref 72), none, some (.int i2), some (.int i3), some (.int i4), some (.int i5), some (.int i6), some (.int i7), none, none, some (.int (i10 + (1 : Int32)))] [] (qPutI w 92 (qIx i10) (w.1 91 (qIx i10))))))) :
  qAt s d c_Mo_give (qQi Q) 259 [some (.ref 72), none, some (.int i2), some (.int i3), some (.int i4), some (.int i5), some (.int i6), some (.int i7), none, none, some (.int i10)] [] w := qAt_of u_Mo_give [(60, [true, true, true, true, true, false, false, false, false, false, false]), (112, [true, false, true, true, true, true, true, true, false, false, false]), (139, [true, false, true, true, true, true, true, true, false, false, false]), (155, [true, false, true, true, true, true, true, true, true, true, false]), (198, [true, false, true, true, true, true, true, true, false, true, false]), (259, [true, false, true, true, true, true, true, true, false, false, true]), (301, [true, false, true, true, false, false, false, true, false, false, false])] 15 h

set_option maxRecDepth 100000 in
theorem A_Mo_giveTo {s : Nat × (Nat → Int32)} {d : Nat} {w : qW} {Q : qW → Prop} {i1 : Int32} {i2 : Int32} (h :
  qIn ((55 : Int32) + i2) 262 ∧
  (qIn i1 12 ∧
  (qCall (some s) d 254 [.ref 72, .int i1] (qPutI w 83 (qIx i1) (w.1 73 (qIx ((55 : Int32) + i2)))) (qQv fun w1 =>
    Q w1)))) :
  qCall (some s) (d + 1) 304 [.ref 72, .int i1, .int i2] w (qQv Q) := qCall_of (cd := c_Mo_giveTo) (mL := 3) rfl u_Mo_giveTo [] 15 h

set_option maxRecDepth 100000 in
theorem A_Mo_mend {s : Nat × (Nat → Int32)} {d : Nat} {w : qW} {Q : Int32 → qW → Prop} {i1 : Int32} (h :
  qCall (some s) d 209 [.int i1, .int (0 : Int32), .int (2 : Int32)] w (qQi fun x2 w1 =>
    (¬ x2 = 0 →
      qCall (some s) d 253 [.ref 72] w1 (qQv fun w3 =>
        qCall (some s) d 301 [.ref 72] w3 (qQi fun x5 w4 =>
          qAt s d c_Mo_mend (qQi Q) 30 [some (.ref 72), some (.int i1), some (.int x5), some (.int (-1 : Int32)), some (.int (0 : Int32)), some (.int (0 : Int32)), none, none] [] w4))) ∧
    (x2 = 0 →
      Q (-1000000 : Int32) w1))) :
  qCall (some s) (d + 1) 305 [.ref 72, .int i1] w (qQi Q) := qCall_of (cd := c_Mo_mend) (mL := 8) rfl u_Mo_mend [(30, [true, true, true, true, true, true, false, false]), (44, [true, true, true, true, true, true, true, false])] 18 h
set_option maxRecDepth 100000 in
theorem A_Mo_mend_30 {s : Nat × (Nat → Int32)} {d : Nat} {w : qW} {Q : Int32 → qW → Prop} {i1 : Int32} {i2 : Int32} {i3 : Int32} {i4 : Int32} {i5 : Int32} (h :
  qIn (0 : Int32) 262 ∧
  (((w.1 73 (qIx (0 : Int32))) ≤ i5 →
    (0 ≤ i3 →
      (¬ i1 = 0 →
        (¬ i1 = (1 : Int32) →
          Q i2 w) ∧
        (i1 = (1 : Int32) →
          Q i4 w)) ∧
      (i1 = 0 →
        Q i3 w)) ∧
    (¬ 0 ≤ i3 →
      Q (-1000000 : Int32) w)) ∧
  (¬ (w.1 73 (qIx (0 : Int32))) ≤ i5 →
    qAt s d c_Mo_mend (qQi Q) 44 [some (.ref 72), some (.int i1), some (.int i2), some (.int i3), some (.int i4), some (.int i5), some (.int (0 : Int32)), none] [] w))) :
  qAt s d c_Mo_mend (qQi Q) 30 [some (.ref 72), some (.int i1), some (.int i2), some (.int i3), some (.int i4), some (.int i5), none, none] [] w := qAt_of u_Mo_mend [(30, [true, true, true, true, true, true, false, false]), (44, [true, true, true, true, true, true, true, false])] 17 h
set_option maxRecDepth 100000 in
theorem A_Mo_mend_44 {s : Nat × (Nat → Int32)} {d : Nat} {w : qW} {Q : Int32 → qW → Prop} {i1 : Int32} {i2 : Int32} {i3 : Int32} {i4 : Int32} {i5 : Int32} {i6 : Int32} (h :
  qIn (6 : Int32) 262 ∧
  (((w.1 73 (qIx (6 : Int32))) ≤ i6 →
    qIn ((10 : Int32) + ((2 : Int32) * i5)) 262 ∧
    (qIn i5 12 ∧
    (qCall (some s) d 254 [.ref 72, .int i5] (qPutI w 83 (qIx i5) (w.1 73 (qIx ((10 : Int32) + ((2 : Int32) * i5))))) (qQv fun w1 =>
      qAt s d c_Mo_mend (qQi Q) 30 [some (.ref 72), some (.int i1), some (.int i2), some (.int i3), some (.int i4), some (.int (i5 + (1 : Int32))), none, none] [] w1)))) ∧
  (¬ (w.1 73 (qIx (6 : Int32))) ≤ i6 →
    qCall (some s) d 304 [.ref 72, .int i5, .int i6] w (qQv fun w2 =>
      qCall (some s) d 301 [.ref 72] w2 (qQi fun x4 w3 =>
        (i2 < x4 →
          qIn ((55 : Int32) + i6) 262 ∧
          (qAt s d c_Mo_mend (qQi Q) 44 [some (.ref 72), some (.int i1), some (.int x4), some (.int i5), some (.int (w3.1 73 (qIx ((55 : Int32) + i6)))), some (.int i5), some (.int (i6 + (1 : Int32))), none] [] w3)) ∧
        (¬ i2 < x4 →
          qAt s d c_Mo_mend (qQi Q) 44 [some (.ref 72), some (.int i1), some (.int i2), some (.int i3), some (.int i4), some (.int i5), some (.int (i6 + (1 : Int32))), none] [] w3)))))) :
  qAt s d c_Mo_mend (qQi Q) 44 [some (.ref 72), some (.int i1), some (.int i2), some (.int i3), some (.int i4), some (.int i5), some (.int i6), none] [] w := qAt_of u_Mo_mend [(30, [true, true, true, true, true, true, false, false]), (44, [true, true, true, true, true, true, true, false])] 31 h

set_option maxRecDepth 100000 in
theorem A_Mo_cover {s : Nat × (Nat → Int32)} {d : Nat} {w : qW} {Q : Int32 → qW → Prop}  (h :
  qIn (0 : Int32) 262 ∧
  ((¬ (w.1 73 (qIx (0 : Int32))) = 0 →
    qCall (some s) d 253 [.ref 72] w (qQv fun w1 =>
      qCall (some s) d 307 [.ref 72] w1 (qQi fun x3 w2 =>
        (x3 ≤ (5040 : Int32) →
          qAt s d c_Mo_cover (qQi Q) 32 [some (.ref 72), some (.int x3), some (.int (0 : Int32)), none] [] w2) ∧
        (¬ x3 ≤ (5040 : Int32) →
          Q (-2 : Int32) w2)))) ∧
  ((w.1 73 (qIx (0 : Int32))) = 0 →
    Q (-1 : Int32) w))) :
  qCall (some s) (d + 1) 306 [.ref 72] w (qQi Q) := qCall_of (cd := c_Mo_cover) (mL := 4) rfl u_Mo_cover [(32, [true, true, true, false]), (56, [true, true, true, false]), (85, [true, false, true, false]), (97, [true, false, true, true])] 17 h
set_option maxRecDepth 100000 in
theorem A_Mo_cover_32 {s : Nat × (Nat → Int32)} {d : Nat} {w : qW} {Q : Int32 → qW → Prop} {i1 : Int32} {i2 : Int32} (h :
  ((4096 : Int32) ≤ i2 →
    qAt s d c_Mo_cover (qQi Q) 56 [some (.ref 72), some (.int i1), some (.int (10000 : Int32)), none] [] w) ∧
  (¬ (4096 : Int32) ≤ i2 →
    qIn i2 4096 ∧
    (qAt s d c_Mo_cover (qQi Q) 32 [some (.ref 72), some (.int i1), some (.int (i2 + (1 : Int32))), none] [] (qPutI w 93 (qIx i2) (0 : Int32))))) :
  qAt s d c_Mo_cover (qQi Q) 32 [some (.ref 72), some (.int i1), some (.int i2), none] [] w := qAt_of u_Mo_cover [(32, [true, true, true, false]), (56, [true, true, true, false]), (85, [true, false, true, false]), (97, [true, false, true, true])] 12 h
set_option maxRecDepth 100000 in
theorem A_Mo_cover_56 {s : Nat × (Nat → Int32)} {d : Nat} {w : qW} {Q : Int32 → qW → Prop} {i1 : Int32} {i2 : Int32} (h :
  (((10000 : Int32) + i1) ≤ i2 →
    qAt s d c_Mo_cover (qQi Q) 85 [some (.ref 72), none, some (.int (1 : Int32)), none] [] w) ∧
  (¬ ((10000 : Int32) + i1) ≤ i2 →
    qCall (some s) d 285 [.ref 72, .long (Int32.toInt64 i2)] w (qQi fun x2 w1 =>
      qIn x2 4096 ∧
      (qAt s d c_Mo_cover (qQi Q) 56 [some (.ref 72), some (.int i1), some (.int (i2 + (1 : Int32))), none] [] (qPutI w1 93 (qIx x2) (1 : Int32)))))) :
  qAt s d c_Mo_cover (qQi Q) 56 [some (.ref 72), some (.int i1), some (.int i2), none] [] w := qAt_of u_Mo_cover [(32, [true, true, true, false]), (56, [true, true, true, false]), (85, [true, false, true, false]), (97, [true, false, true, true])] 17 h
set_option maxRecDepth 100000 in
theorem A_Mo_cover_85 {s : Nat × (Nat → Int32)} {d : Nat} {w : qW} {Q : Int32 → qW → Prop} {i2 : Int32} (h :
  qIn (0 : Int32) 262 ∧
  (((w.1 73 (qIx (0 : Int32))) < i2 →
    Q (-1 : Int32) w) ∧
  (¬ (w.1 73 (qIx (0 : Int32))) < i2 →
    qAt s d c_Mo_cover (qQi Q) 97 [some (.ref 72), none, some (.int i2), some (.int (1 : Int32))] [] w))) :
  qAt s d c_Mo_cover (qQi Q) 85 [some (.ref 72), none, some (.int i2), none] [] w := qAt_of u_Mo_cover [(32, [true, true, true, false]), (56, [true, true, true, false]), (85, [true, false, true, false]), (97, [true, false, true, true])] 10 h
set_option maxRecDepth 100000 in
theorem A_Mo_cover_97 {s : Nat × (Nat → Int32)} {d : Nat} {w : qW} {Q : Int32 → qW → Prop} {i2 : Int32} {i3 : Int32} (h :
  qIn (0 : Int32) 262 ∧
  (((qShl (1 : Int32) (w.1 73 (qIx (0 : Int32)))) ≤ i3 →
    qAt s d c_Mo_cover (qQi Q) 85 [some (.ref 72), none, some (.int (i2 + (1 : Int32))), none] [] w) ∧
  (¬ (qShl (1 : Int32) (w.1 73 (qIx (0 : Int32)))) ≤ i3 →
    qCall (some s) d 296 [.int i3] w (qQi fun x2 w1 =>
      (¬ x2 = i2 →
        qAt s d c_Mo_cover (qQi Q) 97 [some (.ref 72), none, some (.int i2), some (.int (i3 + (1 : Int32)))] [] w1) ∧
      (x2 = i2 →
        qCall (some s) d 308 [.ref 72, .int i3] w1 (qQi fun x4 w3 =>
          (x4 = 0 →
            qAt s d c_Mo_cover (qQi Q) 97 [some (.ref 72), none, some (.int i2), some (.int (i3 + (1 : Int32)))] [] w3) ∧
          (¬ x4 = 0 →
            Q i3 w3))))))) :
  qAt s d c_Mo_cover (qQi Q) 97 [some (.ref 72), none, some (.int i2), some (.int i3)] [] w := qAt_of u_Mo_cover [(32, [true, true, true, false]), (56, [true, true, true, false]), (85, [true, false, true, false]), (97, [true, false, true, true])] 20 h

set_option maxRecDepth 100000 in
theorem A_Mo_roundOf {s : Nat × (Nat → Int32)} {d : Nat} {w : qW} {Q : Int32 → qW → Prop}  (h :
  qIn (2 : Int32) 262 ∧
  (qIn (1 : Int32) 262 ∧
  (((w.1 73 (qIx (1 : Int32))) ≤ 0 →
    qAt s d c_Mo_roundOf (qQi Q) 42 [some (.ref 72), some (.long (Int32.toInt64 (w.1 73 (qIx (2 : Int32))))), none, some (.int (0 : Int32))] [] w) ∧
  (¬ (w.1 73 (qIx (1 : Int32))) ≤ 0 →
    qIn (1 : Int32) 262 ∧
    (qCall (some s) d 268 [.long (Int32.toInt64 (w.1 73 (qIx (2 : Int32)))), .long (Int32.toInt64 (w.1 73 (qIx (1 : Int32))))] w (qQl fun y2 w1 =>
      ¬ y2 = 0 ∧ (qIn (1 : Int32) 262 ∧
      (Q (Int64.toInt32 (((Int32.toInt64 (w.1 73 (qIx (2 : Int32)))) / y2) * (Int32.toInt64 (w1.1 73 (qIx (1 : Int32)))))) w1)))))))) :
  qCall (some s) (d + 1) 307 [.ref 72] w (qQi Q) := qCall_of (cd := c_Mo_roundOf) (mL := 4) rfl u_Mo_roundOf [(42, [true, true, false, true])] 29 h
set_option maxRecDepth 100000 in
theorem A_Mo_roundOf_42 {s : Nat × (Nat → Int32)} {d : Nat} {w : qW} {Q : Int32 → qW → Prop} {l1 : Int64} {i3 : Int32} (h :
  qIn (0 : Int32) 262 ∧
  (((w.1 73 (qIx (0 : Int32))) ≤ i3 →
    ((lg_cmp l1 (5040 : Int64)) ≤ 0 →
      Q (Int64.toInt32 l1) w) ∧
    (¬ (lg_cmp l1 (5040 : Int64)) ≤ 0 →
      Q (5041 : Int32) w)) ∧
  (¬ (w.1 73 (qIx (0 : Int32))) ≤ i3 →
    (0 < (lg_cmp l1 (5040 : Int64)) →
      ((lg_cmp l1 (5040 : Int64)) ≤ 0 →
        Q (Int64.toInt32 l1) w) ∧
      (¬ (lg_cmp l1 (5040 : Int64)) ≤ 0 →
        Q (5041 : Int32) w)) ∧
    (¬ 0 < (lg_cmp l1 (5040 : Int64)) →
      qIn i3 12 ∧
      (qCall (some s) d 268 [.long l1, .long (Int32.toInt64 (w.1 83 (qIx i3)))] w (qQl fun y2 w1 =>
        ¬ y2 = 0 ∧ (qIn i3 12 ∧
        (qAt s d c_Mo_roundOf (qQi Q) 42 [some (.ref 72), some (.long ((l1 / y2) * (Int32.toInt64 (w1.1 83 (qIx i3))))), none, some (.int (i3 + (1 : Int32)))] [] w1)))))))) :
  qAt s d c_Mo_roundOf (qQi Q) 42 [some (.ref 72), some (.long l1), none, some (.int i3)] [] w := qAt_of u_Mo_roundOf [(42, [true, true, false, true])] 30 h

set_option maxRecDepth 100000 in
theorem A_Mo_covers {s : Nat × (Nat → Int32)} {d : Nat} {w : qW} {Q : Int32 → qW → Prop} {i1 : Int32} (h :
  qAt s d c_Mo_covers (qQi Q) 2 [some (.ref 72), some (.int i1), some (.int (0 : Int32))] [] w) :
  qCall (some s) (d + 1) 308 [.ref 72, .int i1] w (qQi Q) := qCall_of (cd := c_Mo_covers) (mL := 3) rfl u_Mo_covers [(2, [true, true, true])] 4 h
set_option maxRecDepth 100000 in
theorem A_Mo_covers_2 {s : Nat × (Nat → Int32)} {d : Nat} {w : qW} {Q : Int32 → qW → Prop} {i1 : Int32} {i2 : Int32} (h :
  qIn (0 : Int32) 262 ∧
  (((qShl (1 : Int32) (w.1 73 (qIx (0 : Int32)))) ≤ i2 →
    Q (1 : Int32) w) ∧
  (¬ (qShl (1 : Int32) (w.1 73 (qIx (0 : Int32)))) ≤ i2 →
    qIn i2 4096 ∧
    (((w.1 93 (qIx i2)) = 0 →
      qAt s d c_Mo_covers (qQi Q) 2 [some (.ref 72), some (.int i1), some (.int (i2 + (1 : Int32)))] [] w) ∧
    (¬ (w.1 93 (qIx i2)) = 0 →
      (¬ (i2 &&& i1) = 0 →
        qAt s d c_Mo_covers (qQi Q) 2 [some (.ref 72), some (.int i1), some (.int (i2 + (1 : Int32)))] [] w) ∧
      ((i2 &&& i1) = 0 →
        Q (0 : Int32) w)))))) :
  qAt s d c_Mo_covers (qQi Q) 2 [some (.ref 72), some (.int i1), some (.int i2)] [] w := qAt_of u_Mo_covers [(2, [true, true, true])] 21 h

set_option maxRecDepth 100000 in
theorem A_Mo_apart {s : Nat × (Nat → Int32)} {d : Nat} {w : qW} {Q : Int32 → qW → Prop} {i1 : Int32} {i2 : Int32} (h :
  qCall (some s) d 265 [.ref 72, .int i1] w (qQi fun x2 w1 =>
    (x2 = 0 →
      Q (-1 : Int32) w1) ∧
    (¬ x2 = 0 →
      qCall (some s) d 296 [.int i1] w1 (qQi fun x4 w3 =>
        ((5 : Int32) < x4 →
          Q (-1 : Int32) w3) ∧
        (¬ (5 : Int32) < x4 →
          qCall (some s) d 211 [.ref 72, .int i2] w3 (qQi fun x6 w5 =>
            (x6 = 0 →
              Q (-1 : Int32) w5) ∧
            (¬ x6 = 0 →
              qCall (some s) d 270 [.int i1, .int i2] w5 (qQi fun x8 w7 =>
                (¬ x8 = 0 →
                  qCall (some s) d 253 [.ref 72] w7 (qQv fun w9 =>
                    qAt s d c_Mo_apart (qQi Q) 43 [some (.ref 72), some (.int i1), some (.int i2), some (.int (0 : Int32)), some (.int (0 : Int32))] [] w9)) ∧
                (x8 = 0 →
                  Q (-1 : Int32) w7))))))))) :
  qCall (some s) (d + 1) 309 [.ref 72, .int i1, .int i2] w (qQi Q) := qCall_of (cd := c_Mo_apart) (mL := 5) rfl u_Mo_apart [(43, [true, true, true, true, true]), (110, [true, false, true, false, true])] 24 h
set_option maxRecDepth 100000 in
theorem A_Mo_apart_43 {s : Nat × (Nat → Int32)} {d : Nat} {w : qW} {Q : Int32 → qW → Prop} {i1 : Int32} {i2 : Int32} {i3 : Int32} {i4 : Int32} (h :
  qIn (0 : Int32) 262 ∧
  (((w.1 73 (qIx (0 : Int32))) ≤ i4 →
    qCall (some s) d 310 [.ref 72, .int i3] w (qQi fun x2 w1 =>
      (¬ x2 = 0 →
        qAt s d c_Mo_apart (qQi Q) 110 [some (.ref 72), none, some (.int i2), none, some (.int (0 : Int32))] [] w1) ∧
      (x2 = 0 →
        Q (-1 : Int32) w1))) ∧
  (¬ (w.1 73 (qIx (0 : Int32))) ≤ i4 →
    qCall (some s) d 270 [.int i1, .int i4] w (qQi fun x4 w3 =>
      (¬ x4 = 0 →
        qIn i4 12 ∧
        (((w3.1 83 (qIx i4)) ≤ (60 : Int32) →
          qIn i3 5 ∧
          (qAt s d c_Mo_apart (qQi Q) 43 [some (.ref 72), some (.int i1), some (.int i2), some (.int (i3 + (1 : Int32))), some (.int (i4 + (1 : Int32)))] [] (qPutI w3 95 (qIx i3) i4))) ∧
        (¬ (w3.1 83 (qIx i4)) ≤ (60 : Int32) →
          Q (-1 : Int32) w3))) ∧
      (x4 = 0 →
        qAt s d c_Mo_apart (qQi Q) 43 [some (.ref 72), some (.int i1), some (.int i2), some (.int i3), some (.int (i4 + (1 : Int32)))] [] w3))))) :
  qAt s d c_Mo_apart (qQi Q) 43 [some (.ref 72), some (.int i1), some (.int i2), some (.int i3), some (.int i4)] [] w := qAt_of u_Mo_apart [(43, [true, true, true, true, true]), (110, [true, false, true, false, true])] 26 h
set_option maxRecDepth 100000 in
theorem A_Mo_apart_110 {s : Nat × (Nat → Int32)} {d : Nat} {w : qW} {Q : Int32 → qW → Prop} {i2 : Int32} {i4 : Int32} (h :
  qIn i4 5 ∧
  (((w.1 95 (qIx i4)) = i2 →
    qIn i4 5 ∧
    (Q (w.1 94 (qIx i4)) w)) ∧
  (¬ (w.1 95 (qIx i4)) = i2 →
    qAt s d c_Mo_apart (qQi Q) 110 [some (.ref 72), none, some (.int i2), none, some (.int (i4 + (1 : Int32)))] [] w))) :
  qAt s d c_Mo_apart (qQi Q) 110 [some (.ref 72), none, some (.int i2), none, some (.int i4)] [] w := qAt_of u_Mo_apart [(43, [true, true, true, true, true]), (110, [true, false, true, false, true])] 12 h

set_option maxRecDepth 100000 in
theorem A_Mo_findApart {s : Nat × (Nat → Int32)} {d : Nat} {w : qW} {Q : Int32 → qW → Prop} {i1 : Int32} (h :
  qAt s d c_Mo_findApart (qQi Q) 2 [some (.ref 72), some (.int i1), some (.int (0 : Int32)), none] [] w) :
  qCall (some s) (d + 1) 310 [.ref 72, .int i1] w (qQi Q) := qCall_of (cd := c_Mo_findApart) (mL := 4) rfl u_Mo_findApart [(2, [true, true, true, false]), (9, [true, true, true, true]), (87, [true, true, true, false]), (92, [true, true, true, false]), (133, [true, true, true, false])] 4 h
set_option maxRecDepth 100000 in
theorem A_Mo_findApart_2 {s : Nat × (Nat → Int32)} {d : Nat} {w : qW} {Q : Int32 → qW → Prop} {i1 : Int32} {i2 : Int32} (h :
  (i1 ≤ i2 →
    qIn (0 : Int32) 5 ∧
    (qIn (1 : Int32) 5 ∧
    ((¬ i1 = (1 : Int32) →
      qAt s d c_Mo_findApart (qQi Q) 87 [some (.ref 72), some (.int i1), some (.int (1 : Int32)), none] [] (qPutI (qPutI w 94 (qIx (0 : Int32)) (0 : Int32)) 94 (qIx (1 : Int32)) (0 : Int32))) ∧
    (i1 = (1 : Int32) →
      Q (1 : Int32) (qPutI (qPutI w 94 (qIx (0 : Int32)) (0 : Int32)) 94 (qIx (1 : Int32)) (0 : Int32)))))) ∧
  (¬ i1 ≤ i2 →
    qAt s d c_Mo_findApart (qQi Q) 9 [some (.ref 72), some (.int i1), some (.int i2), some (.int (0 : Int32))] [] w)) :
  qAt s d c_Mo_findApart (qQi Q) 2 [some (.ref 72), some (.int i1), some (.int i2), none] [] w := qAt_of u_Mo_findApart [(2, [true, true, true, false]), (9, [true, true, true, true]), (87, [true, true, true, false]), (92, [true, true, true, false]), (133, [true, true, true, false])] 20 h
set_option maxRecDepth 100000 in
theorem A_Mo_findApart_87 {s : Nat × (Nat → Int32)} {d : Nat} {w : qW} {Q : Int32 → qW → Prop} {i1 : Int32} {i2 : Int32} (h :
  (i2 < (1 : Int32) →
    Q (0 : Int32) w) ∧
  (¬ i2 < (1 : Int32) →
    qAt s d c_Mo_findApart (qQi Q) 92 [some (.ref 72), some (.int i1), some (.int i2), none] [] w)) :
  qAt s d c_Mo_findApart (qQi Q) 87 [some (.ref 72), some (.int i1), some (.int i2), none] [] w := qAt_of u_Mo_findApart [(2, [true, true, true, false]), (9, [true, true, true, true]), (87, [true, true, true, false]), (92, [true, true, true, false]), (133, [true, true, true, false])] 6 h
set_option maxRecDepth 100000 in
theorem A_Mo_findApart_9 {s : Nat × (Nat → Int32)} {d : Nat} {w : qW} {Q : Int32 → qW → Prop} {i1 : Int32} {i2 : Int32} {i3 : Int32} (h :
  (i2 ≤ i3 →
    qAt s d c_Mo_findApart (qQi Q) 2 [some (.ref 72), some (.int i1), some (.int (i2 + (1 : Int32))), none] [] w) ∧
  (¬ i2 ≤ i3 →
    qIn i2 5 ∧
    (qIn (w.1 95 (qIx i2)) 12 ∧
    (qIn i3 5 ∧
    (qIn (w.1 95 (qIx i3)) 12 ∧
    (qCall (some s) d 268 [.long (Int32.toInt64 (w.1 83 (qIx (w.1 95 (qIx i2))))), .long (Int32.toInt64 (w.1 83 (qIx (w.1 95 (qIx i3)))))] w (qQl fun y2 w1 =>
      qIn (((5 : Int32) * i2) + i3) 25 ∧
      (qAt s d c_Mo_findApart (qQi Q) 9 [some (.ref 72), some (.int i1), some (.int i2), some (.int (i3 + (1 : Int32)))] [] (qPutI w1 96 (qIx (((5 : Int32) * i2) + i3)) (Int64.toInt32 y2)))))))))) :
  qAt s d c_Mo_findApart (qQi Q) 9 [some (.ref 72), some (.int i1), some (.int i2), some (.int i3)] [] w := qAt_of u_Mo_findApart [(2, [true, true, true, false]), (9, [true, true, true, true]), (87, [true, true, true, false]), (92, [true, true, true, false]), (133, [true, true, true, false])] 33 h
set_option maxRecDepth 100000 in
theorem A_Mo_findApart_92 {s : Nat × (Nat → Int32)} {d : Nat} {w : qW} {Q : Int32 → qW → Prop} {i1 : Int32} {i2 : Int32} (h :
  qIn i2 5 ∧
  (qIn i2 5 ∧
  (qIn (w.1 95 (qIx i2)) 12 ∧
  (((w.1 83 (qIx (w.1 95 (qIx i2)))) ≤ (w.1 94 (qIx i2)) →
    qAt s d c_Mo_findApart (qQi Q) 133 [some (.ref 72), some (.int i1), some (.int i2), none] [] w) ∧
  (¬ (w.1 83 (qIx (w.1 95 (qIx i2)))) ≤ (w.1 94 (qIx i2)) →
    qCall (some s) d 311 [.ref 72, .int i2] w (qQi fun x2 w1 =>
      (¬ x2 = 0 →
        qAt s d c_Mo_findApart (qQi Q) 133 [some (.ref 72), some (.int i1), some (.int i2), none] [] w1) ∧
      (x2 = 0 →
        qIn i2 5 ∧
        (qIn i2 5 ∧
        (qAt s d c_Mo_findApart (qQi Q) 92 [some (.ref 72), some (.int i1), some (.int i2), none] [] (qPutI w1 94 (qIx i2) ((w1.1 94 (qIx i2)) + (1 : Int32)))))))))))) :
  qAt s d c_Mo_findApart (qQi Q) 92 [some (.ref 72), some (.int i1), some (.int i2), none] [] w := qAt_of u_Mo_findApart [(2, [true, true, true, false]), (9, [true, true, true, true]), (87, [true, true, true, false]), (92, [true, true, true, false]), (133, [true, true, true, false])] 27 h
set_option maxRecDepth 100000 in
theorem A_Mo_findApart_133 {s : Nat × (Nat → Int32)} {d : Nat} {w : qW} {Q : Int32 → qW → Prop} {i1 : Int32} {i2 : Int32} (h :
  qIn i2 5 ∧
  (qIn i2 5 ∧
  (qIn (w.1 95 (qIx i2)) 12 ∧
  ((¬ (w.1 94 (qIx i2)) = (w.1 83 (qIx (w.1 95 (qIx i2)))) →
    (¬ i2 = (i1 - (1 : Int32)) →
      qIn (i2 + (1 : Int32)) 5 ∧
      (qAt s d c_Mo_findApart (qQi Q) 87 [some (.ref 72), some (.int i1), some (.int (i2 + (1 : Int32))), none] [] (qPutI w 94 (qIx (i2 + (1 : Int32))) (0 : Int32)))) ∧
    (i2 = (i1 - (1 : Int32)) →
      Q (1 : Int32) w)) ∧
  ((w.1 94 (qIx i2)) = (w.1 83 (qIx (w.1 95 (qIx i2)))) →
    qIn (i2 + (-1 : Int32)) 5 ∧
    (qIn (i2 + (-1 : Int32)) 5 ∧
    (qAt s d c_Mo_findApart (qQi Q) 87 [some (.ref 72), some (.int i1), some (.int (i2 + (-1 : Int32))), none] [] (qPutI w 94 (qIx (i2 + (-1 : Int32))) ((w.1 94 (qIx (i2 + (-1 : Int32)))) + (1 : Int32)))))))))) :
  qAt s d c_Mo_findApart (qQi Q) 133 [some (.ref 72), some (.int i1), some (.int i2), none] [] w := qAt_of u_Mo_findApart [(2, [true, true, true, false]), (9, [true, true, true, true]), (87, [true, true, true, false]), (92, [true, true, true, false]), (133, [true, true, true, false])] 26 h

set_option maxRecDepth 100000 in
theorem A_Mo_isApart {s : Nat × (Nat → Int32)} {d : Nat} {w : qW} {Q : Int32 → qW → Prop} {i1 : Int32} (h :
  qAt s d c_Mo_isApart (qQi Q) 2 [some (.ref 72), some (.int i1), some (.int (0 : Int32))] [] w) :
  qCall (some s) (d + 1) 311 [.ref 72, .int i1] w (qQi Q) := qCall_of (cd := c_Mo_isApart) (mL := 3) rfl u_Mo_isApart [(2, [true, true, true])] 4 h
set_option maxRecDepth 100000 in
theorem A_Mo_isApart_2 {s : Nat × (Nat → Int32)} {d : Nat} {w : qW} {Q : Int32 → qW → Prop} {i1 : Int32} {i2 : Int32} (h :
  (i1 ≤ i2 →
    Q (1 : Int32) w) ∧
  (¬ i1 ≤ i2 →
    qIn i1 5 ∧
    (qIn i2 5 ∧
    (qIn (((5 : Int32) * i1) + i2) 25 ∧
    (¬ (w.1 96 (qIx (((5 : Int32) * i1) + i2))) = 0 ∧ ((¬ (qRem ((w.1 94 (qIx i1)) - (w.1 94 (qIx i2))) (w.1 96 (qIx (((5 : Int32) * i1) + i2)))) = 0 →
      qAt s d c_Mo_isApart (qQi Q) 2 [some (.ref 72), some (.int i1), some (.int (i2 + (1 : Int32)))] [] w) ∧
    ((qRem ((w.1 94 (qIx i1)) - (w.1 94 (qIx i2))) (w.1 96 (qIx (((5 : Int32) * i1) + i2)))) = 0 →
      Q (0 : Int32) w))))))) :
  qAt s d c_Mo_isApart (qQi Q) 2 [some (.ref 72), some (.int i1), some (.int i2)] [] w := qAt_of u_Mo_isApart [(2, [true, true, true])] 26 h

set_option maxRecDepth 100000 in
theorem A_Mo_heard {s : Nat × (Nat → Int32)} {d : Nat} {w : qW} {Q : Int32 → qW → Prop} {i1 : Int32} {i2 : Int32} (h :
  qCall (some s) d 209 [.int i1, .int (0 : Int32), .int (999999 : Int32)] w (qQi fun x2 w1 =>
    (x2 = 0 →
      Q (-1 : Int32) w1) ∧
    (¬ x2 = 0 →
      qIn (8 : Int32) 262 ∧
      ((¬ (w1.1 73 (qIx (8 : Int32))) = (20 : Int32) →
        qIn (8 : Int32) 262 ∧
        (qIn ((150 : Int32) + ((2 : Int32) * (w1.1 73 (qIx (8 : Int32))))) 262 ∧
        (qIn (8 : Int32) 262 ∧
        ((i2 = 0 →
          qAt s d c_Mo_heard (qQi Q) 72 [some (.ref 72), none, none] [.int (0 : Int32), .int (((150 : Int32) + ((2 : Int32) * ((qPutI w1 73 (qIx ((150 : Int32) + ((2 : Int32) * (w1.1 73 (qIx (8 : Int32)))))) i1).1 73 (qIx (8 : Int32))))) + (1 : Int32)), .ref 73] (qPutI w1 73 (qIx ((150 : Int32) + ((2 : Int32) * (w1.1 73 (qIx (8 : Int32)))))) i1)) ∧
        (¬ i2 = 0 →
          qAt s d c_Mo_heard (qQi Q) 72 [some (.ref 72), none, none] [.int (1 : Int32), .int (((150 : Int32) + ((2 : Int32) * ((qPutI w1 73 (qIx ((150 : Int32) + ((2 : Int32) * (w1.1 73 (qIx (8 : Int32)))))) i1).1 73 (qIx (8 : Int32))))) + (1 : Int32)), .ref 73] (qPutI w1 73 (qIx ((150 : Int32) + ((2 : Int32) * (w1.1 73 (qIx (8 : Int32)))))) i1)))))) ∧
      ((w1.1 73 (qIx (8 : Int32))) = (20 : Int32) →
        Q (-1 : Int32) w1))))) :
  qCall (some s) (d + 1) 312 [.ref 72, .int i1, .int i2] w (qQi Q) := qCall_of (cd := c_Mo_heard) (mL := 3) rfl u_Mo_heard [(72, [true, false, false])] 41 h
set_option maxRecDepth 100000 in
theorem A_Mo_heard_72 {s : Nat × (Nat → Int32)} {d : Nat} {w : qW} {Q : Int32 → qW → Prop} {is0 : Int32} {is1 : Int32} (h :
  qIn is1 262 ∧
  (qIn (8 : Int32) 262 ∧
  (qIn (8 : Int32) 262 ∧
  (qIn (8 : Int32) 262 ∧
  (Q ((qPutI (qPutI w 73 (qIx is1) is0) 73 (qIx (8 : Int32)) (((qPutI w 73 (qIx is1) is0).1 73 (qIx (8 : Int32))) + (1 : Int32))).1 73 (qIx (8 : Int32))) (qPutI (qPutI w 73 (qIx is1) is0) 73 (qIx (8 : Int32)) (((qPutI w 73 (qIx is1) is0).1 73 (qIx (8 : Int32))) + (1 : Int32)))))))) :
  qAt s d c_Mo_heard (qQi Q) 72 [some (.ref 72), none, none] [.int is0, .int is1, .ref 73] w := qAt_of u_Mo_heard [(72, [true, false, false])] 15 h

set_option maxRecDepth 100000 in
theorem A_Mo_fits {s : Nat × (Nat → Int32)} {d : Nat} {w : qW} {Q : Int32 → qW → Prop} {i1 : Int32} {i2 : Int32} (h :
  qCall (some s) d 209 [.int i1, .int (1 : Int32), .int (60 : Int32)] w (qQi fun x2 w1 =>
    (x2 = 0 →
      Q (-1 : Int32) w1) ∧
    (¬ x2 = 0 →
      ((-1 : Int32) ≤ i2 →
        qAt s d c_Mo_fits (qQi Q) 22 [some (.ref 72), some (.int i1), some (.int i2), some (.int (0 : Int32)), some (.int (1 : Int32)), none] [] w1) ∧
      (¬ (-1 : Int32) ≤ i2 →
        Q (-1 : Int32) w1)))) :
  qCall (some s) (d + 1) 313 [.ref 72, .int i1, .int i2] w (qQi Q) := qCall_of (cd := c_Mo_fits) (mL := 6) rfl u_Mo_fits [(22, [true, true, true, true, true, false]), (31, [true, true, true, true, true, true])] 14 h
set_option maxRecDepth 100000 in
theorem A_Mo_fits_22 {s : Nat × (Nat → Int32)} {d : Nat} {w : qW} {Q : Int32 → qW → Prop} {i1 : Int32} {i2 : Int32} {i3 : Int32} {i4 : Int32} (h :
  (i1 < i4 →
    (¬ i2 = (-1 : Int32) →
      Q (-1 : Int32) w) ∧
    (i2 = (-1 : Int32) →
      Q i3 w)) ∧
  (¬ i1 < i4 →
    qAt s d c_Mo_fits (qQi Q) 31 [some (.ref 72), some (.int i1), some (.int i2), some (.int i3), some (.int i4), some (.int (0 : Int32))] [] w)) :
  qAt s d c_Mo_fits (qQi Q) 22 [some (.ref 72), some (.int i1), some (.int i2), some (.int i3), some (.int i4), none] [] w := qAt_of u_Mo_fits [(22, [true, true, true, true, true, false]), (31, [true, true, true, true, true, true])] 10 h
set_option maxRecDepth 100000 in
theorem A_Mo_fits_31 {s : Nat × (Nat → Int32)} {d : Nat} {w : qW} {Q : Int32 → qW → Prop} {i1 : Int32} {i2 : Int32} {i3 : Int32} {i4 : Int32} {i5 : Int32} (h :
  (i4 ≤ i5 →
    qAt s d c_Mo_fits (qQi Q) 22 [some (.ref 72), some (.int i1), some (.int i2), some (.int i3), some (.int (i4 + (1 : Int32))), none] [] w) ∧
  (¬ i4 ≤ i5 →
    qCall (some s) d 314 [.ref 72, .int i4, .int i5] w (qQi fun x2 w1 =>
      (¬ x2 = 0 →
        (¬ i3 = i2 →
          qAt s d c_Mo_fits (qQi Q) 31 [some (.ref 72), some (.int i1), some (.int i2), some (.int (i3 + (1 : Int32))), some (.int i4), some (.int (i5 + (1 : Int32)))] [] w1) ∧
        (i3 = i2 →
          Q (((100 : Int32) * i4) + i5) w1)) ∧
      (x2 = 0 →
        qAt s d c_Mo_fits (qQi Q) 31 [some (.ref 72), some (.int i1), some (.int i2), some (.int i3), some (.int i4), some (.int (i5 + (1 : Int32)))] [] w1)))) :
  qAt s d c_Mo_fits (qQi Q) 31 [some (.ref 72), some (.int i1), some (.int i2), some (.int i3), some (.int i4), some (.int i5)] [] w := qAt_of u_Mo_fits [(22, [true, true, true, true, true, false]), (31, [true, true, true, true, true, true])] 18 h

set_option maxRecDepth 100000 in
theorem A_Mo_fitsAll {s : Nat × (Nat → Int32)} {d : Nat} {w : qW} {Q : Int32 → qW → Prop} {i1 : Int32} {i2 : Int32} (h :
  qAt s d c_Mo_fitsAll (qQi Q) 2 [some (.ref 72), some (.int i1), some (.int i2), some (.int (0 : Int32)), none, none] [] w) :
  qCall (some s) (d + 1) 314 [.ref 72, .int i1, .int i2] w (qQi Q) := qCall_of (cd := c_Mo_fitsAll) (mL := 6) rfl u_Mo_fitsAll [(2, [true, true, true, true, false, false]), (47, [true, true, true, true, false, false])] 4 h
set_option maxRecDepth 100000 in
theorem A_Mo_fitsAll_2 {s : Nat × (Nat → Int32)} {d : Nat} {w : qW} {Q : Int32 → qW → Prop} {i1 : Int32} {i2 : Int32} {i3 : Int32} (h :
  qIn (8 : Int32) 262 ∧
  (((w.1 73 (qIx (8 : Int32))) ≤ i3 →
    Q (1 : Int32) w) ∧
  (¬ (w.1 73 (qIx (8 : Int32))) ≤ i3 →
    qIn ((150 : Int32) + ((2 : Int32) * i3)) 262 ∧
    (((w.1 73 (qIx ((150 : Int32) + ((2 : Int32) * i3)))) < i2 →
      qAt s d c_Mo_fitsAll (qQi Q) 47 [some (.ref 72), some (.int i1), some (.int i2), some (.int i3), none, none] [.int (0 : Int32)] w) ∧
    (¬ (w.1 73 (qIx ((150 : Int32) + ((2 : Int32) * i3)))) < i2 →
      ¬ i1 = 0 ∧ ((¬ (qRem ((w.1 73 (qIx ((150 : Int32) + ((2 : Int32) * i3)))) - i2) i1) = 0 →
        qAt s d c_Mo_fitsAll (qQi Q) 47 [some (.ref 72), some (.int i1), some (.int i2), some (.int i3), none, none] [.int (0 : Int32)] w) ∧
      ((qRem ((w.1 73 (qIx ((150 : Int32) + ((2 : Int32) * i3)))) - i2) i1) = 0 →
        qAt s d c_Mo_fitsAll (qQi Q) 47 [some (.ref 72), some (.int i1), some (.int i2), some (.int i3), none, none] [.int (1 : Int32)] w))))))) :
  qAt s d c_Mo_fitsAll (qQi Q) 2 [some (.ref 72), some (.int i1), some (.int i2), some (.int i3), none, none] [] w := qAt_of u_Mo_fitsAll [(2, [true, true, true, true, false, false]), (47, [true, true, true, true, false, false])] 28 h
set_option maxRecDepth 100000 in
theorem A_Mo_fitsAll_47 {s : Nat × (Nat → Int32)} {d : Nat} {w : qW} {Q : Int32 → qW → Prop} {i1 : Int32} {i2 : Int32} {i3 : Int32} {is0 : Int32} (h :
  qIn (((150 : Int32) + ((2 : Int32) * i3)) + (1 : Int32)) 262 ∧
  ((¬ (w.1 73 (qIx (((150 : Int32) + ((2 : Int32) * i3)) + (1 : Int32)))) = (1 : Int32) →
    (is0 = (0 : Int32) →
      qAt s d c_Mo_fitsAll (qQi Q) 2 [some (.ref 72), some (.int i1), some (.int i2), some (.int (i3 + (1 : Int32))), none, none] [] w) ∧
    (¬ is0 = (0 : Int32) →
      Q (0 : Int32) w)) ∧
  ((w.1 73 (qIx (((150 : Int32) + ((2 : Int32) * i3)) + (1 : Int32)))) = (1 : Int32) →
    (is0 = (1 : Int32) →
      qAt s d c_Mo_fitsAll (qQi Q) 2 [some (.ref 72), some (.int i1), some (.int i2), some (.int (i3 + (1 : Int32))), none, none] [] w) ∧
    (¬ is0 = (1 : Int32) →
      Q (0 : Int32) w)))) :
  qAt s d c_Mo_fitsAll (qQi Q) 47 [some (.ref 72), some (.int i1), some (.int i2), some (.int i3), none, none] [.int is0] w := qAt_of u_Mo_fitsAll [(2, [true, true, true, true, false, false]), (47, [true, true, true, true, false, false])] 21 h

set_option maxRecDepth 100000 in
theorem A_Mo_who {s : Nat × (Nat → Int32)} {d : Nat} {w : qW} {Q : Int32 → qW → Prop}  (h :
  qCall (some s) d 253 [.ref 72] w (qQv fun w1 =>
    qIn (0 : Int32) 262 ∧
    (qAt s d c_Mo_who (qQi Q) 17 [some (.ref 72), some (.int ((qShl (1 : Int32) (w1.1 73 (qIx (0 : Int32)))) - (1 : Int32))), some (.int (0 : Int32)), none] [] w1))) :
  qCall (some s) (d + 1) 315 [.ref 72] w (qQi Q) := qCall_of (cd := c_Mo_who) (mL := 4) rfl u_Mo_who [(17, [true, true, true, false])] 15 h
set_option maxRecDepth 100000 in
theorem A_Mo_who_17 {s : Nat × (Nat → Int32)} {d : Nat} {w : qW} {Q : Int32 → qW → Prop} {i1 : Int32} {i2 : Int32} (h :
  qIn (8 : Int32) 262 ∧
  (((w.1 73 (qIx (8 : Int32))) ≤ i2 →
    Q i1 w) ∧
  (¬ (w.1 73 (qIx (8 : Int32))) ≤ i2 →
    qIn ((150 : Int32) + ((2 : Int32) * i2)) 262 ∧
    (qCall (some s) d 285 [.ref 72, .long (Int32.toInt64 (w.1 73 (qIx ((150 : Int32) + ((2 : Int32) * i2)))))] w (qQi fun x2 w1 =>
      qIn (((150 : Int32) + ((2 : Int32) * i2)) + (1 : Int32)) 262 ∧
      ((¬ (w1.1 73 (qIx (((150 : Int32) + ((2 : Int32) * i2)) + (1 : Int32)))) = (1 : Int32) →
        qAt s d c_Mo_who (qQi Q) 17 [some (.ref 72), some (.int (i1 &&& (x2 ^^^ (-1 : Int32)))), some (.int (i2 + (1 : Int32))), none] [] w1) ∧
      ((w1.1 73 (qIx (((150 : Int32) + ((2 : Int32) * i2)) + (1 : Int32)))) = (1 : Int32) →
        qAt s d c_Mo_who (qQi Q) 17 [some (.ref 72), some (.int (i1 &&& x2)), some (.int (i2 + (1 : Int32))), none] [] w1))))))) :
  qAt s d c_Mo_who (qQi Q) 17 [some (.ref 72), some (.int i1), some (.int i2), none] [] w := qAt_of u_Mo_who [(17, [true, true, true, false])] 40 h

set_option maxRecDepth 100000 in
theorem A_Mo_bits {s : Nat × (Nat → Int32)} {d : Nat} {w : qW} {Q : Int64 → qW → Prop} {i1 : Int32} {l2 : Int64} (h :
  qCall (some s) d 211 [.ref 72, .int i1] w (qQi fun x2 w1 =>
    (x2 = 0 →
      Q (-1 : Int64) w1) ∧
    (¬ x2 = 0 →
      ((lg_cmp l2 (0 : Int64)) < 0 →
        Q (-1 : Int64) w1) ∧
      (¬ (lg_cmp l2 (0 : Int64)) < 0 →
        ((lg_cmp l2 (100000000000000 : Int64)) ≤ 0 →
          qCall (some s) d 253 [.ref 72] w1 (qQv fun w3 =>
            qAt s d c_Mo_bits (qQl Q) 36 [some (.ref 72), some (.int i1), some (.long l2), none, some (.long (0 : Int64)), none, some (.int (0 : Int32))] [] w3)) ∧
        (¬ (lg_cmp l2 (100000000000000 : Int64)) ≤ 0 →
          Q (-1 : Int64) w1))))) :
  qCall (some s) (d + 1) 316 [.ref 72, .int i1, .long l2] w (qQl Q) := qCall_of (cd := c_Mo_bits) (mL := 7) rfl u_Mo_bits [(36, [true, true, true, false, true, false, true])] 20 h
set_option maxRecDepth 100000 in
theorem A_Mo_bits_36 {s : Nat × (Nat → Int32)} {d : Nat} {w : qW} {Q : Int64 → qW → Prop} {i1 : Int32} {l2 : Int64} {l4 : Int64} {i6 : Int32} (h :
  ((60 : Int32) ≤ i6 →
    Q l4 w) ∧
  (¬ (60 : Int32) ≤ i6 →
    qCall (some s) d 262 [.ref 72, .int i1, .long (l2 + (Int32.toInt64 i6))] w (qQi fun x2 w1 =>
      (x2 = 0 →
        qAt s d c_Mo_bits (qQl Q) 36 [some (.ref 72), some (.int i1), some (.long l2), none, some (.long (l4 ||| (0 : Int64))), none, some (.int (i6 + (1 : Int32)))] [] w1) ∧
      (¬ x2 = 0 →
        qAt s d c_Mo_bits (qQl Q) 36 [some (.ref 72), some (.int i1), some (.long l2), none, some (.long (l4 ||| (qLshl (1 : Int64) i6))), none, some (.int (i6 + (1 : Int32)))] [] w1)))) :
  qAt s d c_Mo_bits (qQl Q) 36 [some (.ref 72), some (.int i1), some (.long l2), none, some (.long l4), none, some (.int i6)] [] w := qAt_of u_Mo_bits [(36, [true, true, true, false, true, false, true])] 22 h

set_option maxRecDepth 100000 in
theorem A_Mo_other {s : Nat × (Nat → Int32)} {d : Nat} {w : qW} {Q : Int32 → qW → Prop} {i1 : Int32} {i2 : Int32} {i3 : Int32} {i4 : Int32} (h :
  qCall (some s) d 211 [.ref 72, .int i1] w (qQi fun x2 w1 =>
    (x2 = 0 →
      Q (-1 : Int32) w1) ∧
    (¬ x2 = 0 →
      qCall (some s) d 213 [.int i2] w1 (qQi fun x4 w3 =>
        (x4 = 0 →
          Q (-1 : Int32) w3) ∧
        (¬ x4 = 0 →
          qCall (some s) d 209 [.int i3, .int (1 : Int32), .int (100000 : Int32)] w3 (qQi fun x6 w5 =>
            (x6 = 0 →
              Q (-1 : Int32) w5) ∧
            (¬ x6 = 0 →
              qCall (some s) d 209 [.int i4, .int (0 : Int32), .int (1 : Int32)] w5 (qQi fun x8 w7 =>
                (¬ x8 = 0 →
                  qCall (some s) d 253 [.ref 72] w7 (qQv fun w9 =>
                    qAt s d c_Mo_other (qQi Q) 47 [some (.ref 72), some (.int i1), some (.int i2), some (.int i3), some (.int i4), some (.int (0 : Int32)), some (.int (0 : Int32)), none, none] [] w9)) ∧
                (x8 = 0 →
                  Q (-1 : Int32) w7))))))))) :
  qCall (some s) (d + 1) 317 [.ref 72, .int i1, .int i2, .int i3, .int i4] w (qQi Q) := qCall_of (cd := c_Mo_other) (mL := 9) rfl u_Mo_other [(47, [true, true, true, true, true, true, true, false, false])] 25 h
set_option maxRecDepth 100000 in
theorem A_Mo_other_47 {s : Nat × (Nat → Int32)} {d : Nat} {w : qW} {Q : Int32 → qW → Prop} {i1 : Int32} {i2 : Int32} {i3 : Int32} {i4 : Int32} {i5 : Int32} {i6 : Int32} (h :
  (i3 ≤ i6 →
    Q i5 w) ∧
  (¬ i3 ≤ i6 →
    qCall (some s) d 263 [.ref 72, .int i1, .long (Int32.toInt64 i6), .int i2] w (qQi fun x2 w1 =>
      qCall (some s) d 262 [.ref 72, .int i1, .long (Int32.toInt64 i6)] w1 (qQi fun x4 w3 =>
        (¬ i4 = 0 →
          (x4 = 0 →
            qAt s d c_Mo_other (qQi Q) 47 [some (.ref 72), some (.int i1), some (.int i2), some (.int i3), some (.int i4), some (.int (i5 + (0 : Int32))), some (.int (i6 + (1 : Int32))), none, none] [] w3) ∧
          (¬ x4 = 0 →
            (¬ x2 = 0 →
              qAt s d c_Mo_other (qQi Q) 47 [some (.ref 72), some (.int i1), some (.int i2), some (.int i3), some (.int i4), some (.int (i5 + (0 : Int32))), some (.int (i6 + (1 : Int32))), none, none] [] w3) ∧
            (x2 = 0 →
              qAt s d c_Mo_other (qQi Q) 47 [some (.ref 72), some (.int i1), some (.int i2), some (.int i3), some (.int i4), some (.int (i5 + (1 : Int32))), some (.int (i6 + (1 : Int32))), none, none] [] w3))) ∧
        (i4 = 0 →
          (x2 = 0 →
            qAt s d c_Mo_other (qQi Q) 47 [some (.ref 72), some (.int i1), some (.int i2), some (.int i3), some (.int i4), some (.int (i5 + (0 : Int32))), some (.int (i6 + (1 : Int32))), none, none] [] w3) ∧
          (¬ x2 = 0 →
            (¬ x4 = 0 →
              qAt s d c_Mo_other (qQi Q) 47 [some (.ref 72), some (.int i1), some (.int i2), some (.int i3), some (.int i4), some (.int (i5 + (0 : Int32))), some (.int (i6 + (1 : Int32))), none, none] [] w3) ∧
            (x4 = 0 →
              qAt s d c_Mo_other (qQi Q) 47 [some (.ref 72), some (.int i1), some (.int i2), some (.int i3), some (.int i4), some (.int (i5 + (1 : Int32))), some (.int (i6 + (1 : Int32))), none, none] [] w3))))))) :
  qAt s d c_Mo_other (qQi Q) 47 [some (.ref 72), some (.int i1), some (.int i2), some (.int i3), some (.int i4), some (.int i5), some (.int i6), none, none] [] w := qAt_of u_Mo_other [(47, [true, true, true, true, true, true, true, false, false])] 32 h

set_option maxRecDepth 100000 in
theorem A_Mo_hush {s : Nat × (Nat → Int32)} {d : Nat} {w : qW} {Q : Int64 → qW → Prop} {l1 : Int64} {i3 : Int32} {i4 : Int32} (h :
  ((100000 : Int32) < i3 →
    Q (-1 : Int64) w) ∧
  (¬ (100000 : Int32) < i3 →
    qCall (some s) d 281 [.long l1, .long (Int32.toInt64 i3)] w (qQi fun x2 w1 =>
      (x2 = 0 →
        Q (-1 : Int64) w1) ∧
      (¬ x2 = 0 →
        qCall (some s) d 209 [.int i4, .int (0 : Int32), .int (3 : Int32)] w1 (qQi fun x4 w3 =>
          (¬ x4 = 0 →
            qCall (some s) d 253 [.ref 72] w3 (qQv fun w5 =>
              qAt s d c_Mo_hush (qQl Q) 53 [some (.ref 72), some (.long l1), none, some (.int i3), some (.int i4), some (.int (0 : Int32)), some (.long (-1 : Int64)), none, some (.int (0 : Int32)), some (.int (-1 : Int32)), some (.long l1), none, some (.long l1), none, none] [] w5)) ∧
          (x4 = 0 →
            Q (-1 : Int64) w3)))))) :
  qCall (some s) (d + 1) 318 [.ref 72, .long l1, .int i3, .int i4] w (qQl Q) := qCall_of (cd := c_Mo_hush) (mL := 15) rfl u_Mo_hush [(53, [true, true, false, true, true, true, true, false, true, true, true, false, true, false, false]), (87, [true, true, false, true, true, true, true, false, false, true, true, false, true, false, true]), (110, [true, true, false, true, true, true, true, false, true, true, true, false, true, false, true])] 29 h
set_option maxRecDepth 100000 in
theorem A_Mo_hush_53 {s : Nat × (Nat → Int32)} {d : Nat} {w : qW} {Q : Int64 → qW → Prop} {l1 : Int64} {i3 : Int32} {i4 : Int32} {i5 : Int32} {l6 : Int64} {i8 : Int32} {i9 : Int32} {l10 : Int64} {l12 : Int64} (h :
  (0 ≤ (lg_cmp l12 (l1 + (Int32.toInt64 i3))) →
    (¬ i4 = 0 →
      (¬ i4 = (1 : Int32) →
        (¬ i4 = (2 : Int32) →
          Q (Int32.toInt64 i9) w) ∧
        (i4 = (2 : Int32) →
          Q l10 w)) ∧
      (i4 = (1 : Int32) →
        Q l6 w)) ∧
    (i4 = 0 →
      Q (Int32.toInt64 i5) w)) ∧
  (¬ 0 ≤ (lg_cmp l12 (l1 + (Int32.toInt64 i3))) →
    qCall (some s) d 285 [.ref 72, .long l12] w (qQi fun x2 w1 =>
      qCall (some s) d 296 [.int x2] w1 (qQi fun x4 w3 =>
        (¬ x4 = 0 →
          qAt s d c_Mo_hush (qQl Q) 87 [some (.ref 72), some (.long l1), none, some (.int i3), some (.int i4), some (.int i5), some (.long l6), none, none, some (.int i9), some (.long l10), none, some (.long l12), none, some (.int x4)] [.int (0 : Int32)] w3) ∧
        (x4 = 0 →
          qAt s d c_Mo_hush (qQl Q) 87 [some (.ref 72), some (.long l1), none, some (.int i3), some (.int i4), some (.int i5), some (.long l6), none, none, some (.int i9), some (.long l10), none, some (.long l12), none, some (.int x4)] [.int (i8 + (1 : Int32))] w3))))) :
  qAt s d c_Mo_hush (qQl Q) 53 [some (.ref 72), some (.long l1), none, some (.int i3), some (.int i4), some (.int i5), some (.long l6), none, some (.int i8), some (.int i9), some (.long l10), none, some (.long l12), none, none] [] w := qAt_of u_Mo_hush [(53, [true, true, false, true, true, true, true, false, true, true, true, false, true, false, false]), (87, [true, true, false, true, true, true, true, false, false, true, true, false, true, false, true]), (110, [true, true, false, true, true, true, true, false, true, true, true, false, true, false, true])] 20 h
set_option maxRecDepth 100000 in
theorem A_Mo_hush_87 {s : Nat × (Nat → Int32)} {d : Nat} {w : qW} {Q : Int64 → qW → Prop} {l1 : Int64} {i3 : Int32} {i4 : Int32} {i5 : Int32} {l6 : Int64} {i9 : Int32} {l10 : Int64} {l12 : Int64} {i14 : Int32} {is0 : Int32} (h :
  (is0 ≤ i5 →
    qAt s d c_Mo_hush (qQl Q) 110 [some (.ref 72), some (.long l1), none, some (.int i3), some (.int i4), some (.int i5), some (.long l6), none, some (.int is0), some (.int i9), some (.long l10), none, some (.long l12), none, some (.int i14)] [] w) ∧
  (¬ is0 ≤ i5 →
    qAt s d c_Mo_hush (qQl Q) 110 [some (.ref 72), some (.long l1), none, some (.int i3), some (.int i4), some (.int is0), some (.long ((l12 - (Int32.toInt64 is0)) + (1 : Int64))), none, some (.int is0), some (.int i9), some (.long l10), none, some (.long l12), none, some (.int i14)] [] w)) :
  qAt s d c_Mo_hush (qQl Q) 87 [some (.ref 72), some (.long l1), none, some (.int i3), some (.int i4), some (.int i5), some (.long l6), none, none, some (.int i9), some (.long l10), none, some (.long l12), none, some (.int i14)] [.int is0] w := qAt_of u_Mo_hush [(53, [true, true, false, true, true, true, true, false, true, true, true, false, true, false, false]), (87, [true, true, false, true, true, true, true, false, false, true, true, false, true, false, true]), (110, [true, true, false, true, true, true, true, false, true, true, true, false, true, false, true])] 15 h
set_option maxRecDepth 100000 in
theorem A_Mo_hush_110 {s : Nat × (Nat → Int32)} {d : Nat} {w : qW} {Q : Int64 → qW → Prop} {l1 : Int64} {i3 : Int32} {i4 : Int32} {i5 : Int32} {l6 : Int64} {i8 : Int32} {i9 : Int32} {l10 : Int64} {l12 : Int64} {i14 : Int32} (h :
  (i9 < i14 →
    qAt s d c_Mo_hush (qQl Q) 53 [some (.ref 72), some (.long l1), none, some (.int i3), some (.int i4), some (.int i5), some (.long l6), none, some (.int i8), some (.int i14), some (.long l12), none, some (.long (l12 + (1 : Int64))), none, none] [] w) ∧
  (¬ i9 < i14 →
    qAt s d c_Mo_hush (qQl Q) 53 [some (.ref 72), some (.long l1), none, some (.int i3), some (.int i4), some (.int i5), some (.long l6), none, some (.int i8), some (.int i9), some (.long l10), none, some (.long (l12 + (1 : Int64))), none, none] [] w)) :
  qAt s d c_Mo_hush (qQl Q) 110 [some (.ref 72), some (.long l1), none, some (.int i3), some (.int i4), some (.int i5), some (.long l6), none, some (.int i8), some (.int i9), some (.long l10), none, some (.long l12), none, some (.int i14)] [] w := qAt_of u_Mo_hush [(53, [true, true, false, true, true, true, true, false, true, true, true, false, true, false, false]), (87, [true, true, false, true, true, true, true, false, false, true, true, false, true, false, true]), (110, [true, true, false, true, true, true, true, false, true, true, true, false, true, false, true])] 14 h

set_option maxRecDepth 100000 in
theorem A_Mo_child {s : Nat × (Nat → Int32)} {d : Nat} {w : qW} {Q : Int32 → qW → Prop} {i1 : Int32} {i2 : Int32} {i3 : Int32} {i4 : Int32} (h :
  qCall (some s) d 211 [.ref 72, .int i1] w (qQi fun x2 w1 =>
    (x2 = 0 →
      Q (-1 : Int32) w1) ∧
    (¬ x2 = 0 →
      qCall (some s) d 211 [.ref 72, .int i2] w1 (qQi fun x4 w3 =>
        (x4 = 0 →
          Q (-1 : Int32) w3) ∧
        (¬ x4 = 0 →
          (i1 = i2 →
            Q (-1 : Int32) w3) ∧
          (¬ i1 = i2 →
            qCall (some s) d 209 [.int i4, .int (1 : Int32), .int (999 : Int32)] w3 (qQi fun x6 w5 =>
              (x6 = 0 →
                Q (-1 : Int32) w5) ∧
              (¬ x6 = 0 →
                qIn (0 : Int32) 262 ∧
                (qCall (some s) d 209 [.int i3, .int (0 : Int32), .int ((qShl (1 : Int32) (w5.1 73 (qIx (0 : Int32)))) - (1 : Int32))] w5 (qQi fun x8 w7 =>
                  (x8 = 0 →
                    Q (-1 : Int32) w7) ∧
                  (¬ x8 = 0 →
                    qCall (some s) d 270 [.int i3, .int i1] w7 (qQi fun x10 w9 =>
                      (¬ x10 = 0 →
                        Q (-1 : Int32) w9) ∧
                      (x10 = 0 →
                        qCall (some s) d 270 [.int i3, .int i2] w9 (qQi fun x12 w11 =>
                          (x12 = 0 →
                            qCall (some s) d 253 [.ref 72] w11 (qQv fun w13 =>
                              qAt s d c_Mo_child (qQi Q) 76 [some (.ref 72), some (.int i1), some (.int i2), some (.int i3), some (.int i4), some (.int (1 : Int32)), none] [] w13)) ∧
                          (¬ x12 = 0 →
                            Q (-1 : Int32) w11))))))))))))))) :
  qCall (some s) (d + 1) 319 [.ref 72, .int i1, .int i2, .int i3, .int i4] w (qQi Q) := qCall_of (cd := c_Mo_child) (mL := 7) rfl u_Mo_child [(76, [true, true, true, true, true, true, false]), (86, [true, true, true, true, true, true, true])] 42 h
set_option maxRecDepth 100000 in
theorem A_Mo_child_76 {s : Nat × (Nat → Int32)} {d : Nat} {w : qW} {Q : Int32 → qW → Prop} {i1 : Int32} {i2 : Int32} {i3 : Int32} {i4 : Int32} {i5 : Int32} (h :
  (i4 < i5 →
    Q (-1 : Int32) w) ∧
  (¬ i4 < i5 →
    qAt s d c_Mo_child (qQi Q) 86 [some (.ref 72), some (.int i1), some (.int i2), some (.int i3), some (.int i4), some (.int i5), some (.int (0 : Int32))] [] w)) :
  qAt s d c_Mo_child (qQi Q) 76 [some (.ref 72), some (.int i1), some (.int i2), some (.int i3), some (.int i4), some (.int i5), none] [] w := qAt_of u_Mo_child [(76, [true, true, true, true, true, true, false]), (86, [true, true, true, true, true, true, true])] 7 h
set_option maxRecDepth 100000 in
theorem A_Mo_child_86 {s : Nat × (Nat → Int32)} {d : Nat} {w : qW} {Q : Int32 → qW → Prop} {i1 : Int32} {i2 : Int32} {i3 : Int32} {i4 : Int32} {i5 : Int32} {i6 : Int32} (h :
  (i5 ≤ i6 →
    qAt s d c_Mo_child (qQi Q) 76 [some (.ref 72), some (.int i1), some (.int i2), some (.int i3), some (.int i4), some (.int (i5 + (1 : Int32))), none] [] w) ∧
  (¬ i5 ≤ i6 →
    qCall (some s) d 320 [.ref 72, .int i5, .int i6, .int i1] w (qQi fun x2 w1 =>
      (x2 = 0 →
        qAt s d c_Mo_child (qQi Q) 86 [some (.ref 72), some (.int i1), some (.int i2), some (.int i3), some (.int i4), some (.int i5), some (.int (i6 + (1 : Int32)))] [] w1) ∧
      (¬ x2 = 0 →
        qCall (some s) d 320 [.ref 72, .int i5, .int i6, .int i2] w1 (qQi fun x4 w3 =>
          (x4 = 0 →
            qAt s d c_Mo_child (qQi Q) 86 [some (.ref 72), some (.int i1), some (.int i2), some (.int i3), some (.int i4), some (.int i5), some (.int (i6 + (1 : Int32)))] [] w3) ∧
          (¬ x4 = 0 →
            qCall (some s) d 321 [.ref 72, .int i5, .int i6, .int i3] w3 (qQi fun x6 w5 =>
              (x6 = 0 →
                qAt s d c_Mo_child (qQi Q) 86 [some (.ref 72), some (.int i1), some (.int i2), some (.int i3), some (.int i4), some (.int i5), some (.int (i6 + (1 : Int32)))] [] w5) ∧
              (¬ x6 = 0 →
                Q (((1000 : Int32) * i5) + i6) w5)))))))) :
  qAt s d c_Mo_child (qQi Q) 86 [some (.ref 72), some (.int i1), some (.int i2), some (.int i3), some (.int i4), some (.int i5), some (.int i6)] [] w := qAt_of u_Mo_child [(76, [true, true, true, true, true, true, false]), (86, [true, true, true, true, true, true, true])] 28 h

set_option maxRecDepth 100000 in
theorem A_Mo_meets {s : Nat × (Nat → Int32)} {d : Nat} {w : qW} {Q : Int32 → qW → Prop} {i1 : Int32} {i2 : Int32} {i3 : Int32} (h :
  qIn i3 12 ∧
  (qIn i3 12 ∧
  (qCall (some s) d 268 [.long (Int32.toInt64 i1), .long (Int32.toInt64 (w.1 83 (qIx i3)))] w (qQl fun y2 w1 =>
    ¬ y2 = 0 ∧ ((¬ (lg_cmp (qRemL (Int32.toInt64 (i2 - (w.1 84 (qIx i3)))) y2) (0 : Int64)) = 0 →
      Q (0 : Int32) w1) ∧
    ((lg_cmp (qRemL (Int32.toInt64 (i2 - (w.1 84 (qIx i3)))) y2) (0 : Int64)) = 0 →
      Q (1 : Int32) w1)))))) :
  qCall (some s) (d + 1) 320 [.ref 72, .int i1, .int i2, .int i3] w (qQi Q) := qCall_of (cd := c_Mo_meets) (mL := 4) rfl u_Mo_meets [] 23 h

set_option maxRecDepth 100000 in
theorem A_Mo_isChild {s : Nat × (Nat → Int32)} {d : Nat} {w : qW} {Q : Int32 → qW → Prop} {i1 : Int32} {i2 : Int32} {i3 : Int32} (h :
  qAt s d c_Mo_isChild (qQi Q) 3 [some (.ref 72), some (.int i1), some (.int i2), some (.int i3), some (.int (0 : Int32))] [] w) :
  qCall (some s) (d + 1) 321 [.ref 72, .int i1, .int i2, .int i3] w (qQi Q) := qCall_of (cd := c_Mo_isChild) (mL := 5) rfl u_Mo_isChild [(3, [true, true, true, true, true])] 4 h
set_option maxRecDepth 100000 in
theorem A_Mo_isChild_3 {s : Nat × (Nat → Int32)} {d : Nat} {w : qW} {Q : Int32 → qW → Prop} {i1 : Int32} {i2 : Int32} {i3 : Int32} {i4 : Int32} (h :
  qIn (0 : Int32) 262 ∧
  (((w.1 73 (qIx (0 : Int32))) ≤ i4 →
    Q (1 : Int32) w) ∧
  (¬ (w.1 73 (qIx (0 : Int32))) ≤ i4 →
    qCall (some s) d 270 [.int i3, .int i4] w (qQi fun x2 w1 =>
      (x2 = 0 →
        qAt s d c_Mo_isChild (qQi Q) 3 [some (.ref 72), some (.int i1), some (.int i2), some (.int i3), some (.int (i4 + (1 : Int32)))] [] w1) ∧
      (¬ x2 = 0 →
        qCall (some s) d 320 [.ref 72, .int i1, .int i2, .int i4] w1 (qQi fun x4 w3 =>
          (x4 = 0 →
            qAt s d c_Mo_isChild (qQi Q) 3 [some (.ref 72), some (.int i1), some (.int i2), some (.int i3), some (.int (i4 + (1 : Int32)))] [] w3) ∧
          (¬ x4 = 0 →
            Q (0 : Int32) w3))))))) :
  qAt s d c_Mo_isChild (qQi Q) 3 [some (.ref 72), some (.int i1), some (.int i2), some (.int i3), some (.int i4)] [] w := qAt_of u_Mo_isChild [(3, [true, true, true, true, true])] 20 h

set_option maxRecDepth 100000 in
theorem A_Mo_pairs {s : Nat × (Nat → Int32)} {d : Nat} {w : qW} {Q : Int32 → qW → Prop} {i1 : Int32} {i2 : Int32} {i3 : Int32} (h :
  qCall (some s) d 265 [.ref 72, .int i1] w (qQi fun x2 w1 =>
    (x2 = 0 →
      Q (-1 : Int32) w1) ∧
    (¬ x2 = 0 →
      qCall (some s) d 296 [.int i1] w1 (qQi fun x4 w3 =>
        ((8 : Int32) < x4 →
          Q (-1 : Int32) w3) ∧
        (¬ (8 : Int32) < x4 →
          qCall (some s) d 296 [.int i1] w3 (qQi fun x6 w5 =>
            ¬ (2 : Int32) = 0 ∧ (((qRem x6 (2 : Int32)) = (1 : Int32) →
              Q (-1 : Int32) w5) ∧
            (¬ (qRem x6 (2 : Int32)) = (1 : Int32) →
              qCall (some s) d 209 [.int i2, .int (1 : Int32), .int (100000 : Int32)] w5 (qQi fun x8 w7 =>
                (x8 = 0 →
                  Q (-1 : Int32) w7) ∧
                (¬ x8 = 0 →
                  (i3 = (-1 : Int32) →
                    qAt s d c_Mo_pairs (qQi Q) 60 [some (.ref 72), some (.int i1), some (.int i2), some (.int i3), none, none, none, none, none] [] w7) ∧
                  (¬ i3 = (-1 : Int32) →
                    qCall (some s) d 211 [.ref 72, .int i3] w7 (qQi fun x10 w9 =>
                      (x10 = 0 →
                        Q (-1 : Int32) w9) ∧
                      (¬ x10 = 0 →
                        qCall (some s) d 270 [.int i1, .int i3] w9 (qQi fun x12 w11 =>
                          (¬ x12 = 0 →
                            qAt s d c_Mo_pairs (qQi Q) 60 [some (.ref 72), some (.int i1), some (.int i2), some (.int i3), none, none, none, none, none] [] w11) ∧
                          (x12 = 0 →
                            Q (-1 : Int32) w11))))))))))))))) :
  qCall (some s) (d + 1) 322 [.ref 72, .int i1, .int i2, .int i3] w (qQi Q) := qCall_of (cd := c_Mo_pairs) (mL := 9) rfl u_Mo_pairs [(60, [true, true, true, true, false, false, false, false, false]), (83, [true, false, false, true, false, false, true, false, false])] 33 h
set_option maxRecDepth 100000 in
theorem A_Mo_pairs_60 {s : Nat × (Nat → Int32)} {d : Nat} {w : qW} {Q : Int32 → qW → Prop} {i1 : Int32} {i2 : Int32} {i3 : Int32} (h :
  qCall (some s) d 253 [.ref 72] w (qQv fun w1 =>
    qCall (some s) d 323 [.ref 72, .int i1, .int i2] w1 (qQl fun y3 w2 =>
      (0 ≤ i3 →
        qAt s d c_Mo_pairs (qQi Q) 83 [some (.ref 72), none, none, some (.int i3), none, none, some (.int i1), none, none] [] w2) ∧
      (¬ 0 ≤ i3 →
        Q (Int64.toInt32 y3) w2)))) :
  qAt s d c_Mo_pairs (qQi Q) 60 [some (.ref 72), some (.int i1), some (.int i2), some (.int i3), none, none, none, none, none] [] w := qAt_of u_Mo_pairs [(60, [true, true, true, true, false, false, false, false, false]), (83, [true, false, false, true, false, false, true, false, false])] 13 h
set_option maxRecDepth 100000 in
theorem A_Mo_pairs_83 {s : Nat × (Nat → Int32)} {d : Nat} {w : qW} {Q : Int32 → qW → Prop} {i3 : Int32} {i6 : Int32} (h :
  qCall (some s) d 289 [.int i6] w (qQi fun x2 w1 =>
    qIn i6 4096 ∧
    ((x2 = i3 →
      (¬ x2 = i3 →
        Q x2 w1) ∧
      (x2 = i3 →
        Q (w1.1 98 (qIx i6)) w1)) ∧
    (¬ x2 = i3 →
      (¬ (w1.1 98 (qIx i6)) = i3 →
        qAt s d c_Mo_pairs (qQi Q) 83 [some (.ref 72), none, none, some (.int i3), none, none, some (.int ((i6 &&& ((qShl (1 : Int32) x2) ^^^ (-1 : Int32))) &&& ((qShl (1 : Int32) (w1.1 98 (qIx i6))) ^^^ (-1 : Int32)))), none, none] [] w1) ∧
      ((w1.1 98 (qIx i6)) = i3 →
        (¬ x2 = i3 →
          Q x2 w1) ∧
        (x2 = i3 →
          Q (w1.1 98 (qIx i6)) w1)))))) :
  qAt s d c_Mo_pairs (qQi Q) 83 [some (.ref 72), none, none, some (.int i3), none, none, some (.int i6), none, none] [] w := qAt_of u_Mo_pairs [(60, [true, true, true, true, false, false, false, false, false]), (83, [true, false, false, true, false, false, true, false, false])] 31 h

set_option maxRecDepth 100000 in
theorem A_Mo_pairsOf {s : Nat × (Nat → Int32)} {d : Nat} {w : qW} {Q : Int64 → qW → Prop} {i1 : Int32} {i2 : Int32} (h :
  qAt s d c_Mo_pairsOf (qQl Q) 2 [some (.ref 72), some (.int i1), some (.int i2), some (.int (0 : Int32)), none] [] w) :
  qCall (some s) (d + 1) 323 [.ref 72, .int i1, .int i2] w (qQl Q) := qCall_of (cd := c_Mo_pairsOf) (mL := 5) rfl u_Mo_pairsOf [(2, [true, true, true, true, false]), (17, [true, true, true, true, true]), (97, [true, true, false, true, false])] 4 h
set_option maxRecDepth 100000 in
theorem A_Mo_pairsOf_2 {s : Nat × (Nat → Int32)} {d : Nat} {w : qW} {Q : Int64 → qW → Prop} {i1 : Int32} {i2 : Int32} {i3 : Int32} (h :
  qIn (0 : Int32) 262 ∧
  (((w.1 73 (qIx (0 : Int32))) ≤ i3 →
    qIn (0 : Int32) 4096 ∧
    (qAt s d c_Mo_pairsOf (qQl Q) 97 [some (.ref 72), some (.int i1), none, some (.int (1 : Int32)), none] [] (qPutL w 97 (qIx (0 : Int32)) (0 : Int64)))) ∧
  (¬ (w.1 73 (qIx (0 : Int32))) ≤ i3 →
    qAt s d c_Mo_pairsOf (qQl Q) 17 [some (.ref 72), some (.int i1), some (.int i2), some (.int i3), some (.int (i3 + (1 : Int32)))] [] w))) :
  qAt s d c_Mo_pairsOf (qQl Q) 2 [some (.ref 72), some (.int i1), some (.int i2), some (.int i3), none] [] w := qAt_of u_Mo_pairsOf [(2, [true, true, true, true, false]), (17, [true, true, true, true, true]), (97, [true, true, false, true, false])] 15 h
set_option maxRecDepth 100000 in
theorem A_Mo_pairsOf_97 {s : Nat × (Nat → Int32)} {d : Nat} {w : qW} {Q : Int64 → qW → Prop} {i1 : Int32} {i3 : Int32} (h :
  (i1 < i3 →
    qIn i1 4096 ∧
    (Q (w.2.1 97 (qIx i1)) w)) ∧
  (¬ i1 < i3 →
    (¬ (i3 &&& (i1 ^^^ (-1 : Int32))) = 0 →
      qAt s d c_Mo_pairsOf (qQl Q) 97 [some (.ref 72), some (.int i1), none, some (.int (i3 + (1 : Int32))), none] [] w) ∧
    ((i3 &&& (i1 ^^^ (-1 : Int32))) = 0 →
      qCall (some s) d 296 [.int i3] w (qQi fun x2 w1 =>
        ¬ (2 : Int32) = 0 ∧ ((¬ (qRem x2 (2 : Int32)) = 0 →
          qAt s d c_Mo_pairsOf (qQl Q) 97 [some (.ref 72), some (.int i1), none, some (.int (i3 + (1 : Int32))), none] [] w1) ∧
        ((qRem x2 (2 : Int32)) = 0 →
          qCall (some s) d 324 [.ref 72, .int i3] w1 (qQv fun w3 =>
            qAt s d c_Mo_pairsOf (qQl Q) 97 [some (.ref 72), some (.int i1), none, some (.int (i3 + (1 : Int32))), none] [] w3))))))) :
  qAt s d c_Mo_pairsOf (qQl Q) 97 [some (.ref 72), some (.int i1), none, some (.int i3), none] [] w := qAt_of u_Mo_pairsOf [(2, [true, true, true, true, false]), (17, [true, true, true, true, true]), (97, [true, true, false, true, false])] 21 h
set_option maxRecDepth 100000 in
theorem A_Mo_pairsOf_17 {s : Nat × (Nat → Int32)} {d : Nat} {w : qW} {Q : Int64 → qW → Prop} {i1 : Int32} {i2 : Int32} {i3 : Int32} {i4 : Int32} (h :
  qIn (0 : Int32) 262 ∧
  (((w.1 73 (qIx (0 : Int32))) ≤ i4 →
    qAt s d c_Mo_pairsOf (qQl Q) 2 [some (.ref 72), some (.int i1), some (.int i2), some (.int (i3 + (1 : Int32))), none] [] w) ∧
  (¬ (w.1 73 (qIx (0 : Int32))) ≤ i4 →
    qCall (some s) d 270 [.int i1, .int i3] w (qQi fun x2 w1 =>
      (x2 = 0 →
        qIn (((12 : Int32) * i3) + i4) 144 ∧
        (qAt s d c_Mo_pairsOf (qQl Q) 17 [some (.ref 72), some (.int i1), some (.int i2), some (.int i3), some (.int (i4 + (1 : Int32)))] [] (qPutL w1 99 (qIx (((12 : Int32) * i3) + i4)) (0 : Int64)))) ∧
      (¬ x2 = 0 →
        qCall (some s) d 270 [.int i1, .int i4] w1 (qQi fun x4 w3 =>
          (x4 = 0 →
            qIn (((12 : Int32) * i3) + i4) 144 ∧
            (qAt s d c_Mo_pairsOf (qQl Q) 17 [some (.ref 72), some (.int i1), some (.int i2), some (.int i3), some (.int (i4 + (1 : Int32)))] [] (qPutL w3 99 (qIx (((12 : Int32) * i3) + i4)) (0 : Int64)))) ∧
          (¬ x4 = 0 →
            qCall (some s) d 282 [.ref 72, .int ((qShl (1 : Int32) i3) ||| (qShl (1 : Int32) i4)), .long (0 : Int64), .long (Int32.toInt64 i2)] w3 (qQl fun y6 w5 =>
              qIn (((12 : Int32) * i3) + i4) 144 ∧
              (qAt s d c_Mo_pairsOf (qQl Q) 17 [some (.ref 72), some (.int i1), some (.int i2), some (.int i3), some (.int (i4 + (1 : Int32)))] [] (qPutL w5 99 (qIx (((12 : Int32) * i3) + i4)) y6)))))))))) :
  qAt s d c_Mo_pairsOf (qQl Q) 17 [some (.ref 72), some (.int i1), some (.int i2), some (.int i3), some (.int i4)] [] w := qAt_of u_Mo_pairsOf [(2, [true, true, true, true, false]), (17, [true, true, true, true, true]), (97, [true, true, false, true, false])] 39 h

set_option maxRecDepth 100000 in
theorem A_Mo_pairUp {s : Nat × (Nat → Int32)} {d : Nat} {w : qW} {Q : qW → Prop} {i1 : Int32} (h :
  qCall (some s) d 289 [.int i1] w (qQi fun x2 w1 =>
    qIn i1 4096 ∧
    (qAt s d c_Mo_pairUp (qQv Q) 18 [some (.ref 72), some (.int i1), some (.int x2), some (.int (x2 + (1 : Int32))), none, none] [] (qPutL w1 97 (qIx i1) (-1 : Int64))))) :
  qCall (some s) (d + 1) 324 [.ref 72, .int i1] w (qQv Q) := qCall_of (cd := c_Mo_pairUp) (mL := 6) rfl u_Mo_pairUp [(18, [true, true, true, true, false, false])] 14 h
set_option maxRecDepth 100000 in
theorem A_Mo_pairUp_18 {s : Nat × (Nat → Int32)} {d : Nat} {w : qW} {Q : qW → Prop} {i1 : Int32} {i2 : Int32} {i3 : Int32} (h :
  qIn (0 : Int32) 262 ∧
  (((w.1 73 (qIx (0 : Int32))) ≤ i3 →
    Q w) ∧
  (¬ (w.1 73 (qIx (0 : Int32))) ≤ i3 →
    qCall (some s) d 270 [.int i1, .int i3] w (qQi fun x2 w1 =>
      (¬ x2 = 0 →
        qIn (((12 : Int32) * i2) + i3) 144 ∧
        (qIn ((i1 &&& ((qShl (1 : Int32) i2) ^^^ (-1 : Int32))) &&& ((qShl (1 : Int32) i3) ^^^ (-1 : Int32))) 4096 ∧
        (qIn i1 4096 ∧
        ((0 < (lg_cmp ((w1.2.1 99 (qIx (((12 : Int32) * i2) + i3))) + (w1.2.1 97 (qIx ((i1 &&& ((qShl (1 : Int32) i2) ^^^ (-1 : Int32))) &&& ((qShl (1 : Int32) i3) ^^^ (-1 : Int32)))))) (w1.2.1 97 (qIx i1))) →
          qIn i1 4096 ∧
          (qIn i1 4096 ∧
          (qAt s d c_Mo_pairUp (qQv Q) 18 [some (.ref 72), some (.int i1), some (.int i2), some (.int (i3 + (1 : Int32))), none, none] [] (qPutI (qPutL w1 97 (qIx i1) ((w1.2.1 99 (qIx (((12 : Int32) * i2) + i3))) + (w1.2.1 97 (qIx ((i1 &&& ((qShl (1 : Int32) i2) ^^^ (-1 : Int32))) &&& ((qShl (1 : Int32) i3) ^^^ (-1 : Int32))))))) 98 (qIx i1) i3)))) ∧
        (¬ 0 < (lg_cmp ((w1.2.1 99 (qIx (((12 : Int32) * i2) + i3))) + (w1.2.1 97 (qIx ((i1 &&& ((qShl (1 : Int32) i2) ^^^ (-1 : Int32))) &&& ((qShl (1 : Int32) i3) ^^^ (-1 : Int32)))))) (w1.2.1 97 (qIx i1))) →
          qAt s d c_Mo_pairUp (qQv Q) 18 [some (.ref 72), some (.int i1), some (.int i2), some (.int (i3 + (1 : Int32))), none, none] [] w1))))) ∧
      (x2 = 0 →
        qAt s d c_Mo_pairUp (qQv Q) 18 [some (.ref 72), some (.int i1), some (.int i2), some (.int (i3 + (1 : Int32))), none, none] [] w1))))) :
  qAt s d c_Mo_pairUp (qQv Q) 18 [some (.ref 72), some (.int i1), some (.int i2), some (.int i3), none, none] [] w := qAt_of u_Mo_pairUp [(18, [true, true, true, true, false, false])] 57 h

set_option maxRecDepth 100000 in
theorem A_Mo_image {s : Nat × (Nat → Int32)} {d : Nat} {w : qW} {Q : Int32 → qW → Prop}  (h :
  qCall (some s) d 206 [.ref 73, .ref 74] w (qQv fun w1 =>
    qAt s d c_Mo_image (qQi Q) 13 [some (.ref 72), some (.int (0 : Int32))] [] w1)) :
  qCall (some s) (d + 1) 325 [.ref 72] w (qQi Q) := qCall_of (cd := c_Mo_image) (mL := 2) rfl u_Mo_image [(13, [true, true])] 9 h
set_option maxRecDepth 100000 in
theorem A_Mo_image_13 {s : Nat × (Nat → Int32)} {d : Nat} {w : qW} {Q : Int32 → qW → Prop} {i1 : Int32} (h :
  ((30 : Int32) ≤ i1 →
    qIn (0 : Int32) 262 ∧
    (Q (w.1 73 (qIx (0 : Int32))) w)) ∧
  (¬ (30 : Int32) ≤ i1 →
    qIn i1 30 ∧
    (qIn i1 30 ∧
    (qAt s d c_Mo_image (qQi Q) 13 [some (.ref 72), some (.int (i1 + (1 : Int32)))] [] (qPutL w 76 (qIx i1) (w.2.1 75 (qIx i1))))))) :
  qAt s d c_Mo_image (qQi Q) 13 [some (.ref 72), some (.int i1)] [] w := qAt_of u_Mo_image [(13, [true, true])] 15 h

set_option maxRecDepth 100000 in
theorem A_Mo_back {s : Nat × (Nat → Int32)} {d : Nat} {w : qW} {Q : Int32 → qW → Prop}  (h :
  qCall (some s) d 206 [.ref 74, .ref 73] w (qQv fun w1 =>
    qAt s d c_Mo_back (qQi Q) 13 [some (.ref 72), some (.int (0 : Int32))] [] w1)) :
  qCall (some s) (d + 1) 326 [.ref 72] w (qQi Q) := qCall_of (cd := c_Mo_back) (mL := 2) rfl u_Mo_back [(13, [true, true])] 9 h
set_option maxRecDepth 100000 in
theorem A_Mo_back_13 {s : Nat × (Nat → Int32)} {d : Nat} {w : qW} {Q : Int32 → qW → Prop} {i1 : Int32} (h :
  ((30 : Int32) ≤ i1 →
    qIn (0 : Int32) 262 ∧
    (Q (w.1 73 (qIx (0 : Int32))) w)) ∧
  (¬ (30 : Int32) ≤ i1 →
    qIn i1 30 ∧
    (qIn i1 30 ∧
    (qAt s d c_Mo_back (qQi Q) 13 [some (.ref 72), some (.int (i1 + (1 : Int32)))] [] (qPutL w 75 (qIx i1) (w.2.1 76 (qIx i1))))))) :
  qAt s d c_Mo_back (qQi Q) 13 [some (.ref 72), some (.int i1)] [] w := qAt_of u_Mo_back [(13, [true, true])] 15 h

set_option maxRecDepth 100000 in
theorem A_Mo_about {s : Nat × (Nat → Int32)} {d : Nat} {w : qW} {Q : Int32 → qW → Prop} {i1 : Int32} (h :
  qIn (0 : Int32) 262 ∧
  (qCall (some s) d 209 [.int i1, .int (100 : Int32), .int ((99 : Int32) + (w.1 73 (qIx (0 : Int32))))] w (qQi fun x2 w1 =>
    (x2 = 0 →
      qIn (0 : Int32) 262 ∧
      (qCall (some s) d 209 [.int i1, .int (200 : Int32), .int ((199 : Int32) + (w1.1 73 (qIx (0 : Int32))))] w1 (qQi fun x4 w3 =>
        (x4 = 0 →
          qIn (0 : Int32) 262 ∧
          (qCall (some s) d 209 [.int i1, .int (300 : Int32), .int ((299 : Int32) + (w3.1 73 (qIx (0 : Int32))))] w3 (qQi fun x6 w5 =>
            (x6 = 0 →
              (i1 = (0 : Int32) →
                qIn (0 : Int32) 262 ∧
                (Q (w5.1 73 (qIx (0 : Int32))) w5)) ∧
              (¬ i1 = (0 : Int32) →
              (i1 = (1 : Int32) →
                qIn (1 : Int32) 262 ∧
                (Q (w5.1 73 (qIx (1 : Int32))) w5)) ∧
              (¬ i1 = (1 : Int32) →
              (i1 = (2 : Int32) →
                qIn (2 : Int32) 262 ∧
                (Q (w5.1 73 (qIx (2 : Int32))) w5)) ∧
              (¬ i1 = (2 : Int32) →
              (i1 = (3 : Int32) →
                qIn (3 : Int32) 262 ∧
                (Q (w5.1 73 (qIx (3 : Int32))) w5)) ∧
              (¬ i1 = (3 : Int32) →
              (i1 = (4 : Int32) →
                qIn (4 : Int32) 262 ∧
                (Q (w5.1 73 (qIx (4 : Int32))) w5)) ∧
              (¬ i1 = (4 : Int32) →
              (i1 = (5 : Int32) →
                qIn (5 : Int32) 262 ∧
                (Q (w5.1 73 (qIx (5 : Int32))) w5)) ∧
              (¬ i1 = (5 : Int32) →
              (i1 = (6 : Int32) →
                qIn (6 : Int32) 262 ∧
                (Q (w5.1 73 (qIx (6 : Int32))) w5)) ∧
              (¬ i1 = (6 : Int32) →
              (i1 = (7 : Int32) →
                qIn (7 : Int32) 262 ∧
                (Q (w5.1 73 (qIx (7 : Int32))) w5)) ∧
              (¬ i1 = (7 : Int32) →
              (i1 = (8 : Int32) →
                qIn (8 : Int32) 262 ∧
                (Q (w5.1 73 (qIx (8 : Int32))) w5)) ∧
              (¬ i1 = (8 : Int32) →
              (i1 = (9 : Int32) →
                Q (w5.1 72 6) w5) ∧
              (¬ i1 = (9 : Int32) →
              Q (-2 : Int32) w5))))))))))) ∧
            (¬ x6 = 0 →
              qIn (((40 : Int32) + i1) - (300 : Int32)) 262 ∧
              (Q (w5.1 73 (qIx (((40 : Int32) + i1) - (300 : Int32)))) w5))))) ∧
        (¬ x4 = 0 →
          qIn (((10 : Int32) + ((2 : Int32) * (i1 - (200 : Int32)))) + (1 : Int32)) 262 ∧
          (Q (w3.1 73 (qIx (((10 : Int32) + ((2 : Int32) * (i1 - (200 : Int32)))) + (1 : Int32)))) w3))))) ∧
    (¬ x2 = 0 →
      qIn ((10 : Int32) + ((2 : Int32) * (i1 - (100 : Int32)))) 262 ∧
      (Q (w1.1 73 (qIx ((10 : Int32) + ((2 : Int32) * (i1 - (100 : Int32)))))) w1))))) :
  qCall (some s) (d + 1) 327 [.ref 72, .int i1] w (qQi Q) := qCall_of (cd := c_Mo_about) (mL := 2) rfl u_Mo_about [] 40 h
