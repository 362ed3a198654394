/-! Pieces of the four texts, as one each. -/
def txc (c : Nat) : Prop := c = 27 ∨ c = 32 ∨ c = 37 ∨ c = 42
theorem G_Voices_isShut {s : Nat × (Nat → Int32)} {d : Nat} {w : qW} {Q : Int32 → qW → Prop} {i2 : Int32} {i3 : Int32} {c : Nat} (hc : txc c) (h :
  qIn (0 : Int32) 7 ∧
  (qIn i2 12 ∧
  (qIn (1 : Int32) 7 ∧
  (qIn i2 12 ∧
  (qIn (2 : Int32) 7 ∧
  (qIn (3 : Int32) 7 ∧
  (qAt s d c_Voices_isShut (qQi Q) 59 [some (.ref 50), some (.ref c), none, none, some (.int (0 : Int32))] [] (qPutI (qPutI (qPutI (qPutI w 48 (qIx (0 : Int32)) i3) 48 (qIx (1 : Int32)) (w.1 3 (qIx i2))) 48 (qIx (2 : Int32)) (w.1 4 (qIx i2))) 48 (qIx (3 : Int32)) i2)))))))) :
  qCall (some s) (d + 1) 19 [.ref 50, .ref c, .int i2, .int i3] w (qQi Q) := by
  rcases hc with rfl | rfl | rfl | rfl
  · exact A_Voices_isShut_27 h
  · exact A_Voices_isShut_32 h
  · exact A_Voices_isShut_37 h
  · exact A_Voices_isShut_42 h

theorem G_Voices_isShut_59 {s : Nat × (Nat → Int32)} {d : Nat} {w : qW} {Q : Int32 → qW → Prop} {i4 : Int32} {c : Nat} (hc : txc c) (h :
  ((w.1 c 0) ≤ i4 →
    Q (0 : Int32) w) ∧
  (¬ (w.1 c 0) ≤ i4 →
    qIn i4 24 ∧
    ((¬ (w.1 (c + 1) (qIx i4)) = (1 : Int32) →
      qAt s d c_Voices_isShut (qQi Q) 59 [some (.ref 50), some (.ref c), none, none, some (.int (i4 + (1 : Int32)))] [] w) ∧
    ((w.1 (c + 1) (qIx i4)) = (1 : Int32) →
      qIn i4 24 ∧
      (qIn i4 24 ∧
      (qCall (some s) d 20 [.ref 47, .ref c, .int (w.1 (c + 2) (qIx i4)), .int (w.1 (c + 3) (qIx i4))] w (qQi fun x2 w1 =>
        (x2 = 0 →
          qAt s d c_Voices_isShut (qQi Q) 59 [some (.ref 50), some (.ref c), none, none, some (.int (i4 + (1 : Int32)))] [] w1) ∧
        (¬ x2 = 0 →
          Q (1 : Int32) w1)))))))) :
  qAt s d c_Voices_isShut (qQi Q) 59 [some (.ref 50), some (.ref c), none, none, some (.int i4)] [] w := by
  rcases hc with rfl | rfl | rfl | rfl
  · exact A_Voices_isShut_27_59 h
  · exact A_Voices_isShut_32_59 h
  · exact A_Voices_isShut_37_59 h
  · exact A_Voices_isShut_42_59 h

theorem G_Machine_run {s : Nat × (Nat → Int32)} {d : Nat} {w : qW} {Q : Int32 → qW → Prop} {i2 : Int32} {i3 : Int32} {c : Nat} (hc : txc c) (h :
  qCall (some s) d 21 [.int (0 : Int32), .int i2] w (qQi fun x2 w1 =>
    qAt s d c_Machine_run (qQi Q) 10 [some (.ref 47), some (.ref c), none, some (.int i3), some (.int (0 : Int32)), some (.int x2), none] [] w1)) :
  qCall (some s) (d + 1) 20 [.ref 47, .ref c, .int i2, .int i3] w (qQi Q) := by
  rcases hc with rfl | rfl | rfl | rfl
  · exact A_Machine_run_27 h
  · exact A_Machine_run_32 h
  · exact A_Machine_run_37 h
  · exact A_Machine_run_42 h

theorem G_Machine_run_10 {s : Nat × (Nat → Int32)} {d : Nat} {w : qW} {Q : Int32 → qW → Prop} {i3 : Int32} {i4 : Int32} {i5 : Int32} {c : Nat} (hc : txc c) (h :
  (i3 ≤ i5 →
    (i4 ≤ 0 →
      Q (0 : Int32) w) ∧
    (¬ i4 ≤ 0 →
      qIn (0 : Int32) 64 ∧
      (Q (w.1 49 (qIx (0 : Int32))) w))) ∧
  (¬ i3 ≤ i5 →
    ((300 : Int32) ≤ i5 →
      (i4 ≤ 0 →
        Q (0 : Int32) w) ∧
      (¬ i4 ≤ 0 →
        qIn (0 : Int32) 64 ∧
        (Q (w.1 49 (qIx (0 : Int32))) w))) ∧
    (¬ (300 : Int32) ≤ i5 →
      qIn i5 300 ∧
      (((10007 : Int32) ≤ (w.1 (c + 4) (qIx i5)) →
        ((w.1 (c + 4) (qIx i5)) = (10023 : Int32) →
          qAt s d c_Machine_run (qQi Q) 101 [some (.ref 47), some (.ref c), none, some (.int i3), some (.int i4), some (.int i5), some (.int (w.1 (c + 4) (qIx i5)))] [] w) ∧
        (¬ (w.1 (c + 4) (qIx i5)) = (10023 : Int32) →
          (¬ (w.1 (c + 4) (qIx i5)) = (10024 : Int32) →
            (i4 ≤ (1 : Int32) →
              qAt s d c_Machine_run (qQi Q) 10 [some (.ref 47), some (.ref c), none, some (.int i3), some (.int i4), some (.int (i5 + (1 : Int32))), none] [] w) ∧
            (¬ i4 ≤ (1 : Int32) →
              qIn ((i4 + (-1 : Int32)) - (1 : Int32)) 64 ∧
              (qIn (i4 + (-1 : Int32)) 64 ∧
              (qCall (some s) d 22 [.int (w.1 (c + 4) (qIx i5)), .int (w.1 49 (qIx ((i4 + (-1 : Int32)) - (1 : Int32)))), .int (w.1 49 (qIx (i4 + (-1 : Int32))))] w (qQi fun x2 w1 =>
                qIn ((i4 + (-1 : Int32)) - (1 : Int32)) 64 ∧
                (qAt s d c_Machine_run (qQi Q) 10 [some (.ref 47), some (.ref c), none, some (.int i3), some (.int (i4 + (-1 : Int32))), some (.int (i5 + (1 : Int32))), none] [] (qPutI w1 49 (qIx ((i4 + (-1 : Int32)) - (1 : Int32))) x2))))))) ∧
          ((w.1 (c + 4) (qIx i5)) = (10024 : Int32) →
            qAt s d c_Machine_run (qQi Q) 101 [some (.ref 47), some (.ref c), none, some (.int i3), some (.int i4), some (.int i5), some (.int (w.1 (c + 4) (qIx i5)))] [] w))) ∧
      (¬ (10007 : Int32) ≤ (w.1 (c + 4) (qIx i5)) →
        ((64 : Int32) ≤ i4 →
          qAt s d c_Machine_run (qQi Q) 10 [some (.ref 47), some (.ref c), none, some (.int i3), some (.int i4), some (.int (i5 + (1 : Int32))), none] [] w) ∧
        (¬ (64 : Int32) ≤ i4 →
          ((10000 : Int32) ≤ (w.1 (c + 4) (qIx i5)) →
            qIn ((w.1 (c + 4) (qIx i5)) - (10000 : Int32)) 7 ∧
            (qIn i4 64 ∧
            (qAt s d c_Machine_run (qQi Q) 10 [some (.ref 47), some (.ref c), none, some (.int i3), some (.int (i4 + (1 : Int32))), some (.int (i5 + (1 : Int32))), none] [] (qPutI w 49 (qIx i4) (w.1 48 (qIx ((w.1 (c + 4) (qIx i5)) - (10000 : Int32)))))))) ∧
          (¬ (10000 : Int32) ≤ (w.1 (c + 4) (qIx i5)) →
            qIn i4 64 ∧
            (qAt s d c_Machine_run (qQi Q) 10 [some (.ref 47), some (.ref c), none, some (.int i3), some (.int (i4 + (1 : Int32))), some (.int (i5 + (1 : Int32))), none] [] (qPutI w 49 (qIx i4) (w.1 (c + 4) (qIx i5))))))))))) :
  qAt s d c_Machine_run (qQi Q) 10 [some (.ref 47), some (.ref c), none, some (.int i3), some (.int i4), some (.int i5), none] [] w := by
  rcases hc with rfl | rfl | rfl | rfl
  · exact A_Machine_run_27_10 h
  · exact A_Machine_run_32_10 h
  · exact A_Machine_run_37_10 h
  · exact A_Machine_run_42_10 h

theorem G_Machine_run_101 {s : Nat × (Nat → Int32)} {d : Nat} {w : qW} {Q : Int32 → qW → Prop} {i3 : Int32} {i4 : Int32} {i5 : Int32} {i6 : Int32} {c : Nat} (hc : txc c) (h :
  (i4 ≤ 0 →
    qAt s d c_Machine_run (qQi Q) 10 [some (.ref 47), some (.ref c), none, some (.int i3), some (.int i4), some (.int (i5 + (1 : Int32))), none] [] w) ∧
  (¬ i4 ≤ 0 →
    (¬ i6 = (10023 : Int32) →
      qIn (i4 - (1 : Int32)) 64 ∧
      (qIn (i4 - (1 : Int32)) 64 ∧
      (qAt s d c_Machine_run (qQi Q) 10 [some (.ref 47), some (.ref c), none, some (.int i3), some (.int i4), some (.int (i5 + (1 : Int32))), none] [] (qPutI w 49 (qIx (i4 - (1 : Int32))) (-(w.1 49 (qIx (i4 - (1 : Int32))))))))) ∧
    (i6 = (10023 : Int32) →
      qIn (i4 - (1 : Int32)) 64 ∧
      (qIn (i4 - (1 : Int32)) 64 ∧
      (qAt s d c_Machine_run (qQi Q) 10 [some (.ref 47), some (.ref c), none, some (.int i3), some (.int i4), some (.int (i5 + (1 : Int32))), none] [] (qPutI w 49 (qIx (i4 - (1 : Int32))) ((1 : Int32) - (w.1 49 (qIx (i4 - (1 : Int32))))))))))) :
  qAt s d c_Machine_run (qQi Q) 101 [some (.ref 47), some (.ref c), none, some (.int i3), some (.int i4), some (.int i5), some (.int i6)] [] w := by
  rcases hc with rfl | rfl | rfl | rfl
  · exact A_Machine_run_27_101 h
  · exact A_Machine_run_32_101 h
  · exact A_Machine_run_37_101 h
  · exact A_Machine_run_42_101 h
