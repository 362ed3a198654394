/-! The law's loop: every answer of the class is the reference's. By a program of mine. -/
section Law
variable {s : Nat × (Nat → Int32)} {d i : Nat} {w : qW} {Q : Int32 → qW → Prop} {N K : vS} {T : Nat → vT} {Z : vZ}
theorem eI {x : Int32} {A B : Prop} (h : A) : (x = x → A) ∧ (¬ x = x → B) := ⟨fun _ => h, fun z => absurd rfl z⟩
theorem eL {y : Int64} {A B : Prop} (h : A) : (lg_cmp y y = 0 → A) ∧ (¬ lg_cmp y y = 0 → B) := ⟨fun _ => h, fun z => absurd ((lg_eq y y).mpr rfl) z⟩
theorem eI2 {x y : Int32} {A B : Prop} (e : x = y) (h : A) : (x = y → A) ∧ (¬ x = y → B) := ⟨fun _ => h, fun z => absurd e z⟩
theorem eL2 {x y : Int64} {A B : Prop} (e : x = y) (h : A) : (lg_cmp x y = 0 → A) ∧ (¬ lg_cmp x y = 0 → B) := ⟨fun _ => h, fun z => absurd ((lg_eq x y).mpr e) z⟩
theorem rM.k9 {w' : qW} (h : rM w N K T Z) (f : fr (fun c => 79 ≤ c) w w') : rM w' N K T Z := h.keep f (fun c _ _ => by omega)
theorem w79 {w w' : qW} (f : fr (fun c => 79 ≤ c) w w') : fr (fun c => 72 ≤ c) w w' := fr_wk f (fun c hc => by omega)
abbrev lNx (s : Nat × (Nat → Int32)) (d i : Nat) (Q : Int32 → qW → Prop) : Prop := ∀ (w : qW) (N K : vS) (T : Nat → vT) (Z : vZ), rX w N K T Z → rM w N K T Z → qAt s d c_LawL (qQi Q) 1877 [some (.ref 0), some (.ref 1), some (.ref 72), some (.int (nI i))] [] w
set_option maxHeartbeats 400000 in
theorem L_person (hd : 40 ≤ d) (q1 : qIn (nI i + (1 : Int32)) s.1) (q2 : qIn (nI i + (2 : Int32)) s.1) (q3 : qIn (nI i + (3 : Int32)) s.1) (q4 : qIn (nI i + (4 : Int32)) s.1) (q5 : qIn (nI i + (5 : Int32)) s.1) (nx : lNx s d i Q) (hX : rX w N K T Z) (hM : rM w N K T Z) : qAt s d c_LawL (qQi Q) 208 [some (.ref 0), some (.ref 1), some (.ref 72), some (.int (nI i))] [] w := by
  refine A_LawL_208 ⟨q1, q2, ?_⟩
  refine c_person (by omega) hX (fun w1 v x1 f1 => ?_) (fun n => ?_)
  · exact ⟨q1, q2, m_person (by omega) (hM.lo f1) (fun w3 v3 m3 f3 => eI (nx _ _ _ _ _ (x1.hi f3) m3)) (fun n3 => absurd v n3)⟩
  · exact ⟨q1, q2, m_person (by omega) hM (fun w3 v3 m3 f3 => absurd v3 n) (fun n3 => eI (nx _ _ _ _ _ hX hM))⟩
set_option maxHeartbeats 400000 in
theorem L_change (hd : 40 ≤ d) (q1 : qIn (nI i + (1 : Int32)) s.1) (q2 : qIn (nI i + (2 : Int32)) s.1) (q3 : qIn (nI i + (3 : Int32)) s.1) (q4 : qIn (nI i + (4 : Int32)) s.1) (q5 : qIn (nI i + (5 : Int32)) s.1) (nx : lNx s d i Q) (hX : rX w N K T Z) (hM : rM w N K T Z) : qAt s d c_LawL (qQi Q) 241 [some (.ref 0), some (.ref 1), some (.ref 72), some (.int (nI i))] [] w := by
  refine A_LawL_241 ⟨q1, q2, q3, ?_⟩
  refine c_change (by omega) hX (fun w1 v x1 f1 => ?_) (fun n => ?_)
  · exact ⟨q1, q2, q3, m_change (by omega) (hM.lo f1) (fun w3 v3 m3 f3 => eI (nx _ _ _ _ _ (x1.hi f3) m3)) (fun n3 => absurd v n3)⟩
  · exact ⟨q1, q2, q3, m_change (by omega) hM (fun w3 v3 m3 f3 => absurd v3 n) (fun n3 => eI (nx _ _ _ _ _ hX hM))⟩
set_option maxHeartbeats 400000 in
theorem L_day (hd : 40 ≤ d) (q1 : qIn (nI i + (1 : Int32)) s.1) (q2 : qIn (nI i + (2 : Int32)) s.1) (q3 : qIn (nI i + (3 : Int32)) s.1) (q4 : qIn (nI i + (4 : Int32)) s.1) (q5 : qIn (nI i + (5 : Int32)) s.1) (nx : lNx s d i Q) (hX : rX w N K T Z) (hM : rM w N K T Z) : qAt s d c_LawL (qQi Q) 284 [some (.ref 0), some (.ref 1), some (.ref 72), some (.int (nI i))] [] w := by
  refine A_LawL_284 ⟨q1, ?_⟩
  refine c_day (by omega) hX (fun w1 v x1 f1 => ?_) (fun n => ?_)
  · exact ⟨q1, m_day (by omega) (hM.lo f1) (fun w3 v3 m3 f3 => eI (nx _ _ _ _ _ (x1.hi f3) m3)) (fun n3 => absurd v n3)⟩
  · exact ⟨q1, m_day (by omega) hM (fun w3 v3 m3 f3 => absurd v3 n) (fun n3 => eI (nx _ _ _ _ _ hX hM))⟩
set_option maxHeartbeats 400000 in
theorem L_clock (hd : 40 ≤ d) (q1 : qIn (nI i + (1 : Int32)) s.1) (q2 : qIn (nI i + (2 : Int32)) s.1) (q3 : qIn (nI i + (3 : Int32)) s.1) (q4 : qIn (nI i + (4 : Int32)) s.1) (q5 : qIn (nI i + (5 : Int32)) s.1) (nx : lNx s d i Q) (hX : rX w N K T Z) (hM : rM w N K T Z) : qAt s d c_LawL (qQi Q) 307 [some (.ref 0), some (.ref 1), some (.ref 72), some (.int (nI i))] [] w := by
  refine A_LawL_307 ⟨q1, ?_⟩
  refine c_clock (by omega) hX (fun w1 v x1 f1 => ?_) (fun n => ?_)
  · exact ⟨q1, m_clock (by omega) (hM.lo f1) (fun w3 v3 m3 f3 => eI (nx _ _ _ _ _ (x1.hi f3) m3)) (fun n3 => absurd v n3)⟩
  · exact ⟨q1, m_clock (by omega) hM (fun w3 v3 m3 f3 => absurd v3 n) (fun n3 => eI (nx _ _ _ _ _ hX hM))⟩
set_option maxHeartbeats 400000 in
theorem L_near (hd : 40 ≤ d) (q1 : qIn (nI i + (1 : Int32)) s.1) (q2 : qIn (nI i + (2 : Int32)) s.1) (q3 : qIn (nI i + (3 : Int32)) s.1) (q4 : qIn (nI i + (4 : Int32)) s.1) (q5 : qIn (nI i + (5 : Int32)) s.1) (nx : lNx s d i Q) (hX : rX w N K T Z) (hM : rM w N K T Z) : qAt s d c_LawL (qQi Q) 330 [some (.ref 0), some (.ref 1), some (.ref 72), some (.int (nI i))] [] w := by
  have two : ∀ b : Int32, (s.2 (qIx (nI i + (3 : Int32))) = 0 → b = 0) → (¬ s.2 (qIx (nI i + (3 : Int32))) = 0 → b = 1) → qAt s d c_LawL (qQi Q) 354 [some (.ref 0), some (.ref 1), some (.ref 72), some (.int (nI i))] [.int b, .int (s.2 (qIx (nI i + (2 : Int32)))), .int (s.2 (qIx (nI i + (1 : Int32)))), .ref 1] w := by
    intro b h0 h1
    refine A_LawL_354 (c_near (by omega) hX (fun w1 v x1 f1 => ?_) (fun n => ?_))
    · refine ⟨q1, q2, q3, fun g => ?_, fun g => ?_⟩
      · rw [h0 g] at x1
        exact m_near (by omega) (hM.lo f1) (fun w3 v3 m3 f3 => eI (nx _ _ _ _ _ (x1.hi f3) m3)) (fun n3 => absurd v n3)
      · rw [h1 g] at x1
        exact m_near (by omega) (hM.lo f1) (fun w3 v3 m3 f3 => eI (nx _ _ _ _ _ (x1.hi f3) m3)) (fun n3 => absurd v n3)
    · exact ⟨q1, q2, q3, fun g => m_near (by omega) hM (fun w3 v3 m3 f3 => absurd v3 n) (fun n3 => eI (nx _ _ _ _ _ hX hM)), fun g => m_near (by omega) hM (fun w3 v3 m3 f3 => absurd v3 n) (fun n3 => eI (nx _ _ _ _ _ hX hM))⟩
  refine A_LawL_330 ?_
  exact ⟨q1, q2, q3, fun g => two _ (fun _ => rfl) (fun z => absurd g z), fun g => two _ (fun z => absurd z g) (fun _ => rfl)⟩
set_option maxHeartbeats 400000 in
theorem L_feed (hd : 40 ≤ d) (q1 : qIn (nI i + (1 : Int32)) s.1) (q2 : qIn (nI i + (2 : Int32)) s.1) (q3 : qIn (nI i + (3 : Int32)) s.1) (q4 : qIn (nI i + (4 : Int32)) s.1) (q5 : qIn (nI i + (5 : Int32)) s.1) (nx : lNx s d i Q) (hX : rX w N K T Z) (hM : rM w N K T Z) : qAt s d c_LawL (qQi Q) 389 [some (.ref 0), some (.ref 1), some (.ref 72), some (.int (nI i))] [] w := by
  refine A_LawL_389 ⟨q1, q2, q3, q4, q5, ?_⟩
  refine c_feed (by omega) hX (fun w1 v x1 f1 => ?_) (fun n => ?_)
  · exact ⟨q1, q2, q3, q4, q5, m_feed (by omega) (hM.lo f1) (fun w3 v3 m3 f3 => eI (nx _ _ _ _ _ (x1.hi f3) m3)) (fun n3 => absurd v n3)⟩
  · exact ⟨q1, q2, q3, q4, q5, m_feed (by omega) hM (fun w3 v3 m3 f3 => absurd v3 n) (fun n3 => eI (nx _ _ _ _ _ hX hM))⟩
set_option maxHeartbeats 400000 in
theorem L_end (hd : 40 ≤ d) (q1 : qIn (nI i + (1 : Int32)) s.1) (q2 : qIn (nI i + (2 : Int32)) s.1) (q3 : qIn (nI i + (3 : Int32)) s.1) (q4 : qIn (nI i + (4 : Int32)) s.1) (q5 : qIn (nI i + (5 : Int32)) s.1) (nx : lNx s d i Q) (hX : rX w N K T Z) (hM : rM w N K T Z) : qAt s d c_LawL (qQi Q) 452 [some (.ref 0), some (.ref 1), some (.ref 72), some (.int (nI i))] [] w := by
  refine A_LawL_452 ⟨q1, ?_⟩
  refine c_end (by omega) hX (fun w1 v x1 f1 => ?_) (fun n => ?_)
  · exact ⟨q1, m_end (by omega) (hM.lo f1) (fun w3 v3 m3 f3 => eI (nx _ _ _ _ _ (x1.hi f3) m3)) (fun n3 => absurd v n3)⟩
  · exact ⟨q1, m_end (by omega) hM (fun w3 v3 m3 f3 => absurd v3 n) (fun n3 => eI (nx _ _ _ _ _ hX hM))⟩
set_option maxHeartbeats 400000 in
theorem L_text (hd : 40 ≤ d) (q1 : qIn (nI i + (1 : Int32)) s.1) (q2 : qIn (nI i + (2 : Int32)) s.1) (q3 : qIn (nI i + (3 : Int32)) s.1) (q4 : qIn (nI i + (4 : Int32)) s.1) (q5 : qIn (nI i + (5 : Int32)) s.1) (nx : lNx s d i Q) (hX : rX w N K T Z) (hM : rM w N K T Z) : qAt s d c_LawL (qQi Q) 475 [some (.ref 0), some (.ref 1), some (.ref 72), some (.int (nI i))] [] w := by
  refine A_LawL_475 ?_
  refine c_text (by omega) hX (fun cl w1 n4 e1 x1 f1 => ?_) (fun e w1 n4 e1 x1 f1 => ?_) (fun n => ?_)
  · refine m_text (by omega) (hM.lo f1) (fun cl2 w3 _ e3 m3 f3 => eI (nx _ _ _ _ _ (x1.hi f3) ?_)) (fun e w3 _ e3 m3 f3 => ?_) (fun n3 => absurd n4 n3)
    · rw [e1] at e3
      cases e3
      exact m3
    · rw [e1] at e3
      cases e3
  · refine m_text (by omega) (hM.lo f1) (fun cl2 w3 _ e3 m3 f3 => ?_) (fun e2 w3 _ e3 m3 f3 => eI (nx _ _ _ _ _ (x1.hi f3) ?_)) (fun n3 => absurd n4 n3)
    · rw [e1] at e3
      cases e3
    · rw [e1] at e3
      cases e3
      exact m3
  · exact m_text (by omega) hM (fun cl2 w3 n3 e3 m3 f3 => absurd n3 n) (fun e2 w3 n3 e3 m3 f3 => absurd n3 n) (fun n3 => eI (nx _ _ _ _ _ hX hM))
set_option maxHeartbeats 400000 in
theorem L_fault (hd : 40 ≤ d) (q1 : qIn (nI i + (1 : Int32)) s.1) (q2 : qIn (nI i + (2 : Int32)) s.1) (q3 : qIn (nI i + (3 : Int32)) s.1) (q4 : qIn (nI i + (4 : Int32)) s.1) (q5 : qIn (nI i + (5 : Int32)) s.1) (nx : lNx s d i Q) (hX : rX w N K T Z) (hM : rM w N K T Z) : qAt s d c_LawL (qQi Q) 488 [some (.ref 0), some (.ref 1), some (.ref 72), some (.int (nI i))] [] w := by
  refine A_LawL_488 ⟨q1, ?_⟩
  refine c_fault (by omega) hX (?_)
  exact ⟨q1, m_fault (by omega) hM (eI (nx _ _ _ _ _ hX hM))⟩
set_option maxHeartbeats 400000 in
theorem L_by (hd : 40 ≤ d) (q1 : qIn (nI i + (1 : Int32)) s.1) (q2 : qIn (nI i + (2 : Int32)) s.1) (q3 : qIn (nI i + (3 : Int32)) s.1) (q4 : qIn (nI i + (4 : Int32)) s.1) (q5 : qIn (nI i + (5 : Int32)) s.1) (nx : lNx s d i Q) (hX : rX w N K T Z) (hM : rM w N K T Z) : qAt s d c_LawL (qQi Q) 511 [some (.ref 0), some (.ref 1), some (.ref 72), some (.int (nI i))] [] w := by
  refine A_LawL_511 ⟨q1, ?_⟩
  refine c_by (by omega) hX (fun w1 v x1 f1 => ?_) (fun n => ?_)
  · exact ⟨q1, m_by (by omega) (hM.lo f1) (fun w3 v3 m3 f3 => eI (nx _ _ _ _ _ (x1.hi f3) m3)) (fun n3 => absurd v n3)⟩
  · exact ⟨q1, m_by (by omega) hM (fun w3 v3 m3 f3 => absurd v3 n) (fun n3 => eI (nx _ _ _ _ _ hX hM))⟩
set_option maxHeartbeats 400000 in
theorem L_speaks (hd : 40 ≤ d) (q1 : qIn (nI i + (1 : Int32)) s.1) (q2 : qIn (nI i + (2 : Int32)) s.1) (q3 : qIn (nI i + (3 : Int32)) s.1) (q4 : qIn (nI i + (4 : Int32)) s.1) (q5 : qIn (nI i + (5 : Int32)) s.1) (nx : lNx s d i Q) (hX : rX w N K T Z) (hM : rM w N K T Z) : qAt s d c_LawL (qQi Q) 534 [some (.ref 0), some (.ref 1), some (.ref 72), some (.int (nI i))] [] w := by
  refine A_LawL_534 ⟨q1, q2, q3, ?_⟩
  refine c_speaks (by omega) hX (fun v => ?_) (fun n => ?_)
  · exact ⟨q1, q2, q3, m_speaks (by omega) hM (fun w3 v3 f3 => eI (nx _ _ _ _ _ (hX.hi (w79 f3)) (hM.k9 f3))) (fun n3 => absurd v n3)⟩
  · exact ⟨q1, q2, q3, m_speaks (by omega) hM (fun w3 v3 f3 => absurd v3 n) (fun n3 => eI (nx _ _ _ _ _ hX hM))⟩
set_option maxHeartbeats 400000 in
theorem L_next (hd : 40 ≤ d) (q1 : qIn (nI i + (1 : Int32)) s.1) (q2 : qIn (nI i + (2 : Int32)) s.1) (q3 : qIn (nI i + (3 : Int32)) s.1) (q4 : qIn (nI i + (4 : Int32)) s.1) (q5 : qIn (nI i + (5 : Int32)) s.1) (nx : lNx s d i Q) (hX : rX w N K T Z) (hM : rM w N K T Z) : qAt s d c_LawL (qQi Q) 597 [some (.ref 0), some (.ref 1), some (.ref 72), some (.int (nI i))] [] w := by
  refine A_LawL_597 ⟨q1, q2, q3, ?_⟩
  refine c_next (by omega) hX (fun w1 r v q1' x1 f1 => ?_) (fun n => ?_)
  · refine ⟨q1, q2, q3, ?_⟩
    exact m_next (by omega) (hM.lo f1) (fun w3 r3 v3 q3' m3 f3 => eL2 (nxF_u q1' q3') (nx _ _ _ _ _ (x1.hi f3) m3)) (fun n3 => absurd v n3)
  · refine ⟨q1, q2, q3, ?_⟩
    exact m_next (by omega) hM (fun w3 r3 v3 q3' m3 f3 => absurd v3 n) (fun n3 => eL (nx _ _ _ _ _ hX hM))
set_option maxHeartbeats 400000 in
theorem L_barred (hd : 40 ≤ d) (q1 : qIn (nI i + (1 : Int32)) s.1) (q2 : qIn (nI i + (2 : Int32)) s.1) (q3 : qIn (nI i + (3 : Int32)) s.1) (q4 : qIn (nI i + (4 : Int32)) s.1) (q5 : qIn (nI i + (5 : Int32)) s.1) (nx : lNx s d i Q) (hX : rX w N K T Z) (hM : rM w N K T Z) : qAt s d c_LawL (qQi Q) 661 [some (.ref 0), some (.ref 1), some (.ref 72), some (.int (nI i))] [] w := by
  refine A_LawL_661 ⟨q1, q2, ?_⟩
  refine c_barred (by omega) hX (fun v => ?_) (fun n => ?_)
  · exact ⟨q1, q2, m_barred (by omega) hM (fun w3 v3 f3 => eI (nx _ _ _ _ _ (hX.hi (w79 f3)) (hM.k9 f3))) (fun n3 => absurd v n3)⟩
  · exact ⟨q1, q2, m_barred (by omega) hM (fun w3 v3 f3 => absurd v3 n) (fun n3 => eI (nx _ _ _ _ _ hX hM))⟩
set_option maxHeartbeats 400000 in
theorem L_together (hd : 40 ≤ d) (q1 : qIn (nI i + (1 : Int32)) s.1) (q2 : qIn (nI i + (2 : Int32)) s.1) (q3 : qIn (nI i + (3 : Int32)) s.1) (q4 : qIn (nI i + (4 : Int32)) s.1) (q5 : qIn (nI i + (5 : Int32)) s.1) (nx : lNx s d i Q) (hX : rX w N K T Z) (hM : rM w N K T Z) : qAt s d c_LawL (qQi Q) 694 [some (.ref 0), some (.ref 1), some (.ref 72), some (.int (nI i))] [] w := by
  refine A_LawL_694 ⟨q1, q2, q3, q4, q5, ?_⟩
  refine c_together (by omega) hX (fun w1 v x1 f1 => ?_) (fun n => ?_)
  · exact ⟨q1, q2, q3, q4, q5, m_together (by omega) (hM.lo f1) (fun w3 v3 m3 f3 => eL (nx _ _ _ _ _ (x1.hi f3) m3)) (fun n3 => absurd v n3)⟩
  · exact ⟨q1, q2, q3, q4, q5, m_together (by omega) hM (fun w3 v3 m3 f3 => absurd v3 n) (fun n3 => eL (nx _ _ _ _ _ hX hM))⟩
set_option maxHeartbeats 400000 in
theorem L_alone (hd : 40 ≤ d) (q1 : qIn (nI i + (1 : Int32)) s.1) (q2 : qIn (nI i + (2 : Int32)) s.1) (q3 : qIn (nI i + (3 : Int32)) s.1) (q4 : qIn (nI i + (4 : Int32)) s.1) (q5 : qIn (nI i + (5 : Int32)) s.1) (nx : lNx s d i Q) (hX : rX w N K T Z) (hM : rM w N K T Z) : qAt s d c_LawL (qQi Q) 798 [some (.ref 0), some (.ref 1), some (.ref 72), some (.int (nI i))] [] w := by
  refine A_LawL_798 ⟨q1, q2, q3, q4, ?_⟩
  refine c_alone (by omega) hX (fun w1 v x1 f1 => ?_) (fun n => ?_)
  · exact ⟨q1, q2, q3, q4, m_alone (by omega) (hM.lo f1) (fun w3 v3 f3 => eI (nx _ _ _ _ _ (x1.hi (w79 f3)) ((hM.lo f1).k9 f3))) (fun n3 => absurd v n3)⟩
  · exact ⟨q1, q2, q3, q4, m_alone (by omega) hM (fun w3 v3 f3 => absurd v3 n) (fun n3 => eI (nx _ _ _ _ _ hX hM))⟩
set_option maxHeartbeats 400000 in
theorem L_secret (hd : 40 ≤ d) (q1 : qIn (nI i + (1 : Int32)) s.1) (q2 : qIn (nI i + (2 : Int32)) s.1) (q3 : qIn (nI i + (3 : Int32)) s.1) (q4 : qIn (nI i + (4 : Int32)) s.1) (q5 : qIn (nI i + (5 : Int32)) s.1) (nx : lNx s d i Q) (hX : rX w N K T Z) (hM : rM w N K T Z) : qAt s d c_LawL (qQi Q) 871 [some (.ref 0), some (.ref 1), some (.ref 72), some (.int (nI i))] [] w := by
  refine A_LawL_871 ⟨q1, q2, q3, q4, q5, ?_⟩
  refine c_secret (by omega) hX (fun w1 v x1 f1 => ?_) (fun n => ?_)
  · exact ⟨q1, q2, q3, q4, q5, m_secret (by omega) (hM.lo f1) (fun w3 v3 f3 => eL (nx _ _ _ _ _ (x1.hi (w79 f3)) ((hM.lo f1).k9 f3))) (fun n3 => absurd v n3)⟩
  · exact ⟨q1, q2, q3, q4, q5, m_secret (by omega) hM (fun w3 v3 f3 => absurd v3 n) (fun n3 => eL (nx _ _ _ _ _ hX hM))⟩
set_option maxHeartbeats 400000 in
theorem L_pass (hd : 40 ≤ d) (q1 : qIn (nI i + (1 : Int32)) s.1) (q2 : qIn (nI i + (2 : Int32)) s.1) (q3 : qIn (nI i + (3 : Int32)) s.1) (q4 : qIn (nI i + (4 : Int32)) s.1) (q5 : qIn (nI i + (5 : Int32)) s.1) (nx : lNx s d i Q) (hX : rX w N K T Z) (hM : rM w N K T Z) : qAt s d c_LawL (qQi Q) 955 [some (.ref 0), some (.ref 1), some (.ref 72), some (.int (nI i))] [] w := by
  refine A_LawL_955 ⟨q1, q2, q3, q4, q5, ?_⟩
  refine c_pass (by omega) hX (fun w1 v x1 f1 => ?_) (fun n => ?_)
  · exact ⟨q1, q2, q3, q4, q5, m_pass (by omega) (hM.lo f1) (fun w3 v3 f3 => eL (nx _ _ _ _ _ (x1.hi (w79 f3)) ((hM.lo f1).k9 f3))) (fun n3 => absurd v n3)⟩
  · exact ⟨q1, q2, q3, q4, q5, m_pass (by omega) hM (fun w3 v3 f3 => absurd v3 n) (fun n3 => eL (nx _ _ _ _ _ hX hM))⟩
set_option maxHeartbeats 400000 in
theorem L_talk (hd : 40 ≤ d) (q1 : qIn (nI i + (1 : Int32)) s.1) (q2 : qIn (nI i + (2 : Int32)) s.1) (q3 : qIn (nI i + (3 : Int32)) s.1) (q4 : qIn (nI i + (4 : Int32)) s.1) (q5 : qIn (nI i + (5 : Int32)) s.1) (nx : lNx s d i Q) (hX : rX w N K T Z) (hM : rM w N K T Z) : qAt s d c_LawL (qQi Q) 1039 [some (.ref 0), some (.ref 1), some (.ref 72), some (.int (nI i))] [] w := by
  refine A_LawL_1039 ⟨q1, q2, q3, q4, ?_⟩
  refine c_talk (by omega) hX (fun w1 v x1 f1 => ?_) (fun n => ?_)
  · exact ⟨q1, q2, q3, q4, m_talk (by omega) (hM.lo f1) (fun w3 v3 m3 f3 => eI (nx _ _ _ _ _ (x1.hi f3) m3)) (fun n3 => absurd v n3)⟩
  · exact ⟨q1, q2, q3, q4, m_talk (by omega) hM (fun w3 v3 m3 f3 => absurd v3 n) (fun n3 => eI (nx _ _ _ _ _ hX hM))⟩
set_option maxHeartbeats 400000 in
theorem L_judge (hd : 40 ≤ d) (q1 : qIn (nI i + (1 : Int32)) s.1) (q2 : qIn (nI i + (2 : Int32)) s.1) (q3 : qIn (nI i + (3 : Int32)) s.1) (q4 : qIn (nI i + (4 : Int32)) s.1) (q5 : qIn (nI i + (5 : Int32)) s.1) (nx : lNx s d i Q) (hX : rX w N K T Z) (hM : rM w N K T Z) : qAt s d c_LawL (qQi Q) 1112 [some (.ref 0), some (.ref 1), some (.ref 72), some (.int (nI i))] [] w := by
  refine A_LawL_1112 ?_
  refine c_judge (by omega) hX (?_)
  exact m_judge (by omega) hM (fun w3 f3 => eI (nx _ _ _ _ _ (hX.hi (w79 f3)) (hM.k9 f3)))
set_option maxHeartbeats 400000 in
theorem L_overheard (hd : 40 ≤ d) (q1 : qIn (nI i + (1 : Int32)) s.1) (q2 : qIn (nI i + (2 : Int32)) s.1) (q3 : qIn (nI i + (3 : Int32)) s.1) (q4 : qIn (nI i + (4 : Int32)) s.1) (q5 : qIn (nI i + (5 : Int32)) s.1) (nx : lNx s d i Q) (hX : rX w N K T Z) (hM : rM w N K T Z) : qAt s d c_LawL (qQi Q) 1125 [some (.ref 0), some (.ref 1), some (.ref 72), some (.int (nI i))] [] w := by
  refine A_LawL_1125 ⟨q1, ?_⟩
  refine c_overheard (by omega) hX (fun v => ?_) (fun n => ?_)
  · exact ⟨q1, m_overheard (by omega) hM (fun w3 v3 f3 => eI (nx _ _ _ _ _ (hX.hi (w79 f3)) (hM.k9 f3))) (fun n3 => absurd v n3)⟩
  · exact ⟨q1, m_overheard (by omega) hM (fun w3 v3 f3 => absurd v3 n) (fun n3 => eI (nx _ _ _ _ _ hX hM))⟩
set_option maxHeartbeats 400000 in
theorem L_turn (hd : 40 ≤ d) (q1 : qIn (nI i + (1 : Int32)) s.1) (q2 : qIn (nI i + (2 : Int32)) s.1) (q3 : qIn (nI i + (3 : Int32)) s.1) (q4 : qIn (nI i + (4 : Int32)) s.1) (q5 : qIn (nI i + (5 : Int32)) s.1) (nx : lNx s d i Q) (hX : rX w N K T Z) (hM : rM w N K T Z) : qAt s d c_LawL (qQi Q) 1148 [some (.ref 0), some (.ref 1), some (.ref 72), some (.int (nI i))] [] w := by
  refine A_LawL_1148 ⟨q1, q2, q3, q4, ?_⟩
  refine c_turn (by omega) hX (fun w1 v x1 f1 => ?_) (fun n => ?_)
  · exact ⟨q1, q2, q3, q4, m_turn (by omega) (hM.lo f1) (fun w3 v3 f3 => eL (nx _ _ _ _ _ (x1.hi (w79 f3)) ((hM.lo f1).k9 f3))) (fun n3 => absurd v n3)⟩
  · exact ⟨q1, q2, q3, q4, m_turn (by omega) hM (fun w3 v3 f3 => absurd v3 n) (fun n3 => eL (nx _ _ _ _ _ hX hM))⟩
set_option maxHeartbeats 400000 in
theorem L_given (hd : 40 ≤ d) (q1 : qIn (nI i + (1 : Int32)) s.1) (q2 : qIn (nI i + (2 : Int32)) s.1) (q3 : qIn (nI i + (3 : Int32)) s.1) (q4 : qIn (nI i + (4 : Int32)) s.1) (q5 : qIn (nI i + (5 : Int32)) s.1) (nx : lNx s d i Q) (hX : rX w N K T Z) (hM : rM w N K T Z) : qAt s d c_LawL (qQi Q) 1222 [some (.ref 0), some (.ref 1), some (.ref 72), some (.int (nI i))] [] w := by
  refine A_LawL_1222 ⟨q1, ?_⟩
  refine c_given (by omega) hX (fun w1 v x1 f1 => ?_) (fun n => ?_)
  · exact ⟨q1, m_given (by omega) (hM.lo f1) (fun w3 v3 m3 f3 => eI (nx _ _ _ _ _ (x1.hi f3) m3)) (fun n3 => absurd v n3)⟩
  · exact ⟨q1, m_given (by omega) hM (fun w3 v3 m3 f3 => absurd v3 n) (fun n3 => eI (nx _ _ _ _ _ hX hM))⟩
set_option maxHeartbeats 400000 in
theorem L_need (hd : 40 ≤ d) (q1 : qIn (nI i + (1 : Int32)) s.1) (q2 : qIn (nI i + (2 : Int32)) s.1) (q3 : qIn (nI i + (3 : Int32)) s.1) (q4 : qIn (nI i + (4 : Int32)) s.1) (q5 : qIn (nI i + (5 : Int32)) s.1) (nx : lNx s d i Q) (hX : rX w N K T Z) (hM : rM w N K T Z) : qAt s d c_LawL (qQi Q) 1245 [some (.ref 0), some (.ref 1), some (.ref 72), some (.int (nI i))] [] w := by
  refine A_LawL_1245 ⟨q1, q2, q3, q4, ?_⟩
  refine c_need (by omega) hX (fun w1 v x1 f1 => ?_) (fun n => ?_)
  · exact ⟨q1, q2, q3, q4, m_need (by omega) (hM.lo f1) (fun w3 v3 m3 f3 => eI (nx _ _ _ _ _ (x1.hi f3) m3)) (fun n3 => absurd v n3)⟩
  · exact ⟨q1, q2, q3, q4, m_need (by omega) hM (fun w3 v3 m3 f3 => absurd v3 n) (fun n3 => eI (nx _ _ _ _ _ hX hM))⟩
set_option maxHeartbeats 400000 in
theorem L_worth (hd : 40 ≤ d) (q1 : qIn (nI i + (1 : Int32)) s.1) (q2 : qIn (nI i + (2 : Int32)) s.1) (q3 : qIn (nI i + (3 : Int32)) s.1) (q4 : qIn (nI i + (4 : Int32)) s.1) (q5 : qIn (nI i + (5 : Int32)) s.1) (nx : lNx s d i Q) (hX : rX w N K T Z) (hM : rM w N K T Z) : qAt s d c_LawL (qQi Q) 1298 [some (.ref 0), some (.ref 1), some (.ref 72), some (.int (nI i))] [] w := by
  refine A_LawL_1298 ⟨q1, ?_⟩
  refine c_worth (by omega) hX (fun w1 v x1 f1 => ?_) (fun n => ?_)
  · exact ⟨q1, m_worth (by omega) (hM.lo f1) (fun w3 v3 m3 f3 => eI (nx _ _ _ _ _ (x1.hi f3) m3)) (fun n3 => absurd v n3)⟩
  · exact ⟨q1, m_worth (by omega) hM (fun w3 v3 m3 f3 => absurd v3 n) (fun n3 => eI (nx _ _ _ _ _ hX hM))⟩
set_option maxHeartbeats 400000 in
theorem L_give (hd : 40 ≤ d) (q1 : qIn (nI i + (1 : Int32)) s.1) (q2 : qIn (nI i + (2 : Int32)) s.1) (q3 : qIn (nI i + (3 : Int32)) s.1) (q4 : qIn (nI i + (4 : Int32)) s.1) (q5 : qIn (nI i + (5 : Int32)) s.1) (nx : lNx s d i Q) (hX : rX w N K T Z) (hM : rM w N K T Z) : qAt s d c_LawL (qQi Q) 1321 [some (.ref 0), some (.ref 1), some (.ref 72), some (.int (nI i))] [] w := by
  refine A_LawL_1321 ⟨q1, q2, ?_⟩
  refine c_give (by omega) hX (fun w1 v x1 f1 => ?_) (fun n => ?_)
  · exact ⟨q1, q2, m_give (by omega) (hM.lo f1) (fun w3 v3 m3 f3 => eI (nx _ _ _ _ _ (x1.hi f3) m3)) (fun n3 => absurd v n3)⟩
  · exact ⟨q1, q2, m_give (by omega) hM (fun w3 v3 m3 f3 => absurd v3 n) (fun n3 => eI (nx _ _ _ _ _ hX hM))⟩
set_option maxHeartbeats 400000 in
theorem L_mend (hd : 40 ≤ d) (q1 : qIn (nI i + (1 : Int32)) s.1) (q2 : qIn (nI i + (2 : Int32)) s.1) (q3 : qIn (nI i + (3 : Int32)) s.1) (q4 : qIn (nI i + (4 : Int32)) s.1) (q5 : qIn (nI i + (5 : Int32)) s.1) (nx : lNx s d i Q) (hX : rX w N K T Z) (hM : rM w N K T Z) : qAt s d c_LawL (qQi Q) 1354 [some (.ref 0), some (.ref 1), some (.ref 72), some (.int (nI i))] [] w := by
  refine A_LawL_1354 ⟨q1, ?_⟩
  refine c_mend (by omega) hX (fun w1 v x1 f1 => ?_) (fun n => ?_)
  · exact ⟨q1, m_mend (by omega) (hM.lo f1) (fun w3 v3 m3 f3 => eI (nx _ _ _ _ _ (x1.hi f3) m3)) (fun n3 => absurd v n3)⟩
  · exact ⟨q1, m_mend (by omega) hM (fun w3 v3 m3 f3 => absurd v3 n) (fun n3 => eI (nx _ _ _ _ _ hX hM))⟩
set_option maxHeartbeats 400000 in
theorem L_cover (hd : 40 ≤ d) (q1 : qIn (nI i + (1 : Int32)) s.1) (q2 : qIn (nI i + (2 : Int32)) s.1) (q3 : qIn (nI i + (3 : Int32)) s.1) (q4 : qIn (nI i + (4 : Int32)) s.1) (q5 : qIn (nI i + (5 : Int32)) s.1) (nx : lNx s d i Q) (hX : rX w N K T Z) (hM : rM w N K T Z) : qAt s d c_LawL (qQi Q) 1377 [some (.ref 0), some (.ref 1), some (.ref 72), some (.int (nI i))] [] w := by
  refine A_LawL_1377 ?_
  refine c_cover (by omega) hX (fun w1 r v q1' x1 f1 => ?_) (fun n => ?_)
  · exact m_cover (by omega) (hM.lo f1) (fun w3 r3 v3 q3' m3 f3 => eI2 (fCv_u q1' q3') (nx _ _ _ _ _ (x1.hi f3) m3)) (fun n3 => absurd n3 v)
  · exact m_cover (by omega) hM (fun w3 r3 v3 q3' m3 f3 => absurd n v3) (fun n3 => eI (nx _ _ _ _ _ hX hM))
set_option maxHeartbeats 400000 in
theorem L_apart (hd : 40 ≤ d) (q1 : qIn (nI i + (1 : Int32)) s.1) (q2 : qIn (nI i + (2 : Int32)) s.1) (q3 : qIn (nI i + (3 : Int32)) s.1) (q4 : qIn (nI i + (4 : Int32)) s.1) (q5 : qIn (nI i + (5 : Int32)) s.1) (nx : lNx s d i Q) (hX : rX w N K T Z) (hM : rM w N K T Z) : qAt s d c_LawL (qQi Q) 1390 [some (.ref 0), some (.ref 1), some (.ref 72), some (.int (nI i))] [] w := by
  refine A_LawL_1390 ⟨q1, q2, ?_⟩
  refine c_apart (by omega) hX (fun w1 v x1 f1 => ?_) (fun n => ?_)
  · exact ⟨q1, q2, m_apart (by omega) (hM.lo f1) (fun w3 v3 m3 f3 => eI (nx _ _ _ _ _ (x1.hi f3) m3)) (fun w3 n3 m3 f3 => absurd v n3)⟩
  · exact ⟨q1, q2, m_apart (by omega) hM (fun w3 v3 m3 f3 => absurd v3 n) (fun w3 n3 m3 f3 => eI (nx _ _ _ _ _ (hX.hi f3) m3))⟩
set_option maxHeartbeats 400000 in
theorem L_heard (hd : 40 ≤ d) (q1 : qIn (nI i + (1 : Int32)) s.1) (q2 : qIn (nI i + (2 : Int32)) s.1) (q3 : qIn (nI i + (3 : Int32)) s.1) (q4 : qIn (nI i + (4 : Int32)) s.1) (q5 : qIn (nI i + (5 : Int32)) s.1) (nx : lNx s d i Q) (hX : rX w N K T Z) (hM : rM w N K T Z) : qAt s d c_LawL (qQi Q) 1423 [some (.ref 0), some (.ref 1), some (.ref 72), some (.int (nI i))] [] w := by
  have two : ∀ b : Int32, (s.2 (qIx (nI i + (2 : Int32))) = 0 → b = 0) → (¬ s.2 (qIx (nI i + (2 : Int32))) = 0 → b = 1) → qAt s d c_LawL (qQi Q) 1442 [some (.ref 0), some (.ref 1), some (.ref 72), some (.int (nI i))] [.int b, .int (s.2 (qIx (nI i + (1 : Int32)))), .ref 1] w := by
    intro b h0 h1
    refine A_LawL_1442 (c_heard (by omega) hX (fun w1 v x1 f1 => ?_) (fun n => ?_))
    · refine ⟨q1, q2, fun g => ?_, fun g => ?_⟩
      · rw [h0 g] at x1
        exact m_heard (by omega) (hM.lo f1) (fun w3 v3 m3 f3 => eI (nx _ _ _ _ _ (x1.hi f3) m3)) (fun n3 => absurd v n3)
      · rw [h1 g] at x1
        exact m_heard (by omega) (hM.lo f1) (fun w3 v3 m3 f3 => eI (nx _ _ _ _ _ (x1.hi f3) m3)) (fun n3 => absurd v n3)
    · exact ⟨q1, q2, fun g => m_heard (by omega) hM (fun w3 v3 m3 f3 => absurd v3 n) (fun n3 => eI (nx _ _ _ _ _ hX hM)), fun g => m_heard (by omega) hM (fun w3 v3 m3 f3 => absurd v3 n) (fun n3 => eI (nx _ _ _ _ _ hX hM))⟩
  refine A_LawL_1423 ?_
  exact ⟨q1, q2, fun g => two _ (fun _ => rfl) (fun z => absurd g z), fun g => two _ (fun z => absurd z g) (fun _ => rfl)⟩
set_option maxHeartbeats 400000 in
theorem L_fits (hd : 40 ≤ d) (q1 : qIn (nI i + (1 : Int32)) s.1) (q2 : qIn (nI i + (2 : Int32)) s.1) (q3 : qIn (nI i + (3 : Int32)) s.1) (q4 : qIn (nI i + (4 : Int32)) s.1) (q5 : qIn (nI i + (5 : Int32)) s.1) (nx : lNx s d i Q) (hX : rX w N K T Z) (hM : rM w N K T Z) : qAt s d c_LawL (qQi Q) 1472 [some (.ref 0), some (.ref 1), some (.ref 72), some (.int (nI i))] [] w := by
  refine A_LawL_1472 ⟨q1, q2, ?_⟩
  refine c_fits (by omega) hX (fun v => ?_) (fun n => ?_)
  · exact ⟨q1, q2, m_fits (by omega) hM (fun v3 => eI (nx _ _ _ _ _ hX hM)) (fun n3 => absurd v n3)⟩
  · exact ⟨q1, q2, m_fits (by omega) hM (fun v3 => absurd v3 n) (fun n3 => eI (nx _ _ _ _ _ hX hM))⟩
set_option maxHeartbeats 400000 in
theorem L_who (hd : 40 ≤ d) (q1 : qIn (nI i + (1 : Int32)) s.1) (q2 : qIn (nI i + (2 : Int32)) s.1) (q3 : qIn (nI i + (3 : Int32)) s.1) (q4 : qIn (nI i + (4 : Int32)) s.1) (q5 : qIn (nI i + (5 : Int32)) s.1) (nx : lNx s d i Q) (hX : rX w N K T Z) (hM : rM w N K T Z) : qAt s d c_LawL (qQi Q) 1505 [some (.ref 0), some (.ref 1), some (.ref 72), some (.int (nI i))] [] w := by
  refine A_LawL_1505 ?_
  refine c_who (by omega) hX (?_)
  exact m_who (by omega) hM (fun w3 f3 => eI (nx _ _ _ _ _ (hX.hi (w79 f3)) (hM.k9 f3)))
set_option maxHeartbeats 400000 in
theorem L_bits (hd : 40 ≤ d) (q1 : qIn (nI i + (1 : Int32)) s.1) (q2 : qIn (nI i + (2 : Int32)) s.1) (q3 : qIn (nI i + (3 : Int32)) s.1) (q4 : qIn (nI i + (4 : Int32)) s.1) (q5 : qIn (nI i + (5 : Int32)) s.1) (nx : lNx s d i Q) (hX : rX w N K T Z) (hM : rM w N K T Z) : qAt s d c_LawL (qQi Q) 1518 [some (.ref 0), some (.ref 1), some (.ref 72), some (.int (nI i))] [] w := by
  refine A_LawL_1518 ⟨q1, q2, q3, ?_⟩
  refine c_bits (by omega) hX (fun w1 v x1 f1 => ?_) (fun n => ?_)
  · exact ⟨q1, q2, q3, m_bits (by omega) (hM.lo f1) (fun w3 v3 f3 => eL (nx _ _ _ _ _ (x1.hi (w79 f3)) ((hM.lo f1).k9 f3))) (fun n3 => absurd v n3)⟩
  · exact ⟨q1, q2, q3, m_bits (by omega) hM (fun w3 v3 f3 => absurd v3 n) (fun n3 => eL (nx _ _ _ _ _ hX hM))⟩
set_option maxHeartbeats 400000 in
theorem L_other (hd : 40 ≤ d) (q1 : qIn (nI i + (1 : Int32)) s.1) (q2 : qIn (nI i + (2 : Int32)) s.1) (q3 : qIn (nI i + (3 : Int32)) s.1) (q4 : qIn (nI i + (4 : Int32)) s.1) (q5 : qIn (nI i + (5 : Int32)) s.1) (nx : lNx s d i Q) (hX : rX w N K T Z) (hM : rM w N K T Z) : qAt s d c_LawL (qQi Q) 1582 [some (.ref 0), some (.ref 1), some (.ref 72), some (.int (nI i))] [] w := by
  refine A_LawL_1582 ⟨q1, q2, q3, q4, ?_⟩
  refine c_other (by omega) hX (fun v => ?_) (fun n => ?_)
  · exact ⟨q1, q2, q3, q4, m_other (by omega) hM (fun w3 v3 f3 => eI (nx _ _ _ _ _ (hX.hi (w79 f3)) (hM.k9 f3))) (fun n3 => absurd v n3)⟩
  · exact ⟨q1, q2, q3, q4, m_other (by omega) hM (fun w3 v3 f3 => absurd v3 n) (fun n3 => eI (nx _ _ _ _ _ hX hM))⟩
set_option maxHeartbeats 400000 in
theorem L_hush (hd : 40 ≤ d) (q1 : qIn (nI i + (1 : Int32)) s.1) (q2 : qIn (nI i + (2 : Int32)) s.1) (q3 : qIn (nI i + (3 : Int32)) s.1) (q4 : qIn (nI i + (4 : Int32)) s.1) (q5 : qIn (nI i + (5 : Int32)) s.1) (nx : lNx s d i Q) (hX : rX w N K T Z) (hM : rM w N K T Z) : qAt s d c_LawL (qQi Q) 1635 [some (.ref 0), some (.ref 1), some (.ref 72), some (.int (nI i))] [] w := by
  refine A_LawL_1635 ⟨q1, q2, q3, q4, ?_⟩
  refine c_hush (by omega) hX (fun w1 v x1 f1 => ?_) (fun n => ?_)
  · exact ⟨q1, q2, q3, q4, m_hush (by omega) (hM.lo f1) (fun w3 v3 f3 => eL (nx _ _ _ _ _ (x1.hi (w79 f3)) ((hM.lo f1).k9 f3))) (fun n3 => absurd v n3)⟩
  · exact ⟨q1, q2, q3, q4, m_hush (by omega) hM (fun w3 v3 f3 => absurd v3 n) (fun n3 => eL (nx _ _ _ _ _ hX hM))⟩
set_option maxHeartbeats 400000 in
theorem L_child (hd : 40 ≤ d) (q1 : qIn (nI i + (1 : Int32)) s.1) (q2 : qIn (nI i + (2 : Int32)) s.1) (q3 : qIn (nI i + (3 : Int32)) s.1) (q4 : qIn (nI i + (4 : Int32)) s.1) (q5 : qIn (nI i + (5 : Int32)) s.1) (nx : lNx s d i Q) (hX : rX w N K T Z) (hM : rM w N K T Z) : qAt s d c_LawL (qQi Q) 1709 [some (.ref 0), some (.ref 1), some (.ref 72), some (.int (nI i))] [] w := by
  refine A_LawL_1709 ⟨q1, q2, q3, q4, ?_⟩
  refine c_child (by omega) hX (fun w1 v x1 f1 => ?_) (fun n => ?_)
  · exact ⟨q1, q2, q3, q4, m_child (by omega) (hM.lo f1) (fun w3 v3 m3 f3 => eI (nx _ _ _ _ _ (x1.hi f3) m3)) (fun n3 => absurd v n3)⟩
  · exact ⟨q1, q2, q3, q4, m_child (by omega) hM (fun w3 v3 m3 f3 => absurd v3 n) (fun n3 => eI (nx _ _ _ _ _ hX hM))⟩
set_option maxHeartbeats 400000 in
theorem L_pairs (hd : 40 ≤ d) (q1 : qIn (nI i + (1 : Int32)) s.1) (q2 : qIn (nI i + (2 : Int32)) s.1) (q3 : qIn (nI i + (3 : Int32)) s.1) (q4 : qIn (nI i + (4 : Int32)) s.1) (q5 : qIn (nI i + (5 : Int32)) s.1) (nx : lNx s d i Q) (hX : rX w N K T Z) (hM : rM w N K T Z) : qAt s d c_LawL (qQi Q) 1762 [some (.ref 0), some (.ref 1), some (.ref 72), some (.int (nI i))] [] w := by
  refine A_LawL_1762 ⟨q1, q2, q3, ?_⟩
  refine c_pairs (by omega) hX (fun w1 v x1 f1 => ?_) (fun n => ?_)
  · exact ⟨q1, q2, q3, m_pairs (by omega) (hM.lo f1) (fun w3 v3 m3 f3 => eI (nx _ _ _ _ _ (x1.hi f3) m3)) (fun n3 => absurd v n3)⟩
  · exact ⟨q1, q2, q3, m_pairs (by omega) hM (fun w3 v3 m3 f3 => absurd v3 n) (fun n3 => eI (nx _ _ _ _ _ hX hM))⟩
set_option maxHeartbeats 400000 in
theorem L_roll (hd : 40 ≤ d) (q1 : qIn (nI i + (1 : Int32)) s.1) (q2 : qIn (nI i + (2 : Int32)) s.1) (q3 : qIn (nI i + (3 : Int32)) s.1) (q4 : qIn (nI i + (4 : Int32)) s.1) (q5 : qIn (nI i + (5 : Int32)) s.1) (nx : lNx s d i Q) (hX : rX w N K T Z) (hM : rM w N K T Z) : qAt s d c_LawL (qQi Q) 1805 [some (.ref 0), some (.ref 1), some (.ref 72), some (.int (nI i))] [] w := by
  refine A_LawL_1805 ⟨q1, ?_⟩
  refine c_roll (by omega) hX (fun w1 v x1 f1 => ?_) (fun n => ?_)
  · exact ⟨q1, m_roll (by omega) (hM.lo f1) (fun w3 v3 m3 f3 => eI (nx _ _ _ _ _ (x1.hi f3) m3)) (fun n3 => absurd v n3)⟩
  · exact ⟨q1, m_roll (by omega) hM (fun w3 v3 m3 f3 => absurd v3 n) (fun n3 => eI (nx _ _ _ _ _ hX hM))⟩
set_option maxHeartbeats 400000 in
theorem L_image (hd : 40 ≤ d) (q1 : qIn (nI i + (1 : Int32)) s.1) (q2 : qIn (nI i + (2 : Int32)) s.1) (q3 : qIn (nI i + (3 : Int32)) s.1) (q4 : qIn (nI i + (4 : Int32)) s.1) (q5 : qIn (nI i + (5 : Int32)) s.1) (nx : lNx s d i Q) (hX : rX w N K T Z) (hM : rM w N K T Z) : qAt s d c_LawL (qQi Q) 1828 [some (.ref 0), some (.ref 1), some (.ref 72), some (.int (nI i))] [] w := by
  refine A_LawL_1828 ?_
  refine c_image (by omega) hX (fun w1 x1 f1 => ?_)
  exact m_image (by omega) (hM.lo f1) (fun w3 m3 f3 => eI (nx _ _ _ _ _ (x1.hi f3) m3))
set_option maxHeartbeats 400000 in
theorem L_back (hd : 40 ≤ d) (q1 : qIn (nI i + (1 : Int32)) s.1) (q2 : qIn (nI i + (2 : Int32)) s.1) (q3 : qIn (nI i + (3 : Int32)) s.1) (q4 : qIn (nI i + (4 : Int32)) s.1) (q5 : qIn (nI i + (5 : Int32)) s.1) (nx : lNx s d i Q) (hX : rX w N K T Z) (hM : rM w N K T Z) : qAt s d c_LawL (qQi Q) 1841 [some (.ref 0), some (.ref 1), some (.ref 72), some (.int (nI i))] [] w := by
  refine A_LawL_1841 ?_
  refine c_back (by omega) hX (fun w1 x1 f1 => ?_)
  exact m_back (by omega) (hM.lo f1) (fun w3 m3 f3 => eI (nx _ _ _ _ _ (x1.hi f3) m3))
set_option maxHeartbeats 400000 in
theorem L_about (hd : 40 ≤ d) (q1 : qIn (nI i + (1 : Int32)) s.1) (q2 : qIn (nI i + (2 : Int32)) s.1) (q3 : qIn (nI i + (3 : Int32)) s.1) (q4 : qIn (nI i + (4 : Int32)) s.1) (q5 : qIn (nI i + (5 : Int32)) s.1) (nx : lNx s d i Q) (hX : rX w N K T Z) (hM : rM w N K T Z) : qAt s d c_LawL (qQi Q) 1854 [some (.ref 0), some (.ref 1), some (.ref 72), some (.int (nI i))] [] w := by
  refine A_LawL_1854 ⟨q1, ?_⟩
  refine c_about (by omega) hX (?_)
  exact ⟨q1, m_about (by omega) hM (eI (nx _ _ _ _ _ hX hM))⟩
theorem lw_i6 {L i : Nat} (hL : L ≤ 3072) (hi : i ≤ 3072 + 6) (h : ¬ (Int32.ofNat L - (6 : Int32)) < nI i) : i + 6 ≤ L := by
  rcases Nat.lt_or_ge L 6 with g | g
  · exfalso
    apply h
    rw [Int32.lt_iff_toInt_lt, Int32.toInt_sub, nI_toInt (by omega), show (6 : Int32).toInt = 6 from rfl, show (Int32.ofNat L).toInt = (L : Int) from nI_toInt (by omega), Int.bmod_eq_of_le (by omega) (by omega)]
    omega
  · have e : Int32.ofNat L - (6 : Int32) = nI (L - 6) := nI_sub' (a := L) (b := 6) g
    rw [e, nI_ltI (by omega) (by omega)] at h
    omega
set_option maxHeartbeats 1000000 in
theorem law_loop (hd : 40 ≤ d) (hL : s.1 ≤ 3072) (hQ : ∀ w, Q 1 w) : ∀ t i (w : qW) (N K : vS) (T : Nat → vT) (Z : vZ), s.1 + 6 ≤ i + 6 * t → i ≤ s.1 + 6 → rX w N K T Z → rM w N K T Z → qAt s d c_LawL (qQi Q) 18 [some (.ref 0), some (.ref 1), some (.ref 72), some (.int (nI i))] [] w := by
  intro t
  induction t with
  | zero =>
    intro i w N K T Z ht hi hX hM
    refine A_LawL_18 ⟨fun _ => hQ w, fun g => ?_⟩
    have := lw_i6 hL (by omega) g
    omega
  | succ t ih =>
    intro i w N K T Z ht hi hX hM
    refine A_LawL_18 ⟨fun _ => hQ w, fun g => ?_⟩
    have h6 := lw_i6 hL (by omega) g
    have q : ∀ (k : Nat) (v : Int32), v = nI k → k < 6 → qIn (nI i + v) s.1 := by
      intro k v ev hk
      rw [ev, nI_add]
      exact qIn_nI (by omega) (by omega)
    have q1 := q 1 (1 : Int32) rfl (by decide)
    have q2 := q 2 (2 : Int32) rfl (by decide)
    have q3 := q 3 (3 : Int32) rfl (by decide)
    have q4 := q 4 (4 : Int32) rfl (by decide)
    have q5 := q 5 (5 : Int32) rfl (by decide)
    have nx : lNx s d i Q := by
      intro w' N' K' T' Z' hX' hM'
      refine A_LawL_1877 ?_
      rw [show nI i + (6 : Int32) = nI (i + 6) from nI_add i 6]
      exact ih (i + 6) w' N' K' T' Z' (by omega) (by omega) hX' hM'
    refine ⟨qIn_nI (by omega) (by omega), ⟨fun _ => L_person hd q1 q2 q3 q4 q5 nx hX hM, fun _ => ⟨fun _ => L_change hd q1 q2 q3 q4 q5 nx hX hM, fun _ => ⟨fun _ => L_day hd q1 q2 q3 q4 q5 nx hX hM, fun _ => ⟨fun _ => L_clock hd q1 q2 q3 q4 q5 nx hX hM, fun _ => ⟨fun _ => L_near hd q1 q2 q3 q4 q5 nx hX hM, fun _ => ⟨fun _ => L_feed hd q1 q2 q3 q4 q5 nx hX hM, fun _ => ⟨fun _ => L_end hd q1 q2 q3 q4 q5 nx hX hM, fun _ => ⟨fun _ => L_text hd q1 q2 q3 q4 q5 nx hX hM, fun _ => ⟨fun _ => L_fault hd q1 q2 q3 q4 q5 nx hX hM, fun _ => ⟨fun _ => L_by hd q1 q2 q3 q4 q5 nx hX hM, fun _ => ⟨fun _ => L_speaks hd q1 q2 q3 q4 q5 nx hX hM, fun _ => ⟨fun _ => L_next hd q1 q2 q3 q4 q5 nx hX hM, fun _ => ⟨fun _ => L_barred hd q1 q2 q3 q4 q5 nx hX hM, fun _ => ⟨fun _ => L_together hd q1 q2 q3 q4 q5 nx hX hM, fun _ => ⟨fun _ => L_alone hd q1 q2 q3 q4 q5 nx hX hM, fun _ => ⟨fun _ => L_secret hd q1 q2 q3 q4 q5 nx hX hM, fun _ => ⟨fun _ => L_pass hd q1 q2 q3 q4 q5 nx hX hM, fun _ => ⟨fun _ => L_talk hd q1 q2 q3 q4 q5 nx hX hM, fun _ => ⟨fun _ => L_judge hd q1 q2 q3 q4 q5 nx hX hM, fun _ => ⟨fun _ => L_overheard hd q1 q2 q3 q4 q5 nx hX hM, fun _ => ⟨fun _ => L_turn hd q1 q2 q3 q4 q5 nx hX hM, fun _ => ⟨fun _ => L_given hd q1 q2 q3 q4 q5 nx hX hM, fun _ => ⟨fun _ => L_need hd q1 q2 q3 q4 q5 nx hX hM, fun _ => ⟨fun _ => L_worth hd q1 q2 q3 q4 q5 nx hX hM, fun _ => ⟨fun _ => L_give hd q1 q2 q3 q4 q5 nx hX hM, fun _ => ⟨fun _ => L_mend hd q1 q2 q3 q4 q5 nx hX hM, fun _ => ⟨fun _ => L_cover hd q1 q2 q3 q4 q5 nx hX hM, fun _ => ⟨fun _ => L_apart hd q1 q2 q3 q4 q5 nx hX hM, fun _ => ⟨fun _ => L_heard hd q1 q2 q3 q4 q5 nx hX hM, fun _ => ⟨fun _ => L_fits hd q1 q2 q3 q4 q5 nx hX hM, fun _ => ⟨fun _ => L_who hd q1 q2 q3 q4 q5 nx hX hM, fun _ => ⟨fun _ => L_bits hd q1 q2 q3 q4 q5 nx hX hM, fun _ => ⟨fun _ => L_other hd q1 q2 q3 q4 q5 nx hX hM, fun _ => ⟨fun _ => L_hush hd q1 q2 q3 q4 q5 nx hX hM, fun _ => ⟨fun _ => L_child hd q1 q2 q3 q4 q5 nx hX hM, fun _ => ⟨fun _ => L_pairs hd q1 q2 q3 q4 q5 nx hX hM, fun _ => ⟨fun _ => L_roll hd q1 q2 q3 q4 q5 nx hX hM, fun _ => ⟨fun _ => L_image hd q1 q2 q3 q4 q5 nx hX hM, fun _ => ⟨fun _ => L_back hd q1 q2 q3 q4 q5 nx hX hM, fun _ => ⟨fun _ => L_about hd q1 q2 q3 q4 q5 nx hX hM, fun _ => nx _ _ _ _ _ hX hM⟩⟩⟩⟩⟩⟩⟩⟩⟩⟩⟩⟩⟩⟩⟩⟩⟩⟩⟩⟩⟩⟩⟩⟩⟩⟩⟩⟩⟩⟩⟩⟩⟩⟩⟩⟩⟩⟩⟩⟩⟩
end Law
