/-! qTree is sound for qWp; calls are monotone. -/
section Sound
variable {g : qG}
abbrev qLe (Q Q' : qQ) : Prop := (∀ x w, Q.1 x w → Q'.1 x w) ∧ (∀ x w, Q.2.1 x w → Q'.2.1 x w) ∧ (∀ w, Q.2.2.1 w → Q'.2.2.1 w) ∧ (∀ x w, Q.2.2.2 x w → Q'.2.2.2 x w)
abbrev qMo2 (C C' : qC) : Prop := ∀ M a w Q Q', qLe Q Q' → C M a w Q → C' M a w Q'
abbrev qMono (C : qC) : Prop := qMo2 C C
theorem qSetK_eq : ∀ (ls : qL) (i : Nat) (v : Option Value) (K : qL → Prop), qSetK ls i v K = K (qSet ls i v)
  | [], _, _, _ => rfl
  | _ :: _, 0, _, _ => rfl
  | a :: t, n + 1, v, K => qSetK_eq t n v fun t' => K (a :: t')
theorem qKillK_eq (ls : qL) (i : Nat) (K : qL → Prop) : qKillK ls i K = K (qKill ls i) := by
  cases i with
  | zero => rfl
  | succ i =>
    show (match qIs2 (qGet ls i) with | true => qSetK ls i none K | false => K ls) = K (match qIs2 (qGet ls i) with | true => qSet ls i none | false => ls)
    split
    · exact qSetK_eq _ _ _ _
    · rfl
theorem qSt1K_eq (ls : qL) (i : Nat) (v : Value) (K : qL → Prop) : qSt1K ls i v K = K (qSt1 ls i v) := by
  unfold qSt1K; rw [qKillK_eq, qSetK_eq]; rfl
theorem qSt2K_eq (ls : qL) (i : Nat) (v : Value) (K : qL → Prop) : qSt2K ls i v K = K (qSt2 ls i v) := by
  unfold qSt2K; rw [qKillK_eq, qSetK_eq, qSetK_eq]; rfl
theorem qFtK_eq : ∀ (cd : List qI) (pc : Nat) (K : qI → Prop), qFtK cd pc K = match qFt cd pc with
    | none => False
    | some i => K i
  | [], _, _ => rfl
  | i :: t, pc, K => by
    unfold qFtK qFt
    split
    · rfl
    · exact qFtK_eq t pc K
theorem qB_mono {b : Bool} {A A' : Prop} (h : A → A') : qB b A → qB b A' := by
  cases b <;> simp [qB]; exact h
theorem qLi_mono {ls : qL} {i : Nat} {K K' : Int32 → Prop} (h : ∀ x, K x → K' x) : qLi ls i K → qLi ls i K' := by
  unfold qLi; split; (all_goals first | exact h _ | exact id)
theorem qLl_mono {ls : qL} {i : Nat} {K K' : Int64 → Prop} (h : ∀ x, K x → K' x) : qLl ls i K → qLl ls i K' := by
  unfold qLl; split; (all_goals first | exact h _ | exact id)
theorem qLa_mono {ls : qL} {i : Nat} {K K' : Value → Prop} (h : ∀ x, K x → K' x) : qLa ls i K → qLa ls i K' := by
  unfold qLa; split; (all_goals first | exact h _ | exact id)
theorem q1i_mono {st : List Value} {K K' : Int32 → List Value → Prop} (h : ∀ x r, K x r → K' x r) : q1i st K → q1i st K' := by
  unfold q1i; split; (all_goals first | exact h _ _ | exact id)
theorem q1l_mono {st : List Value} {K K' : Int64 → List Value → Prop} (h : ∀ x r, K x r → K' x r) : q1l st K → q1l st K' := by
  unfold q1l; split; (all_goals first | exact h _ _ | exact id)
theorem q1a_mono {st : List Value} {K K' : Value → List Value → Prop} (h : ∀ x r, K x r → K' x r) : q1a st K → q1a st K' := by
  unfold q1a; split; (all_goals first | exact h _ _ | exact id)
theorem q1r_mono {st : List Value} {K K' : Nat → List Value → Prop} (h : ∀ x r, K x r → K' x r) : q1r st K → q1r st K' := by
  unfold q1r; split; (all_goals first | exact h _ _ | exact id)
theorem q2i_mono {st : List Value} {K K' : Int32 → Int32 → List Value → Prop} (h : ∀ x y r, K x y r → K' x y r) : q2i st K → q2i st K' := by
  unfold q2i; split; (all_goals first | exact h _ _ _ | exact id)
theorem q2l_mono {st : List Value} {K K' : Int64 → Int64 → List Value → Prop} (h : ∀ x y r, K x y r → K' x y r) : q2l st K → q2l st K' := by
  unfold q2l; split; (all_goals first | exact h _ _ _ | exact id)
theorem qil_mono {st : List Value} {K K' : Int64 → Int32 → List Value → Prop} (h : ∀ x y r, K x y r → K' x y r) : qil st K → qil st K' := by
  unfold qil; split; (all_goals first | exact h _ _ _ | exact id)
theorem qir_mono {st : List Value} {K K' : Nat → Int32 → List Value → Prop} (h : ∀ x y r, K x y r → K' x y r) : qir st K → qir st K' := by
  unfold qir; split; (all_goals first | exact h _ _ _ | exact id)
theorem qlr_mono {st : List Value} {K K' : Nat → Int64 → List Value → Prop} (h : ∀ x y r, K x y r → K' x y r) : qlr st K → qlr st K' := by
  unfold qlr; split; (all_goals first | exact h _ _ _ | exact id)
theorem qrr_mono {st : List Value} {K K' : Nat → Nat → List Value → Prop} (h : ∀ x y r, K x y r → K' x y r) : qrr st K → qrr st K' := by
  unfold qrr; split; (all_goals first | exact h _ _ _ | exact id)
theorem qiir_mono {st : List Value} {K K' : Nat → Int32 → Int32 → List Value → Prop} (h : ∀ x y z r, K x y z r → K' x y z r) : qiir st K → qiir st K' := by
  unfold qiir; split; (all_goals first | exact h _ _ _ _ | exact id)
theorem qlir_mono {st : List Value} {K K' : Nat → Int32 → Int64 → List Value → Prop} (h : ∀ x y z r, K x y z r → K' x y z r) : qlir st K → qlir st K' := by
  unfold qlir; split; (all_goals first | exact h _ _ _ _ | exact id)
theorem qrir_mono {st : List Value} {K K' : Nat → Int32 → Nat → List Value → Prop} (h : ∀ x y z r, K x y z r → K' x y z r) : qrir st K → qrir st K' := by
  unfold qrir; split; (all_goals first | exact h _ _ _ _ | exact id)
theorem qCpS_mono {st : List Value} {K K' : Nat → Int32 → Nat → Int32 → Int32 → List Value → Prop} (h : ∀ a b c d e r, K a b c d e r → K' a b c d e r) : qCpS st K → qCpS st K' := by
  unfold qCpS; split; (all_goals first | exact h _ _ _ _ _ _ | exact id)
theorem qRv_mono {r : Option Nat} {K K' : Nat → Prop} {N N' : Prop} (h : ∀ x, K x → K' x) (h' : N → N') : qRv r K N → qRv r K' N' := by
  unfold qRv; split
  · exact h _
  · exact h'
theorem qGr_mono {w : qW} {c f : Nat} {K K' : Nat → Prop} {N N' : Prop} (h : ∀ x, K x → K' x) (h' : N → N') : qGr g w c f K N → qGr g w c f K' N' := by
  unfold qGr; split
  · exact qRv_mono h h'
  · split
    · exact fun ⟨t, e, k⟩ => ⟨t, e, h _ k⟩
    · exact qRv_mono h h'
theorem qGa_mono {w : qW} {c f : Nat} {K K' : Nat → Prop} {N N' : Prop} (h : ∀ x, K x → K' x) (h' : N → N') : qGa g w c f K N → qGa g w c f K' N' := by
  unfold qGa; split
  · exact qRv_mono h h'
  · exact fun ⟨t, e, k⟩ => ⟨t, e, h _ k⟩
theorem qCmp_mono {c : Jvm.ClassFile.Cond} {x y : Int32} {T F T' F' : Prop} (hT : T → T') (hF : F → F') : qCmp c x y T F → qCmp c x y T' F' := by
  cases c <;> exact fun h => ⟨fun g => hT (h.1 g), fun g => hF (h.2 g)⟩
theorem qTs_mono {K K' : Nat → Prop} {x : Int32} {d : Nat} (h : ∀ t, K t → K' t) : ∀ (l : List Nat) (v : Int), qTs K x d v l → qTs K' x d v l
  | [], _ => h _
  | _ :: r, v => fun g => ⟨fun e => h _ (g.1 e), fun e => qTs_mono h r (v + 1) (g.2 e)⟩
theorem qLs_mono {K K' : Nat → Prop} {x : Int32} {d : Nat} (h : ∀ t, K t → K' t) : ∀ (q : List (Int × Int)) (l : List Nat), qLs K x d q l → qLs K' x d q l
  | [], [] => h _
  | [], _ :: _ => id
  | _ :: _, [] => id
  | (_, _) :: q, _ :: r => fun g => ⟨fun e => h _ (g.1 e), fun e => qLs_mono h q r (g.2 e)⟩
theorem qD1_mono {st : List Value} {K K' : Value → List Value → Prop} (h : ∀ x r, K x r → K' x r) : qD1 st K → qD1 st K' := by
  unfold qD1; split; (all_goals first | exact qB_mono (h _ _) | exact id)
theorem qD2_mono {st : List Value} {K K' : List Value → Prop} (h : ∀ r, K r → K' r) : qD2 st K → qD2 st K' := by
  unfold qD2; split
  · split
    · exact h _
    · split; (all_goals first | exact qB_mono (h _) | exact id)
  · exact id
theorem qSpl_mono {K K' : List Value → List Value → Prop} (h : ∀ x r, K x r → K' x r) : ∀ (n : Nat) (st a : List Value), qSpl st n a K → qSpl st n a K'
  | 0, st, a => by cases st <;> exact h _ _
  | _ + 1, [], _ => id
  | n + 1, v :: r, a => qSpl_mono h n r (v :: a)
theorem qRcv_mono {w : qW} {k : Nat} {a : List Value} {A A' : Prop} (h : A → A') : qRcv g w k a A → qRcv g w k a A' := by
  unfold qRcv; split
  · exact h
  · split; (all_goals first | exact qB_mono h | exact id)
theorem qRt_le {X X' : qS → Prop} (hX : ∀ s, X s → X' s) (n : Nat) (ls : qL) (r : List Value) (rt : Nat) : qLe (qRt X n ls r rt) (qRt X' n ls r rt) := by
  unfold qRt; split <;> refine ⟨fun _ _ h => ?_, fun _ _ h => ?_, fun _ h => ?_, fun _ _ h => ?_⟩ <;> first | exact hX _ h | exact h.elim | exact ⟨fun t e => hX _ (h.1 t e), fun e => hX _ (h.2 e)⟩
theorem qInv_mono {C C' : qC} {X X' : qS → Prop} (hC : qMo2 C C') (hX : ∀ s, X s → X' s) {n : Nat} {au : List Nat} {ls : qL} {st : List Value} {w : qW} : qInv g C X n au ls st w → qInv g C' X' n au ls st w := by
  unfold qInv; split
  · exact qSpl_mono (fun a r => qB_mono (qRcv_mono (hC _ _ _ _ _ (qRt_le hX _ _ _ _)))) _ _ _
  · split
    · exact q1r_mono fun _ _ => hX _
    · exact qCpS_mono fun _ _ _ _ _ _ => qB_mono (qB_mono (qB_mono (And.imp_right (hX _))))
    · exact qCpS_mono fun _ _ _ _ _ _ => qB_mono (qB_mono (qB_mono (And.imp_right (hX _))))
    · exact q1r_mono fun _ _ => qB_mono (qB_mono (hX _))
    · exact qir_mono fun _ _ _ => qB_mono (qB_mono (And.imp_right (hX _)))
    · exact qir_mono fun _ _ _ => qB_mono (qB_mono (hX _))
    · exact id
theorem qAld_mono {w : qW} {c : Nat} {i : Int32} {A A' : Int32 → Prop} (h : ∀ j, A j → A' j) : qAld g w c i A → qAld g w c i A' := by
  unfold qAld; split
  · split
    · exact And.imp_right (h _)
    · exact id
  · exact qB_mono (And.imp_right (h _))
theorem qAln_mono {w : qW} {c : Nat} {A A' : Int32 → Prop} (h : ∀ j, A j → A' j) : qAln g w c A → qAln g w c A' := by
  unfold qAln; split
  · split
    · exact h _
    · exact id
  · exact qB_mono (h _)
theorem qAst_mono {w : qW} {c k : Nat} {i : Int32} {A A' : Nat → Prop} (h : ∀ j, A j → A' j) : qAst g w c i A k → qAst g w c i A' k := qB_mono (And.imp_right (h _))
set_option maxHeartbeats 2000000 in
theorem qEx_mono {C C' : qC} {Q Q' : qQ} {X X' : qS → Prop} (hC : qMo2 C C') (hQ : qLe Q Q') (hX : ∀ s, X s → X' s) {n : Nat} {ins : Instr} {au : List Nat} {cs : Int} {ls : qL} {st : List Value} {w : qW} : qEx g C Q X n ins au cs ls st w → qEx g C' Q' X' n ins au cs ls st w := by
  unfold qEx
  split
  all_goals first
    | exact hX _
    | exact id
    | exact qLi_mono fun _ => hX _
    | exact qLl_mono fun _ => hX _
    | exact qLa_mono fun _ => hX _
    | exact q1i_mono fun _ _ => by rw [qSt1K_eq, qSt1K_eq]; exact hX _
    | exact q1l_mono fun _ _ => by rw [qSt2K_eq, qSt2K_eq]; exact hX _
    | exact q1a_mono fun _ _ => by rw [qSt1K_eq, qSt1K_eq]; exact hX _
    | exact qLi_mono fun _ => by rw [qSt1K_eq, qSt1K_eq]; exact hX _
    | exact q1i_mono fun _ _ => hX _
    | exact q1l_mono fun _ _ => hX _
    | exact q1a_mono fun _ _ => hX _
    | exact q2i_mono fun _ _ _ => hX _
    | exact q2l_mono fun _ _ _ => hX _
    | exact qil_mono fun _ _ _ => hX _
    | exact q2i_mono fun _ _ _ => And.imp_right (hX _)
    | exact q2l_mono fun _ _ _ => And.imp_right (hX _)
    | exact qD1_mono fun _ _ => hX _
    | exact qD2_mono fun _ => hX _
    | exact q2i_mono fun _ _ _ => qCmp_mono (hX _) (hX _)
    | exact q1i_mono fun _ _ => qCmp_mono (hX _) (hX _)
    | exact qInv_mono hC hX
    | exact qir_mono fun _ _ _ => qAld_mono fun _ => hX _
    | exact qir_mono fun _ _ _ => qAst_mono fun _ => hX _
    | exact qir_mono fun _ _ _ => qAst_mono fun _ => qGa_mono (fun _ => hX _) (hX _)
    | exact qiir_mono fun _ _ _ _ => qAst_mono fun _ => hX _
    | exact qiir_mono fun _ _ _ _ => qAst_mono fun _ => qB_mono (hX _)
    | exact qlir_mono fun _ _ _ _ => qAst_mono fun _ => hX _
    | exact qrir_mono fun _ _ _ _ => qB_mono (qB_mono (qAst_mono fun _ => hX _))
    | exact qB_mono (hX _)
    | exact q1i_mono fun _ _ => qB_mono (And.imp_right (hX _))
    | (split <;> first | exact hX _ | exact id | exact hQ.2.1 _ _ | exact hQ.2.2.1 _ | exact hQ.2.2.2 _ _ | exact qir_mono fun _ _ _ => qB_mono (hX _) | exact qir_mono fun _ _ _ => qB_mono (qB_mono (hX _)) | exact qlr_mono fun _ _ _ => qB_mono (hX _) | exact qrr_mono fun _ _ _ => qB_mono (qB_mono (hX _)) | (split <;> first | exact hQ.1 _ _ | exact qB_mono (hQ.1 _ _)))
    | exact q1i_mono fun _ _ => by split; (all_goals first | exact qTs_mono (fun _ => hX _) _ _ | exact qLs_mono (fun _ => hX _) _ _ | exact id)
    | exact q1r_mono fun _ _ => qB_mono (by split <;> first | exact hX _ | exact qGr_mono (fun _ => hX _) (hX _))
    | exact q1r_mono fun _ _ => qAln_mono fun _ => hX _
theorem qP_mono {C C' : qC} {cd : List qI} {Q Q' : qQ} {X X' : qS → Prop} (hC : qMo2 C C') (hQ : qLe Q Q') (hX : ∀ s, X s → X' s) {s : qS} : qP g C cd Q X s → qP g C' cd Q' X' s := by
  unfold qP; rw [qFtK_eq, qFtK_eq]; split
  · exact id
  · exact qEx_mono hC hQ hX
theorem qWp_mono {C C' : qC} {cd : List qI} {Q Q' : qQ} (hC : qMo2 C C') (hQ : qLe Q Q') {s : qS} (h : qWp g C cd Q s) : qWp g C' cd Q' s :=
  fun X hX => h X (fun s g => hX s (qP_mono hC hQ (fun _ => id) g))
theorem qCall_mono : ∀ d, qMono (qCall g d)
  | 0 => fun _ _ _ _ _ _ h => h
  | d + 1 => fun M a w Q Q' hQ h => by
    unfold qCall at h ⊢
    split at h
    · exact h.elim
    · exact ⟨h.1, qWp_mono (qCall_mono d) hQ h.2⟩
theorem qWp_step {C : qC} {cd : List qI} {Q : qQ} (hC : qMono C) {s : qS} (h : qP g C cd Q (qWp g C cd Q) s) : qWp g C cd Q s :=
  fun X hX => hX s (qP_mono hC ⟨fun _ _ => id, fun _ _ => id, fun _ => id, fun _ _ => id⟩ (fun s' g => g X hX) h)
/-- fewer locals known -/
def qLL : qL → qL → Prop
  | [], [] => True
  | a :: t, b :: u => (a = none ∨ a = b) ∧ qLL t u
  | _, _ => False
theorem qLL_get : ∀ {l l' : qL} {i : Nat} {v : Value}, qLL l l' → qGet l i = some v → qGet l' i = some v
  | [], [], _, _, _, h => h
  | a :: t, b :: u, 0, v, hl, h => by
    rcases hl.1 with e | e
    · rw [e] at h; exact absurd h (by simp [qGet])
    · rw [← e]; exact h
  | a :: t, b :: u, i + 1, v, hl, h => qLL_get (l := t) (l' := u) hl.2 h
theorem qLL_set : ∀ {l l' : qL} {i : Nat} {v v' : Option Value}, qLL l l' → (v = none ∨ v = v') → qLL (qSet l i v) (qSet l' i v')
  | [], [], _, _, _, _, _ => trivial
  | a :: t, b :: u, 0, v, v', hl, h => ⟨h, hl.2⟩
  | a :: t, b :: u, i + 1, v, v', hl, h => ⟨hl.1, qLL_set (l := t) (l' := u) hl.2 h⟩
theorem qLL_setN : ∀ {l l' : qL} {i : Nat}, qLL l l' → qGet l i = none → qLL l (qSet l' i none)
  | [], [], _, _, _ => trivial
  | a :: t, b :: u, 0, hl, h => ⟨Or.inl h, hl.2⟩
  | a :: t, b :: u, i + 1, hl, h => ⟨hl.1, qLL_setN (l := t) (l' := u) hl.2 h⟩
theorem qLL_kill {l l' : qL} {i : Nat} (h : qLL l l') : qLL (qKill l i) (qKill l' i) := by
  cases i with
  | zero => exact h
  | succ i =>
    show qLL (match qIs2 (qGet l i) with | true => qSet l i none | false => l) (match qIs2 (qGet l' i) with | true => qSet l' i none | false => l')
    cases hg : qGet l i with
    | none =>
      show qLL l _
      split
      · exact qLL_setN h hg
      · exact h
    | some v =>
      rw [qLL_get h hg]
      split
      · exact qLL_set h (Or.inl rfl)
      · exact h
theorem qLL_st1 {l l' : qL} {i : Nat} {v : Value} (h : qLL l l') : qLL (qSt1 l i v) (qSt1 l' i v) := qLL_set (qLL_kill h) (Or.inr rfl)
theorem qLL_st2 {l l' : qL} {i : Nat} {v : Value} (h : qLL l l') : qLL (qSt2 l i v) (qSt2 l' i v) := qLL_set (qLL_set (qLL_kill h) (Or.inr rfl)) (Or.inl rfl)
theorem qLL_rf : ∀ l : qL, qLL l l
  | [] => trivial
  | _ :: t => ⟨Or.inr rfl, qLL_rf t⟩
theorem qLL_msk : ∀ (m : List Bool) (l : qL), qLL (qMsk m l) l
  | [], [] => trivial
  | true :: _, [] => trivial
  | false :: _, [] => trivial
  | [], _ :: t => ⟨Or.inl rfl, qLL_msk [] t⟩
  | true :: m, _ :: t => ⟨Or.inr rfl, qLL_msk m t⟩
  | false :: m, _ :: t => ⟨Or.inl rfl, qLL_msk m t⟩
theorem qLi_LL {ls ls' : qL} {i : Nat} {K K' : Int32 → Prop} (hl : qLL ls ls') (h : ∀ x, K x → K' x) : qLi ls i K → qLi ls' i K' := by
  unfold qLi; split
  · rename_i x hx; rw [qLL_get hl hx]; exact h _
  · exact False.elim
theorem qLl_LL {ls ls' : qL} {i : Nat} {K K' : Int64 → Prop} (hl : qLL ls ls') (h : ∀ x, K x → K' x) : qLl ls i K → qLl ls' i K' := by
  unfold qLl; split
  · rename_i x hx; rw [qLL_get hl hx]; exact h _
  · exact False.elim
theorem qLa_LL {ls ls' : qL} {i : Nat} {K K' : Value → Prop} (hl : qLL ls ls') (h : ∀ x, K x → K' x) : qLa ls i K → qLa ls' i K' := by
  unfold qLa; split
  · rename_i x hx; rw [qLL_get hl hx]; exact h _
  · rename_i hx; rw [qLL_get hl hx]; exact h _
  · exact False.elim
def qXl (X : qS → Prop) (s : qS) : Prop := ∀ l, qLL s.2.1 l → X (s.1, l, s.2.2)
theorem qInv_LL {C : qC} {X : qS → Prop} (hC : qMono C) {n : Nat} {au : List Nat} {ls ls' : qL} {st : List Value} {w : qW} (hl : qLL ls ls') : qInv g C (qXl X) n au ls st w → qInv g C X n au ls' st w := by
  unfold qInv; split
  · refine qSpl_mono (fun a r => qB_mono (qRcv_mono (hC _ _ _ _ _ ?_))) _ _ _
    unfold qRt; split <;> refine ⟨fun _ _ h => ?_, fun _ _ h => ?_, fun _ h => ?_, fun _ _ h => ?_⟩ <;> first | exact h _ hl | exact h.elim | exact ⟨fun t e => h.1 t e _ hl, fun e => h.2 e _ hl⟩
  · split
    · exact q1r_mono fun _ _ h => h _ hl
    · exact qCpS_mono fun _ _ _ _ _ _ => qB_mono (qB_mono (qB_mono (And.imp_right (fun h => h _ hl))))
    · exact qCpS_mono fun _ _ _ _ _ _ => qB_mono (qB_mono (qB_mono (And.imp_right (fun h => h _ hl))))
    · exact q1r_mono fun _ _ => qB_mono (qB_mono (fun h => h _ hl))
    · exact qir_mono fun _ _ _ => qB_mono (qB_mono (And.imp_right (fun h => h _ hl)))
    · exact qir_mono fun _ _ _ => qB_mono (qB_mono (fun h => h _ hl))
    · exact id
set_option maxHeartbeats 2000000 in
theorem qEx_LL {C : qC} {Q : qQ} {X : qS → Prop} (hC : qMono C) {n : Nat} {ins : Instr} {au : List Nat} {cs : Int} {ls ls' : qL} {st : List Value} {w : qW} (hl : qLL ls ls') : qEx g C Q (qXl X) n ins au cs ls st w → qEx g C Q X n ins au cs ls' st w := by
  unfold qEx
  split
  all_goals first
    | exact fun h => h _ hl
    | exact id
    | exact qLi_LL hl fun _ h => h _ hl
    | exact qLl_LL hl fun _ h => h _ hl
    | exact qLa_LL hl fun _ h => h _ hl
    | exact qLi_LL hl fun _ => by rw [qSt1K_eq, qSt1K_eq]; exact fun h => h _ (qLL_st1 hl)
    | exact q1i_mono fun _ _ h => h _ hl
    | exact q1i_mono fun _ _ => by rw [qSt1K_eq, qSt1K_eq]; exact fun h => h _ (qLL_st1 hl)
    | exact q1l_mono fun _ _ h => h _ hl
    | exact q1l_mono fun _ _ => by rw [qSt2K_eq, qSt2K_eq]; exact fun h => h _ (qLL_st2 hl)
    | exact q1a_mono fun _ _ => by rw [qSt1K_eq, qSt1K_eq]; exact fun h => h _ (qLL_st1 hl)
    | exact q2i_mono fun _ _ _ h => h _ hl
    | exact q2l_mono fun _ _ _ h => h _ hl
    | exact qil_mono fun _ _ _ h => h _ hl
    | exact q2i_mono fun _ _ _ => And.imp_right (fun h => h _ hl)
    | exact q2l_mono fun _ _ _ => And.imp_right (fun h => h _ hl)
    | exact qD1_mono fun _ _ h => h _ hl
    | exact qD2_mono fun _ h => h _ hl
    | exact q2i_mono fun _ _ _ => qCmp_mono (fun h => h _ hl) (fun h => h _ hl)
    | exact q1i_mono fun _ _ => qCmp_mono (fun h => h _ hl) (fun h => h _ hl)
    | exact qInv_LL hC hl
    | exact qir_mono fun _ _ _ => qAld_mono fun _ h => h _ hl
    | exact qir_mono fun _ _ _ => qAst_mono fun _ h => h _ hl
    | exact qir_mono fun _ _ _ => qAst_mono fun _ => qGa_mono (fun _ h => h _ hl) (fun h => h _ hl)
    | exact qiir_mono fun _ _ _ _ => qAst_mono fun _ h => h _ hl
    | exact qiir_mono fun _ _ _ _ => qAst_mono fun _ => qB_mono (fun h => h _ hl)
    | exact qlir_mono fun _ _ _ _ => qAst_mono fun _ h => h _ hl
    | exact qrir_mono fun _ _ _ _ => qB_mono (qB_mono (qAst_mono fun _ h => h _ hl))
    | exact qB_mono (fun h => h _ hl)
    | exact q1i_mono fun _ _ => qB_mono (And.imp_right (fun h => h _ hl))
    | (split <;> first | exact fun h => h _ hl | exact id | exact qir_mono fun _ _ _ => qB_mono (fun h => h _ hl) | exact qir_mono fun _ _ _ => qB_mono (qB_mono (fun h => h _ hl)) | exact qlr_mono fun _ _ _ => qB_mono (fun h => h _ hl) | exact qrr_mono fun _ _ _ => qB_mono (qB_mono (fun h => h _ hl)))
    | exact q1i_mono fun _ _ => by split; (all_goals first | exact qTs_mono (fun _ h => h _ hl) _ _ | exact qLs_mono (fun _ h => h _ hl) _ _ | exact id)
    | exact q1r_mono fun _ _ => qB_mono (by split <;> first | exact fun h => h _ hl | exact qGr_mono (fun _ h => h _ hl) (fun h => h _ hl))
    | exact q1r_mono fun _ _ => qAln_mono fun _ h => h _ hl
theorem qWp_LL {C : qC} {cd : List qI} {Q : qQ} (hC : qMono C) {pc : Nat} {ls ls' : qL} {r : List Value × qW} (hl : qLL ls ls') (h : qWp g C cd Q (pc, ls, r)) : qWp g C cd Q (pc, ls', r) := by
  intro X hX
  refine h (qXl X) (fun s hs l hsl => hX _ ?_) ls' hl
  unfold qP at hs ⊢
  rw [qFtK_eq] at hs ⊢
  split at hs
  · exact hs.elim
  · rename_i i hi
    have e : qFt cd s.1 = some i := hi
    rw [e]
    exact qEx_LL hC hsl hs
theorem qDrK_ft : ∀ (cd : List qI) (pc : Nat) (K : qI → List qI → Prop), qDrK cd pc K → ∃ (i : qI) (pre t : List qI), cd = pre ++ i :: t ∧ qFt cd pc = some i ∧ K i t
  | [], _, _ => False.elim
  | i :: t, pc, K => by
    unfold qDrK qFt
    split
    · exact fun h => ⟨i, [], t, rfl, rfl, h⟩
    · intro h
      obtain ⟨j, pre, u, e, hf, hk⟩ := qDrK_ft t pc K h
      exact ⟨j, i :: pre, u, by rw [e]; rfl, hf, hk⟩
theorem qUp_tail {i : qI} {t : List qI} (h : qUp (i :: t) = true) : qUp t = true := by
  cases t with
  | nil => rfl
  | cons j u =>
    unfold qUp at h
    dsimp only at h
    split at h
    · exact h
    · cases h
theorem qUp_lt : ∀ {t : List qI} {i : qI}, qUp (i :: t) = true → ∀ j ∈ t, i.1 < j.1
  | [], _, _, _, h => by cases h
  | k :: u, i, h, j, hj => by
    have hik : i.1 < k.1 := by
      unfold qUp at h
      dsimp only at h
      split at h
      · rename_i e; exact Nat.le_of_ble_eq_true e
      · cases h
    rcases List.mem_cons.mp hj with e | e
    · rw [e]; exact hik
    · exact Nat.lt_trans hik (qUp_lt (qUp_tail h) j e)
theorem qFt_at : ∀ (pre : List qI) {i : qI} {t : List qI}, qUp (pre ++ i :: t) = true → qFt (pre ++ i :: t) i.1 = some i
  | [], i, t, _ => by
    show (match Nat.beq i.1 i.1 with | true => some i | false => qFt t i.1) = some i
    rw [Nat.beq_refl]
  | p :: pre, i, t, h => by
    have hlt := qUp_lt (t := pre ++ i :: t) (i := p) h i (by simp)
    show (match Nat.beq p.1 i.1 with | true => some p | false => qFt (pre ++ i :: t) i.1) = some i
    have hne : Nat.beq p.1 i.1 = false := by
      cases hb : Nat.beq p.1 i.1 with
      | false => rfl
      | true => exact absurd (Nat.eq_of_beq_eq_true hb) (Nat.ne_of_lt hlt)
    rw [hne]
    exact qFt_at pre (qUp_tail h)
theorem qTree_sound {C : qC} {cd : List qI} {Q : qQ} (hC : qMono C) (hu : qUp cd = true) (cuts : List (Nat × List Bool)) : ∀ (k : Nat) (suf : List qI) (s : qS), (∃ pre, cd = pre ++ suf) → qTree g C cd Q cuts k suf s → qWp g C cd Q s
  | 0, _, _ => fun _ => False.elim
  | k + 1, suf, s => fun hsuf h => by
    have key : ∃ (i : qI) (t : List qI), (∃ pre, cd = pre ++ t) ∧ qFt cd s.1 = some i ∧ qEx g C Q (fun s' => match qMem s'.1 cuts with
        | some m => qWp g C cd Q (s'.1, qMsk m s'.2.1, s'.2.2)
        | none => qTree g C cd Q cuts k t s') i.2.2.1 i.2.1 i.2.2.2.1 i.2.2.2.2 s.2.1 s.2.2.1 s.2.2.2 := by
      have full : ∀ K : qI → List qI → Prop, qDrK cd s.1 K → ∃ (i : qI) (t : List qI), (∃ pre, cd = pre ++ t) ∧ qFt cd s.1 = some i ∧ K i t := fun K hk => by
        obtain ⟨i, pre, t, e, hf, hk⟩ := qDrK_ft cd s.1 K hk
        exact ⟨i, t, ⟨pre ++ [i], by rw [e]; simp⟩, hf, hk⟩
      unfold qTree qHtK at h
      cases suf with
      | nil => exact full _ h
      | cons i t =>
        dsimp only at h
        split at h
        · rename_i hb
          obtain ⟨pre, e⟩ := hsuf
          refine ⟨i, t, ⟨pre ++ [i], by rw [e]; simp⟩, ?_, h⟩
          rw [← Nat.eq_of_beq_eq_true hb, e]
          exact qFt_at pre (by rw [← e]; exact hu)
        · exact full _ h
    obtain ⟨i, t, hs, hf, he⟩ := key
    refine qWp_step hC ?_
    unfold qP
    rw [qFtK_eq, hf]
    refine qEx_mono hC ⟨fun _ _ => id, fun _ _ => id, fun _ => id, fun _ _ => id⟩ (fun s' g => ?_) he
    revert g; split
    · exact qWp_LL hC (qLL_msk _ _)
    · exact qTree_sound hC hu cuts k t s' hs
/-- more depth does no harm -/
theorem qCall_succ : ∀ d, qMo2 (qCall g d) (qCall g (d + 1))
  | 0 => fun _ _ _ _ _ _ h => h.elim
  | d + 1 => fun M a w Q Q' hQ h => by
    unfold qCall at h ⊢
    split at h
    · exact h.elim
    · rename_i m hm
      exact ⟨h.1, qWp_mono (qCall_succ d) hQ h.2⟩
theorem qCall_le {d d' : Nat} (h : d ≤ d') : qMo2 (qCall g d) (qCall g d') := by
  induction h with
  | refl => exact qCall_mono d
  | step _ ih => exact fun M a w Q Q' hQ g => qCall_succ _ M a w Q' Q' ⟨fun _ _ => id, fun _ _ => id, fun _ => id, fun _ _ => id⟩ (ih M a w Q Q' hQ g)
/-- the machine at a place of a method, once the objects are made -/
abbrev qAt (s : Nat × (Nat → Int32)) (d : Nat) (cd : List qI) (Q : qQ) (pc : Nat) (ls : qL) (st : List Value) (w : qW) : Prop := qWp (some s) (qCall (some s) d) cd Q (pc, ls, st, w)
/-- a method's entry -/
theorem qCall_of {d M : Nat} {a : List Value} {w : qW} {Q : qQ} {cd : List qI} {mL : Nat} (hm : qMt M = some (cd, mL)) (hu : qUp cd = true) (cuts : List (Nat × List Bool)) (k : Nat) (h : qTree g (qCall g d) cd Q cuts k cd (0, qPad (qArgs a) mL, [], w)) (ha : Nat.ble (qArgs a).length mL = true := by rfl) : qCall g (d + 1) M a w Q := by
  unfold qCall
  rw [hm]
  refine ⟨ha, ?_⟩
  exact qTree_sound (qCall_mono d) hu cuts k cd _ ⟨[], rfl⟩ h
theorem qCall_at {d M : Nat} {a : List Value} {w : qW} {Q : qQ} {cd : List qI} {mL : Nat} (hm : qMt M = some (cd, mL)) (m : List Bool) (h : qWp g (qCall g d) cd Q (0, qMsk m (qPad (qArgs a) mL), [], w)) (ha : Nat.ble (qArgs a).length mL = true := by rfl) : qCall g (d + 1) M a w Q := by
  unfold qCall
  rw [hm]
  refine ⟨ha, ?_⟩
  exact qWp_LL (qCall_mono d) (qLL_msk _ _) h
theorem qAt_of {s : Nat × (Nat → Int32)} {d : Nat} {cd : List qI} {Q : qQ} (hu : qUp cd = true) (cuts : List (Nat × List Bool)) (k : Nat) {pc : Nat} {ls : qL} {st : List Value} {w : qW} (h : qTree (some s) (qCall (some s) d) cd Q cuts k [] (pc, ls, st, w)) : qAt s d cd Q pc ls st w :=
  qTree_sound (qCall_mono d) hu cuts k [] _ ⟨cd, by simp⟩ h
end Sound
