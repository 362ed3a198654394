/-! qTree is sound for qWp; calls are monotone. -/
abbrev qLe (Q Q' : qQ) : Prop := (∀ x w, Q.1 x w → Q'.1 x w) ∧ (∀ x w, Q.2.1 x w → Q'.2.1 x w) ∧ (∀ w, Q.2.2.1 w → Q'.2.2.1 w) ∧ (∀ x w, Q.2.2.2 x w → Q'.2.2.2 x w)
abbrev qMo2 (C C' : qC) : Prop := ∀ M a w Q Q', qLe Q Q' → C M a w Q → C' M a w Q'
abbrev qMono (C : qC) : Prop := qMo2 C C
theorem qB_mono {b : Bool} {A A' : Prop} (h : A → A') : qB b A → qB b A' := by
  cases b <;> simp [qB]; exact h
theorem qLi_mono {ls : qL} {i : Nat} {K K' : Int32 → Prop} (h : ∀ x, K x → K' x) : qLi ls i K → qLi ls i K' := by
  unfold qLi; split; (all_goals first | exact h _ | exact id)
theorem qLl_mono {ls : qL} {i : Nat} {K K' : Int64 → Prop} (h : ∀ x, K x → K' x) : qLl ls i K → qLl ls i K' := by
  unfold qLl; split; (all_goals first | exact h _ | exact id)
theorem qLa_mono {ls : qL} {i : Nat} {K K' : Value → Prop} (h : ∀ x, K x → K' x) : qLa ls i K → qLa ls i K' := by
  unfold qLa; split; (all_goals first | exact h _ | exact id)
theorem q1i_mono {st : List Value} {K K' : Int32 → List Value → Prop} (h : ∀ x r, K x r → K' x r) : q1i st K → q1i st K' := by
  unfold q1i; split; (all_goals first | exact h _ _ | exact id)
theorem q1l_mono {st : List Value} {K K' : Int64 → List Value → Prop} (h : ∀ x r, K x r → K' x r) : q1l st K → q1l st K' := by
  unfold q1l; split; (all_goals first | exact h _ _ | exact id)
theorem q1a_mono {st : List Value} {K K' : Value → List Value → Prop} (h : ∀ x r, K x r → K' x r) : q1a st K → q1a st K' := by
  unfold q1a; split; (all_goals first | exact h _ _ | exact id)
theorem q1r_mono {st : List Value} {K K' : Nat → List Value → Prop} (h : ∀ x r, K x r → K' x r) : q1r st K → q1r st K' := by
  unfold q1r; split; (all_goals first | exact h _ _ | exact id)
theorem q2i_mono {st : List Value} {K K' : Int32 → Int32 → List Value → Prop} (h : ∀ x y r, K x y r → K' x y r) : q2i st K → q2i st K' := by
  unfold q2i; split; (all_goals first | exact h _ _ _ | exact id)
theorem q2l_mono {st : List Value} {K K' : Int64 → Int64 → List Value → Prop} (h : ∀ x y r, K x y r → K' x y r) : q2l st K → q2l st K' := by
  unfold q2l; split; (all_goals first | exact h _ _ _ | exact id)
theorem qil_mono {st : List Value} {K K' : Int64 → Int32 → List Value → Prop} (h : ∀ x y r, K x y r → K' x y r) : qil st K → qil st K' := by
  unfold qil; split; (all_goals first | exact h _ _ _ | exact id)
theorem qir_mono {st : List Value} {K K' : Nat → Int32 → List Value → Prop} (h : ∀ x y r, K x y r → K' x y r) : qir st K → qir st K' := by
  unfold qir; split; (all_goals first | exact h _ _ _ | exact id)
theorem qlr_mono {st : List Value} {K K' : Nat → Int64 → List Value → Prop} (h : ∀ x y r, K x y r → K' x y r) : qlr st K → qlr st K' := by
  unfold qlr; split; (all_goals first | exact h _ _ _ | exact id)
theorem qrr_mono {st : List Value} {K K' : Nat → Nat → List Value → Prop} (h : ∀ x y r, K x y r → K' x y r) : qrr st K → qrr st K' := by
  unfold qrr; split; (all_goals first | exact h _ _ _ | exact id)
theorem qiir_mono {st : List Value} {K K' : Nat → Int32 → Int32 → List Value → Prop} (h : ∀ x y z r, K x y z r → K' x y z r) : qiir st K → qiir st K' := by
  unfold qiir; split; (all_goals first | exact h _ _ _ _ | exact id)
theorem qlir_mono {st : List Value} {K K' : Nat → Int32 → Int64 → List Value → Prop} (h : ∀ x y z r, K x y z r → K' x y z r) : qlir st K → qlir st K' := by
  unfold qlir; split; (all_goals first | exact h _ _ _ _ | exact id)
theorem qrir_mono {st : List Value} {K K' : Nat → Int32 → Nat → List Value → Prop} (h : ∀ x y z r, K x y z r → K' x y z r) : qrir st K → qrir st K' := by
  unfold qrir; split; (all_goals first | exact h _ _ _ _ | exact id)
theorem qCpS_mono {st : List Value} {K K' : Nat → Int32 → Nat → Int32 → Int32 → List Value → Prop} (h : ∀ a b c d e r, K a b c d e r → K' a b c d e r) : qCpS st K → qCpS st K' := by
  unfold qCpS; split; (all_goals first | exact h _ _ _ _ _ _ | exact id)
theorem qRv_mono {r : Option Nat} {K K' : Value → Prop} (h : ∀ x, K x → K' x) : qRv r K → qRv r K' := by
  unfold qRv; split; (all_goals first | exact h _)
theorem qCmp_mono {c : Jvm.ClassFile.Cond} {x y : Int32} {T F T' F' : Prop} (hT : T → T') (hF : F → F') : qCmp c x y T F → qCmp c x y T' F' := by
  cases c <;> exact fun h => ⟨fun g => hT (h.1 g), fun g => hF (h.2 g)⟩
theorem qTs_mono {K K' : Nat → Prop} {x : Int32} {d : Nat} (h : ∀ t, K t → K' t) : ∀ (l : List Nat) (v : Int), qTs K x d v l → qTs K' x d v l
  | [], _ => h _
  | _ :: r, v => fun g => ⟨fun e => h _ (g.1 e), fun e => qTs_mono h r (v + 1) (g.2 e)⟩
theorem qLs_mono {K K' : Nat → Prop} {x : Int32} {d : Nat} (h : ∀ t, K t → K' t) : ∀ (q : List (Int × Int)) (l : List Nat), qLs K x d q l → qLs K' x d q l
  | [], [] => h _
  | [], _ :: _ => id
  | _ :: _, [] => id
  | (_, _) :: q, _ :: r => fun g => ⟨fun e => h _ (g.1 e), fun e => qLs_mono h q r (g.2 e)⟩
theorem qD1_mono {st : List Value} {K K' : Value → List Value → Prop} (h : ∀ x r, K x r → K' x r) : qD1 st K → qD1 st K' := by
  unfold qD1; split; (all_goals first | exact qB_mono (h _ _) | exact id)
theorem qD2_mono {st : List Value} {K K' : List Value → Prop} (h : ∀ r, K r → K' r) : qD2 st K → qD2 st K' := by
  unfold qD2; split
  · split
    · exact h _
    · split; (all_goals first | exact qB_mono (h _) | exact id)
  · exact id
theorem qSpl_mono {K K' : List Value → List Value → Prop} (h : ∀ x r, K x r → K' x r) : ∀ (n : Nat) (st a : List Value), qSpl st n a K → qSpl st n a K'
  | 0, st, a => by cases st <;> exact h _ _
  | _ + 1, [], _ => id
  | n + 1, v :: r, a => qSpl_mono h n r (v :: a)
theorem qRcv_mono {w : qW} {k : Nat} {a : List Value} {A A' : Prop} (h : A → A') : qRcv w k a A → qRcv w k a A' := by
  unfold qRcv; split
  · exact h
  · split; (all_goals first | exact qB_mono h | exact id)
theorem qRt_le {X X' : qS → Prop} (hX : ∀ s, X s → X' s) (n : Nat) (ls : qL) (r : List Value) (rt : Nat) : qLe (qRt X n ls r rt) (qRt X' n ls r rt) := by
  unfold qRt; split <;> refine ⟨fun _ _ h => ?_, fun _ _ h => ?_, fun _ h => ?_, fun _ _ h => ?_⟩ <;> first | exact hX _ h | exact h.elim
theorem qInv_mono {C C' : qC} {X X' : qS → Prop} (hC : qMo2 C C') (hX : ∀ s, X s → X' s) {n : Nat} {au : List Nat} {ls : qL} {st : List Value} {w : qW} : qInv C X n au ls st w → qInv C' X' n au ls st w := by
  unfold qInv; split
  · exact qSpl_mono (fun a r => qRcv_mono (hC _ _ _ _ _ (qRt_le hX _ _ _ _))) _ _ _
  · split
    · exact q1r_mono fun _ _ => hX _
    · exact qCpS_mono fun _ _ _ _ _ _ => qB_mono (qB_mono (And.imp_right (hX _)))
    · exact qCpS_mono fun _ _ _ _ _ _ => qB_mono (qB_mono (And.imp_right (hX _)))
    · exact q1r_mono fun _ _ => qB_mono (hX _)
    · exact qir_mono fun _ _ _ => qB_mono (And.imp_right (hX _))
    · exact qir_mono fun _ _ _ => qB_mono (hX _)
    · exact id
theorem qAld_mono {w : qW} {c k : Nat} {i : Int32} {A A' : Nat → Prop} (h : ∀ j, A j → A' j) : qAld w c i A k → qAld w c i A' k := by
  unfold qAld; split <;> exact qB_mono (And.imp_right (h _))
theorem qAst_mono {w : qW} {c k : Nat} {i : Int32} {A A' : Nat → Prop} (h : ∀ j, A j → A' j) : qAst w c i A k → qAst w c i A' k := qB_mono (And.imp_right (h _))
set_option maxHeartbeats 2000000 in
theorem qEx_mono {C C' : qC} {Q Q' : qQ} {X X' : qS → Prop} (hC : qMo2 C C') (hQ : qLe Q Q') (hX : ∀ s, X s → X' s) {n : Nat} {ins : Instr} {au : List Nat} {cs : Int} {ls : qL} {st : List Value} {w : qW} : qEx C Q X n ins au cs ls st w → qEx C' Q' X' n ins au cs ls st w := by
  unfold qEx
  split
  all_goals first
    | exact hX _
    | exact id
    | exact qLi_mono fun _ => hX _
    | exact qLl_mono fun _ => hX _
    | exact qLa_mono fun _ => hX _
    | exact q1i_mono fun _ _ => hX _
    | exact q1l_mono fun _ _ => hX _
    | exact q1a_mono fun _ _ => hX _
    | exact q2i_mono fun _ _ _ => hX _
    | exact q2l_mono fun _ _ _ => hX _
    | exact qil_mono fun _ _ _ => hX _
    | exact q2i_mono fun _ _ _ => And.imp_right (hX _)
    | exact q2l_mono fun _ _ _ => And.imp_right (hX _)
    | exact qD1_mono fun _ _ => hX _
    | exact qD2_mono fun _ => hX _
    | exact q2i_mono fun _ _ _ => qCmp_mono (hX _) (hX _)
    | exact q1i_mono fun _ _ => qCmp_mono (hX _) (hX _)
    | exact qInv_mono hC hX
    | exact qir_mono fun _ _ _ => qAld_mono fun _ => hX _
    | exact qir_mono fun _ _ _ => qAst_mono fun _ => hX _
    | exact qir_mono fun _ _ _ => qAst_mono fun _ => qRv_mono fun _ => hX _
    | exact qiir_mono fun _ _ _ _ => qAst_mono fun _ => hX _
    | exact qiir_mono fun _ _ _ _ => qAst_mono fun _ => And.imp_right (hX _)
    | exact qlir_mono fun _ _ _ _ => qAst_mono fun _ => hX _
    | exact qrir_mono fun _ _ _ _ => qB_mono (qAst_mono fun _ => hX _)
    | exact qB_mono (hX _)
    | exact q1i_mono fun _ _ => qB_mono (And.imp_right (hX _))
    | (split <;> first | exact hX _ | exact id | exact hQ.2.1 _ _ | exact hQ.2.2.1 _ | exact hQ.2.2.2 _ _ | exact qir_mono fun _ _ _ => qB_mono (hX _) | exact qir_mono fun _ _ _ => qB_mono (And.imp_right (hX _)) | exact qlr_mono fun _ _ _ => qB_mono (hX _) | exact qrr_mono fun _ _ _ => qB_mono (hX _) | (split <;> first | exact hQ.1 _ _ | exact And.imp_right (hQ.1 _ _)))
    | exact q1i_mono fun _ _ => by split; (all_goals first | exact qTs_mono (fun _ => hX _) _ _ | exact qLs_mono (fun _ => hX _) _ _ | exact id)
    | exact q1r_mono fun _ _ => qB_mono (by split <;> first | exact hX _ | exact qRv_mono fun _ => hX _)
    | exact q1r_mono fun _ _ => by split <;> first | exact hX _ | exact qB_mono (hX _)
theorem qP_mono {C C' : qC} {cd : List qI} {Q Q' : qQ} {X X' : qS → Prop} (hC : qMo2 C C') (hQ : qLe Q Q') (hX : ∀ s, X s → X' s) {s : qS} : qP C cd Q X s → qP C' cd Q' X' s := by
  unfold qP; split
  · exact id
  · exact qEx_mono hC hQ hX
theorem qWp_mono {C C' : qC} {cd : List qI} {Q Q' : qQ} (hC : qMo2 C C') (hQ : qLe Q Q') {s : qS} (h : qWp C cd Q s) : qWp C' cd Q' s :=
  fun X hX => h X (fun s g => hX s (qP_mono hC hQ (fun _ => id) g))
theorem qCall_mono : ∀ d, qMono (qCall d)
  | 0 => fun _ _ _ _ _ _ h => h
  | d + 1 => fun M a w Q Q' hQ h => by
    unfold qCall at h ⊢
    split at h
    · exact h.elim
    · exact qWp_mono (qCall_mono d) hQ h
theorem qWp_step {C : qC} {cd : List qI} {Q : qQ} (hC : qMono C) {s : qS} (h : qP C cd Q (qWp C cd Q) s) : qWp C cd Q s :=
  fun X hX => hX s (qP_mono hC ⟨fun _ _ => id, fun _ _ => id, fun _ => id, fun _ _ => id⟩ (fun s' g => g X hX) h)
theorem qTree_sound {C : qC} {cd : List qI} {Q : qQ} (hC : qMono C) (cuts : List Nat) : ∀ (k : Nat) (s : qS), qTree C cd Q cuts k s → qWp C cd Q s
  | 0, _ => False.elim
  | k + 1, s => fun h => qWp_step hC (qP_mono hC ⟨fun _ _ => id, fun _ _ => id, fun _ => id, fun _ _ => id⟩ (fun s' g => by
      revert g; split
      · exact id
      · exact qTree_sound hC cuts k s') h)
/-- more depth does no harm -/
theorem qCall_succ : ∀ d, qMo2 (qCall d) (qCall (d + 1))
  | 0 => fun _ _ _ _ _ _ h => h.elim
  | d + 1 => fun M a w Q Q' hQ h => by
    unfold qCall at h ⊢
    split at h
    · exact h.elim
    · rename_i m hm
      exact qWp_mono (qCall_succ d) hQ h
theorem qCall_le {d d' : Nat} (h : d ≤ d') : qMo2 (qCall d) (qCall d') := by
  induction h with
  | refl => exact qCall_mono d
  | step _ ih => exact fun M a w Q Q' hQ g => qCall_succ _ M a w Q' Q' ⟨fun _ _ => id, fun _ _ => id, fun _ => id, fun _ _ => id⟩ (ih M a w Q Q' hQ g)
/-- a method's entry -/
theorem qCall_of {d M : Nat} {a : List Value} {w : qW} {Q : qQ} {cd : List qI} {mL : Nat} (hm : qMt M = some (cd, mL)) (cuts : List Nat) (k : Nat) (h : qTree (qCall d) cd Q cuts k (0, qPad (qArgs a) mL, [], w)) : qCall (d + 1) M a w Q := by
  unfold qCall
  rw [hm]
  exact qTree_sound (qCall_mono d) cuts k _ h
