/-! The step theorem: every instruction. -/
theorem z1604 {c f : Nat} (h : Nat.beq (Nat.add (Nat.mul 64 c) f) 1604 = true) (hf : f < 64) : c = 25 ∧ f = 4 := by
  have e1 : 64 * c + f = 1604 := Nat.eq_of_beq_eq_true h
  omega
section Main4
variable {p : Program} {l : Launch} {e : Env} {R : Room} {s : State} {m : MethodId} {args : Array Value} {below : List Frame} {meth : Method} {c : Code} {Z : State → Prop} {kc ks : Nat} {cc : ByteArray} {mL o base L d : Nat} {xs : Nat → Int32} {D : va_G} {dA : Nat → ClassId} {ad adV : Nat → Nat} {Ts : List Cond} {rt : Option FieldType} {C : qC} {Q : qQ}
/-- a method's ends -/
def zRet (p : Program) (l : Launch) (e : Env) (R : Room) (s : State) (m : MethodId) (args : Array Value) (below : List Frame) (meth : Method) (c : Code) (Z : State → Prop) (kc ks : Nat) (cc : ByteArray) (base : Nat) (D : va_G) (dA : Nat → ClassId) (ad : Nat → Nat) (rt : Option FieldType) (Q : qQ) : Prop :=
  (∀ H locs lr w x pc, decode cc pc = .ok (.ireturn, 1) → (rt = some .int ∨ (rt = some .boolean ∧ qZb x = true)) → Q.1 x w → va_P D zCl (zWs dA ad w) H → va_S (fun a => base ≤ a) s.heap H locs → W p l e R s m args below meth c H locs kc ks Z (F0 m pc lr [.int x])) ∧
  (∀ H locs lr w x pc, decode cc pc = .ok (.lreturn, 1) → rt = some .long → Q.2.1 x w → va_P D zCl (zWs dA ad w) H → va_S (fun a => base ≤ a) s.heap H locs → W p l e R s m args below meth c H locs kc ks Z (F0 m pc lr [.long x])) ∧
  (∀ H locs lr w pc, decode cc pc = .ok (.return_, 1) → rt = none → Q.2.2.1 w → va_P D zCl (zWs dA ad w) H → va_S (fun a => base ≤ a) s.heap H locs → W p l e R s m args below meth c H locs kc ks Z (F0 m pc lr [])) ∧
  (∀ H locs lr w r pc, decode cc pc = .ok (.areturn, 1) → (∃ n, rt = some (.object n)) → Q.2.2.2 r w → va_P D zCl (zWs dA ad w) H → va_S (fun a => base ≤ a) s.heap H locs → W p l e R s m args below meth c H locs kc ks Z (F0 m pc lr [va_rf (r.map ad)]))
set_option maxHeartbeats 4000000 in
theorem zStep (hkc : kc ≤ R.cells ∧ ks ≤ R.slots) (hM0 : zMl.all (fun q => zMok q.2) = true) (hc : zC p s m args c cc mL o base L xs D dA ad adV Ts) (hR : d + 1 ≤ R.frames ∧ 64 * d + 64 ≤ R.locals) (hStr : zStrs l d D dA ad adV base L xs)
    (hCall : ∀ M a w Q', C M a w Q' → ∀ mi : zMI, zMi M = some mi → Met l mi.1 (zWm mi.1 mi.2.1 mi.2.2.1 mi.2.2.2.1) (zRm d) (zPc D dA ad adV base L xs a w) (zQc D dA ad base Q') 0 0 (fun q => base ≤ q))
    (hRet : zRet p l e R s m args below meth c Z kc ks cc base D dA ad rt Q)
    {ls : qL} {st : List Value} {w : qW} {pc nx : Nat} {ins : Instr} {au : List Nat} {cs : Int} (hi : zOkI o cc mL rt (pc, ins, nx, au, cs) = true)
    (h : qEx (some (L, xs)) C Q (zX p l e R s m args below meth c Z kc ks mL base D dA ad) nx ins au cs ls st w) : zX p l e R s m args below meth c Z kc ks mL base D dA ad (pc, ls, st, w) := by
  intro H locs lr hP hS hl
  show W p l e R s m args below meth c H locs kc ks Z (F0 m pc lr (st.map (zV ad)))
  have hP : va_P D zCl (zWs dA ad w) H := hP
  have hl : zLv ad ls lr mL := hl
  obtain ⟨hx, hb, hml, hown, hts, hg, hE, hO, hA⟩ := id hc
  have W1 : ∀ w, w ∈ lw_tbl → goodWord w = true → w.before args s = true := fun w h1 h2 => hts w (hg w (zGw_in h1 h2))
  cases ins
  case iconst n => obtain ⟨hd, rfl, ho⟩ := zOk1 rfl hi; exact lv_iconst hx hb hd (of_decide_eq_true ho) (h H locs lr hP hS hl)
  case bipush n => obtain ⟨hd, rfl, ho⟩ := zOk1 rfl hi; exact lv_bipush hx hb hd (of_decide_eq_true ho) (h H locs lr hP hS hl)
  case sipush n => obtain ⟨hd, rfl, ho⟩ := zOk1 rfl hi; exact lv_sipush hx hb hd (of_decide_eq_true ho) (h H locs lr hP hS hl)
  case lconst n => obtain ⟨hd, rfl, ho⟩ := zOk1 rfl hi; exact lv_lconst hx hb hd (of_decide_eq_true ho) (h H locs lr hP hS hl)
  case aconst_null => obtain ⟨hd, rfl, ho⟩ := zOk1 rfl hi; exact lv_null hx hb hd (h H locs lr hP hS hl)
  case ldc idx =>
    obtain ⟨hd, rfl, ho⟩ := zOk1 rfl hi
    cases au with
    | nil =>
      have ho : (match zLk (zKi o) idx with | some (v, p) => decide (v = cs) && decide (zPk p = some (.constant (zOwn o) idx (qCi cs))) | none => false) = true := ho
      split at ho
      · simp only [Bool.and_eq_true, decide_eq_true_eq] at ho
        exact lv_ldc hx hb hown (W1 _ (zPk_in ho.2) rfl) hd (h H locs lr hP hS hl)
      · cases ho
    | cons q r =>
      have ho : (decide (o = 2) && Nat.ble 1000 q && decide (zSi[q - 1000]? = some idx)) = true := ho
      simp only [Bool.and_eq_true, decide_eq_true_eq] at ho
      obtain ⟨⟨h1, h2⟩, h3⟩ := ho
      obtain ⟨tx, hZ⟩ := hE.2.2 _ _ h3
      rw [Nat.add_sub_of_le (Nat.le_of_ble_eq_true h2)] at hZ
      subst h1
      exact va_ldcS hx hb hown hZ hd (h H locs lr hP hS hl)
  case ldc_w idx =>
    obtain ⟨hd, rfl, ho⟩ := zOk1 rfl hi
    cases au with
    | nil =>
      have ho : (match zLk (zKi o) idx with | some (v, p) => decide (v = cs) && decide (zPk p = some (.constant (zOwn o) idx (qCi cs))) | none => false) = true := ho
      split at ho
      · simp only [Bool.and_eq_true, decide_eq_true_eq] at ho
        exact lv_ldcw hx hb hown (W1 _ (zPk_in ho.2) rfl) hd (h H locs lr hP hS hl)
      · cases ho
    | cons q r => cases ho
  case ldc2_w idx =>
    obtain ⟨hd, rfl, ho⟩ := zOk1 rfl hi
    have ho : (match zLk (zKl o) idx with | some (v, p) => decide (v = cs) && decide (zPk p = some (.constantLong (zOwn o) idx (qCl cs))) | none => false) = true := ho
    split at ho
    · simp only [Bool.and_eq_true, decide_eq_true_eq] at ho
      exact lv_ldc2 hx hb hown (W1 _ (zPk_in ho.2) rfl) hd (h H locs lr hP hS hl)
    · cases ho
  case iload n => obtain ⟨hd, rfl, ho⟩ := zOk1 rfl hi; have e : q0 au = n := of_decide_eq_true ho; exact zs_iLoad hl h (fun x hxl hk => lv_iload hx hb hd (by rw [← e]; exact hxl) (hk H locs lr hP hS hl))
  case lload n => obtain ⟨hd, rfl, ho⟩ := zOk1 rfl hi; have e : q0 au = n := of_decide_eq_true ho; exact zs_lLoad hl h (fun x hxl hk => lv_lload hx hb hd (by rw [← e]; exact hxl) (hk H locs lr hP hS hl))
  case aload n => obtain ⟨hd, rfl, ho⟩ := zOk1 rfl hi; unfold qEx at h; dsimp only at h; have e : q0 au = n := of_decide_eq_true ho; exact zs_aLoad hl h (fun x hxl hk => lv_aload hx hb hd (by rw [← e]; exact hxl) (hk H locs lr hP hS hl)) (fun hxl hk => lv_aloadN hx hb hd (by rw [← e]; exact hxl) (hk H locs lr hP hS hl))
  case iload_n n => obtain ⟨hd, rfl, ho⟩ := zOk1 rfl hi; have e : q0 au = (n : Nat) := of_decide_eq_true ho; exact zs_iLoad hl h (fun x hxl hk => lv_iload_n hx hb hd e.symm hxl (hk H locs lr hP hS hl))
  case lload_n n => obtain ⟨hd, rfl, ho⟩ := zOk1 rfl hi; have e : q0 au = (n : Nat) := of_decide_eq_true ho; exact zs_lLoad hl h (fun x hxl hk => lv_lload_n hx hb hd e.symm hxl (hk H locs lr hP hS hl))
  case aload_n n => obtain ⟨hd, rfl, ho⟩ := zOk1 rfl hi; unfold qEx at h; dsimp only at h; have e : q0 au = (n : Nat) := of_decide_eq_true ho; exact zs_aLoad hl h (fun x hxl hk => lv_aload_n hx hb hd e.symm hxl (hk H locs lr hP hS hl)) (fun hxl hk => lv_aload_nN hx hb hd e.symm hxl (hk H locs lr hP hS hl))
  case istore n =>
    obtain ⟨hd, rfl, ho⟩ := zOk1 rfl hi
    have ho : (decide (q0 au = n) && decide (n < mL)) = true := ho
    simp only [Bool.and_eq_true, decide_eq_true_eq] at ho
    refine zs_1i h (fun x r hst hk => ?_)
    subst hst
    rw [qSt1K_eq, ho.1] at hk
    exact lv_istore hx hb hd hl.has ho.2 rfl (fun lr' hl' => hk H locs lr' hP hS (zLv.st1 (v := .int x) hl'))
  case istore_n n =>
    obtain ⟨hd, rfl, ho⟩ := zOk1 rfl hi
    have ho : (decide (q0 au = (n : Nat)) && decide ((n : Nat) < mL)) = true := ho
    simp only [Bool.and_eq_true, decide_eq_true_eq] at ho
    refine zs_1i h (fun x r hst hk => ?_)
    subst hst
    rw [qSt1K_eq, ho.1] at hk
    exact lv_istore_n hx hb hd rfl hl.has ho.2 rfl (fun lr' hl' => hk H locs lr' hP hS (zLv.st1 (v := .int x) hl'))
  case lstore n =>
    obtain ⟨hd, rfl, ho⟩ := zOk1 rfl hi
    have ho : (decide (q0 au = n) && decide (n + 1 < mL)) = true := ho
    simp only [Bool.and_eq_true, decide_eq_true_eq] at ho
    refine zs_1l h (fun x r hst hk => ?_)
    subst hst
    rw [qSt2K_eq, ho.1] at hk
    exact lv_lstore hx hb hd hl.has ho.2 rfl (fun lr' hl' => hk H locs lr' hP hS (zLv.st2 (v := .long x) hl'))
  case lstore_n n =>
    obtain ⟨hd, rfl, ho⟩ := zOk1 rfl hi
    have ho : (decide (q0 au = (n : Nat)) && decide ((n : Nat) + 1 < mL)) = true := ho
    simp only [Bool.and_eq_true, decide_eq_true_eq] at ho
    refine zs_1l h (fun x r hst hk => ?_)
    subst hst
    rw [qSt2K_eq, ho.1] at hk
    exact lv_lstore_n hx hb hd rfl hl.has ho.2 rfl (fun lr' hl' => hk H locs lr' hP hS (zLv.st2 (v := .long x) hl'))
  case astore n =>
    obtain ⟨hd, rfl, ho⟩ := zOk1 rfl hi
    have ho : (decide (q0 au = n) && decide (n < mL)) = true := ho
    simp only [Bool.and_eq_true, decide_eq_true_eq] at ho
    unfold qEx at h; dsimp only at h
    refine zs_1a h (fun x r hst hk => ?_) (fun r hst hk => ?_)
    · subst hst
      rw [qSt1K_eq, ho.1] at hk
      exact lv_astore hx hb hd hl.has ho.2 rfl (fun lr' hl' => hk H locs lr' hP hS (zLv.st1 (v := .ref x) hl'))
    · subst hst
      rw [qSt1K_eq, ho.1] at hk
      exact lv_astoreN hx hb hd hl.has ho.2 rfl (fun lr' hl' => hk H locs lr' hP hS (zLv.st1 (v := .null) hl'))
  case astore_n n =>
    obtain ⟨hd, rfl, ho⟩ := zOk1 rfl hi
    have ho : (decide (q0 au = (n : Nat)) && decide ((n : Nat) < mL)) = true := ho
    simp only [Bool.and_eq_true, decide_eq_true_eq] at ho
    unfold qEx at h; dsimp only at h
    refine zs_1a h (fun x r hst hk => ?_) (fun r hst hk => ?_)
    · subst hst
      rw [qSt1K_eq, ho.1] at hk
      exact lv_astore_n hx hb hd rfl hl.has ho.2 rfl (fun lr' hl' => hk H locs lr' hP hS (zLv.st1 (v := .ref x) hl'))
    · subst hst
      rw [qSt1K_eq, ho.1] at hk
      exact lv_astore_nN hx hb hd rfl hl.has ho.2 rfl (fun lr' hl' => hk H locs lr' hP hS (zLv.st1 (v := .null) hl'))
  case iinc n cc2 =>
    obtain ⟨hd, rfl, ho⟩ := zOk1 rfl hi
    have ho : (decide (q0 au = n) && decide (n < mL) && decide (Int32.ofInt cc2 = qCi cs)) = true := ho
    simp only [Bool.and_eq_true, decide_eq_true_eq] at ho
    obtain ⟨⟨h1, h2⟩, h3⟩ := ho
    unfold qEx at h
    dsimp only at h
    unfold qLi at h
    split at h
    · rename_i x hxl
      rw [qSt1K_eq, h1] at h
      rw [h1] at hxl
      have hmem := zPr_in (ad := ad) (n := 0) hxl
      rw [Nat.zero_add] at hmem
      obtain ⟨k, hk⟩ := List.getElem?_of_mem hmem
      exact lv_iinc (k := k) hx hb hd hl.has hk (by rw [h3]) h2 rfl (fun lr' hl' => h H locs lr' hP hS (zLv.st1 (v := .int (x + qCi cs)) hl'))
    · exact h.elim
  case iadd => obtain ⟨hd, rfl, ho⟩ := zOk1 rfl hi; exact zs_2i h (fun x y r hst hk => by subst hst; exact lv_iadd hx hb hd (hk H locs lr hP hS hl))
  case isub => obtain ⟨hd, rfl, ho⟩ := zOk1 rfl hi; exact zs_2i h (fun x y r hst hk => by subst hst; exact lv_isub hx hb hd (hk H locs lr hP hS hl))
  case imul => obtain ⟨hd, rfl, ho⟩ := zOk1 rfl hi; exact zs_2i h (fun x y r hst hk => by subst hst; exact lv_imul hx hb hd (hk H locs lr hP hS hl))
  case iand => obtain ⟨hd, rfl, ho⟩ := zOk1 rfl hi; exact zs_2i h (fun x y r hst hk => by subst hst; exact lv_iand hx hb hd (hk H locs lr hP hS hl))
  case ior => obtain ⟨hd, rfl, ho⟩ := zOk1 rfl hi; exact zs_2i h (fun x y r hst hk => by subst hst; exact lv_ior hx hb hd (hk H locs lr hP hS hl))
  case ixor => obtain ⟨hd, rfl, ho⟩ := zOk1 rfl hi; exact zs_2i h (fun x y r hst hk => by subst hst; exact lv_ixor hx hb hd (hk H locs lr hP hS hl))
  case idiv => obtain ⟨hd, rfl, ho⟩ := zOk1 rfl hi; exact zs_2i h (fun x y r hst hk => by subst hst; exact lv_idiv hx hb hd hk.1 (hk.2 H locs lr hP hS hl))
  case irem => obtain ⟨hd, rfl, ho⟩ := zOk1 rfl hi; exact zs_2i h (fun x y r hst hk => by subst hst; exact lv_irem hx hb hd hk.1 (hk.2 H locs lr hP hS hl))
  case ishl => obtain ⟨hd, rfl, ho⟩ := zOk1 rfl hi; exact zs_2i h (fun x y r hst hk => by subst hst; exact lv_ishl hx hb hd (hk H locs lr hP hS hl))
  case ishr => obtain ⟨hd, rfl, ho⟩ := zOk1 rfl hi; exact zs_2i h (fun x y r hst hk => by subst hst; exact lv_ishr hx hb hd (hk H locs lr hP hS hl))
  case iushr => obtain ⟨hd, rfl, ho⟩ := zOk1 rfl hi; exact zs_2i h (fun x y r hst hk => by subst hst; exact lv_iushr hx hb hd rfl (hk H locs lr hP hS hl))
  case ineg => obtain ⟨hd, rfl, ho⟩ := zOk1 rfl hi; exact zs_1i h (fun x r hst hk => by subst hst; exact lv_ineg hx hb hd (hk H locs lr hP hS hl))
  case ladd => obtain ⟨hd, rfl, ho⟩ := zOk1 rfl hi; exact zs_2l h (fun x y r hst hk => by subst hst; exact lv_ladd hx hb hd (hk H locs lr hP hS hl))
  case lsub => obtain ⟨hd, rfl, ho⟩ := zOk1 rfl hi; exact zs_2l h (fun x y r hst hk => by subst hst; exact lv_lsub hx hb hd (hk H locs lr hP hS hl))
  case lmul => obtain ⟨hd, rfl, ho⟩ := zOk1 rfl hi; exact zs_2l h (fun x y r hst hk => by subst hst; exact lv_lmul hx hb hd (hk H locs lr hP hS hl))
  case land => obtain ⟨hd, rfl, ho⟩ := zOk1 rfl hi; exact zs_2l h (fun x y r hst hk => by subst hst; exact lv_land hx hb hd (hk H locs lr hP hS hl))
  case lor => obtain ⟨hd, rfl, ho⟩ := zOk1 rfl hi; exact zs_2l h (fun x y r hst hk => by subst hst; exact lv_lor hx hb hd (hk H locs lr hP hS hl))
  case lxor => obtain ⟨hd, rfl, ho⟩ := zOk1 rfl hi; exact zs_2l h (fun x y r hst hk => by subst hst; exact lv_lxor hx hb hd (hk H locs lr hP hS hl))
  case ldiv => obtain ⟨hd, rfl, ho⟩ := zOk1 rfl hi; exact zs_2l h (fun x y r hst hk => by subst hst; exact lv_ldiv hx hb hd hk.1 (hk.2 H locs lr hP hS hl))
  case lrem => obtain ⟨hd, rfl, ho⟩ := zOk1 rfl hi; exact zs_2l h (fun x y r hst hk => by subst hst; exact lv_lrem hx hb hd hk.1 (hk.2 H locs lr hP hS hl))
  case lshl => obtain ⟨hd, rfl, ho⟩ := zOk1 rfl hi; exact zs_il h (fun x y r hst hk => by subst hst; exact lv_lshl hx hb hd rfl (hk H locs lr hP hS hl))
  case lshr => obtain ⟨hd, rfl, ho⟩ := zOk1 rfl hi; exact zs_il h (fun x y r hst hk => by subst hst; exact lv_lshr hx hb hd rfl (hk H locs lr hP hS hl))
  case lushr => obtain ⟨hd, rfl, ho⟩ := zOk1 rfl hi; exact zs_il h (fun x y r hst hk => by subst hst; exact lv_lushr hx hb hd rfl (hk H locs lr hP hS hl))
  case lneg => obtain ⟨hd, rfl, ho⟩ := zOk1 rfl hi; exact zs_1l h (fun x r hst hk => by subst hst; exact lv_lneg hx hb hd (hk H locs lr hP hS hl))
  case i2l => obtain ⟨hd, rfl, ho⟩ := zOk1 rfl hi; exact zs_1i h (fun x r hst hk => by subst hst; exact lv_i2l hx hb hd rfl (hk H locs lr hP hS hl))
  case l2i => obtain ⟨hd, rfl, ho⟩ := zOk1 rfl hi; exact zs_1l h (fun x r hst hk => by subst hst; exact lv_l2i hx hb hd rfl (hk H locs lr hP hS hl))
  case i2c => obtain ⟨hd, rfl, ho⟩ := zOk1 rfl hi; exact zs_1i h (fun x r hst hk => by subst hst; exact lv_i2c hx hb hd rfl (hk H locs lr hP hS hl))
  case lcmp => obtain ⟨hd, rfl, ho⟩ := zOk1 rfl hi; exact zs_2l h (fun x y r hst hk => by subst hst; exact W.lcmp hx hb hd (hk H locs lr hP hS hl))
  case dup =>
    obtain ⟨hd, rfl, ho⟩ := zOk1 rfl hi
    unfold qEx at h; dsimp only at h; unfold qD1 at h
    split at h
    · obtain ⟨h1, h⟩ := zQB h
      exact lv_dup hx hb hd (by rw [zV_cat]; exact Nat.eq_of_beq_eq_true h1) (h H locs lr hP hS hl)
    · exact h.elim
  case pop =>
    obtain ⟨hd, rfl, ho⟩ := zOk1 rfl hi
    unfold qEx at h; dsimp only at h; unfold qD1 at h
    split at h
    · obtain ⟨h1, h⟩ := zQB h
      exact lv_pop hx hb hd (by rw [zV_cat]; exact Nat.eq_of_beq_eq_true h1) (h H locs lr hP hS hl)
    · exact h.elim
  case dup2 =>
    obtain ⟨hd, rfl, ho⟩ := zOk1 rfl hi
    unfold qEx at h; dsimp only at h; unfold qD2 at h
    split at h
    · rename_i v r
      split at h
      · rename_i h1
        exact lv_dup2_2 hx hb hd (by rw [zV_cat]; exact Nat.eq_of_beq_eq_true h1) (h H locs lr hP hS hl)
      · rename_i h1
        split at h
        · rename_i u r'
          obtain ⟨h2, h⟩ := zQB h
          have hv1 : v.category = 1 := by
            rcases lv_cat v with g | g
            · exact g
            · rw [g] at h1; cases h1
          exact lv_dup2_11 hx hb hd (by rw [zV_cat]; exact hv1) (by rw [zV_cat]; exact Nat.eq_of_beq_eq_true h2) (h H locs lr hP hS hl)
        · exact h.elim
    · exact h.elim
  case goto off => obtain ⟨hd, rfl, ho⟩ := zOk1 rfl hi; exact lv_goto hx hb hd (of_decide_eq_true ho) (h H locs lr hP hS hl)
  case if_icmp cd off =>
    obtain ⟨hd, rfl, ho⟩ := zOk1 rfl hi
    refine zs_2i h (fun x y r hst hk => ?_)
    subst hst
    have ht := of_decide_eq_true ho
    cases cd
    · exact lv_icmp_eq hx hb hd ht (fun g => hk.1 g H locs lr hP hS hl) (fun g => hk.2 g H locs lr hP hS hl)
    · exact lv_icmp_ne hx hb hd ht (fun g => hk.1 g H locs lr hP hS hl) (fun g => hk.2 g H locs lr hP hS hl)
    · exact lv_icmp_lt hx hb hd ht (fun g => hk.1 g H locs lr hP hS hl) (fun g => hk.2 g H locs lr hP hS hl)
    · exact lv_icmp_ge hx hb hd ht (fun g => hk.1 g H locs lr hP hS hl) (fun g => hk.2 g H locs lr hP hS hl)
    · exact lv_icmp_gt hx hb hd ht (fun g => hk.1 g H locs lr hP hS hl) (fun g => hk.2 g H locs lr hP hS hl)
    · exact lv_icmp_le hx hb hd ht (fun g => hk.1 g H locs lr hP hS hl) (fun g => hk.2 g H locs lr hP hS hl)
  case ifCond cd off =>
    obtain ⟨hd, rfl, ho⟩ := zOk1 rfl hi
    refine zs_1i h (fun x r hst hk => ?_)
    subst hst
    have ht := of_decide_eq_true ho
    cases cd
    · exact lv_if_eq hx hb hd ht (fun g => hk.1 g H locs lr hP hS hl) (fun g => hk.2 g H locs lr hP hS hl)
    · exact lv_if_ne hx hb hd ht (fun g => hk.1 g H locs lr hP hS hl) (fun g => hk.2 g H locs lr hP hS hl)
    · exact lv_if_lt hx hb hd ht (fun g => hk.1 g H locs lr hP hS hl) (fun g => hk.2 g H locs lr hP hS hl)
    · exact lv_if_ge hx hb hd ht (fun g => hk.1 g H locs lr hP hS hl) (fun g => hk.2 g H locs lr hP hS hl)
    · exact lv_if_gt hx hb hd ht (fun g => hk.1 g H locs lr hP hS hl) (fun g => hk.2 g H locs lr hP hS hl)
    · exact lv_if_le hx hb hd ht (fun g => hk.1 g H locs lr hP hS hl) (fun g => hk.2 g H locs lr hP hS hl)
  case ifnull off =>
    obtain ⟨hd, rfl, ho⟩ := zOk1 rfl hi
    unfold qEx at h; dsimp only at h
    split at h
    · exact lv_ifnull hx hb hd (h H locs lr hP hS hl)
    · exact lv_ifnullN hx hb hd (of_decide_eq_true ho) (h H locs lr hP hS hl)
    · exact h.elim
  case new idx => unfold qEx at h; dsimp only at h; obtain ⟨h1, h⟩ := zQB h; cases h1
  case newarray t => exact zs_1i h (fun x r hst hk => by obtain ⟨h1, hk⟩ := zQB hk; cases h1)
  case anewarray t => exact zs_1i h (fun x r hst hk => by obtain ⟨h1, hk⟩ := zQB hk; cases h1)
  case invokespecial idx => obtain ⟨hd, rfl, ho⟩ := zOk1 rfl hi; cases ho
  case tableswitch df lo hi2 offs =>
    simp only [zOkI, Bool.and_eq_true, decide_eq_true_eq] at hi
    obtain ⟨⟨⟨⟨⟨hd, h1⟩, h2⟩, h3⟩, h4⟩, h5⟩ := hi
    unfold qEx at h; dsimp only at h
    refine zs_1i h (fun x r hst hk => ?_)
    subst hst
    cases au with
    | nil => exact hk.elim
    | cons dt ts =>
      have h3 : (pc : Int) + df = (dt : Int) := h3
      have h4 : offs.toList.map (fun x => (pc : Int) + x) = ts.map (fun n : Nat => (n : Int)) := h4
      have hlen : offs.size = ts.length := by have := congrArg List.length h4; simpa using this
      subst h1
      have hts2 := zTs (x := x) (d := dt) ts cs h5.1 (by rw [← hlen]; omega) hk
      by_cases g1 : x.toInt < cs
      · exact lv_tableOut hx hb hd (Or.inl g1) h3 (hts2.1 (Or.inl g1) H locs lr hP hS hl)
      · by_cases g2 : hi2 < x.toInt
        · exact lv_tableOut hx hb hd (Or.inr g2) h3 (hts2.1 (Or.inr (by omega)) H locs lr hP hS hl)
        · have hj : (x.toInt - cs).toNat < ts.length := by omega
          obtain ⟨t, ht⟩ : ∃ t, ts[(x.toInt - cs).toNat]? = some t := ⟨_, List.getElem?_eq_getElem hj⟩
          obtain ⟨off, hoff⟩ : ∃ off, offs[(x.toInt - cs).toNat]? = some off := ⟨_, Array.getElem?_eq_getElem (by omega)⟩
          have e1 : (offs.toList.map (fun x => (pc : Int) + x))[(x.toInt - cs).toNat]? = (ts.map (fun n : Nat => (n : Int)))[(x.toInt - cs).toNat]? := by rw [h4]
          rw [List.getElem?_map, List.getElem?_map, ht, Array.getElem?_toList, hoff] at e1
          exact lv_tableIn hx hb hd g1 g2 hoff (Option.some.inj e1) (hts2.2 _ t ht (by omega) H locs lr hP hS hl)
  case lookupswitch df ps =>
    simp only [zOkI, Bool.and_eq_true, decide_eq_true_eq] at hi
    obtain ⟨⟨⟨⟨⟨hd, h1⟩, h2⟩, h3⟩, h4⟩, h5⟩ := hi
    unfold qEx at h; dsimp only at h
    refine zs_1i h (fun x r hst hk => ?_)
    subst hst
    cases au with
    | nil => exact hk.elim
    | cons dt ts =>
      obtain ⟨off, t, g1, g2, g3⟩ := zLs (pc := (pc : Int)) (df := df) h1 ps.toList ts h4 h2 hk
      exact lv_lookup hx hb hd h3 g1 g2 (g3 H locs lr hP hS hl)
  case getfield idx =>
    obtain ⟨hd, rfl, ho⟩ := zOk1 rfl hi
    unfold qEx at h; dsimp only at h
    refine zs_1r h (fun c0 r hst hk => ?_)
    subst hst
    obtain ⟨ha, hk⟩ := zQB hk
    refine zs_get hc hP ho (zAl ha) hd ?_
    have hd3 : (pc + zLn (Instr.getfield idx)) = pc + 3 := rfl
    rw [hd3] at hk
    generalize q2 au = so at hk ⊢
    match so, hk with
    | 0, hk => exact hk H locs lr hP hS hl
    | 1, hk => exact hk H locs lr hP hS hl
    | 2, hk => exact hk H locs lr hP hS hl
    | 3, hk =>
      show W p l e R s m args below meth c H locs kc ks Z (F0 m (pc + 3) lr (va_rf ((zRf w c0 (q1 au)).map ad) :: r.map (zV ad)))
      have hk : qGr (some (L, xs)) w c0 (q1 au) (fun d => zX p l e R s m args below meth c Z kc ks mL base D dA ad (pc + 3, ls, .ref d :: r, w)) (zX p l e R s m args below meth c Z kc ks mL base D dA ad (pc + 3, ls, .null :: r, w)) := hk
      unfold qGr at hk
      dsimp only at hk
      unfold zRf
      split at hk
      · rename_i hb1
        rw [hb1]
        obtain ⟨t, ht, hk⟩ := hk
        dsimp only
        rw [ht]
        exact hk H locs lr hP hS hl
      · rename_i hb1
        rw [hb1]
        dsimp only
        unfold qRv at hk
        split at hk
        · rename_i t ht
          rw [ht]
          exact hk H locs lr hP hS hl
        · rename_i ht
          rw [ht]
          exact hk H locs lr hP hS hl
    | n + 4, hk => exact hk H locs lr hP hS hl
  case putfield idx =>
    obtain ⟨hd, rfl, ho⟩ := zOk1 rfl hi
    have ho : zFo o idx au true = true := ho
    unfold qEx at h; dsimp only at h
    have hd3 : (pc + zLn (Instr.putfield idx)) = pc + 3 := rfl
    rw [hd3] at h
    split at h
    · rename_i hso
      refine zs_ir h (fun c0 v r hst hk => ?_)
      subst hst
      obtain ⟨ha, hk⟩ := zQB hk
      refine zs_put hc hP hS (v := .int v) (w' := qPutI w c0 (q1 au) v) ho (zAl ha) hd ?_ ?_ (fun c' h => zCe_I h) ?_ (fun H1 locs1 p1 s1 => hk H1 locs1 lr p1 s1 hl)
      · rw [hso]; simp [zFv, qPutI]
      · intro f' so' hf'; unfold zFv zRf; split <;> simp [qPutI, hf']
      · intro k _ hk2; rw [hso] at hk2; have := zSoB_ok hk2; simp only [zSoB, decide_eq_true_eq] at this; rw [this]; exact ⟨rfl, rfl⟩
    · rename_i hso
      refine zs_ir h (fun c0 v r hst hk => ?_)
      subst hst
      obtain ⟨ha, hk⟩ := zQB hk
      obtain ⟨hz, hk⟩ := zQB hk
      refine zs_put hc hP hS (v := .int v) (w' := qPutI w c0 (q1 au) v) ho (zAl ha) hd ?_ ?_ (fun c' h => zCe_I h) ?_ (fun H1 locs1 p1 s1 => hk H1 locs1 lr p1 s1 hl)
      · rw [hso]; simp [zFv, qPutI]
      · intro f' so' hf'; unfold zFv zRf; split <;> simp [qPutI, hf']
      · intro k _ hk2; rw [hso] at hk2; have := zSoB_ok hk2; simp only [zSoB, decide_eq_true_eq] at this; rw [this]; exact ⟨(zZb hz).2.1, (zZb hz).2.2.1⟩
    · rename_i hso
      refine zs_lr h (fun c0 v r hst hk => ?_)
      subst hst
      obtain ⟨ha, hk⟩ := zQB hk
      refine zs_put hc hP hS (v := .long v) (w' := qPutL w c0 (q1 au) v) ho (zAl ha) hd ?_ ?_ (fun c' h => zCe_L h) ?_ (fun H1 locs1 p1 s1 => hk H1 locs1 lr p1 s1 hl)
      · rw [hso]; simp [zFv, qPutL]
      · intro f' so' hf'; unfold zFv zRf; split <;> simp [qPutL, hf']
      · intro k _ hk2; rw [hso] at hk2; have := zSoB_ok hk2; simp only [zSoB, decide_eq_true_eq] at this; rw [this]; exact ⟨rfl, rfl⟩
    · rename_i hs0 hs1 hs2
      refine zs_rr h (fun c0 v r hst hk => ?_)
      subst hst
      obtain ⟨ha, hk⟩ := zQB hk
      obtain ⟨hq, hk⟩ := zQB hk
      have hlt := zFo_lt ho
      have hcf : c0 = 25 ∧ q1 au = 4 := z1604 hq hlt
      obtain ⟨rfl, hf4⟩ := hcf
      have hso : q2 au = 3 := by
        unfold zFo at ho
        split at ho
        · split at ho
          · simp only [Bool.and_eq_true, decide_eq_true_eq] at ho
            obtain ⟨⟨⟨⟨⟨e1, e2⟩, e3⟩, e4⟩, e5⟩, e6⟩ := ho
            have hkd := zAl ha
            have k25 : qKd 25 = 3 := by decide +kernel
            rw [k25] at hkd
            rename_i k f pq _ _ _ _
            have ek : k = 2 := by omega
            subst ek
            rw [← e2, hf4] at e5
            exact (Option.some.inj e5).symm
          · cases ho
        · cases ho
      rw [hf4] at hk
      refine zs_put hc hP hS (v := .ref (ad v)) (w' := qPutR w 25 4 (some v)) ho (zAl ha) hd ?_ ?_ (fun c' h => zCe_R h) ?_ (fun H1 locs1 p1 s1 => hk H1 locs1 lr p1 s1 hl)
      · rw [hso, hf4]; rfl
      · intro f' so' hf'; rw [hf4] at hf'; unfold zFv; split
        · rfl
        · have e1 : ∀ ww : qW, zRf ww 25 f' = qR0 25 f' := fun ww => by
            unfold zRf
            have : Nat.beq (Nat.add (Nat.mul 64 25) f') 1604 = false := by
              cases hb : Nat.beq (Nat.add (Nat.mul 64 25) f') 1604 with
              | false => rfl
              | true =>
                have e2 : 64 * 25 + f' = 1604 := Nat.eq_of_beq_eq_true hb
                omega
            rw [this]
          rw [e1, e1]
        · rfl
      · intro k _ hk2; rw [hso] at hk2; have := zSoB_ok hk2; simp only [zSoB] at this
        split at this
        · rename_i hY; rw [hY]; exact ⟨rfl, rfl⟩
        · rename_i hY; rw [hY]; exact ⟨rfl, rfl⟩
        · cases this
  case iaload =>
    obtain ⟨hd, rfl, ho⟩ := zOk1 rfl hi
    unfold qEx at h; dsimp only at h
    refine zs_ir h (fun c0 i r hst hk => ?_)
    subst hst
    unfold qAld at hk
    split at hk
    · rename_i hb1
      have e0 : c0 = 0 := Nat.eq_of_beq_eq_true hb1
      subst e0
      exact va_sld hx hb hO.1 (Nat.lt_of_lt_of_le hO.2.1 hO.2.2.1) (Nat.not_le.mpr hO.2.1) hS hk.1 hd (hk.2 H locs lr hP hS hl)
    · obtain ⟨ha, hin, hk⟩ := zQB hk
      exact zs_iald hc hP (zAl ha) hin hd (hk H locs lr hP hS hl)
  case baload =>
    obtain ⟨hd, rfl, ho⟩ := zOk1 rfl hi
    unfold qEx at h; dsimp only at h
    refine zs_ir h (fun c0 i r hst hk => ?_)
    subst hst
    unfold qAst at hk
    obtain ⟨ha, hin, hk⟩ := zQB hk
    exact zs_zald hc hP (zAl ha) hin hd (hk H locs lr hP hS hl)
  case laload =>
    obtain ⟨hd, rfl, ho⟩ := zOk1 rfl hi
    unfold qEx at h; dsimp only at h
    refine zs_ir h (fun c0 i r hst hk => ?_)
    subst hst
    unfold qAst at hk
    obtain ⟨ha, hin, hk⟩ := zQB hk
    exact zs_lald hc hP (zAl ha) hin hd (hk H locs lr hP hS hl)
  case aaload =>
    obtain ⟨hd, rfl, ho⟩ := zOk1 rfl hi
    unfold qEx at h; dsimp only at h
    refine zs_ir h (fun c0 i r hst hk => ?_)
    subst hst
    unfold qAst at hk
    obtain ⟨ha, hin, hk⟩ := zQB hk
    unfold qGa at hk
    obtain ⟨t, ht, hk⟩ := hk
    exact zs_aald hc hP (zAl ha) hin ht hd (hk H locs lr hP hS hl)
  case iastore =>
    obtain ⟨hd, rfl, ho⟩ := zOk1 rfl hi
    unfold qEx at h; dsimp only at h
    refine zs_iir h (fun c0 i v r hst hk => ?_)
    subst hst
    unfold qAst at hk
    obtain ⟨ha, hin, hk⟩ := zQB hk
    exact zs_iast hc hP hS (zAl ha) hin hd (fun H1 locs1 p1 s1 => hk H1 locs1 lr p1 s1 hl)
  case bastore =>
    obtain ⟨hd, rfl, ho⟩ := zOk1 rfl hi
    unfold qEx at h; dsimp only at h
    refine zs_iir h (fun c0 i v r hst hk => ?_)
    subst hst
    unfold qAst at hk
    obtain ⟨ha, hin, hk⟩ := zQB hk
    obtain ⟨hz, hk⟩ := zQB hk
    exact zs_zast hc hP hS (zAl ha) hin hz hd (fun H1 locs1 p1 s1 => hk H1 locs1 lr p1 s1 hl)
  case lastore =>
    obtain ⟨hd, rfl, ho⟩ := zOk1 rfl hi
    unfold qEx at h; dsimp only at h
    refine zs_lir h (fun c0 i v r hst hk => ?_)
    subst hst
    unfold qAst at hk
    obtain ⟨ha, hin, hk⟩ := zQB hk
    exact zs_last hc hP hS (zAl ha) hin hd (fun H1 locs1 p1 s1 => hk H1 locs1 lr p1 s1 hl)
  case aastore =>
    unfold qEx at h; dsimp only at h
    refine zs_rir h (fun c0 i v r hst hk => ?_)
    obtain ⟨ha, hk⟩ := zQB hk
    obtain ⟨hq, hk⟩ := zQB hk
    unfold qAst at hk
    obtain ⟨ha2, hin, hk⟩ := zQB hk
    exfalso
    have e1 := (z1604 hq (by omega)).2
    omega
  case arraylength =>
    obtain ⟨hd, rfl, ho⟩ := zOk1 rfl hi
    unfold qEx at h; dsimp only at h
    refine zs_1r h (fun c0 r hst hk => ?_)
    subst hst
    unfold qAln at hk
    split at hk
    · rename_i hb1
      have e0 : c0 = 0 := Nat.eq_of_beq_eq_true hb1
      subst e0
      exact va_slen hx hb hO.1 (Nat.lt_of_lt_of_le hO.2.1 hO.2.2.1) (Nat.not_le.mpr hO.2.1) hS hd (hk H locs lr hP hS hl)
    · rename_i hb1
      obtain ⟨ha, hk⟩ := zQB hk
      split at ha
      · rename_i h33
        exact zs_alen hc hP (fun e0 => by rw [e0] at hb1; cases hb1) (Nat.le_of_ble_eq_true h33) hd (hk H locs lr hP hS hl)
      · cases ha
  case invokevirtual idx =>
    obtain ⟨hd, rfl, ho⟩ := zOk1 rfl hi
    unfold qEx at h; dsimp only at h
    cases hb3 : Nat.ble (q2 au) 3 with
    | true =>
      unfold qInv at h; rw [hb3] at h
      exact zs_inv hkc hM0 hc hR hCall (virt := true) hP hS hl hb3 ho hd h
    | false => exact zs_spec hkc hc hR hStr (virt := true) hP hS hl hb3 ho hd h
  case invokestatic idx =>
    obtain ⟨hd, rfl, ho⟩ := zOk1 rfl hi
    unfold qEx at h; dsimp only at h
    cases hb3 : Nat.ble (q2 au) 3 with
    | true =>
      unfold qInv at h; rw [hb3] at h
      exact zs_inv hkc hM0 hc hR hCall (virt := false) hP hS hl hb3 ho hd h
    | false => exact zs_spec hkc hc hR hStr (virt := false) hP hS hl hb3 ho hd h
  case ireturn =>
    obtain ⟨hd, rfl, ho⟩ := zOk1 rfl hi
    unfold qEx at h; dsimp only at h
    split at h
    · rename_i x
      have ho : (match q0 au with | 0 => decide (rt = some .int) | _ => decide (rt = some .boolean)) = true := ho
      split at h
      · rename_i e0
        rw [e0] at ho
        exact hRet.1 H locs lr w x pc hd (Or.inl (of_decide_eq_true ho)) h hP hS
      · rename_i e0
        obtain ⟨hz, h⟩ := zQB h
        split at ho
        · rename_i e1; exact absurd e1 e0
        · exact hRet.1 H locs lr w x pc hd (Or.inr ⟨of_decide_eq_true ho, hz⟩) h hP hS
    · exact h.elim
  case lreturn =>
    obtain ⟨hd, rfl, ho⟩ := zOk1 rfl hi
    unfold qEx at h; dsimp only at h
    split at h
    · exact hRet.2.1 H locs lr w _ pc hd (of_decide_eq_true ho) h hP hS
    · exact h.elim
  case areturn =>
    obtain ⟨hd, rfl, ho⟩ := zOk1 rfl hi
    have hrt : ∃ n, rt = some (.object n) := by
      unfold zOp at ho
      dsimp only at ho
      split at ho
      · exact ⟨_, rfl⟩
      · cases ho
    unfold qEx at h; dsimp only at h
    split at h
    · rename_i c0
      exact hRet.2.2.2 H locs lr w (some c0) pc hd hrt h hP hS
    · exact hRet.2.2.2 H locs lr w none pc hd hrt h hP hS
    · exact h.elim
  case return_ =>
    obtain ⟨hd, rfl, ho⟩ := zOk1 rfl hi
    unfold qEx at h; dsimp only at h
    split at h
    · exact hRet.2.2.1 H locs lr w pc hd (of_decide_eq_true ho) h hP hS
    · exact h.elim
  all_goals exact False.elim h
end Main4
