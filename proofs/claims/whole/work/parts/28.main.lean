/-! One instruction of the small machine, on the machine: all of them. -/
def zSoB (k f so : Nat) : Bool := match so with
  | 0 => decide (zY k f = .int)
  | 1 => decide (zY k f = .boolean)
  | 2 => decide (zY k f = .long)
  | _ => match zY k f with
    | .object _ => true
    | .array _ => true
    | _ => false
theorem zSoB_ok {k f so : Nat} (h : ((zSo[k]?).bind (fun l => l[f]?)) = some so) : zSoB k f so = true := by
  have key : ∀ k : Fin 13, ∀ f : Fin 46, (match ((zSo[k.val]?).bind (fun l => l[f.val]?)) with | some so => zSoB k.val f.val so | none => true) = true := by decide +kernel
  obtain ⟨l, hl, hf⟩ := Option.bind_eq_some_iff.mp h
  have hk : k < 13 := (List.getElem?_eq_some_iff.mp hl).1
  have h7 := zSo_len k
  have e : zSo.getD k [] = l := by rw [List.getD_eq_getElem?_getD, hl]; rfl
  rw [e] at h7
  have hf46 : f < 46 := Nat.lt_of_lt_of_le (List.getElem?_eq_some_iff.mp hf).1 h7
  have := key ⟨k, hk⟩ ⟨f, hf46⟩
  dsimp only at this
  rw [h] at this
  exact this
/-- the JDK's members of text literals -/
def zStrs (l : Launch) (d : Nat) (D : va_G) (dA : Nat → ClassId) (ad adV : Nat → Nat) (base L : Nat) (xs : Nat → Int32) : Prop := ∀ i, i < 16 →
  Met l (zSm 13).1 (zWm (zSm 13).1 (zSm 13).2.1 (zSm 13).2.2.1 (zSm 13).2.2.2.1) (zRm d) (zPs D dA ad adV base L xs [.ref (ad (1000 + i))]) (QcRead (Int32.ofNat (qSt i).length)) 0 0 (fun _ => False) ∧
  (∀ x, qIn x (qSt i).length → Met l (zSm 14).1 (zWm (zSm 14).1 (zSm 14).2.1 (zSm 14).2.2.1 (zSm 14).2.2.2.1) (zRm d) (zPs D dA ad adV base L xs [.ref (ad (1000 + i)), .int x]) (QcRead (Int32.ofNat ((qSt i).getD (qIx x) 0))) 0 0 (fun _ => False)) ∧
  (∀ x, Met l (zSm 15).1 (zWm (zSm 15).1 (zSm 15).2.1 (zSm 15).2.2.1 (zSm 15).2.2.2.1) (zRm d) (zPs D dA ad adV base L xs [.ref (ad (1000 + i)), .int x]) (QcRead (qIof (qSt i) x 0)) 0 0 (fun _ => False))
/-- what the checker says of a method's own words -/
theorem zMok_ok {q : zMI} (h : zMok q = true) (hcd : zPk q.2.2.2.2.2.2.2.1 = some (.code q.1 q.2.1 q.2.2.1 q.2.2.2.1)) : Cond.code q.1 q.2.1 q.2.2.1 q.2.2.2.1 ∈ lw_tbl ∧ (if q.2.2.2.2.1 then Cond.static q.1 else Cond.instanceMethod q.1) ∈ lw_tbl ∧ (q.2.2.2.2.1 = false → Cond.selects q.1.cls q.1 q.1 ∈ lw_tbl) ∧ Cond.initialized q.1.cls ∈ lw_tbl ∧ zOwn q.2.2.2.2.2.2.1 = q.1.cls ∧ (q.1.cls ≠ "java/lang/invoke/MethodHandle" ∧ q.1.cls ≠ "java/lang/invoke/VarHandle" ∧ (parseMethodDescriptor q.1.desc).map (fun d => d.parameters.length) = some q.2.2.2.2.2.1) ∧ plainFor q.1 = true ∧ q.2.2.1 ≤ 24 := by
  obtain ⟨y, b, mL, rt, st, na, o, p1, p2, p3, p4⟩ := q
  dsimp only at hcd ⊢
  simp only [zMok, Bool.and_eq_true, decide_eq_true_eq, Bool.or_eq_true] at h
  obtain ⟨⟨⟨⟨⟨⟨h1, h2⟩, h3⟩, h4⟩, h5⟩, h6⟩, h7⟩ := h
  refine ⟨zPk_in hcd, zPk_in h1, fun hs => ?_, zPk_in h3, h4, h5, h6, h7⟩
  rcases h2 with g | g
  · rw [hs] at g; cases g
  · exact zPk_in g
theorem zCl_own : ∀ k : Fin 13, (zCl[k.val]?).map (fun q => q.1) = some (zOwn k.val) := by decide +kernel
section Main2
variable {p : Program} {l : Launch} {e : Env} {R : Room} {s : State} {m : MethodId} {args : Array Value} {below : List Frame} {meth : Method} {c : Code} {Z : State → Prop} {kc ks : Nat} {cc : ByteArray} {mL o base L d : Nat} {xs : Nat → Int32} {D : va_G} {dA : Nat → ClassId} {ad adV : Nat → Nat} {Ts : List Cond} {rt : Option FieldType} {C : qC} {Q : qQ}
/-- calls of methods -/
theorem zs_inv (hkc : kc ≤ R.cells ∧ ks ≤ R.slots) (hM0 : zMl.all (fun q => zMok q.2) = true) (hc : zC p s m args c cc mL o base L xs D dA ad adV Ts) (hR : d + 1 ≤ R.frames ∧ 64 * d + 64 ≤ R.locals)
    (hCall : ∀ M a w Q', C M a w Q' → ∀ mi : zMI, zMi M = some mi → Met l mi.1 (zWm mi.1 mi.2.1 mi.2.2.1 mi.2.2.2.1) (zRm d) (zPc D dA ad adV base L xs a w) (zQc D dA ad base Q') 0 0 (fun q => base ≤ q))
    {pc idx : Nat} {au : List Nat} {virt : Bool} {ls : qL} {st : List Value} {w : qW} {H : Heap} {locs : List Loc} {lr : Array Slot} (hP : va_P D zCl (zWs dA ad w) H) (hS : va_S (fun a => base ≤ a) s.heap H locs) (hl : zLv ad ls lr mL)
    (hb3 : Nat.ble (q2 au) 3 = true) (ho : zIv o idx au virt = true) (hd : decode cc pc = .ok (if virt then .invokevirtual idx else .invokestatic idx, 3))
    (h : qSpl st (q1 au) [] fun a r => qB (Nat.ble (qCat r) 8) (qRcv (some (L, xs)) w (q3 au) a (C (q0 au) a w (qRt (zX p l e R s m args below meth c Z kc ks mL base D dA ad) (pc + 3) ls r (q2 au))))) :
    W p l e R s m args below meth c H locs kc ks Z (F0 m pc lr (st.map (zV ad))) := by
  unfold zIv at ho
  rw [hb3] at ho
  dsimp only at ho
  split at ho
  · rename_i M nest pq hlk
    split at ho
    · rename_i y b2 mL2 rt2 stc na o2 pr hmi
      simp only [Bool.and_eq_true, decide_eq_true_eq, Bool.or_eq_true] at ho
      obtain ⟨⟨⟨⟨⟨⟨⟨h1, h2⟩, h3⟩, h4⟩, h5⟩, h6⟩, h7⟩, h8⟩ := ho
      obtain ⟨a, r, hst, hlen, hk⟩ := zSpl _ _ _ h
      obtain ⟨hcat, hk⟩ := zQB hk
      have hcat8 : ((r.map (zV ad)).map fun v => v.category).sum ≤ 8 := by rw [zCat]; exact Nat.le_of_ble_eq_true hcat
      rw [List.append_nil] at hk
      have hmem := zLk_mem hmi
      have hok := zMok_ok (List.all_eq_true.mp hM0 _ hmem) (zMc _ hmem)
      dsimp only at hok
      obtain ⟨k1, k2, k3, k4, k5, k6, k7, k8⟩ := hok
      rw [h1] at hk
      have hEO : ∀ U : State, U.heap = H → s.WarmedH U.vm → zPc D dA ad adV base L xs a.reverse w (a.reverse.map (zV ad)).toArray U := fun U hU hW =>
        ⟨rfl, by rw [hU]; exact hP, zEnv_warm hW hc.2.2.2.2.2.2.1, zOld_moved hW.alike (by rw [hU]; exact zOld_kept hc.2.2.2.2.2.2.2.1 hS)⟩
      have fin : ∀ {st0 : List Value} {a' : Array Value}, va_Run p l e R s m args below meth c H locs kc ks 0 0 (F0 m pc lr st0) (r.map (zV ad)) (zQc D dA ad base (qRt (zX p l e R s m args below meth c Z kc ks mL base D dA ad) (pc + 3) ls r (q2 au)) a') (fun q => base ≤ q) → W p l e R s m args below meth c H locs kc ks Z (F0 m pc lr st0) := by
        intro st0 a' hr
        have hq2 : q2 au ≤ 3 := Nat.le_of_ble_eq_true hb3
        refine zs_after hr hS ?_ ?_ ?_ ?_
        · intro x w' H1 locs1 hq p1 s1
          rcases (show q2 au = 0 ∨ q2 au = 1 ∨ q2 au = 2 ∨ q2 au = 3 by omega) with e | e | e | e <;> rw [e] at hq
          · exact hq H1 locs1 lr p1 s1 hl
          · exact hq.elim
          · exact hq.elim
          · exact hq.elim
        · intro x w' H1 locs1 hq p1 s1
          rcases (show q2 au = 0 ∨ q2 au = 1 ∨ q2 au = 2 ∨ q2 au = 3 by omega) with e | e | e | e <;> rw [e] at hq
          · exact hq.elim
          · exact hq H1 locs1 lr p1 s1 hl
          · exact hq.elim
          · exact hq.elim
        · intro w' H1 locs1 hq p1 s1
          rcases (show q2 au = 0 ∨ q2 au = 1 ∨ q2 au = 2 ∨ q2 au = 3 by omega) with e | e | e | e <;> rw [e] at hq
          · exact hq.elim
          · exact hq.elim
          · exact hq H1 locs1 lr p1 s1 hl
          · exact hq.elim
        · intro x w' H1 locs1 hq p1 s1
          rcases (show q2 au = 0 ∨ q2 au = 1 ∨ q2 au = 2 ∨ q2 au = 3 by omega) with e | e | e | e <;> rw [e] at hq
          · exact hq.elim
          · exact hq.elim
          · exact hq.elim
          · cases x with
            | none => exact hq.2 rfl H1 locs1 lr p1 s1 hl
            | some t => exact hq.1 t rfl H1 locs1 lr p1 s1 hl
      subst hst
      cases stc with
      | true =>
        have hv : virt = false := by cases virt <;> first | rfl | cases h2
        subst hv
        simp only [if_true] at h3 h4 k2
        have hk9 : C M a.reverse w (qRt (zX p l e R s m args below meth c Z kc ks mL base D dA ad) (pc + 3) ls r (q2 au)) := by
          unfold qRcv at hk; rw [h4] at hk; exact hk
        have hMet := hCall _ _ _ _ hk9 _ hmi
        have hd : decode cc pc = .ok (.invokestatic idx, 3) := hd
        have hsh : (a ++ r).map (zV ad) = (a.reverse.map (zV ad)).reverse ++ r.map (zV ad) := by simp
        rw [hsh]
        by_cases hn : nest = 0
        · rw [if_pos hn] at h6
          exact fin (zs_runS hc k1 k2 k4 (zPk_in h6) k6 k8 hR hMet ⟨zPc_blind, hEO⟩ (by simp [hlen, h3]) hl.1 hcat8 hd hkc)
        · rw [if_neg hn] at h6
          exact fin (zs_runN hc k1 k2 k4 (zPk_in h6) k6 k8 hR hMet ⟨zPc_blind, hEO⟩ (by simp [hlen, h3]) hl.1 hcat8 hd hkc)
      | false =>
        have hv : virt = true := by cases virt <;> first | rfl | cases h2
        subst hv
        have hn : nest = 0 := by
          rcases h7 with g | g
          · exact g
          · cases g
        have h13 : o2 < 13 := by
          rcases h8 with g | g
          · cases g
          · exact g
        rw [if_pos hn] at h6
        simp only [Bool.false_eq_true, if_false] at h3 h4 k2
        have hd : decode cc pc = .ok (.invokevirtual idx, 3) := hd
        unfold qRcv at hk
        have hne : Nat.beq (q3 au) 99 = false := by
          cases hb : Nat.beq (q3 au) 99 with
          | false => rfl
          | true => have e1 := Nat.eq_of_beq_eq_true hb; omega
        rw [hne] at hk
        dsimp only at hk
        split at hk
        · rename_i c0 tl hrev
          obtain ⟨ha, hk9⟩ := zQB hk
          have hkd := zAl ha
          rw [h4] at hkd
          obtain ⟨g1, g2⟩ := zPos hkd (by omega) (by omega)
          have he := zWs_at (dA := dA) (ad := ad) (w := w) g1 g2
          rw [zCe_o hkd h13] at he
          have hown2 := zCl_own ⟨o2, h13⟩
          cases hq : zCl[o2]? with
          | none => rw [show zCl[(⟨o2, h13⟩ : Fin 13).val]? = none from hq] at hown2; cases hown2
          | some q =>
            rw [show zCl[(⟨o2, h13⟩ : Fin 13).val]? = some q from hq] at hown2
            have hq1 : q.1 = y.cls := (Option.some.inj hown2).trans k5
            have hrecv := va_recv hc.2.2.2.2.2.2.1.1 hP hq he
            rw [hq1] at hrecv
            have hMet := hCall _ _ _ _ hk9 _ hmi
            have hsh : (a ++ r).map (zV ad) = (tl.map (zV ad)).reverse ++ .ref (ad c0) :: r.map (zV ad) := by
              have : a = tl.reverse ++ [.ref c0] := by rw [← List.reverse_reverse a, hrev]; simp
              rw [this]
              simp [zV]
            rw [hsh]
            refine fin (zs_runV hc k1 k2 (k3 rfl) k4 (zPk_in h6) k6 k8 hR hMet ⟨zPc_blind, hrecv, fun U hU hW => ?_⟩ ?_ hl.1 hcat8 hd hkc)
            · have := hEO U hU hW
              rw [hrev] at this ⊢
              exact this
            · have : a.length = tl.length + 1 := by rw [← List.length_reverse, hrev]; rfl
              simp
              omega
        · exact hk.elim
    · cases ho
  · cases ho
end Main2
