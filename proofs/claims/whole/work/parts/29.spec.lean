/-! The step theorem. -/
section Main3
variable {p : Program} {l : Launch} {e : Env} {R : Room} {s : State} {m : MethodId} {args : Array Value} {below : List Frame} {meth : Method} {c : Code} {Z : State → Prop} {kc ks : Nat} {cc : ByteArray} {mL o base L d : Nat} {xs : Nat → Int32} {D : va_G} {dA : Nat → ClassId} {ad adV : Nat → Nat} {Ts : List Cond} {rt : Option FieldType} {C : qC} {Q : qQ}
theorem zSx_k {idx k : Nat} {pq : Nat × Nat} (hlk : zLk (zSx o) idx = some (k, pq)) : k = 11 ∨ k = 13 ∨ k = 14 ∨ k = 15 := by
  have key : ∀ o : Fin 20, (zSx o.val).all (fun q => decide (q.2.1 = 11 ∨ q.2.1 = 13 ∨ q.2.1 = 14 ∨ q.2.1 = 15)) = true := by decide +kernel
  have hm := zLk_mem hlk
  rcases Nat.lt_or_ge o 20 with ho | ho
  · have := List.all_eq_true.mp (key ⟨o, ho⟩) _ hm
    simpa using this
  · unfold zSx at hm
    split at hm <;> first | omega | simp at hm
theorem zNf : nativeFrameWords "java/lang/System" "arraycopy" 5 + 11 ≤ 40 := by decide +kernel
/-- arraycopy, and the text literals' members -/
theorem zs_spec (hkc : kc ≤ R.cells ∧ ks ≤ R.slots) (hc : zC p s m args c cc mL o base L xs D dA ad adV Ts) (hR : d + 1 ≤ R.frames ∧ 64 * d + 64 ≤ R.locals) (hStr : zStrs l d D dA ad adV base L xs)
    {pc idx : Nat} {au : List Nat} {virt : Bool} {ls : qL} {st : List Value} {w : qW} {H : Heap} {locs : List Loc} {lr : Array Slot} (hP : va_P D zCl (zWs dA ad w) H) (hS : va_S (fun a => base ≤ a) s.heap H locs) (hl : zLv ad ls lr mL)
    (hb3 : Nat.ble (q2 au) 3 = false) (ho : zIv o idx au virt = true) (hd : decode cc pc = .ok (if virt then .invokevirtual idx else .invokestatic idx, 3))
    (h : qInv (some (L, xs)) C (zX p l e R s m args below meth c Z kc ks mL base D dA ad) (pc + 3) au ls st w) :
    W p l e R s m args below meth c H locs kc ks Z (F0 m pc lr (st.map (zV ad))) := by
  obtain ⟨hx, hb, hml, hown, hts, hg, hE, hO, hA⟩ := id hc
  unfold zIv at ho
  rw [hb3] at ho
  dsimp only at ho
  unfold qInv at h
  rw [hb3] at h
  dsimp only at h
  have W1 : ∀ w, w ∈ lw_tbl → goodWord w = true → w.before args s = true := fun w h1 h2 => hts w (hg w (zGw_in h1 h2))
  split at ho
  · rename_i k pq hlk
    simp only [Bool.and_eq_true, decide_eq_true_eq, Bool.or_eq_true] at ho
    obtain ⟨⟨h1, h2⟩, h3⟩ := ho
    have hlink : (Cond.methodLink (zOwn o) idx (zSn k)).before args s = true := W1 _ (zPk_in h2) rfl
    have hnat : (Cond.native arraycopyName).before args s = true := W1 _ (zPk_in (q := (6, 70)) rfl) rfl
    have hstat : (Cond.static arraycopyName).before args s = true := W1 _ (zPk_in (q := (6, 69)) rfl) rfl
    have hini : (Cond.initialized "java/lang/System").before args s = true := W1 _ (zPk_in (q := (1, 23)) rfl) rfl
    have hEO : ∀ (a : List Value) (U : State), U.heap = H → s.WarmedH U.vm → zPs D dA ad adV base L xs a a.toArray U := fun a U hU hW =>
        ⟨rfl, zEnv_warm hW hE, zOld_moved hW.alike (by rw [hU]; exact zOld_kept hO hS)⟩
    split at h
    · -- 10
      rename_i e10
      have hk := zSx_k hlk
      rcases h1 with g | ⟨g, _⟩ <;> omega
    · -- 11
      rename_i e11
      refine zs_cp h (fun a i dd j n r hst hk => ?_)
      obtain ⟨hcat, hk⟩ := zQB hk
      obtain ⟨ha1, hk⟩ := zQB hk
      obtain ⟨ha2, ⟨q1', q2', q3', q4', q5', q6'⟩, hk⟩ := zQB hk
      have hk11 : k = 11 := by rcases h1 with g | ⟨g, _⟩ <;> omega
      subst hk11
      have hv : virt = false := by simpa using h3
      subst hv
      subst hst
      have kd1 := zAl ha1
      have kd2 := zAl ha2
      obtain ⟨g1, g2⟩ := zPos kd1 (by omega) (by omega)
      obtain ⟨g3, g4⟩ := zPos kd2 (by omega) (by omega)
      have he1 := zWs_at (dA := dA) (ad := ad) (w := w) g1 g2
      have he2 := zWs_at (dA := dA) (ad := ad) (w := w) g3 g4
      rw [zCe_33 kd1] at he1
      rw [zCe_33 kd2] at he2
      have hcat8 : ((r.map (zV ad)).map fun v => v.category).sum ≤ 8 := by rw [zCat]; exact Nat.le_of_ble_eq_true hcat
      have hfr : 1 ≤ R.frames := by omega
      have hlo : ((r.map (zV ad)).map fun v => v.category).sum + (nativeFrameWords "java/lang/System" "arraycopy" 5 + 11) ≤ R.locals := by have := zNf; omega
      refine va_copyi hx hb (by rw [hml]; exact hl.1.symm) hown hlink hnat hstat hini hE.1 hP (zWs_D hA) hS (a - 1) (dd - 1) 0 0 he1 he2 rfl rfl rfl (Int32.not_lt.mpr q1') (Int32.not_lt.mpr q2') (Int32.not_lt.mpr q3') q4' q5' (fun _ _ => rfl) hfr hlo hd (fun H1 locs1 p1 _ s1 => hk H1 locs1 lr ?_ s1 hl)
      show va_P D zCl (zWs dA ad (qCpI w a (qIx i) dd (qIx j) (qIx n))) H1
      rw [zWs_set g3 g4 (fun c' h => zCe_cI h), zCe_33 kd2]
      have e1 : (fun j' => (qCpI w a (qIx i) dd (qIx j) (qIx n)).1 dd j') = va_cpy (fun j => w.1 a j) (fun j => w.1 dd j) i.toNatClampNeg j.toNatClampNeg n.toNatClampNeg := by
        funext j'; simp [qCpI, va_cpy, qIx]
      rw [e1]
      exact p1
    · -- 12
      rename_i e12
      refine zs_cp h (fun a i dd j n r hst hk => ?_)
      obtain ⟨hcat, hk⟩ := zQB hk
      obtain ⟨ha1, hk⟩ := zQB hk
      obtain ⟨ha2, ⟨q1', q2', q3', q4', q5', q6'⟩, hk⟩ := zQB hk
      have hk11 : k = 11 := by
        have := zSx_k hlk
        rcases h1 with g | ⟨_, g⟩ <;> omega
      subst hk11
      have hv : virt = false := by simpa using h3
      subst hv
      subst hst
      have kd1 := zAl ha1
      have kd2 := zAl ha2
      obtain ⟨g1, g2⟩ := zPos kd1 (by omega) (by omega)
      obtain ⟨g3, g4⟩ := zPos kd2 (by omega) (by omega)
      have he1 := zWs_at (dA := dA) (ad := ad) (w := w) g1 g2
      have he2 := zWs_at (dA := dA) (ad := ad) (w := w) g3 g4
      rw [zCe_35 kd1] at he1
      rw [zCe_35 kd2] at he2
      have hcat8 : ((r.map (zV ad)).map fun v => v.category).sum ≤ 8 := by rw [zCat]; exact Nat.le_of_ble_eq_true hcat
      have hfr : 1 ≤ R.frames := by omega
      have hlo : ((r.map (zV ad)).map fun v => v.category).sum + (nativeFrameWords "java/lang/System" "arraycopy" 5 + 11) ≤ R.locals := by have := zNf; omega
      refine va_copyl hx hb (by rw [hml]; exact hl.1.symm) hown hlink hnat hstat hini hE.1 hP (zWs_D hA) hS (a - 1) (dd - 1) 2 2 he1 he2 rfl rfl rfl (Int32.not_lt.mpr q1') (Int32.not_lt.mpr q2') (Int32.not_lt.mpr q3') q4' q5' (fun _ _ => rfl) hfr hlo hd (fun H1 locs1 p1 _ s1 => hk H1 locs1 lr ?_ s1 hl)
      show va_P D zCl (zWs dA ad (qCpL w a (qIx i) dd (qIx j) (qIx n))) H1
      rw [zWs_set g3 g4 (fun c' h => zCe_cL h), zCe_35 kd2]
      have e1 : (fun j' => (qCpL w a (qIx i) dd (qIx j) (qIx n)).2.1 dd j') = va_cpy (fun j => w.2.1 a j) (fun j => w.2.1 dd j) i.toNatClampNeg j.toNatClampNeg n.toNatClampNeg := by
        funext j'; simp [qCpL, va_cpy, qIx]
      rw [e1]
      exact p1
    · -- 13
      rename_i e13
      refine zs_1r h (fun c0 r hst hk => ?_)
      obtain ⟨hcat, hk⟩ := zQB hk
      obtain ⟨hs, hk⟩ := zQB hk
      have hk13 : k = 13 := by rcases h1 with g | ⟨g, _⟩ <;> omega
      subst hk13
      have hv : virt = true := by simpa using h3
      subst hv
      subst hst
      obtain ⟨i, hi16, rfl⟩ : ∃ i : Nat, i < 16 ∧ c0 = 1000 + i := by
        unfold qStr at hs
        split at hs
        · rename_i h0
          have := Nat.le_of_ble_eq_true h0
          have := Nat.le_of_ble_eq_true hs
          exact ⟨c0 - 1000, by omega, (Nat.add_sub_of_le (Nat.le_of_ble_eq_true h0)).symm⟩
        · cases hs
      have hok := zMok_ok (q := zSm 13) zSm_ok.1 zSc_13
      obtain ⟨k1, k2, k3, k4, k5, k6, k7, k8⟩ := hok
      have hcat8 : ((r.map (zV ad)).map fun v => v.category).sum ≤ 8 := by rw [zCat]; exact Nat.le_of_ble_eq_true hcat
      rw [show 1000 + i - 1000 = i by omega] at hk
      refine zs_read (zs_runV (y := (zSm 13).1) (As := []) hc k1 k2 (k3 rfl) k4 (zPk_in h2) k6 k8 hR (hStr i hi16).1 ⟨zPs_blind, vk_recv (i := i) hO.2.2.2.1 hi16 hS, fun U hU hW => hEO _ U hU hW⟩ rfl hl.1 hcat8 hd hkc) hS (fun locs1 s1 => hk H locs1 lr hP s1 hl)
    · -- 14
      rename_i e14
      refine zs_ir h (fun c0 x r hst hk => ?_)
      obtain ⟨hcat, hk⟩ := zQB hk
      obtain ⟨hs, hin, hk⟩ := zQB hk
      have hk14 : k = 14 := by rcases h1 with g | ⟨g, _⟩ <;> omega
      subst hk14
      have hv : virt = true := by simpa using h3
      subst hv
      subst hst
      obtain ⟨i, hi16, rfl⟩ : ∃ i : Nat, i < 16 ∧ c0 = 1000 + i := by
        unfold qStr at hs
        split at hs
        · rename_i h0
          have := Nat.le_of_ble_eq_true h0
          have := Nat.le_of_ble_eq_true hs
          exact ⟨c0 - 1000, by omega, (Nat.add_sub_of_le (Nat.le_of_ble_eq_true h0)).symm⟩
        · cases hs
      have hok := zMok_ok (q := zSm 14) zSm_ok.2.1 zSc_14
      obtain ⟨k1, k2, k3, k4, k5, k6, k7, k8⟩ := hok
      have hcat8 : ((r.map (zV ad)).map fun v => v.category).sum ≤ 8 := by rw [zCat]; exact Nat.le_of_ble_eq_true hcat
      rw [show 1000 + i - 1000 = i by omega] at hk hin
      refine zs_read (zs_runV (y := (zSm 14).1) (As := [.int x]) hc k1 k2 (k3 rfl) k4 (zPk_in h2) k6 k8 hR ((hStr i hi16).2.1 x hin) ⟨zPs_blind, vk_recv (i := i) hO.2.2.2.1 hi16 hS, fun U hU hW => hEO _ U hU hW⟩ rfl hl.1 hcat8 hd hkc) hS (fun locs1 s1 => hk H locs1 lr hP s1 hl)
    · -- 15
      rename_i e15
      refine zs_ir h (fun c0 x r hst hk => ?_)
      obtain ⟨hcat, hk⟩ := zQB hk
      obtain ⟨hs, hk⟩ := zQB hk
      have hk15 : k = 15 := by rcases h1 with g | ⟨g, _⟩ <;> omega
      subst hk15
      have hv : virt = true := by simpa using h3
      subst hv
      subst hst
      obtain ⟨i, hi16, rfl⟩ : ∃ i : Nat, i < 16 ∧ c0 = 1000 + i := by
        unfold qStr at hs
        split at hs
        · rename_i h0
          have := Nat.le_of_ble_eq_true h0
          have := Nat.le_of_ble_eq_true hs
          exact ⟨c0 - 1000, by omega, (Nat.add_sub_of_le (Nat.le_of_ble_eq_true h0)).symm⟩
        · cases hs
      have hok := zMok_ok (q := zSm 15) zSm_ok.2.2.1 zSc_15
      obtain ⟨k1, k2, k3, k4, k5, k6, k7, k8⟩ := hok
      have hcat8 : ((r.map (zV ad)).map fun v => v.category).sum ≤ 8 := by rw [zCat]; exact Nat.le_of_ble_eq_true hcat
      rw [show 1000 + i - 1000 = i by omega] at hk
      refine zs_read (zs_runV (y := (zSm 15).1) (As := [.int x]) hc k1 k2 (k3 rfl) k4 (zPk_in h2) k6 k8 hR ((hStr i hi16).2.2 x) ⟨zPs_blind, vk_recv (i := i) hO.2.2.2.1 hi16 hS, fun U hU hW => hEO _ U hU hW⟩ rfl hl.1 hcat8 hd hkc) hS (fun locs1 s1 => hk H locs1 lr hP s1 hl)
    · exact h.elim
  · cases ho
end Main3
