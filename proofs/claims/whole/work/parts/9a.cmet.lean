/-! The constructors' contracts. -/
theorem yMet {l : Launch} {base L : Nat} {xs : Nat → Int32} {D : va_G} {dA : Nat → ClassId} {adV : Nat → Nat} : ∀ (d M : Nat) (a : List Value) (v v' : yw) (ad : Nat → Nat), yCall d M a v = some v' → ∀ mi : zMI, yMi M = some mi →
    Met l mi.1 (zWm mi.1 mi.2.1 mi.2.2.1 mi.2.2.2.1) (yRm (d + 8) v.2.2 (yMk M)) (yPc D dA ad adV base L xs a v) (yQc D dA ad base v v') (yMk M) (ySz (v.2.2 + yMk M) - ySz v.2.2) (fun q => base ≤ q)
  | 0, M, a, v, v', ad, h => by cases h
  | d + 1, M, a, v, v', ad, h => fun mi hmi => by
    have hmem := zLk_mem hmi
    obtain ⟨k1, k2, k3, k4, k5, k6, k7, k8, k9⟩ := yMb_ok (List.all_eq_true.mp yMok _ hmem) (yMc _ hmem)
    have hky := ky_all _ hmem
    obtain ⟨y, b, mL, rt, stc, na, o, pr⟩ := mi
    dsimp only at k1 k2 k3 k4 k5 k6 k7 k8 k9 hky ⊢
    subst k9
    unfold yCall at h
    split at h
    · cases h
    · rename_i h205
      obtain ⟨cd, hcd1, hcd2⟩ := hky.resolve_left (fun e => by rw [e] at h205; cases h205)
      rw [hcd1] at h
      dsimp only at h
      split at h
      · cases h
      · rename_i hlen
        rw [Bool.and_eq_true] at hlen
        split at h
        · rename_i v2 hrun
          split at h
          · rename_i hbeq
            cases h
            have hcnt : v'.2.2 = v.2.2 + yMk M := Nat.eq_of_beq_eq_true hbeq
            refine va_MetF (cc := b) (maxL := mL) (ret := none) k6 rfl ?_
            intro p e s m args below meth c s₁ B hml hv
            obtain ⟨rfl, hP, hD, hE, hO, hAO⟩ := hv
            have hx := B.exec
            have hb := B.bytes
            have hr := B.returns
            have hts := atoms_spec (ws := zWm y b mL none) B.pre
            have hown : s.vm.findClass (zOwn o) = some m.cls := by rw [k4]; exact findClass_of_methodNamed B.named
            have hin : meth.name = "<init>" := by rw [← k8]; exact (name_of_methodNamed B.named B.method).1
            have hl := lv_entry (a.map (zV ad)) (n := mL) (by rw [zSl_len]; exact Nat.le_of_ble_eq_true hlen.1)
            rw [lg_entry_eq]
            generalize (lg_sl (a.map (zV ad)) ++ List.replicate (mL - (lg_sl (a.map (zV ad))).length) Slot.unset).toArray = lr at hl ⊢
            have hlv : zLv ad (qPad (qArgs a) mL) lr mL := ⟨hl.1, hl.2.1, fun i v hv => hl.2.2 (i, zV ad v) (by have := zArgs_in ad a 0 i v (zPad_get _ _ _ _ hv); rwa [Nat.zero_add] at this)⟩
            have hc : yC p s m (a.map (zV ad)).toArray c b mL o base L xs D dA ad adV (zWm y b mL none) := ⟨hx, hb, hml, hown, hts, fun w hw => List.mem_cons_of_mem _ hw, hE, hO, hAO⟩
            have hlocks : meth.locks = false := B.notSynchronized
            have K := yRunW (Z := MQ below (yQc D dA ad base v v') (a.map (zV ad)).toArray s (yMk M) (ySz (v.2.2 + yMk M) - ySz v.2.2) (fun q => base ≤ q)) (l := l) (e := e) (below := below) (meth := meth) (R := (headSpec (zWm y b mL none) (yRm (d + 1 + 8) v.2.2 (yMk M))).room) (d := d + 8) hc (Or.inr hin) ⟨Nat.le_of_eq (by show d + 8 + 1 = d + 1 + 8; omega), Nat.le_of_eq (by show 64 * (d + 8) + 64 = 64 * (d + 1 + 8); omega)⟩ ⟨by show v.2.2 + yMk M - v.2.2 ≤ yMk M; omega, Nat.le_refl _⟩ (Nat.le_of_ble_eq_true hlen.2) (fun M' a' v0 v0' ad' hq mi' hmi' => yMet d M' a' v0 v0' ad' hq mi' hmi') hcd2 hrun ?_ ad s.heap [] lr yLe.rf hP hD va_S.rf hlv
            · rw [show ((0, qPad (qArgs a) mL, [], v) : gYs).2.2.2 = v from rfl, Nat.sub_self, Nat.sub_self] at K
              exact K
            · intro ad' H locs lr pc hd hle p1 d1 s1
              rw [hcnt, Nat.add_sub_cancel_left]
              exact W.vret hx hb hr (fun t ht hw => ⟨⟨rfl, ad', hle, by rw [ht]; exact p1, d1⟩, s1.F ht⟩) s1.2.2 hd
          · cases h
        · cases h
