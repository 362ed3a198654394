/-! The reference's constructor: its contract. -/
def gQc (D : va_G) (dA : Nat → ClassId) (ad : Nat → Nat) (base : Nat) : Array Value → State → Outcome → State → Prop := fun _ st o t => (o = .returned none ∧ ∃ ad' w', yLe 73 ad ad' ∧ zAd ad' base ∧ gI w' ∧ va_P D zCl (zWs dA ad' w') t.heap) ∧ va_F (fun q => base ≤ q) st t
theorem g_Mo {l : Launch} {base L : Nat} {xs : Nat → Int32} {D : va_G} {dA : Nat → ClassId} {ad adV : Nat → Nat} {mi : zMI} (hmi : yMi 205 = some mi) :
    Met l mi.1 (zWm mi.1 mi.2.1 mi.2.2.1 mi.2.2.2.1) (yRm 12 73 27) (yPc D dA ad adV base L xs [.ref 72] gV1) (gQc D dA ad base) 27 (ySz 100 - ySz 73) (fun q => base ≤ q) := by
  have hmem := zLk_mem hmi
  obtain ⟨k1, k2, k3, k4, k5, k6, k7, k8, k9⟩ := yMb_ok (List.all_eq_true.mp yMok _ hmem) (yMc _ hmem)
  rw [g_mi] at hmi
  cases hmi
  dsimp only at k1 k2 k3 k4 k5 k6 k7 k8 ⊢
  refine va_MetF (cc := prog_14_method_1_code) (maxL := 1) (ret := none) k6 rfl ?_
  intro p e s m args below meth c s₁ B hml hv
  obtain ⟨rfl, hP, hD, hE, hO, hAO⟩ := hv
  have hx := B.exec
  have hb := B.bytes
  have hr := B.returns
  have hts := atoms_spec (ws := zWm ⟨"NumberComesModel", "<init>", "()V"⟩ prog_14_method_1_code 1 none) B.pre
  have hown : s.vm.findClass (zOwn 12) = some m.cls := findClass_of_methodNamed B.named
  have hin : meth.name = "<init>" := (name_of_methodNamed B.named B.method).1
  have hl := lv_entry ([Value.ref 72].map (zV ad)) (n := 1) (by rw [zSl_len]; decide)
  rw [lg_entry_eq]
  generalize (lg_sl ([Value.ref 72].map (zV ad)) ++ List.replicate (1 - (lg_sl ([Value.ref 72].map (zV ad))).length) Slot.unset).toArray = lr at hl ⊢
  have hlv : zLv ad [some (.ref 72)] lr 1 := ⟨hl.1, hl.2.1, fun i v hv => hl.2.2 (i, zV ad v) (by have := zArgs_in ad [.ref 72] 0 i v hv; rwa [Nat.zero_add] at this)⟩
  have hc : yC p s m ([Value.ref 72].map (zV ad)).toArray c prog_14_method_1_code 1 12 base L xs D dA ad adV (zWm ⟨"NumberComesModel", "<init>", "()V"⟩ prog_14_method_1_code 1 none) := ⟨hx, hb, hml, hown, hts, fun w hw => List.mem_cons_of_mem _ hw, hE, hO, hAO⟩
  have hlocks : meth.locks = false := B.notSynchronized
  have K := yRunW (C := fun _ _ _ => none) (Z := MQ below (gQc D dA ad base) ([Value.ref 72].map (zV ad)).toArray s 27 (ySz 100 - ySz 73) (fun q => base ≤ q)) (l := l) (e := e) (below := below) (meth := meth) (R := (headSpec (zWm ⟨"NumberComesModel", "<init>", "()V"⟩ prog_14_method_1_code 1 none) (yRm 12 73 27)).room) (d := 9) (n0 := 73) (n1 := 100) hc (Or.inr hin) ⟨by show 9 + 1 ≤ 12; decide, by show 64 * 9 + 64 ≤ 64 * 12; decide⟩ ⟨by show 100 - 73 ≤ 27; decide, Nat.le_refl _⟩ (by decide) (fun M' a' v0 v0' ad' hq => by cases hq) ky_Mo_init g_run2 ?_ ad s.heap [] lr yLe.rf hP hD va_S.rf hlv
  · rw [show ((0, [some (.ref 72)], [], gV1) : gYs).2.2.2.2.2 = 73 from rfl, Nat.sub_self, Nat.sub_self] at K
    exact K
  · intro ad' H locs lr hle p1 d1 s1 l1
    have hA := g_ad d1
    have hc' : zC p s m ([Value.ref 72].map (zV ad)).toArray c prog_14_method_1_code 1 12 base L xs D dA ad' adV (zWm ⟨"NumberComesModel", "<init>", "()V"⟩ prog_14_method_1_code 1 none) := ⟨hx, hb, hml, hown, hts, fun w hw => List.mem_cons_of_mem _ hw, zEnv_le hle hE, zOld_le hle (by decide) hO, hA⟩
    have hRet : zRet p l e (headSpec (zWm ⟨"NumberComesModel", "<init>", "()V"⟩ prog_14_method_1_code 1 none) (yRm 12 73 27)).room s m ([Value.ref 72].map (zV ad)).toArray below meth c (MQ below (gQc D dA ad base) ([Value.ref 72].map (zV ad)).toArray s 27 (ySz 100 - ySz 73) (fun q => base ≤ q)) 27 (ySz 100 - ySz 73) prog_14_method_1_code base D dA ad' none (qQv gI) := by
      refine ⟨?_, ?_, ?_, ?_⟩
      · intro H locs lr w x pc hd hrt hq; exact hq.elim
      · intro H locs lr w x pc hd hrt hq; exact hq.elim
      · intro H locs lr w pc hd g hq hp hs
        exact W.vret hx hb hr (fun t ht hw => ⟨⟨rfl, ad', w, hle, hA, hq, by rw [ht]; exact hp⟩, hs.F ht⟩) hs.2.2 hd
      · intro H locs lr w x pc hd hrt hq; exact hq.elim
    exact zRun (d := 9) ⟨Nat.le_refl _, Nat.le_refl _⟩ zMs_ok hc' ⟨by show 9 + 1 ≤ 12; decide, by show 64 * 9 + 64 ≤ 64 * 12; decide⟩ (zStrs_ok hA 9 (by decide)) (fun M' a' w' Q' hq mi' hmi' => zSim zMs_ok zKc hA (zStrs_ok hA) 1 M' a' w' Q' hq mi' hmi') hRet k_MoT (g_tail (s := (L, xs))) H locs lr (g_P p1) s1 l1
