/-! THE CLAIM OUT OF ONE WALK OF THE LAW'S BODY. Your part is whole_start (and what it stands on); all else here is the same for every law, but numbers. -/
def R_law : String := "NumberComesLaw"
def lw_P (b : Addr) (xs : List Int32) (args : Array Value) (s : State) : Prop := args = #[.ref b] ∧ s.IntsAt b xs ∧ xs.length ≤ 3072 ∧ (Jvm.Cond.and given_1 narrow_1).before args s = true
def lw_Q (_ : Array Value) (s : State) (o : Outcome) (t : State) : Prop := o = .returned (some (.int 1)) ∧ Framed s o t [] 600000 7302249
def lw_Z (below : List Frame) (a : Array Value) (s : State) : State → Prop := fun t => ∃ o, t.status = .running ∧ Ended t below o ∧ lw_Q a s o t
/-- the law's own end, with 1 on the stack, nothing written that was there before, its room as the claim has it -/
theorem lw_ret {p : Program} {l : Launch} {e : Env} {s : State} {m : MethodId} {below : List Frame} {meth : Method} {c : Code} {b : Nat} (hx : p.tables.exec = Jvm.exec) (hb : c.code = code) (hr : meth.sig.returnType = ret) (hlocks : meth.locks = false) {pc : Nat} {H : Heap} {ls : Array Slot} (hdg : decode code pc = .ok (.ireturn, 1)) : W p l e room_1 s m #[Value.ref b] below meth c H [] 600000 7302249 (lw_Z below #[Value.ref b] s) (F0 m pc ls [.int 1]) := by
  intro T hT X
  obtain ⟨fs, hret, hrun, hended, hW, hframe⟩ := X.leave (v := some (.int 1)) (hlocks := hlocks) (fun h => by rw [hr] at h; cases h)
  have hmeth' : T.vm.method? m = some meth := X.method'
  refine ⟨T.setFrames fs, ?_, .returned (some (.int 1)), hrun, hended, rfl, ⟨_, rfl⟩, hW, hframe⟩
  jvm_step X.here [X.here.top, hx, hb, hdg, hmeth', hr, ret, narrow_b1]
  (try refine ⟨rfl, ?_⟩); (try refine ⟨rfl, ?_⟩)
  first | (intro acts; rw [hret _ acts rfl rfl rfl]) | rw [hret _ _ rfl rfl rfl]
  exact Steps.refl _
/-- what holds at the law's entry: the machine, the code, the tables' words (any of lw_tbl by 'hts w (by decide +kernel)'), the script of L ints xs at the cell b, what the Statement gives of the start (any of its parts by flat_of_before) -/
def lw_At (p : Program) (s : State) (m : MethodId) (meth : Method) (c : Code) (b L : Nat) (xs : Nat → Int32) : Prop :=
  p.tables.exec = Jvm.exec ∧ c.code = code ∧ meth.sig.returnType = ret ∧ c.maxLocals = 4 ∧ s.vm.findClass R_law = some m.cls ∧ (∀ w ∈ lw_tbl, w.before #[Value.ref b] s = true) ∧ va_X b L xs s s.heap ∧ b < s.heap.size ∧ meth.locks = false ∧ (Jvm.Cond.and given_1 narrow_1).before #[Value.ref b] s = true
theorem g_words : ∀ w ∈ zGw, w ∈ lw_tbl := fun _ hw => (List.mem_filter.mp hw).1
theorem g_d12 : decode code 12 = .ok (.invokespecial 12, 3) ∧ decode code 15 = .ok (.astore_n 2, 1) := by decide +kernel
theorem g_lk : zLk (yMx 13) 12 = some (205, 0, (zLk (yMx 13) 12).get!.2.2) ∧ zPk (zLk (yMx 13) 12).get!.2.2 = some (.methodLink "NumberComesLaw" 12 ⟨"NumberComesModel", "<init>", "()V"⟩) := by decide +kernel
theorem whole_start {p : Program} {e : Env} {s : State} {m : MethodId} {below : List Frame} {meth : Method} {c : Code} (l : Launch) {b L : Nat} {xs : Nat → Int32} (hL : L ≤ 3072) (C0 : lw_At p s m meth c b L xs) : W p l e room_1 s m #[Value.ref b] below meth c s.heap [] 0 0 (lw_Z below #[Value.ref b] s) (entryFrame m ([Value.ref b] : List Value).toArray 4) := by
  obtain ⟨hx, hb, hr, hml, hown, hts, hX, hbl, hlocks, hgv⟩ := C0
  obtain ⟨D, dA, hK⟩ := g_K hts
  obtain ⟨adK, adV, hS, hT, hZ, hZq⟩ := g_S hts hgv
  generalize had : (fun c => if c = 0 then b else adK (c - 1000)) = ad0
  have a0 : ad0 0 = b := by rw [← had]; rfl
  have a1 : ∀ i, ad0 (1000 + i) = adK i := fun i => by rw [← had]; show (if 1000 + i = 0 then b else adK (1000 + i - 1000)) = adK i; rw [if_neg (by omega), Nat.add_sub_cancel_left]
  have hE : zEnv D dA ad0 s := by
    refine ⟨hK, fun w hw => ?_, fun i idx hi => ?_⟩
    · have h1 := (List.mem_filter.mp hw).1
      have h2 := (List.mem_filter.mp hw).2
      split at h2
      · exact va_Nw.of rfl (hts _ h1)
      · cases h2
    · have h16 : i < 16 := (List.getElem?_eq_some_iff.mp hi).1
      have h1 := g_sr ⟨i, h16⟩
      have h2 := hT i h16
      have e1 : zSi.getD i 0 = idx := by rw [List.getD_eq_getElem?_getD, hi]; rfl
      unfold gTm at h2
      rw [show zSi.getD (⟨i, h16⟩ : Fin 16).val 0 = idx from e1] at h1
      rw [e1, ← a1 i] at h2
      exact ⟨_, vk_R.of (hts _ (zPk_in h1)) h2⟩
  have hO : zOld ad0 adV s.heap.size L xs s s.heap := by
    unfold zOld
    rw [a0, show (fun i => ad0 (1000 + i)) = adK from funext a1]
    exact ⟨hX, hbl, Nat.le_refl _, hS, hZ, hZq⟩
  have hAO : va_AO "NumberComes$Text" s := va_AO.of (hts _ (zPk_in yWd.1))
  have hc : yC p s m #[Value.ref b] c code 4 13 s.heap.size L xs D dA ad0 adV lw_tbl := ⟨hx, hb, hml, hown, hts, g_words, hE, hO, hAO⟩
  have hl := lv_entry [Value.ref b] (n := 4) (Nat.le_of_ble_eq_true rfl)
  rw [lg_entry_eq]
  generalize (lg_sl [Value.ref b] ++ List.replicate (4 - (lg_sl [Value.ref b]).length) Slot.unset).toArray = lr at hl ⊢
  have hlv : zLv ad0 [some (.ref 0), none, none, none] lr 4 := by
    refine ⟨hl.1, hl.2.1, fun i v hv => ?_⟩
    match i, hv with
    | 0, hv => cases hv; show lr[0]? = some (.val (.ref (ad0 0))); rw [a0]; exact hl.2.2 (0, .ref b) List.mem_cons_self
    | 1, hv => cases hv
    | 2, hv => cases hv
    | 3, hv => cases hv
    | i + 4, hv => cases hv
  have hsz := g_sz
  have K := yRunW (C := yCall 3) (Z := lw_Z below #[Value.ref b] s) (l := l) (e := e) (below := below) (meth := meth) (R := room_1) (d := 11) (n0 := 1) (n1 := 100) hc (Or.inl rfl) ⟨by decide, by decide⟩ ⟨by decide, by show ySz 100 - ySz 1 ≤ 7302249; omega⟩ (by decide) (fun M' a' v0 v0' ad' hq mi' hmi' => yMet 3 M' a' v0 v0' ad' hq mi' hmi') ky_Law0 g_run1 ?_ ad0 s.heap [] lr yLe.rf (fun k q hk => (by cases hk)) ⟨fun i j p q hp => (by cases hp), fun k q hk => (by cases hk)⟩ va_S.rf hlv
  · rw [show ((0, [some (.ref 0), none, none, none], [], (([], [], 1) : yw)) : gYs).2.2.2.2.2 = 1 from rfl, Nat.sub_self, Nat.sub_self] at K
    exact K
  · intro ad H locs lr hle p1 d1 s1 l1
    show W p l e room_1 s m #[Value.ref b] below meth c H locs (73 - 1) (ySz 73 - ySz 1) (lw_Z below #[Value.ref b] s) (F0 m 12 lr [.ref (ad 72), .ref (ad 72)])
    obtain ⟨k1, k2, k3, k4, k5, k6, k7, k8, k9⟩ := yMb_ok (List.all_eq_true.mp yMok _ (zLk_mem g_mi)) (yMc _ (zLk_mem g_mi))
    dsimp only at k1 k2 k3 k4 k5 k6 k7 k8
    have W1 : ∀ w, w ∈ lw_tbl → w.before #[Value.ref b] s = true := hts
    have h73 : ySz 1 ≤ ySz 73 := ySz_le (by decide)
    have h100 : ySz 73 ≤ ySz 100 := ySz_le (by decide)
    have hMo := g_Mo (l := l) (base := s.heap.size) (L := L) (xs := xs) (D := D) (dA := dA) (ad := ad) (adV := adV) g_mi
    dsimp only at hMo
    have hpre : PreS s H (yPc D dA ad adV s.heap.size L xs [.ref 72] gV1) [.ref (ad 72)] := ⟨yPc_blind, fun U hU hW => ⟨rfl, by rw [hU]; exact p1, d1, zEnv_le hle (zEnv_warm hW hE), zOld_le hle (by decide) (zOld_moved hW.alike (by rw [hU]; exact zOld_kept hO s1)), va_AO.moved hW.alike hAO⟩⟩
    have hrun := va_runI (As := []) (rest := [Value.ref (ad 72)]) (g := F0 m 12 lr [.ref (ad 72), .ref (ad 72)]) (H := H) (locs := locs) (cells := 73 - 1) (slots := ySz 73 - ySz 1) (R := room_1) (e := e) (below := below) (meth := meth) (own := "NumberComesLaw") ⟨hx, hb, hml, hown, hts⟩ hMo ⟨callB_of 0 hts (zWm_good g_words k1) rfl rfl rfl (W1 _ k3) (W1 _ (zPk_in g_lk.2)) k5 ⟨by decide, by decide⟩, k8, W1 _ k2⟩ hpre rfl rfl l1.1 rfl (lv_room (by show 1 ≤ 8; decide)) g_d12.1 ⟨by decide, by show ySz 73 - ySz 1 + (ySz 100 - ySz 73) ≤ 7302249; omega⟩
    intro T hT X
    obtain ⟨v0, st₀, t, T', L', g0, X', hL', g1, g2, ⟨⟨hv, ad', w', hle', hA, hI, p2⟩, hz, hk⟩, stp⟩ := hrun T hT X
    cases hv
    rw [g0] at hz hk
    have hS1 : va_S (fun a => s.heap.size ≤ a) s.heap T'.heap (locs ++ L') := ⟨Nat.le_trans s1.1 (by rw [g1]; exact hz), fun q h1 h2 => by rw [g1, hk q (Nat.lt_of_lt_of_le h1 s1.1) h2]; exact s1.2.1 q h1 h2, fun q hq => by
        rcases List.mem_append.mp hq with h | h
        · exact s1.2.2 q h
        · exact hL' q h⟩
    rw [← g1] at p2
    have hle2 : yLe 1 ad0 ad' := hle.tr hle' (by decide)
    have hc' : zC p s m #[Value.ref b] c code 4 13 s.heap.size L xs D dA ad' adV lw_tbl := ⟨hx, hb, hml, hown, hts, g_words, zEnv_le hle2 hE, zOld_le hle2 (by decide) hO, hA⟩
    have l2 : zLv ad' [some (.ref 0), some (.ref 1), none, none] lr 4 := yLv_le hle' (by decide) l1
    have hRet : zRet p l e room_1 s m #[Value.ref b] below meth c (lw_Z below #[Value.ref b] s) (73 - 1 + 27) (ySz 73 - ySz 1 + (ySz 100 - ySz 73)) code s.heap.size D dA ad' (some .boolean) (qQi fun x _ => x = 1) := by
      refine ⟨?_, ?_, ?_, ?_⟩
      · intro H locs lr w x pc hd hrt hq hp hs
        have hq : x = 1 := hq
        subst hq
        refine va_forget hs.2.2 (W.widen (k := 600000) (n := 7302249) (by decide) (by omega) ?_)
        exact lw_ret hx hb hr hlocks hd
      · intro H locs lr w x pc hd hrt hq; exact hq.elim
      · intro H locs lr w pc hd g hq; exact hq.elim
      · intro H locs lr w x pc hd hrt hq; exact hq.elim
    have KL : W p l e room_1 s m #[Value.ref b] below meth c T'.heap (locs ++ L') (73 - 1 + 27) (ySz 73 - ySz 1 + (ySz 100 - ySz 73)) (lw_Z below #[Value.ref b] s) (F0 m 15 lr [.ref (ad' 72)]) := by
      refine lv_astore_n hx hb g_d12.2 rfl l2.has (by decide) rfl (fun lr' hl' => ?_)
      have l3 : zLv ad' [some (.ref 0), some (.ref 1), some (.ref 72), none] lr' 4 := zLv.st1 (ls := [some (.ref 0), some (.ref 1), none, none]) (i := 2) (v := .ref 72) hl'
      exact zRun (d := 48) (kc := 73 - 1 + 27) (ks := ySz 73 - ySz 1 + (ySz 100 - ySz 73)) ⟨by decide, by show ySz 73 - ySz 1 + (ySz 100 - ySz 73) ≤ 7302249; omega⟩ zMs_ok hc' ⟨by decide, by decide⟩ (zStrs_ok hA 48 (by decide)) (fun M' a' w' Q' hq mi' hmi' => zSim zMs_ok zKc hA (zStrs_ok hA) 40 M' a' w' Q' hq mi' hmi') hRet k_LawL (A_LawL_16 (law_loop (s := (L, xs)) (d := 40) (Q := fun x _ => x = 1) (Nat.le_refl _) hL (fun _ => rfl) (L + 1) 0 w' gN gN gT gZ (by show L + 6 ≤ 0 + 6 * (L + 1); omega) (by show 0 ≤ L + 6; omega) hI.1 hI.2)) T'.heap (locs ++ L') lr' p2 hS1 l3
    rw [hle' 72 (Or.inl (by decide))] at KL
    obtain ⟨t2, q1', q2'⟩ := KL T' rfl X'
    exact ⟨t2, stp t2 q1', q2'⟩
set_option maxHeartbeats 4000000 in
theorem lw_walk (l : Launch) (b : Addr) (xs : List Int32) : MetFree l x (headSpec (Jvm.Cond.code x code maxLocals ret :: tables_1) room_1) (lw_P b xs) (fun _ _ _ _ _ => True) lw_Q := by
  refine MetFree.of_bodyS (code := code) (maxLocals := maxLocals) (ret := ret) (by decide) ?_ ?_
  · intro args s m h hn
    obtain ⟨meth, c, h1, h2, h3, h4, h5, h6, -, -⟩ := Cond.code_spec hn (atoms_spec (ws := Jvm.Cond.code x code maxLocals ret :: tables_1) h _ List.mem_cons_self)
    exact ⟨meth, c, h1, h2, h3, h4, h5, h6⟩
  · intro p e s m args below meth c s₁ B hml0 hP _
    obtain ⟨rfl, hx, hbd, hgv⟩ := hP
    obtain ⟨scr, harrAt, hlist, hof, hsmall⟩ := hx
    obtain ⟨hcb, hkn, -, -⟩ := State.arrayAt?_spec harrAt
    have hown : s.vm.findClass R_law = some m.cls := findClass_of_methodNamed B.named
    have hts0 : ∀ c ∈ (Jvm.Cond.code x code maxLocals ret :: tables_1), c.before #[Value.ref b] s = true := atoms_spec (ws := Jvm.Cond.code x code maxLocals ret :: tables_1) B.pre
    have hts : ∀ w ∈ lw_tbl, w.before #[Value.ref b] s = true := k2_hts_sels lw_privs (fun w hw => hts0 w (List.mem_cons_of_mem _ hw)) lw_privs_ok
    have hml : c.maxLocals = 4 := B.maxLocals_eq (hts0 _ List.mem_cons_self)
    have X₀ : Stand p l e room_1 s m #[Value.ref b] below meth c s₁ [] 0 0 := Stand.of_body B
    have hh0 : s₁.heap = s.heap := by rw [B.state]; rfl
    have hsz : scr.slots.size = xs.length := by rw [← Array.length_toList, hlist, List.length_map]
    have hval : ∀ j : Nat, j < xs.length → scr.slots[j]? = some (.int (xs.getD j 0)) := fun j hj => by
      rw [← Array.getElem?_toList, hlist]
      simp [hj]
    have hbl : b < s.heap.size := (Array.getElem?_eq_some_iff.mp hcb).1
    have hX : va_X b xs.length (fun j => xs.getD j 0) s s.heap := ⟨scr, hcb, hof, hkn, hsz, hval⟩
    have K : W p l e room_1 s m #[Value.ref b] below meth c s₁.heap [] 0 0 (lw_Z below #[Value.ref b] s) (entryFrame m ([Value.ref b] : List Value).toArray 4) := by
      rw [hh0]
      exact whole_start l hbd ⟨B.exec, B.bytes, B.returns, hml, hown, hts, hX, hbl, B.notSynchronized, hgv⟩
    obtain ⟨t, a1, o, b1, b2, b3⟩ := K s₁ rfl X₀
    exact ⟨t, o, a1, b1, b2, b3⟩
theorem lw_pre_spec {args : Array Value} {s : State} (h : (Jvm.Cond.and given_1 narrow_1).before args s = true) (hr : rest_1_c.before args s = true) : ∃ (b : Addr) (xs : List Int32), lw_P b xs args s := by
  have hs := flat_of_before _ h
  have hq := flat_of_before _ hr
  have hc : (Cond.count 1).before args s = true := hs _ (by decide +kernel)
  have harr : (Cond.arrayOf (.arg 0) .int).before args s = true := hs _ (by decide +kernel)
  have hle : (Cond.le (.length (.arg 0)) (.int 3072)).before args s = true := hs _ (by decide +kernel)
  have hlen : (Cond.isInt (.length (.arg 0))).before args s = true := hq _ (by decide +kernel)
  have hall : (Cond.all (.arg 0) (.isInt (.elem (.arg 0) (.index 0)))).before args s = true := hq _ (by decide +kernel)
  obtain ⟨b, xs, hb, hx⟩ := State.ints_of_pre rfl harr hlen hall
  have hsm : xs.length < 2 ^ 31 := hx.choose_spec.2.2.2
  have hev : (Term.length (.arg 0)).eval args s none [] s = some (.int xs.length.toInt32) := hx.length_eval hb
  have hv := Cond.le_ints hev (show (Term.int 3072).eval args s none [] s = some (.int 3072) from rfl)
  have hd : xs.length.toInt32 ≤ 3072 := by
    simpa [Cond.before, Cond.holds, hv] using hle
  have hN : xs.length ≤ 3072 := (Int32.ofNat_le_ofNat hsm (by decide)).mp (show Int32.ofNat xs.length ≤ Int32.ofNat 3072 from hd)
  exact ⟨b, xs, Cond.one_arg hc (show args[0]? = some (.ref b) from hb), hx, hN, h⟩
theorem lw_comes (l : Launch) : Comes l x (Jvm.Cond.code x code maxLocals ret :: tables_1) room_1 (fun tb e args s => Calls_1 tb e args s ∧ rest_1 tb e args s ∧ Pre_1 tb e args s)
    (fun _ _ args s o t => lw_Q args s o t) := by
  intro p e ha hc hk s m args below hf hfit hheap happ hpre
  obtain ⟨b, xs, hP⟩ := lw_pre_spec hpre.2.2 hpre.2.1
  obtain ⟨k, o, h1, h2, h3, hQ⟩ := lw_walk l b xs p e ha hc hk s m args below hf ((Spec.applies_iff_loose hf).mp happ).1 hP trivial
  exact ⟨k, o, h1, h2, h3, hQ⟩
theorem lw_frame {s t : State} {o : Outcome} {args : Array Value} (h : Framed s o t [] 600000 7302249) :
    Framed s o t (fieldLocs frame_1_writes args s ++ arrayLocs frame_1_arrays args s ++ staticLocs frame_1_statics s) 600000 7302249 := h
theorem lw_limb (L : Cond) (hL : ∀ (args : Array Value) (s t : State), L.after args s (.returned (some (.int 1))) t = true) :
    ArmFor flags0 classFile x code maxLocals ret World_1 tables_1 room_1 Calls_1 rest_1 Pre_1
      (fun tb e a s o t => postC L tb e a s o t ∧ Framed s o t (fieldLocs frame_1_writes a s ++ arrayLocs frame_1_arrays a s ++ staticLocs frame_1_statics s) 600000 7302249) := by
  intro l _ _ _ p e ha hc hk s m args below hf hfit hheap happ hpre
  obtain ⟨k, o, h1, h2, h3, rfl, hF⟩ := lw_comes l p e ha hc hk s m args below hf hfit hheap happ hpre
  exact ⟨k, _, h1, h2, h3, hL args s _, lw_frame hF⟩
theorem i_vc : Claimed_1_1 ∧ Claimed_1_2 := ⟨lw_limb limb_1_1 (fun args s t => by simp [limb_1_1, Cond.after, Cond.holds, Cond.value]), lw_limb limb_1_2 (fun args s t => Cond.after_iff.mpr (by
  first | (rw [show limb_1_2 = Cond.eq .result (.int 1) from rfl, Cond.eq_ints (x := 1) (y := 1) rfl rfl]; simp; done) | (simp [limb_1_2, Cond.value, Term.eval]; done)))⟩

