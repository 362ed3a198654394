/-! The simulation: what the small machine says of a call is a contract. -/
theorem zSl_len (ad : Nat → Nat) : ∀ a : List Value, (lg_sl (a.map (zV ad))).length = (qArgs a).length
  | [] => rfl
  | v :: t => by
    have ih := zSl_len ad t
    unfold lg_sl at ih ⊢
    rw [List.map_cons, List.flatMap_cons, List.length_append, ih]
    cases v <;> simp [zV, Value.category, qArgs] <;> omega
theorem zArgs_in (ad : Nat → Nat) : ∀ (a : List Value) (n i : Nat) (v : Value), qGet (qArgs a) i = some v → (n + i, zV ad v) ∈ lv_args n (a.map (zV ad))
  | [], _, _, _, h => by cases h
  | u :: t, n, i, v, h => by
    have step2 : u.category = 2 → qArgs (u :: t) = some u :: none :: qArgs t := by cases u <;> simp [Value.category, qArgs]
    have step1 : u.category = 1 → qArgs (u :: t) = some u :: qArgs t := by cases u <;> simp [Value.category, qArgs]
    rw [List.map_cons]
    unfold lv_args
    rcases lv_cat u with hc | hc
    · rw [step1 hc] at h
      cases i with
      | zero => cases h; exact List.mem_cons_self
      | succ i =>
        refine List.mem_cons_of_mem _ ?_
        have hc' : ¬ (zV ad u).category = 2 := by rw [zV_cat, hc]; decide
        rw [if_neg hc']
        have := zArgs_in ad t (n + 1) i v h
        rwa [Nat.add_right_comm] at this
    · rw [step2 hc] at h
      cases i with
      | zero => cases h; exact List.mem_cons_self
      | succ i =>
        cases i with
        | zero => cases h
        | succ i =>
          refine List.mem_cons_of_mem _ ?_
          have hc' : (zV ad u).category = 2 := by rw [zV_cat, hc]
          rw [if_pos hc']
          have := zArgs_in ad t (n + 2) i v h
          rwa [show n + 2 + i = n + (i + 1 + 1) by omega] at this
theorem zPad_get : ∀ (n : Nat) (ls : qL) (i : Nat) (v : Value), qGet (qPad ls n) i = some v → qGet ls i = some v
  | 0, ls, i, v, h => h
  | n + 1, [], i, v, h => by
    have : ∀ (n i : Nat) (v : Value), ¬ qGet (qPad [] n) i = some v := by
      intro n
      induction n with
      | zero => intro i v h; cases h
      | succ n ih =>
        intro i v h
        cases i with
        | zero => cases h
        | succ i => exact ih i v h
    exact absurd h (this (n + 1) i v)
  | n + 1, a :: t, i, v, h => by
    cases i with
    | zero => exact h
    | succ i => exact zPad_get n t i v h
theorem qFt_mem : ∀ {cd : List qI} {pc : Nat} {i : qI}, qFt cd pc = some i → i ∈ cd ∧ i.1 = pc
  | [], _, _, h => by cases h
  | j :: t, pc, i, h => by
    unfold qFt at h
    split at h
    · rename_i hb
      cases h
      exact ⟨List.mem_cons_self, Nat.eq_of_beq_eq_true hb⟩
    · obtain ⟨h1, h2⟩ := qFt_mem h
      exact ⟨List.mem_cons_of_mem _ h1, h2⟩
/-- a run of the small machine is a run -/
theorem zRun {p : Program} {l : Launch} {e : Env} {R : Room} {s : State} {m : MethodId} {args : Array Value} {below : List Frame} {meth : Method} {c : Code} {Z : State → Prop} {kc ks : Nat} {cc : ByteArray} {mL o base L d : Nat} {xs : Nat → Int32} {D : va_G} {dA : Nat → ClassId} {ad adV : Nat → Nat} {Ts : List Cond} {rt : Option FieldType} {C : qC} {Q : qQ} {cd : List qI}
    (hkc : kc ≤ R.cells ∧ ks ≤ R.slots) (hM0 : zMl.all (fun q => zMok q.2) = true) (hc : zC p s m args c cc mL o base L xs D dA ad adV Ts) (hR : d + 1 ≤ R.frames ∧ 64 * d + 64 ≤ R.locals) (hStr : zStrs l d D dA ad adV base L xs)
    (hCall : ∀ M a w Q', C M a w Q' → ∀ mi : zMI, zMi M = some mi → Met l mi.1 (zWm mi.1 mi.2.1 mi.2.2.1 mi.2.2.2.1) (zRm d) (zPc D dA ad adV base L xs a w) (zQc D dA ad base Q') 0 0 (fun q => base ≤ q))
    (hRet : zRet p l e R s m args below meth c Z kc ks cc base D dA ad rt Q) (hcd : cd.all (zOkI o cc mL rt) = true) {q : qS} (h : qWp (some (L, xs)) C cd Q q) : zX p l e R s m args below meth c Z kc ks mL base D dA ad q := by
  refine h _ (fun q hq => ?_)
  unfold qP at hq
  rw [qFtK_eq] at hq
  split at hq
  · exact hq.elim
  · rename_i i hi
    obtain ⟨h1, h2⟩ := qFt_mem hi
    obtain ⟨pc, ls, st, w⟩ := q
    obtain ⟨pc', ins, nx, au, cs⟩ := i
    have h2 : pc' = pc := h2
    subst h2
    exact zStep hkc hM0 hc hR hStr hCall hRet (List.all_eq_true.mp hcd _ h1) hq
/-- the contracts -/
theorem zSim (hM0 : zMl.all (fun q => zMok q.2) = true) (hK0 : ∀ q ∈ zMl, ∃ cd, qMt q.1 = some (cd, q.2.2.2.1) ∧ cd.all (zOkI q.2.2.2.2.2.2.2.1 q.2.2.1 q.2.2.2.1 q.2.2.2.2.1) = true)
    {l : Launch} {base L : Nat} {xs : Nat → Int32} {D : va_G} {dA : Nat → ClassId} {ad adV : Nat → Nat} (hA : zAd ad base) (hStr : ∀ d, 8 ≤ d → zStrs l d D dA ad adV base L xs) : ∀ (d : Nat) (M : Nat) (a : List Value) (w : qW) (Q : qQ), qCall (some (L, xs)) d M a w Q → ∀ mi : zMI, zMi M = some mi →
      Met l mi.1 (zWm mi.1 mi.2.1 mi.2.2.1 mi.2.2.2.1) (zRm (d + 8)) (zPc D dA ad adV base L xs a w) (zQc D dA ad base Q) 0 0 (fun q => base ≤ q)
  | 0, M, a, w, Q, h => h.elim
  | d + 1, M, a, w, Q, h => fun mi hmi => by
    have hmem := zLk_mem hmi
    obtain ⟨cd, hcd1, hcd2⟩ := hK0 _ hmem
    have hok := zMok_ok (List.all_eq_true.mp hM0 _ hmem) (zMc _ hmem)
    obtain ⟨y, b, mL, rt, st, na, o, pr⟩ := mi
    dsimp only at hcd1 hcd2 hok ⊢
    obtain ⟨k1, k2, k3, k4, k5, k6, k7, k8⟩ := hok
    unfold qCall at h
    rw [hcd1] at h
    obtain ⟨hlen, h⟩ := h
    refine va_MetF (cc := b) (maxL := mL) (ret := rt) k7 rfl ?_
    intro p e s m args below meth c s₁ B hml hv
    obtain ⟨rfl, hP, hE, hO⟩ := hv
    have hx := B.exec
    have hb := B.bytes
    have hr := B.returns
    have hts := atoms_spec (ws := zWm y b mL rt) B.pre
    have hown : s.vm.findClass (zOwn o) = some m.cls := by rw [k5]; exact findClass_of_methodNamed B.named
    have hS : va_S (fun a => base ≤ a) s.heap s.heap [] := va_S.rf
    have hl := lv_entry (a.map (zV ad)) (n := mL) (by rw [zSl_len]; exact Nat.le_of_ble_eq_true hlen)
    rw [lg_entry_eq]
    generalize (lg_sl (a.map (zV ad)) ++ List.replicate (mL - (lg_sl (a.map (zV ad))).length) Slot.unset).toArray = lr at hl ⊢
    have hlv : zLv ad (qPad (qArgs a) mL) lr mL := ⟨hl.1, hl.2.1, fun i v hv => hl.2.2 (i, zV ad v) (by have := zArgs_in ad a 0 i v (zPad_get _ _ _ _ hv); rwa [Nat.zero_add] at this)⟩
    have hc : zC p s m (a.map (zV ad)).toArray c b mL o base L xs D dA ad adV (zWm y b mL rt) := ⟨hx, hb, hml, hown, hts, fun w hw => List.mem_cons_of_mem _ hw, hE, hO, hA⟩
    have hlocks : meth.locks = false := B.notSynchronized
    have hRet : zRet p l e (headSpec (zWm y b mL rt) (zRm (d + 1 + 8))).room s m (a.map (zV ad)).toArray below meth c (MQ below (zQc D dA ad base Q) (a.map (zV ad)).toArray s 0 0 (fun q => base ≤ q)) 0 0 b base D dA ad rt Q := by
      refine ⟨?_, ?_, ?_, ?_⟩
      · intro H locs lr w x pc hd hrt hq hp hs
        rcases hrt with g | ⟨g, hz⟩
        · exact W.iret hx hb (by rw [hr, g]) (fun t ht hw => ⟨Or.inl ⟨x, w, rfl, hq, by rw [ht]; exact hp⟩, hs.F ht⟩) hs.2.2 hd
        · exact W.zret (ty := .boolean) hx hb (by rw [hr, g]) (zZb hz).2.1 (fun t ht hw => ⟨Or.inl ⟨x, w, rfl, hq, by rw [ht]; exact hp⟩, hs.F ht⟩) hs.2.2 hd
      · intro H locs lr w x pc hd g hq hp hs
        exact W.lret hx hb (by rw [hr, g]) (fun t ht hw => ⟨Or.inr (Or.inl ⟨x, w, rfl, hq, by rw [ht]; exact hp⟩), hs.F ht⟩) hs.2.2 hd
      · intro H locs lr w pc hd g hq hp hs
        exact W.vret hx hb (by rw [hr, g]) (fun t ht hw => ⟨Or.inr (Or.inr (Or.inl ⟨w, rfl, hq, by rw [ht]; exact hp⟩)), hs.F ht⟩) hs.2.2 hd
      · intro H locs lr w r pc hd ⟨n, g⟩ hq hp hs
        refine W.aret (rt := .object n) hx hb (by rw [hr, g]) (Or.inl ⟨n, rfl⟩) ?_ (fun t ht hw => ⟨Or.inr (Or.inr (Or.inr ⟨r, w, rfl, hq, by rw [ht]; exact hp⟩)), hs.F ht⟩) hs.2.2 hd
        cases r with
        | none => exact Or.inl rfl
        | some q => exact Or.inr ⟨_, rfl⟩
    have hrun := zRun (d := d + 8) (kc := 0) (ks := 0) ⟨Nat.zero_le _, Nat.zero_le _⟩ hM0 hc ⟨Nat.le_of_eq (by show d + 8 + 1 = d + 1 + 8; omega), Nat.le_of_eq (by show 64 * (d + 8) + 64 = 64 * (d + 1 + 8); omega)⟩ (hStr (d + 8) (by omega)) (fun M' a' w' Q' hq mi' hmi' => zSim hM0 hK0 hA hStr d M' a' w' Q' hq mi' hmi') hRet hcd2 h
    exact hrun s.heap [] lr hP hS hlv
