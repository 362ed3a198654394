/-! While the objects are made: the world of the first cnt - 1 cells; new cells. -/
def yFv (ad : Nat → Nat) (w : qW) (c f : Nat) (so : Nat) : Value := match so with
  | 2 => .long (w.2.1 c f)
  | 3 => va_rf ((w.2.2.1 c f).map ad)
  | _ => .int (w.1 c f)
def yFs (ad : Nat → Nat) (w : qW) (c k : Nat) : List Value := (List.range (zSo.getD k []).length).map (fun f => yFv ad w c f ((zSo.getD k []).getD f 0))
def yCe (dA : Nat → ClassId) (ad : Nat → Nat) (w : qW) (c : Nat) : va_E := match qKd c with
  | 33 => .inl (dA 0, qLn c, .inl (fun j => w.1 c j))
  | 34 => .inl (dA 1, qLn c, .inl (fun j => w.1 c j))
  | 35 => .inl (dA 2, qLn c, .inr (.inl (fun j => w.2.1 c j)))
  | 36 => .inl (dA 3, qLn c, .inr (.inr (.inr (.inr (fun j => (w.2.2.1 c j).map ad)))))
  | k => .inr (k - 1, yFs ad w c (k - 1))
def yWs (dA : Nat → ClassId) (ad : Nat → Nat) (w : qW) : va_W := (List.range (qCnt w - 1)).map (fun c => (ad (c + 1), yCe dA ad w (c + 1)))
/-- nothing is beyond what is made -/
def yZ (w : qW) : Prop := ∀ c, qCnt w ≤ c → ∀ i, w.1 c i = 0 ∧ w.2.1 c i = 0 ∧ w.2.2.1 c i = none
theorem yWs_at {dA : Nat → ClassId} {ad : Nat → Nat} {w : qW} {c : Nat} (h1 : 0 < c) (h2 : c < qCnt w) : (yWs dA ad w)[c - 1]? = some (ad c, yCe dA ad w c) := by
  unfold yWs
  rw [List.getElem?_map, List.getElem?_range (by omega)]
  simp [show c - 1 + 1 = c by omega]
theorem yWs_set {dA : Nat → ClassId} {ad : Nat → Nat} {w w' : qW} {c : Nat} (hw : qCnt w' = qCnt w) (h1 : 0 < c) (h2 : c < qCnt w) (he : ∀ c', c' ≠ c → yCe dA ad w' c' = yCe dA ad w c') : yWs dA ad w' = (yWs dA ad w).set (c - 1) (ad c, yCe dA ad w' c) := by
  apply List.ext_getElem?
  intro i
  unfold yWs
  rw [hw, List.getElem?_set]
  simp only [List.length_map, List.length_range, List.getElem?_map]
  by_cases hi : i < qCnt w - 1
  · rw [List.getElem?_range hi]
    by_cases e : c - 1 = i
    · subst e
      simp [hi, show c - 1 + 1 = c by omega]
    · simp [e, he (i + 1) (by omega)]
  · rw [List.getElem?_eq_none (by simp; omega)]
    by_cases e : c - 1 = i
    · omega
    · simp [e]
theorem yCe_new (dA : Nat → ClassId) (ad : Nat → Nat) (w : qW) (c : Nat) : yCe dA ad (qNew w) c = yCe dA ad w c := rfl
theorem yWs_new {dA : Nat → ClassId} {ad : Nat → Nat} {w : qW} (h : 1 ≤ qCnt w) : yWs dA ad (qNew w) = yWs dA ad w ++ [(ad (qCnt w), yCe dA ad w (qCnt w))] := by
  unfold yWs
  have e : qCnt (qNew w) - 1 = (qCnt w - 1) + 1 := by show w.2.2.2 + 1 - 1 = _; unfold qCnt at h ⊢; omega
  rw [e, List.range_succ, List.map_append]
  simp [yCe_new, show qCnt w - 1 + 1 = qCnt w by omega]
theorem yWs_D {dA : Nat → ClassId} {ad : Nat → Nat} {w : qW} {base : Nat} (h : zAd ad base) (hc : qCnt w ≤ 100) : va_D (fun q => base ≤ q) (yWs dA ad w) := by
  have key : ∀ (i : Nat) (p : Nat × va_E), (yWs dA ad w)[i]? = some p → i < qCnt w - 1 ∧ p.1 = ad (i + 1) := by
    intro i p hp
    unfold yWs at hp
    rw [List.getElem?_map] at hp
    cases hr : (List.range (qCnt w - 1))[i]? with
    | none => rw [hr] at hp; cases hp
    | some j =>
      obtain ⟨hlt, he⟩ := List.getElem?_eq_some_iff.mp hr
      simp at hlt he
      rw [hr] at hp
      cases hp
      subst he
      exact ⟨hlt, rfl⟩
  refine ⟨fun i j p q hp hq e => ?_, fun k q hq => ?_⟩
  · obtain ⟨h1, e1⟩ := key i p hp
    obtain ⟨h2, e2⟩ := key j q hq
    have := h.2 (i + 1) (j + 1) (by omega) (by omega) (by omega) (by omega) (by rw [← e1, ← e2]; exact e)
    omega
  · obtain ⟨h1, e1⟩ := key k q hq
    show base ≤ q.1
    rw [e1]
    exact h.1 (k + 1) (by omega) (by omega)
theorem yCe_o {dA : Nat → ClassId} {ad : Nat → Nat} {w : qW} {c k : Nat} (h : qKd c = k + 1) (hk : k < 13) : yCe dA ad w c = .inr (k, yFs ad w c k) := by
  unfold yCe
  rw [h]
  split <;> first | omega | rfl
theorem yFs_at {ad : Nat → Nat} {w : qW} {c k f so : Nat} (h : ((zSo[k]?).bind (fun l => l[f]?)) = some so) : (yFs ad w c k)[f]? = some (yFv ad w c f so) ∧ f < (yFs ad w c k).length := by
  obtain ⟨l, hl, hf⟩ := Option.bind_eq_some_iff.mp h
  have e : zSo.getD k [] = l := by rw [List.getD_eq_getElem?_getD, hl]; rfl
  have hlt : f < l.length := (List.getElem?_eq_some_iff.mp hf).1
  unfold yFs
  rw [e]
  refine ⟨?_, by simpa using hlt⟩
  rw [List.getElem?_map, List.getElem?_range hlt]
  simp [List.getD_eq_getElem?_getD, hf]
theorem yFs_set {ad : Nat → Nat} {w w' : qW} {c k f so : Nat} {v : Value} (h : ((zSo[k]?).bind (fun l => l[f]?)) = some so) (hv : yFv ad w' c f so = v) (ho : ∀ f' so', f' ≠ f → yFv ad w' c f' so' = yFv ad w c f' so') : yFs ad w' c k = (yFs ad w c k).set f v := by
  obtain ⟨l, hl, hf⟩ := Option.bind_eq_some_iff.mp h
  have e : zSo.getD k [] = l := by rw [List.getD_eq_getElem?_getD, hl]; rfl
  obtain ⟨hlt, hfe⟩ := List.getElem?_eq_some_iff.mp hf
  unfold yFs
  rw [e]
  apply List.ext_getElem?
  intro i
  rw [List.getElem?_set]
  simp only [List.length_map, List.length_range, List.getElem?_map]
  by_cases hi : i < l.length
  · rw [List.getElem?_range hi]
    by_cases ei : f = i
    · subst ei
      simp [hlt, List.getD_eq_getElem?_getD, hfe, hv]
    · simp [ei, ho i _ (Ne.symm ei)]
  · rw [List.getElem?_eq_none (by simp; omega)]
    by_cases ei : f = i
    · omega
    · simp [ei]
theorem yCe_I {dA : Nat → ClassId} {ad : Nat → Nat} {w : qW} {c f : Nat} {v : Int32} {c' : Nat} (h : c' ≠ c) : yCe dA ad (qPutI w c f v) c' = yCe dA ad w c' := by
  have e : ∀ j, (qPutI w c f v).1 c' j = w.1 c' j := fun j => by simp [qPutI, h]
  unfold yCe yFs yFv
  simp only [e]
  rfl
theorem yCe_L {dA : Nat → ClassId} {ad : Nat → Nat} {w : qW} {c f : Nat} {v : Int64} {c' : Nat} (h : c' ≠ c) : yCe dA ad (qPutL w c f v) c' = yCe dA ad w c' := by
  have e : ∀ j, (qPutL w c f v).2.1 c' j = w.2.1 c' j := fun j => by simp [qPutL, h]
  unfold yCe yFs yFv
  simp only [e]
  rfl
theorem yCe_R {dA : Nat → ClassId} {ad : Nat → Nat} {w : qW} {c f : Nat} {v : Option Nat} {c' : Nat} (h : c' ≠ c) : yCe dA ad (qPutR w c f v) c' = yCe dA ad w c' := by
  have e : ∀ j, (qPutR w c f v).2.2.1 c' j = w.2.2.1 c' j := fun j => by simp [qPutR, h]
  unfold yCe yFs yFv
  simp only [e]
  rfl
/-- a new cell is blank -/
theorem yFs_blank {ad : Nat → Nat} {w : qW} {k : Nat} (hz : yZ w) (j : Nat) (so : Nat) (h : ((zSo[k]?).bind (fun l => l[j]?)) = some so) : defaultValue (zY k j) = vp_V (yFs ad w (qCnt w) k) j := by
  obtain ⟨hv, -⟩ := yFs_at (ad := ad) (w := w) (c := qCnt w) h
  unfold vp_V
  rw [List.getD_eq_getElem?_getD, hv]
  obtain ⟨z1, z2, z3⟩ := hz (qCnt w) (Nat.le_refl _) j
  have hb := zSoB_ok h
  show _ = yFv ad w (qCnt w) j so
  unfold zSoB at hb
  split at hb
  · rw [of_decide_eq_true hb]; show _ = Value.int (w.1 _ _); rw [z1]; rfl
  · rw [of_decide_eq_true hb]; show _ = Value.int (w.1 _ _); rw [z1]; rfl
  · rw [of_decide_eq_true hb]; show _ = Value.long (w.2.1 _ _); rw [z2]; rfl
  · rename_i so' h0 h1 h2
    have hso : yFv ad w (qCnt w) j so = va_rf ((w.2.2.1 (qCnt w) j).map ad) := by
      have h3 : so = 3 := by
        have key : ∀ k : Fin 13, (zSo.getD k.val []).all (fun so => decide (so ≤ 3)) = true := by decide +kernel
        obtain ⟨l, hl, hf⟩ := Option.bind_eq_some_iff.mp h
        have hk : k < 13 := (List.getElem?_eq_some_iff.mp hl).1
        have e : zSo.getD k [] = l := by rw [List.getD_eq_getElem?_getD, hl]; rfl
        have h4 := key ⟨k, hk⟩
        rw [e] at h4
        have h5 : so ≤ 3 := of_decide_eq_true (List.all_eq_true.mp h4 so (List.mem_of_getElem? hf))
        have n0 : so ≠ 0 := h0
        have n1 : so ≠ 1 := h1
        have n2 : so ≠ 2 := h2
        omega
      subst h3
      rfl
    rw [hso, z3]
    split at hb
    · rename_i hY; rw [hY]; rfl
    · rename_i hY; rw [hY]; rfl
    · cases hb
