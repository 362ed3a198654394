/-! The small machine's world as a world of the kit; locals. -/
def zRf (w : qW) (c f : Nat) : Option Nat := match Nat.beq (Nat.add (Nat.mul 64 c) f) 1604 with
  | true => w.2.2.1 25 4
  | false => qR0 c f
def zV (ad : Nat → Nat) (v : Value) : Value := match v with
  | .ref c => .ref (ad c)
  | v => v
theorem zV_cat (ad : Nat → Nat) (v : Value) : (zV ad v).category = v.category := by cases v <;> rfl
def zFv (ad : Nat → Nat) (w : qW) (c f : Nat) (so : Nat) : Value := match so with
  | 2 => .long (w.2.1 c f)
  | 3 => va_rf ((zRf w c f).map ad)
  | _ => .int (w.1 c f)
def zFs (ad : Nat → Nat) (w : qW) (c k : Nat) : List Value := (List.range (zSo.getD k []).length).map (fun f => zFv ad w c f ((zSo.getD k []).getD f 0))
def zCe (dA : Nat → ClassId) (ad : Nat → Nat) (w : qW) (c : Nat) : va_E := match qKd c with
  | 33 => .inl (dA 0, qLn c, .inl (fun j => w.1 c j))
  | 34 => .inl (dA 1, qLn c, .inl (fun j => w.1 c j))
  | 35 => .inl (dA 2, qLn c, .inr (.inl (fun j => w.2.1 c j)))
  | 36 => .inl (dA 3, qLn c, .inr (.inr (.inr (.inr (fun j => (qR0 c j).map ad)))))
  | k => .inr (k - 1, zFs ad w c (k - 1))
def zWs (dA : Nat → ClassId) (ad : Nat → Nat) (w : qW) : va_W := (List.range 99).map (fun c => (ad (c + 1), zCe dA ad w (c + 1)))
abbrev zTy (dA : Nat → ClassId) : List (ClassId × FieldType) := [(dA 0, .int), (dA 1, .boolean), (dA 2, .long), (dA 3, .object "NumberComes$Text")]
theorem zWs_at {dA : Nat → ClassId} {ad : Nat → Nat} {w : qW} {c : Nat} (h1 : 0 < c) (h2 : c < 100) : (zWs dA ad w)[c - 1]? = some (ad c, zCe dA ad w c) := by
  unfold zWs
  rw [List.getElem?_map, List.getElem?_range (by omega)]
  simp [show c - 1 + 1 = c by omega]
theorem zWs_set {dA : Nat → ClassId} {ad : Nat → Nat} {w w' : qW} {c : Nat} (h1 : 0 < c) (h2 : c < 100) (he : ∀ c', c' ≠ c → zCe dA ad w' c' = zCe dA ad w c') : zWs dA ad w' = (zWs dA ad w).set (c - 1) (ad c, zCe dA ad w' c) := by
  apply List.ext_getElem?
  intro i
  unfold zWs
  rw [List.getElem?_set]
  simp only [List.length_map, List.length_range, List.getElem?_map]
  by_cases hi : i < 99
  · rw [List.getElem?_range hi]
    by_cases e : c - 1 = i
    · subst e
      simp [hi, show c - 1 + 1 = c by omega]
    · simp [e, he (i + 1) (by omega)]
  · rw [List.getElem?_eq_none (by simp; omega)]
    by_cases e : c - 1 = i
    · omega
    · simp [e]
theorem zKd_lt {c : Nat} (h : qKd c ≠ 0) : c < 100 := by
  rcases Nat.lt_or_ge c 100 with g | g
  · exact g
  · exfalso
    apply h
    unfold qKd
    have e : ∀ n : Nat, n < 2 ^ 800 → Nat.shiftRight n (Nat.mul 8 c) = 0 := fun n hn => by
      rw [show Nat.shiftRight n (Nat.mul 8 c) = n >>> (8 * c) from rfl, Nat.shiftRight_eq_div_pow]
      exact Nat.div_eq_of_lt (Nat.lt_of_lt_of_le hn (Nat.pow_le_pow_right (by decide) (by omega)))
    rw [e _ (by decide +kernel)]
theorem zKd_0 : qKd 0 = 37 := by decide +kernel
theorem zAl {s : Nat × (Nat → Int32)} {w : qW} {c k : Nat} (h : qAl (some s) w c k = true) : qKd c = k := by
  unfold qAl at h
  split at h
  · rename_i e; exact Nat.eq_of_beq_eq_true e
  · cases h
theorem zQB {b : Bool} {A : Prop} (h : qB b A) : b = true ∧ A := by
  cases b
  · exact h.elim
  · exact ⟨rfl, h⟩
/-- a cell of a kind that isn't the script's -/
theorem zPos {c k : Nat} (h : qKd c = k) (h0 : k ≠ 0) (h37 : k ≠ 37) : 0 < c ∧ c < 100 := by
  refine ⟨Nat.pos_of_ne_zero fun e => ?_, zKd_lt (by rw [h]; exact h0)⟩
  rw [e, zKd_0] at h
  exact h37 h.symm
theorem zCe_33 {dA : Nat → ClassId} {ad : Nat → Nat} {w : qW} {c : Nat} (h : qKd c = 33) : zCe dA ad w c = .inl (dA 0, qLn c, .inl (fun j => w.1 c j)) := by unfold zCe; rw [h]; rfl
theorem zCe_34 {dA : Nat → ClassId} {ad : Nat → Nat} {w : qW} {c : Nat} (h : qKd c = 34) : zCe dA ad w c = .inl (dA 1, qLn c, .inl (fun j => w.1 c j)) := by unfold zCe; rw [h]; rfl
theorem zCe_35 {dA : Nat → ClassId} {ad : Nat → Nat} {w : qW} {c : Nat} (h : qKd c = 35) : zCe dA ad w c = .inl (dA 2, qLn c, .inr (.inl (fun j => w.2.1 c j))) := by unfold zCe; rw [h]; rfl
theorem zCe_36 {dA : Nat → ClassId} {ad : Nat → Nat} {w : qW} {c : Nat} (h : qKd c = 36) : zCe dA ad w c = .inl (dA 3, qLn c, .inr (.inr (.inr (.inr (fun j => (qR0 c j).map ad))))) := by unfold zCe; rw [h]; rfl
theorem zCe_o {dA : Nat → ClassId} {ad : Nat → Nat} {w : qW} {c k : Nat} (h : qKd c = k + 1) (hk : k < 13) : zCe dA ad w c = .inr (k, zFs ad w c k) := by
  unfold zCe
  rw [h]
  split <;> first | omega | rfl
theorem zFs_at {ad : Nat → Nat} {w : qW} {c k f so : Nat} (h : ((zSo[k]?).bind (fun l => l[f]?)) = some so) : (zFs ad w c k)[f]? = some (zFv ad w c f so) ∧ f < (zFs ad w c k).length := by
  obtain ⟨l, hl, hf⟩ := Option.bind_eq_some_iff.mp h
  have e : zSo.getD k [] = l := by rw [List.getD_eq_getElem?_getD, hl]; rfl
  have hlt : f < l.length := (List.getElem?_eq_some_iff.mp hf).1
  unfold zFs
  rw [e]
  refine ⟨?_, by simpa using hlt⟩
  rw [List.getElem?_map, List.getElem?_range hlt]
  simp [List.getD_eq_getElem?_getD, hf]
/-- a field of an object is written -/
theorem zFs_set {ad : Nat → Nat} {w w' : qW} {c k f so : Nat} {v : Value} (h : ((zSo[k]?).bind (fun l => l[f]?)) = some so) (hv : zFv ad w' c f so = v) (ho : ∀ f' so', f' ≠ f → zFv ad w' c f' so' = zFv ad w c f' so') : zFs ad w' c k = (zFs ad w c k).set f v := by
  obtain ⟨l, hl, hf⟩ := Option.bind_eq_some_iff.mp h
  have e : zSo.getD k [] = l := by rw [List.getD_eq_getElem?_getD, hl]; rfl
  obtain ⟨hlt, hfe⟩ := List.getElem?_eq_some_iff.mp hf
  unfold zFs
  rw [e]
  apply List.ext_getElem?
  intro i
  rw [List.getElem?_set]
  simp only [List.length_map, List.length_range, List.getElem?_map]
  by_cases hi : i < l.length
  · rw [List.getElem?_range hi]
    by_cases ei : f = i
    · subst ei
      simp [hlt, List.getD_eq_getElem?_getD, hfe, hv]
    · simp [ei, ho i _ (Ne.symm ei)]
  · rw [List.getElem?_eq_none (by simp; omega)]
    by_cases ei : f = i
    · omega
    · simp [ei]
theorem zCe_I {dA : Nat → ClassId} {ad : Nat → Nat} {w : qW} {c f : Nat} {v : Int32} {c' : Nat} (h : c' ≠ c) : zCe dA ad (qPutI w c f v) c' = zCe dA ad w c' := by
  have e : ∀ j, (qPutI w c f v).1 c' j = w.1 c' j := fun j => by simp [qPutI, h]
  unfold zCe zFs zFv zRf
  simp only [e]
  rfl
theorem zCe_L {dA : Nat → ClassId} {ad : Nat → Nat} {w : qW} {c f : Nat} {v : Int64} {c' : Nat} (h : c' ≠ c) : zCe dA ad (qPutL w c f v) c' = zCe dA ad w c' := by
  have e : ∀ j, (qPutL w c f v).2.1 c' j = w.2.1 c' j := fun j => by simp [qPutL, h]
  unfold zCe zFs zFv zRf
  simp only [e]
  rfl
theorem zRf_R {w : qW} {v : Option Nat} {c f : Nat} (h : ¬ (c = 25 ∧ f = 4)) (hf : f < 64) : zRf (qPutR w 25 4 v) c f = zRf w c f := by
  unfold zRf
  have hne : Nat.beq (Nat.add (Nat.mul 64 c) f) 1604 = false := by
    cases hb : Nat.beq (Nat.add (Nat.mul 64 c) f) 1604 with
    | false => rfl
    | true =>
      have := Nat.eq_of_beq_eq_true hb
      have e : 64 * c + f = 1604 := this
      omega
  rw [hne]
theorem zSo_len : ∀ k : Nat, (zSo.getD k []).length ≤ 46 := by
  intro k
  rcases Nat.lt_or_ge k 13 with h | h
  · have key : ∀ k : Fin 13, (zSo.getD k.val []).length ≤ 46 := by decide +kernel
    exact key ⟨k, h⟩
  · rw [List.getD_eq_getElem?_getD, List.getElem?_eq_none (by show zSo.length ≤ k; exact h)]
    decide
theorem zCe_R {dA : Nat → ClassId} {ad : Nat → Nat} {w : qW} {v : Option Nat} {c' : Nat} (h : c' ≠ 25) : zCe dA ad (qPutR w 25 4 v) c' = zCe dA ad w c' := by
  have e : ∀ k, zFs ad (qPutR w 25 4 v) c' k = zFs ad w c' k := fun k => by
    unfold zFs
    apply List.map_congr_left
    intro f hf
    have hf : f < (zSo.getD k []).length := List.mem_range.mp hf
    have hl := zSo_len k
    unfold zFv
    rw [zRf_R (fun g => h g.1) (by omega)]
    rfl
  unfold zCe
  split <;> first | rfl | rw [e]
theorem zCe_cI {dA : Nat → ClassId} {ad : Nat → Nat} {w : qW} {s i d j n : Nat} {c' : Nat} (h : c' ≠ d) : zCe dA ad (qCpI w s i d j n) c' = zCe dA ad w c' := by
  have e : ∀ j', (qCpI w s i d j n).1 c' j' = w.1 c' j' := fun j' => by simp [qCpI, h]
  unfold zCe zFs zFv zRf
  simp only [e]
  rfl
theorem zCe_cL {dA : Nat → ClassId} {ad : Nat → Nat} {w : qW} {s i d j n : Nat} {c' : Nat} (h : c' ≠ d) : zCe dA ad (qCpL w s i d j n) c' = zCe dA ad w c' := by
  have e : ∀ j', (qCpL w s i d j n).2.1 c' j' = w.2.1 c' j' := fun j' => by simp [qCpL, h]
  unfold zCe zFs zFv zRf
  simp only [e]
  rfl
def zAd (ad : Nat → Nat) (base : Nat) : Prop := (∀ c, 0 < c → c < 100 → base ≤ ad c) ∧ ∀ c c', 0 < c → c < 100 → 0 < c' → c' < 100 → ad c = ad c' → c = c'
theorem zWs_D {dA : Nat → ClassId} {ad : Nat → Nat} {w : qW} {base : Nat} (h : zAd ad base) : va_D (fun q => base ≤ q) (zWs dA ad w) := by
  have key : ∀ (i : Nat) (p : Nat × va_E), (zWs dA ad w)[i]? = some p → i < 99 ∧ p.1 = ad (i + 1) := by
    intro i p hp
    unfold zWs at hp
    rw [List.getElem?_map] at hp
    cases hr : (List.range 99)[i]? with
    | none => rw [hr] at hp; cases hp
    | some j =>
      have hj := List.getElem?_eq_some_iff.mp hr
      obtain ⟨hlt, he⟩ := hj
      simp at hlt he
      rw [hr] at hp
      cases hp
      subst he
      exact ⟨hlt, rfl⟩
  refine ⟨fun i j p q hp hq e => ?_, fun k q hq => ?_⟩
  · obtain ⟨h1, e1⟩ := key i p hp
    obtain ⟨h2, e2⟩ := key j q hq
    have := h.2 (i + 1) (j + 1) (by omega) (by omega) (by omega) (by omega) (by rw [← e1, ← e2]; exact e)
    omega
  · obtain ⟨h1, e1⟩ := key k q hq
    show base ≤ q.1
    rw [e1]
    exact h.1 (k + 1) (by omega) (by omega)
/-! locals -/
def zLv (ad : Nat → Nat) (ls : qL) (lr : Array Slot) (n : Nat) : Prop := lr.size = n ∧ lv_wf lr ∧ ∀ i v, qGet ls i = some v → lr[i]? = some (.val (zV ad v))
def zPr (ad : Nat → Nat) : Nat → qL → List (Nat × Value)
  | _, [] => []
  | n, some v :: t => (n, zV ad v) :: zPr ad (n + 1) t
  | n, none :: t => zPr ad (n + 1) t
theorem zPr_in {ad : Nat → Nat} : ∀ {ls : qL} {n i : Nat} {v : Value}, qGet ls i = some v → (n + i, zV ad v) ∈ zPr ad n ls
  | [], _, _, _, h => by cases h
  | some u :: t, n, 0, v, h => by cases h; exact List.mem_cons_self
  | none :: t, n, 0, v, h => by cases h
  | some u :: t, n, i + 1, v, h => List.mem_cons_of_mem _ (by have := zPr_in (ad := ad) (ls := t) (n := n + 1) (i := i) h; rwa [Nat.add_right_comm] at this)
  | none :: t, n, i + 1, v, h => by have := zPr_in (ad := ad) (ls := t) (n := n + 1) (i := i) h; rwa [Nat.add_right_comm] at this
theorem zPr_of {ad : Nat → Nat} : ∀ {ls : qL} {n : Nat} {q : Nat × Value}, q ∈ zPr ad n ls → ∃ i v, qGet ls i = some v ∧ q = (n + i, zV ad v)
  | [], _, _, h => by cases h
  | some u :: t, n, q, h => by
    rcases List.mem_cons.mp h with e | h
    · exact ⟨0, u, rfl, e⟩
    · obtain ⟨i, v, h1, h2⟩ := zPr_of (ls := t) (n := n + 1) h
      exact ⟨i + 1, v, h1, by rw [h2, Nat.add_right_comm]; rfl⟩
  | none :: t, n, q, h => by
    obtain ⟨i, v, h1, h2⟩ := zPr_of (ls := t) (n := n + 1) h
    exact ⟨i + 1, v, h1, by rw [h2, Nat.add_right_comm]; rfl⟩
theorem zLv.has {ad : Nat → Nat} {ls : qL} {lr : Array Slot} {n : Nat} (h : zLv ad ls lr n) : lv_has lr n (zPr ad 0 ls) := by
  refine ⟨h.1, h.2.1, fun q hq => ?_⟩
  obtain ⟨i, v, h1, rfl⟩ := zPr_of hq
  simpa using h.2.2 i v h1
theorem qGet_set : ∀ {ls : qL} {i j : Nat} {v : Option Value} {u : Value}, qGet (qSet ls i v) j = some u → (j = i ∧ v = some u) ∨ (j ≠ i ∧ qGet ls j = some u)
  | [], _, _, _, _, h => by cases h
  | a :: t, 0, 0, v, u, h => Or.inl ⟨rfl, h⟩
  | a :: t, 0, j + 1, v, u, h => Or.inr ⟨by omega, h⟩
  | a :: t, i + 1, 0, v, u, h => Or.inr ⟨by omega, h⟩
  | a :: t, i + 1, j + 1, v, u, h => by
    rcases qGet_set (ls := t) (i := i) (j := j) h with ⟨e, g⟩ | ⟨e, g⟩
    · exact Or.inl ⟨by omega, g⟩
    · exact Or.inr ⟨by omega, g⟩
theorem qIs2_cat {v : Value} : qIs2 (some v) = true ↔ v.category = 2 := by cases v <;> simp [qIs2, Value.category]
theorem qGet_kill {ls : qL} {i j : Nat} {u : Value} (h : qGet (qKill ls i) j = some u) : qGet ls j = some u ∧ ¬ (j + 1 = i ∧ u.category = 2) := by
  cases i with
  | zero => exact ⟨h, by omega⟩
  | succ i =>
    have e : qKill ls (i + 1) = (match qIs2 (qGet ls i) with | true => qSet ls i none | false => ls) := rfl
    rw [e] at h
    split at h
    · rcases qGet_set h with ⟨_, g⟩ | ⟨g1, g2⟩
      · cases g
      · exact ⟨g2, by omega⟩
    · rename_i hn
      refine ⟨h, fun ⟨g1, g2⟩ => ?_⟩
      have : j = i := by omega
      subst this
      rw [h] at hn
      rw [qIs2_cat.mpr g2] at hn
      cases hn
theorem zLv.st1 {ad : Nat → Nat} {ls : qL} {lr : Array Slot} {n i : Nat} {v : Value} (h : lv_has lr n ((i, zV ad v) :: (zPr ad 0 ls).filter (fun q => !(q.1 == i) && !(q.1 + 1 == i && q.2.category == 2)))) : zLv ad (qSt1 ls i v) lr n := by
  refine ⟨h.1, h.2.1, fun j u hu => ?_⟩
  unfold qSt1 at hu
  rcases qGet_set hu with ⟨e, g⟩ | ⟨e, g⟩
  · cases g
    rw [e]
    exact h.2.2 (i, zV ad v) List.mem_cons_self
  · obtain ⟨g1, g2⟩ := qGet_kill g
    refine h.2.2 (j, zV ad u) (List.mem_cons_of_mem _ (List.mem_filter.mpr ⟨by simpa using zPr_in (ad := ad) (n := 0) g1, ?_⟩))
    simp only [zV_cat]
    simp only [Bool.and_eq_true, Bool.not_eq_true', beq_eq_false_iff_ne, ne_eq, Bool.and_eq_false_iff]
    refine ⟨e, ?_⟩
    by_cases hj : j + 1 = i
    · exact Or.inr (fun hc => g2 ⟨hj, hc⟩)
    · exact Or.inl hj
theorem zLv.st2 {ad : Nat → Nat} {ls : qL} {lr : Array Slot} {n i : Nat} {v : Value} (h : lv_has lr n ((i, zV ad v) :: (zPr ad 0 ls).filter (fun q => !(q.1 == i) && (!(q.1 == i + 1) && !(q.1 + 1 == i && q.2.category == 2))))) : zLv ad (qSt2 ls i v) lr n := by
  refine ⟨h.1, h.2.1, fun j u hu => ?_⟩
  unfold qSt2 at hu
  rcases qGet_set hu with ⟨e, g⟩ | ⟨e, g⟩
  · cases g
  · rcases qGet_set g with ⟨e', g'⟩ | ⟨e', g'⟩
    · cases g'
      rw [e']
      exact h.2.2 (i, zV ad v) List.mem_cons_self
    · obtain ⟨g1, g2⟩ := qGet_kill g'
      refine h.2.2 (j, zV ad u) (List.mem_cons_of_mem _ (List.mem_filter.mpr ⟨by simpa using zPr_in (ad := ad) (n := 0) g1, ?_⟩))
      simp only [zV_cat]
      simp only [Bool.and_eq_true, Bool.not_eq_true', beq_eq_false_iff_ne, ne_eq, Bool.and_eq_false_iff]
      refine ⟨e', e, ?_⟩
      by_cases hj : j + 1 = i
      · exact Or.inr (fun hc => g2 ⟨hj, hc⟩)
      · exact Or.inl hj
