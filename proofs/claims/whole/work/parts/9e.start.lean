/-! What the start gives: the classes, the arrays, the literals. By a program of mine. -/
def gF : List Cond := flatC (Jvm.Cond.and given_1 narrow_1)
def gTm (i : Nat) : Term := .string "NumberComes$Reader" (zSi.getD i 0)
def gLe : List Nat := (List.range 16).map fun i => (qSt i).length
def gBy : List (List Int32) := (List.range 16).map fun i => (qSt i).map fun n => Int32.ofNat n
def gEx : List Nat := [9, 26, 35, 46, 59, 71, 84, 99, 116, 133, 149, 166, 186, 207, 227, 248]
def gCo : List Nat := [10, 27, 36, 47, 60, 72, 85, 100, 117, 134, 150, 167, 187, 208, 228, 249]
def gAr : List Nat := [11, 28, 37, 48, 61, 73, 86, 101, 118, 135, 151, 168, 188, 209, 229, 250]
def gLp : List Nat := [12, 29, 38, 49, 62, 74, 87, 102, 119, 136, 152, 169, 189, 210, 230, 251]
def gEl : List (List Nat) := [[13, 14, 15, 16, 17, 18, 19, 20, 21, 22, 23, 24, 25], [30, 31, 32, 33], [39, 40, 41, 42, 43], [50, 51, 52, 53, 54, 55], [63, 64, 65, 66], [75, 76, 77, 78], [88, 89, 90, 91, 92], [103, 104, 105, 106, 107, 108], [120, 121, 122, 123, 124], [137, 138, 139], [153, 154, 155], [170, 171, 172, 173, 174], [190, 191, 192, 193, 194], [211, 212, 213], [231, 232, 233], [252, 253]]
def gNe : List (List Nat) := [[0, 34, 44, 56, 67, 79, 93, 109, 125, 140, 156, 175, 195, 214, 234, 254], [34, 0, 45, 57, 68, 80, 94, 110, 126, 141, 157, 176, 196, 215, 235, 255], [44, 45, 0, 58, 69, 81, 95, 111, 127, 142, 158, 177, 197, 216, 236, 256], [56, 57, 58, 0, 70, 82, 96, 112, 128, 143, 159, 178, 198, 217, 237, 257], [67, 68, 69, 70, 0, 83, 97, 113, 129, 144, 160, 179, 199, 218, 238, 258], [79, 80, 81, 82, 83, 0, 98, 114, 130, 145, 161, 180, 200, 219, 239, 259], [93, 94, 95, 96, 97, 98, 0, 115, 131, 146, 162, 181, 201, 220, 240, 260], [109, 110, 111, 112, 113, 114, 115, 0, 132, 147, 163, 182, 202, 221, 241, 261], [125, 126, 127, 128, 129, 130, 131, 132, 0, 148, 164, 183, 203, 222, 242, 262], [140, 141, 142, 143, 144, 145, 146, 147, 148, 0, 165, 184, 204, 223, 243, 263], [156, 157, 158, 159, 160, 161, 162, 163, 164, 165, 0, 185, 205, 224, 244, 264], [175, 176, 177, 178, 179, 180, 181, 182, 183, 184, 185, 0, 206, 225, 245, 265], [195, 196, 197, 198, 199, 200, 201, 202, 203, 204, 205, 206, 0, 226, 246, 266], [214, 215, 216, 217, 218, 219, 220, 221, 222, 223, 224, 225, 226, 0, 247, 267], [234, 235, 236, 237, 238, 239, 240, 241, 242, 243, 244, 245, 246, 247, 0, 268], [254, 255, 256, 257, 258, 259, 260, 261, 262, 263, 264, 265, 266, 267, 268, 0]]
set_option maxRecDepth 100000 in
theorem g_ex : ∀ i : Fin 16, gF[gEx.getD i.val 0]? = some (.exactly (gTm i.val) "java/lang/String") ∧ gF[gCo.getD i.val 0]? = some (.eq (.field (gTm i.val) "java/lang/String" "coder" "B") (.int 0)) ∧ gF[gAr.getD i.val 0]? = some (.arrayOf (.field (gTm i.val) "java/lang/String" "value" "[B") .byte) ∧ gF[gLp.getD i.val 0]? = some (.eq (.length (.field (gTm i.val) "java/lang/String" "value" "[B")) (.int (Int32.ofNat (gLe.getD i.val 0)))) ∧ gLe.getD i.val 0 ≤ 16 := by decide +kernel
set_option maxRecDepth 100000 in
theorem g_el : ∀ i : Fin 16, ∀ j : Fin 16, j.val < gLe.getD i.val 0 → gF[(gEl.getD i.val []).getD j.val 0]? = some (.eq (.elem (.field (gTm i.val) "java/lang/String" "value" "[B") (.int (Int32.ofNat j.val))) (.int ((gBy.getD i.val []).getD j.val 0))) := by decide +kernel
set_option maxRecDepth 100000 in
theorem g_ne : ∀ i : Fin 16, ∀ j : Fin 16, i.val < j.val → gF[(gNe.getD i.val []).getD j.val 0]? = some (.not (.eq (gTm i.val) (gTm j.val))) := by decide +kernel
theorem g_cs : gF[4]? = some (.eq (.static "java/lang/String" "COMPACT_STRINGS" "Z") (.int 1)) ∧ gF[5]? = some (.isRef (.static "jdk/internal/util/Preconditions" "SIOOBE_FORMATTER" "Ljava/util/function/BiFunction;")) := by decide +kernel
theorem g_st : zPk (3, 139) = some (.laysStatic "java/lang/String" "COMPACT_STRINGS" "Z") ∧ zPk (1, 15) = some (.initialized "java/lang/String") ∧ zPk (3, 178) = some (.laysStatic "jdk/internal/util/Preconditions" "SIOOBE_FORMATTER" "Ljava/util/function/BiFunction;") ∧ zPk (1, 18) = some (.initialized "jdk/internal/util/Preconditions") := by decide +kernel
def gIn : List (Nat × Nat) := [(1, 25), (1, 33), (1, 152), (1, 191), (1, 238), (2, 13), (2, 47), (2, 75), (2, 98), (2, 136), (2, 161), (2, 185), (6, 108)]
theorem g_in : ∀ k : Fin 13, (zCl[k.val]?).bind (fun q => some (Cond.instantiable q.1 q.2.2)) = zPk (gIn.getD k.val (99, 0)) := by decide +kernel
def gSr : List (Nat × Nat) := [(3, 125), (3, 216), (4, 2), (4, 3), (4, 4), (4, 17), (4, 42), (4, 43), (4, 44), (4, 45), (4, 46), (4, 47), (4, 48), (4, 65), (4, 70), (4, 71)]
def gTx : List String := ["<>=#+-*/%(),;", "bars", "worth", "person", "near", "from", "clock", "number", "first", "who", "got", "asked", "hours", "not", "and", "or"]
theorem g_sr : ∀ i : Fin 16, zPk (gSr.getD i.val (99, 0)) = some (.stringRef "NumberComes$Reader" (zSi.getD i.val 0) (gTx.getD i.val "")) := by decide +kernel
theorem g_ar : zPk (yAr .int).2 = some (.arrayClass .int) ∧ zPk (yAr .boolean).2 = some (.arrayClass .boolean) ∧ zPk (yAr .long).2 = some (.arrayClass .long) := by decide +kernel
/-- the classes and the arrays -/
theorem g_K {s : State} {A : Array Value} (hts : ∀ w ∈ lw_tbl, w.before A s = true) : ∃ (D : va_G) (dA : Nat → ClassId), va_K D zCl (zTy dA) s := by
  have h0 : ∀ k : Nat, ∃ q : ClassId × (Nat → Nat), ∀ r, zCl[k]? = some r → u_Kn s r.1 r.2.1 r.2.2 q.1 q.2 := by
    intro k
    cases hk : zCl[k]? with
    | none => exact ⟨(0, fun _ => 0), fun r hr => by cases hr⟩
    | some r =>
      obtain ⟨i1, -, -⟩ := zCl_ok hk
      have hk13 : k < 13 := (List.getElem?_eq_some_iff.mp hk).1
      have hin := g_in ⟨k, hk13⟩
      rw [show zCl[(⟨k, hk13⟩ : Fin 13).val]? = some r from hk] at hin
      obtain ⟨cC, iS, h1⟩ := u_known hts i1 (hts _ (zPk_in hin.symm))
      exact ⟨(cC, iS), fun r' hr' => by cases hr'; exact h1⟩
  obtain ⟨f, hf⟩ := Classical.axiomOfChoice h0
  obtain ⟨c0, k0, m0, a0, b0, e0⟩ := Cond.arrayClass_spec (hts _ (zPk_in g_ar.1))
  obtain ⟨c1, k1, m1, a1, b1, e1⟩ := Cond.arrayClass_spec (hts _ (zPk_in g_ar.2.1))
  obtain ⟨c2, k2, m2, a2, b2, e2⟩ := Cond.arrayClass_spec (hts _ (zPk_in g_ar.2.2))
  obtain ⟨m3, c3, k3, a3, -, b3, e3, f3⟩ := Cond.arrayOver_spec (hts _ (zPk_in yWd.1))
  refine ⟨(fun k => (f k).1, fun k => (f k).2), fun i => match i with | 0 => c0 | 1 => c1 | 2 => c2 | _ => c3, fun c q hq => hf c q hq, fun k q hk => ?_⟩
  match k, hk with
  | 0, hk => cases hk; exact ⟨fun n z => ⟨fun k h => (by cases h), k0, b0, m0, e0⟩, a0⟩
  | 1, hk => cases hk; exact ⟨fun n z => ⟨fun k h => (by cases h), k1, b1, m1, e1⟩, a1⟩
  | 2, hk => cases hk; exact ⟨fun n z => ⟨fun k h => (by cases h), k2, b2, m2, e2⟩, a2⟩
  | 3, hk => cases hk; exact ⟨fun n z => ⟨fun k h => (by cases h), k3, b3, m3, e3⟩, k3, m3, b3, e3, a3, f3⟩
  | k + 4, hk => simp at hk
/-- the literals and the statics -/
theorem g_S {s : State} {A : Array Value} (hts : ∀ w ∈ lw_tbl, w.before A s = true) (hgv : (Jvm.Cond.and given_1 narrow_1).before A s = true) : ∃ adK adV : Nat → Nat, vk_S 16 gLe gBy adK adV (fun q => s.heap.size ≤ q) s s.heap ∧ (∀ i : Nat, i < 16 → (gTm i).eval A s none [] s = some (.ref (adK i))) ∧ va_Z "java/lang/String" "COMPACT_STRINGS" "Z" (.int 1) (fun q => s.heap.size ≤ q) s s.heap ∧ va_Zq "jdk/internal/util/Preconditions" "SIOOBE_FORMATTER" "Ljava/util/function/BiFunction;" (fun q => s.heap.size ≤ q) s s.heap := by
  have hF : ∀ {k : Nat} {w : Cond}, gF[k]? = some w → w.before A s = true := fun h => flat_of_before _ hgv _ (List.mem_of_getElem? h)
  have hA : ∀ a : Nat, a < s.heap.size → ¬ s.heap.size ≤ a := fun a h => Nat.not_le.mpr h
  obtain ⟨adK, adV, h1, h2⟩ := vk_Sof (args := A) (s := s) (N := 16) (tm := gTm) (len := gLe) (byt := gBy) (A := fun q => s.heap.size ≤ q)
    (fun i hi => Nat.lt_of_le_of_lt (g_ex ⟨i, hi⟩).2.2.2.2 (by decide)) (fun i hi => hF (g_ex ⟨i, hi⟩).1) (fun i hi => hF (g_ex ⟨i, hi⟩).2.1) (fun i hi => hF (g_ex ⟨i, hi⟩).2.2.1) (fun i hi => hF (g_ex ⟨i, hi⟩).2.2.2.1)
    (fun i hi j hj => hF (g_el ⟨i, hi⟩ ⟨j, Nat.lt_of_lt_of_le hj (g_ex ⟨i, hi⟩).2.2.2.2⟩ hj))
    (fun i j hi hj hne => by
      rcases Nat.lt_or_gt_of_ne hne with g | g
      · exact Or.inl (hF (g_ne ⟨i, hi⟩ ⟨j, hj⟩ g))
      · exact Or.inr (hF (g_ne ⟨j, hj⟩ ⟨i, hi⟩ g))) hA
  exact ⟨adK, adV, h1, h2, va_Zof (hts _ (zPk_in g_st.1)) (hts _ (zPk_in g_st.2.1)) (va_eqt (hF g_cs.1)) hA, va_Zqof (hts _ (zPk_in g_st.2.2.1)) (hts _ (zPk_in g_st.2.2.2)) (hF g_cs.2) hA⟩
