/-! The reference's constructor to its end, and what the two worlds hold at first. -/
def gN : vS := fun k _ => if k = 2 then 24 else 0
def gT : Nat → vT := fun _ => (0, fun _ => (0, 0, 0), fun _ => [])
def gZ : vZ := (0, fun _ => 0, -1, -1)
theorem g_okS : okS gN := by
  unfold okS
  refine ⟨by decide, Or.inl rfl, by decide, by decide, by decide, by decide, by decide, by decide, by decide, ?_, ?_, ?_, ?_, ?_, ?_, ?_⟩ <;> exact fun i hi => (Nat.not_lt_zero i hi).elim
theorem g_rS {w : qW} {c : Nat} (h0 : ∀ c' i, c ≤ c' → c' ≤ c + 10 → ¬ (c' = c ∧ (i = 5 ∨ i = 7)) → w.1 c' i = 0) (h5 : w.1 c 5 = nI 24) (h7 : w.1 c 7 = -1) : rS w c gN := by
  have e0 : ∀ i, i ≠ 5 → i ≠ 7 → w.1 c i = nI 0 := fun i a b => h0 c i (Nat.le_refl _) (by omega) (by omega)
  unfold rS
  refine ⟨e0 0 (by decide) (by decide), e0 4 (by decide) (by decide), h5, e0 6 (by decide) (by decide), h7.trans (by decide), e0 8 (by decide) (by decide), e0 11 (by decide) (by decide), e0 13 (by decide) (by decide), e0 17 (by decide) (by decide), ⟨0, e0 19 (by decide) (by decide), by decide, fun k hk => (Nat.not_lt_zero k hk).elim⟩, ?_, ?_, ?_, ?_, ?_, ?_, ?_, ?_, ?_, ?_⟩ <;> exact fun i hi => (Nat.not_lt_zero i hi).elim
theorem g_rR {w : qW} {a t : Nat} (h0 : ∀ i, i < 262 → i ≠ 2 → i ≠ 4 → w.1 a i = 0) (h2 : w.1 a 2 = nI 24) (h4 : w.1 a 4 = -1) : rR w a t gN := by
  have e0 : ∀ i, i < 262 → i ≠ 2 → i ≠ 4 → w.1 a i = nI 0 := fun i a b c => h0 i a b c
  unfold rR
  refine ⟨e0 0 (by decide) (by decide) (by decide), e0 1 (by decide) (by decide) (by decide), h2, e0 3 (by decide) (by decide) (by decide), h4.trans (by decide), e0 5 (by decide) (by decide) (by decide), e0 6 (by decide) (by decide) (by decide), e0 7 (by decide) (by decide) (by decide), e0 8 (by decide) (by decide) (by decide), ?_, ?_, ?_, fun i _ hi => e0 (40 + i) (by omega) (by omega) (by omega), ?_, ?_, ?_, ?_, ?_, ?_, ?_, ?_, ?_, ?_⟩ <;> exact fun i hi => (Nat.not_lt_zero i hi).elim
theorem g_I0 {w : qW} (h : ∀ c i, c ≠ 73 → c ≠ 74 → w.1 c i = yGi gV2.1 c i) (h73 : ∀ i, i < 262 → w.1 73 i = if i = 4 then -1 else if i = 2 then 24 else 0) (h74 : ∀ i, i < 262 → w.1 74 i = if i = 4 then -1 else if i = 2 then 24 else 0) : rX w gN gN gT gZ ∧ rM w gN gN gT gZ := by
  have z : ∀ c i, ¬ (c = 72 ∧ (i = 7 ∨ i = 8)) → ¬ (c = 25 ∧ (i = 2 ∨ i = 3)) → ¬ (c = 13 ∧ (i = 5 ∨ i = 7)) → ¬ (c = 2 ∧ (i = 5 ∨ i = 7)) → yGi gV2.1 c i = 0 := by
    intro c i a1 a2 a3 a4
    unfold gV2
    simp only [yGi]
    rw [if_neg (by omega), if_neg (by omega), if_neg (by omega), if_neg (by omega), if_neg (by omega), if_neg (by omega), if_neg (by omega), if_neg (by omega)]
  have r2 : rS w 2 gN := g_rS (fun c' i a b e => (h c' i (by omega) (by omega)).trans (z c' i (by omega) (by omega) (by omega) (by omega))) ((h 2 5 (by decide) (by decide)).trans (by decide +kernel)) ((h 2 7 (by decide) (by decide)).trans (by decide +kernel))
  have r13 : rS w 13 gN := g_rS (fun c' i a b e => (h c' i (by omega) (by omega)).trans (z c' i (by omega) (by omega) (by omega) (by omega))) ((h 13 5 (by decide) (by decide)).trans (by decide +kernel)) ((h 13 7 (by decide) (by decide)).trans (by decide +kernel))
  have r73 : rR w 73 75 gN := g_rR (fun i a b c => by rw [h73 i a, if_neg c, if_neg b]) (h73 2 (by decide)) (h73 4 (by decide))
  have r74 : rR w 74 76 gN := g_rR (fun i a b c => by rw [h74 i a, if_neg c, if_neg b]) (h74 2 (by decide)) (h74 4 (by decide))
  have o51 : ∀ c, w.1 51 c = nI 0 := fun c => (h 51 c (by decide) (by decide)).trans (z 51 c (by omega) (by omega) (by omega) (by omega))
  refine ⟨⟨r2, r13, g_okS, g_okS, Nat.le_refl _, fun i hi => (Nat.not_lt_zero i hi).elim, fun i hi => (Nat.not_lt_zero i hi).elim, (h 25 1 (by decide) (by decide)).trans (by decide +kernel), Nat.zero_le _, fun i hi => (Nat.not_lt_zero i hi).elim, fun i hi => (Nat.not_lt_zero i hi).elim, (h 25 2 (by decide) (by decide)).trans (by decide +kernel), (h 25 3 (by decide) (by decide)).trans (by decide +kernel), fun c _ => ⟨0, o51 c, by decide, fun p hp => (Nat.not_lt_zero p hp).elim⟩, fun c _ => ⟨0, o51 c, by decide⟩⟩, ⟨r73, r74, g_okS, g_okS, Nat.le_refl _, fun i hi => (Nat.not_lt_zero i hi).elim, fun i hi => (Nat.not_lt_zero i hi).elim, (h 72 6 (by decide) (by decide)).trans (by decide +kernel), Nat.zero_le _, fun i hi => (Nat.not_lt_zero i hi).elim, fun i hi => (Nat.not_lt_zero i hi).elim, (h 72 7 (by decide) (by decide)).trans (by decide +kernel), (h 72 8 (by decide) (by decide)).trans (by decide +kernel)⟩⟩
set_option maxRecDepth 100000 in
theorem A_MoT {s : Nat × (Nat → Int32)} {d : Nat} {w : qW} {Q : qW → Prop} (h : qIn (2 : Int32) 262 ∧ qIn (4 : Int32) 262 ∧ qCall (some s) d 206 [.ref 73, .ref 74] (qPutI (qPutI w 73 (qIx (2 : Int32)) (24 : Int32)) 73 (qIx (4 : Int32)) (-1 : Int32)) (qQv Q)) : qAt s d c_MoT (qQv Q) 239 [some (.ref 72)] [] w := qAt_of u_MoT [] 30 h
def gI (w : qW) : Prop := rX w gN gN gT gZ ∧ rM w gN gN gT gZ
theorem g_tail {s : Nat × (Nat → Int32)} : qAt s 1 c_MoT (qQv gI) 239 [some (.ref 72)] [] (gYw gV2) := by
  refine A_MoT ⟨by show qIn (nI 2) 262; exact qIn_nI (by omega) (by omega), by show qIn (nI 4) 262; exact qIn_nI (by omega) (by omega), m_copyIn (Nat.le_refl _) fun w' e f => ?_⟩
  have k73 : ∀ i, (qPutI (qPutI (gYw gV2) 73 (qIx (2 : Int32)) (24 : Int32)) 73 (qIx (4 : Int32)) (-1 : Int32)).1 73 i = if i = 4 then -1 else if i = 2 then 24 else 0 := by
    intro i
    show (if 73 = 73 ∧ i = 4 then (-1 : Int32) else if 73 = 73 ∧ i = 2 then 24 else yGi gV2.1 73 i) = _
    have e0 : yGi gV2.1 73 i = 0 := by
      unfold gV2
      simp only [yGi]
      rw [if_neg (by omega), if_neg (by omega), if_neg (by omega), if_neg (by omega), if_neg (by omega), if_neg (by omega), if_neg (by omega), if_neg (by omega)]
    rw [e0]
    simp only [true_and]
  have ko : ∀ c i, c ≠ 73 → (qPutI (qPutI (gYw gV2) 73 (qIx (2 : Int32)) (24 : Int32)) 73 (qIx (4 : Int32)) (-1 : Int32)).1 c i = yGi gV2.1 c i := by
    intro c i hc
    show (if c = 73 ∧ i = _ then (-1 : Int32) else if c = 73 ∧ i = _ then 24 else yGi gV2.1 c i) = _
    rw [if_neg (fun g => hc g.1), if_neg (fun g => hc g.1)]
  refine g_I0 (fun c i a b => ?_) (fun i hi => ?_) (fun i hi => ?_)
  · rw [← ko c i a]; exact congrFun (f c b).1 i
  · rw [← k73 i]; exact congrFun (f 73 (by decide)).1 i
  · rw [e i hi, k73 i]
theorem g_P {D : va_G} {dA : Nat → ClassId} {ad : Nat → Nat} {H : Heap} (hP : va_P D zCl (yWs dA ad (gYw gV2)) H) : va_P D zCl (zWs dA ad (gYw gV2)) H := by
  intro k q hk
  have hk99 : k < 99 := by
    have := (List.getElem?_eq_some_iff.mp hk).1
    simpa [zWs] using this
  have e1 := zWs_at (dA := dA) (ad := ad) (w := gYw gV2) (c := k + 1) (by omega) (by omega)
  have e2 := yWs_at (dA := dA) (ad := ad) (w := gYw gV2) (c := k + 1) (by omega) (by show k + 1 < 100; omega)
  rw [show k + 1 - 1 = k from rfl] at e1 e2
  rw [e1] at hk
  cases hk
  have h := hP k _ e2
  have hr : ∀ f, f < 46 → zRf (gYw gV2) (k + 1) f = (gYw gV2).2.2.1 (k + 1) f := by
    intro f hf
    have := g_ref ⟨k + 1, by omega⟩ ⟨f, hf⟩
    unfold zRf
    split
    · rename_i hb
      obtain ⟨a, b⟩ := z1604 hb (by omega)
      rw [a, b]
    · exact this.symm
  have key : ∀ k', zFs ad (gYw gV2) (k + 1) k' = yFs ad (gYw gV2) (k + 1) k' := by
    intro k'
    unfold zFs yFs
    apply List.map_congr_left
    intro f hf
    have hf : f < (zSo.getD k' []).length := List.mem_range.mp hf
    have hl := zSo_len k'
    unfold zFv yFv
    rw [hr f (by omega)]
    first | rfl | (split <;> split <;> first | rfl | omega)
  by_cases h36 : qKd (k + 1) = 36
  · rw [zCe_36 h36]
    rw [yCe_36 h36] at h
    have h2 : H[ad (k + 1)]? = some (vp_cell (dA 3) (qLn (k + 1), .inr (.inr (.inr (.inr (fun j => ((gYw gV2).2.2.1 (k + 1) j).map ad)))))) := h
    show H[ad (k + 1)]? = some (vp_cell (dA 3) (qLn (k + 1), .inr (.inr (.inr (.inr (fun j => (qR0 (k + 1) j).map ad))))))
    rw [h2]
    have hl := g_len24 ⟨k + 1, by omega⟩ h36
    congr 1
    rw [vp_cell_q, vp_cell_q]
    unfold arrV
    congr 1
    apply Array.ext
    · simp
    · intro i h3 h4
      simp only [Array.getElem_ofFn]
      have hi : i < qLn (k + 1) := by simpa using h3
      have := g_ref ⟨k + 1, by omega⟩ ⟨i, by have hl : qLn (k + 1) ≤ 46 := hl; omega⟩
      show va_rf ((yGr gV2.2.1 (k + 1) i).map ad) = va_rf ((qR0 (k + 1) i).map ad)
      rw [this]
  · have e3 : zCe dA ad (gYw gV2) (k + 1) = yCe dA ad (gYw gV2) (k + 1) := by
      have hkd : ∀ c : Fin 100, c.val ≠ 0 → qKd c.val = 33 ∨ qKd c.val = 34 ∨ qKd c.val = 35 ∨ qKd c.val = 36 ∨ (1 ≤ qKd c.val ∧ qKd c.val ≤ 13) := by decide +kernel
      rcases hkd ⟨k + 1, by omega⟩ (by show k + 1 ≠ 0; omega) with g | g | g | g | ⟨g, g'⟩
      · rw [zCe_33 g, yCe_33 g]
      · rw [zCe_34 g, yCe_34 g]
      · rw [zCe_35 g, yCe_35 g]
      · exact absurd g h36
      · have g : 1 ≤ qKd (k + 1) := g
        have g' : qKd (k + 1) ≤ 13 := g'
        rw [zCe_o (k := qKd (k + 1) - 1) (by omega) (by omega), yCe_o (k := qKd (k + 1) - 1) (by omega) (by omega), key]
    rw [e3]
    exact h
theorem g_ad {dA : Nat → ClassId} {ad : Nat → Nat} {base : Nat} (hD : va_D (fun q => base ≤ q) (yWs dA ad (gYw gV2))) : zAd ad base := by
  have e2 : ∀ c, 0 < c → c < 100 → (yWs dA ad (gYw gV2))[c - 1]? = some (ad c, yCe dA ad (gYw gV2) c) := fun c a b => yWs_at (dA := dA) (ad := ad) (w := gYw gV2) a b
  refine ⟨fun c a b => hD.2 (c - 1) _ (e2 c a b), fun c c' a b a' b' e => ?_⟩
  have := hD.1 (c - 1) (c' - 1) _ _ (e2 c a b) (e2 c' a' b') e
  omega
