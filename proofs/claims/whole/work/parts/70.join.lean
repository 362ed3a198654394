/-! inverse and join on both sides. -/
section Join
variable {s : Nat × (Nat → Int32)} {d : Nat} {w : qW} {Q : Int32 → qW → Prop} {QL : Int64 → qW → Prop} {R : qW → Prop} {N S K : vS} {T : Nat → vT} {Z : vZ}
theorem eqL0 {a : Nat} (h : a < 2 ^ 63) : (lN a = (0 : Int64)) ↔ a = 0 := pk_lEQ h (by decide)
theorem kL : (1000000000000000 : Int64) = lN tLast := rfl
theorem kL1 : (1000000000000001 : Int64) = lN (tLast + 1) := rfl
theorem tm_em {X : Int} {m : Nat} (hm : 0 < m) : (X.tmod (m : Int) + (m : Int)).tmod (m : Int) = X % (m : Int) := by
  have h1 : (X.tmod (m : Int)).natAbs < m := by
    rw [Int.natAbs_tmod]
    exact Nat.mod_lt _ (by omega)
  rw [Int.tmod_eq_emod_of_nonneg (by omega), Int.add_emod_right]
  have h2 := Int.tmod_eq_emod (a := X) (b := (m : Int))
  rw [h2]
  by_cases g : 0 ≤ X ∨ (m : Int) ∣ X
  · rw [if_pos g]
    have e : X % (m : Int) - ((0 : Nat) : Int) = X % (m : Int) := by omega
    rw [e, Int.emod_emod]
  · rw [if_neg g, Int.natAbs_natCast, Int.sub_emod_right, Int.emod_emod]
/-- one step of Euclid's, with its factors -/
def eu (m : Nat) (a : Nat) (hi : Nat) (lo : Nat) (fh : Int) (fl : Int) : Prop := ((m : Int) ∣ fh * (a : Int) - (hi : Int)) ∧ ((m : Int) ∣ fl * (a : Int) - (lo : Int)) ∧ (fh.natAbs * lo + fl.natAbs * hi ≤ m) ∧ (lo < hi) ∧ (Nat.gcd hi lo = 1)
theorem eu.d1 {m : Nat} {a : Nat} {hi : Nat} {lo : Nat} {fh : Int} {fl : Int} (h : eu m a hi lo fh fl) : (m : Int) ∣ fh * (a : Int) - (hi : Int) := h.1
theorem eu.d2 {m : Nat} {a : Nat} {hi : Nat} {lo : Nat} {fh : Int} {fl : Int} (h : eu m a hi lo fh fl) : (m : Int) ∣ fl * (a : Int) - (lo : Int) := h.2.1
theorem eu.bd {m : Nat} {a : Nat} {hi : Nat} {lo : Nat} {fh : Int} {fl : Int} (h : eu m a hi lo fh fl) : fh.natAbs * lo + fl.natAbs * hi ≤ m := h.2.2.1
theorem eu.lt {m : Nat} {a : Nat} {hi : Nat} {lo : Nat} {fh : Int} {fl : Int} (h : eu m a hi lo fh fl) : lo < hi := h.2.2.2.1
theorem eu.gc {m : Nat} {a : Nat} {hi : Nat} {lo : Nat} {fh : Int} {fl : Int} (h : eu m a hi lo fh fl) : Nat.gcd hi lo = 1 := h.2.2.2.2
theorem eu.mk {m : Nat} {a : Nat} {hi : Nat} {lo : Nat} {fh : Int} {fl : Int} (f_d1 : (m : Int) ∣ fh * (a : Int) - (hi : Int)) (f_d2 : (m : Int) ∣ fl * (a : Int) - (lo : Int)) (f_bd : fh.natAbs * lo + fl.natAbs * hi ≤ m) (f_lt : lo < hi) (f_gc : Nat.gcd hi lo = 1) : eu m a hi lo fh fl := ⟨f_d1, f_d2, f_bd, f_lt, f_gc⟩
theorem eu_0 {m a : Nat} (ha : a < m) (hg : Nat.gcd m a = 1) : eu m a m a 0 1 := by
  refine eu.mk ⟨-1, by omega⟩ ⟨0, by omega⟩ ?_ ha hg
  show 0 * a + 1 * m ≤ m
  omega
theorem eu_s {m a hi lo : Nat} {fh fl : Int} (h : eu m a hi lo fh fl) (h0 : 0 < lo) : eu m a lo (hi % lo) fl (fh - ((hi / lo : Nat) : Int) * fl) := by
  have e := Nat.div_add_mod hi lo
  refine eu.mk h.d2 ?_ ?_ (Nat.mod_lt _ h0) ?_
  · obtain ⟨c1, h1⟩ := h.d1
    obtain ⟨c2, h2⟩ := h.d2
    refine ⟨c1 - ((hi / lo : Nat) : Int) * c2, ?_⟩
    have e2 : ((hi % lo : Nat) : Int) = (hi : Int) - (lo : Int) * ((hi / lo : Nat) : Int) := by
      have : (hi : Int) = ((lo * (hi / lo) + hi % lo : Nat) : Int) := by rw [e]
      rw [Int.natCast_add, Int.natCast_mul] at this
      omega
    rw [e2]
    generalize ((hi / lo : Nat) : Int) = t at *
    grind
  · have b := h.bd
    have h1 : (fh - ((hi / lo : Nat) : Int) * fl).natAbs ≤ fh.natAbs + (hi / lo) * fl.natAbs := by
      have := Int.natAbs_sub_le fh (((hi / lo : Nat) : Int) * fl)
      rw [Int.natAbs_mul, Int.natAbs_natCast] at this
      exact this
    have h2 : (fh - ((hi / lo : Nat) : Int) * fl).natAbs * lo ≤ (fh.natAbs + (hi / lo) * fl.natAbs) * lo := Nat.mul_le_mul_right _ h1
    have h3 : fl.natAbs * (hi % lo) + (fh.natAbs + (hi / lo) * fl.natAbs) * lo = fh.natAbs * lo + fl.natAbs * hi := by
      have e3 : fl.natAbs * hi = fl.natAbs * (lo * (hi / lo) + hi % lo) := by rw [e]
      rw [e3]
      generalize hi / lo = t
      generalize hi % lo = r
      grind
    omega
  · rw [Nat.gcd_comm, ← Nat.gcd_rec, Nat.gcd_comm]
    exact h.gc
theorem eu_b {m a hi lo : Nat} {fh fl : Int} (h : eu m a hi lo fh fl) : fl.natAbs ≤ m ∧ (0 < lo → fh.natAbs ≤ m) := by
  have b := h.bd
  have l := h.lt
  have h1 : fl.natAbs ≤ fl.natAbs * hi := Nat.le_mul_of_pos_right _ (by omega)
  refine ⟨by omega, fun h0 => ?_⟩
  have h2 : fh.natAbs ≤ fh.natAbs * lo := Nat.le_mul_of_pos_right _ h0
  omega
theorem half_mod {hi lo : Nat} (h0 : 0 < lo) (h : lo < hi) : 2 * (lo * (hi % lo)) < lo * hi := by
  have e := Nat.div_add_mod hi lo
  have hm := Nat.mod_lt hi h0
  have hq : 1 ≤ hi / lo := (Nat.one_le_div_iff h0).mpr (Nat.le_of_lt h)
  have h1 : lo ≤ lo * (hi / lo) := Nat.le_mul_of_pos_right _ hq
  have h2 : 2 * (hi % lo) < hi := by omega
  have h3 : lo * (2 * (hi % lo)) < lo * hi := Nat.mul_lt_mul_of_pos_left h2 h0
  have e4 : lo * (2 * (hi % lo)) = 2 * (lo * (hi % lo)) := by rw [← Nat.mul_assoc, Nat.mul_comm lo 2, Nat.mul_assoc]
  omega
/-- the inverse of a -/
def isInv (m a i : Nat) : Prop := i < m ∧ (m : Int) ∣ (a : Int) * (i : Int) - 1
theorem inv_of {m a : Nat} {f : Int} (hm : 0 < m) (h : (m : Int) ∣ f * (a : Int) - 1) : ∃ i, (f % (m : Int)) = ((i : Nat) : Int) ∧ isInv m a i := by
  have h1 := Int.emod_nonneg f (b := (m : Int)) (by omega)
  have h2 := Int.emod_lt_of_pos f (b := (m : Int)) (by omega)
  refine ⟨(f % (m : Int)).toNat, by omega, by omega, ?_⟩
  have e : (((f % (m : Int)).toNat : Nat) : Int) = f - (m : Int) * (f / (m : Int)) := by
    have := Int.mul_ediv_add_emod f (m : Int)
    omega
  rw [e]
  obtain ⟨c, hc⟩ := h
  refine ⟨c - (a : Int) * (f / (m : Int)), ?_⟩
  generalize f / (m : Int) = q
  grind
theorem c_inverse {a m : Nat} (hd : 2 ≤ d) (hm : 1 ≤ m) (hm2 : m ≤ 9999) (ha : a < m) (hg : Nat.gcd m a = 1) (hQ : ∀ i, isInv m a i → QL (lN i) w) : qCall (some s) d 116 [.long (lN a), .long (lN m)] w (qQl QL) := by
  obtain ⟨d, rfl, hd1⟩ := dS hd
  refine A_Meetings_inverse ?_
  have loop : ∀ (k hi lo : Nat) (fh fl : Int) (i : Nat), hi ≤ m → lo * hi < 2 ^ k → i + k ≤ 199 → fh.natAbs ≤ m → eu m a hi lo fh fl → qAt s d c_Meetings_inverse (qQl QL) 15 [none, none, some (.long (lN m)), none, some (.long (lN hi)), none, some (.long (lN lo)), none, some (.long (lZ fh)), none, some (.long (lZ fl)), none, some (.int (nI i)), none, none, none, none, none, none] [] w := by
    intro k
    induction k with
    | zero =>
      intro hi lo fh fl i hh hk hi2 hb h
      have l := h.lt
      have e0 : lo = 0 := by
        rcases Nat.eq_zero_or_pos lo with e | e
        · exact e
        · have := Nat.mul_le_mul e (show 1 ≤ hi by omega)
          omega
      subst e0
      have e1 : hi = 1 := by
        have := h.gc
        rw [Nat.gcd_zero_right] at this
        exact this
      have d1 := h.d1
      rw [e1] at d1
      obtain ⟨j, ej, hj⟩ := inv_of hm d1
      refine A_Meetings_inverse_15 ⟨fun g => absurd g (nI_ge (b := 200) (by omega) (by omega)), fun _ => ⟨fun _ => ?_, fun g => absurd ((lg_eq _ _).mpr rfl) g⟩⟩
      refine c_floorMod (by omega) hm (by omega) (by omega) (by omega) ?_
      rw [ej, lZ_lN]
      exact hQ j hj
    | succ k ih =>
      intro hi lo fh fl i hh hk hi2 hb h
      have l := h.lt
      refine A_Meetings_inverse_15 ⟨fun g => absurd g (nI_ge (b := 200) (by omega) (by omega)), fun _ => ?_⟩
      rw [lg_eq, ll, pk_lEQ (by omega) (by omega)]
      refine ⟨fun e0 => ?_, fun e0 => ⟨?_, ?_⟩⟩
      · subst e0
        have e1 : hi = 1 := by
          have := h.gc
          rw [Nat.gcd_zero_right] at this
          exact this
        have d1 := h.d1
        rw [e1] at d1
        obtain ⟨j, ej, hj⟩ := inv_of hm d1
        refine c_floorMod (by omega) hm (by omega) (by omega) (by omega) ?_
        rw [ej, lZ_lN]
        exact hQ j hj
      · exact fun e => e0 e
      · have h2 := eu_s h (by omega)
        have bb := eu_b h
        have b2 := eu_b h2
        have hf := half_mod (by omega) l
        have e := Nat.div_add_mod hi lo
        have hdl : hi / lo ≤ hi := Nat.div_le_self _ _
        rw [lN_div' (by omega) (by omega) (by omega), lN_mul, lN_sub (by rw [Nat.mul_comm]; omega), lN_Z (hi / lo), lZ_mul, lZ_sub, nI_1]
        have e2 : hi - hi / lo * lo = hi % lo := by rw [Nat.mul_comm]; omega
        rw [e2]
        refine ih lo (hi % lo) fl _ (i + 1) (by omega) ?_ (by omega) (by omega) h2
        rw [Nat.mul_comm]
        rw [Nat.pow_succ] at hk
        omega
  refine loop 28 m a 0 1 0 (Nat.le_refl _) ?_ (by omega) (by omega) (eu_0 ha hg)
  have : a * m ≤ 9999 * 9999 := Nat.mul_le_mul (by omega) hm2
  omega
theorem m_inverse {x m : Nat} (hd : 1 ≤ d) (hm : 1 ≤ m) (hm2 : m ≤ 9999) (hx : x < 2 ^ 62) (hg : Nat.gcd m (x % m) = 1) (hQ : ∀ i, isInv m (x % m) i → QL (lN i) w) : qCall (some s) d 276 [.long (lN x), .long (lN m)] w (qQl QL) := by
  obtain ⟨d, rfl, hd1⟩ := dS hd
  have hxm : x % m < m := Nat.mod_lt _ hm
  refine A_Mo_inverse ?_
  rw [qRemL_lN (by omega) (by omega) (by omega), ll, pk_lEQ (by omega) (by omega)]
  refine ⟨by omega, ?_⟩
  have loop : ∀ (lo hi : Nat) (fh fl : Int), hi ≤ m → (1 < m → 1 < hi) → fh.natAbs ≤ m → eu m (x % m) hi lo fh fl → qAt s d c_Mo_inverse (qQl QL) 14 [none, none, some (.long (lN m)), none, some (.long (lN hi)), none, some (.long (lN lo)), none, some (.long (lZ fh)), none, some (.long (lZ fl)), none, none, none, none, none, none, none] [] w := by
    intro lo
    induction lo using Nat.strongRecOn with
    | ind lo ih =>
      intro hi fh fl hh h1 hb h
      have l := h.lt
      have bb := eu_b h
      refine A_Mo_inverse_14 ?_
      rw [lg_le, lg_eq, ll, pk_lLE (by omega) (by omega), pk_lEQ (by omega) (by omega)]
      refine ⟨fun g => ⟨fun g1 => ?_, fun g1 => ?_⟩, fun g => ⟨?_, ?_⟩⟩
      · have e1 : lo = 1 := by
          rcases Nat.eq_zero_or_pos lo with e | e
          · have := h.gc
            rw [e, Nat.gcd_zero_right] at this
            have := h1 (by omega)
            omega
          · omega
        have d2 := h.d2
        rw [e1] at d2
        obtain ⟨j, ej, hj⟩ := inv_of hm d2
        have hb2 : (fl.tmod (m : Int)).natAbs < m := by
          rw [Int.natAbs_tmod]
          exact Nat.mod_lt _ (by omega)
        rw [lN_Z m, qRemL_Z (by omega) (by omega), lZ_add, qRemL_Z (by omega) (by omega), tm_em hm, ej, lZ_lN, ll, ← lN_Z]
        refine ⟨?_, ?_, hQ j hj⟩
        · rw [pk_lEQ (by omega) (by omega)]; omega
        · rw [pk_lEQ (by omega) (by omega)]; omega
      · have e : m = 1 := g1
        subst e
        exact hQ 0 ⟨by omega, ⟨(((x % 1 : Nat) : Int)) * ((0 : Nat) : Int) - 1, by omega⟩⟩
      · rw [eqL0 (by omega)]; omega
      · have h2 := eu_s h (by omega)
        have b2 := eu_b h2
        have hml := Nat.mod_lt hi (show 0 < lo by omega)
        have e := Nat.div_add_mod hi lo
        have hdl : hi / lo ≤ hi := Nat.div_le_self _ _
        rw [lN_div' (by omega) (by omega) (by omega), lN_mul, lN_sub (by rw [Nat.mul_comm]; omega), lN_Z (hi / lo), lZ_mul, lZ_sub]
        have e2 : hi - hi / lo * lo = hi % lo := by rw [Nat.mul_comm]; omega
        rw [e2]
        exact ih (hi % lo) hml lo fl _ (by omega) (fun _ => by omega) (by omega) h2
  exact loop (x % m) m 0 1 (Nat.le_refl _) (fun h => h) (by omega) (eu_0 hxm hg)
end Join
