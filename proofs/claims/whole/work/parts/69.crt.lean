/-! Numbers that leave told rests: joined one by one. -/
/-- gcd and lcm distribute, as far as it is needed -/
theorem dvd_lcm_gcd {d a b : Nat} (hd : 0 < d) (h : d ∣ Nat.lcm a b) : d ∣ Nat.lcm (Nat.gcd d a) (Nat.gcd d b) := by
  have e0 : 0 < Nat.gcd (Nat.gcd d a) (Nat.gcd d b) := Nat.gcd_pos_of_pos_left _ (Nat.gcd_pos_of_pos_left _ hd)
  have e2 : Nat.gcd (Nat.gcd d a) (Nat.gcd d b) ∣ a := Nat.dvd_trans (Nat.gcd_dvd_left _ _) (Nat.gcd_dvd_right _ _)
  have e3 : Nat.gcd (Nat.gcd d a) (Nat.gcd d b) ∣ b := Nat.dvd_trans (Nat.gcd_dvd_right _ _) (Nat.gcd_dvd_right _ _)
  have e4 : Nat.gcd (Nat.gcd d a) (Nat.gcd d b) ∣ Nat.gcd d b := Nat.gcd_dvd_right _ _
  have k : d * Nat.gcd (Nat.gcd d a) (Nat.gcd d b) ∣ Nat.gcd d a * Nat.gcd d b := by
    have k1 : d * Nat.gcd (Nat.gcd d a) (Nat.gcd d b) ∣ d * Nat.gcd d b := Nat.mul_dvd_mul (Nat.dvd_refl _) e4
    have k2 : d * Nat.gcd (Nat.gcd d a) (Nat.gcd d b) ∣ a * d := by
      rw [Nat.mul_comm a d]; exact Nat.mul_dvd_mul (Nat.dvd_refl _) e2
    have k3 : d * Nat.gcd (Nat.gcd d a) (Nat.gcd d b) ∣ a * b := by
      rw [← Nat.gcd_mul_lcm a b, Nat.mul_comm (Nat.gcd a b)]
      exact Nat.mul_dvd_mul h (Nat.dvd_gcd e2 e3)
    have k4 : d * Nat.gcd (Nat.gcd d a) (Nat.gcd d b) ∣ a * Nat.gcd d b := by
      have := Nat.dvd_gcd k2 k3
      rw [Nat.gcd_mul_left] at this
      exact this
    have k5 := Nat.dvd_gcd k1 k4
    rw [Nat.gcd_mul_right] at k5
    exact k5
  rw [← Nat.gcd_mul_lcm (Nat.gcd d a) (Nat.gcd d b), Nat.mul_comm d] at k
  exact Nat.dvd_of_mul_dvd_mul_left e0 k
def tLast : Nat := 1000000000000000
theorem tL : tLast = 1000000000000000 := rfl
/-- h leaves what all of J leave -/
def slv (J : List (Nat × Nat)) (h : Nat) : Prop := ∀ q, q ∈ J → (q.2 : Int) ∣ (h : Int) - (q.1 : Int)
theorem slv_snoc {J : List (Nat × Nat)} {f n h : Nat} : slv (J ++ [(f, n)]) h ↔ slv J h ∧ (n : Int) ∣ (h : Int) - (f : Int) := by
  unfold slv
  constructor
  · intro g
    exact ⟨fun q hq => g q (List.mem_append.mpr (Or.inl hq)), g (f, n) (List.mem_append.mpr (Or.inr (List.mem_singleton.mpr rfl)))⟩
  · rintro ⟨g1, g2⟩ q hq
    rcases List.mem_append.mp hq with h1 | h1
    · exact g1 q h1
    · rw [List.mem_singleton.mp h1]; exact g2
abbrev jL : Type := List (Nat × Nat)
/-- start and step of J: all that solve J, up to the last hour -/
def jv (J : jL) (st : Nat) (sp : Nat) : Prop := (st ≤ tLast) ∧ (1 ≤ sp) ∧ (st < sp) ∧ (sp ≤ tLast → ∀ k : Nat, slv J k ↔ (sp : Int) ∣ (k : Int) - (st : Int)) ∧ (sp ≤ tLast → ∀ (n : Nat) (X : Int), 0 < n → (∀ q, q ∈ J → ((Nat.gcd q.2 n : Nat) : Int) ∣ X) → ((Nat.gcd sp n : Nat) : Int) ∣ X) ∧ (tLast < sp → ∀ k : Nat, k ≤ tLast → (slv J k ↔ k = st))
theorem jv.le {J : jL} {st : Nat} {sp : Nat} (h : jv J st sp) : st ≤ tLast := h.1
theorem jv.pos {J : jL} {st : Nat} {sp : Nat} (h : jv J st sp) : 1 ≤ sp := h.2.1
theorem jv.lt {J : jL} {st : Nat} {sp : Nat} (h : jv J st sp) : st < sp := h.2.2.1
theorem jv.so {J : jL} {st : Nat} {sp : Nat} (h : jv J st sp) : sp ≤ tLast → ∀ k : Nat, slv J k ↔ (sp : Int) ∣ (k : Int) - (st : Int) := h.2.2.2.1
theorem jv.gc {J : jL} {st : Nat} {sp : Nat} (h : jv J st sp) : sp ≤ tLast → ∀ (n : Nat) (X : Int), 0 < n → (∀ q, q ∈ J → ((Nat.gcd q.2 n : Nat) : Int) ∣ X) → ((Nat.gcd sp n : Nat) : Int) ∣ X := h.2.2.2.2.1
theorem jv.big {J : jL} {st : Nat} {sp : Nat} (h : jv J st sp) : tLast < sp → ∀ k : Nat, k ≤ tLast → (slv J k ↔ k = st) := h.2.2.2.2.2
theorem jv.mk {J : jL} {st : Nat} {sp : Nat} (f_le : st ≤ tLast) (f_pos : 1 ≤ sp) (f_lt : st < sp) (f_so : sp ≤ tLast → ∀ k : Nat, slv J k ↔ (sp : Int) ∣ (k : Int) - (st : Int)) (f_gc : sp ≤ tLast → ∀ (n : Nat) (X : Int), 0 < n → (∀ q, q ∈ J → ((Nat.gcd q.2 n : Nat) : Int) ∣ X) → ((Nat.gcd sp n : Nat) : Int) ∣ X) (f_big : tLast < sp → ∀ k : Nat, k ≤ tLast → (slv J k ↔ k = st)) : jv J st sp := ⟨f_le, f_pos, f_lt, f_so, f_gc, f_big⟩
theorem jv_nil : jv [] 0 1 := by
  have hL := tL
  refine jv.mk (by omega) (by omega) (by omega) ?_ ?_ ?_
  · intro _ k
    exact ⟨fun _ => ⟨(k : Int) - ((0 : Nat) : Int), by omega⟩, fun _ q hq => by cases hq⟩
  · intro _ n X _ _
    rw [Nat.gcd_one_left]
    exact ⟨X, by omega⟩
  · intro h; omega
theorem jv_one {c k : Nat} (hc : c < k) (hk : k ≤ 60) : jv [(c, k)] c k := by
  have hL := tL
  refine jv.mk (by omega) (by omega) hc ?_ ?_ ?_
  · intro _ h
    exact ⟨fun g => g (c, k) (List.mem_singleton.mpr rfl), fun g q hq => by rw [List.mem_singleton.mp hq]; exact g⟩
  · intro _ n X _ g
    exact g (c, k) (List.mem_singleton.mpr rfl)
  · intro h; omega
theorem z_nd {m : Nat} {X : Int} : (m : Int) ∣ X ↔ m ∣ X.natAbs := by
  rw [← Int.natAbs_dvd_natAbs, Int.natAbs_natCast]
theorem z_cancel {g m : Nat} {X : Int} (hg : 0 < g) (h : ((g * m : Nat) : Int) ∣ (g : Int) * X) : (m : Int) ∣ X := by
  obtain ⟨c, hc⟩ := h
  refine ⟨c, ?_⟩
  rw [Int.natCast_mul, Int.mul_assoc] at hc
  exact Int.eq_of_mul_eq_mul_left (by omega) hc
theorem z_mul {g m : Nat} {X : Int} (h : (m : Int) ∣ X) : ((g * m : Nat) : Int) ∣ (g : Int) * X := by
  obtain ⟨c, hc⟩ := h
  exact ⟨c, by rw [hc, Int.natCast_mul, Int.mul_assoc]⟩
theorem z_cop {s m : Nat} {X : Int} (hc : Nat.Coprime s m) (h : (m : Int) ∣ (s : Int) * X) : (m : Int) ∣ X := by
  have h1 : m ∣ s * X.natAbs := by
    have := Int.natAbs_dvd_natAbs.mpr h
    rw [Int.natAbs_mul, Int.natAbs_natCast, Int.natAbs_natCast] at this
    exact this
  have h2 : m ∣ X.natAbs := Nat.Coprime.dvd_of_dvd_mul_left hc.symm h1
  exact z_nd.mpr h2
/-- what is wanted of the number of steps -/
theorem jv_key {J : List (Nat × Nat)} {st sp f n k g m s' : Nat} (h : jv J st sp) (hsp : sp ≤ tLast) (hg : 0 < g) (en : n = g * m) (es : sp = g * s') (hc : Nat.Coprime s' m) (hkd : (n : Int) ∣ ((st + k * sp : Nat) : Int) - (f : Int)) (x : Nat) : slv (J ++ [(f, n)]) x ↔ ((sp * m : Nat) : Int) ∣ (x : Int) - ((st + k * sp : Nat) : Int) := by
  rw [slv_snoc, h.so hsp]
  constructor
  · rintro ⟨⟨t, ht⟩, h2⟩
    have h3 : (n : Int) ∣ ((x : Int) - f) - (((st + k * sp : Nat) : Int) - f) := Int.dvd_sub h2 hkd
    have e : ((x : Int) - f) - (((st + k * sp : Nat) : Int) - f) = (g : Int) * ((s' : Int) * (t - k)) := by
      have e1 : ((st + k * sp : Nat) : Int) = (st : Int) + (k : Int) * (sp : Int) := by rw [Int.natCast_add, Int.natCast_mul]
      have e2 : (sp : Int) = (g : Int) * (s' : Int) := by rw [es, Int.natCast_mul]
      rw [e1]
      rw [e2] at ht ⊢
      grind
    rw [e, en] at h3
    obtain ⟨c, hc2⟩ := z_cop hc (z_cancel hg h3)
    refine ⟨c, ?_⟩
    have e1 : ((st + k * sp : Nat) : Int) = (st : Int) + (k : Int) * (sp : Int) := by rw [Int.natCast_add, Int.natCast_mul]
    have e2 : ((sp * m : Nat) : Int) = (sp : Int) * (m : Int) := Int.natCast_mul _ _
    rw [e1, e2]
    grind
  · rintro ⟨c, hc2⟩
    have e1 : ((st + k * sp : Nat) : Int) = (st : Int) + (k : Int) * (sp : Int) := by rw [Int.natCast_add, Int.natCast_mul]
    have e2 : ((sp * m : Nat) : Int) = (sp : Int) * (m : Int) := Int.natCast_mul _ _
    rw [e1, e2] at hc2
    refine ⟨⟨(m : Int) * c + k, by grind⟩, ?_⟩
    obtain ⟨c3, hc3⟩ := hkd
    rw [e1] at hc3
    have e3 : (n : Int) = (g : Int) * (m : Int) := by rw [en, Int.natCast_mul]
    have e4 : (sp : Int) = (g : Int) * (s' : Int) := by rw [es, Int.natCast_mul]
    refine ⟨(s' : Int) * c + c3, ?_⟩
    rw [e3] at hc3 ⊢
    rw [e4] at hc2 hc3
    grind
theorem z_small {a b p : Nat} (hp : 0 < p) (ha : a < p) (hb : b < p) (h : (p : Int) ∣ (a : Int) - (b : Int)) : a = b := by
  obtain ⟨c, hc⟩ := h
  have h1 : c < 1 := by
    rcases Int.lt_or_le c 1 with g | g
    · exact g
    · exfalso
      have := Int.mul_le_mul_of_nonneg_left g (show (0 : Int) ≤ p by omega)
      omega
  have h2 : -1 < c := by
    rcases Int.lt_or_le (-1) c with g | g
    · exact g
    · exfalso
      have := Int.mul_le_mul_of_nonneg_left g (show (0 : Int) ≤ p by omega)
      omega
  have h0 : c = 0 := by omega
  rw [h0] at hc
  omega
theorem jv_join {J : List (Nat × Nat)} {st sp f n k : Nat} (h : jv J st sp) (hn : 1 ≤ n) (hsp : sp ≤ tLast) (hk : k < n / Nat.gcd sp n) (hkd : (n : Int) ∣ ((st + k * sp : Nat) : Int) - (f : Int)) :
    (¬ st + k * sp ≤ tLast → ∀ x, x ≤ tLast → ¬ slv (J ++ [(f, n)]) x) ∧
    (st + k * sp ≤ tLast → ∀ sp', (sp * (n / Nat.gcd sp n) ≤ tLast → sp' = sp * (n / Nat.gcd sp n)) → (tLast < sp * (n / Nat.gcd sp n) → tLast < sp') → jv (J ++ [(f, n)]) (st + k * sp) sp') := by
  have hg : 0 < Nat.gcd sp n := Nat.gcd_pos_of_pos_right _ hn
  have en : n = Nat.gcd sp n * (n / Nat.gcd sp n) := (Nat.mul_div_cancel' (Nat.gcd_dvd_right _ _)).symm
  have es : sp = Nat.gcd sp n * (sp / Nat.gcd sp n) := (Nat.mul_div_cancel' (Nat.gcd_dvd_left _ _)).symm
  have hc : Nat.Coprime (sp / Nat.gcd sp n) (n / Nat.gcd sp n) := Nat.coprime_div_gcd_div_gcd hg
  have key := jv_key h hsp hg en es hc hkd
  have hlcm : sp * (n / Nat.gcd sp n) = Nat.lcm sp n := by
    unfold Nat.lcm
    rw [Nat.mul_div_assoc _ (Nat.gcd_dvd_right _ _)]
  generalize hm : n / Nat.gcd sp n = m at *
  have hlt : st + k * sp < sp * m := by
    have h1 := h.lt
    have h2 : (k + 1) * sp ≤ m * sp := Nat.mul_le_mul_right _ hk
    rw [Nat.add_mul, Nat.one_mul, Nat.mul_comm m] at h2
    omega
  refine ⟨fun hb x hx hs => ?_, fun hb sp' h1 h2 => ?_⟩
  · have := z_small (by omega) (by omega) hlt ((key x).mp hs)
    omega
  · refine jv.mk hb ?_ ?_ ?_ ?_ ?_
    · rcases Nat.lt_or_ge tLast (sp * m) with g | g
      · have := h2 g; omega
      · rw [h1 g]; omega
    · rcases Nat.lt_or_ge tLast (sp * m) with g | g
      · have := h2 g; omega
      · rw [h1 g]; exact hlt
    · intro h3 x
      rcases Nat.lt_or_ge tLast (sp * m) with g | g
      · have := h2 g; omega
      · rw [h1 g]; exact key x
    · intro h3 n2 X hn2 hq
      have g : sp * m ≤ tLast := by
        rcases Nat.lt_or_ge tLast (sp * m) with g | g
        · have := h2 g; omega
        · exact g
      rw [h1 g, hlcm]
      have q1 := h.gc hsp n2 X hn2 (fun q hq2 => hq q (List.mem_append.mpr (Or.inl hq2)))
      have q2 := hq (f, n) (List.mem_append.mpr (Or.inr (List.mem_singleton.mpr rfl)))
      have hd : 0 < Nat.gcd (Nat.lcm sp n) n2 := Nat.gcd_pos_of_pos_right _ hn2
      have d1 := dvd_lcm_gcd hd (Nat.gcd_dvd_left (Nat.lcm sp n) n2)
      have a1 : Nat.gcd (Nat.gcd (Nat.lcm sp n) n2) sp ∣ X.natAbs := Nat.dvd_trans (Nat.dvd_gcd (Nat.gcd_dvd_right _ _) (Nat.dvd_trans (Nat.gcd_dvd_left _ _) (Nat.gcd_dvd_right _ _))) (z_nd.mp q1)
      have a2 : Nat.gcd (Nat.gcd (Nat.lcm sp n) n2) n ∣ X.natAbs := Nat.dvd_trans (Nat.dvd_gcd (Nat.gcd_dvd_right _ _) (Nat.dvd_trans (Nat.gcd_dvd_left _ _) (Nat.gcd_dvd_right _ _))) (z_nd.mp q2)
      exact z_nd.mpr (Nat.dvd_trans d1 (Nat.lcm_dvd a1 a2))
    · intro h3 x hx
      have g : tLast < sp * m := by
        rcases Nat.lt_or_ge tLast (sp * m) with g | g
        · exact g
        · rw [h1 g] at h3; omega
      rw [key x]
      constructor
      · intro q; exact z_small (by omega) (by omega) hlt q
      · intro q; rw [q, Int.sub_self]; exact ⟨0, by omega⟩
theorem jv_bigj {J : List (Nat × Nat)} {st sp f n : Nat} (h : jv J st sp) (hsp : tLast < sp) : ((n : Int) ∣ (st : Int) - (f : Int) → jv (J ++ [(f, n)]) st sp) ∧ (¬ (n : Int) ∣ (st : Int) - (f : Int) → ∀ x, x ≤ tLast → ¬ slv (J ++ [(f, n)]) x) := by
  refine ⟨fun hd => jv.mk h.le h.pos h.lt (fun q => by omega) (fun q => by omega) (fun _ x hx => ?_), fun hd x hx hs => ?_⟩
  · rw [slv_snoc, h.big hsp x hx]
    exact ⟨fun q => q.1, fun q => ⟨q, by rw [q]; exact hd⟩⟩
  · rw [slv_snoc, h.big hsp x hx] at hs
    rw [hs.1] at hs
    exact hd hs.2
theorem jv_comp {J : List (Nat × Nat)} {st sp f n : Nat} (h : jv J st sp) (hsp : sp ≤ tLast) (hn : 1 ≤ n) (hc : ∀ q, q ∈ J → ((Nat.gcd q.2 n : Nat) : Int) ∣ (q.1 : Int) - (f : Int)) : ((Nat.gcd sp n : Nat) : Int) ∣ (st : Int) - (f : Int) := by
  refine h.gc hsp n _ hn (fun q hq => ?_)
  have h1 : slv J st := (h.so hsp st).mpr ⟨0, by omega⟩
  have h2 := h1 q hq
  have h3 : ((Nat.gcd q.2 n : Nat) : Int) ∣ (q.2 : Int) := Int.natCast_dvd_natCast.mpr (Nat.gcd_dvd_left _ _)
  have h4 := Int.dvd_add (Int.dvd_trans h3 h2) (hc q hq)
  have e : (st : Int) - (q.1 : Int) + ((q.1 : Int) - (f : Int)) = (st : Int) - f := by omega
  rw [e] at h4
  exact h4
theorem k_ok {sp n st f i k : Nat} (hn : 1 ≤ n) (hg : ((Nat.gcd sp n : Nat) : Int) ∣ (st : Int) - (f : Int)) (hi : ((n / Nat.gcd sp n : Nat) : Int) ∣ ((sp / Nat.gcd sp n % (n / Nat.gcd sp n) : Nat) : Int) * (i : Int) - 1) (hk : (k : Int) = (((f : Int) - (st : Int)).tdiv ((Nat.gcd sp n : Nat) : Int) % ((n / Nat.gcd sp n : Nat) : Int)) * (i : Int) % ((n / Nat.gcd sp n : Nat) : Int)) : (n : Int) ∣ ((st + k * sp : Nat) : Int) - (f : Int) := by
  have hg0 : 0 < Nat.gcd sp n := Nat.gcd_pos_of_pos_right _ hn
  have en : n = Nat.gcd sp n * (n / Nat.gcd sp n) := (Nat.mul_div_cancel' (Nat.gcd_dvd_right _ _)).symm
  have es : sp = Nat.gcd sp n * (sp / Nat.gcd sp n) := (Nat.mul_div_cancel' (Nat.gcd_dvd_left _ _)).symm
  generalize hm : n / Nat.gcd sp n = m at *
  generalize hs : sp / Nat.gcd sp n = s' at *
  generalize hgg : Nat.gcd sp n = g at *
  obtain ⟨X, hX⟩ := hg
  have eX : ((f : Int) - (st : Int)).tdiv (g : Int) = -X := by
    have e : (f : Int) - (st : Int) = (g : Int) * (-X) := by grind
    rw [e, Int.mul_tdiv_cancel_left _ (by omega)]
  rw [eX] at hk
  obtain ⟨u, hu⟩ := hi
  have e1 : ((s' % m : Nat) : Int) = (s' : Int) - (m : Int) * ((s' : Int) / (m : Int)) := by
    rw [Int.natCast_emod]
    have := Int.mul_ediv_add_emod (s' : Int) (m : Int)
    omega
  have e2 : (-X) % (m : Int) = -X - (m : Int) * (-X / (m : Int)) := by
    have := Int.mul_ediv_add_emod (-X) (m : Int)
    omega
  generalize hv : (s' : Int) / (m : Int) = v at *
  generalize hz : -X / (m : Int) = z at *
  have e3 : (k : Int) = (-X) % (m : Int) * (i : Int) - (m : Int) * ((-X) % (m : Int) * (i : Int) / (m : Int)) := by
    have := Int.mul_ediv_add_emod ((-X) % (m : Int) * (i : Int)) (m : Int)
    omega
  generalize hy : (-X) % (m : Int) * (i : Int) / (m : Int) = y at *
  rw [e2] at e3
  rw [e1] at hu
  refine ⟨(v * (-X - (m : Int) * z) * i - s' * y - z + (-X - (m : Int) * z) * u), ?_⟩
  have q1 : ((st + k * sp : Nat) : Int) = (st : Int) + (k : Int) * ((g : Int) * (s' : Int)) := by rw [Int.natCast_add, Int.natCast_mul, es, Int.natCast_mul]
  have q2 : (n : Int) = (g : Int) * (m : Int) := by rw [en, Int.natCast_mul]
  rw [q1, q2]
  grind
