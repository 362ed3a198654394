/-! One instruction of the small machine, on the machine. -/
theorem zCi_toInt {v : Int} (h1 : -1000001 < v) (h2 : v < 1000001) : (qCi v).toInt = v := by
  cases v with
  | ofNat n =>
    show (Int32.ofNat n).toInt = _
    exact nI_toInt (n := n) (by have : (n : Int) < 1000001 := h2; omega)
  | negSucc n =>
    show (-(Int32.ofNat (n + 1))).toInt = _
    have hn : n + 1 < 2 ^ 31 := by
      have : Int.negSucc n = -((n : Int) + 1) := by omega
      omega
    have := sb_negT (w := n + 1) hn
    rw [show Int32.ofNat (n + 1) = nI (n + 1) from rfl, this]
    omega
theorem zTs {K : Nat → Prop} {x : Int32} {d : Nat} : ∀ (ts : List Nat) (lo : Int), -1000000 < lo → lo + ts.length < 1000001 → qTs K x d lo ts →
    (x.toInt < lo ∨ lo + ts.length ≤ x.toInt → K d) ∧ ∀ (j : Nat) (t : Nat), ts[j]? = some t → x.toInt = lo + j → K t
  | [], lo, _, _ => fun h => ⟨fun _ => h, fun j t hj => by simp at hj⟩
  | a :: r, lo, h1, h2 => fun h => by
    simp only [List.length_cons] at h2 ⊢
    have hlo : (qCi lo).toInt = lo := zCi_toInt (by omega) (by omega)
    have ih := fun g => zTs r (lo + 1) (by omega) (by omega) (h.2 g)
    refine ⟨fun hx => ?_, fun j t hj hx => ?_⟩
    · have hne : ¬ x = qCi lo := fun e => by rw [e, hlo] at hx; omega
      exact (ih hne).1 (by omega)
    · cases j with
      | zero =>
        cases hj
        exact h.1 (Int32.toInt_inj.mp (by rw [hlo, hx]; omega))
      | succ j =>
        have hne : ¬ x = qCi lo := fun e => by rw [e, hlo] at hx; omega
        exact (ih hne).2 j t hj (by rw [hx]; omega)
theorem zLs {K : Nat → Prop} {x : Int32} {d : Nat} {pc : Int} {df : Int} (hd : pc + df = (d : Int)) : ∀ (ps : List (Int × Int)) (ts : List Nat), (ps.all fun q => decide ((qCi q.1).toInt = q.1)) = true → ps.map (fun q => pc + q.2) = ts.map (fun n : Nat => (n : Int)) → qLs K x d ps ts →
    ∃ (off : Int) (t : Nat), Op.lookupswitch.offset ps df x.toInt = off ∧ pc + off = (t : Int) ∧ K t
  | [], [], _, _ => fun h => ⟨df, d, rfl, hd, h⟩
  | [], _ :: _, _, _ => fun h => h.elim
  | (_, _) :: _, [], _, h => by simp at h
  | (v, off) :: q, t :: r, hv, hm => fun h => by
    simp only [List.all_cons, Bool.and_eq_true, decide_eq_true_eq] at hv
    simp only [List.map_cons, List.cons.injEq] at hm
    by_cases hx : x = qCi v
    · exact ⟨off, t, by rw [hx, hv.1]; simp [Op.lookupswitch.offset], hm.1, h.1 hx⟩
    · obtain ⟨o2, t2, g1, g2, g3⟩ := zLs hd q r hv.2 hm.2 (h.2 hx)
      exact ⟨o2, t2, by rw [lv_osw hx hv.1]; exact g1, g2, g3⟩
section Main
variable {p : Program} {l : Launch} {e : Env} {R : Room} {s : State} {m : MethodId} {args : Array Value} {below : List Frame} {meth : Method} {c : Code} {Z : State → Prop} {cc : ByteArray} {mL o base L d : Nat} {xs : Nat → Int32} {D : va_G} {dA : Nat → ClassId} {ad adV : Nat → Nat} {Ts : List Cond} {rt : Option FieldType} {C : qC} {Q : qQ}
theorem zs_iLoad {X : Prop} {ls : qL} {i : Nat} {lr : Array Slot} {K : Int32 → Prop} (hl : zLv ad ls lr mL) (h : qLi ls i K) (g : ∀ x, lr[i]? = some (.val (.int x)) → K x → X) : X := by
  unfold qLi at h
  split at h
  · rename_i x hx; exact g x (hl.2.2 i _ hx) h
  · exact h.elim
theorem zs_lLoad {X : Prop} {ls : qL} {i : Nat} {lr : Array Slot} {K : Int64 → Prop} (hl : zLv ad ls lr mL) (h : qLl ls i K) (g : ∀ x, lr[i]? = some (.val (.long x)) → K x → X) : X := by
  unfold qLl at h
  split at h
  · rename_i x hx; exact g x (hl.2.2 i _ hx) h
  · exact h.elim
theorem zs_aLoad {X : Prop} {ls : qL} {i : Nat} {lr : Array Slot} {K : Value → Prop} (hl : zLv ad ls lr mL) (h : qLa ls i K) (g : ∀ x, lr[i]? = some (.val (.ref (ad x))) → K (.ref x) → X) (g' : lr[i]? = some (.val .null) → K .null → X) : X := by
  unfold qLa at h
  split at h
  · rename_i x hx; exact g x (hl.2.2 i _ hx) h
  · rename_i hx; exact g' (hl.2.2 i _ hx) h
  · exact h.elim
theorem zs_1i {X : Prop} {st : List Value} {K : Int32 → List Value → Prop} (h : q1i st K) (g : ∀ x r, st = .int x :: r → K x r → X) : X := by
  unfold q1i at h; split at h
  · exact g _ _ rfl h
  · exact h.elim
theorem zs_1l {X : Prop} {st : List Value} {K : Int64 → List Value → Prop} (h : q1l st K) (g : ∀ x r, st = .long x :: r → K x r → X) : X := by
  unfold q1l at h; split at h
  · exact g _ _ rfl h
  · exact h.elim
theorem zs_1a {X : Prop} {st : List Value} {K : Value → List Value → Prop} (h : q1a st K) (g : ∀ x r, st = .ref x :: r → K (.ref x) r → X) (g' : ∀ r, st = .null :: r → K .null r → X) : X := by
  unfold q1a at h; split at h
  · exact g _ _ rfl h
  · exact g' _ rfl h
  · exact h.elim
theorem zs_1r {X : Prop} {st : List Value} {K : Nat → List Value → Prop} (h : q1r st K) (g : ∀ x r, st = .ref x :: r → K x r → X) : X := by
  unfold q1r at h; split at h
  · exact g _ _ rfl h
  · exact h.elim
theorem zs_2i {X : Prop} {st : List Value} {K : Int32 → Int32 → List Value → Prop} (h : q2i st K) (g : ∀ x y r, st = .int y :: .int x :: r → K x y r → X) : X := by
  unfold q2i at h; split at h
  · exact g _ _ _ rfl h
  · exact h.elim
theorem zs_2l {X : Prop} {st : List Value} {K : Int64 → Int64 → List Value → Prop} (h : q2l st K) (g : ∀ x y r, st = .long y :: .long x :: r → K x y r → X) : X := by
  unfold q2l at h; split at h
  · exact g _ _ _ rfl h
  · exact h.elim
theorem zs_il {X : Prop} {st : List Value} {K : Int64 → Int32 → List Value → Prop} (h : qil st K) (g : ∀ x y r, st = .int y :: .long x :: r → K x y r → X) : X := by
  unfold qil at h; split at h
  · exact g _ _ _ rfl h
  · exact h.elim
theorem zs_ir {X : Prop} {st : List Value} {K : Nat → Int32 → List Value → Prop} (h : qir st K) (g : ∀ x y r, st = .int y :: .ref x :: r → K x y r → X) : X := by
  unfold qir at h; split at h
  · exact g _ _ _ rfl h
  · exact h.elim
theorem zs_lr {X : Prop} {st : List Value} {K : Nat → Int64 → List Value → Prop} (h : qlr st K) (g : ∀ x y r, st = .long y :: .ref x :: r → K x y r → X) : X := by
  unfold qlr at h; split at h
  · exact g _ _ _ rfl h
  · exact h.elim
theorem zs_rr {X : Prop} {st : List Value} {K : Nat → Nat → List Value → Prop} (h : qrr st K) (g : ∀ x y r, st = .ref y :: .ref x :: r → K x y r → X) : X := by
  unfold qrr at h; split at h
  · exact g _ _ _ rfl h
  · exact h.elim
theorem zs_iir {X : Prop} {st : List Value} {K : Nat → Int32 → Int32 → List Value → Prop} (h : qiir st K) (g : ∀ x y z r, st = .int z :: .int y :: .ref x :: r → K x y z r → X) : X := by
  unfold qiir at h; split at h
  · exact g _ _ _ _ rfl h
  · exact h.elim
theorem zs_lir {X : Prop} {st : List Value} {K : Nat → Int32 → Int64 → List Value → Prop} (h : qlir st K) (g : ∀ x y z r, st = .long z :: .int y :: .ref x :: r → K x y z r → X) : X := by
  unfold qlir at h; split at h
  · exact g _ _ _ _ rfl h
  · exact h.elim
theorem zs_rir {X : Prop} {st : List Value} {K : Nat → Int32 → Nat → List Value → Prop} (h : qrir st K) (g : ∀ x y z r, st = .ref z :: .int y :: .ref x :: r → K x y z r → X) : X := by
  unfold qrir at h; split at h
  · exact g _ _ _ _ rfl h
  · exact h.elim
theorem zs_cp {X : Prop} {st : List Value} {K : Nat → Int32 → Nat → Int32 → Int32 → List Value → Prop} (h : qCpS st K) (g : ∀ a i d j n r, st = .int n :: .int j :: .ref d :: .int i :: .ref a :: r → K a i d j n r → X) : X := by
  unfold qCpS at h; split at h
  · exact g _ _ _ _ _ _ rfl h
  · exact h.elim
end Main
