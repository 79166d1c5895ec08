/-! the kernel's basis is a reduced echelon of what the blades so far give 0 -/
def CI (f : Nat → Int32) (n b z : Nat) (V : VM) (hd : Nat → Nat) : Prop :=
  (∀ p, p < z → hd p < n) ∧ (∀ p q, p < q → q < z → hd p < hd q) ∧
  (∀ p, p < z → 0 < (V p (hd p)).toInt ∧ (∀ d, d < hd p → (V p d).toInt = 0) ∧ ∀ q, q < z → q ≠ p → (V p (hd q)).toInt = 0) ∧
  (∀ p, p < z → Nu (Bt f n b) n (fun d => (V p d).toInt)) ∧
  (∀ v, Nu (Bt f n b) n v → (∀ p, p < z → v (hd p) = 0) → ∀ d, d < n → v d = 0) ∧
  (∀ p, p < z → gN (fun d => (V p d).toInt) n = 1) ∧ z ≤ n
theorem CI.inj {f : Nat → Int32} {n b z : Nat} {V : VM} {hd : Nat → Nat} (h : CI f n b z V hd) {p q : Nat} (hp : p < z) (hq : q < z) (e : hd p = hd q) : p = q := by
  by_cases h1 : p < q
  · have := h.2.1 p q h1 hq; omega
  · by_cases h2 : q < p
    · have := h.2.1 q p h2 hp; omega
    · omega
noncomputable def CIw (z : Nat) (V : VM) (hd : Nat → Nat) (l : Nat) : Nat → Int := fun d => @dite Int (∃ p, p < z ∧ hd p = l) (Classical.propDecidable _) (fun h => (V (Classical.choose h) d).toInt) (fun _ => 0)
theorem CIw_at {f : Nat → Int32} {n b z : Nat} {V : VM} {hd : Nat → Nat} (h : CI f n b z V hd) {p : Nat} (hp : p < z) : CIw z V hd (hd p) = fun d => (V p d).toInt := by
  have he : ∃ p', p' < z ∧ hd p' = hd p := ⟨p, hp, rfl⟩
  have hc := Classical.choose_spec he
  have : Classical.choose he = p := h.inj hc.1 hp hc.2
  funext d
  unfold CIw
  rw [dif_pos he, this]
theorem CI.es {f : Nat → Int32} {n b z : Nat} {V : VM} {hd : Nat → Nat} (h : CI f n b z V hd) : ES n (Nu (Bt f n b) n) (fun l => ∃ p, p < z ∧ hd p = l) (CIw z V hd) := by
  obtain ⟨h1, h2, h3, h4, h5, h6, h7⟩ := id h
  refine ⟨fun l ⟨p, hp, hl⟩ => ?_, fun v hv hz => h5 v hv (fun p hp => hz _ ⟨p, hp, rfl⟩)⟩
  subst hl
  rw [CIw_at h hp]
  obtain ⟨a1, a2, a3⟩ := h3 p hp
  refine ⟨h1 p hp, h4 p hp, by show (V p (hd p)).toInt ≠ 0; omega, a2, fun l' ⟨q, hq, hl⟩ hne => ?_⟩
  subst hl
  exact a3 q hq (fun e => hne (by rw [e]))
theorem dvd_I {a b : Int} (h : a.natAbs ∣ b.natAbs) : ∃ t, b = a * t := (Int.natAbs_dvd_natAbs.mp h)
/-- a vector without a common divisor that is a multiple of another's -/
theorem prim_dvd {n l : Nat} {x u : Nat → Int} (hx : gN x n = 1) (h : ∀ d, d < n → u l * x d = x l * u d) (hl0 : x l ≠ 0) : ∃ t, u l = x l * t ∧ ∀ d, d < n → t * x d = u d := by
  have h1 : (x l).natAbs ∣ gN (fun d => u l * x d) n := dvd_gN (fun d hd => by rw [h d hd, Int.natAbs_mul]; exact Nat.dvd_mul_right _ _)
  rw [gN_mul, hx, Nat.mul_one] at h1
  obtain ⟨t, ht⟩ := dvd_I h1
  refine ⟨t, ht, fun d hd => ?_⟩
  have := h d hd
  rw [ht, Int.mul_assoc] at this
  exact Int.eq_of_mul_eq_mul_left hl0 this
theorem cF_two {po : Nat → Option Nat} : ∀ n a b, a < b → b < n → po a = none → po b = none → 2 ≤ cF po 0 n
  | 0, _, _, _, h, _, _ => absurd h (by omega)
  | n + 1, a, b, hab, hb, h1, h2 => by
    have one : ∀ n a, a < n → po a = none → 1 ≤ cF po 0 n := by
      intro n
      induction n with
      | zero => intro a ha; omega
      | succ n ih =>
        intro a ha hf
        rw [cF, Nat.zero_add]
        by_cases e : a = n
        · rw [← e, hf]; simp
        · have := ih a (by omega) hf; omega
    rw [cF, Nat.zero_add]
    by_cases e : b = n
    · have := one n a (by omega) h1
      rw [← e] at this ⊢
      rw [h2]
      simp
      omega
    · have := cF_two n a b hab (by omega) h1 h2
      omega
theorem CI.bd {f : Nat → Int32} {n b z : Nat} {V : VM} {hd : Nat → Nat} (hn : n ≤ 5) (h60 : f60 f n) (h : CI f n b z V hd) {p : Nat} (hp : p < z) : (∀ d, d < n → -1555200000 ≤ (V p d).toInt ∧ (V p d).toInt ≤ 1555200000) ∧ (2 ≤ z → ∀ d, d < n → -5184000 ≤ (V p d).toInt ∧ (V p d).toInt ≤ 5184000) := by
  obtain ⟨e1, e2⟩ := slM_ES (A0 := Bt f n b) (Bt_sb hn h60 b) hn
  obtain ⟨u1, u2⟩ := ES.uniq (Nu_LN _ _) h.es e1
  have hcnt := slM_cnt (A0 := Bt f n b) (n := n) n (Nat.le_refl n)
  rw [Nat.sub_self] at hcnt
  generalize slM (Bt f n b) n n = G at e1 e2 u1 u2 hcnt
  have hl : ∃ p', p' < z ∧ hd p' = hd p := ⟨p, hp, rfl⟩
  have hH := (u1 _).mp hl
  have hu := u2 _ hl
  rw [CIw_at h hp] at hu
  have hpos := (h.2.2.1 p hp).1
  obtain ⟨t, t1, t2⟩ := prim_dvd (x := fun d => (V p d).toInt) (u := uu G (hd p)) (h.2.2.2.2.2.1 p hp) hu (by show (V p (hd p)).toInt ≠ 0; omega)
  have ht0 : t ≠ 0 := fun e => by
    rw [e, Int.mul_zero] at t1
    exact (e1.1 _ hH).2.2.1 t1
  have le : ∀ d, d < n → (V p d).toInt.natAbs ≤ (uu G (hd p) d).natAbs := fun d hd => by
    rw [← t2 d hd, Int.natAbs_mul]
    exact Nat.le_mul_of_pos_left _ (by omega)
  constructor
  · intro d hd'
    have h1 := le d hd'
    have h2 := e2 _ hH d hd'
    have : UBn G.2.1 ≤ 1555200000 := by unfold UBn; split <;> omega
    omega
  · intro hz d hd'
    have h1 := le d hd'
    have h2 := e2 _ hH d hd'
    have : UBn G.2.1 = 5184000 := by
      unfold UBn
      rw [if_pos]
      have f0 := ((u1 _).mp ⟨0, by omega, rfl⟩ : Hd G n (hd 0))
      have f1 := ((u1 _).mp ⟨1, by omega, rfl⟩ : Hd G n (hd 1))
      have := cF_two n (hd 0) (hd 1) (h.2.1 0 1 (by omega) (by omega)) f1.1 f0.2 f1.2
      omega
    omega
/-! one blade -/
theorem clA_row {V : VM} {w : Nat → Int64} {q n : Nat} : ∀ m, m ≤ q → ∀ a k, clA V w q n m a k = if a < m then clV V w a q n a k else V a k
  | 0, _, a, k => by rw [if_neg (by omega)]; rfl
  | m + 1, hm, a, k => by
    have ih := clA_row (V := V) (w := w) (q := q) (n := n) m (by omega)
    have em : clA V w q n m m = V m := funext fun k => by rw [ih, if_neg (by omega)]
    have eq : clA V w q n m q = V q := funext fun k => by rw [ih, if_neg (by omega)]
    have er : clR (clA V w q n m) w m q = clR V w m q := funext fun k => by unfold clR; rw [em, eq]
    show clV (clA V w q n m) w m q n a k = _
    unfold clV
    rw [er]
    by_cases e : a = m
    · subst e
      rw [if_pos (Nat.lt_succ_self a), em]
    · rw [if_neg (fun z => e z.2.1), ih]
      by_cases e2 : a < m
      · rw [if_pos e2, if_pos (by omega)]
        rfl
      · rw [if_neg e2, if_neg (by omega)]
theorem clV_row {V : VM} {w : Nat → Int64} {p q n : Nat} (hV : ∀ a, (a = p ∨ a = q) → ∀ d, d < n → -5184000 ≤ (V a d).toInt ∧ (V a d).toInt ≤ 5184000) (hw : ∀ a, (a = p ∨ a = q) → -1555200000 ≤ (w a).toInt ∧ (w a).toInt ≤ 1555200000) (hq : w q ≠ 0) (hg : gN (fun d => (V p d).toInt) n = 1) (hne : ∃ d, d < n ∧ (V p d).toInt ≠ 0 ∧ (V q d).toInt = 0) : ∃ D : Nat, 0 < D ∧ (∀ d, d < n → (D : Int) * (clV V w p q n p d).toInt = ((w q).toInt.natAbs : Int) * (V p d).toInt - (if w q < 0 then -(w p).toInt else (w p).toInt) * (V q d).toInt) ∧ gN (fun d => (clV V w p q n p d).toInt) n = 1 := by
  have hq0 : (w q).toInt ≠ 0 := fun e => hq (Int64.toInt_inj.mp (by rw [e]; rfl))
  by_cases hp0 : w p = 0
  · have e : ∀ d, clV V w p q n p d = V p d := fun d => by unfold clV; rw [if_neg (fun z => z.1 hp0)]
    refine ⟨(w q).toInt.natAbs, by omega, fun d hd => ?_, by rw [gN_cong (fun d _ => by rw [e])]; exact hg⟩
    rw [e, hp0, show (0 : Int64).toInt = 0 from rfl]
    simp
  · -- the combination, exactly
    have lq : (labs (w q)).toInt = ((w q).toInt.natAbs : Int) := by
      rw [labs_n (fun e => by have := (hw q (Or.inr rfl)).1; rw [e] at this; exact absurd this (by decide)), nL_toInt (by have := hw q (Or.inr rfl); omega)]
    have sp : (if w q < 0 then -(w p) else w p).toInt = (if w q < 0 then -(w p).toInt else (w p).toInt) := by
      split
      · exact neg_I (by have := hw p (Or.inl rfl); omega)
      · rfl
    have hX : ∀ d, d < n → (clR V w p q d).toInt = ((w q).toInt.natAbs : Int) * (V p d).toInt - (if w q < 0 then -(w p).toInt else (w p).toInt) * (V q d).toInt ∧ -2 ^ 55 ≤ (clR V w p q d).toInt ∧ (clR V w p q d).toInt ≤ 2 ^ 55 := by
      intro d hd
      have b1 := hV p (Or.inl rfl) d hd
      have b2 := hV q (Or.inr rfl) d hd
      have b3 := hw p (Or.inl rfl)
      have b4 := hw q (Or.inr rfl)
      have m1 := mulb (x := ((w q).toInt.natAbs : Int)) (X := 1555200000) (by omega) b1
      have m2 := mulb (x := (if w q < 0 then -(w p).toInt else (w p).toInt)) (X := 1555200000) (by split <;> omega) b2
      have e : (clR V w p q d).toInt = ((w q).toInt.natAbs : Int) * (V p d).toInt - (if w q < 0 then -(w p).toInt else (w p).toInt) * (V q d).toInt := by
        unfold clR
        rw [Int64.toInt_sub, Int64.toInt_mul, Int64.toInt_mul, lq, sp, bm64 (x := _ * (V p d).toInt) (by omega) (by omega), bm64 (x := _ * (V q d).toInt) (by omega) (by omega), bm64 (by omega) (by omega)]
      rw [e]
      exact ⟨rfl, by omega, by omega⟩
    have hmin : ∀ d, d < n → clR V w p q d ≠ Int64.minValue := fun d hd e => by
      have := (hX d hd).2.1
      rw [e] at this
      exact absurd this (by decide)
    have hD := clD_n hmin
    have hgl : gN (fun d => (clR V w p q d).toInt) n < 2 ^ 56 := gN_lt (by decide) (fun d hd => by have := hX d hd; omega)
    have hg0 : gN (fun d => (clR V w p q d).toInt) n ≠ 0 := fun e => by
      obtain ⟨d, hd, d1, d2⟩ := hne
      have h1 := gN_dvd (x := fun d => (clR V w p q d).toInt) hd
      rw [e] at h1
      have h2 := Nat.eq_zero_of_zero_dvd h1
      have h3 : (clR V w p q d).toInt = 0 := by
        have h2' : (clR V w p q d).toInt.natAbs = 0 := h2
        omega
      rw [(hX d hd).1, d2, Int.mul_zero, Int.sub_zero] at h3
      rcases Int.mul_eq_zero.mp h3 with h4 | h4
      · omega
      · exact d1 h4
    generalize hg2 : gN (fun d => (clR V w p q d).toInt) n = D at hD hgl hg0
    have hrow : ∀ d, d < n → (D : Int) * (clV V w p q n p d).toInt = (clR V w p q d).toInt := by
      intro d hd
      unfold clV
      rw [if_pos ⟨hp0, rfl, hd⟩, hD]
      by_cases e : (1 : Int64) < nL D
      · rw [if_pos e]
        have h1 := gN_dvd (x := fun d => (clR V w p q d).toInt) hd
        rw [hg2] at h1
        obtain ⟨t, ht⟩ := dvd_I (a := (D : Int)) (b := (clR V w p q d).toInt) (by rw [Int.natAbs_natCast]; exact h1)
        have ht : (clR V w p q d).toInt = (D : Int) * t := ht
        have hb := (hX d hd).2
        have hle : t.natAbs ≤ (clR V w p q d).toInt.natAbs := by
          rw [ht, Int.natAbs_mul]
          exact Nat.le_mul_of_pos_left _ (by omega)
        rw [div_I (z := t) (by rw [nL_toInt (by omega)]; omega) (by rw [ht, nL_toInt (by omega)]) (by omega)]
        exact ht.symm
      · rw [if_neg e]
        have : D = 1 := by
          apply Classical.byContradiction
          intro hne1
          refine e (Int64.lt_iff_toInt_lt.mpr ?_)
          rw [nL_toInt (by omega)]
          show (1 : Int) < D
          omega
        rw [this]
        exact Int.one_mul _
    refine ⟨D, by omega, fun d hd => (hrow d hd).trans (hX d hd).1, ?_⟩
    have h1 : D = D * gN (fun d => (clV V w p q n p d).toInt) n := by
      have := gN_mul (x := fun d => (clV V w p q n p d).toInt) (c := (D : Int)) n
      rw [gN_cong hrow, hg2, Int.natAbs_natCast] at this
      exact this
    have h2 : D * 1 = D * gN (fun d => (clV V w p q n p d).toInt) n := by rw [Nat.mul_one]; exact h1
    exact (Nat.eq_of_mul_eq_mul_left (by omega) h2).symm
theorem sgn_abs {x : Int} : (x.natAbs : Int) = if x < 0 then -x else x := by split <;> omega
theorem laO_none {w : Nat → Int64} : ∀ {z : Nat}, laO w z = none → ∀ j, j < z → w j = 0
  | 0, _, j, hj => absurd hj (by omega)
  | k + 1, h, j, hj => by
    unfold laO at h
    by_cases e : w k = 0
    · rw [if_pos e] at h
      by_cases ej : j = k
      · rw [ej]; exact e
      · exact laO_none h j (by omega)
    · rw [if_neg e] at h
      cases h
theorem CI.step {f : Nat → Int32} {n b z : Nat} {V : VM} {hd : Nat → Nat} (hn : n ≤ 5) (h60 : f60 f n) (h : CI f n b z V hd) (hb : b + 1 < 2 ^ n) (w0 : Nat → Int64) : ∃ hd', CI f n (b + 1) (cuS f (b + 1) n (z, V, w0)).1 (cuS f (b + 1) n (z, V, w0)).2.1 hd' := by
  have hB := (pow_le32 n hn).1
  have hbd := fun {p : Nat} (hp : p < z) => h.bd hn h60 hp
  obtain ⟨h1, h2, h3, h4, h5, h6, h7⟩ := id h
  show ∃ hd', CI f n (b + 1) (cuR V (cuW f (b + 1) V w0 n z) n z (laO (cuW f (b + 1) V w0 n z) z)).1 (cuR V (cuW f (b + 1) V w0 n z) n z (laO (cuW f (b + 1) V w0 n z) z)).2.1 hd'
  have hW : ∀ p, p < z → (cuW f (b + 1) V w0 n z p).toInt = sumI (fun d => (lnF f n (b + 1) d).toInt * (V p d).toInt) n := fun p hp => by
    unfold cuW
    rw [if_pos hp]
    exact (vaA_I hn h60 hb (X := 1555200000) (by omega) (hbd hp).1).1
  have hWb : 2 ≤ z → ∀ p, p < z → -1555200000 ≤ (cuW f (b + 1) V w0 n z p).toInt ∧ (cuW f (b + 1) V w0 n z p).toInt ≤ 1555200000 := fun hz p hp => by
    unfold cuW
    rw [if_pos hp]
    have := (vaA_I hn h60 hb (X := 5184000) (by omega) ((hbd hp).2 hz)).2
    omega
  generalize cuW f (b + 1) V w0 n z = w at hW hWb
  cases hq : laO w z with
  | none =>
    have hz := laO_none hq
    refine ⟨hd, h1, h2, h3, fun p hp => (Nu_Bt (by omega)).mpr ⟨h4 p hp, ?_⟩, fun v hv hz => h5 v ((Nu_Bt (by omega)).mp hv).1 hz, h6, h7⟩
    have hp : p < z := hp
    show sumI (fun d => (lnF f n (b + 1) d).toInt * (V p d).toInt) n = 0
    rw [← hW p hp, hz p hp]
    rfl
  | some q =>
    obtain ⟨q1, q2, q3⟩ := laO_lt hq
    have q20 : (w q).toInt ≠ 0 := fun e => q2 (Int64.toInt_inj.mp (by rw [e]; rfl))
    -- the new vectors
    have row : ∀ p, p < z - 1 → ∀ d, d < n → rmV (clA V w q n q) q z n p d = if p < q then clV V w p q n p d else V (p + 1) d := by
      intro p hp d hd'
      unfold rmV
      by_cases e : p < q
      · rw [if_neg (by omega), clA_row q (Nat.le_refl q), if_pos e, if_pos e]
      · rw [if_pos (by omega), clA_row q (Nat.le_refl q), if_neg (by omega), if_neg e]
    have new : ∀ p, p < q → ∃ D : Nat, 0 < D ∧ (∀ d, d < n → (D : Int) * (clV V w p q n p d).toInt = ((w q).toInt.natAbs : Int) * (V p d).toInt - (if w q < 0 then -(w p).toInt else (w p).toInt) * (V q d).toInt) ∧ gN (fun d => (clV V w p q n p d).toInt) n = 1 := by
      intro p hp
      refine clV_row (fun a ha d hd' => (hbd (by omega)).2 (by omega) d hd') (fun a ha => hWb (by omega) a (by omega)) q2 (h6 p (by omega)) ⟨hd p, h1 p (by omega), by have := (h3 p (by omega)).1; omega, (h3 q q1).2.2 p (by omega) (by omega)⟩
    have hsg : (if w q < 0 then (-1 : Int) else 1) * (w q).toInt = ((w q).toInt.natAbs : Int) := by
      rw [sgn_abs]
      by_cases e : w q < 0
      · have : (w q).toInt < 0 := Int64.lt_iff_toInt_lt.mp e
        rw [if_pos e, if_pos this]; omega
      · have : ¬ (w q).toInt < 0 := fun z => e (Int64.lt_iff_toInt_lt.mpr z)
        rw [if_neg e, if_neg this]; omega
    refine ⟨fun p => if p < q then hd p else hd (p + 1), fun p hp => ?_, fun p p' hpp hp' => ?_, fun p hp => ?_, fun p hp => ?_, fun v hv hz => ?_, fun p hp => ?_, ?_⟩
    · show (if p < q then hd p else hd (p + 1)) < n
      have hp : p < z - 1 := hp
      split
      · exact h1 p (by omega)
      · exact h1 (p + 1) (by omega)
    · show (if p < q then hd p else hd (p + 1)) < (if p' < q then hd p' else hd (p' + 1))
      have hp' : p' < z - 1 := hp'
      by_cases e1 : p < q
      · rw [if_pos e1]
        by_cases e2 : p' < q
        · rw [if_pos e2]; exact h2 p p' hpp (by omega)
        · rw [if_neg e2]; exact h2 p (p' + 1) (by omega) (by omega)
      · rw [if_neg e1, if_neg (by omega)]
        exact h2 (p + 1) (p' + 1) (by omega) (by omega)
    · have hp : p < z - 1 := hp
      show 0 < (rmV (clA V w q n q) q z n p (if p < q then hd p else hd (p + 1))).toInt ∧ (∀ d, d < (if p < q then hd p else hd (p + 1)) → (rmV (clA V w q n q) q z n p d).toInt = 0) ∧ ∀ q', q' < z - 1 → q' ≠ p → (rmV (clA V w q n q) q z n p (if q' < q then hd q' else hd (q' + 1))).toInt = 0
      by_cases e : p < q
      · obtain ⟨D, D1, D2, -⟩ := new p e
        obtain ⟨a1, a2, a3⟩ := h3 p (by omega)
        obtain ⟨b1, b2, b3⟩ := h3 q q1
        have hpq := h2 p q e q1
        have hz0 : ∀ d, d < n → (V p d).toInt = 0 → (V q d).toInt = 0 → (rmV (clA V w q n q) q z n p d).toInt = 0 := fun d hd' e1 e2 => by
          rw [row p hp d hd', if_pos e]
          have := D2 d hd'
          rw [e1, e2, Int.mul_zero, Int.mul_zero] at this
          have h0 : (D : Int) * (clV V w p q n p d).toInt = 0 := by omega
          exact (Int.mul_eq_zero.mp h0).resolve_left (by omega)
        rw [if_pos e]
        have hpn := h1 p (by omega)
        refine ⟨?_, fun d hd' => hz0 d (by omega) (a2 d hd') (b2 d (by omega)), fun q' hq' hne => ?_⟩
        · rw [row p hp _ hpn, if_pos e]
          have := D2 (hd p) hpn
          rw [b3 p (by omega) (by omega), Int.mul_zero, Int.sub_zero] at this
          have hpos : 0 < ((w q).toInt.natAbs : Int) * (V p (hd p)).toInt := Int.mul_pos (by omega) a1
          rw [← this] at hpos
          exact Int.pos_of_mul_pos_right hpos (by omega)
        · by_cases e2 : q' < q
          · rw [if_pos e2]
            exact hz0 _ (h1 q' (by omega)) (a3 q' (by omega) hne) (b3 q' (by omega) (by omega))
          · rw [if_neg e2]
            exact hz0 _ (h1 _ (by omega)) (a3 (q' + 1) (by omega) (by omega)) (b3 (q' + 1) (by omega) (by omega))
      · obtain ⟨a1, a2, a3⟩ := h3 (p + 1) (by omega)
        have hpn := h1 (p + 1) (by omega)
        rw [if_neg e]
        refine ⟨by rw [row p hp _ hpn, if_neg e]; exact a1, fun d hd' => by rw [row p hp d (by omega), if_neg e]; exact a2 d hd', fun q' hq' hne => ?_⟩
        by_cases e2 : q' < q
        · rw [if_pos e2, row p hp _ (h1 q' (by omega)), if_neg e]
          exact a3 q' (by omega) (by omega)
        · rw [if_neg e2, row p hp _ (h1 _ (by omega)), if_neg e]
          exact a3 (q' + 1) (by omega) (by omega)
    · have hp : p < z - 1 := hp
      rw [Nu_cong (w := fun d => (if p < q then clV V w p q n p d else V (p + 1) d).toInt) (fun d hd' => by show (rmV (clA V w q n q) q z n p d).toInt = _; rw [row p hp d hd'])]
      by_cases e : p < q
      · simp only [if_pos e]
        obtain ⟨D, D1, D2, -⟩ := new p e
        refine Nu_div (D := (D : Int)) (by omega) ((Nu_cong D2).mpr ((Nu_Bt (by omega)).mpr ⟨Nu.lin (h4 p (by omega)) (h4 q q1) _ _, ?_⟩))
        rw [sumI_cong (t := fun d => ((w q).toInt.natAbs : Int) * ((lnF f n (b + 1) d).toInt * (V p d).toInt) - (if w q < 0 then -(w p).toInt else (w p).toInt) * ((lnF f n (b + 1) d).toInt * (V q d).toInt)) (fun d _ => by grind), sumI_lin, ← hW p (by omega), ← hW q q1, ← hsg]
        split <;> grind
      · simp only [if_neg e]
        refine (Nu_Bt (by omega)).mpr ⟨h4 (p + 1) (by omega), ?_⟩
        rw [← hW (p + 1) (by omega), q3 (p + 1) (by omega) (by omega)]
        rfl
    · obtain ⟨v1, v2⟩ := (Nu_Bt (by omega)).mp hv
      have hpos := (h3 q q1).1
      have hy := h5 (fun d => (V q (hd q)).toInt * v d - v (hd q) * (V q d).toInt) (Nu.lin v1 (h4 q q1) _ _) (fun p hp => ?_)
      · have hv0 : v (hd q) = 0 := by
          have hs : sumI (fun d => (lnF f n (b + 1) d).toInt * ((V q (hd q)).toInt * v d - v (hd q) * (V q d).toInt)) n = 0 := by
            rw [sumI_cong (t := fun _ => 0) (fun d hd' => by rw [show (V q (hd q)).toInt * v d - v (hd q) * (V q d).toInt = 0 from hy d hd', Int.mul_zero]), sumI_0]
          rw [sumI_cong (t := fun d => (V q (hd q)).toInt * ((lnF f n (b + 1) d).toInt * v d) - v (hd q) * ((lnF f n (b + 1) d).toInt * (V q d).toInt)) (fun d _ => by grind), sumI_lin, v2, ← hW q q1] at hs
          have : v (hd q) * (w q).toInt = 0 := by omega
          exact (Int.mul_eq_zero.mp this).resolve_right q20
        intro d hd'
        have h0 : (V q (hd q)).toInt * v d - v (hd q) * (V q d).toInt = 0 := hy d hd'
        rw [hv0, Int.zero_mul, Int.sub_zero] at h0
        exact (Int.mul_eq_zero.mp h0).resolve_left (by omega)
      · show (V q (hd q)).toInt * v (hd p) - v (hd q) * (V q (hd p)).toInt = 0
        by_cases e : p = q
        · rw [e, Int.mul_comm, Int.sub_self]
        · rw [(h3 q q1).2.2 p hp e, Int.mul_zero, Int.sub_zero]
          have : v (hd p) = 0 := by
            by_cases e2 : p < q
            · have := hz p (show p < z - 1 by omega)
              simp only [if_pos e2] at this
              exact this
            · have := hz (p - 1) (show p - 1 < z - 1 by omega)
              simp only [if_neg (show ¬ p - 1 < q by omega), show p - 1 + 1 = p by omega] at this
              exact this
          rw [this, Int.mul_zero]
    · have hp : p < z - 1 := hp
      rw [gN_cong (y := fun d => (if p < q then clV V w p q n p d else V (p + 1) d).toInt) (fun d hd' => by show (rmV (clA V w q n q) q z n p d).toInt = _; rw [row p hp d hd'])]
      by_cases e : p < q
      · simp only [if_pos e]
        exact (new p e).choose_spec.2.2
      · simp only [if_neg e]
        exact h6 (p + 1) (by omega)
    · show z - 1 ≤ n
      omega
