/-! THE RANK by a prime number: what holds of the rows -/
def dt (r v : Nat → Int) : Int := sumI (fun d => r d * v d) 5
theorem dt_5 (r v : Nat → Int) : dt r v = r 0 * v 0 + r 1 * v 1 + r 2 * v 2 + r 3 * v 3 + r 4 * v 4 := by
  simp only [dt, sumI]
  omega
theorem dt_lin {q x y : Int} {r' r s v : Nat → Int} (h : ∀ d, d < 5 → q ∣ r' d - (x * r d + y * s d)) : q ∣ dt r' v - (x * dt r v + y * dt s v) := by
  obtain ⟨c0, h0⟩ := h 0 (by decide)
  obtain ⟨c1, h1⟩ := h 1 (by decide)
  obtain ⟨c2, h2⟩ := h 2 (by decide)
  obtain ⟨c3, h3⟩ := h 3 (by decide)
  obtain ⟨c4, h4⟩ := h 4 (by decide)
  refine ⟨c0 * v 0 + c1 * v 1 + c2 * v 2 + c3 * v 3 + c4 * v 4, ?_⟩
  rw [dt_5, dt_5, dt_5]
  grind
theorem dt_0 {q : Int} {r v : Nat → Int} (h : ∀ d, d < 5 → r d = 0) : q ∣ dt r v := by
  rw [dt_5, h 0 (by decide), h 1 (by decide), h 2 (by decide), h 3 (by decide), h 4 (by decide)]
  exact ⟨0, by omega⟩
theorem em_dvd (x q : Int) : q ∣ x % q - x := ⟨-(x / q), by rw [Int.emod_def]; grind⟩
theorem dmr {q x : Int} (c : Int) (h : q ∣ x) : q ∣ c * x := by
  obtain ⟨t, ht⟩ := h
  exact ⟨c * t, by rw [ht]; grind⟩
/-- all rows of the form, at v -/
def AllA (q : Nat) (n : Nat) (u : Nat → Nat → Int) (v : Nat → Int) : Prop := ∀ b, 1 ≤ b → b < 2 ^ n → (q : Int) ∣ dt (u b) v
def RK (q n : Nat) (u : Nat → Nat → Int) (b ρ : Nat) (E : Nat → Nat → Int) (hd : Nat → Nat) : Prop :=
  ρ ≤ n ∧ (∀ k, k < ρ → ∀ d, d < 5 → 0 ≤ E k d ∧ E k d < q) ∧ (∀ k, k < ρ → hd k < n ∧ E k (hd k) = 1 ∧ ∀ j, j < k → E k (hd j) = 0) ∧ (∀ k, k < ρ → ∀ d, n ≤ d → d < 5 → E k d = 0) ∧
  (∀ v, AllA q n u v → ∀ k, k < ρ → (q : Int) ∣ dt (E k) v) ∧ (∀ v, (∀ k, k < ρ → (q : Int) ∣ dt (E k) v) → ∀ c, 1 ≤ c → c < b → (q : Int) ∣ dt (u c) v)
/-- a new row, brought down by the first k of the others -/
def RW (q n : Nat) (u : Nat → Nat → Int) (b ρ : Nat) (E : Nat → Nat → Int) (hd : Nat → Nat) (k : Nat) (row : Nat → Int) : Prop :=
  (∀ d, d < 5 → 0 ≤ row d ∧ row d < q) ∧ (∀ j, j < k → row (hd j) = 0) ∧ (∀ d, n ≤ d → d < 5 → row d = 0) ∧ (∀ v, AllA q n u v → (q : Int) ∣ dt row v) ∧ (∀ v, (∀ k, k < ρ → (q : Int) ∣ dt (E k) v) → (q : Int) ∣ dt row v → (q : Int) ∣ dt (u b) v)
section RKs
variable {q n b ρ : Nat} {u : Nat → Nat → Int} {E : Nat → Nat → Int} {hd : Nat → Nat}
theorem RK.cong {E' : Nat → Nat → Int} {hd' : Nat → Nat} (h : RK q n u b ρ E hd) (hE : ∀ k, k < ρ → ∀ d, d < 5 → E' k d = E k d) (hh : ∀ k, k < ρ → hd' k = hd k) (hn : n ≤ 5) : RK q n u b ρ E' hd' := by
  obtain ⟨h1, h2, h3, h4, h5, h6⟩ := h
  have ed : ∀ k, k < ρ → ∀ v, dt (E' k) v = dt (E k) v := fun k hk v => by
    rw [dt_5, dt_5, hE k hk 0 (by decide), hE k hk 1 (by decide), hE k hk 2 (by decide), hE k hk 3 (by decide), hE k hk 4 (by decide)]
  refine ⟨h1, fun k hk d hd => by rw [hE k hk d hd]; exact h2 k hk d hd, fun k hk => ?_, fun k hk d d1 d2 => by rw [hE k hk d d2]; exact h4 k hk d d1 d2, fun v hv k hk => by rw [ed k hk]; exact h5 v hv k hk, fun v hv => h6 v (fun k hk => by rw [← ed k hk]; exact hv k hk)⟩
  obtain ⟨a1, a2, a3⟩ := h3 k hk
  rw [hh k hk]
  refine ⟨a1, by rw [hE k hk _ (by omega)]; exact a2, fun j hj => ?_⟩
  have := (h3 j (by omega)).1
  rw [hh j (by omega), hE k hk _ (by omega)]
  exact a3 j hj
theorem RK.start : RK q n u 1 0 E hd := ⟨Nat.zero_le n, fun k hk => absurd hk (Nat.not_lt_zero k), fun k hk => absurd hk (Nat.not_lt_zero k), fun k hk => absurd hk (Nat.not_lt_zero k), fun v _ k hk => absurd hk (Nat.not_lt_zero k), fun v _ c c1 c2 => by omega⟩
theorem RW.start {row : Nat → Int} (hq : 0 < q) (hb : 1 ≤ b) (hbn : b < 2 ^ n) (hr : ∀ d, d < 5 → row d = u b d % q) (hu : ∀ d, n ≤ d → d < 5 → u b d = 0) : RW q n u b ρ E hd 0 row := by
  have hd1 : ∀ d, d < 5 → (q : Int) ∣ row d - (1 * u b d + 0 * u b d) := fun d hd => by
    have := em_dvd (u b d) q
    rw [hr d hd]
    rw [show u b d % (q : Int) - (1 * u b d + 0 * u b d) = u b d % (q : Int) - u b d by omega]
    exact this
  have hl : ∀ v, (q : Int) ∣ dt row v - dt (u b) v := fun v => by
    have := dt_lin (v := v) hd1
    rw [show dt row v - (1 * dt (u b) v + 0 * dt (u b) v) = dt row v - dt (u b) v by omega] at this
    exact this
  refine ⟨fun d hd => ?_, fun j hj => absurd hj (Nat.not_lt_zero j), fun d d1 d2 => by rw [hr d d2, hu d d1 d2]; exact Int.zero_emod _, fun v hv => ?_, fun v _ h => ?_⟩
  · rw [hr d hd]
    exact ⟨Int.emod_nonneg _ (by omega), Int.emod_lt_of_pos _ (by omega)⟩
  · exact (Int.dvd_iff_dvd_of_dvd_sub (hl v)).mpr (hv b hb hbn)
  · exact (Int.dvd_iff_dvd_of_dvd_sub (hl v)).mp h
theorem RW.step {row row' : Nat → Int} {k : Nat} (hq : 1 < q) (hn : n ≤ 5) (hK : RK q n u b ρ E hd) (hR : RW q n u b ρ E hd k row) (hk : k < ρ) (hr : ∀ d, d < 5 → row' d = (row d - row (hd k) * E k d) % q) : RW q n u b ρ E hd (k + 1) row' := by
  obtain ⟨h1, h2, h3, h4, h5, h6⟩ := hK
  obtain ⟨r1, r2, r3, r4, r5⟩ := hR
  obtain ⟨a1, a2, a3⟩ := h3 k hk
  have hl : ∀ v, (q : Int) ∣ dt row' v - (dt row v + -(row (hd k)) * dt (E k) v) := fun v => by
    have := dt_lin (q := q) (x := 1) (y := -(row (hd k))) (r' := row') (r := row) (s := E k) (v := v) (fun d hd' => by
      have := em_dvd (row d - row (hd k) * E k d) q
      rw [hr d hd', show 1 * row d + -(row (hd k)) * E k d = row d - row (hd k) * E k d by grind]
      exact this)
    rw [show 1 * dt row v + -(row (hd k)) * dt (E k) v = dt row v + -(row (hd k)) * dt (E k) v by omega] at this
    exact this
  refine ⟨fun d hd' => ?_, fun j hj => ?_, fun d d1 d2 => ?_, fun v hv => ?_, fun v hv h => ?_⟩
  · rw [hr d hd']
    exact ⟨Int.emod_nonneg _ (by omega), Int.emod_lt_of_pos _ (by omega)⟩
  · by_cases e : j = k
    · subst e
      rw [hr _ (by omega), a2, Int.mul_one, Int.sub_self]
      exact Int.zero_emod _
    · have := (h3 j (by omega)).1
      rw [hr _ (by omega), r2 j (by omega), a3 j (by omega), Int.mul_zero, Int.sub_self]
      exact Int.zero_emod _
  · rw [hr d d2, r3 d d1 d2, h4 k hk d d1 d2, Int.mul_zero, Int.sub_self]
    exact Int.zero_emod _
  · have e1 := r4 v hv
    have e2 := h5 v hv k hk
    exact (Int.dvd_iff_dvd_of_dvd_sub (hl v)).mpr (Int.dvd_add e1 (Int.dvd_mul_of_dvd_right e2))
  · have e2 := hv k hk
    have e3 := (Int.dvd_iff_dvd_of_dvd_sub (hl v)).mp h
    refine r5 v hv ?_
    have e4 := Int.dvd_sub e3 (dmr (-(row (hd k))) e2)
    rw [Int.add_sub_cancel] at e4
    exact e4
/-- nothing is left of it -/
theorem RK.zero {row : Nat → Int} (hK : RK q n u b ρ E hd) (hR : RW q n u b ρ E hd ρ row) (hz : ∀ d, d < 5 → row d = 0) : RK q n u (b + 1) ρ E hd := by
  obtain ⟨h1, h2, h3, h4, h5, h6⟩ := hK
  refine ⟨h1, h2, h3, h4, h5, fun v hv c c1 c2 => ?_⟩
  by_cases e : c = b
  · subst e
    exact hR.2.2.2.2 v hv (dt_0 hz)
  · exact h6 v hv c c1 (by omega)
/-- a new row with its head -/
theorem RK.more {row : Nat → Int} {h : Nat} {iv : Int} {E' : Nat → Nat → Int} {hd' : Nat → Nat} (hq : 1 < q) (hn : n ≤ 5) (hρ : ρ < n) (hK : RK q n u b ρ E hd) (hR : RW q n u b ρ E hd ρ row) (hh : h < 5) (hne : row h ≠ 0) (hz : ∀ d, d < h → row d = 0) (hiv : (row h * iv) % q = 1) (hE : ∀ k, k < ρ → ∀ d, d < 5 → E' k d = E k d) (hE2 : ∀ d, d < 5 → E' ρ d = (row d * iv) % q) (hdd : ∀ k, k < ρ → hd' k = hd k) (hd2 : hd' ρ = h) : RK q n u (b + 1) (ρ + 1) E' hd' := by
  obtain ⟨h1, h2, h3, h4, h5, h6⟩ := hK
  obtain ⟨r1, r2, r3, r4, r5⟩ := hR
  have hhn : h < n := Classical.byContradiction (fun z => hne (r3 h (by omega) hh))
  have ed : ∀ k, k < ρ → ∀ v, dt (E' k) v = dt (E k) v := fun k hk v => by
    rw [dt_5, dt_5, hE k hk 0 (by decide), hE k hk 1 (by decide), hE k hk 2 (by decide), hE k hk 3 (by decide), hE k hk 4 (by decide)]
  have hl : ∀ v, (q : Int) ∣ dt (E' ρ) v - iv * dt row v := fun v => by
    have := dt_lin (q := q) (x := iv) (y := 0) (r' := E' ρ) (r := row) (s := row) (v := v) (fun d hd' => by
      have := em_dvd (row d * iv) q
      rw [hE2 d hd', show iv * row d + 0 * row d = row d * iv by grind]
      exact this)
    rw [show iv * dt row v + 0 * dt row v = iv * dt row v by omega] at this
    exact this
  refine ⟨by omega, fun k hk d hd' => ?_, fun k hk => ?_, fun k hk d d1 d2 => ?_, fun v hv k hk => ?_, fun v hv c c1 c2 => ?_⟩
  · by_cases e : k = ρ
    · subst e
      rw [hE2 d hd']
      exact ⟨Int.emod_nonneg _ (by omega), Int.emod_lt_of_pos _ (by omega)⟩
    · rw [hE k (by omega) d hd']; exact h2 k (by omega) d hd'
  · by_cases e : k = ρ
    · subst e
      rw [hd2]
      refine ⟨hhn, by rw [hE2 h hh]; exact hiv, fun j hj => ?_⟩
      have := (h3 j hj).1
      rw [hdd j hj, hE2 _ (by omega), r2 j hj, Int.zero_mul]
      exact Int.zero_emod _
    · obtain ⟨a1, a2, a3⟩ := h3 k (by omega)
      rw [hdd k (by omega)]
      refine ⟨a1, by rw [hE k (by omega) _ (by omega)]; exact a2, fun j hj => ?_⟩
      have := (h3 j (by omega)).1
      rw [hdd j (by omega), hE k (by omega) _ (by omega)]
      exact a3 j hj
  · by_cases e : k = ρ
    · subst e
      rw [hE2 d d2, r3 d d1 d2, Int.zero_mul]
      exact Int.zero_emod _
    · rw [hE k (by omega) d d2]; exact h4 k (by omega) d d1 d2
  · by_cases e : k = ρ
    · subst e
      exact (Int.dvd_iff_dvd_of_dvd_sub (hl v)).mpr (Int.dvd_mul_of_dvd_right (r4 v hv))
    · rw [ed k (by omega)]; exact h5 v hv k (by omega)
  · have hv' : ∀ k, k < ρ → (q : Int) ∣ dt (E k) v := fun k hk => by rw [← ed k hk]; exact hv k (by omega)
    by_cases e : c = b
    · subst e
      refine r5 v hv' ?_
      have e1 := (Int.dvd_iff_dvd_of_dvd_sub (hl v)).mp (hv ρ (by omega))
      have e2 := dmr (row h) e1
      have e3 := em_dvd (row h * iv) q
      rw [hiv] at e3
      obtain ⟨c3, hc3⟩ := e3
      obtain ⟨c2', hc2⟩ := e2
      exact ⟨c2' + c3 * dt row v, by grind⟩
    · exact h6 v hv' c c1 (by omega)
end RKs
/-- as the machine counts it -/
theorem rem_t {x y : Int64} (hx : -2 ^ 63 < x.toInt) (hy : y.toInt ≠ 0) : (x - x / y * y).toInt = x.toInt.tmod y.toInt := by
  have e1 := Int.mul_tdiv_add_tmod x.toInt y.toInt
  have hr := Int64.toInt_lt x
  have hrl := Int64.le_toInt x
  have e0 : (x / y).toInt = x.toInt.tdiv y.toInt := by
    rw [Int64.toInt_div]
    refine Int.bmod_eq_of_le ?_ ?_
    · have := Int.natAbs_tdiv_le_natAbs x.toInt y.toInt
      omega
    · have := Int.natAbs_tdiv_le_natAbs x.toInt y.toInt
      omega
  have e2 : (x / y * y).toInt = x.toInt.tdiv y.toInt * y.toInt := by
    rw [Int64.toInt_mul, e0]
    have h4 : x.toInt.tdiv y.toInt * y.toInt = x.toInt - x.toInt.tmod y.toInt := by rw [Int.mul_comm]; omega
    have h5 := Int.natAbs_tmod x.toInt y.toInt
    have h6 : (x.toInt.tmod y.toInt).natAbs ≤ x.toInt.natAbs := by rw [h5]; exact Nat.mod_le _ _
    have h7 : 0 ≤ x.toInt → 0 ≤ x.toInt.tmod y.toInt := fun h => Int.tmod_nonneg _ h
    have h8 : x.toInt ≤ 0 → x.toInt.tmod y.toInt ≤ 0 := fun h => by
      have := Int.tmod_nonneg (a := -x.toInt) y.toInt (by omega)
      rw [Int.neg_tmod] at this
      omega
    rw [h4]
    refine Int.bmod_eq_of_le ?_ ?_ <;> omega
  rw [Int64.toInt_sub, e2, show x.toInt - x.toInt.tdiv y.toInt * y.toInt = x.toInt.tmod y.toInt by rw [Int.mul_comm]; omega]
  have h5 := Int.natAbs_tmod x.toInt y.toInt
  have h6 : (x.toInt.tmod y.toInt).natAbs ≤ x.toInt.natAbs := by rw [h5]; exact Nat.mod_le _ _
  refine Int.bmod_eq_of_le ?_ ?_ <;> omega
theorem md_64 {x y : Int64} {q : Nat} (hx : -2 ^ 63 < x.toInt) (hy : y.toInt = q) (h0 : 0 < q) (hq : q < 2 ^ 31) : ((x - x / y * y + y) - (x - x / y * y + y) / y * y).toInt32.toInt = x.toInt % q := by
  have e1 := rem_t hx (show y.toInt ≠ 0 by omega)
  rw [hy] at e1
  have h5 := Int.natAbs_tmod x.toInt q
  have h6 : (x.toInt.tmod q).natAbs < q := by
    rw [h5, Int.natAbs_natCast]
    exact Nat.mod_lt _ h0
  have e2 : (x - x / y * y + y).toInt = x.toInt.tmod q + q := by
    rw [Int64.toInt_add, e1, hy]
    exact Int.bmod_eq_of_le (by omega) (by omega)
  have e3 := rem_t (x := x - x / y * y + y) (y := y) (by omega) (by omega)
  rw [e2, hy] at e3
  have e4 : (x.toInt.tmod q + q).tmod q = x.toInt % q := by
    rw [Int.tmod_eq_emod_of_nonneg (by omega), Int.add_emod_right]
    have := Int.mul_tdiv_add_tmod x.toInt q
    have h2 := Int.add_mul_emod_self_left (x.toInt.tmod q) (q : Int) (x.toInt.tdiv q)
    rw [Int.add_comm, this] at h2
    exact h2.symm
  rw [e4] at e3
  have b1 := Int.emod_nonneg x.toInt (show (q : Int) ≠ 0 by omega)
  have b2 := Int.emod_lt_of_pos x.toInt (show (0 : Int) < q by omega)
  rw [← Int32.toInt_toInt64, lg_i2l_l2i (by omega) (by omega)]
  exact e3
