/-! TWO PRIME NUMBERS, and the inverse by a power -/
def rngB (p : Nat → Bool) : Nat → Nat → Bool
  | 0, lo => p lo
  | k + 1, lo => rngB p k lo && rngB p k (lo + 2 ^ k)
theorem rngB_at {p : Nat → Bool} : ∀ k lo, rngB p k lo = true → ∀ d, lo ≤ d → d < lo + 2 ^ k → p d = true
  | 0, lo, h, d, h1, h2 => by
    have : d = lo := by omega
    rw [this]; exact h
  | k + 1, lo, h, d, h1, h2 => by
    rw [rngB, Bool.and_eq_true] at h
    have e : 2 ^ (k + 1) = 2 ^ k + 2 ^ k := by rw [Nat.pow_succ]; omega
    by_cases hd : d < lo + 2 ^ k
    · exact rngB_at k lo h.1 d h1 hd
    · exact rngB_at k (lo + 2 ^ k) h.2 d (by omega) (by omega)
def Prm (q : Nat) : Prop := 2 ≤ q ∧ ∀ d, d ∣ q → d = 1 ∨ d = q
theorem prm_of {q : Nat} (h2 : 2 ≤ q) (hq : q < 65536 * 65536) (h : rngB (fun d => Nat.ble d 1 || (Nat.ble q d || !(Nat.beq (q % d) 0))) 16 0 = true) : Prm q := by
  have key : ∀ d, 2 ≤ d → d < 65536 → d < q → ¬ d ∣ q := fun d d1 d2 d3 hd => by
    have := rngB_at 16 0 h d (by omega) (by omega)
    have e0 : q % d = 0 := Nat.mod_eq_zero_of_dvd hd
    have e1 : Nat.ble d 1 = false := by
      cases e : Nat.ble d 1 with
      | false => rfl
      | true => have := Nat.le_of_ble_eq_true e; omega
    have e2 : Nat.ble q d = false := by
      cases e : Nat.ble q d with
      | false => rfl
      | true => have := Nat.le_of_ble_eq_true e; omega
    simp only [e1, e2, e0, Bool.false_or] at this
    exact absurd this (by decide)
  refine ⟨h2, fun d hd => ?_⟩
  obtain ⟨e, he⟩ := hd
  by_cases d1 : d = 1
  · exact Or.inl d1
  · by_cases dq : d = q
    · exact Or.inr dq
    · exfalso
      have d0 : d ≠ 0 := fun z => by rw [z, Nat.zero_mul] at he; omega
      have e0 : e ≠ 0 := fun z => by rw [z, Nat.mul_zero] at he; omega
      have e1 : e ≠ 1 := fun z => by rw [z, Nat.mul_one] at he; exact dq he.symm
      have dl : d < q := by
        rw [he]
        calc d = d * 1 := (Nat.mul_one d).symm
          _ < d * e := Nat.mul_lt_mul_of_pos_left (by omega) (by omega)
      have el : e < q := by
        rw [he]
        calc e = 1 * e := (Nat.one_mul e).symm
          _ < d * e := Nat.mul_lt_mul_of_pos_right (by omega) (by omega)
      by_cases hd6 : d < 65536
      · exact key d (by omega) hd6 dl ⟨e, he⟩
      · by_cases he6 : e < 65536
        · exact key e (by omega) he6 el ⟨d, by rw [he, Nat.mul_comm]⟩
        · have := Nat.mul_le_mul (show 65536 ≤ d by omega) (show 65536 ≤ e by omega)
          omega
set_option maxRecDepth 100000 in
theorem prm_1 : Prm 2147483647 := prm_of (by decide) (by decide) (by decide +kernel)
set_option maxRecDepth 100000 in
theorem prm_2 : Prm 2147483629 := prm_of (by decide) (by decide) (by decide +kernel)
theorem Prm.cop {q a : Nat} (h : Prm q) (ha : ¬ q ∣ a) : Nat.Coprime q a := by
  rcases h.2 (Nat.gcd q a) (Nat.gcd_dvd_left q a) with e | e
  · exact e
  · exact absurd (e ▸ Nat.gcd_dvd_right q a) ha
theorem Prm.mul {q a b : Nat} (h : Prm q) (hd : q ∣ a * b) : q ∣ a ∨ q ∣ b := by
  by_cases ha : q ∣ a
  · exact Or.inl ha
  · exact Or.inr ((h.cop ha).dvd_of_dvd_mul_left hd)
theorem Prm.mulI {q : Nat} {a b : Int} (h : Prm q) (hd : (q : Int) ∣ a * b) : (q : Int) ∣ a ∨ (q : Int) ∣ b := by
  have h1 := Int.natAbs_dvd_natAbs.mpr hd
  rw [Int.natAbs_mul, Int.natAbs_natCast] at h1
  rcases h.mul h1 with e | e
  · exact Or.inl (Int.ofNat_dvd_left.mpr e)
  · exact Or.inr (Int.ofNat_dvd_left.mpr e)
theorem sub_dvd {q x y : Nat} (h : x ≤ y) : x % q = y % q ↔ q ∣ y - x := by
  constructor
  · intro e
    exact Nat.dvd_of_mod_eq_zero (Nat.sub_mod_eq_zero_of_mod_eq e.symm)
  · rintro ⟨c, hc⟩
    have : y = x + q * c := by omega
    rw [this, Nat.add_mul_mod_self_left]
def prN : List Nat → Nat
  | [] => 1
  | x :: t => x * prN t
theorem prN_perm {a b : List Nat} (h : a.Perm b) : prN a = prN b := by
  induction h with
  | nil => rfl
  | cons x _ ih => simp only [prN, ih]
  | swap x y l => simp only [prN]; rw [← Nat.mul_assoc, ← Nat.mul_assoc, Nat.mul_comm y x]
  | trans _ _ h1 h2 => exact h1.trans h2
theorem perm_nd : ∀ (a b : List Nat), a.Nodup → (∀ x ∈ a, x ∈ b) → b.length ≤ a.length → a.Perm b
  | [], b, _, _, h => by
    have : b = [] := List.length_eq_zero_iff.mp (Nat.le_zero.mp h)
    rw [this]
  | x :: t, b, hn, hs, hl => by
    have hx : x ∈ b := hs x List.mem_cons_self
    have hp := List.perm_cons_erase hx
    rw [List.nodup_cons] at hn
    have h2 := perm_nd t (b.erase x) hn.2 (fun y hy => by
      have hyx : y ≠ x := fun e => hn.1 (e ▸ hy)
      exact (List.mem_erase_of_ne hyx).mpr (hs y (List.mem_cons_of_mem _ hy))) (by
      rw [List.length_erase_of_mem hx]
      simp only [List.length_cons] at hl
      omega)
    exact (List.Perm.cons x h2).trans hp.symm
theorem prN_map {q a : Nat} : ∀ l : List Nat, prN (l.map (fun i => a * i % q)) % q = a ^ l.length * prN l % q
  | [] => rfl
  | x :: t => by
    simp only [List.map_cons, prN, List.length_cons]
    rw [Nat.mul_mod, prN_map t, Nat.mod_mod, ← Nat.mul_mod, Nat.pow_succ]
    congr 1
    rw [Nat.mul_assoc a x, Nat.mul_assoc (a ^ t.length) a, Nat.mul_left_comm x, Nat.mul_left_comm a]
theorem prN_cop {q : Nat} (h : Prm q) : ∀ l : List Nat, (∀ x ∈ l, ¬ q ∣ x) → ¬ q ∣ prN l
  | [], _ => fun e => by have e2 : q ∣ 1 := e; have := Nat.le_of_dvd (by decide) e2; have := h.1; omega
  | x :: t, hl => fun e => by
    rcases h.mul e with e | e
    · exact hl x List.mem_cons_self e
    · exact prN_cop h t (fun y hy => hl y (List.mem_cons_of_mem _ hy)) e
/-- the power q - 1 -/
theorem fermat {q a : Nat} (h : Prm q) (ha : ¬ q ∣ a) : a ^ (q - 1) % q = 1 := by
  have h2 := h.1
  have hL : (List.range' 1 (q - 1)).length = q - 1 := List.length_range'
  have mem : ∀ x, x ∈ List.range' 1 (q - 1) ↔ 1 ≤ x ∧ x < q := fun x => by
    rw [List.mem_range'_1]
    omega
  have nd : ∀ x, 1 ≤ x → x < q → ¬ q ∣ x := fun x h1 h3 e => by have := Nat.le_of_dvd (by omega) e; omega
  have hp : ((List.range' 1 (q - 1)).map (fun i => a * i % q)).Perm (List.range' 1 (q - 1)) := by
    refine perm_nd _ _ ?_ ?_ (by rw [List.length_map]; exact Nat.le_refl _)
    · have inj : ∀ x, x ∈ List.range' 1 (q - 1) → ∀ y, y ∈ List.range' 1 (q - 1) → a * x % q = a * y % q → x = y := by
        intro x hx y hy e
        rw [mem] at hx hy
        have key : ∀ x y, 1 ≤ x → x < q → 1 ≤ y → y < q → x < y → a * x % q = a * y % q → False := fun x y x1 x2 y1 y2 hxy e => by
          have hd : q ∣ a * (y - x) := by
            have e3 : a * (y - x) = a * y - a * x := Nat.mul_sub a y x
            rw [e3]
            exact (sub_dvd (Nat.mul_le_mul_left a (by omega))).mp e
          rcases h.mul hd with z | z
          · exact ha z
          · exact nd (y - x) (by omega) (by omega) z
        by_cases h1 : x < y
        · exact absurd e (fun e => key x y hx.1 hx.2 hy.1 hy.2 h1 e)
        · by_cases h3 : y < x
          · exact absurd e.symm (fun e => key y x hy.1 hy.2 hx.1 hx.2 h3 e)
          · omega
      have gen : ∀ l : List Nat, l.Nodup → (∀ x ∈ l, ∀ y ∈ l, a * x % q = a * y % q → x = y) → (l.map (fun i => a * i % q)).Nodup := by
        intro l
        induction l with
        | nil => intro _ _; exact List.nodup_nil
        | cons x t ih =>
          intro hn hi
          rw [List.nodup_cons] at hn
          rw [List.map_cons, List.nodup_cons]
          refine ⟨fun hm => ?_, ih hn.2 (fun x hx y hy => hi x (List.mem_cons_of_mem _ hx) y (List.mem_cons_of_mem _ hy))⟩
          obtain ⟨y, hy, e⟩ := List.mem_map.mp hm
          have := hi y (List.mem_cons_of_mem _ hy) x List.mem_cons_self e
          exact hn.1 (this ▸ hy)
      exact gen _ List.nodup_range' inj
    · intro y hy
      obtain ⟨x, hx, e⟩ := List.mem_map.mp hy
      rw [mem] at hx ⊢
      have hlt : a * x % q < q := Nat.mod_lt _ (by omega)
      refine ⟨?_, by omega⟩
      rcases Nat.eq_zero_or_pos (a * x % q) with z | z
      · exfalso
        rcases h.mul (Nat.dvd_of_mod_eq_zero z) with w | w
        · exact ha w
        · exact nd x hx.1 hx.2 w
      · omega
  have e1 := prN_perm hp
  have e2 := prN_map (q := q) (a := a) (List.range' 1 (q - 1))
  rw [e1, hL] at e2
  have hc := prN_cop h (List.range' 1 (q - 1)) (fun x hx => by rw [mem] at hx; exact nd x hx.1 hx.2)
  generalize prN (List.range' 1 (q - 1)) = X at e2 hc
  have ap : 0 < a ^ (q - 1) := Nat.pow_pos (Nat.pos_of_ne_zero (fun z => ha (z ▸ ⟨0, rfl⟩)))
  have hd : q ∣ (a ^ (q - 1) - 1) * X := by
    rw [Nat.sub_mul, Nat.one_mul]
    exact (sub_dvd (Nat.le_mul_of_pos_left X ap)).mp e2
  rcases h.mul hd with z | z
  · have := (sub_dvd (q := q) (show 1 ≤ a ^ (q - 1) from ap)).mpr z
    have e3 : 1 % q = a ^ (q - 1) % q := this
    rw [← e3, Nat.mod_eq_of_lt (by omega)]
  · exact absurd z hc
theorem inv_pow {q a : Nat} (h : Prm q) (ha : ¬ q ∣ a) : a ^ (q - 2) * a % q = 1 := by
  have h2 := h.1
  rw [← Nat.pow_succ, show (q - 2).succ = q - 1 by omega]
  exact fermat h ha
