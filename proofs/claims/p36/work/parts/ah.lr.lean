/-! LINEAR ALGEBRA: more unknowns than equations; primitive solutions; minors -/
theorem dt_el {M t : Nat → Int} {j0 : Nat} {c X : Int} (hj : j0 < 5) (h0 : t j0 = 0) : dt M (fun j => if j = j0 then -X else c * t j) = c * dt M t - M j0 * X := by
  rw [dt_5, dt_5]
  rcases (show j0 = 0 ∨ j0 = 1 ∨ j0 = 2 ∨ j0 = 3 ∨ j0 = 4 by omega) with rfl | rfl | rfl | rfl | rfl
  all_goals
    simp only [h0]
    simp
    grind
theorem dt_cong {R w w' : Nat → Int} (h : ∀ j, j < 5 → w j = w' j) : dt R w = dt R w' := by
  rw [dt_5, dt_5, h 0 (by decide), h 1 (by decide), h 2 (by decide), h 3 (by decide), h 4 (by decide)]
theorem dt_mul {R w : Nat → Int} (g : Int) : dt R (fun j => g * w j) = g * dt R w := by
  rw [dt_5, dt_5]
  grind
theorem dt_sub2 (A B : Int) (M R t : Nat → Int) : dt (fun j => A * M j - B * R j) t = A * dt M t - B * dt R t := by
  rw [dt_5, dt_5, dt_5]
  grind
/-- MORE UNKNOWNS THAN EQUATIONS -/
theorem PL : ∀ (m : Nat) (Rs : List (Nat → Int)) (S : List Nat), Rs.length = m → S.Nodup → (∀ j ∈ S, j < 5) → m < S.length → ∃ t : Nat → Int, (∃ j, j ∈ S ∧ t j ≠ 0) ∧ (∀ j, j ∉ S → t j = 0) ∧ ∀ R ∈ Rs, dt R t = 0
  | 0, Rs, S, hl, _, _, hS => by
    have hR : Rs = [] := List.length_eq_zero_iff.mp hl
    obtain ⟨j, hj⟩ : ∃ j, j ∈ S := by
      cases S with
      | nil => simp at hS
      | cons j t => exact ⟨j, List.mem_cons_self⟩
    refine ⟨fun i => if i = j then 1 else 0, ⟨j, hj, by simp⟩, fun i hi => if_neg (fun (e : i = j) => hi (by rw [e]; exact hj)), fun R h => by rw [hR] at h; cases h⟩
  | m + 1, [], S, hl, _, _, _ => by simp at hl
  | m + 1, R :: Rs, S, hl, hN, h5, hS => by
    have hl2 : Rs.length = m := by simpa using hl
    by_cases hz : ∃ j, j ∈ S ∧ R j ≠ 0
    · obtain ⟨j0, hj0, hne⟩ := hz
      have hm : ∀ j, j ∈ S.erase j0 → j ∈ S := fun j hj => List.mem_of_mem_erase hj
      have hnot : j0 ∉ S.erase j0 := fun h => by
        have := (List.Nodup.mem_erase_iff hN).mp h
        exact this.1 rfl
      obtain ⟨t, ⟨j1, hj1, ht1⟩, ht0, htR⟩ := PL m (Rs.map (fun M => fun j => R j0 * M j - M j0 * R j)) (S.erase j0) (by rw [List.length_map]; exact hl2) (hN.erase j0) (fun j hj => h5 j (hm j hj)) (by rw [List.length_erase_of_mem hj0]; omega)
      have t00 := ht0 j0 hnot
      have j0lt := h5 j0 hj0
      have key : ∀ M : Nat → Int, dt M (fun j => if j = j0 then -(dt R t) else R j0 * t j) = R j0 * dt M t - M j0 * dt R t := fun M => dt_el j0lt t00
      refine ⟨fun j => if j = j0 then -(dt R t) else R j0 * t j, ⟨j1, hm j1 hj1, ?_⟩, fun j hj => ?_, fun M hM => ?_⟩
      · have e : j1 ≠ j0 := fun e => hnot (e ▸ hj1)
        simp only [e, if_false]
        exact Int.mul_ne_zero hne ht1
      · have e : j ≠ j0 := fun e => hj (e ▸ hj0)
        simp only [e, if_false]
        rw [ht0 j (fun h => hj (hm j h)), Int.mul_zero]
      · rw [key]
        rcases List.mem_cons.mp hM with e | hM
        · subst e; omega
        · have := htR _ (List.mem_map.mpr ⟨M, hM, rfl⟩)
          rw [dt_sub2] at this
          exact this
    · obtain ⟨t, h1, h2, h3⟩ := PL m Rs S hl2 hN h5 (by omega)
      refine ⟨t, h1, h2, fun M hM => ?_⟩
      rcases List.mem_cons.mp hM with e | hM
      · subst e
        have z : ∀ j, M j * t j = 0 := fun j => by
          by_cases hj : j ∈ S
          · have : M j = 0 := Classical.byContradiction (fun z => hz ⟨j, hj, z⟩)
            rw [this, Int.zero_mul]
          · rw [h2 j hj, Int.mul_zero]
        rw [dt_5, z, z, z, z, z]
        rfl
      · exact h3 M hM
/-- a solution that a prime number doesn't divide -/
theorem prim_q {q : Nat} (hq : Prm q) {t : Nat → Int} (ht : ∃ j, j < 5 ∧ t j ≠ 0) : ∃ w : Nat → Int, (∃ j, j < 5 ∧ ¬ (q : Int) ∣ w j) ∧ (∀ j, t j = 0 → w j = 0) ∧ ∀ R, dt R t = 0 → dt R w = 0 := by
  have hg : gN t 5 ≠ 0 := fun e => by
    obtain ⟨j, hj, hne⟩ := ht
    have := gN_dvd (x := t) hj
    rw [e] at this
    exact hne (Int.natAbs_eq_zero.mp (Nat.eq_zero_of_zero_dvd this))
  have ew : ∀ j, j < 5 → t j = (gN t 5 : Int) * (t j / (gN t 5 : Int)) := fun j hj => by
    have := Int.ofNat_dvd_left.mpr (gN_dvd (x := t) hj)
    exact (Int.mul_ediv_cancel' this).symm
  have e1 : gN (fun j => t j / (gN t 5 : Int)) 5 = 1 := by
    have h1 := gN_mul (x := fun j => t j / (gN t 5 : Int)) (c := (gN t 5 : Int)) 5
    rw [gN_cong (y := t) (fun k hk => (ew k hk).symm), Int.natAbs_natCast] at h1
    have : gN t 5 * 1 = gN t 5 * gN (fun j => t j / (gN t 5 : Int)) 5 := by rw [Nat.mul_one]; exact h1
    exact (Nat.eq_of_mul_eq_mul_left (Nat.pos_of_ne_zero hg) this).symm
  refine ⟨fun j => t j / (gN t 5 : Int), Classical.byContradiction (fun hno => ?_), fun j hj => by simp only [hj]; exact Int.zero_ediv _, fun R hR => ?_⟩
  · have : q ∣ gN (fun j => t j / (gN t 5 : Int)) 5 := dvd_gN (fun k hk => by
      have : (q : Int) ∣ t k / (gN t 5 : Int) := Classical.byContradiction (fun z => hno ⟨k, hk, z⟩)
      have := Int.natAbs_dvd_natAbs.mpr this
      rw [Int.natAbs_natCast] at this
      exact this)
    rw [e1] at this
    have := Nat.le_of_dvd (by decide) this
    have := hq.1
    omega
  · have h1 : dt R t = (gN t 5 : Int) * dt R (fun j => t j / (gN t 5 : Int)) := by
      rw [← dt_mul]
      exact dt_cong ew
    rw [hR] at h1
    rcases Int.mul_eq_zero.mp h1.symm with e | e
    · exact absurd (by omega) hg
    · exact e
theorem len_nd : ∀ (a b : List Nat), a.Nodup → (∀ x ∈ a, x ∈ b) → a.length ≤ b.length
  | [], b, _, _ => Nat.zero_le _
  | x :: t, b, hn, hs => by
    rw [List.nodup_cons] at hn
    have hx : x ∈ b := hs x List.mem_cons_self
    have := len_nd t (b.erase x) hn.2 (fun y hy => (List.mem_erase_of_ne (fun (e : y = x) => hn.1 (by rw [← e]; exact hy))).mpr (hs y (List.mem_cons_of_mem _ hy)))
    rw [List.length_erase_of_mem hx] at this
    have := List.length_pos_of_mem hx
    simp only [List.length_cons]
    omega
theorem dt_only {q : Int} {R w : Nat → Int} {h : Nat} (hh : h < 5) (hz : ∀ d, d < 5 → d ≠ h → q ∣ R d * w d) (h1 : R h = 1) : q ∣ dt R w - w h := by
  have g : ∀ d, d < 5 → q ∣ R d * w d - (if d = h then w h else 0) := fun d hd => by
    by_cases e : d = h
    · subst e; rw [if_pos rfl, h1]; exact ⟨0, by omega⟩
    · rw [if_neg e, Int.sub_zero]; exact hz d hd e
  obtain ⟨c0, h0⟩ := g 0 (by decide)
  obtain ⟨c1, h1⟩ := g 1 (by decide)
  obtain ⟨c2, h2⟩ := g 2 (by decide)
  obtain ⟨c3, h3⟩ := g 3 (by decide)
  obtain ⟨c4, h4⟩ := g 4 (by decide)
  refine ⟨c0 + c1 + c2 + c3 + c4, ?_⟩
  rw [dt_5]
  have e : (if 0 = h then w h else 0) + (if 1 = h then w h else 0) + (if 2 = h then w h else 0) + (if 3 = h then w h else 0) + (if 4 = h then w h else 0) = w h := by
    rcases (show h = 0 ∨ h = 1 ∨ h = 2 ∨ h = 3 ∨ h = 4 by omega) with rfl | rfl | rfl | rfl | rfl <;> simp
  grind
theorem dt_sw (u t : Nat → Int) (M : Nat → Nat → Int) : dt u (fun d => dt (fun p => M p d) t) = dt t (fun p => dt u (fun d => M p d)) := by
  simp only [dt_5]
  grind
/-- a minor's last column, by its numbers -/
theorem NNe : ∀ P : Pvs, P.length ≤ 4 → ∀ v : Nat → Int, ∃ α : Nat → Int, ∀ d, NN P v d = sumI (fun i => α i * (P.getD i ((fun _ => 0), 0)).1 d) P.length + DD P * v d
  | [], _, v => ⟨fun _ => 0, fun d => by show v d = 0 + 1 * v d; omega⟩
  | [(r1, c1)], _, v => ⟨fun _ => -(v c1), fun d => by
    simp [NN, DD, sumI, m2]; grind⟩
  | [(r1, c1), (r2, c2)], _, v => ⟨fun i => match i with
      | 0 => m2 (r2 c1) (r2 c2) (v c1) (v c2)
      | _ => -(m2 (r1 c1) (r1 c2) (v c1) (v c2)), fun d => by
    simp [NN, DD, sumI, m3, m2]; grind⟩
  | [(r1, c1), (r2, c2), (r3, c3)], _, v => ⟨fun i => match i with
      | 0 => -(m3 (r2 c1) (r2 c2) (r2 c3) (r3 c1) (r3 c2) (r3 c3) (v c1) (v c2) (v c3))
      | 1 => m3 (r1 c1) (r1 c2) (r1 c3) (r3 c1) (r3 c2) (r3 c3) (v c1) (v c2) (v c3)
      | _ => -(m3 (r1 c1) (r1 c2) (r1 c3) (r2 c1) (r2 c2) (r2 c3) (v c1) (v c2) (v c3)), fun d => by
    simp [NN, DD, sumI, m4, m3, m2]; grind⟩
  | [(r1, c1), (r2, c2), (r3, c3), (r4, c4)], _, v => ⟨fun i => match i with
      | 0 => m4 (r2 c1) (r2 c2) (r2 c3) (r2 c4) (r3 c1) (r3 c2) (r3 c3) (r3 c4) (r4 c1) (r4 c2) (r4 c3) (r4 c4) (v c1) (v c2) (v c3) (v c4)
      | 1 => -(m4 (r1 c1) (r1 c2) (r1 c3) (r1 c4) (r3 c1) (r3 c2) (r3 c3) (r3 c4) (r4 c1) (r4 c2) (r4 c3) (r4 c4) (v c1) (v c2) (v c3) (v c4))
      | 2 => m4 (r1 c1) (r1 c2) (r1 c3) (r1 c4) (r2 c1) (r2 c2) (r2 c3) (r2 c4) (r4 c1) (r4 c2) (r4 c3) (r4 c4) (v c1) (v c2) (v c3) (v c4)
      | _ => -(m4 (r1 c1) (r1 c2) (r1 c3) (r1 c4) (r2 c1) (r2 c2) (r2 c3) (r2 c4) (r3 c1) (r3 c2) (r3 c3) (r3 c4) (v c1) (v c2) (v c3) (v c4)), fun d => by
    simp [NN, DD, sumI, m5, m4, m3, m2]; grind⟩
  | _ :: _ :: _ :: _ :: _ :: _, h, _ => by simp at h
theorem NN_add2 : ∀ P : Pvs, P.length ≤ 4 → ∀ (x : Int) (v w : Nat → Int) (d : Nat), NN P (fun j => x * v j + w j) d = x * NN P v d + NN P w d
  | [], _, x, v, w, d => rfl
  | [(r1, c1)], _, x, v, w, d => by simp only [NN, m2]; grind
  | [(r1, c1), (r2, c2)], _, x, v, w, d => by simp only [NN, m3, m2]; grind
  | [(r1, c1), (r2, c2), (r3, c3)], _, x, v, w, d => by simp only [NN, m4, m3, m2]; grind
  | [(r1, c1), (r2, c2), (r3, c3), (r4, c4)], _, x, v, w, d => by simp only [NN, m5, m4, m3, m2]; grind
  | _ :: _ :: _ :: _ :: _ :: _, h, _, _, _, _ => by simp at h
theorem NN_cong : ∀ P : Pvs, P.length ≤ 4 → ∀ (v w : Nat → Int) (d : Nat), (∀ x ∈ P, v x.2 = w x.2) → v d = w d → NN P v d = NN P w d
  | [], _, v, w, d, _, h => h
  | [(r1, c1)], _, v, w, d, hc, h => by
    simp only [List.forall_mem_cons] at hc
    simp only [NN, hc, h]
  | [(r1, c1), (r2, c2)], _, v, w, d, hc, h => by
    simp only [List.forall_mem_cons] at hc
    simp only [NN, hc, h]
  | [(r1, c1), (r2, c2), (r3, c3)], _, v, w, d, hc, h => by
    simp only [List.forall_mem_cons] at hc
    simp only [NN, hc, h]
  | [(r1, c1), (r2, c2), (r3, c3), (r4, c4)], _, v, w, d, hc, h => by
    simp only [List.forall_mem_cons] at hc
    simp only [NN, hc, h]
  | _ :: _ :: _ :: _ :: _ :: _, h, _, _, _, _, _ => by simp at h
/-- two columns exchanged -/
theorem NN_sw : ∀ P : Pvs, P.length ≤ 4 → ∀ (r : Nat → Int) (c : Nat) (x : (Nat → Int) × Nat), x ∈ P → ∃ P2 : Pvs, P2.length = P.length ∧ NN P2 r x.2 = -(NN P r c) ∧ (∀ y ∈ P2, ∃ y' ∈ P, y.1 = y'.1) ∧ (∀ y ∈ P2, y.2 = c ∨ ∃ y' ∈ P, y.2 = y'.2) ∧ (∀ y' ∈ P, y'.2 = x.2 ∨ ∃ y ∈ P2, y.2 = y'.2) ∧ ∃ y ∈ P2, y.2 = c
  | [(r1, c1)], _, r, c, x, hx => by
    have e : x = (r1, c1) := by simpa using hx
    subst e
    exact ⟨[(r1, c)], rfl, by simp only [NN, m2]; grind, by simp, by simp, by simp, by simp⟩
  | [(r1, c1), (r2, c2)], _, r, c, x, hx => by
    have e : x = (r1, c1) ∨ x = (r2, c2) := by simpa using hx
    rcases e with e | e <;> subst e
    · exact ⟨[(r1, c), (r2, c2)], rfl, by simp only [NN, m3, m2]; grind, by simp, by simp, by simp, by simp⟩
    · exact ⟨[(r1, c1), (r2, c)], rfl, by simp only [NN, m3, m2]; grind, by simp, by simp, by simp, by simp⟩
  | [(r1, c1), (r2, c2), (r3, c3)], _, r, c, x, hx => by
    have e : x = (r1, c1) ∨ x = (r2, c2) ∨ x = (r3, c3) := by simpa using hx
    rcases e with e | e | e <;> subst e
    · exact ⟨[(r1, c), (r2, c2), (r3, c3)], rfl, by simp only [NN, m4, m3, m2]; grind, by simp, by simp, by simp, by simp⟩
    · exact ⟨[(r1, c1), (r2, c), (r3, c3)], rfl, by simp only [NN, m4, m3, m2]; grind, by simp, by simp, by simp, by simp⟩
    · exact ⟨[(r1, c1), (r2, c2), (r3, c)], rfl, by simp only [NN, m4, m3, m2]; grind, by simp, by simp, by simp, by simp⟩
  | [(r1, c1), (r2, c2), (r3, c3), (r4, c4)], _, r, c, x, hx => by
    have e : x = (r1, c1) ∨ x = (r2, c2) ∨ x = (r3, c3) ∨ x = (r4, c4) := by simpa using hx
    rcases e with e | e | e | e <;> subst e
    · exact ⟨[(r1, c), (r2, c2), (r3, c3), (r4, c4)], rfl, by simp only [NN, m5, m4, m3, m2]; grind, by simp, by simp, by simp, by simp⟩
    · exact ⟨[(r1, c1), (r2, c), (r3, c3), (r4, c4)], rfl, by simp only [NN, m5, m4, m3, m2]; grind, by simp, by simp, by simp, by simp⟩
    · exact ⟨[(r1, c1), (r2, c2), (r3, c), (r4, c4)], rfl, by simp only [NN, m5, m4, m3, m2]; grind, by simp, by simp, by simp, by simp⟩
    · exact ⟨[(r1, c1), (r2, c2), (r3, c3), (r4, c)], rfl, by simp only [NN, m5, m4, m3, m2]; grind, by simp, by simp, by simp, by simp⟩
  | _ :: _ :: _ :: _ :: _ :: _, h, _, _, _, _ => by simp at h
