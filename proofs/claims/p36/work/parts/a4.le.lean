/-! THE LAW'S rows looked over -/
theorem lgc_gt {x y : Int64} : 0 < lg_cmp x y ↔ y < x := lg_cmp_gt x y
theorem lgc_ge {x y : Int64} : 0 ≤ lg_cmp x y ↔ ¬ x < y := by
  rw [lg_cmp_ge]
  exact ⟨fun h z => absurd h (Int64.not_le.mpr z), fun h => Int64.not_lt.mp h⟩
theorem lgc_le {x y : Int64} : lg_cmp x y ≤ 0 ↔ ¬ y < x := by
  rw [lg_cmp_le]
  exact ⟨fun h z => absurd h (Int64.not_le.mpr z), fun h => Int64.not_lt.mp h⟩
theorem qL_beyond (l : Launch) (I : IM) (L : LM) : KL_beyond l [.ref 182] I L (some (.int (fsI (ftO (L 182) 32)))) I L := by
  refine wL_beyond l rfl (hz0 (by decide)) (fun V hV => ?_)
  refine ru_go hV 2 [] rfl rfl trivial ?_
  refine loop0 (P := fun i => (∀ j, j < i → tooB (L 182 j) = false) → V 2 [(0, .ref 182), (1, .int (nI i))] [] I L) 32 (fun h => h (fun j hj => absurd hj (by omega))) (fun i hi ih hall => ?_) (fun hall => ?_)
  · by_cases h1 : 100000000 < L 182 i
    · have ht : tooB (L 182 i) = true := by simp [tooB, h1]
      have e : ftO (L 182) 32 = some i := fsO_some ht hall 32 hi
      refine ru_fin hV 11 [(0, 0), (i, 32), (1, 0)] rfl rfl ⟨⟨⟨trivial, nI32_ge hi⟩, ⟨rfl, rfl, hi⟩⟩, lgc_gt.mpr h1⟩ ?_
      exact ⟨by rw [e]; rfl, rfl, rfl⟩
    · by_cases h2 : L 182 i < -100000000
      · have ht : tooB (L 182 i) = true := by simp [tooB, h2]
        have e : ftO (L 182) 32 = some i := fsO_some ht hall 32 hi
        refine ru_fin hV 17 [(0, 0), (i, 32), (0, 0), (i, 32), (0, 0)] rfl rfl ⟨⟨⟨⟨⟨trivial, nI32_ge hi⟩, ⟨rfl, rfl, hi⟩⟩, (fun z => h1 (lgc_gt.mp z))⟩, ⟨rfl, rfl, hi⟩⟩, (fun z => lgc_ge.mp z h2)⟩ ?_
        exact ⟨by rw [e]; rfl, rfl, rfl⟩
      · have ht : tooB (L 182 i) = false := by simp [tooB, Int64.not_lt.mp h1, Int64.not_lt.mp h2]
        refine ru_go hV 17 [(0, 0), (i, 32), (0, 0), (i, 32), (1, 0)] rfl rfl ⟨⟨⟨⟨⟨trivial, nI32_ge hi⟩, ⟨rfl, rfl, hi⟩⟩, (fun z => h1 (lgc_gt.mp z))⟩, ⟨rfl, rfl, hi⟩⟩, lgc_ge.mpr h2⟩ ?_
        rw [nI_1]
        refine ih (fun j hj => ?_)
        by_cases e : j = i
        · subst e; exact ht
        · exact hall j (by omega)
  · have e : ftO (L 182) 32 = none := fsO_none hall
    refine ru_fin hV 5 [(1, 0)] rfl rfl ⟨trivial, (by decide)⟩ ?_
    exact ⟨by rw [e]; rfl, rfl, rfl⟩
/-- how many of a row's numbers are no 0 -/
def cnL (f : Nat → Int64) : Nat → Nat
  | 0 => 0
  | k + 1 => cnL f k + if f k = 0 then 0 else 1
theorem qL_many (l : Launch) {c a N : Nat} (hc : kdL c = (2, N, 0)) (ha : a + 32 ≤ N) (I : IM) (L : LM) : KL_many l [.ref c, .int (nI a)] I L (some (.int (nI (cnL (fun q => L c (a + q)) 32)))) I L := by
  refine wL_many l rfl (hz0 (by decide)) (fun V hV => ?_)
  refine ru_go hV 4 [] rfl rfl trivial ?_
  refine loop0 (P := fun k => V 4 [(0, .ref c), (1, .int (nI a)), (2, .int (nI (cnL (fun q => L c (a + q)) k))), (3, .int (nI k))] [] I L) 32 (fun h => h) (fun k hk ih => ?_) ?_
  · by_cases h : L c (a + k) = 0
    · refine ru_go hV 18 [(0, 0), ((a+k), N), (0, 0)] rfl rfl ⟨⟨⟨trivial, nI32_ge hk⟩, ⟨hc, nI_add a k, by omega⟩⟩, (fun e => e ((lg_cmp0 _ _).mpr h))⟩ ?_
      rw [nI_1]
      simp only [cnL, h, if_true, Nat.add_zero] at ih
      rw [Int32.add_zero]
      exact ih
    · refine ru_go hV 17 [(0, 0), ((a+k), N), (1, 0)] rfl rfl ⟨⟨⟨trivial, nI32_ge hk⟩, ⟨hc, nI_add a k, by omega⟩⟩, (fun e => h ((lg_cmp0 _ _).mp e))⟩ ?_
      rw [nI_1, nI_1]
      simp only [cnL, h, if_false] at ih
      exact ih
  · refine ru_fin hV 5 [(1, 0)] rfl rfl ⟨trivial, (by decide)⟩ ?_
    exact ⟨rfl, rfl, rfl⟩
def lwL (f : Nat → Int64) : Nat → Nat
  | 0 => 9
  | k + 1 => if f k ≠ 0 ∧ pc5 k < lwL f k then pc5 k else lwL f k
theorem lwL_le (f : Nat → Int64) : ∀ k, lwL f k ≤ 9
  | 0 => Nat.le_refl 9
  | k + 1 => by
    rw [lwL]
    have := pc5_le k
    have := lwL_le f k
    split <;> omega
theorem qL_low (l : Launch) {a : Nat} (ha : a + 32 ≤ 64) (I : IM) (L : LM) : KL_low l [.ref 181, .int (nI a)] I L (some (.int (nI (lwL (fun q => L 181 (a + q)) 32)))) I L := by
  refine wL_low l rfl (hz0 (by decide)) (fun V hV => ?_)
  refine ru_go hV 4 [] rfl rfl trivial ?_
  refine loop0 (P := fun k => V 5 [(0, .ref 181), (1, .int (nI a)), (2, .int (nI (lwL (fun q => L 181 (a + q)) k))), (3, .int (nI k))] [] I L) 32 (fun h => h) (fun k hk ih => ?_) ?_
  · have h9 := lwL_le (fun q => L 181 (a + q)) k
    have h5 := pc5_le k
    by_cases h : L 181 (a + k) = 0
    · refine ru_go hV 13 [(0, 0), ((a+k), 64), (1, 0)] rfl rfl ⟨⟨⟨trivial, nI32_ge hk⟩, ⟨rfl, nI_add a k, by omega⟩⟩, (lg_cmp0 _ _).mpr h⟩ ?_
      rw [nI_1]
      simp only [lwL, h, ne_eq, not_true_eq_false, false_and, if_false] at ih
      exact ih
    · refine ru_go hV 12 [(0, 0), ((a+k), 64), (0, 0)] rfl rfl ⟨⟨⟨trivial, nI32_ge hk⟩, ⟨rfl, nI_add a k, by omega⟩⟩, (fun e => h ((lg_cmp0 _ _).mp e))⟩ ?_
      refine ru_S hV [] sSL_38 (qL_grade l hk I _) rfl rfl rfl (Nat.le_of_ble_eq_true rfl) ?_
      by_cases h2 : pc5 k < lwL (fun q => L 181 (a + q)) k
      · refine ru_go hV 3 [(0, 0)] rfl rfl ⟨trivial, nI_nge h2 (by omega)⟩ ?_
        refine ru_S hV [] sSL_38 (qL_grade l hk I _) rfl rfl rfl (Nat.le_of_ble_eq_true rfl) ?_
        refine ru_go hV 3 [] rfl rfl trivial ?_
        rw [nI_1]
        simp only [lwL, h, ne_eq, not_false_eq_true, true_and, h2, if_true] at ih
        exact ih
      · refine ru_go hV 4 [(1, 0)] rfl rfl ⟨trivial, nI_le (by omega) (by omega)⟩ ?_
        rw [nI_1]
        simp only [lwL, h, ne_eq, not_false_eq_true, true_and, h2, if_false] at ih
        exact ih
  · refine ru_fin hV 5 [(1, 0)] rfl rfl ⟨trivial, (by decide)⟩ ?_
    exact ⟨rfl, rfl, rfl⟩
/-- the greatest grade, and one more; 0: none -/
def hgL (f : Nat → Int64) : Nat → Nat
  | 0 => 0
  | k + 1 => if f k ≠ 0 ∧ hgL f k < pc5 k + 1 then pc5 k + 1 else hgL f k
theorem hgL_le (f : Nat → Int64) : ∀ k, hgL f k ≤ 6
  | 0 => Nat.zero_le 6
  | k + 1 => by
    rw [hgL]
    have := pc5_le k
    have := hgL_le f k
    split <;> omega
theorem hg_cmp : ∀ p, p < 6 → ∀ h, h < 7 → (nI p ≤ nI h - 1 ↔ ¬ h < p + 1) := by decide +kernel
theorem qL_high (l : Launch) {a : Nat} (ha : a + 32 ≤ 64) (I : IM) (L : LM) : KL_high l [.ref 181, .int (nI a)] I L (some (.int (nI (hgL (fun q => L 181 (a + q)) 32) - 1))) I L := by
  refine wL_high l rfl (hz0 (by decide)) (fun V hV => ?_)
  refine ru_go hV 4 [] rfl rfl trivial ?_
  refine loop0 (P := fun k => V 4 [(0, .ref 181), (1, .int (nI a)), (2, .int (nI (hgL (fun q => L 181 (a + q)) k) - 1)), (3, .int (nI k))] [] I L) 32 (fun h => h) (fun k hk ih => ?_) ?_
  · have h9 := hgL_le (fun q => L 181 (a + q)) k
    have h5 := pc5_le k
    have hc := hg_cmp (pc5 k) (by omega) (hgL (fun q => L 181 (a + q)) k) (by omega)
    by_cases h : L 181 (a + k) = 0
    · refine ru_go hV 13 [(0, 0), ((a+k), 64), (1, 0)] rfl rfl ⟨⟨⟨trivial, nI32_ge hk⟩, ⟨rfl, nI_add a k, by omega⟩⟩, (lg_cmp0 _ _).mpr h⟩ ?_
      rw [nI_1]
      simp only [hgL, h, ne_eq, not_true_eq_false, false_and, if_false] at ih
      exact ih
    · refine ru_go hV 12 [(0, 0), ((a+k), 64), (0, 0)] rfl rfl ⟨⟨⟨trivial, nI32_ge hk⟩, ⟨rfl, nI_add a k, by omega⟩⟩, (fun e => h ((lg_cmp0 _ _).mp e))⟩ ?_
      refine ru_S hV [] sSL_38 (qL_grade l hk I _) rfl rfl rfl (Nat.le_of_ble_eq_true rfl) ?_
      by_cases h2 : hgL (fun q => L 181 (a + q)) k < pc5 k + 1
      · refine ru_go hV 3 [(0, 0)] rfl rfl ⟨trivial, (fun e => hc.mp e h2)⟩ ?_
        refine ru_S hV [] sSL_38 (qL_grade l hk I _) rfl rfl rfl (Nat.le_of_ble_eq_true rfl) ?_
        refine ru_go hV 3 [] rfl rfl trivial ?_
        rw [nI_1]
        simp only [hgL, h, ne_eq, not_false_eq_true, true_and, h2, if_true] at ih
        rw [← nI_1, Int32.add_sub_cancel] at ih
        exact ih
      · refine ru_go hV 4 [(1, 0)] rfl rfl ⟨trivial, hc.mpr h2⟩ ?_
        rw [nI_1]
        simp only [hgL, h, ne_eq, not_false_eq_true, true_and, h2, if_false] at ih
        exact ih
  · refine ru_fin hV 5 [(1, 0)] rfl rfl ⟨trivial, (by decide)⟩ ?_
    exact ⟨rfl, rfl, rfl⟩
def mxL (f : Nat → Int64) : Nat → Int64
  | 0 => 0
  | k + 1 => if mxL f k < f k then f k else if mxL f k < -f k then -f k else mxL f k
theorem qL_most (l : Launch) {a : Nat} (ha : a + 32 ≤ 64) (I : IM) (L : LM) : KL_most l [.ref 181, .int (nI a)] I L (some (.long (mxL (fun q => L 181 (a + q)) 32))) I L := by
  refine wL_most l rfl (hz0 (by decide)) (fun V hV => ?_)
  refine ru_go hV 4 [] rfl rfl trivial ?_
  refine loop0 (P := fun k => V 5 [(0, .ref 181), (1, .int (nI a)), (2, .long (mxL (fun q => L 181 (a + q)) k)), (4, .int (nI k))] [] I L) 32 (fun h => h) (fun k hk ih => ?_) ?_
  · by_cases h : mxL (fun q => L 181 (a + q)) k < L 181 (a + k)
    · refine ru_go hV 20 [(0, 0), ((a+k), 64), (0, 0), ((a+k), 64)] rfl rfl ⟨⟨⟨⟨trivial, nI32_ge hk⟩, ⟨rfl, nI_add a k, by omega⟩⟩, (fun e => lgc_le.mp e h)⟩, ⟨rfl, nI_add a k, by omega⟩⟩ ?_
      rw [nI_1]
      simp only [mxL, h, if_true] at ih
      exact ih
    · by_cases h2 : mxL (fun q => L 181 (a + q)) k < -L 181 (a + k)
      · refine ru_go hV 30 [(0, 0), ((a+k), 64), (1, 0), ((a+k), 64), (0, 0), ((a+k), 64)] rfl rfl ⟨⟨⟨⟨⟨⟨trivial, nI32_ge hk⟩, ⟨rfl, nI_add a k, by omega⟩⟩, lgc_le.mpr h⟩, ⟨rfl, nI_add a k, by omega⟩⟩, (fun e => lgc_le.mp e h2)⟩, ⟨rfl, nI_add a k, by omega⟩⟩ ?_
        rw [nI_1]
        simp only [mxL, h, if_false, h2, if_true] at ih
        exact ih
      · refine ru_go hV 24 [(0, 0), ((a+k), 64), (1, 0), ((a+k), 64), (1, 0)] rfl rfl ⟨⟨⟨⟨⟨trivial, nI32_ge hk⟩, ⟨rfl, nI_add a k, by omega⟩⟩, lgc_le.mpr h⟩, ⟨rfl, nI_add a k, by omega⟩⟩, lgc_le.mpr h2⟩ ?_
        rw [nI_1]
        simp only [mxL, h, h2, if_false] at ih
        exact ih
  · refine ru_fin hV 5 [(1, 0)] rfl rfl ⟨trivial, (by decide)⟩ ?_
    exact ⟨rfl, rfl, rfl⟩
