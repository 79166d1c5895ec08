theorem qJ9_abs (l : Launch) (x : Int32) (I : IM) (L : LM) : KJ9_abs_0f7a4 l [.int x] I L (some (.int (iabs x))) I L := by
  refine wJ9_abs_0f7a4 l rfl (hz0 (by decide)) (fun V hV => ?_)
  by_cases h : x < 0
  · refine ru_fin hV 6 [(0, 0)] rfl rfl ⟨trivial, (fun e => absurd h (Int32.not_lt.mpr e))⟩ ?_
    exact ⟨by simp [iabs, h], rfl, rfl⟩
  · refine ru_fin hV 4 [(1, 0)] rfl rfl ⟨trivial, Int32.not_lt.mp h⟩ ?_
    exact ⟨by simp [iabs, h], rfl, rfl⟩
theorem qJ9_max (l : Launch) (x y : Int32) (I : IM) (L : LM) : KJ9_max_7cf53 l [.int x, .int y] I L (some (.int (imax x y))) I L := by
  refine wJ9_max_7cf53 l rfl (hz0 (by decide)) (fun V hV => ?_)
  by_cases h : x < y
  · refine ru_fin hV 5 [(1, 0)] rfl rfl ⟨trivial, h⟩ ?_
    exact ⟨by simp [imax, h], rfl, rfl⟩
  · refine ru_fin hV 6 [(0, 0)] rfl rfl ⟨trivial, h⟩ ?_
    exact ⟨by simp [imax, h], rfl, rfl⟩
theorem qX2_countNonzero (l : Launch) {c : Nat} (hc : kdC c = (1, 32, 0)) (I : IM) (L : LM) : KX2_countNonzero l [.ref c] I L (some (.int (nI (cnz (I c) 32)))) I L := by
  refine wX2_countNonzero l rfl (hz0 (by decide)) (fun V hV => ?_)
  refine ru_go hV 4 [] rfl rfl trivial ?_
  refine loop0 (P := fun i => V 4 [(0, .ref c), (1, .int (nI (cnz (I c) i))), (2, .int (nI i))] [] I L) 32 (fun h => h) (fun i hi ih => ?_) ?_
  · by_cases h0 : I c i = 0
    · refine ru_go hV 9 [(0, 0), (i, 32), (1, 0)] rfl rfl ⟨⟨⟨trivial, nI32_ge hi⟩, (by first | exact rfl | assumption | exact ⟨rfl, rfl⟩ | exact ⟨rfl, rfl, by omega⟩ | exact ⟨by assumption, rfl, by omega⟩ | exact ⟨⟨_, rfl, rfl⟩, by decide, by decide, rfl, by omega⟩ | omega | decide)⟩, (by first | exact rfl | assumption | exact ⟨rfl, rfl⟩ | exact ⟨rfl, rfl, by omega⟩ | exact ⟨by assumption, rfl, by omega⟩ | exact ⟨⟨_, rfl, rfl⟩, by decide, by decide, rfl, by omega⟩ | omega | decide)⟩ ?_
      rw [nI_1, show cnz (I c) i = cnz (I c) (i + 1) by simp [cnz, h0]]
      exact ih
    · refine ru_go hV 10 [(0, 0), (i, 32), (0, 0)] rfl rfl ⟨⟨⟨trivial, nI32_ge hi⟩, (by first | exact rfl | assumption | exact ⟨rfl, rfl⟩ | exact ⟨rfl, rfl, by omega⟩ | exact ⟨by assumption, rfl, by omega⟩ | exact ⟨⟨_, rfl, rfl⟩, by decide, by decide, rfl, by omega⟩ | omega | decide)⟩, (by first | exact rfl | assumption | exact ⟨rfl, rfl⟩ | exact ⟨rfl, rfl, by omega⟩ | exact ⟨by assumption, rfl, by omega⟩ | exact ⟨⟨_, rfl, rfl⟩, by decide, by decide, rfl, by omega⟩ | omega | decide)⟩ ?_
      rw [nI_1, nI_1, show cnz (I c) i + 1 = cnz (I c) (i + 1) by simp [cnz, h0]]
      exact ih
  · refine ru_fin hV 5 [(1, 0)] rfl rfl ⟨trivial, (by first | exact rfl | assumption | exact ⟨rfl, rfl⟩ | exact ⟨rfl, rfl, by omega⟩ | exact ⟨by assumption, rfl, by omega⟩ | exact ⟨⟨_, rfl, rfl⟩, by decide, by decide, rfl, by omega⟩ | omega | decide)⟩ ?_
    exact ⟨rfl, rfl, rfl⟩
theorem qX2_lowestGrade (l : Launch) {c : Nat} (hc : kdC c = (1, 32, 0)) (I : IM) (L : LM) : KX2_lowestGrade l [.ref c] I L (some (.int (loF (I c) 32))) I L := by
  refine wX2_lowestGrade l rfl (hz0 (by decide)) (fun V hV => ?_)
  refine ru_go hV 4 [] rfl rfl trivial ?_
  refine loop0 (P := fun i => V 5 [(0, .ref c), (1, .int (loF (I c) i)), (2, .int (nI i))] [] I L) 32 (fun h => h) (fun i hi ih => ?_) ?_
  · by_cases h0 : I c i = 0
    · refine ru_go hV 9 [(0, 0), (i, 32), (1, 0)] rfl rfl ⟨⟨⟨trivial, nI32_ge hi⟩, (by first | exact rfl | assumption | exact ⟨rfl, rfl⟩ | exact ⟨rfl, rfl, by omega⟩ | exact ⟨by assumption, rfl, by omega⟩ | exact ⟨⟨_, rfl, rfl⟩, by decide, by decide, rfl, by omega⟩ | omega | decide)⟩, (by first | exact rfl | assumption | exact ⟨rfl, rfl⟩ | exact ⟨rfl, rfl, by omega⟩ | exact ⟨by assumption, rfl, by omega⟩ | exact ⟨⟨_, rfl, rfl⟩, by decide, by decide, rfl, by omega⟩ | omega | decide)⟩ ?_
      rw [nI_1, show loF (I c) i = loF (I c) (i + 1) by simp [loF, h0]]
      exact ih
    · by_cases h1 : loF (I c) i = NON
      · refine ru_go hV 11 [(0, 0), (i, 32), (0, 0), (1, 0)] rfl rfl ⟨⟨⟨⟨trivial, nI32_ge hi⟩, (by first | exact rfl | assumption | exact ⟨rfl, rfl⟩ | exact ⟨rfl, rfl, by omega⟩ | exact ⟨by assumption, rfl, by omega⟩ | exact ⟨⟨_, rfl, rfl⟩, by decide, by decide, rfl, by omega⟩ | omega | decide)⟩, (by first | exact rfl | assumption | exact ⟨rfl, rfl⟩ | exact ⟨rfl, rfl, by omega⟩ | exact ⟨by assumption, rfl, by omega⟩ | exact ⟨⟨_, rfl, rfl⟩, by decide, by decide, rfl, by omega⟩ | omega | decide)⟩, (by first | exact rfl | assumption | exact ⟨rfl, rfl⟩ | exact ⟨rfl, rfl, by omega⟩ | exact ⟨by assumption, rfl, by omega⟩ | exact ⟨⟨_, rfl, rfl⟩, by decide, by decide, rfl, by omega⟩ | omega | decide)⟩ ?_
        refine ru_S hV [] sSX2_37 (qJ6_bitCount l hi I L) rfl rfl rfl (Nat.le_of_ble_eq_true rfl) ?_
        refine ru_go hV 3 [] rfl rfl trivial ?_
        rw [nI_1, show nI (pc5 i) = loF (I c) (i + 1) by simp [loF, h0, h1]]
        exact ih
      · refine ru_go hV 11 [(0, 0), (i, 32), (0, 0), (0, 0)] rfl rfl ⟨⟨⟨⟨trivial, nI32_ge hi⟩, (by first | exact rfl | assumption | exact ⟨rfl, rfl⟩ | exact ⟨rfl, rfl, by omega⟩ | exact ⟨by assumption, rfl, by omega⟩ | exact ⟨⟨_, rfl, rfl⟩, by decide, by decide, rfl, by omega⟩ | omega | decide)⟩, (by first | exact rfl | assumption | exact ⟨rfl, rfl⟩ | exact ⟨rfl, rfl, by omega⟩ | exact ⟨by assumption, rfl, by omega⟩ | exact ⟨⟨_, rfl, rfl⟩, by decide, by decide, rfl, by omega⟩ | omega | decide)⟩, (by first | exact rfl | assumption | exact ⟨rfl, rfl⟩ | exact ⟨rfl, rfl, by omega⟩ | exact ⟨by assumption, rfl, by omega⟩ | exact ⟨⟨_, rfl, rfl⟩, by decide, by decide, rfl, by omega⟩ | omega | decide)⟩ ?_
        refine ru_S hV [] sSX2_37 (qJ6_bitCount l hi I L) rfl rfl rfl (Nat.le_of_ble_eq_true rfl) ?_
        by_cases h2 : nI (pc5 i) < loF (I c) i
        · refine ru_go hV 3 [(0, 0)] rfl rfl ⟨trivial, (fun e => absurd h2 (Int32.not_lt.mpr e))⟩ ?_
          refine ru_S hV [] sSX2_37 (qJ6_bitCount l hi I L) rfl rfl rfl (Nat.le_of_ble_eq_true rfl) ?_
          refine ru_go hV 3 [] rfl rfl trivial ?_
          rw [nI_1, show nI (pc5 i) = loF (I c) (i + 1) by simp [loF, h0, h2]]
          exact ih
        · refine ru_go hV 4 [(1, 0)] rfl rfl ⟨trivial, Int32.not_lt.mp h2⟩ ?_
          rw [nI_1, show loF (I c) i = loF (I c) (i + 1) by rw [loF, if_neg (fun z => z.2.elim h1 h2)]]
          exact ih
  · refine ru_fin hV 5 [(1, 0)] rfl rfl ⟨trivial, (by first | exact rfl | assumption | exact ⟨rfl, rfl⟩ | exact ⟨rfl, rfl, by omega⟩ | exact ⟨by assumption, rfl, by omega⟩ | exact ⟨⟨_, rfl, rfl⟩, by decide, by decide, rfl, by omega⟩ | omega | decide)⟩ ?_
    exact ⟨rfl, rfl, rfl⟩
theorem qX2_highestGrade (l : Launch) {c : Nat} (hc : kdC c = (1, 32, 0)) (I : IM) (L : LM) : KX2_highestGrade l [.ref c] I L (some (.int (hiF (I c) 32))) I L := by
  refine wX2_highestGrade l rfl (hz0 (by decide)) (fun V hV => ?_)
  refine ru_go hV 4 [] rfl rfl trivial ?_
  refine loop0 (P := fun i => V 5 [(0, .ref c), (1, .int (hiF (I c) i)), (2, .int (nI i))] [] I L) 32 (fun h => h) (fun i hi ih => ?_) ?_
  · by_cases h0 : I c i = 0
    · refine ru_go hV 9 [(0, 0), (i, 32), (1, 0)] rfl rfl ⟨⟨⟨trivial, nI32_ge hi⟩, (by first | exact rfl | assumption | exact ⟨rfl, rfl⟩ | exact ⟨rfl, rfl, by omega⟩ | exact ⟨by assumption, rfl, by omega⟩ | exact ⟨⟨_, rfl, rfl⟩, by decide, by decide, rfl, by omega⟩ | omega | decide)⟩, (by first | exact rfl | assumption | exact ⟨rfl, rfl⟩ | exact ⟨rfl, rfl, by omega⟩ | exact ⟨by assumption, rfl, by omega⟩ | exact ⟨⟨_, rfl, rfl⟩, by decide, by decide, rfl, by omega⟩ | omega | decide)⟩ ?_
      rw [nI_1, show hiF (I c) i = hiF (I c) (i + 1) by simp [hiF, h0]]
      exact ih
    · refine ru_go hV 8 [(0, 0), (i, 32), (0, 0)] rfl rfl ⟨⟨⟨trivial, nI32_ge hi⟩, (by first | exact rfl | assumption | exact ⟨rfl, rfl⟩ | exact ⟨rfl, rfl, by omega⟩ | exact ⟨by assumption, rfl, by omega⟩ | exact ⟨⟨_, rfl, rfl⟩, by decide, by decide, rfl, by omega⟩ | omega | decide)⟩, (by first | exact rfl | assumption | exact ⟨rfl, rfl⟩ | exact ⟨rfl, rfl, by omega⟩ | exact ⟨by assumption, rfl, by omega⟩ | exact ⟨⟨_, rfl, rfl⟩, by decide, by decide, rfl, by omega⟩ | omega | decide)⟩ ?_
      refine ru_S hV [] sSX2_37 (qJ6_bitCount l hi I L) rfl rfl rfl (Nat.le_of_ble_eq_true rfl) ?_
      by_cases h2 : hiF (I c) i < nI (pc5 i)
      · refine ru_go hV 3 [(0, 0)] rfl rfl ⟨trivial, (fun e => absurd h2 (Int32.not_lt.mpr e))⟩ ?_
        refine ru_S hV [] sSX2_37 (qJ6_bitCount l hi I L) rfl rfl rfl (Nat.le_of_ble_eq_true rfl) ?_
        refine ru_go hV 3 [] rfl rfl trivial ?_
        rw [nI_1, show nI (pc5 i) = hiF (I c) (i + 1) by simp [hiF, h0, h2]]
        exact ih
      · refine ru_go hV 4 [(1, 0)] rfl rfl ⟨trivial, Int32.not_lt.mp h2⟩ ?_
        rw [nI_1, show hiF (I c) i = hiF (I c) (i + 1) by rw [hiF, if_neg (fun z => h2 z.2)]]
        exact ih
  · refine ru_fin hV 5 [(1, 0)] rfl rfl ⟨trivial, (by first | exact rfl | assumption | exact ⟨rfl, rfl⟩ | exact ⟨rfl, rfl, by omega⟩ | exact ⟨by assumption, rfl, by omega⟩ | exact ⟨⟨_, rfl, rfl⟩, by decide, by decide, rfl, by omega⟩ | omega | decide)⟩ ?_
    exact ⟨rfl, rfl, rfl⟩
theorem qX2_gradeOf (l : Launch) {c : Nat} (hc : kdC c = (1, 32, 0)) (I : IM) (L : LM) : KX2_gradeOf l [.ref c] I L (some (.int (grF (I c) 32))) I L := by
  refine wX2_gradeOf l rfl (hz0 (by decide)) (fun V hV => ?_)
  refine ru_go hV 1 [] rfl rfl trivial ?_
  refine ru_S hV [] sSX2_18 (qX2_lowestGrade l hc I L) rfl rfl rfl (Nat.le_of_ble_eq_true rfl) ?_
  refine ru_go hV 3 [] rfl rfl trivial ?_
  refine ru_S hV [.int _] sSX2_21 (qX2_highestGrade l hc I L) rfl rfl rfl (Nat.le_of_ble_eq_true rfl) ?_
  by_cases h : loF (I c) 32 = hiF (I c) 32
  · refine ru_fin hV 4 [(0, 0)] rfl rfl ⟨trivial, (fun e => e h)⟩ ?_
    exact ⟨by simp [grF, h], rfl, rfl⟩
  · refine ru_fin hV 3 [(1, 0)] rfl rfl ⟨trivial, h⟩ ?_
    exact ⟨by simp [grF, h], rfl, rfl⟩
theorem qX2_greatestSize (l : Launch) {c : Nat} (hc : kdC c = (1, 32, 0)) (I : IM) (L : LM) : KX2_greatestSize l [.ref c] I L (some (.int (gmF (I c) 32))) I L := by
  refine wX2_greatestSize l rfl (hz0 (by decide)) (fun V hV => ?_)
  refine ru_go hV 4 [] rfl rfl trivial ?_
  refine loop0 (P := fun i => V 4 [(0, .ref c), (1, .int (gmF (I c) i)), (2, .int (nI i))] [] I L) 32 (fun h => h) (fun i hi ih => ?_) ?_
  · refine ru_go hV 7 [(0, 0), (i, 32)] rfl rfl ⟨⟨trivial, nI32_ge hi⟩, (by first | exact rfl | assumption | exact ⟨rfl, rfl⟩ | exact ⟨rfl, rfl, by omega⟩ | exact ⟨by assumption, rfl, by omega⟩ | exact ⟨⟨_, rfl, rfl⟩, by decide, by decide, rfl, by omega⟩ | omega | decide)⟩ ?_
    refine ru_S hV [.int _] sSX2_43 (qJ9_abs l (I c i) I L) rfl rfl rfl (Nat.le_of_ble_eq_true rfl) ?_
    refine ru_S hV [] sSX2_48 (qJ9_max l (gmF (I c) i) (iabs (I c i)) I L) rfl rfl rfl (Nat.le_of_ble_eq_true rfl) ?_
    refine ru_go hV 3 [] rfl rfl trivial ?_
    rw [nI_1]
    exact ih
  · refine ru_fin hV 5 [(1, 0)] rfl rfl ⟨trivial, (by first | exact rfl | assumption | exact ⟨rfl, rfl⟩ | exact ⟨rfl, rfl, by omega⟩ | exact ⟨by assumption, rfl, by omega⟩ | exact ⟨⟨_, rfl, rfl⟩, by decide, by decide, rfl, by omega⟩ | omega | decide)⟩ ?_
    exact ⟨rfl, rfl, rfl⟩
theorem qX2_leadOf (l : Launch) {c : Nat} (hc : kdC c = (1, 32, 0)) (I : IM) (L : LM) : KX2_leadOf l [.ref c] I L (some (.int (ldI (I c) 32))) I L := by
  refine wX2_leadOf l rfl (hz0 (by decide)) (fun V hV => ?_)
  refine ru_go hV 2 [] rfl rfl trivial ?_
  refine loop0 (P := fun i => (∀ j, j < i → I c j = 0) → V 2 [(0, .ref c), (1, .int (nI i))] [] I L) 32 (fun h => h (fun j hj => absurd hj (Nat.not_lt_zero j))) (fun i hi ih hz => ?_) (fun hz => ?_)
  · by_cases h0 : I c i = 0
    · refine ru_go hV 9 [(0, 0), (i, 32), (1, 0)] rfl rfl ⟨⟨⟨trivial, nI32_ge hi⟩, (by first | exact rfl | assumption | exact ⟨rfl, rfl⟩ | exact ⟨rfl, rfl, by omega⟩ | exact ⟨by assumption, rfl, by omega⟩ | exact ⟨⟨_, rfl, rfl⟩, by decide, by decide, rfl, by omega⟩ | omega | decide)⟩, (by first | exact rfl | assumption | exact ⟨rfl, rfl⟩ | exact ⟨rfl, rfl, by omega⟩ | exact ⟨by assumption, rfl, by omega⟩ | exact ⟨⟨_, rfl, rfl⟩, by decide, by decide, rfl, by omega⟩ | omega | decide)⟩ ?_
      rw [nI_1]
      exact ih (fun j hj => by
        rcases Nat.lt_or_ge j i with q | q
        · exact hz j q
        · rw [show j = i by omega]; exact h0)
    · refine ru_fin hV 9 [(0, 0), (i, 32), (0, 0)] rfl rfl ⟨⟨⟨trivial, nI32_ge hi⟩, (by first | exact rfl | assumption | exact ⟨rfl, rfl⟩ | exact ⟨rfl, rfl, by omega⟩ | exact ⟨by assumption, rfl, by omega⟩ | exact ⟨⟨_, rfl, rfl⟩, by decide, by decide, rfl, by omega⟩ | omega | decide)⟩, (by first | exact rfl | assumption | exact ⟨rfl, rfl⟩ | exact ⟨rfl, rfl, by omega⟩ | exact ⟨by assumption, rfl, by omega⟩ | exact ⟨⟨_, rfl, rfl⟩, by decide, by decide, rfl, by omega⟩ | omega | decide)⟩ ?_
      exact ⟨by rw [ldI, ldO_of h0 hz 32 hi]; rfl, rfl, rfl⟩
  · refine ru_fin hV 5 [(1, 0)] rfl rfl ⟨trivial, (by first | exact rfl | assumption | exact ⟨rfl, rfl⟩ | exact ⟨rfl, rfl, by omega⟩ | exact ⟨by assumption, rfl, by omega⟩ | exact ⟨⟨_, rfl, rfl⟩, by decide, by decide, rfl, by omega⟩ | omega | decide)⟩ ?_
    exact ⟨by rw [ldI, ldO_of_none 32 hz]; rfl, rfl, rfl⟩
theorem qX2_leadCoefficient (l : Launch) {c : Nat} (hc : kdC c = (1, 32, 0)) (I : IM) (L : LM) : KX2_leadCoefficient l [.ref c] I L (some (.int (lcI (I c) 32))) I L := by
  refine wX2_leadCoefficient l rfl (hz0 (by decide)) (fun V hV => ?_)
  refine ru_go hV 1 [] rfl rfl trivial ?_
  refine ru_S hV [] sSX2_27 (qX2_leadOf l hc I L) rfl rfl rfl (Nat.le_of_ble_eq_true rfl) ?_
  cases h : ldO (I c) 32 with
  | some k =>
    obtain ⟨h1, h2⟩ := ldO_some h
    rw [show ldI (I c) 32 = nI k by simp [ldI, h]]
    refine ru_fin hV 8 [(0, 0), (k, 32)] rfl rfl ⟨⟨trivial, nI_nn (by omega)⟩, (by first | exact rfl | assumption | exact ⟨rfl, rfl⟩ | exact ⟨rfl, rfl, by omega⟩ | exact ⟨by assumption, rfl, by omega⟩ | exact ⟨⟨_, rfl, rfl⟩, by decide, by decide, rfl, by omega⟩ | omega | decide)⟩ ?_
    exact ⟨by simp [lcI, h], rfl, rfl⟩
  | none =>
    rw [show ldI (I c) 32 = NON by simp [ldI, h]]
    refine ru_fin hV 5 [(1, 0)] rfl rfl ⟨trivial, (by first | exact rfl | assumption | exact ⟨rfl, rfl⟩ | exact ⟨rfl, rfl, by omega⟩ | exact ⟨by assumption, rfl, by omega⟩ | exact ⟨⟨_, rfl, rfl⟩, by decide, by decide, rfl, by omega⟩ | omega | decide)⟩ ?_
    exact ⟨by simp [lcI, h], rfl, rfl⟩
theorem drF_lt {f : Nat → Int32} : ∀ n, n ≤ 32 → drF f n < 32
  | 0, _ => (by decide : 0 < 32)
  | n + 1, h => by
    have h1 := drF_lt n (by omega) (f := f)
    unfold drF
    split
    · exact h1
    · exact or_lt _ h1 n (by omega)
theorem qX2_directionsOf (l : Launch) {c : Nat} (hc : kdC c = (1, 32, 0)) (I : IM) (L : LM) : KX2_directionsOf l [.ref c] I L (some (.int (nI (drF (I c) 32)))) I L := by
  refine wX2_directionsOf l rfl (hz0 (by decide)) (fun V hV => ?_)
  refine ru_go hV 4 [] rfl rfl trivial ?_
  refine loop0 (P := fun i => V 4 [(0, .ref c), (1, .int (nI (drF (I c) i))), (2, .int (nI i))] [] I L) 32 (fun h => h) (fun i hi ih => ?_) ?_
  · by_cases h0 : I c i = 0
    · refine ru_go hV 9 [(0, 0), (i, 32), (1, 0)] rfl rfl ⟨⟨⟨trivial, nI32_ge hi⟩, (by first | exact rfl | assumption | exact ⟨rfl, rfl⟩ | exact ⟨rfl, rfl, by omega⟩ | exact ⟨by assumption, rfl, by omega⟩ | exact ⟨⟨_, rfl, rfl⟩, by decide, by decide, rfl, by omega⟩ | omega | decide)⟩, (by first | exact rfl | assumption | exact ⟨rfl, rfl⟩ | exact ⟨rfl, rfl, by omega⟩ | exact ⟨by assumption, rfl, by omega⟩ | exact ⟨⟨_, rfl, rfl⟩, by decide, by decide, rfl, by omega⟩ | omega | decide)⟩ ?_
      rw [nI_1, show drF (I c) i = drF (I c) (i + 1) by simp [drF, h0]]
      exact ih
    · refine ru_go hV 13 [(0, 0), (i, 32), (0, 0)] rfl rfl ⟨⟨⟨trivial, nI32_ge hi⟩, (by first | exact rfl | assumption | exact ⟨rfl, rfl⟩ | exact ⟨rfl, rfl, by omega⟩ | exact ⟨by assumption, rfl, by omega⟩ | exact ⟨⟨_, rfl, rfl⟩, by decide, by decide, rfl, by omega⟩ | omega | decide)⟩, (by first | exact rfl | assumption | exact ⟨rfl, rfl⟩ | exact ⟨rfl, rfl, by omega⟩ | exact ⟨by assumption, rfl, by omega⟩ | exact ⟨⟨_, rfl, rfl⟩, by decide, by decide, rfl, by omega⟩ | omega | decide)⟩ ?_
      rw [nI_1, orI _ (drF_lt i (by omega)) i hi, show drF (I c) i ||| i = drF (I c) (i + 1) by simp [drF, h0]]
      exact ih
  · refine ru_fin hV 5 [(1, 0)] rfl rfl ⟨trivial, (by first | exact rfl | assumption | exact ⟨rfl, rfl⟩ | exact ⟨rfl, rfl, by omega⟩ | exact ⟨by assumption, rfl, by omega⟩ | exact ⟨⟨_, rfl, rfl⟩, by decide, by decide, rfl, by omega⟩ | omega | decide)⟩ ?_
    exact ⟨rfl, rfl, rfl⟩
/-- the properties of a form, by their numbers -/
def prF (f : Nat → Int32) (n : Nat) (k : Nat) : Int32 := match k with
  | 0 => nI (cnz f n)
  | 1 => grF f n
  | 2 => loF f n
  | 3 => hiF f n
  | 4 => gmF f n
  | 5 => ldI f n
  | 6 => lcI f n
  | _ => nI (drF f n)
theorem qX2_property (l : Launch) {c k : Nat} (hc : kdC c = (1, 32, 0)) (hk : k < 8) (I : IM) (L : LM) : KX2_property l [.ref c, .int (nI k)] I L (some (.int (prF (I c) 32 k))) I L := by
  refine wX2_property l rfl (hz0 (by decide)) (fun V hV => ?_)
  refine ru_go hV 1 [] rfl rfl trivial ?_
  have sw := fun (tgt : Nat) h1 h2 h3 => ru_sw hV (tgt := tgt) swX2_property_1 h1 h2 h3 (x := nI k) (rest := []) (lv := [(0, .ref c), (1, .int (nI k))]) (I := I) (L := L)
  have hk2 : (nI k).toInt = (k : Int) := nI_toInt (by omega)
  match k, hk with
  | 0, _ =>
    refine sw 44 (by decide) (fun _ _ => ⟨43, by decide, by decide⟩) ?_
    refine ru_go hV 1 [] rfl rfl trivial ?_
    refine ru_S hV [] sSX2_9 (qX2_countNonzero l hc I L) rfl rfl rfl (Nat.le_of_ble_eq_true rfl) ?_
    refine ru_fin hV 1 [] rfl rfl trivial ?_
    exact ⟨rfl, rfl, rfl⟩
  | 1, _ =>
    refine sw 49 (by decide) (fun _ _ => ⟨48, by decide, by decide⟩) ?_
    refine ru_go hV 1 [] rfl rfl trivial ?_
    refine ru_S hV [] sSX2_15 (qX2_gradeOf l hc I L) rfl rfl rfl (Nat.le_of_ble_eq_true rfl) ?_
    refine ru_fin hV 1 [] rfl rfl trivial ?_
    exact ⟨rfl, rfl, rfl⟩
  | 2, _ =>
    refine sw 54 (by decide) (fun _ _ => ⟨53, by decide, by decide⟩) ?_
    refine ru_go hV 1 [] rfl rfl trivial ?_
    refine ru_S hV [] sSX2_18 (qX2_lowestGrade l hc I L) rfl rfl rfl (Nat.le_of_ble_eq_true rfl) ?_
    refine ru_fin hV 1 [] rfl rfl trivial ?_
    exact ⟨rfl, rfl, rfl⟩
  | 3, _ =>
    refine sw 59 (by decide) (fun _ _ => ⟨58, by decide, by decide⟩) ?_
    refine ru_go hV 1 [] rfl rfl trivial ?_
    refine ru_S hV [] sSX2_21 (qX2_highestGrade l hc I L) rfl rfl rfl (Nat.le_of_ble_eq_true rfl) ?_
    refine ru_fin hV 1 [] rfl rfl trivial ?_
    exact ⟨rfl, rfl, rfl⟩
  | 4, _ =>
    refine sw 64 (by decide) (fun _ _ => ⟨63, by decide, by decide⟩) ?_
    refine ru_go hV 1 [] rfl rfl trivial ?_
    refine ru_S hV [] sSX2_24 (qX2_greatestSize l hc I L) rfl rfl rfl (Nat.le_of_ble_eq_true rfl) ?_
    refine ru_fin hV 1 [] rfl rfl trivial ?_
    exact ⟨rfl, rfl, rfl⟩
  | 5, _ =>
    refine sw 69 (by decide) (fun _ _ => ⟨68, by decide, by decide⟩) ?_
    refine ru_go hV 1 [] rfl rfl trivial ?_
    refine ru_S hV [] sSX2_27 (qX2_leadOf l hc I L) rfl rfl rfl (Nat.le_of_ble_eq_true rfl) ?_
    refine ru_fin hV 1 [] rfl rfl trivial ?_
    exact ⟨rfl, rfl, rfl⟩
  | 6, _ =>
    refine sw 74 (by decide) (fun _ _ => ⟨73, by decide, by decide⟩) ?_
    refine ru_go hV 1 [] rfl rfl trivial ?_
    refine ru_S hV [] sSX2_30 (qX2_leadCoefficient l hc I L) rfl rfl rfl (Nat.le_of_ble_eq_true rfl) ?_
    refine ru_fin hV 1 [] rfl rfl trivial ?_
    exact ⟨rfl, rfl, rfl⟩
  | 7, _ =>
    refine sw 79 (by decide) (fun _ h => absurd (by decide) h) ?_
    refine ru_go hV 1 [] rfl rfl trivial ?_
    refine ru_S hV [] sSX2_33 (qX2_directionsOf l hc I L) rfl rfl rfl (Nat.le_of_ble_eq_true rfl) ?_
    refine ru_fin hV 1 [] rfl rfl trivial ?_
    exact ⟨rfl, rfl, rfl⟩
