/-! the reference: what is told of one form -/
theorem qX8_many (l : Launch) {s n : Nat} (hs : s < 8) (hn : n ≤ 5) {I : IM} (hd : I 1 0 = nI n) (L : LM) : KX8_many l [.ref 0, .int (nI s)] I L (some (.int (nI (cnz (frR I s) (2 ^ n))))) I L := by
  obtain ⟨hB, -⟩ := pow_le32 n hn
  have hbl := qX8_blades l hn hd L
  generalize 2 ^ n = B at hB hbl ⊢
  refine wX8_many l rfl (hz0 (by decide)) (fun V hV => ?_)
  refine ru_go hV 4 [] rfl rfl trivial ?_
  refine loop0 (P := fun k => V 4 [(0, .ref 0), (1, .int (nI s)), (2, .int (nI (cnz (frR I s) k))), (3, .int (nI k))] [] I L) B (fun h => h) (fun k hk ih => ?_) ?_
  · refine ru_go hV 2 [] rfl rfl trivial ?_
    refine ru_V hV [.int (nI k)] sVX8_58 hbl rfl rfl rfl rfl rfl (Nat.le_of_ble_eq_true rfl) ?_
    refine ru_go hV 5 [(0, 0)] rfl rfl ⟨trivial, nI_nge hk (by omega)⟩ ?_
    refine ru_V hV [.int _] sVX8_88 (qX8_at l hs (k := k) (by omega) I L) rfl rfl rfl rfl rfl (Nat.le_of_ble_eq_true rfl) ?_
    by_cases h : frR I s k = 0
    · refine ru_go hV 7 [(0, 0)] rfl rfl ⟨trivial, (fun e => e h)⟩ ?_
      rw [nI_1, Int32.add_zero]
      rw [show cnz (frR I s) (k + 1) = cnz (frR I s) k by simp [cnz, h]] at ih
      exact ih
    · refine ru_go hV 6 [(1, 0)] rfl rfl ⟨trivial, h⟩ ?_
      rw [nI_1, nI_1]
      rw [show cnz (frR I s) (k + 1) = cnz (frR I s) k + 1 by simp [cnz, h]] at ih
      exact ih
  · refine ru_go hV 2 [] rfl rfl trivial ?_
    refine ru_V hV [.int (nI B)] sVX8_58 hbl rfl rfl rfl rfl rfl (Nat.le_of_ble_eq_true rfl) ?_
    refine ru_fin hV 3 [(1, 0)] rfl rfl ⟨trivial, nI_le (Nat.le_refl B) (by omega)⟩ ?_
    exact ⟨rfl, rfl, rfl⟩
theorem qX8_lowest (l : Launch) {s n : Nat} (hs : s < 8) (hn : n ≤ 5) {I : IM} (hd : I 1 0 = nI n) (L : LM) : KX8_lowest l [.ref 0, .int (nI s)] I L (some (.int (loF (frR I s) (2 ^ n)))) I L := by
  obtain ⟨hB, -⟩ := pow_le32 n hn
  have hbl := qX8_blades l hn hd L
  generalize 2 ^ n = B at hB hbl ⊢
  refine wX8_lowest l rfl (hz0 (by decide)) (fun V hV => ?_)
  refine ru_go hV 4 [] rfl rfl trivial ?_
  refine loop0 (P := fun k => V 5 [(0, .ref 0), (1, .int (nI s)), (2, .int (loF (frR I s) k)), (3, .int (nI k))] [] I L) B (fun h => h) (fun k hk ih => ?_) ?_
  · have hgr := qX8_grade l (b := k) (by omega) I L
    refine ru_go hV 2 [] rfl rfl trivial ?_
    refine ru_V hV [.int (nI k)] sVX8_58 hbl rfl rfl rfl rfl rfl (Nat.le_of_ble_eq_true rfl) ?_
    refine ru_go hV 4 [(0, 0)] rfl rfl ⟨trivial, nI_nge hk (by omega)⟩ ?_
    refine ru_V hV [] sVX8_88 (qX8_at l hs (k := k) (by omega) I L) rfl rfl rfl rfl rfl (Nat.le_of_ble_eq_true rfl) ?_
    by_cases h : frR I s k = 0
    · refine ru_go hV 5 [(1, 0)] rfl rfl ⟨trivial, h⟩ ?_
      rw [nI_1]
      rw [show loF (frR I s) (k + 1) = loF (frR I s) k by simp [loF, h]] at ih
      exact ih
    · by_cases h2 : loF (frR I s) k = NON
      · refine ru_go hV 5 [(0, 0), (1, 0)] rfl rfl ⟨⟨trivial, h⟩, h2⟩ ?_
        refine ru_S hV [] sSX8_62 hgr rfl rfl rfl (Nat.le_of_ble_eq_true rfl) ?_
        refine ru_go hV 4 [] rfl rfl trivial ?_
        rw [nI_1]
        rw [show loF (frR I s) (k + 1) = nI (pc5 k) by simp [loF, h, h2]] at ih
        exact ih
      · refine ru_go hV 5 [(0, 0), (0, 0)] rfl rfl ⟨⟨trivial, h⟩, h2⟩ ?_
        refine ru_S hV [] sSX8_62 hgr rfl rfl rfl (Nat.le_of_ble_eq_true rfl) ?_
        by_cases h3 : nI (pc5 k) < loF (frR I s) k
        · refine ru_go hV 3 [(0, 0)] rfl rfl ⟨trivial, Int32.not_le.mpr h3⟩ ?_
          refine ru_S hV [] sSX8_62 hgr rfl rfl rfl (Nat.le_of_ble_eq_true rfl) ?_
          refine ru_go hV 4 [] rfl rfl trivial ?_
          rw [nI_1]
          rw [show loF (frR I s) (k + 1) = nI (pc5 k) by simp only [loF]; rw [if_pos ⟨h, Or.inr h3⟩]] at ih
          exact ih
        · refine ru_go hV 6 [(1, 0)] rfl rfl ⟨trivial, Int32.not_lt.mp h3⟩ ?_
          rw [nI_1]
          rw [show loF (frR I s) (k + 1) = loF (frR I s) k by simp only [loF]; rw [if_neg (fun e => e.2.elim h2 h3)]] at ih
          exact ih
  · refine ru_go hV 2 [] rfl rfl trivial ?_
    refine ru_V hV [.int (nI B)] sVX8_58 hbl rfl rfl rfl rfl rfl (Nat.le_of_ble_eq_true rfl) ?_
    refine ru_fin hV 3 [(1, 0)] rfl rfl ⟨trivial, nI_le (Nat.le_refl B) (by omega)⟩ ?_
    exact ⟨rfl, rfl, rfl⟩
theorem qX8_highest (l : Launch) {s n : Nat} (hs : s < 8) (hn : n ≤ 5) {I : IM} (hd : I 1 0 = nI n) (L : LM) : KX8_highest l [.ref 0, .int (nI s)] I L (some (.int (hiF (frR I s) (2 ^ n)))) I L := by
  obtain ⟨hB, -⟩ := pow_le32 n hn
  have hbl := qX8_blades l hn hd L
  generalize 2 ^ n = B at hB hbl ⊢
  refine wX8_highest l rfl (hz0 (by decide)) (fun V hV => ?_)
  refine ru_go hV 4 [] rfl rfl trivial ?_
  refine loop0 (P := fun k => V 5 [(0, .ref 0), (1, .int (nI s)), (2, .int (hiF (frR I s) k)), (3, .int (nI k))] [] I L) B (fun h => h) (fun k hk ih => ?_) ?_
  · have hgr := qX8_grade l (b := k) (by omega) I L
    refine ru_go hV 2 [] rfl rfl trivial ?_
    refine ru_V hV [.int (nI k)] sVX8_58 hbl rfl rfl rfl rfl rfl (Nat.le_of_ble_eq_true rfl) ?_
    refine ru_go hV 4 [(0, 0)] rfl rfl ⟨trivial, nI_nge hk (by omega)⟩ ?_
    refine ru_V hV [] sVX8_88 (qX8_at l hs (k := k) (by omega) I L) rfl rfl rfl rfl rfl (Nat.le_of_ble_eq_true rfl) ?_
    by_cases h : frR I s k = 0
    · refine ru_go hV 5 [(1, 0)] rfl rfl ⟨trivial, h⟩ ?_
      rw [nI_1]
      rw [show hiF (frR I s) (k + 1) = hiF (frR I s) k by simp [hiF, h]] at ih
      exact ih
    · refine ru_go hV 2 [(0, 0)] rfl rfl ⟨trivial, h⟩ ?_
      refine ru_S hV [] sSX8_62 hgr rfl rfl rfl (Nat.le_of_ble_eq_true rfl) ?_
      by_cases h3 : hiF (frR I s) k < nI (pc5 k)
      · refine ru_go hV 3 [(0, 0)] rfl rfl ⟨trivial, Int32.not_le.mpr h3⟩ ?_
        refine ru_S hV [] sSX8_62 hgr rfl rfl rfl (Nat.le_of_ble_eq_true rfl) ?_
        refine ru_go hV 4 [] rfl rfl trivial ?_
        rw [nI_1]
        rw [show hiF (frR I s) (k + 1) = nI (pc5 k) by simp only [hiF]; rw [if_pos ⟨h, h3⟩]] at ih
        exact ih
      · refine ru_go hV 6 [(1, 0)] rfl rfl ⟨trivial, Int32.not_lt.mp h3⟩ ?_
        rw [nI_1]
        rw [show hiF (frR I s) (k + 1) = hiF (frR I s) k by simp only [hiF]; rw [if_neg (fun e => h3 e.2)]] at ih
        exact ih
  · refine ru_go hV 2 [] rfl rfl trivial ?_
    refine ru_V hV [.int (nI B)] sVX8_58 hbl rfl rfl rfl rfl rfl (Nat.le_of_ble_eq_true rfl) ?_
    refine ru_fin hV 3 [(1, 0)] rfl rfl ⟨trivial, nI_le (Nat.le_refl B) (by omega)⟩ ?_
    exact ⟨rfl, rfl, rfl⟩
theorem qX8_gradeOf (l : Launch) {s n : Nat} (hs : s < 8) (hn : n ≤ 5) {I : IM} (hd : I 1 0 = nI n) (L : LM) : KX8_gradeOf l [.ref 0, .int (nI s)] I L (some (.int (grF (frR I s) (2 ^ n)))) I L := by
  have hlo := qX8_lowest l hs hn hd L
  refine wX8_gradeOf l rfl (hz0 (by decide)) (fun V hV => ?_)
  unfold grF at hV
  refine ru_go hV 2 [] rfl rfl trivial ?_
  refine ru_V hV [] sVX8_185 hlo rfl rfl rfl rfl rfl (Nat.le_of_ble_eq_true rfl) ?_
  refine ru_go hV 2 [] rfl rfl trivial ?_
  refine ru_V hV [.int _] sVX8_188 (qX8_highest l hs hn hd L) rfl rfl rfl rfl rfl (Nat.le_of_ble_eq_true rfl) ?_
  by_cases h : loF (frR I s) (2 ^ n) = hiF (frR I s) (2 ^ n)
  · rw [if_pos h] at hV
    refine ru_go hV 3 [(0, 0)] rfl rfl ⟨trivial, (fun e => e h)⟩ ?_
    refine ru_V hV [] sVX8_185 hlo rfl rfl rfl rfl rfl (Nat.le_of_ble_eq_true rfl) ?_
    refine ru_fin hV 2 [] rfl rfl trivial ?_
    exact ⟨rfl, rfl, rfl⟩
  · rw [if_neg h] at hV
    refine ru_fin hV 3 [(1, 0)] rfl rfl ⟨trivial, h⟩ ?_
    exact ⟨rfl, rfl, rfl⟩
theorem qX8_greatest (l : Launch) {s n : Nat} (hs : s < 8) (hn : n ≤ 5) {I : IM} (hd : I 1 0 = nI n) (L : LM) : KX8_greatest l [.ref 0, .int (nI s)] I L (some (.int (gmF (frR I s) (2 ^ n)))) I L := by
  obtain ⟨hB, -⟩ := pow_le32 n hn
  have hbl := qX8_blades l hn hd L
  generalize 2 ^ n = B at hB hbl ⊢
  refine wX8_greatest l rfl (hz0 (by decide)) (fun V hV => ?_)
  refine ru_go hV 4 [] rfl rfl trivial ?_
  refine loop0 (P := fun k => V 4 [(0, .ref 0), (1, .int (nI s)), (2, .int (gmF (frR I s) k)), (3, .int (nI k))] [] I L) B (fun h => h) (fun k hk ih => ?_) ?_
  · have hat := qX8_at l hs (k := k) (by omega) I L
    have tail : V 37 [(0, .ref 0), (1, .int (nI s)), (2, .int (gmF (frR I s) k)), (3, .int (nI k))] [.int (iabs (frR I s k))] I L := by
      by_cases h2 : gmF (frR I s) k < iabs (frR I s k)
      · refine ru_go hV 9 [(0, 0)] rfl rfl ⟨trivial, Int32.not_le.mpr h2⟩ ?_
        rw [nI_1]
        rw [show gmF (frR I s) (k + 1) = iabs (frR I s k) by simp only [gmF, imax]; rw [if_pos h2]] at ih
        exact ru_sub hV [0, 1, 2, 3] rfl ih
      · refine ru_go hV 8 [(1, 0)] rfl rfl ⟨trivial, Int32.not_lt.mp h2⟩ ?_
        rw [nI_1]
        rw [show gmF (frR I s) (k + 1) = gmF (frR I s) k by simp only [gmF, imax]; rw [if_neg h2]] at ih
        exact ru_sub hV [0, 1, 2, 3] rfl ih
    refine ru_go hV 2 [] rfl rfl trivial ?_
    refine ru_V hV [.int (nI k)] sVX8_58 hbl rfl rfl rfl rfl rfl (Nat.le_of_ble_eq_true rfl) ?_
    refine ru_go hV 4 [(0, 0)] rfl rfl ⟨trivial, nI_nge hk (by omega)⟩ ?_
    refine ru_V hV [] sVX8_88 hat rfl rfl rfl rfl rfl (Nat.le_of_ble_eq_true rfl) ?_
    by_cases h : frR I s k < 0
    · rw [show iabs (frR I s k) = -(frR I s k) from if_pos h] at tail
      refine ru_go hV 4 [(0, 0)] rfl rfl ⟨trivial, Int32.not_le.mpr h⟩ ?_
      refine ru_V hV [] sVX8_88 hat rfl rfl rfl rfl rfl (Nat.le_of_ble_eq_true rfl) ?_
      refine ru_go hV 2 [] rfl rfl trivial ?_
      exact tail
    · rw [show iabs (frR I s k) = frR I s k from if_neg h] at tail
      refine ru_go hV 4 [(1, 0)] rfl rfl ⟨trivial, Int32.not_lt.mp h⟩ ?_
      refine ru_V hV [] sVX8_88 hat rfl rfl rfl rfl rfl (Nat.le_of_ble_eq_true rfl) ?_
      exact tail
  · refine ru_go hV 2 [] rfl rfl trivial ?_
    refine ru_V hV [.int (nI B)] sVX8_58 hbl rfl rfl rfl rfl rfl (Nat.le_of_ble_eq_true rfl) ?_
    refine ru_fin hV 3 [(1, 0)] rfl rfl ⟨trivial, nI_le (Nat.le_refl B) (by omega)⟩ ?_
    exact ⟨rfl, rfl, rfl⟩
theorem qX8_lead (l : Launch) {s n : Nat} (hs : s < 8) (hn : n ≤ 5) {I : IM} (hd : I 1 0 = nI n) (L : LM) : KX8_lead l [.ref 0, .int (nI s)] I L (some (.int (ldI (frR I s) (2 ^ n)))) I L := by
  obtain ⟨hB, -⟩ := pow_le32 n hn
  have hbl := qX8_blades l hn hd L
  generalize 2 ^ n = B at hB hbl ⊢
  refine wX8_lead l rfl (hz0 (by decide)) (fun V hV => ?_)
  refine ru_go hV 2 [] rfl rfl trivial ?_
  refine loop0 (P := fun k => (∀ j, j < k → frR I s j = 0) → V 2 [(0, .ref 0), (1, .int (nI s)), (2, .int (nI k))] [] I L) B (fun h => h (fun j hj => absurd hj (by omega))) (fun k hk ih hall => ?_) (fun hall => ?_)
  · refine ru_go hV 2 [] rfl rfl trivial ?_
    refine ru_V hV [.int (nI k)] sVX8_58 hbl rfl rfl rfl rfl rfl (Nat.le_of_ble_eq_true rfl) ?_
    refine ru_go hV 4 [(0, 0)] rfl rfl ⟨trivial, nI_nge hk (by omega)⟩ ?_
    refine ru_V hV [] sVX8_88 (qX8_at l hs (k := k) (by omega) I L) rfl rfl rfl rfl rfl (Nat.le_of_ble_eq_true rfl) ?_
    by_cases h : frR I s k = 0
    · refine ru_go hV 3 [(1, 0)] rfl rfl ⟨trivial, h⟩ ?_
      rw [nI_1]
      refine ih (fun j hj => ?_)
      by_cases e : j = k
      · rw [e]; exact h
      · exact hall j (by omega)
    · refine ru_fin hV 3 [(0, 0)] rfl rfl ⟨trivial, h⟩ ?_
      exact ⟨by rw [ldI, ldO_of h hall B hk]; rfl, rfl, rfl⟩
  · refine ru_go hV 2 [] rfl rfl trivial ?_
    refine ru_V hV [.int (nI B)] sVX8_58 hbl rfl rfl rfl rfl rfl (Nat.le_of_ble_eq_true rfl) ?_
    refine ru_fin hV 3 [(1, 0)] rfl rfl ⟨trivial, nI_le (Nat.le_refl B) (by omega)⟩ ?_
    exact ⟨by rw [ldI, ldO_of_none B hall]; rfl, rfl, rfl⟩
theorem qX8_directions (l : Launch) {s n : Nat} (hs : s < 8) (hn : n ≤ 5) {I : IM} (hd : I 1 0 = nI n) (L : LM) : KX8_directions l [.ref 0, .int (nI s)] I L (some (.int (nI (drF (frR I s) (2 ^ n))))) I L := by
  obtain ⟨hB, -⟩ := pow_le32 n hn
  have hbl := qX8_blades l hn hd L
  generalize 2 ^ n = B at hB hbl ⊢
  refine wX8_directions l rfl (hz0 (by decide)) (fun V hV => ?_)
  refine ru_go hV 4 [] rfl rfl trivial ?_
  refine loop0 (P := fun k => V 4 [(0, .ref 0), (1, .int (nI s)), (2, .int (nI (drF (frR I s) k))), (3, .int (nI k))] [] I L) B (fun h => h) (fun k hk ih => ?_) ?_
  · refine ru_go hV 2 [] rfl rfl trivial ?_
    refine ru_V hV [.int (nI k)] sVX8_58 hbl rfl rfl rfl rfl rfl (Nat.le_of_ble_eq_true rfl) ?_
    refine ru_go hV 5 [(0, 0)] rfl rfl ⟨trivial, nI_nge hk (by omega)⟩ ?_
    refine ru_V hV [.int _] sVX8_88 (qX8_at l hs (k := k) (by omega) I L) rfl rfl rfl rfl rfl (Nat.le_of_ble_eq_true rfl) ?_
    by_cases h : frR I s k = 0
    · refine ru_go hV 6 [(1, 0)] rfl rfl ⟨trivial, h⟩ ?_
      rw [nI_1, Int32.or_zero]
      rw [show drF (frR I s) (k + 1) = drF (frR I s) k by simp [drF, h]] at ih
      exact ih
    · refine ru_go hV 7 [(0, 0)] rfl rfl ⟨trivial, h⟩ ?_
      rw [nI_1, orI _ (drF_lt k (by omega)) k (by omega)]
      rw [show drF (frR I s) (k + 1) = drF (frR I s) k ||| k by simp [drF, h]] at ih
      exact ih
  · refine ru_go hV 2 [] rfl rfl trivial ?_
    refine ru_V hV [.int (nI B)] sVX8_58 hbl rfl rfl rfl rfl rfl (Nat.le_of_ble_eq_true rfl) ?_
    refine ru_fin hV 3 [(1, 0)] rfl rfl ⟨trivial, nI_le (Nat.le_refl B) (by omega)⟩ ?_
    exact ⟨rfl, rfl, rfl⟩
theorem qX8_formOf (l : Launch) {s k n : Nat} (hs : s < 8) (hk : k < 8) (hn : n ≤ 5) {I : IM} (hd : I 1 0 = nI n) (L : LM) : KX8_formOf l [.ref 0, .int (nI s), .int (nI k)] I L (some (.int (prF (frR I s) (2 ^ n) k))) I L := by
  refine wX8_formOf l rfl (hz0 (by decide)) (fun V hV => ?_)
  refine ru_go hV 1 [] rfl rfl trivial ?_
  have sw := fun (tgt : Nat) h1 h2 h3 => ru_sw hV (tgt := tgt) swX8_formOf_1 h1 h2 h3 (x := nI k) (rest := []) (lv := [(0, .ref 0), (1, .int (nI s)), (2, .int (nI k))]) (I := I) (L := L)
  have hB := pow_le32 n hn
  match k, hk with
  | 0, _ =>
    refine sw 44 (by decide) (fun _ _ => ⟨43, by decide, by decide⟩) ?_
    refine ru_go hV 2 [] rfl rfl trivial ?_
    refine ru_V hV [] sVX8_122 (qX8_many l hs hn hd L) rfl rfl rfl rfl rfl (Nat.le_of_ble_eq_true rfl) ?_
    refine ru_fin hV 1 [] rfl rfl trivial ?_
    exact ⟨rfl, rfl, rfl⟩
  | 1, _ =>
    refine sw 50 (by decide) (fun _ _ => ⟨49, by decide, by decide⟩) ?_
    refine ru_go hV 2 [] rfl rfl trivial ?_
    refine ru_V hV [] sVX8_191 (qX8_gradeOf l hs hn hd L) rfl rfl rfl rfl rfl (Nat.le_of_ble_eq_true rfl) ?_
    refine ru_fin hV 1 [] rfl rfl trivial ?_
    exact ⟨rfl, rfl, rfl⟩
  | 2, _ =>
    refine sw 56 (by decide) (fun _ _ => ⟨55, by decide, by decide⟩) ?_
    refine ru_go hV 2 [] rfl rfl trivial ?_
    refine ru_V hV [] sVX8_185 (qX8_lowest l hs hn hd L) rfl rfl rfl rfl rfl (Nat.le_of_ble_eq_true rfl) ?_
    refine ru_fin hV 1 [] rfl rfl trivial ?_
    exact ⟨rfl, rfl, rfl⟩
  | 3, _ =>
    refine sw 62 (by decide) (fun _ _ => ⟨61, by decide, by decide⟩) ?_
    refine ru_go hV 2 [] rfl rfl trivial ?_
    refine ru_V hV [] sVX8_188 (qX8_highest l hs hn hd L) rfl rfl rfl rfl rfl (Nat.le_of_ble_eq_true rfl) ?_
    refine ru_fin hV 1 [] rfl rfl trivial ?_
    exact ⟨rfl, rfl, rfl⟩
  | 4, _ =>
    refine sw 68 (by decide) (fun _ _ => ⟨67, by decide, by decide⟩) ?_
    refine ru_go hV 2 [] rfl rfl trivial ?_
    refine ru_V hV [] sVX8_194 (qX8_greatest l hs hn hd L) rfl rfl rfl rfl rfl (Nat.le_of_ble_eq_true rfl) ?_
    refine ru_fin hV 1 [] rfl rfl trivial ?_
    exact ⟨rfl, rfl, rfl⟩
  | 5, _ =>
    refine sw 74 (by decide) (fun _ _ => ⟨73, by decide, by decide⟩) ?_
    refine ru_go hV 2 [] rfl rfl trivial ?_
    refine ru_V hV [] sVX8_197 (qX8_lead l hs hn hd L) rfl rfl rfl rfl rfl (Nat.le_of_ble_eq_true rfl) ?_
    refine ru_fin hV 1 [] rfl rfl trivial ?_
    exact ⟨rfl, rfl, rfl⟩
  | 6, _ =>
    refine sw 80 (by decide) (fun _ _ => ⟨79, by decide, by decide⟩) ?_
    have hle := qX8_lead l hs hn hd L
    have epr : prF (frR I s) (2 ^ n) 6 = lcI (frR I s) (2 ^ n) := rfl
    rw [epr] at hV
    unfold lcI at hV
    unfold ldI at hle
    cases ho : ldO (frR I s) (2 ^ n) with
    | none =>
      rw [ho] at hV hle
      refine ru_go hV 2 [] rfl rfl trivial ?_
      refine ru_V hV [] sVX8_197 hle rfl rfl rfl rfl rfl (Nat.le_of_ble_eq_true rfl) ?_
      refine ru_fin hV 5 [(0, 0)] rfl rfl ⟨trivial, (by first | exact rfl | assumption | exact ⟨rfl, rfl⟩ | exact ⟨rfl, rfl, by omega⟩ | exact ⟨by assumption, rfl, by omega⟩ | exact ⟨⟨_, rfl, rfl⟩, by decide, by decide, rfl, by omega⟩ | omega | decide)⟩ ?_
      exact ⟨rfl, rfl, rfl⟩
    | some q =>
      rw [ho] at hV hle
      have hq := (ldO_some ho).1
      refine ru_go hV 2 [] rfl rfl trivial ?_
      refine ru_V hV [] sVX8_197 hle rfl rfl rfl rfl rfl (Nat.le_of_ble_eq_true rfl) ?_
      refine ru_go hV 6 [(1, 0)] rfl rfl ⟨trivial, NON_ne (by omega)⟩ ?_
      refine ru_V hV [.int _, .ref 0] sVX8_197 hle rfl rfl rfl rfl rfl (Nat.le_of_ble_eq_true rfl) ?_
      refine ru_V hV [] sVX8_88 (qX8_at l hs (k := q) (by omega) I L) rfl rfl rfl rfl rfl (Nat.le_of_ble_eq_true rfl) ?_
      refine ru_fin hV 1 [] rfl rfl trivial ?_
      exact ⟨rfl, rfl, rfl⟩
  | 7, _ =>
    refine sw 106 (by decide) (fun _ h => absurd (by decide) h) ?_
    refine ru_go hV 2 [] rfl rfl trivial ?_
    refine ru_V hV [] sVX8_200 (qX8_directions l hs hn hd L) rfl rfl rfl rfl rfl (Nat.le_of_ble_eq_true rfl) ?_
    refine ru_fin hV 1 [] rfl rfl trivial ?_
    exact ⟨rfl, rfl, rfl⟩
/-- how many forms are not 0 -/
def fmR (I : IM) (n : Nat) : Nat → Nat
  | 0 => 0
  | s + 1 => fmR I n s + if cnz (frR I s) (2 ^ n) = 0 then 0 else 1
theorem qX8_forms (l : Launch) {n : Nat} (hn : n ≤ 5) {I : IM} (hd : I 1 0 = nI n) (L : LM) : KX8_forms l [.ref 0] I L (some (.int (nI (fmR I n 8)))) I L := by
  have hB := pow_le32 n hn
  refine wX8_forms l rfl (hz0 (by decide)) (fun V hV => ?_)
  refine ru_go hV 4 [] rfl rfl trivial ?_
  refine loop0 (P := fun s => V 4 [(0, .ref 0), (1, .int (nI (fmR I n s))), (2, .int (nI s))] [] I L) 8 (fun h => h) (fun s hs ih => ?_) ?_
  · refine ru_go hV 6 [(0, 0)] rfl rfl ⟨trivial, nI8_ge hs⟩ ?_
    refine ru_V hV [.int _] sVX8_122 (qX8_many l hs hn hd L) rfl rfl rfl rfl rfl (Nat.le_of_ble_eq_true rfl) ?_
    have hc := cnz_le (frR I s) (2 ^ n)
    by_cases h : cnz (frR I s) (2 ^ n) = 0
    · refine ru_go hV 7 [(0, 0)] rfl rfl ⟨trivial, (fun e => e (by rw [h]; rfl))⟩ ?_
      rw [nI_1, Int32.add_zero]
      rw [show fmR I n (s + 1) = fmR I n s by simp [fmR, h]] at ih
      exact ih
    · refine ru_go hV 6 [(1, 0)] rfl rfl ⟨trivial, nI_ne0 (by omega) (by omega)⟩ ?_
      rw [nI_1, nI_1]
      rw [show fmR I n (s + 1) = fmR I n s + 1 by simp [fmR, h]] at ih
      exact ih
  · refine ru_fin hV 5 [(1, 0)] rfl rfl ⟨trivial, (by first | exact rfl | assumption | exact ⟨rfl, rfl⟩ | exact ⟨rfl, rfl, by omega⟩ | exact ⟨by assumption, rfl, by omega⟩ | exact ⟨⟨_, rfl, rfl⟩, by decide, by decide, rfl, by omega⟩ | omega | decide)⟩ ?_
    exact ⟨rfl, rfl, rfl⟩
