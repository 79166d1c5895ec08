/-! the reference: the calls that look -/
theorem in_04 {p : Nat} (h : p < 5) : b2i (decide ((0 : Int32) ≤ nI p ∧ nI p ≤ 4)) = 1 := in_t (m := 5) h (by decide)
theorem in_04f {x : Int32} (h : ouR x 5) : b2i (decide ((0 : Int32) ≤ x ∧ x ≤ 4)) = 0 := in_f (m := 5) h (by decide) (by decide)
theorem RQ.n {I J : IM} (h : RQ I J) : J 1 = I 1 := h.1 1 (by decide) (by decide)
theorem xX8_decomposable (l : Launch) {x y : Int32} (h : ouR x 8) (I : IM) (L : LM) : KX8_decomposable l [.ref 0, .int x, .int y] I L (some (.int 0)) (mu I 0 7 1) L := by
  refine wX8_decomposable l rfl (hz0 (by decide)) (fun V hV => ?_)
  refine ru_go hV 4 [] rfl rfl ⟨trivial, (by first | exact rfl | assumption | exact ⟨rfl, rfl⟩ | exact ⟨rfl, rfl, by omega⟩ | exact ⟨by assumption, rfl, by omega⟩ | exact ⟨⟨_, rfl, rfl⟩, by decide, by decide, rfl, by omega⟩ | omega | decide)⟩ ?_
  refine ru_S hV [] sSX8_80 (xX8_isSlot l h _ L) rfl rfl rfl (Nat.le_of_ble_eq_true rfl) ?_
  refine ru_go hV 3 [(0, 0)] rfl rfl ⟨trivial, (fun e => e rfl)⟩ ?_
  refine ru_V hV [] sVX8_70 (qX8_fails l 1 _ L) rfl rfl rfl rfl rfl (Nat.le_of_ble_eq_true rfl) ?_
  rw [mu_mu]
  refine ru_fin hV 1 [] rfl rfl trivial ?_
  exact ⟨rfl, rfl, rfl⟩
theorem zX8_decomposable (l : Launch) {s : Nat} {y : Int32} (hs : s < 8) (h : ouR y 2) (I : IM) (L : LM) : KX8_decomposable l [.ref 0, .int (nI s), .int y] I L (some (.int 0)) (mu I 0 7 2) L := by
  refine wX8_decomposable l rfl (hz0 (by decide)) (fun V hV => ?_)
  refine ru_go hV 4 [] rfl rfl ⟨trivial, (by first | exact rfl | assumption | exact ⟨rfl, rfl⟩ | exact ⟨rfl, rfl, by omega⟩ | exact ⟨by assumption, rfl, by omega⟩ | exact ⟨⟨_, rfl, rfl⟩, by decide, by decide, rfl, by omega⟩ | omega | decide)⟩ ?_
  refine ru_S hV [] sSX8_80 (qX8_isSlot l hs _ L) rfl rfl rfl (Nat.le_of_ble_eq_true rfl) ?_
  refine ru_go hV 4 [(1, 0)] rfl rfl ⟨trivial, (by decide)⟩ ?_
  refine ru_S hV [] sSX8_54 (qX8_in l y 0 1 _ L) rfl rfl rfl (Nat.le_of_ble_eq_true rfl) ?_
  rw [in_01f h]
  refine ru_go hV 3 [(1, 0)] rfl rfl ⟨trivial, (by first | exact rfl | assumption | exact ⟨rfl, rfl⟩ | exact ⟨rfl, rfl, by omega⟩ | exact ⟨by assumption, rfl, by omega⟩ | exact ⟨⟨_, rfl, rfl⟩, by decide, by decide, rfl, by omega⟩ | omega | decide)⟩ ?_
  refine ru_V hV [] sVX8_70 (qX8_fails l 2 _ L) rfl rfl rfl rfl rfl (Nat.le_of_ble_eq_true rfl) ?_
  rw [mu_mu]
  refine ru_fin hV 1 [] rfl rfl trivial ?_
  exact ⟨rfl, rfl, rfl⟩
theorem qX8_decomposable (l : Launch) {s w n : Nat} (hs : s < 8) (hw : w < 2) (hn : n ≤ 5) (hn0 : 0 < n) {I : IM} (hd : I 1 0 = nI n) (hm : SM (frR I s)) (L : LM) : ∃ I2 L2, RQ (mu I 0 7 0) I2 ∧ KX8_decomposable l [.ref 0, .int (nI s), .int (nI w)] I L (some (.int (if w = 0 then dtR (frR I s) n else dbR2 (frR I s) n))) I2 L2 := by
  obtain ⟨I2, L2, ⟨h1, -⟩, hK⟩ := qX8_decomposableOf l hs hw hn hn0 (I := mu I 0 7 0) (by rw [t7n (by decide)]; exact hd) (by rw [t7fr]; exact hm) L
  rw [t7fr] at hK
  refine ⟨I2, L2, h1, wX8_decomposable l rfl (hz0 (by decide)) (fun V hV => ?_)⟩
  refine ru_go hV 4 [] rfl rfl ⟨trivial, (by first | exact rfl | assumption | exact ⟨rfl, rfl⟩ | exact ⟨rfl, rfl, by omega⟩ | exact ⟨by assumption, rfl, by omega⟩ | exact ⟨⟨_, rfl, rfl⟩, by decide, by decide, rfl, by omega⟩ | omega | decide)⟩ ?_
  refine ru_S hV [] sSX8_80 (qX8_isSlot l hs _ L) rfl rfl rfl (Nat.le_of_ble_eq_true rfl) ?_
  refine ru_go hV 4 [(1, 0)] rfl rfl ⟨trivial, (by decide)⟩ ?_
  refine ru_S hV [] sSX8_54 (qX8_in l (nI w) 0 1 _ L) rfl rfl rfl (Nat.le_of_ble_eq_true rfl) ?_
  rw [in_01 hw]
  refine ru_go hV 4 [(0, 0)] rfl rfl ⟨trivial, (by decide)⟩ ?_
  refine ru_V hV [] sVX8_258 hK rfl rfl rfl rfl rfl (Nat.le_of_ble_eq_true rfl) ?_
  refine ru_fin hV 2 [] rfl rfl trivial ?_
  exact ⟨rfl, rfl, rfl⟩
theorem xX8_factor (l : Launch) {x y z : Int32} {n : Nat} (hx : ouR x 8 ∨ ouR z n) (h0 : 0 < n) (hn : n ≤ 5) {I : IM} (hd : I 1 0 = nI n) (L : LM) : KX8_factor l [.ref 0, .int x, .int y, .int z] I L (some (.int 0)) (mu I 0 7 1) L := by
  refine wX8_factor l rfl (hz0 (by decide)) (fun V hV => ?_)
  have hd' : mu I 0 7 0 1 0 = nI n := by rw [t7n (by decide)]; exact hd
  have tail : V 22 [(0, .ref 0), (1, .int x), (2, .int y), (3, .int z)] [.int 1, .ref 0] (mu I 0 7 0) L := by
    refine ru_V hV [] sVX8_70 (qX8_fails l 1 _ L) rfl rfl rfl rfl rfl (Nat.le_of_ble_eq_true rfl) ?_
    rw [mu_mu]
    refine ru_fin hV 1 [] rfl rfl trivial ?_
    exact ⟨rfl, rfl, rfl⟩
  refine ru_go hV 4 [] rfl rfl ⟨trivial, (by first | exact rfl | assumption | exact ⟨rfl, rfl⟩ | exact ⟨rfl, rfl, by omega⟩ | exact ⟨by assumption, rfl, by omega⟩ | exact ⟨⟨_, rfl, rfl⟩, by decide, by decide, rfl, by omega⟩ | omega | decide)⟩ ?_
  rcases ouR_or x 8 (by omega) with ⟨k, hk, rfl⟩ | h
  · have hy := hx.resolve_left (ouR_not hk (by decide))
    refine ru_S hV [] sSX8_80 (qX8_isSlot l hk _ L) rfl rfl rfl (Nat.le_of_ble_eq_true rfl) ?_
    refine ru_go hV 3 [(0, 0)] rfl rfl ⟨trivial, (by decide)⟩ ?_
    refine ru_V hV [] sVX8_76 (xX8_isDirection l hy h0 hn hd' L) rfl rfl rfl rfl rfl (Nat.le_of_ble_eq_true rfl) ?_
    refine ru_go hV 3 [(0, 0)] rfl rfl ⟨trivial, (fun e => e rfl)⟩ ?_
    exact tail
  · refine ru_S hV [] sSX8_80 (xX8_isSlot l h _ L) rfl rfl rfl (Nat.le_of_ble_eq_true rfl) ?_
    refine ru_go hV 3 [(1, 0)] rfl rfl ⟨trivial, (by first | exact rfl | assumption | exact ⟨rfl, rfl⟩ | exact ⟨rfl, rfl, by omega⟩ | exact ⟨by assumption, rfl, by omega⟩ | exact ⟨⟨_, rfl, rfl⟩, by decide, by decide, rfl, by omega⟩ | omega | decide)⟩ ?_
    exact tail
theorem zX8_factor (l : Launch) {s d n : Nat} {y : Int32} (hs : s < 8) (hdn : d < n) (hn : n ≤ 5) (hy : ouR y 5) {I : IM} (hd : I 1 0 = nI n) (L : LM) : KX8_factor l [.ref 0, .int (nI s), .int y, .int (nI d)] I L (some (.int 0)) (mu I 0 7 2) L := by
  refine wX8_factor l rfl (hz0 (by decide)) (fun V hV => ?_)
  have hd' : mu I 0 7 0 1 0 = nI n := by rw [t7n (by decide)]; exact hd
  refine ru_go hV 4 [] rfl rfl ⟨trivial, (by first | exact rfl | assumption | exact ⟨rfl, rfl⟩ | exact ⟨rfl, rfl, by omega⟩ | exact ⟨by assumption, rfl, by omega⟩ | exact ⟨⟨_, rfl, rfl⟩, by decide, by decide, rfl, by omega⟩ | omega | decide)⟩ ?_
  refine ru_S hV [] sSX8_80 (qX8_isSlot l hs _ L) rfl rfl rfl (Nat.le_of_ble_eq_true rfl) ?_
  refine ru_go hV 3 [(0, 0)] rfl rfl ⟨trivial, (by decide)⟩ ?_
  refine ru_V hV [] sVX8_76 (qX8_isDirection l hdn hn hd' L) rfl rfl rfl rfl rfl (Nat.le_of_ble_eq_true rfl) ?_
  refine ru_go hV 4 [(1, 0)] rfl rfl ⟨trivial, (by decide)⟩ ?_
  refine ru_S hV [] sSX8_54 (qX8_in l y 0 4 _ L) rfl rfl rfl (Nat.le_of_ble_eq_true rfl) ?_
  rw [in_04f hy]
  refine ru_go hV 3 [(0, 0)] rfl rfl ⟨trivial, (fun e => e rfl)⟩ ?_
  refine ru_V hV [] sVX8_70 (qX8_fails l 2 _ L) rfl rfl rfl rfl rfl (Nat.le_of_ble_eq_true rfl) ?_
  rw [mu_mu]
  refine ru_fin hV 1 [] rfl rfl trivial ?_
  exact ⟨rfl, rfl, rfl⟩
theorem qX8_factor (l : Launch) {s p d n : Nat} (hs : s < 8) (hp : p < 5) (hdn : d < n) (hn : n ≤ 5) {I : IM} (hd : I 1 0 = nI n) (hm : SM (frR I s)) (hld : ∀ g, g ≤ 5 → ctR (frR I s) n = nI g → 0 < g → ∃ q, ldO (frR I s) (2 ^ n) = some q ∧ pc5 q = g) (L : LM) : ∃ L2, KX8_factor l [.ref 0, .int (nI s), .int (nI p), .int (nI d)] I L (some (.int (if nI p < ctR (frR I s) n then (match ldO (frR I s) (2 ^ n) with | some q => faF (frR I s) q d 5 0 p | none => NON) else NON))) (mu I 0 7 0) L2 := by
  have hd' : mu I 0 7 0 1 0 = nI n := by rw [t7n (by decide)]; exact hd
  have hB := pow_le32 n hn
  obtain ⟨L2, -, hK⟩ := qX8_factors l hs hn hd' (by rw [t7fr]; exact hm) L
  rw [t7fr] at hK
  refine ⟨L2, wX8_factor l rfl (hz0 (by decide)) (fun V hV => ?_)⟩
  refine ru_go hV 4 [] rfl rfl ⟨trivial, (by first | exact rfl | assumption | exact ⟨rfl, rfl⟩ | exact ⟨rfl, rfl, by omega⟩ | exact ⟨by assumption, rfl, by omega⟩ | exact ⟨⟨_, rfl, rfl⟩, by decide, by decide, rfl, by omega⟩ | omega | decide)⟩ ?_
  refine ru_S hV [] sSX8_80 (qX8_isSlot l hs _ L) rfl rfl rfl (Nat.le_of_ble_eq_true rfl) ?_
  refine ru_go hV 3 [(0, 0)] rfl rfl ⟨trivial, (by decide)⟩ ?_
  refine ru_V hV [] sVX8_76 (qX8_isDirection l hdn hn hd' L) rfl rfl rfl rfl rfl (Nat.le_of_ble_eq_true rfl) ?_
  refine ru_go hV 4 [(1, 0)] rfl rfl ⟨trivial, (by decide)⟩ ?_
  refine ru_S hV [] sSX8_54 (qX8_in l (nI p) 0 4 _ L) rfl rfl rfl (Nat.le_of_ble_eq_true rfl) ?_
  rw [in_04 hp]
  refine ru_go hV 4 [(1, 0)] rfl rfl ⟨trivial, (by decide)⟩ ?_
  refine ru_V hV [.int (nI p)] sVX8_261 hK rfl rfl rfl rfl rfl (Nat.le_of_ble_eq_true rfl) ?_
  by_cases h : nI p < ctR (frR I s) n
  · rw [if_pos h] at hV
    have hg : ∃ g, g ≤ 5 ∧ ctR (frR I s) n = nI g := by
      unfold ctR
      rcases grF_nat (f := frR I s) hB.1 with hg | ⟨g, hg5, hg⟩
      · rw [if_pos hg]; exact ⟨0, by decide, rfl⟩
      · split
        · exact ⟨0, by decide, rfl⟩
        · split
          · exact ⟨g, hg5, hg⟩
          · exact ⟨0, by decide, rfl⟩
    obtain ⟨g, hg5, hg⟩ := hg
    have hpg : p < g := by
      rw [hg] at h
      by_cases e : p < g
      · exact e
      · exact absurd h (Int32.not_lt.mpr (nI_le (by omega) (by omega)))
    obtain ⟨q, hq1, hq2⟩ := hld g hg5 hg (by omega)
    rw [hq1] at hV
    have hf := qX8_factorOf l (p := p) (dir := d) (q := q) hs (by omega) hn hd' (by rw [t7fr]; exact hm) (by rw [t7fr]; exact hq1) (by omega) L2
    rw [t7fr] at hf
    refine ru_go hV 5 [(0, 0)] rfl rfl ⟨trivial, Int32.not_le.mpr h⟩ ?_
    refine ru_V hV [] sVX8_264 hf rfl rfl rfl rfl rfl (Nat.le_of_ble_eq_true rfl) ?_
    refine ru_fin hV 2 [] rfl rfl trivial ?_
    exact ⟨rfl, rfl, rfl⟩
  · rw [if_neg h] at hV
    refine ru_fin hV 3 [(1, 0)] rfl rfl ⟨trivial, Int32.not_lt.mp h⟩ ?_
    exact ⟨rfl, rfl, rfl⟩
theorem xX8_annihilator (l : Launch) {x : Int32} (h : ouR x 8) (I : IM) (L : LM) : KX8_annihilator l [.ref 0, .int x] I L (some (.int 0)) (mu I 0 7 1) L := by
  refine wX8_annihilator l rfl (hz0 (by decide)) (fun V hV => ?_)
  refine ru_go hV 4 [] rfl rfl ⟨trivial, (by first | exact rfl | assumption | exact ⟨rfl, rfl⟩ | exact ⟨rfl, rfl, by omega⟩ | exact ⟨by assumption, rfl, by omega⟩ | exact ⟨⟨_, rfl, rfl⟩, by decide, by decide, rfl, by omega⟩ | omega | decide)⟩ ?_
  refine ru_S hV [] sSX8_80 (xX8_isSlot l h _ L) rfl rfl rfl (Nat.le_of_ble_eq_true rfl) ?_
  refine ru_go hV 3 [(1, 0)] rfl rfl ⟨trivial, (by first | exact rfl | assumption | exact ⟨rfl, rfl⟩ | exact ⟨rfl, rfl, by omega⟩ | exact ⟨by assumption, rfl, by omega⟩ | exact ⟨⟨_, rfl, rfl⟩, by decide, by decide, rfl, by omega⟩ | omega | decide)⟩ ?_
  refine ru_V hV [] sVX8_70 (qX8_fails l 1 _ L) rfl rfl rfl rfl rfl (Nat.le_of_ble_eq_true rfl) ?_
  rw [mu_mu]
  refine ru_fin hV 1 [] rfl rfl trivial ?_
  exact ⟨rfl, rfl, rfl⟩
theorem qX8_annihilator (l : Launch) {s n : Nat} (hs : s < 8) (hn : n ≤ 5) (hn0 : 0 < n) {I : IM} (hd : I 1 0 = nI n) (L : LM) : ∃ I2 L2, RQ (mu I 0 7 0) I2 ∧ KX8_annihilator l [.ref 0, .int (nI s)] I L (some (.int (anR (frR I s) n))) I2 L2 := by
  obtain ⟨I2, L2, ⟨⟨h1, -⟩, -⟩, hK⟩ := qX8_annihilatorOf l hs hn hn0 (I := mu I 0 7 0) (by rw [t7n (by decide)]; exact hd) L
  rw [t7fr] at hK
  refine ⟨I2, L2, h1, wX8_annihilator l rfl (hz0 (by decide)) (fun V hV => ?_)⟩
  refine ru_go hV 4 [] rfl rfl ⟨trivial, (by first | exact rfl | assumption | exact ⟨rfl, rfl⟩ | exact ⟨rfl, rfl, by omega⟩ | exact ⟨by assumption, rfl, by omega⟩ | exact ⟨⟨_, rfl, rfl⟩, by decide, by decide, rfl, by omega⟩ | omega | decide)⟩ ?_
  refine ru_S hV [] sSX8_80 (qX8_isSlot l hs _ L) rfl rfl rfl (Nat.le_of_ble_eq_true rfl) ?_
  refine ru_go hV 3 [(0, 0)] rfl rfl ⟨trivial, (by decide)⟩ ?_
  refine ru_V hV [] sVX8_255 hK rfl rfl rfl rfl rfl (Nat.le_of_ble_eq_true rfl) ?_
  refine ru_fin hV 2 [] rfl rfl trivial ?_
  exact ⟨rfl, rfl, rfl⟩
theorem xX8_basis (l : Launch) {x y z : Int32} {n : Nat} (hx : ouR x 8 ∨ ouR z n) (h0 : 0 < n) (hn : n ≤ 5) {I : IM} (hd : I 1 0 = nI n) (L : LM) : KX8_basis l [.ref 0, .int x, .int y, .int z] I L (some (.int 0)) (mu I 0 7 1) L := by
  refine wX8_basis l rfl (hz0 (by decide)) (fun V hV => ?_)
  have hd' : mu I 0 7 0 1 0 = nI n := by rw [t7n (by decide)]; exact hd
  have tail : V 22 [(0, .ref 0), (1, .int x), (2, .int y), (3, .int z)] [.int 1, .ref 0] (mu I 0 7 0) L := by
    refine ru_V hV [] sVX8_70 (qX8_fails l 1 _ L) rfl rfl rfl rfl rfl (Nat.le_of_ble_eq_true rfl) ?_
    rw [mu_mu]
    refine ru_fin hV 1 [] rfl rfl trivial ?_
    exact ⟨rfl, rfl, rfl⟩
  refine ru_go hV 4 [] rfl rfl ⟨trivial, (by first | exact rfl | assumption | exact ⟨rfl, rfl⟩ | exact ⟨rfl, rfl, by omega⟩ | exact ⟨by assumption, rfl, by omega⟩ | exact ⟨⟨_, rfl, rfl⟩, by decide, by decide, rfl, by omega⟩ | omega | decide)⟩ ?_
  rcases ouR_or x 8 (by omega) with ⟨k, hk, rfl⟩ | h
  · have hy := hx.resolve_left (ouR_not hk (by decide))
    refine ru_S hV [] sSX8_80 (qX8_isSlot l hk _ L) rfl rfl rfl (Nat.le_of_ble_eq_true rfl) ?_
    refine ru_go hV 3 [(0, 0)] rfl rfl ⟨trivial, (by decide)⟩ ?_
    refine ru_V hV [] sVX8_76 (xX8_isDirection l hy h0 hn hd' L) rfl rfl rfl rfl rfl (Nat.le_of_ble_eq_true rfl) ?_
    refine ru_go hV 3 [(0, 0)] rfl rfl ⟨trivial, (fun e => e rfl)⟩ ?_
    exact tail
  · refine ru_S hV [] sSX8_80 (xX8_isSlot l h _ L) rfl rfl rfl (Nat.le_of_ble_eq_true rfl) ?_
    refine ru_go hV 3 [(1, 0)] rfl rfl ⟨trivial, (by first | exact rfl | assumption | exact ⟨rfl, rfl⟩ | exact ⟨rfl, rfl, by omega⟩ | exact ⟨by assumption, rfl, by omega⟩ | exact ⟨⟨_, rfl, rfl⟩, by decide, by decide, rfl, by omega⟩ | omega | decide)⟩ ?_
    exact tail
theorem zX8_basis (l : Launch) {s d n : Nat} {y : Int32} (hs : s < 8) (hdn : d < n) (hn : n ≤ 5) (hy : ouR y 5) {I : IM} (hd : I 1 0 = nI n) (L : LM) : KX8_basis l [.ref 0, .int (nI s), .int y, .int (nI d)] I L (some (.int 0)) (mu I 0 7 2) L := by
  refine wX8_basis l rfl (hz0 (by decide)) (fun V hV => ?_)
  have hd' : mu I 0 7 0 1 0 = nI n := by rw [t7n (by decide)]; exact hd
  refine ru_go hV 4 [] rfl rfl ⟨trivial, (by first | exact rfl | assumption | exact ⟨rfl, rfl⟩ | exact ⟨rfl, rfl, by omega⟩ | exact ⟨by assumption, rfl, by omega⟩ | exact ⟨⟨_, rfl, rfl⟩, by decide, by decide, rfl, by omega⟩ | omega | decide)⟩ ?_
  refine ru_S hV [] sSX8_80 (qX8_isSlot l hs _ L) rfl rfl rfl (Nat.le_of_ble_eq_true rfl) ?_
  refine ru_go hV 3 [(0, 0)] rfl rfl ⟨trivial, (by decide)⟩ ?_
  refine ru_V hV [] sVX8_76 (qX8_isDirection l hdn hn hd' L) rfl rfl rfl rfl rfl (Nat.le_of_ble_eq_true rfl) ?_
  refine ru_go hV 4 [(1, 0)] rfl rfl ⟨trivial, (by decide)⟩ ?_
  refine ru_S hV [] sSX8_54 (qX8_in l y 0 4 _ L) rfl rfl rfl (Nat.le_of_ble_eq_true rfl) ?_
  rw [in_04f hy]
  refine ru_go hV 3 [(0, 0)] rfl rfl ⟨trivial, (fun e => e rfl)⟩ ?_
  refine ru_V hV [] sVX8_70 (qX8_fails l 2 _ L) rfl rfl rfl rfl rfl (Nat.le_of_ble_eq_true rfl) ?_
  rw [mu_mu]
  refine ru_fin hV 1 [] rfl rfl trivial ?_
  exact ⟨rfl, rfl, rfl⟩
/-- a number of the basis, as the reference finds it -/
def baR (f : Nat → Int32) (n p d : Nat) : Int32 := if gmF f (2 ^ n) ≤ 60 then baG (slG f n n) n p d else NON
theorem slG_po {f : Nat → Int32} {n : Nat} (hn : n ≤ 5) : poLt (slG f n n).2.2.2 n := fun c r _ h => by
  have := sl_po (f := f) (n := n) n (by omega) c r h
  omega
theorem qX8_basis (l : Launch) {s p d n : Nat} (hs : s < 8) (hp : p < 5) (hdn : d < n) (hn : n ≤ 5) {I : IM} (hd : I 1 0 = nI n) (hr : gmF (frR I s) (2 ^ n) ≤ 60 → rwOK (slG (frR I s) n n) n) (L : LM) : ∃ I2 L2, RQ (mu I 0 7 0) I2 ∧ KX8_basis l [.ref 0, .int (nI s), .int (nI p), .int (nI d)] I L (some (.int (baR (frR I s) n p d))) I2 L2 := by
  have hd' : mu I 0 7 0 1 0 = nI n := by rw [t7n (by decide)]; exact hd
  obtain ⟨I2, L2, ⟨⟨h1, h2⟩, -⟩, hK⟩ := qX8_annihilatorOf l hs hn (by omega) hd' L
  rw [t7fr] at hK h2
  refine ⟨I2, L2, h1, wX8_basis l rfl (hz0 (by decide)) (fun V hV => ?_)⟩
  refine ru_go hV 4 [] rfl rfl ⟨trivial, (by first | exact rfl | assumption | exact ⟨rfl, rfl⟩ | exact ⟨rfl, rfl, by omega⟩ | exact ⟨by assumption, rfl, by omega⟩ | exact ⟨⟨_, rfl, rfl⟩, by decide, by decide, rfl, by omega⟩ | omega | decide)⟩ ?_
  refine ru_S hV [] sSX8_80 (qX8_isSlot l hs _ L) rfl rfl rfl (Nat.le_of_ble_eq_true rfl) ?_
  refine ru_go hV 3 [(0, 0)] rfl rfl ⟨trivial, (by decide)⟩ ?_
  refine ru_V hV [] sVX8_76 (qX8_isDirection l hdn hn hd' L) rfl rfl rfl rfl rfl (Nat.le_of_ble_eq_true rfl) ?_
  refine ru_go hV 4 [(1, 0)] rfl rfl ⟨trivial, (by decide)⟩ ?_
  refine ru_S hV [] sSX8_54 (qX8_in l (nI p) 0 4 _ L) rfl rfl rfl (Nat.le_of_ble_eq_true rfl) ?_
  rw [in_04 hp]
  refine ru_go hV 3 [(1, 0)] rfl rfl ⟨trivial, (by decide)⟩ ?_
  refine ru_V hV [] sVX8_255 hK rfl rfl rfl rfl rfl (Nat.le_of_ble_eq_true rfl) ?_
  unfold baR anR at *
  by_cases h : gmF (frR I s) (2 ^ n) ≤ 60
  · rw [if_pos h] at hV ⊢
    have hpv := (sl_ok (f := frR I s) (n := n) n).1
    have hb := qX8_basisOf l (p := p) (d := d) hn (by omega) hdn (by rw [h1.n]; exact hd') (h2 h) (slG_po hn) (sl_ok n).2 (hr h)
    refine ru_go hV 5 [(1, 0)] rfl rfl ⟨trivial, NON_ne (by omega)⟩ ?_
    refine ru_V hV [] sVX8_267 hb rfl rfl rfl rfl rfl (Nat.le_of_ble_eq_true rfl) ?_
    refine ru_fin hV 1 [] rfl rfl trivial ?_
    exact ⟨rfl, rfl, rfl⟩
  · rw [if_neg h] at hV ⊢
    refine ru_fin hV 5 [(0, 0)] rfl rfl ⟨trivial, (fun e => e rfl)⟩ ?_
    exact ⟨rfl, rfl, rfl⟩
theorem qX8_refusedOf (l : Launch) {w a b n : Nat} (hw : w < 4) (ha : a < 8) (hb : b < 8) (hn : n ≤ 5) {I : IM} (hd : I 1 0 = nI n) (L : LM) : ∃ L2, L2 0 23 = L 0 23 ∧ KX8_refusedOf l [.ref 0, .int (nI w), .int (nI a), .int (nI b)] I L (some (.int (fsI (ftO (rfR I n w a b) (2 ^ n))))) I L2 := by
  obtain ⟨L2, ⟨h, h0⟩, hK⟩ := qX8_layByH l hw ha hb hn hd L
  have hby := qX8_beyond l hn hd L2
  rw [show ftO (L2 8) (2 ^ n) = ftO (rfR I n w a b) (2 ^ n) from fsO_cong (fun k hk => by rw [h k hk])] at hby
  refine ⟨L2, h0, wX8_refusedOf l rfl (hz0 (by decide)) (fun V hV => ?_)⟩
  refine ru_go hV 4 [] rfl rfl trivial ?_
  refine ru_V hV [] sVX8_131 hK rfl rfl rfl rfl rfl (Nat.le_of_ble_eq_true rfl) ?_
  refine ru_go hV 1 [] rfl rfl trivial ?_
  refine ru_V hV [] sVX8_125 hby rfl rfl rfl rfl rfl (Nat.le_of_ble_eq_true rfl) ?_
  refine ru_fin hV 1 [] rfl rfl trivial ?_
  exact ⟨rfl, rfl, rfl⟩
theorem xX8_refused (l : Launch) {w x y : Int32} (h : ouR x 8 ∨ ouR y 8) (I : IM) (L : LM) : KX8_refused l [.ref 0, .int w, .int x, .int y] I L (some (.int 0)) (mu I 0 7 1) L := by
  refine wX8_refused l rfl (hz0 (by decide)) (fun V hV => ?_)
  have tail : V 21 [(0, .ref 0), (1, .int w), (2, .int x), (3, .int y)] [.int 1, .ref 0] (mu I 0 7 0) L := by
    refine ru_V hV [] sVX8_70 (qX8_fails l 1 _ L) rfl rfl rfl rfl rfl (Nat.le_of_ble_eq_true rfl) ?_
    rw [mu_mu]
    refine ru_fin hV 1 [] rfl rfl trivial ?_
    exact ⟨rfl, rfl, rfl⟩
  refine ru_go hV 4 [] rfl rfl ⟨trivial, (by first | exact rfl | assumption | exact ⟨rfl, rfl⟩ | exact ⟨rfl, rfl, by omega⟩ | exact ⟨by assumption, rfl, by omega⟩ | exact ⟨⟨_, rfl, rfl⟩, by decide, by decide, rfl, by omega⟩ | omega | decide)⟩ ?_
  rcases ouR_or x 8 (by omega) with ⟨k, hk, rfl⟩ | hx
  · have h := h.resolve_left (ouR_not hk (by decide))
    refine ru_S hV [] sSX8_80 (qX8_isSlot l hk _ L) rfl rfl rfl (Nat.le_of_ble_eq_true rfl) ?_
    refine ru_go hV 2 [(0, 0)] rfl rfl ⟨trivial, (by decide)⟩ ?_
    refine ru_S hV [] sSX8_80 (xX8_isSlot l h _ L) rfl rfl rfl (Nat.le_of_ble_eq_true rfl) ?_
    refine ru_go hV 3 [(0, 0)] rfl rfl ⟨trivial, (fun e => e rfl)⟩ ?_
    exact tail
  · refine ru_S hV [] sSX8_80 (xX8_isSlot l hx _ L) rfl rfl rfl (Nat.le_of_ble_eq_true rfl) ?_
    refine ru_go hV 3 [(1, 0)] rfl rfl ⟨trivial, (by first | exact rfl | assumption | exact ⟨rfl, rfl⟩ | exact ⟨rfl, rfl, by omega⟩ | exact ⟨by assumption, rfl, by omega⟩ | exact ⟨⟨_, rfl, rfl⟩, by decide, by decide, rfl, by omega⟩ | omega | decide)⟩ ?_
    exact tail
theorem zX8_refused (l : Launch) {a b : Nat} {w : Int32} (ha : a < 8) (hb : b < 8) (h : ouR w 4) (I : IM) (L : LM) : KX8_refused l [.ref 0, .int w, .int (nI a), .int (nI b)] I L (some (.int 0)) (mu I 0 7 2) L := by
  refine wX8_refused l rfl (hz0 (by decide)) (fun V hV => ?_)
  refine ru_go hV 4 [] rfl rfl ⟨trivial, (by first | exact rfl | assumption | exact ⟨rfl, rfl⟩ | exact ⟨rfl, rfl, by omega⟩ | exact ⟨by assumption, rfl, by omega⟩ | exact ⟨⟨_, rfl, rfl⟩, by decide, by decide, rfl, by omega⟩ | omega | decide)⟩ ?_
  refine ru_S hV [] sSX8_80 (qX8_isSlot l ha _ L) rfl rfl rfl (Nat.le_of_ble_eq_true rfl) ?_
  refine ru_go hV 2 [(0, 0)] rfl rfl ⟨trivial, (by decide)⟩ ?_
  refine ru_S hV [] sSX8_80 (qX8_isSlot l hb _ L) rfl rfl rfl (Nat.le_of_ble_eq_true rfl) ?_
  refine ru_go hV 4 [(1, 0)] rfl rfl ⟨trivial, (by decide)⟩ ?_
  refine ru_S hV [] sSX8_54 (qX8_in l w 0 3 _ L) rfl rfl rfl (Nat.le_of_ble_eq_true rfl) ?_
  rw [show b2i (decide ((0 : Int32) ≤ w ∧ w ≤ 3)) = 0 from in_f (m := 4) h (by decide) (by decide)]
  refine ru_go hV 3 [(1, 0)] rfl rfl ⟨trivial, (by first | exact rfl | assumption | exact ⟨rfl, rfl⟩ | exact ⟨rfl, rfl, by omega⟩ | exact ⟨by assumption, rfl, by omega⟩ | exact ⟨⟨_, rfl, rfl⟩, by decide, by decide, rfl, by omega⟩ | omega | decide)⟩ ?_
  refine ru_V hV [] sVX8_70 (qX8_fails l 2 _ L) rfl rfl rfl rfl rfl (Nat.le_of_ble_eq_true rfl) ?_
  rw [mu_mu]
  refine ru_fin hV 1 [] rfl rfl trivial ?_
  exact ⟨rfl, rfl, rfl⟩
theorem qX8_refused (l : Launch) {w a b n : Nat} (hw : w < 4) (ha : a < 8) (hb : b < 8) (hn : n ≤ 5) {I : IM} (hd : I 1 0 = nI n) (L : LM) : ∃ L2, KX8_refused l [.ref 0, .int (nI w), .int (nI a), .int (nI b)] I L (some (.int (fsI (ftO (rfR I n w a b) (2 ^ n))))) (mu I 0 7 0) L2 := by
  obtain ⟨L2, -, hK⟩ := qX8_refusedOf l hw ha hb hn (I := mu I 0 7 0) (by rw [t7n (by decide)]; exact hd) L
  rw [rf_t7] at hK
  refine ⟨L2, wX8_refused l rfl (hz0 (by decide)) (fun V hV => ?_)⟩
  refine ru_go hV 4 [] rfl rfl ⟨trivial, (by first | exact rfl | assumption | exact ⟨rfl, rfl⟩ | exact ⟨rfl, rfl, by omega⟩ | exact ⟨by assumption, rfl, by omega⟩ | exact ⟨⟨_, rfl, rfl⟩, by decide, by decide, rfl, by omega⟩ | omega | decide)⟩ ?_
  refine ru_S hV [] sSX8_80 (qX8_isSlot l ha _ L) rfl rfl rfl (Nat.le_of_ble_eq_true rfl) ?_
  refine ru_go hV 2 [(0, 0)] rfl rfl ⟨trivial, (by decide)⟩ ?_
  refine ru_S hV [] sSX8_80 (qX8_isSlot l hb _ L) rfl rfl rfl (Nat.le_of_ble_eq_true rfl) ?_
  refine ru_go hV 4 [(1, 0)] rfl rfl ⟨trivial, (by decide)⟩ ?_
  refine ru_S hV [] sSX8_54 (qX8_in l (nI w) 0 3 _ L) rfl rfl rfl (Nat.le_of_ble_eq_true rfl) ?_
  rw [show b2i (decide ((0 : Int32) ≤ nI w ∧ nI w ≤ 3)) = 1 from in_t (m := 4) hw (by decide)]
  refine ru_go hV 5 [(0, 0)] rfl rfl ⟨trivial, (by decide)⟩ ?_
  refine ru_V hV [] sVX8_270 hK rfl rfl rfl rfl rfl (Nat.le_of_ble_eq_true rfl) ?_
  refine ru_fin hV 2 [] rfl rfl trivial ?_
  exact ⟨rfl, rfl, rfl⟩
def cmR (f g : Nat → Int32) (n : Nat) : Int32 := if smB f g (2 ^ n) then 0 else if lkB f g (2 ^ n) then 1 else if alz (wC f g (2 ^ n)) (2 ^ n) then 2 else 3
def lkP (f g : Nat → Int32) (B k : Nat) : Bool := match ldO f B with
  | none => false
  | some q => decide (g q ≠ 0) && (fsO (fun k => decide ((f k).toInt64 * (g q).toInt64 ≠ (g k).toInt64 * (f q).toInt64)) k).isNone
theorem lkP_none {f g : Nat → Int32} {B k : Nat} (h : ldO f B = none) : lkP f g B k = false := by unfold lkP; rw [h]
theorem lkP_some {f g : Nat → Int32} {B k q : Nat} (h : ldO f B = some q) : lkP f g B k = (decide (g q ≠ 0) && (fsO (fun k => decide ((f k).toInt64 * (g q).toInt64 ≠ (g k).toInt64 * (f q).toInt64)) k).isNone) := by unfold lkP; rw [h]
theorem smB_su {f g : Nat → Int32} {k : Nat} : smB f g (k + 1) = (smB f g k && decide (f k = g k)) := by
  unfold smB
  rw [fsO_su]
  congr 1
  by_cases h : f k = g k <;> simp [h]
theorem qX8_compareOf (l : Launch) {a b n : Nat} (ha : a < 8) (hb : b < 8) (hn : n ≤ 5) {I : IM} (hd : I 1 0 = nI n) (L : LM) : ∃ L2, L2 0 23 = L 0 23 ∧ KX8_compareOf l [.ref 0, .int (nI a), .int (nI b)] I L (some (.int (cmR (frR I a) (frR I b) n))) I L2 := by
  obtain ⟨L2, ⟨h2, h0⟩, hK⟩ := qX8_layByH l (w := 1) (by decide) ha hb hn hd L
  have he := qX8_isResultEmpty l hn hd L2
  rw [show alz (L2 8) (2 ^ n) = alz (wC (frR I a) (frR I b) (2 ^ n)) (2 ^ n) from alz_cong (fun k hk => h2 k hk)] at he
  obtain ⟨hB, -⟩ := pow_le32 n hn
  have hbl := qX8_blades l hn hd L
  have hle := qX8_lead l ha hn hd L
  have ex : ∀ V : Nat → LV → List Value → IM → LM → Prop, ∀ L3, Ru l kdR 12 RX8 cX8_compareOf rmX8_compareOf FX8 tX8_compareOf V (fun st J K => st = (some (Value.int (cmR (frR I a) (frR I b) n))).toList ∧ J = I ∧ K = L3) → (smB (frR I a) (frR I b) (2 ^ n) = true ∨ lkB (frR I a) (frR I b) (2 ^ n) = true → L3 = L) → (¬ (smB (frR I a) (frR I b) (2 ^ n) = true ∨ lkB (frR I a) (frR I b) (2 ^ n) = true) → L3 = L2) → V 0 [(0, .ref 0), (1, .int (nI a)), (2, .int (nI b))] [] I L := by
    intro V L3 hV h3 h4
    have fin : ∀ x, V 128 [(0, .ref 0), (1, .int (nI a)), (2, .int (nI b)), (3, .int (b2i (smB (frR I a) (frR I b) (2 ^ n)))), (4, .int x), (5, .int (b2i (lkB (frR I a) (frR I b) (2 ^ n)))), (6, .int (nI (2 ^ n)))] [] I L := by
      intro x
      cases hs : smB (frR I a) (frR I b) (2 ^ n) with
      | true =>
        rw [show cmR (frR I a) (frR I b) n = 0 by unfold cmR; rw [hs]; rfl] at hV
        have := h3 (Or.inl hs)
        subst this
        refine ru_fin hV 7 [(1, 0), (0, 0)] rfl rfl ⟨⟨trivial, (by decide)⟩, (by decide)⟩ ?_
        exact ⟨rfl, rfl, rfl⟩
      | false =>
        cases hl : lkB (frR I a) (frR I b) (2 ^ n) with
        | true =>
          rw [show cmR (frR I a) (frR I b) n = 1 by unfold cmR; rw [hs, hl]; rfl] at hV
          have := h3 (Or.inr hl)
          subst this
          refine ru_fin hV 8 [(0, 0), (0, 0), (1, 0)] rfl rfl ⟨⟨⟨trivial, (by decide)⟩, (by decide)⟩, rfl⟩ ?_
          exact ⟨rfl, rfl, rfl⟩
        | false =>
          have := h4 (by rw [hs, hl]; simp)
          subst this
          refine ru_go hV 8 [(0, 0), (1, 0)] rfl rfl ⟨⟨trivial, (by decide)⟩, rfl⟩ ?_
          refine ru_V hV [] sVX8_131 hK rfl rfl rfl rfl rfl (Nat.le_of_ble_eq_true rfl) ?_
          refine ru_go hV 1 [] rfl rfl trivial ?_
          refine ru_V hV [] sVX8_214 he rfl rfl rfl rfl rfl (Nat.le_of_ble_eq_true rfl) ?_
          cases hz : alz (wC (frR I a) (frR I b) (2 ^ n)) (2 ^ n) with
          | true =>
            rw [show cmR (frR I a) (frR I b) n = 2 by unfold cmR; rw [hs, hl, hz]; rfl] at hV
            refine ru_fin hV 4 [(0, 0)] rfl rfl ⟨trivial, (by decide)⟩ ?_
            exact ⟨rfl, rfl, rfl⟩
          | false =>
            rw [show cmR (frR I a) (frR I b) n = 3 by unfold cmR; rw [hs, hl, hz]; rfl] at hV
            refine ru_fin hV 3 [(1, 0)] rfl rfl ⟨trivial, rfl⟩ ?_
            exact ⟨rfl, rfl, rfl⟩
    have hlkB : lkB (frR I a) (frR I b) (2 ^ n) = lkP (frR I a) (frR I b) (2 ^ n) (2 ^ n) := rfl
    rw [hlkB] at fin
    generalize hB2 : 2 ^ n = B at hB hbl hle fin ⊢
    have loop : ∀ x, x = ldI (frR I a) B → V 36 [(0, .ref 0), (1, .int (nI a)), (2, .int (nI b)), (3, .int 1), (4, .int x), (5, .int (b2i (lkP (frR I a) (frR I b) B 0))), (6, .int 0)] [] I L := by
      intro x hx
      refine loop0 (P := fun k => V 36 [(0, .ref 0), (1, .int (nI a)), (2, .int (nI b)), (3, .int (b2i (smB (frR I a) (frR I b) k))), (4, .int x), (5, .int (b2i (lkP (frR I a) (frR I b) B k))), (6, .int (nI k))] [] I L) B (fun h => h) (fun k hk ih => ?_) ?_
      · have ak := qX8_at l ha (k := k) (by omega) I L
        have bk := qX8_at l hb (k := k) (by omega) I L
        have t2 : ∀ y, y = b2i (smB (frR I a) (frR I b) (k + 1)) → V 71 [(0, .ref 0), (1, .int (nI a)), (2, .int (nI b)), (3, .int (b2i (smB (frR I a) (frR I b) k))), (4, .int x), (5, .int (b2i (lkP (frR I a) (frR I b) B k))), (6, .int (nI k))] [.int y] I L := by
          intro y hy
          subst hy
          have t3 : ∀ y, y = b2i (lkP (frR I a) (frR I b) B (k + 1)) → V 120 [(0, .ref 0), (1, .int (nI a)), (2, .int (nI b)), (3, .int (b2i (smB (frR I a) (frR I b) (k + 1)))), (4, .int x), (5, .int (b2i (lkP (frR I a) (frR I b) B k))), (6, .int (nI k))] [.int y] I L := by
            intro y hy
            subst hy
            refine ru_go hV 3 [] rfl rfl trivial ?_
            rw [nI_1]
            exact ih
          cases ho : ldO (frR I a) B with
          | none =>
            rw [lkP_none ho, lkP_none ho] at t3
            rw [lkP_none ho]
            refine ru_go hV 4 [(1, 0)] rfl rfl ⟨trivial, rfl⟩ ?_
            exact t3 0 rfl
          | some q =>
            rw [lkP_some ho, lkP_some ho] at t3
            rw [lkP_some ho]
            have hq := (ldO_some ho).1
            have ex : x = nI q := by rw [hx, ldI, ho]
            subst ex
            have aq := qX8_at l ha (k := q) (by omega) I L
            have bq := qX8_at l hb (k := q) (by omega) I L
            rw [fsO_su, ← Bool.and_assoc] at t3
            generalize (decide (frR I b q ≠ 0) && (fsO (fun k => decide ((frR I a k).toInt64 * (frR I b q).toInt64 ≠ (frR I b k).toInt64 * (frR I a q).toInt64)) k).isNone) = z at t3 ⊢
            cases z with
            | false =>
              refine ru_go hV 4 [(1, 0)] rfl rfl ⟨trivial, rfl⟩ ?_
              exact t3 0 rfl
            | true =>
              refine ru_go hV 6 [(0, 0)] rfl rfl ⟨trivial, (by decide)⟩ ?_
              refine ru_V hV [] sVX8_88 ak rfl rfl rfl rfl rfl (Nat.le_of_ble_eq_true rfl) ?_
              refine ru_go hV 4 [] rfl rfl trivial ?_
              refine ru_V hV [.long _] sVX8_88 bq rfl rfl rfl rfl rfl (Nat.le_of_ble_eq_true rfl) ?_
              refine ru_go hV 5 [] rfl rfl trivial ?_
              refine ru_V hV [.long _] sVX8_88 bk rfl rfl rfl rfl rfl (Nat.le_of_ble_eq_true rfl) ?_
              refine ru_go hV 4 [] rfl rfl trivial ?_
              refine ru_V hV [.long _, .long _] sVX8_88 aq rfl rfl rfl rfl rfl (Nat.le_of_ble_eq_true rfl) ?_
              by_cases e : (frR I a k).toInt64 * (frR I b q).toInt64 = (frR I b k).toInt64 * (frR I a q).toInt64
              · refine ru_go hV 6 [(0, 0)] rfl rfl ⟨trivial, (fun z => z ((lg_cmp0 _ _).mpr e))⟩ ?_
                exact t3 1 (by simp [e]; rfl)
              · refine ru_go hV 5 [(1, 0)] rfl rfl ⟨trivial, (fun z => e ((lg_cmp0 _ _).mp z))⟩ ?_
                exact t3 0 (by simp [e]; rfl)
        refine ru_go hV 2 [] rfl rfl trivial ?_
        refine ru_V hV [.int (nI k)] sVX8_58 hbl rfl rfl rfl rfl rfl (Nat.le_of_ble_eq_true rfl) ?_
        rw [smB_su] at t2
        generalize smB (frR I a) (frR I b) k = z at t2 ⊢
        cases z with
        | false =>
          refine ru_go hV 4 [(0, 0), (1, 0)] rfl rfl ⟨⟨trivial, nI_nge hk (by omega)⟩, rfl⟩ ?_
          exact t2 0 rfl
        | true =>
          refine ru_go hV 6 [(0, 0), (0, 0)] rfl rfl ⟨⟨trivial, nI_nge hk (by omega)⟩, (by decide)⟩ ?_
          refine ru_V hV [] sVX8_88 ak rfl rfl rfl rfl rfl (Nat.le_of_ble_eq_true rfl) ?_
          refine ru_go hV 3 [] rfl rfl trivial ?_
          refine ru_V hV [.int _] sVX8_88 bk rfl rfl rfl rfl rfl (Nat.le_of_ble_eq_true rfl) ?_
          by_cases e : frR I a k = frR I b k
          · refine ru_go hV 3 [(0, 0)] rfl rfl ⟨trivial, (fun z => z e)⟩ ?_
            exact t2 1 (by simp [e]; rfl)
          · refine ru_go hV 2 [(1, 0)] rfl rfl ⟨trivial, e⟩ ?_
            exact t2 0 (by simp [e]; rfl)
      · refine ru_go hV 2 [] rfl rfl trivial ?_
        refine ru_V hV [.int (nI B)] sVX8_58 hbl rfl rfl rfl rfl rfl (Nat.le_of_ble_eq_true rfl) ?_
        refine ru_go hV 1 [(1, 0)] rfl rfl ⟨trivial, nI_le (Nat.le_refl B) (by omega)⟩ ?_
        exact fin x
    refine ru_go hV 4 [] rfl rfl trivial ?_
    refine ru_V hV [] sVX8_197 hle rfl rfl rfl rfl rfl (Nat.le_of_ble_eq_true rfl) ?_
    unfold lkP at loop
    cases ho : ldO (frR I a) B with
    | none =>
      simp only [ho] at loop
      have e : ldI (frR I a) B = NON := by rw [ldI, ho]
      rw [e] at loop ⊢
      refine ru_go hV 8 [(1, 0)] rfl rfl ⟨trivial, rfl⟩ ?_
      exact loop NON rfl
    | some q =>
      simp only [ho] at loop
      have hq := (ldO_some ho).1
      have e : ldI (frR I a) B = nI q := by rw [ldI, ho]
      rw [e] at loop ⊢
      have loop := loop (nI q) rfl
      refine ru_go hV 7 [(0, 0)] rfl rfl ⟨trivial, NON_ne (by omega)⟩ ?_
      refine ru_V hV [] sVX8_88 (qX8_at l hb (k := q) (by omega) I L) rfl rfl rfl rfl rfl (Nat.le_of_ble_eq_true rfl) ?_
      by_cases e2 : frR I b q = 0
      · rw [decide_eq_false (fun z => z e2)] at loop
        refine ru_go hV 5 [(1, 0)] rfl rfl ⟨trivial, e2⟩ ?_
        exact loop
      · rw [decide_eq_true e2] at loop
        refine ru_go hV 6 [(0, 0)] rfl rfl ⟨trivial, e2⟩ ?_
        exact loop
  by_cases h : smB (frR I a) (frR I b) (2 ^ n) = true ∨ lkB (frR I a) (frR I b) (2 ^ n) = true
  · exact ⟨L, rfl, wX8_compareOf l rfl (hz0 (by decide)) (fun V hV => ex V L hV (fun _ => rfl) (fun e => absurd h e))⟩
  · exact ⟨L2, h0, wX8_compareOf l rfl (hz0 (by decide)) (fun V hV => ex V L2 hV (fun e => absurd e h) (fun _ => rfl))⟩
theorem xX8_compare (l : Launch) {x y : Int32} (h : ouR x 8 ∨ ouR y 8) (I : IM) (L : LM) : KX8_compare l [.ref 0, .int x, .int y] I L (some (.int 0)) (mu I 0 7 1) L := by
  refine wX8_compare l rfl (hz0 (by decide)) (fun V hV => ?_)
  have tail : V 30 [(0, .ref 0), (1, .int x), (2, .int y)] [.int 1, .ref 0] (mu I 0 7 0) L := by
    refine ru_V hV [] sVX8_70 (qX8_fails l 1 _ L) rfl rfl rfl rfl rfl (Nat.le_of_ble_eq_true rfl) ?_
    rw [mu_mu]
    refine ru_fin hV 1 [] rfl rfl trivial ?_
    exact ⟨rfl, rfl, rfl⟩
  refine ru_go hV 4 [] rfl rfl ⟨trivial, (by first | exact rfl | assumption | exact ⟨rfl, rfl⟩ | exact ⟨rfl, rfl, by omega⟩ | exact ⟨by assumption, rfl, by omega⟩ | exact ⟨⟨_, rfl, rfl⟩, by decide, by decide, rfl, by omega⟩ | omega | decide)⟩ ?_
  rcases ouR_or x 8 (by omega) with ⟨k, hk, rfl⟩ | hx
  · have h := h.resolve_left (ouR_not hk (by decide))
    refine ru_S hV [] sSX8_80 (qX8_isSlot l hk _ L) rfl rfl rfl (Nat.le_of_ble_eq_true rfl) ?_
    refine ru_go hV 2 [(0, 0)] rfl rfl ⟨trivial, (by decide)⟩ ?_
    refine ru_S hV [] sSX8_80 (xX8_isSlot l h _ L) rfl rfl rfl (Nat.le_of_ble_eq_true rfl) ?_
    refine ru_go hV 3 [(1, 0)] rfl rfl ⟨trivial, (by first | exact rfl | assumption | exact ⟨rfl, rfl⟩ | exact ⟨rfl, rfl, by omega⟩ | exact ⟨by assumption, rfl, by omega⟩ | exact ⟨⟨_, rfl, rfl⟩, by decide, by decide, rfl, by omega⟩ | omega | decide)⟩ ?_
    exact tail
  · refine ru_S hV [] sSX8_80 (xX8_isSlot l hx _ L) rfl rfl rfl (Nat.le_of_ble_eq_true rfl) ?_
    refine ru_go hV 3 [(1, 0)] rfl rfl ⟨trivial, (by first | exact rfl | assumption | exact ⟨rfl, rfl⟩ | exact ⟨rfl, rfl, by omega⟩ | exact ⟨by assumption, rfl, by omega⟩ | exact ⟨⟨_, rfl, rfl⟩, by decide, by decide, rfl, by omega⟩ | omega | decide)⟩ ?_
    exact tail
theorem qX8_compare (l : Launch) {a b n : Nat} (ha : a < 8) (hb : b < 8) (hn : n ≤ 5) {I : IM} (hd : I 1 0 = nI n) (L : LM) : ∃ L2, KX8_compare l [.ref 0, .int (nI a), .int (nI b)] I L (some (.int (cmR (frR I a) (frR I b) n))) (mu I 0 7 0) L2 := by
  obtain ⟨L2, -, hK⟩ := qX8_compareOf l ha hb hn (I := mu I 0 7 0) (by rw [t7n (by decide)]; exact hd) L
  rw [t7fr, t7fr] at hK
  refine ⟨L2, wX8_compare l rfl (hz0 (by decide)) (fun V hV => ?_)⟩
  refine ru_go hV 4 [] rfl rfl ⟨trivial, (by first | exact rfl | assumption | exact ⟨rfl, rfl⟩ | exact ⟨rfl, rfl, by omega⟩ | exact ⟨by assumption, rfl, by omega⟩ | exact ⟨⟨_, rfl, rfl⟩, by decide, by decide, rfl, by omega⟩ | omega | decide)⟩ ?_
  refine ru_S hV [] sSX8_80 (qX8_isSlot l ha _ L) rfl rfl rfl (Nat.le_of_ble_eq_true rfl) ?_
  refine ru_go hV 2 [(0, 0)] rfl rfl ⟨trivial, (by decide)⟩ ?_
  refine ru_S hV [] sSX8_80 (qX8_isSlot l hb _ L) rfl rfl rfl (Nat.le_of_ble_eq_true rfl) ?_
  refine ru_go hV 4 [(0, 0)] rfl rfl ⟨trivial, (by decide)⟩ ?_
  refine ru_V hV [] sVX8_273 hK rfl rfl rfl rfl rfl (Nat.le_of_ble_eq_true rfl) ?_
  refine ru_fin hV 2 [] rfl rfl trivial ?_
  exact ⟨rfl, rfl, rfl⟩
theorem xX8_matrixAt (l : Launch) {x y : Int32} {n : Nat} (hx : ouR x n ∨ ouR y n) (h0 : 0 < n) (hn : n ≤ 5) {I : IM} (hd : I 1 0 = nI n) (L : LM) : KX8_matrixAt l [.ref 0, .int x, .int y] I L (some (.int 0)) (mu I 0 7 1) L := by
  refine wX8_matrixAt l rfl (hz0 (by decide)) (fun V hV => ?_)
  have hd' : mu I 0 7 0 1 0 = nI n := by rw [t7n (by decide)]; exact hd
  have tail : V 39 [(0, .ref 0), (1, .int x), (2, .int y)] [.int 1, .ref 0] (mu I 0 7 0) L := by
    refine ru_V hV [] sVX8_70 (qX8_fails l 1 _ L) rfl rfl rfl rfl rfl (Nat.le_of_ble_eq_true rfl) ?_
    rw [mu_mu]
    refine ru_fin hV 1 [] rfl rfl trivial ?_
    exact ⟨rfl, rfl, rfl⟩
  refine ru_go hV 5 [] rfl rfl ⟨trivial, (by first | exact rfl | assumption | exact ⟨rfl, rfl⟩ | exact ⟨rfl, rfl, by omega⟩ | exact ⟨by assumption, rfl, by omega⟩ | exact ⟨⟨_, rfl, rfl⟩, by decide, by decide, rfl, by omega⟩ | omega | decide)⟩ ?_
  rcases ouR_or x n (by omega) with ⟨k, hk, rfl⟩ | h
  · have hy := hx.resolve_left (ouR_not hk (by omega))
    refine ru_V hV [] sVX8_76 (qX8_isDirection l hk hn hd' L) rfl rfl rfl rfl rfl (Nat.le_of_ble_eq_true rfl) ?_
    refine ru_go hV 3 [(0, 0)] rfl rfl ⟨trivial, (by decide)⟩ ?_
    refine ru_V hV [] sVX8_76 (xX8_isDirection l hy h0 hn hd' L) rfl rfl rfl rfl rfl (Nat.le_of_ble_eq_true rfl) ?_
    refine ru_go hV 3 [(1, 0)] rfl rfl ⟨trivial, (by first | exact rfl | assumption | exact ⟨rfl, rfl⟩ | exact ⟨rfl, rfl, by omega⟩ | exact ⟨by assumption, rfl, by omega⟩ | exact ⟨⟨_, rfl, rfl⟩, by decide, by decide, rfl, by omega⟩ | omega | decide)⟩ ?_
    exact tail
  · refine ru_V hV [] sVX8_76 (xX8_isDirection l h h0 hn hd' L) rfl rfl rfl rfl rfl (Nat.le_of_ble_eq_true rfl) ?_
    refine ru_go hV 3 [(1, 0)] rfl rfl ⟨trivial, (by first | exact rfl | assumption | exact ⟨rfl, rfl⟩ | exact ⟨rfl, rfl, by omega⟩ | exact ⟨by assumption, rfl, by omega⟩ | exact ⟨⟨_, rfl, rfl⟩, by decide, by decide, rfl, by omega⟩ | omega | decide)⟩ ?_
    exact tail
theorem qX8_matrixAt (l : Launch) {r c n : Nat} (hr : r < n) (hc : c < n) (hn : n ≤ 5) {I : IM} (hd : I 1 0 = nI n) (L : LM) : KX8_matrixAt l [.ref 0, .int (nI r), .int (nI c)] I L (some (.int (I 1 (6 + 5 * r + c)))) (mu I 0 7 0) L := by
  refine wX8_matrixAt l rfl (hz0 (by decide)) (fun V hV => ?_)
  have hd' : mu I 0 7 0 1 0 = nI n := by rw [t7n (by decide)]; exact hd
  refine ru_go hV 5 [] rfl rfl ⟨trivial, (by first | exact rfl | assumption | exact ⟨rfl, rfl⟩ | exact ⟨rfl, rfl, by omega⟩ | exact ⟨by assumption, rfl, by omega⟩ | exact ⟨⟨_, rfl, rfl⟩, by decide, by decide, rfl, by omega⟩ | omega | decide)⟩ ?_
  refine ru_V hV [] sVX8_76 (qX8_isDirection l hr hn hd' L) rfl rfl rfl rfl rfl (Nat.le_of_ble_eq_true rfl) ?_
  refine ru_go hV 3 [(0, 0)] rfl rfl ⟨trivial, (by decide)⟩ ?_
  refine ru_V hV [] sVX8_76 (qX8_isDirection l hc hn hd' L) rfl rfl rfl rfl rfl (Nat.le_of_ble_eq_true rfl) ?_
  refine ru_fin hV 13 [(0, 0), (1, 0), ((6+5*r+c), 296)] rfl rfl ⟨⟨⟨trivial, (by decide)⟩, (by first | exact rfl | assumption | exact ⟨rfl, rfl⟩ | exact ⟨rfl, rfl, by omega⟩ | exact ⟨by assumption, rfl, by omega⟩ | exact ⟨⟨_, rfl, rfl⟩, by decide, by decide, rfl, by omega⟩ | omega | decide)⟩, ⟨rfl, ix_mx r c, by omega⟩⟩ ?_
  rw [t7n (by decide)]
  exact ⟨rfl, rfl, rfl⟩
