/-! the reference: settings -/
theorem t7 {I : IM} {x : Int32} {j : Nat} (h : j ≠ 7) : mu I 0 7 x 0 j = I 0 j := by simp [mu, h]
theorem t7n {I : IM} {x : Int32} {a : Nat} (h : a ≠ 0) : mu I 0 7 x a = I a := mu_ne _ _ h
theorem xX8_begin (l : Launch) {x : Int32} (h : ¬ (2 ≤ x ∧ x ≤ 5)) (I : IM) (L : LM) : KX8_begin l [.ref 0, .int x] I L (some (.int 0)) (mu I 0 7 1) L := by
  refine wX8_begin l rfl (hz0 (by decide)) (fun V hV => ?_)
  refine ru_go hV 6 [] rfl rfl ⟨trivial, (by first | exact rfl | assumption | exact ⟨rfl, rfl⟩ | exact ⟨rfl, rfl, by omega⟩ | exact ⟨by assumption, rfl, by omega⟩ | exact ⟨⟨_, rfl, rfl⟩, by decide, by decide, rfl, by omega⟩ | omega | decide)⟩ ?_
  refine ru_S hV [] sSX8_54 (qX8_in l x 2 5 _ L) rfl rfl rfl (Nat.le_of_ble_eq_true rfl) ?_
  rw [decide_eq_false h]
  refine ru_go hV 3 [(0, 0)] rfl rfl ⟨trivial, (fun e => e rfl)⟩ ?_
  refine ru_V hV [] sVX8_70 (qX8_fails l 1 _ L) rfl rfl rfl rfl rfl (Nat.le_of_ble_eq_true rfl) ?_
  rw [mu_mu]
  refine ru_fin hV 1 [] rfl rfl trivial ?_
  exact ⟨rfl, rfl, rfl⟩
theorem qX8_begin (l : Launch) {n q : Nat} (hn2 : 2 ≤ n) (hn : n ≤ 5) (hq : q ≤ 6) {I : IM} (h2 : I 0 2 = nI q) (L : LM) : KX8_begin l [.ref 0, .int (nI n)] I L (some (.int (I 1 0))) (lpR (mu (svR (mu I 0 7 0) q) 1 0 (nI n))) L := by
  refine wX8_begin l rfl (hz0 (by decide)) (fun V hV => ?_)
  refine ru_go hV 6 [] rfl rfl ⟨trivial, (by first | exact rfl | assumption | exact ⟨rfl, rfl⟩ | exact ⟨rfl, rfl, by omega⟩ | exact ⟨by assumption, rfl, by omega⟩ | exact ⟨⟨_, rfl, rfl⟩, by decide, by decide, rfl, by omega⟩ | omega | decide)⟩ ?_
  refine ru_S hV [] sSX8_54 (qX8_in l (nI n) 2 5 _ L) rfl rfl rfl (Nat.le_of_ble_eq_true rfl) ?_
  rw [decide_eq_true ⟨nI_le (a := 2) hn2 (by omega), nI_le (b := 5) hn (by omega)⟩]
  refine ru_go hV 2 [(1, 0)] rfl rfl ⟨trivial, (by decide)⟩ ?_
  refine ru_V hV [] sVX8_73 (qX8_save l hq (I := mu I 0 7 0) (by rw [t7 (by decide)]; exact h2) L) rfl rfl rfl rfl rfl (Nat.le_of_ble_eq_true rfl) ?_
  refine ru_go hV 11 [(1, 0), (0, 296), (1, 0), (0, 296)] rfl rfl ⟨⟨⟨⟨trivial, (by first | exact rfl | assumption | exact ⟨rfl, rfl⟩ | exact ⟨rfl, rfl, by omega⟩ | exact ⟨by assumption, rfl, by omega⟩ | exact ⟨⟨_, rfl, rfl⟩, by decide, by decide, rfl, by omega⟩ | omega | decide)⟩, (by first | exact rfl | assumption | exact ⟨rfl, rfl⟩ | exact ⟨rfl, rfl, by omega⟩ | exact ⟨by assumption, rfl, by omega⟩ | exact ⟨⟨_, rfl, rfl⟩, by decide, by decide, rfl, by omega⟩ | omega | decide)⟩, (by first | exact rfl | assumption | exact ⟨rfl, rfl⟩ | exact ⟨rfl, rfl, by omega⟩ | exact ⟨by assumption, rfl, by omega⟩ | exact ⟨⟨_, rfl, rfl⟩, by decide, by decide, rfl, by omega⟩ | omega | decide)⟩, (by first | exact rfl | assumption | exact ⟨rfl, rfl⟩ | exact ⟨rfl, rfl, by omega⟩ | exact ⟨by assumption, rfl, by omega⟩ | exact ⟨⟨_, rfl, rfl⟩, by decide, by decide, rfl, by omega⟩ | omega | decide)⟩ ?_
  refine ru_V hV [] sVX8_44 (qX8_layPlain l _ L) rfl rfl rfl rfl rfl (Nat.le_of_ble_eq_true rfl) ?_
  refine ru_fin hV 2 [] rfl rfl trivial ?_
  exact ⟨by rw [svR_ne (by decide) (by decide), t7n (by decide)]; rfl, rfl, rfl⟩
theorem xX8_sign (l : Launch) {x y : Int32} {n : Nat} (hx : ouR x n) (h0 : 0 < n) (hn : n ≤ 5) {I : IM} (hd : I 1 0 = nI n) (L : LM) : KX8_sign l [.ref 0, .int x, .int y] I L (some (.int 0)) (mu I 0 7 1) L := by
  refine wX8_sign l rfl (hz0 (by decide)) (fun V hV => ?_)
  refine ru_go hV 5 [] rfl rfl ⟨trivial, (by first | exact rfl | assumption | exact ⟨rfl, rfl⟩ | exact ⟨rfl, rfl, by omega⟩ | exact ⟨by assumption, rfl, by omega⟩ | exact ⟨⟨_, rfl, rfl⟩, by decide, by decide, rfl, by omega⟩ | omega | decide)⟩ ?_
  refine ru_V hV [] sVX8_76 (xX8_isDirection l hx h0 hn (by rw [t7n (by decide)]; exact hd) L) rfl rfl rfl rfl rfl (Nat.le_of_ble_eq_true rfl) ?_
  refine ru_go hV 3 [(0, 0)] rfl rfl ⟨trivial, (fun e => e rfl)⟩ ?_
  refine ru_V hV [] sVX8_70 (qX8_fails l 1 _ L) rfl rfl rfl rfl rfl (Nat.le_of_ble_eq_true rfl) ?_
  rw [mu_mu]
  refine ru_fin hV 1 [] rfl rfl trivial ?_
  exact ⟨rfl, rfl, rfl⟩
theorem vX8f_sign (l : Launch) {d n : Nat} {y : Int32} (hd5 : d < n) (hn : n ≤ 5) (hy : y ≠ 1 ∧ y ≠ -1) {I : IM} (hd : I 1 0 = nI n) (L : LM) : KX8_sign l [.ref 0, .int (nI d), .int y] I L (some (.int 0)) (mu I 0 7 2) L := by
  refine wX8_sign l rfl (hz0 (by decide)) (fun V hV => ?_)
  refine ru_go hV 5 [] rfl rfl ⟨trivial, (by first | exact rfl | assumption | exact ⟨rfl, rfl⟩ | exact ⟨rfl, rfl, by omega⟩ | exact ⟨by assumption, rfl, by omega⟩ | exact ⟨⟨_, rfl, rfl⟩, by decide, by decide, rfl, by omega⟩ | omega | decide)⟩ ?_
  refine ru_V hV [] sVX8_76 (qX8_isDirection l hd5 hn (by rw [t7n (by decide)]; exact hd) L) rfl rfl rfl rfl rfl (Nat.le_of_ble_eq_true rfl) ?_
  refine ru_go hV 9 [(1, 0), (0, 0), (0, 0)] rfl rfl ⟨⟨⟨trivial, (by decide)⟩, hy.1⟩, hy.2⟩ ?_
  refine ru_V hV [] sVX8_70 (qX8_fails l 2 _ L) rfl rfl rfl rfl rfl (Nat.le_of_ble_eq_true rfl) ?_
  rw [mu_mu]
  refine ru_fin hV 1 [] rfl rfl trivial ?_
  exact ⟨rfl, rfl, rfl⟩
theorem qX8_sign (l : Launch) {d n q : Nat} {y : Int32} (hd5 : d < n) (hn : n ≤ 5) (hy : y = 1 ∨ y = -1) (hq : q ≤ 6) {I : IM} (hd : I 1 0 = nI n) (h2 : I 0 2 = nI q) (L : LM) : KX8_sign l [.ref 0, .int (nI d), .int y] I L (some (.int (I 1 (1 + d)))) (mu (svR (mu I 0 7 0) q) 1 (1 + d) y) L := by
  refine wX8_sign l rfl (hz0 (by decide)) (fun V hV => ?_)
  have hs := qX8_save l hq (I := mu I 0 7 0) (by rw [t7 (by decide)]; exact h2) L
  have tail : V 36 [(0, .ref 0), (1, .int (nI d)), (2, .int y)] [.ref 0] (mu I 0 7 0) L := by
    refine ru_V hV [] sVX8_73 hs rfl rfl rfl rfl rfl (Nat.le_of_ble_eq_true rfl) ?_
    refine ru_fin hV 16 [(1, 0), ((1+d), 296), (1, 0), ((1+d), 296)] rfl rfl ⟨⟨⟨⟨trivial, (by first | exact rfl | assumption | exact ⟨rfl, rfl⟩ | exact ⟨rfl, rfl, by omega⟩ | exact ⟨by assumption, rfl, by omega⟩ | exact ⟨⟨_, rfl, rfl⟩, by decide, by decide, rfl, by omega⟩ | omega | decide)⟩, ⟨rfl, ix_1 d, by omega⟩⟩, (by first | exact rfl | assumption | exact ⟨rfl, rfl⟩ | exact ⟨rfl, rfl, by omega⟩ | exact ⟨by assumption, rfl, by omega⟩ | exact ⟨⟨_, rfl, rfl⟩, by decide, by decide, rfl, by omega⟩ | omega | decide)⟩, ⟨rfl, ix_1 d, by omega⟩⟩ ?_
    exact ⟨by rw [svR_ne (by decide) (by decide), t7n (by decide)]; rfl, rfl, rfl⟩
  refine ru_go hV 5 [] rfl rfl ⟨trivial, (by first | exact rfl | assumption | exact ⟨rfl, rfl⟩ | exact ⟨rfl, rfl, by omega⟩ | exact ⟨by assumption, rfl, by omega⟩ | exact ⟨⟨_, rfl, rfl⟩, by decide, by decide, rfl, by omega⟩ | omega | decide)⟩ ?_
  refine ru_V hV [] sVX8_76 (qX8_isDirection l hd5 hn (by rw [t7n (by decide)]; exact hd) L) rfl rfl rfl rfl rfl (Nat.le_of_ble_eq_true rfl) ?_
  by_cases h : y = 1
  · refine ru_go hV 5 [(1, 0), (1, 0)] rfl rfl ⟨⟨trivial, (by decide)⟩, h⟩ ?_
    exact tail
  · refine ru_go hV 8 [(1, 0), (0, 0), (1, 0)] rfl rfl ⟨⟨⟨trivial, (by decide)⟩, h⟩, hy.resolve_left h⟩ ?_
    exact tail
theorem xX8_matrix (l : Launch) {x y v : Int32} {n : Nat} (hx : ouR x n ∨ ouR y n) (h0 : 0 < n) (hn : n ≤ 5) {I : IM} (hd : I 1 0 = nI n) (L : LM) : KX8_matrix l [.ref 0, .int x, .int y, .int v] I L (some (.int 0)) (mu I 0 7 1) L := by
  refine wX8_matrix l rfl (hz0 (by decide)) (fun V hV => ?_)
  have hd' : mu I 0 7 0 1 0 = nI n := by rw [t7n (by decide)]; exact hd
  have tail : V 23 [(0, .ref 0), (1, .int x), (2, .int y), (3, .int v)] [.int 1, .ref 0] (mu I 0 7 0) L := by
    refine ru_V hV [] sVX8_70 (qX8_fails l 1 _ L) rfl rfl rfl rfl rfl (Nat.le_of_ble_eq_true rfl) ?_
    rw [mu_mu]
    refine ru_fin hV 1 [] rfl rfl trivial ?_
    exact ⟨rfl, rfl, rfl⟩
  refine ru_go hV 5 [] rfl rfl ⟨trivial, (by first | exact rfl | assumption | exact ⟨rfl, rfl⟩ | exact ⟨rfl, rfl, by omega⟩ | exact ⟨by assumption, rfl, by omega⟩ | exact ⟨⟨_, rfl, rfl⟩, by decide, by decide, rfl, by omega⟩ | omega | decide)⟩ ?_
  rcases ouR_or x n (by omega) with ⟨k, hk, rfl⟩ | h
  · have hy := hx.resolve_left (fun e => by rcases e with e | e; exact absurd e (nI_nn (by omega)); exact absurd e (nI_nge hk (by omega)))
    refine ru_V hV [] sVX8_76 (qX8_isDirection l hk hn hd' L) rfl rfl rfl rfl rfl (Nat.le_of_ble_eq_true rfl) ?_
    refine ru_go hV 3 [(0, 0)] rfl rfl ⟨trivial, (by decide)⟩ ?_
    refine ru_V hV [] sVX8_76 (xX8_isDirection l hy h0 hn hd' L) rfl rfl rfl rfl rfl (Nat.le_of_ble_eq_true rfl) ?_
    refine ru_go hV 3 [(0, 0)] rfl rfl ⟨trivial, (fun e => e rfl)⟩ ?_
    exact tail
  · refine ru_V hV [] sVX8_76 (xX8_isDirection l h h0 hn hd' L) rfl rfl rfl rfl rfl (Nat.le_of_ble_eq_true rfl) ?_
    refine ru_go hV 3 [(1, 0)] rfl rfl ⟨trivial, (by first | exact rfl | assumption | exact ⟨rfl, rfl⟩ | exact ⟨rfl, rfl, by omega⟩ | exact ⟨by assumption, rfl, by omega⟩ | exact ⟨⟨_, rfl, rfl⟩, by decide, by decide, rfl, by omega⟩ | omega | decide)⟩ ?_
    exact tail
theorem vX8f_matrix (l : Launch) {r c n : Nat} {v : Int32} (hr : r < n) (hc : c < n) (hn : n ≤ 5) (hv : ¬ (-9 ≤ v ∧ v ≤ 9)) {I : IM} (hd : I 1 0 = nI n) (L : LM) : KX8_matrix l [.ref 0, .int (nI r), .int (nI c), .int v] I L (some (.int 0)) (mu I 0 7 2) L := by
  refine wX8_matrix l rfl (hz0 (by decide)) (fun V hV => ?_)
  have hd' : mu I 0 7 0 1 0 = nI n := by rw [t7n (by decide)]; exact hd
  refine ru_go hV 5 [] rfl rfl ⟨trivial, (by first | exact rfl | assumption | exact ⟨rfl, rfl⟩ | exact ⟨rfl, rfl, by omega⟩ | exact ⟨by assumption, rfl, by omega⟩ | exact ⟨⟨_, rfl, rfl⟩, by decide, by decide, rfl, by omega⟩ | omega | decide)⟩ ?_
  refine ru_V hV [] sVX8_76 (qX8_isDirection l hr hn hd' L) rfl rfl rfl rfl rfl (Nat.le_of_ble_eq_true rfl) ?_
  refine ru_go hV 3 [(0, 0)] rfl rfl ⟨trivial, (by decide)⟩ ?_
  refine ru_V hV [] sVX8_76 (qX8_isDirection l hc hn hd' L) rfl rfl rfl rfl rfl (Nat.le_of_ble_eq_true rfl) ?_
  refine ru_go hV 4 [(1, 0)] rfl rfl ⟨trivial, (by decide)⟩ ?_
  refine ru_S hV [] sSX8_54 (qX8_in l v (-9) 9 _ L) rfl rfl rfl (Nat.le_of_ble_eq_true rfl) ?_
  rw [decide_eq_false hv]
  refine ru_go hV 3 [(0, 0)] rfl rfl ⟨trivial, (fun e => e rfl)⟩ ?_
  refine ru_V hV [] sVX8_70 (qX8_fails l 2 _ L) rfl rfl rfl rfl rfl (Nat.le_of_ble_eq_true rfl) ?_
  rw [mu_mu]
  refine ru_fin hV 1 [] rfl rfl trivial ?_
  exact ⟨rfl, rfl, rfl⟩
theorem qX8_matrix (l : Launch) {r c n q : Nat} {v : Int32} (hr : r < n) (hc : c < n) (hn : n ≤ 5) (hv : -9 ≤ v ∧ v ≤ 9) (hq : q ≤ 6) {I : IM} (hd : I 1 0 = nI n) (h2 : I 0 2 = nI q) (L : LM) : KX8_matrix l [.ref 0, .int (nI r), .int (nI c), .int v] I L (some (.int (I 1 (6 + 5 * r + c)))) (mu (svR (mu I 0 7 0) q) 1 (6 + 5 * r + c) v) L := by
  refine wX8_matrix l rfl (hz0 (by decide)) (fun V hV => ?_)
  have hd' : mu I 0 7 0 1 0 = nI n := by rw [t7n (by decide)]; exact hd
  refine ru_go hV 5 [] rfl rfl ⟨trivial, (by first | exact rfl | assumption | exact ⟨rfl, rfl⟩ | exact ⟨rfl, rfl, by omega⟩ | exact ⟨by assumption, rfl, by omega⟩ | exact ⟨⟨_, rfl, rfl⟩, by decide, by decide, rfl, by omega⟩ | omega | decide)⟩ ?_
  refine ru_V hV [] sVX8_76 (qX8_isDirection l hr hn hd' L) rfl rfl rfl rfl rfl (Nat.le_of_ble_eq_true rfl) ?_
  refine ru_go hV 3 [(0, 0)] rfl rfl ⟨trivial, (by decide)⟩ ?_
  refine ru_V hV [] sVX8_76 (qX8_isDirection l hc hn hd' L) rfl rfl rfl rfl rfl (Nat.le_of_ble_eq_true rfl) ?_
  refine ru_go hV 4 [(1, 0)] rfl rfl ⟨trivial, (by decide)⟩ ?_
  refine ru_S hV [] sSX8_54 (qX8_in l v (-9) 9 _ L) rfl rfl rfl (Nat.le_of_ble_eq_true rfl) ?_
  rw [decide_eq_true hv]
  refine ru_go hV 2 [(1, 0)] rfl rfl ⟨trivial, (by decide)⟩ ?_
  refine ru_V hV [] sVX8_73 (qX8_save l hq (I := mu I 0 7 0) (by rw [t7 (by decide)]; exact h2) L) rfl rfl rfl rfl rfl (Nat.le_of_ble_eq_true rfl) ?_
  refine ru_fin hV 20 [(1, 0), ((6+5*r+c), 296), (1, 0), ((6+5*r+c), 296)] rfl rfl ⟨⟨⟨⟨trivial, (by first | exact rfl | assumption | exact ⟨rfl, rfl⟩ | exact ⟨rfl, rfl, by omega⟩ | exact ⟨by assumption, rfl, by omega⟩ | exact ⟨⟨_, rfl, rfl⟩, by decide, by decide, rfl, by omega⟩ | omega | decide)⟩, ⟨rfl, ix_mx r c, by omega⟩⟩, (by first | exact rfl | assumption | exact ⟨rfl, rfl⟩ | exact ⟨rfl, rfl, by omega⟩ | exact ⟨by assumption, rfl, by omega⟩ | exact ⟨⟨_, rfl, rfl⟩, by decide, by decide, rfl, by omega⟩ | omega | decide)⟩, ⟨rfl, ix_mx r c, by omega⟩⟩ ?_
  exact ⟨by rw [svR_ne (by decide) (by decide), t7n (by decide)]; rfl, rfl, rfl⟩
theorem xX8_set (l : Launch) {x y v : Int32} {n : Nat} (hx : ouR x 8 ∨ ouR y (2 ^ n)) (hn : n ≤ 5) {I : IM} (hd : I 1 0 = nI n) (L : LM) : KX8_set l [.ref 0, .int x, .int y, .int v] I L (some (.int 0)) (mu I 0 7 1) L := by
  refine wX8_set l rfl (hz0 (by decide)) (fun V hV => ?_)
  have hd' : mu I 0 7 0 1 0 = nI n := by rw [t7n (by decide)]; exact hd
  have tail : V 22 [(0, .ref 0), (1, .int x), (2, .int y), (3, .int v)] [.int 1, .ref 0] (mu I 0 7 0) L := by
    refine ru_V hV [] sVX8_70 (qX8_fails l 1 _ L) rfl rfl rfl rfl rfl (Nat.le_of_ble_eq_true rfl) ?_
    rw [mu_mu]
    refine ru_fin hV 1 [] rfl rfl trivial ?_
    exact ⟨rfl, rfl, rfl⟩
  refine ru_go hV 4 [] rfl rfl ⟨trivial, (by first | exact rfl | assumption | exact ⟨rfl, rfl⟩ | exact ⟨rfl, rfl, by omega⟩ | exact ⟨by assumption, rfl, by omega⟩ | exact ⟨⟨_, rfl, rfl⟩, by decide, by decide, rfl, by omega⟩ | omega | decide)⟩ ?_
  rcases ouR_or x 8 (by omega) with ⟨k, hk, rfl⟩ | h
  · have hy := hx.resolve_left (fun e => by rcases e with e | e; exact absurd e (nI_nn (by omega)); exact absurd e (nI_nge hk (by omega)))
    refine ru_S hV [] sSX8_80 (qX8_isSlot l hk _ L) rfl rfl rfl (Nat.le_of_ble_eq_true rfl) ?_
    refine ru_go hV 3 [(0, 0)] rfl rfl ⟨trivial, (by decide)⟩ ?_
    refine ru_V hV [] sVX8_83 (xX8_isBlade l hy hn hd' L) rfl rfl rfl rfl rfl (Nat.le_of_ble_eq_true rfl) ?_
    refine ru_go hV 3 [(0, 0)] rfl rfl ⟨trivial, (fun e => e rfl)⟩ ?_
    exact tail
  · refine ru_S hV [] sSX8_80 (xX8_isSlot l h _ L) rfl rfl rfl (Nat.le_of_ble_eq_true rfl) ?_
    refine ru_go hV 3 [(1, 0)] rfl rfl ⟨trivial, (by first | exact rfl | assumption | exact ⟨rfl, rfl⟩ | exact ⟨rfl, rfl, by omega⟩ | exact ⟨by assumption, rfl, by omega⟩ | exact ⟨⟨_, rfl, rfl⟩, by decide, by decide, rfl, by omega⟩ | omega | decide)⟩ ?_
    exact tail
theorem vX8f_set (l : Launch) {s b n : Nat} {v : Int32} (hs : s < 8) (hb : b < 2 ^ n) (hn : n ≤ 5) (hv : ¬ (-100000000 ≤ v ∧ v ≤ 100000000)) {I : IM} (hd : I 1 0 = nI n) (L : LM) : KX8_set l [.ref 0, .int (nI s), .int (nI b), .int v] I L (some (.int 0)) (mu I 0 7 2) L := by
  refine wX8_set l rfl (hz0 (by decide)) (fun V hV => ?_)
  have hd' : mu I 0 7 0 1 0 = nI n := by rw [t7n (by decide)]; exact hd
  refine ru_go hV 4 [] rfl rfl ⟨trivial, (by first | exact rfl | assumption | exact ⟨rfl, rfl⟩ | exact ⟨rfl, rfl, by omega⟩ | exact ⟨by assumption, rfl, by omega⟩ | exact ⟨⟨_, rfl, rfl⟩, by decide, by decide, rfl, by omega⟩ | omega | decide)⟩ ?_
  refine ru_S hV [] sSX8_80 (qX8_isSlot l hs _ L) rfl rfl rfl (Nat.le_of_ble_eq_true rfl) ?_
  refine ru_go hV 3 [(0, 0)] rfl rfl ⟨trivial, (by decide)⟩ ?_
  refine ru_V hV [] sVX8_83 (qX8_isBlade l hb hn hd' L) rfl rfl rfl rfl rfl (Nat.le_of_ble_eq_true rfl) ?_
  refine ru_go hV 4 [(1, 0)] rfl rfl ⟨trivial, (by decide)⟩ ?_
  refine ru_S hV [] sSX8_54 (qX8_in l v (-100000000) 100000000 _ L) rfl rfl rfl (Nat.le_of_ble_eq_true rfl) ?_
  rw [decide_eq_false hv]
  refine ru_go hV 3 [(0, 0)] rfl rfl ⟨trivial, (fun e => e rfl)⟩ ?_
  refine ru_V hV [] sVX8_70 (qX8_fails l 2 _ L) rfl rfl rfl rfl rfl (Nat.le_of_ble_eq_true rfl) ?_
  rw [mu_mu]
  refine ru_fin hV 1 [] rfl rfl trivial ?_
  exact ⟨rfl, rfl, rfl⟩
theorem frR_sv {I : IM} {q s : Nat} : frR (svR (mu I 0 7 0) q) s = frR I s := by
  unfold frR
  rw [svR_ne (by decide) (by decide), t7n (by decide)]
theorem qX8_set (l : Launch) {s b n q : Nat} {v : Int32} (hs : s < 8) (hb : b < 2 ^ n) (hn : n ≤ 5) (hv : -100000000 ≤ v ∧ v ≤ 100000000) (hq : q ≤ 6) {I : IM} (hd : I 1 0 = nI n) (h2 : I 0 2 = nI q) (L : LM) : KX8_set l [.ref 0, .int (nI s), .int (nI b), .int v] I L (some (.int (frR I s b))) (mu (svR (mu I 0 7 0) q) 1 (40 + 32 * s + b) v) L := by
  refine wX8_set l rfl (hz0 (by decide)) (fun V hV => ?_)
  have hd' : mu I 0 7 0 1 0 = nI n := by rw [t7n (by decide)]; exact hd
  have hb32 := pow_mono n hn b hb
  refine ru_go hV 4 [] rfl rfl ⟨trivial, (by first | exact rfl | assumption | exact ⟨rfl, rfl⟩ | exact ⟨rfl, rfl, by omega⟩ | exact ⟨by assumption, rfl, by omega⟩ | exact ⟨⟨_, rfl, rfl⟩, by decide, by decide, rfl, by omega⟩ | omega | decide)⟩ ?_
  refine ru_S hV [] sSX8_80 (qX8_isSlot l hs _ L) rfl rfl rfl (Nat.le_of_ble_eq_true rfl) ?_
  refine ru_go hV 3 [(0, 0)] rfl rfl ⟨trivial, (by decide)⟩ ?_
  refine ru_V hV [] sVX8_83 (qX8_isBlade l hb hn hd' L) rfl rfl rfl rfl rfl (Nat.le_of_ble_eq_true rfl) ?_
  refine ru_go hV 4 [(1, 0)] rfl rfl ⟨trivial, (by decide)⟩ ?_
  refine ru_S hV [] sSX8_54 (qX8_in l v (-100000000) 100000000 _ L) rfl rfl rfl (Nat.le_of_ble_eq_true rfl) ?_
  rw [decide_eq_true hv]
  refine ru_go hV 2 [(1, 0)] rfl rfl ⟨trivial, (by decide)⟩ ?_
  refine ru_V hV [] sVX8_73 (qX8_save l hq (I := mu I 0 7 0) (by rw [t7 (by decide)]; exact h2) L) rfl rfl rfl rfl rfl (Nat.le_of_ble_eq_true rfl) ?_
  refine ru_go hV 3 [] rfl rfl trivial ?_
  refine ru_V hV [] sVX8_88 (qX8_at l hs hb32 _ L) rfl rfl rfl rfl rfl (Nat.le_of_ble_eq_true rfl) ?_
  refine ru_fin hV 14 [(1, 0), ((40+32*s+b), 296)] rfl rfl ⟨⟨trivial, (by first | exact rfl | assumption | exact ⟨rfl, rfl⟩ | exact ⟨rfl, rfl, by omega⟩ | exact ⟨by assumption, rfl, by omega⟩ | exact ⟨⟨_, rfl, rfl⟩, by decide, by decide, rfl, by omega⟩ | omega | decide)⟩, ⟨rfl, ix_fr s b, by omega⟩⟩ ?_
  exact ⟨by rw [frR_sv]; rfl, rfl, rfl⟩
