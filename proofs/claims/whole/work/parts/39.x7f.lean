theorem cnz_cong {f g : Nat → Int32} : ∀ {n : Nat}, (∀ j, j < n → f j = g j) → cnz f n = cnz g n
  | 0, _ => rfl
  | n + 1, h => by
    unfold cnz
    rw [cnz_cong (n := n) (fun j hj => h j (by omega)), h n (by omega)]
/-! the desk: dimension, metric, matrix, slots, texts, snapshots -/
theorem qX7_begin (l : Launch) {m : Nat} (hm2 : 2 ≤ m) (hm5 : m ≤ 5) {o z : Nat} (ho : o < 6) (hz : z ≤ 6) {I : IM} (h1 : I 19 1 = nI o) (h2 : I 19 2 = nI z) (L : LM) : KX7_begin l [.ref 0, .int (nI m)] I L (some (.int (I 1 0))) (nwS (svI I o z) 1 (nI m)) L := by
  refine wX7_begin l rfl (hz0 (by decide)) (fun V hV => ?_)
  refine ru_go hV 10 [(0, 0), (1, 0), (19, 0), (1, 0)] rfl rfl ⟨⟨⟨⟨trivial, nI_nlt (b := 2) hm2 (by omega)⟩, nI_le (b := 5) hm5 (by decide)⟩, (by first | exact rfl | assumption | exact ⟨rfl, rfl⟩ | exact ⟨rfl, rfl, by omega⟩ | exact ⟨by assumption, rfl, by omega⟩ | exact ⟨⟨_, rfl, rfl⟩, by decide, by decide, rfl, by omega⟩ | omega | decide)⟩, (by first | exact rfl | assumption | exact ⟨rfl, rfl⟩ | exact ⟨rfl, rfl, by omega⟩ | exact ⟨by assumption, rfl, by omega⟩ | exact ⟨⟨_, rfl, rfl⟩, by decide, by decide, rfl, by omega⟩ | omega | decide)⟩ ?_
  refine ru_V hV [] sVX7_70 (qX3_save l ho hz h1 h2 L) rfl rfl rfl rfl rfl (Nat.le_of_ble_eq_true rfl) ?_
  refine ru_go hV 7 [(1, 0), (1, 0)] rfl rfl ⟨⟨⟨trivial, (by first | exact rfl | assumption | exact ⟨rfl, rfl⟩ | exact ⟨rfl, rfl, by omega⟩ | exact ⟨by assumption, rfl, by omega⟩ | exact ⟨⟨_, rfl, rfl⟩, by decide, by decide, rfl, by omega⟩ | omega | decide)⟩, (by first | exact rfl | assumption | exact ⟨rfl, rfl⟩ | exact ⟨rfl, rfl, by omega⟩ | exact ⟨by assumption, rfl, by omega⟩ | exact ⟨⟨_, rfl, rfl⟩, by decide, by decide, rfl, by omega⟩ | omega | decide)⟩, (by first | exact rfl | assumption | exact ⟨rfl, rfl⟩ | exact ⟨rfl, rfl, by omega⟩ | exact ⟨by assumption, rfl, by omega⟩ | exact ⟨⟨_, rfl, rfl⟩, by decide, by decide, rfl, by omega⟩ | omega | decide)⟩ ?_
  rw [svI_ne ho (by decide)]
  refine ru_V hV [] sVX7_77 (qX6_startWith l hb1 _ L) rfl rfl rfl rfl rfl (Nat.le_of_ble_eq_true rfl) ?_
  refine ru_fin hV 2 [] rfl rfl trivial ?_
  exact ⟨rfl, rfl, rfl⟩
theorem xX7_begin (l : Launch) (hlt : l.stackTraces = false) {x : Int32} (hx : x < 2 ∨ ¬ x ≤ 5) (I : IM) (L : LM) : TX7_begin l [.ref 0, .int x] I L exA I L := by
  refine vX7_begin l hlt rfl (fun V hX => ?_)
  have hV := hX.1
  by_cases h : x < 2
  · refine ru_go hV 3 [(1, 0)] rfl rfl ⟨trivial, h⟩ ?_
    exact rx_S hX "n is not 2 to 5" thX7_begin_10 excA (by decide) rfl
  · refine ru_go hV 6 [(0, 0), (0, 0)] rfl rfl ⟨⟨trivial, h⟩, hx.resolve_left h⟩ ?_
    exact rx_S hX "n is not 2 to 5" thX7_begin_10 excA (by decide) rfl
theorem qX7_sign (l : Launch) {k : Nat} {v : Int32} {n o z : Nat} (hk : k < n) (hv : v = 1 ∨ v = -1) (hn : n ≤ 5) (ho : o < 6) (hz : z ≤ 6) {I : IM} (hd : I 1 0 = nI n) (h1 : I 19 1 = nI o) (h2 : I 19 2 = nI z) (L : LM) : KX7_sign l [.ref 0, .int (nI k), .int v] I L (some (.int (I 11 k))) (mu (svI I o z) 11 k v) L := by
  refine wX7_sign l rfl (hz0 (by decide)) (fun V hV => ?_)
  have hk5 : k < 5 := by omega
  refine ru_go hV 2 [] rfl rfl trivial ?_
  refine ru_V hV [] sVX7_81 (qX7_requireDirection l hk hn hd L) rfl rfl rfl rfl rfl (Nat.le_of_ble_eq_true rfl) ?_
  have tail : V 25 [(0, .ref 0), (1, .int (nI k)), (2, .int v)] [] I L := by
    refine ru_go hV 4 [(19, 0), (1, 0)] rfl rfl ⟨⟨trivial, (by first | exact rfl | assumption | exact ⟨rfl, rfl⟩ | exact ⟨rfl, rfl, by omega⟩ | exact ⟨by assumption, rfl, by omega⟩ | exact ⟨⟨_, rfl, rfl⟩, by decide, by decide, rfl, by omega⟩ | omega | decide)⟩, (by first | exact rfl | assumption | exact ⟨rfl, rfl⟩ | exact ⟨rfl, rfl, by omega⟩ | exact ⟨by assumption, rfl, by omega⟩ | exact ⟨⟨_, rfl, rfl⟩, by decide, by decide, rfl, by omega⟩ | omega | decide)⟩ ?_
    refine ru_V hV [] sVX7_70 (qX3_save l ho hz h1 h2 L) rfl rfl rfl rfl rfl (Nat.le_of_ble_eq_true rfl) ?_
    refine ru_fin hV 14 [(1, 0), (11, 0), (k, 5), (1, 0), (11, 0), (k, 5)] rfl rfl ⟨⟨⟨⟨⟨⟨trivial, (by first | exact rfl | assumption | exact ⟨rfl, rfl⟩ | exact ⟨rfl, rfl, by omega⟩ | exact ⟨by assumption, rfl, by omega⟩ | exact ⟨⟨_, rfl, rfl⟩, by decide, by decide, rfl, by omega⟩ | omega | decide)⟩, (by first | exact rfl | assumption | exact ⟨rfl, rfl⟩ | exact ⟨rfl, rfl, by omega⟩ | exact ⟨by assumption, rfl, by omega⟩ | exact ⟨⟨_, rfl, rfl⟩, by decide, by decide, rfl, by omega⟩ | omega | decide)⟩, (by first | exact rfl | assumption | exact ⟨rfl, rfl⟩ | exact ⟨rfl, rfl, by omega⟩ | exact ⟨by assumption, rfl, by omega⟩ | exact ⟨⟨_, rfl, rfl⟩, by decide, by decide, rfl, by omega⟩ | omega | decide)⟩, (by first | exact rfl | assumption | exact ⟨rfl, rfl⟩ | exact ⟨rfl, rfl, by omega⟩ | exact ⟨by assumption, rfl, by omega⟩ | exact ⟨⟨_, rfl, rfl⟩, by decide, by decide, rfl, by omega⟩ | omega | decide)⟩, (by first | exact rfl | assumption | exact ⟨rfl, rfl⟩ | exact ⟨rfl, rfl, by omega⟩ | exact ⟨by assumption, rfl, by omega⟩ | exact ⟨⟨_, rfl, rfl⟩, by decide, by decide, rfl, by omega⟩ | omega | decide)⟩, (by first | exact rfl | assumption | exact ⟨rfl, rfl⟩ | exact ⟨rfl, rfl, by omega⟩ | exact ⟨by assumption, rfl, by omega⟩ | exact ⟨⟨_, rfl, rfl⟩, by decide, by decide, rfl, by omega⟩ | omega | decide)⟩ ?_
    refine ⟨?_, rfl, rfl⟩
    rw [svI_ne ho (by decide)]
    rfl
  rcases hv with rfl | rfl
  · refine ru_go hV 3 [(1, 0)] rfl rfl ⟨trivial, (by first | exact rfl | assumption | exact ⟨rfl, rfl⟩ | exact ⟨rfl, rfl, by omega⟩ | exact ⟨by assumption, rfl, by omega⟩ | exact ⟨⟨_, rfl, rfl⟩, by decide, by decide, rfl, by omega⟩ | omega | decide)⟩ ?_
    exact tail
  · refine ru_go hV 6 [(0, 0), (1, 0)] rfl rfl ⟨⟨trivial, (by first | exact rfl | assumption | exact ⟨rfl, rfl⟩ | exact ⟨rfl, rfl, by omega⟩ | exact ⟨by assumption, rfl, by omega⟩ | exact ⟨⟨_, rfl, rfl⟩, by decide, by decide, rfl, by omega⟩ | omega | decide)⟩, (by first | exact rfl | assumption | exact ⟨rfl, rfl⟩ | exact ⟨rfl, rfl, by omega⟩ | exact ⟨by assumption, rfl, by omega⟩ | exact ⟨⟨_, rfl, rfl⟩, by decide, by decide, rfl, by omega⟩ | omega | decide)⟩ ?_
    exact tail
theorem xX7_signD (l : Launch) (hlt : l.stackTraces = false) {x y : Int32} {n : Nat} (hx : ouR x n) {I : IM} (hd : I 1 0 = nI n) (L : LM) : TX7_sign l [.ref 0, .int x, .int y] I L exB I L := by
  refine vX7_sign l hlt rfl (fun V hX => ?_)
  have hV := hX.1
  refine ru_go hV 2 [] rfl rfl trivial ?_
  exact rx_cV hX [] sVX7_81 (xX7_requireDirection l hlt hx hd L) rfl rfl rfl rfl rfl (Nat.le_of_ble_eq_true rfl)
theorem xX7_signV (l : Launch) (hlt : l.stackTraces = false) {k n : Nat} {y : Int32} (hk : k < n) (hn : n ≤ 5) (h1 : y ≠ 1) (h2 : y ≠ -1) {I : IM} (hd : I 1 0 = nI n) (L : LM) : TX7_sign l [.ref 0, .int (nI k), .int y] I L exA I L := by
  refine vX7_sign l hlt rfl (fun V hX => ?_)
  have hV := hX.1
  refine ru_go hV 2 [] rfl rfl trivial ?_
  refine ru_V hV [] sVX7_81 (qX7_requireDirection l hk hn hd L) rfl rfl rfl rfl rfl (Nat.le_of_ble_eq_true rfl) ?_
  refine ru_go hV 6 [(0, 0), (0, 0)] rfl rfl ⟨⟨trivial, h1⟩, h2⟩ ?_
  exact rx_S hX "the sign is neither 1 nor -1" thX7_sign_15 excA (by decide) rfl
theorem qX7_matrix (l : Launch) {r c : Nat} {v : Int32} {n o z : Nat} (hr : r < n) (hc : c < n) (hv : ¬ ouS v 9) (hn : n ≤ 5) (ho : o < 6) (hz : z ≤ 6) {I : IM} (hd : I 1 0 = nI n) (h1 : I 19 1 = nI o) (h2 : I 19 2 = nI z) (L : LM) : KX7_matrix l [.ref 0, .int (nI r), .int (nI c), .int v] I L (some (.int (I (13 + r) c))) (mu (svI I o z) (13 + r) c v) L := by
  have km := kd_mrow (b := 1) (x := r) hb1 (by omega)
  have kr := kd_mr (b := 1) (x := r) hb1 (by omega)
  refine wX7_matrix l rfl (hz0 (by decide)) (fun V hV => ?_)
  refine ru_go hV 2 [] rfl rfl trivial ?_
  refine ru_V hV [] sVX7_81 (qX7_requireDirection l hr hn hd L) rfl rfl rfl rfl rfl (Nat.le_of_ble_eq_true rfl) ?_
  refine ru_go hV 2 [] rfl rfl trivial ?_
  refine ru_V hV [] sVX7_81 (qX7_requireDirection l hc hn hd L) rfl rfl rfl rfl rfl (Nat.le_of_ble_eq_true rfl) ?_
  refine ru_go hV 2 [] rfl rfl trivial ?_
  refine ru_S hV [] sSX7_89 (qX7_requireSize l hv I L) rfl rfl rfl (Nat.le_of_ble_eq_true rfl) ?_
  refine ru_go hV 4 [(19, 0), (1, 0)] rfl rfl ⟨⟨trivial, (by first | exact rfl | assumption | exact ⟨rfl, rfl⟩ | exact ⟨rfl, rfl, by omega⟩ | exact ⟨by assumption, rfl, by omega⟩ | exact ⟨⟨_, rfl, rfl⟩, by decide, by decide, rfl, by omega⟩ | omega | decide)⟩, (by first | exact rfl | assumption | exact ⟨rfl, rfl⟩ | exact ⟨rfl, rfl, by omega⟩ | exact ⟨by assumption, rfl, by omega⟩ | exact ⟨⟨_, rfl, rfl⟩, by decide, by decide, rfl, by omega⟩ | omega | decide)⟩ ?_
  refine ru_V hV [] sVX7_70 (qX3_save l ho hz h1 h2 L) rfl rfl rfl rfl rfl (Nat.le_of_ble_eq_true rfl) ?_
  refine ru_fin hV 18 [(1, 0), (12, 0), (r, 5), ((13+r), 5), (c, 5), (1, 0), (12, 0), (r, 5), ((13+r), 5), (c, 5)] rfl rfl ⟨⟨⟨⟨⟨⟨⟨⟨trivial, (by first | exact rfl | assumption | exact ⟨rfl, rfl⟩ | exact ⟨rfl, rfl, by omega⟩ | exact ⟨by assumption, rfl, by omega⟩ | exact ⟨⟨_, rfl, rfl⟩, by decide, by decide, rfl, by omega⟩ | omega | decide)⟩, (by first | exact rfl | assumption | exact ⟨rfl, rfl⟩ | exact ⟨rfl, rfl, by omega⟩ | exact ⟨by assumption, rfl, by omega⟩ | exact ⟨⟨_, rfl, rfl⟩, by decide, by decide, rfl, by omega⟩ | omega | decide)⟩, kr⟩, ⟨km, rfl, by omega⟩⟩, (by first | exact rfl | assumption | exact ⟨rfl, rfl⟩ | exact ⟨rfl, rfl, by omega⟩ | exact ⟨by assumption, rfl, by omega⟩ | exact ⟨⟨_, rfl, rfl⟩, by decide, by decide, rfl, by omega⟩ | omega | decide)⟩, (by first | exact rfl | assumption | exact ⟨rfl, rfl⟩ | exact ⟨rfl, rfl, by omega⟩ | exact ⟨by assumption, rfl, by omega⟩ | exact ⟨⟨_, rfl, rfl⟩, by decide, by decide, rfl, by omega⟩ | omega | decide)⟩, kr⟩, ⟨km, rfl, by omega⟩⟩ ?_
  refine ⟨?_, rfl, rfl⟩
  rw [svI_ne ho (by omega)]
  rfl
theorem xX7_matrixD (l : Launch) (hlt : l.stackTraces = false) {x y w : Int32} {n : Nat} (hn : n ≤ 5) (h : ouR x n ∨ ouR y n) {I : IM} (hd : I 1 0 = nI n) (L : LM) : TX7_matrix l [.ref 0, .int x, .int y, .int w] I L exB I L := by
  refine vX7_matrix l hlt rfl (fun V hX => ?_)
  have hV := hX.1
  refine ru_go hV 2 [] rfl rfl trivial ?_
  rcases ouR_or x n (by omega) with ⟨r, hr, rfl⟩ | hx
  · refine ru_V hV [] sVX7_81 (qX7_requireDirection l hr hn hd L) rfl rfl rfl rfl rfl (Nat.le_of_ble_eq_true rfl) ?_
    refine ru_go hV 2 [] rfl rfl trivial ?_
    exact rx_cV hX [] sVX7_81 (xX7_requireDirection l hlt (h.resolve_left (fun e => e.elim (nI_pos (by omega)) (nI_ge hr (by omega)))) hd L) rfl rfl rfl rfl rfl (Nat.le_of_ble_eq_true rfl)
  · exact rx_cV hX [] sVX7_81 (xX7_requireDirection l hlt hx hd L) rfl rfl rfl rfl rfl (Nat.le_of_ble_eq_true rfl)
theorem xX7_matrixV (l : Launch) (hlt : l.stackTraces = false) {r c n : Nat} {v : Int32} (hr : r < n) (hc : c < n) (hn : n ≤ 5) (hv : ouS v 9) {I : IM} (hd : I 1 0 = nI n) (L : LM) : TX7_matrix l [.ref 0, .int (nI r), .int (nI c), .int v] I L exA I L := by
  refine vX7_matrix l hlt rfl (fun V hX => ?_)
  have hV := hX.1
  refine ru_go hV 2 [] rfl rfl trivial ?_
  refine ru_V hV [] sVX7_81 (qX7_requireDirection l hr hn hd L) rfl rfl rfl rfl rfl (Nat.le_of_ble_eq_true rfl) ?_
  refine ru_go hV 2 [] rfl rfl trivial ?_
  refine ru_V hV [] sVX7_81 (qX7_requireDirection l hc hn hd L) rfl rfl rfl rfl rfl (Nat.le_of_ble_eq_true rfl) ?_
  refine ru_go hV 2 [] rfl rfl trivial ?_
  exact rx_cS hX [] sSX7_89 (xX7_requireSize l hlt hv I L) rfl rfl rfl (Nat.le_of_ble_eq_true rfl)
theorem qX7_set (l : Launch) {s b : Nat} {v : Int32} {n o z : Nat} (hs : s < 8) (hb : b < 2 ^ n) (hv : ¬ ouS v 100000000) (hn : n ≤ 5) (ho : o < 6) (hz : z ≤ 6) {I : IM} (hd : I 1 0 = nI n) (h1 : I 19 1 = nI o) (h2 : I 19 2 = nI z) (L : LM) : KX7_set l [.ref 0, .int (nI s), .int (nI b), .int v] I L (some (.int (I (3 + s) b))) (mu (svI I o z) (3 + s) b v) L := by
  have hB := pow_mono n hn b hb
  have km := kd_row (b := 1) (x := s) hb1 hs
  have kr := kd_fr (b := 1) (x := s) hb1 hs
  refine wX7_set l rfl (hz0 (by decide)) (fun V hV => ?_)
  refine ru_go hV 1 [] rfl rfl trivial ?_
  refine ru_S hV [] sSX7_97 (qX7_requireSlot l hs I L) rfl rfl rfl (Nat.le_of_ble_eq_true rfl) ?_
  refine ru_go hV 2 [] rfl rfl trivial ?_
  refine ru_V hV [] sVX7_100 (qX7_requireBlade l hb hn hd L) rfl rfl rfl rfl rfl (Nat.le_of_ble_eq_true rfl) ?_
  refine ru_go hV 2 [] rfl rfl trivial ?_
  refine ru_S hV [] sSX7_89 (qX7_requireSize l hv I L) rfl rfl rfl (Nat.le_of_ble_eq_true rfl) ?_
  refine ru_go hV 4 [(19, 0), (1, 0)] rfl rfl ⟨⟨trivial, (by first | exact rfl | assumption | exact ⟨rfl, rfl⟩ | exact ⟨rfl, rfl, by omega⟩ | exact ⟨by assumption, rfl, by omega⟩ | exact ⟨⟨_, rfl, rfl⟩, by decide, by decide, rfl, by omega⟩ | omega | decide)⟩, (by first | exact rfl | assumption | exact ⟨rfl, rfl⟩ | exact ⟨rfl, rfl, by omega⟩ | exact ⟨by assumption, rfl, by omega⟩ | exact ⟨⟨_, rfl, rfl⟩, by decide, by decide, rfl, by omega⟩ | omega | decide)⟩ ?_
  refine ru_V hV [] sVX7_70 (qX3_save l ho hz h1 h2 L) rfl rfl rfl rfl rfl (Nat.le_of_ble_eq_true rfl) ?_
  refine ru_fin hV 18 [(1, 0), (2, 0), (s, 8), ((3+s), 5), (b, 32), (1, 0), (2, 0), (s, 8), ((3+s), 5), (b, 32)] rfl rfl ⟨⟨⟨⟨⟨⟨⟨⟨trivial, (by first | exact rfl | assumption | exact ⟨rfl, rfl⟩ | exact ⟨rfl, rfl, by omega⟩ | exact ⟨by assumption, rfl, by omega⟩ | exact ⟨⟨_, rfl, rfl⟩, by decide, by decide, rfl, by omega⟩ | omega | decide)⟩, (by first | exact rfl | assumption | exact ⟨rfl, rfl⟩ | exact ⟨rfl, rfl, by omega⟩ | exact ⟨by assumption, rfl, by omega⟩ | exact ⟨⟨_, rfl, rfl⟩, by decide, by decide, rfl, by omega⟩ | omega | decide)⟩, kr⟩, ⟨km, rfl, hB⟩⟩, (by first | exact rfl | assumption | exact ⟨rfl, rfl⟩ | exact ⟨rfl, rfl, by omega⟩ | exact ⟨by assumption, rfl, by omega⟩ | exact ⟨⟨_, rfl, rfl⟩, by decide, by decide, rfl, by omega⟩ | omega | decide)⟩, (by first | exact rfl | assumption | exact ⟨rfl, rfl⟩ | exact ⟨rfl, rfl, by omega⟩ | exact ⟨by assumption, rfl, by omega⟩ | exact ⟨⟨_, rfl, rfl⟩, by decide, by decide, rfl, by omega⟩ | omega | decide)⟩, kr⟩, ⟨km, rfl, hB⟩⟩ ?_
  refine ⟨?_, rfl, rfl⟩
  rw [svI_ne ho (by omega)]
  rfl
theorem xX7_setD (l : Launch) (hlt : l.stackTraces = false) {x y w : Int32} {n : Nat} (hn : n ≤ 5) (h : ouR x 8 ∨ ouR y (2 ^ n)) {I : IM} (hd : I 1 0 = nI n) (L : LM) : TX7_set l [.ref 0, .int x, .int y, .int w] I L exB I L := by
  refine vX7_set l hlt rfl (fun V hX => ?_)
  have hV := hX.1
  refine ru_go hV 1 [] rfl rfl trivial ?_
  rcases ouR_or x 8 (by decide) with ⟨r, hr, rfl⟩ | hx
  · refine ru_S hV [] sSX7_97 (qX7_requireSlot l hr I L) rfl rfl rfl (Nat.le_of_ble_eq_true rfl) ?_
    refine ru_go hV 2 [] rfl rfl trivial ?_
    exact rx_cV hX [] sVX7_100 (xX7_requireBlade l hlt hn (h.resolve_left (fun e => e.elim (nI_pos (by omega)) (nI_ge (b := 8) hr (by omega)))) hd L) rfl rfl rfl rfl rfl (Nat.le_of_ble_eq_true rfl)
  · exact rx_cS hX [] sSX7_97 (xX7_requireSlot l hlt hx I L) rfl rfl rfl (Nat.le_of_ble_eq_true rfl)
theorem xX7_setV (l : Launch) (hlt : l.stackTraces = false) {s b n : Nat} {v : Int32} (hs : s < 8) (hb : b < 2 ^ n) (hn : n ≤ 5) (hv : ouS v 100000000) {I : IM} (hd : I 1 0 = nI n) (L : LM) : TX7_set l [.ref 0, .int (nI s), .int (nI b), .int v] I L exA I L := by
  refine vX7_set l hlt rfl (fun V hX => ?_)
  have hV := hX.1
  refine ru_go hV 1 [] rfl rfl trivial ?_
  refine ru_S hV [] sSX7_97 (qX7_requireSlot l hs I L) rfl rfl rfl (Nat.le_of_ble_eq_true rfl) ?_
  refine ru_go hV 2 [] rfl rfl trivial ?_
  refine ru_V hV [] sVX7_100 (qX7_requireBlade l hb hn hd L) rfl rfl rfl rfl rfl (Nat.le_of_ble_eq_true rfl) ?_
  refine ru_go hV 2 [] rfl rfl trivial ?_
  exact rx_cS hX [] sSX7_89 (xX7_requireSize l hlt hv I L) rfl rfl rfl (Nat.le_of_ble_eq_true rfl)
theorem qX7_append (l : Launch) {c q : Nat} (hc1 : 33 ≤ c) (hc2 : c ≤ 126) (hq : q < 60) {I : IM} (hb : I 0 5 = nI q) (L : LM) : KX7_append l [.ref 0, .int (nI c)] I L (some (.int (nI (q + 1)))) (mu (mu I 167 q (nI c)) 0 5 (nI (q + 1))) L := by
  refine wX7_append l rfl (hz0 (by decide)) (fun V hV => ?_)
  have e1 : mu I 167 q (nI c) 0 5 = nI q := by rw [mu_ne _ _ (by decide)]; exact hb
  refine ru_fin hV 25 [(0, 0), (1, 0), (1, 0), (167, 0), (q, 60)] rfl rfl ⟨⟨⟨⟨⟨⟨⟨⟨⟨⟨trivial, nI_nlt (b := 33) hc1 (by omega)⟩, nI_le (b := 126) hc2 (by decide)⟩, (by first | exact rfl | assumption | exact ⟨rfl, rfl⟩ | exact ⟨rfl, rfl, by omega⟩ | exact ⟨by assumption, rfl, by omega⟩ | exact ⟨⟨_, rfl, rfl⟩, by decide, by decide, rfl, by omega⟩ | omega | decide)⟩, (by rw [hb]; exact nI_lt (b := 60) hq (by decide))⟩, (by first | exact rfl | assumption | exact ⟨rfl, rfl⟩ | exact ⟨rfl, rfl, by omega⟩ | exact ⟨by assumption, rfl, by omega⟩ | exact ⟨⟨_, rfl, rfl⟩, by decide, by decide, rfl, by omega⟩ | omega | decide)⟩, (by first | exact rfl | assumption | exact ⟨rfl, rfl⟩ | exact ⟨rfl, rfl, by omega⟩ | exact ⟨by assumption, rfl, by omega⟩ | exact ⟨⟨_, rfl, rfl⟩, by decide, by decide, rfl, by omega⟩ | omega | decide)⟩, ⟨rfl, hb, hq⟩⟩, (by first | exact rfl | assumption | exact ⟨rfl, rfl⟩ | exact ⟨rfl, rfl, by omega⟩ | exact ⟨by assumption, rfl, by omega⟩ | exact ⟨⟨_, rfl, rfl⟩, by decide, by decide, rfl, by omega⟩ | omega | decide)⟩, (by first | exact rfl | assumption | exact ⟨rfl, rfl⟩ | exact ⟨rfl, rfl, by omega⟩ | exact ⟨by assumption, rfl, by omega⟩ | exact ⟨⟨_, rfl, rfl⟩, by decide, by decide, rfl, by omega⟩ | omega | decide)⟩, (by first | exact rfl | assumption | exact ⟨rfl, rfl⟩ | exact ⟨rfl, rfl, by omega⟩ | exact ⟨by assumption, rfl, by omega⟩ | exact ⟨⟨_, rfl, rfl⟩, by decide, by decide, rfl, by omega⟩ | omega | decide)⟩ ?_
  rw [e1, nI_1]
  exact ⟨by rw [mu_at]; rfl, rfl, rfl⟩
theorem xX7_appendA (l : Launch) (hlt : l.stackTraces = false) {x : Int32} (hx : x < 33 ∨ ¬ x ≤ 126) (I : IM) (L : LM) : TX7_append l [.ref 0, .int x] I L exA I L := by
  refine vX7_append l hlt rfl (fun V hX => ?_)
  have hV := hX.1
  by_cases h : x < 33
  · refine ru_go hV 3 [(1, 0)] rfl rfl ⟨trivial, h⟩ ?_
    exact rx_S hX "the code is not 33 to 126" thX7_append_12 excA (by decide) rfl
  · refine ru_go hV 6 [(0, 0), (0, 0)] rfl rfl ⟨⟨trivial, h⟩, hx.resolve_left h⟩ ?_
    exact rx_S hX "the code is not 33 to 126" thX7_append_12 excA (by decide) rfl
theorem xX7_appendS (l : Launch) (hlt : l.stackTraces = false) {c : Nat} (hc1 : 33 ≤ c) (hc2 : c ≤ 126) {I : IM} (hb : I 0 5 = 60) (L : LM) : TX7_append l [.ref 0, .int (nI c)] I L exS I L := by
  refine vX7_append l hlt rfl (fun V hX => ?_)
  have hV := hX.1
  refine ru_go hV 10 [(0, 0), (1, 0), (0, 0)] rfl rfl ⟨⟨⟨⟨trivial, nI_nlt (b := 33) hc1 (by omega)⟩, nI_le (b := 126) hc2 (by decide)⟩, (by first | exact rfl | assumption | exact ⟨rfl, rfl⟩ | exact ⟨rfl, rfl, by omega⟩ | exact ⟨by assumption, rfl, by omega⟩ | exact ⟨⟨_, rfl, rfl⟩, by decide, by decide, rfl, by omega⟩ | omega | decide)⟩, (by rw [hb]; decide)⟩ ?_
  exact rx_S hX "the buffer is full" thX7_append_31 excS (by decide) rfl
theorem qX7_clearBuffer (l : Launch) (I : IM) (L : LM) : KX7_clearBuffer l [.ref 0] I L (some (.int (I 0 5))) (mu I 0 5 0) L := by
  refine wX7_clearBuffer l rfl (hz0 (by decide)) (fun V hV => ?_)
  refine ru_fin hV 8 [] rfl rfl ⟨⟨trivial, (by first | exact rfl | assumption | exact ⟨rfl, rfl⟩ | exact ⟨rfl, rfl, by omega⟩ | exact ⟨by assumption, rfl, by omega⟩ | exact ⟨⟨_, rfl, rfl⟩, by decide, by decide, rfl, by omega⟩ | omega | decide)⟩, (by first | exact rfl | assumption | exact ⟨rfl, rfl⟩ | exact ⟨rfl, rfl, by omega⟩ | exact ⟨by assumption, rfl, by omega⟩ | exact ⟨⟨_, rfl, rfl⟩, by decide, by decide, rfl, by omega⟩ | omega | decide)⟩ ?_
  exact ⟨rfl, rfl, rfl⟩
/-- what a reading of the buffer gives -/
def rdB (n : Nat) (f : Nat → Nat) (q : Nat) : Nat × Fs := rdR n f q 0 (0, false, 1, 0, fun _ => 0)
theorem rdM_SC {I : IM} {n : Nat} {s : Fs} : SC I (rdM I n s) := ⟨fun a _ _ h1 h2 => rd_o h1 h2, fun h j hj hk => by rw [rd_o (by decide) (by decide)]; exact h j hj hk⟩
theorem qX7_firstError (l : Launch) {n q : Nat} {f : Nat → Nat} (hn : n ≤ 5) (hq : q ≤ 60) {I : IM} (hd : I 1 0 = nI n) (hb : I 0 5 = nI q) (hf : ∀ j, j < q → I 167 j = nI (f j) ∧ f j < 128) (L : LM) : KX7_firstError l [.ref 0] I L (some (.int (nI (rdB n f q).1))) (rdM I n (rdB n f q).2) L := by
  refine wX7_firstError l rfl (hz0 (by decide)) (fun V hV => ?_)
  refine ru_go hV 9 [(179, 0), (167, 0), (1, 0)] rfl rfl ⟨⟨⟨⟨⟨trivial, (by first | exact rfl | assumption | exact ⟨rfl, rfl⟩ | exact ⟨rfl, rfl, by omega⟩ | exact ⟨by assumption, rfl, by omega⟩ | exact ⟨⟨_, rfl, rfl⟩, by decide, by decide, rfl, by omega⟩ | omega | decide)⟩, (by first | exact rfl | assumption | exact ⟨rfl, rfl⟩ | exact ⟨rfl, rfl, by omega⟩ | exact ⟨by assumption, rfl, by omega⟩ | exact ⟨⟨_, rfl, rfl⟩, by decide, by decide, rfl, by omega⟩ | omega | decide)⟩, (by first | exact rfl | assumption | exact ⟨rfl, rfl⟩ | exact ⟨rfl, rfl, by omega⟩ | exact ⟨by assumption, rfl, by omega⟩ | exact ⟨⟨_, rfl, rfl⟩, by decide, by decide, rfl, by omega⟩ | omega | decide)⟩, (by first | exact rfl | assumption | exact ⟨rfl, rfl⟩ | exact ⟨rfl, rfl, by omega⟩ | exact ⟨by assumption, rfl, by omega⟩ | exact ⟨⟨_, rfl, rfl⟩, by decide, by decide, rfl, by omega⟩ | omega | decide)⟩, (by first | exact rfl | assumption | exact ⟨rfl, rfl⟩ | exact ⟨rfl, rfl, by omega⟩ | exact ⟨by assumption, rfl, by omega⟩ | exact ⟨⟨_, rfl, rfl⟩, by decide, by decide, rfl, by omega⟩ | omega | decide)⟩ ?_
  rw [hb, hd]
  refine ru_V hV [] sVX7_162 (qX1_read l hn hq hf L) rfl rfl rfl rfl rfl (Nat.le_of_ble_eq_true rfl) ?_
  refine ru_fin hV 1 [] rfl rfl trivial ?_
  exact ⟨rfl, rfl, rfl⟩
/-- whether the whole buffer is a form -/
def rdW (n : Nat) (f : Nat → Nat) (q : Nat) : Prop := (rdB n f q).1 = q ∧ ((rdB n f q).2.1 = 2 ∨ (rdB n f q).2.1 = 3 ∨ (rdB n f q).2.1 = 5)
theorem rdR_m {n : Nat} {f : Nat → Nat} (hn : n ≤ 5) : ∀ (k i : Nat) (s : Fs), VF n s → VF n (rdR n f k i s).2
  | 0, i, (m, g, u, b, c), h => by
    unfold rdR
    dsimp only
    split
    · exact h
    · exact h
  | k + 1, i, s, h => by
    unfold rdR
    cases ha : acc n s (f i) with
    | none => exact h
    | some t => exact rdR_m hn k (i + 1) t (acc_VF hn h ha)
theorem rdB_m {n q : Nat} {f : Nat → Nat} (hn : n ≤ 5) : (rdB n f q).2.1 ≤ 5 := (rdR_m hn q 0 _ ⟨(by decide : 0 ≤ 5), (by decide : 1 < 100000), Nat.pos_of_ne_zero (by simp)⟩).1
/-- the memory behind a form put -/
noncomputable def ptI (I : IM) (c : Nat → Int32) (o z s : Nat) : IM := mu (lay (svI I o z) (3 + s) 32 c) 0 5 0
theorem svI_rd {I : IM} {n o z : Nat} {s : Fs} (ho : o < 6) {j : Nat} (hj : j < 32) : svI (rdM I n s) o z 180 j = s.2.2.2.2 j := by
  rw [svI_ne ho (by decide)]
  obtain ⟨m, g, u, b, c⟩ := s
  exact rd_c hj
theorem qX7_put (l : Launch) {n q s o z : Nat} {f : Nat → Nat} (hs : s < 8) (hn : n ≤ 5) (hq : q ≤ 60) (ho : o < 6) (hz : z ≤ 6) {I : IM} (hd : I 1 0 = nI n) (hb : I 0 5 = nI q) (hf : ∀ j, j < q → I 167 j = nI (f j) ∧ f j < 128) (h1 : I 19 1 = nI o) (h2 : I 19 2 = nI z) (L : LM) (hw : rdW n f q) : KX7_put l [.ref 0, .int (nI s)] I L (some (.int (nI (cnz (rdB n f q).2.2.2.2.2 32)))) (ptI (rdM I n (rdB n f q).2) (rdB n f q).2.2.2.2.2 o z s) L := by
  have km := kd_row (b := 1) (x := s) hb1 hs
  have kr := kd_fr (b := 1) (x := s) hb1 hs
  have hrm := rdB_m (n := n) (q := q) (f := f) hn
  have hrow : ∀ j, j < 32 → svI (rdM I n (rdB n f q).2) o z 180 j = (rdB n f q).2.2.2.2.2 j := fun j hj => svI_rd ho hj
  have eread := qX1_read l hn hq hf L
  obtain ⟨hw1, hw2⟩ := hw
  have hk : KX1_read l [.ref 179, .ref 167, .int (nI q), .int (nI n)] I L (some (.int (nI q))) (rdM I n (rdB n f q).2) L := by
    have : (rdR n f q 0 (0, false, 1, 0, fun _ => 0)).1 = q := hw1
    rw [this] at eread
    exact eread
  generalize (rdB n f q).2 = rs at *
  refine wX7_put l rfl (hz0 (by decide)) (fun V hV => ?_)
  refine ru_go hV 1 [] rfl rfl trivial ?_
  refine ru_S hV [] sSX7_97 (qX7_requireSlot l hs I L) rfl rfl rfl (Nat.le_of_ble_eq_true rfl) ?_
  refine ru_go hV 9 [(179, 0), (167, 0), (1, 0)] rfl rfl ⟨⟨⟨⟨⟨trivial, (by first | exact rfl | assumption | exact ⟨rfl, rfl⟩ | exact ⟨rfl, rfl, by omega⟩ | exact ⟨by assumption, rfl, by omega⟩ | exact ⟨⟨_, rfl, rfl⟩, by decide, by decide, rfl, by omega⟩ | omega | decide)⟩, (by first | exact rfl | assumption | exact ⟨rfl, rfl⟩ | exact ⟨rfl, rfl, by omega⟩ | exact ⟨by assumption, rfl, by omega⟩ | exact ⟨⟨_, rfl, rfl⟩, by decide, by decide, rfl, by omega⟩ | omega | decide)⟩, (by first | exact rfl | assumption | exact ⟨rfl, rfl⟩ | exact ⟨rfl, rfl, by omega⟩ | exact ⟨by assumption, rfl, by omega⟩ | exact ⟨⟨_, rfl, rfl⟩, by decide, by decide, rfl, by omega⟩ | omega | decide)⟩, (by first | exact rfl | assumption | exact ⟨rfl, rfl⟩ | exact ⟨rfl, rfl, by omega⟩ | exact ⟨by assumption, rfl, by omega⟩ | exact ⟨⟨_, rfl, rfl⟩, by decide, by decide, rfl, by omega⟩ | omega | decide)⟩, (by first | exact rfl | assumption | exact ⟨rfl, rfl⟩ | exact ⟨rfl, rfl, by omega⟩ | exact ⟨by assumption, rfl, by omega⟩ | exact ⟨⟨_, rfl, rfl⟩, by decide, by decide, rfl, by omega⟩ | omega | decide)⟩ ?_
  rw [hb, hd]
  refine ru_V hV [] sVX7_162 hk rfl rfl rfl rfl rfl (Nat.le_of_ble_eq_true rfl) ?_
  refine ru_go hV 7 [(0, 0), (179, 0)] rfl rfl ⟨⟨⟨trivial, (by first | exact rfl | assumption | exact ⟨rfl, rfl⟩ | exact ⟨rfl, rfl, by omega⟩ | exact ⟨by assumption, rfl, by omega⟩ | exact ⟨⟨_, rfl, rfl⟩, by decide, by decide, rfl, by omega⟩ | omega | decide)⟩, (by rw [rd_o (by decide) (by decide), hb]; exact nI_nlt (Nat.le_refl q) (by omega))⟩, (by first | exact rfl | assumption | exact ⟨rfl, rfl⟩ | exact ⟨rfl, rfl, by omega⟩ | exact ⟨by assumption, rfl, by omega⟩ | exact ⟨⟨_, rfl, rfl⟩, by decide, by decide, rfl, by omega⟩ | omega | decide)⟩ ?_
  refine ru_V hV [] sVX7_166 (qX1_isComplete l hrm L) rfl rfl rfl rfl rfl (Nat.le_of_ble_eq_true rfl) ?_
  rw [if_pos hw2]
  refine ru_go hV 5 [(1, 0), (19, 0), (1, 0)] rfl rfl ⟨⟨⟨trivial, (by decide)⟩, (by first | exact rfl | assumption | exact ⟨rfl, rfl⟩ | exact ⟨rfl, rfl, by omega⟩ | exact ⟨by assumption, rfl, by omega⟩ | exact ⟨⟨_, rfl, rfl⟩, by decide, by decide, rfl, by omega⟩ | omega | decide)⟩, (by first | exact rfl | assumption | exact ⟨rfl, rfl⟩ | exact ⟨rfl, rfl, by omega⟩ | exact ⟨by assumption, rfl, by omega⟩ | exact ⟨⟨_, rfl, rfl⟩, by decide, by decide, rfl, by omega⟩ | omega | decide)⟩ ?_
  refine ru_V hV [] sVX7_70 (qX3_save l ho hz (by rw [rd_o (by decide) (by decide)]; exact h1) (by rw [rd_o (by decide) (by decide)]; exact h2) L) rfl rfl rfl rfl rfl (Nat.le_of_ble_eq_true rfl) ?_
  refine ru_go hV 11 [(179, 0), (180, 0), (1, 0), (2, 0), (s, 8), ((3+s), 5)] rfl rfl ⟨⟨⟨⟨⟨trivial, (by first | exact rfl | assumption | exact ⟨rfl, rfl⟩ | exact ⟨rfl, rfl, by omega⟩ | exact ⟨by assumption, rfl, by omega⟩ | exact ⟨⟨_, rfl, rfl⟩, by decide, by decide, rfl, by omega⟩ | omega | decide)⟩, (by first | exact rfl | assumption | exact ⟨rfl, rfl⟩ | exact ⟨rfl, rfl, by omega⟩ | exact ⟨by assumption, rfl, by omega⟩ | exact ⟨⟨_, rfl, rfl⟩, by decide, by decide, rfl, by omega⟩ | omega | decide)⟩, (by first | exact rfl | assumption | exact ⟨rfl, rfl⟩ | exact ⟨rfl, rfl, by omega⟩ | exact ⟨by assumption, rfl, by omega⟩ | exact ⟨⟨_, rfl, rfl⟩, by decide, by decide, rfl, by omega⟩ | omega | decide)⟩, (by first | exact rfl | assumption | exact ⟨rfl, rfl⟩ | exact ⟨rfl, rfl, by omega⟩ | exact ⟨by assumption, rfl, by omega⟩ | exact ⟨⟨_, rfl, rfl⟩, by decide, by decide, rfl, by omega⟩ | omega | decide)⟩, kr⟩ ?_
  refine ru_cI hV (n := 32) (rest := []) sNX7_175 rfl km (Nat.le_refl 32) (Nat.le_refl 32) rfl (by decide +kernel) rfl ?_
  have elay : mrow (svI (rdM I n rs) o z) (3 + s) (cp0 (svI (rdM I n rs) o z 180) (svI (rdM I n rs) o z (3 + s)) 32) = lay (svI (rdM I n rs) o z) (3 + s) 32 rs.2.2.2.2 := by
    rw [show mrow (svI (rdM I n rs) o z) (3 + s) (cp0 (svI (rdM I n rs) o z 180) (svI (rdM I n rs) o z (3 + s)) 32) = lay (svI (rdM I n rs) o z) (3 + s) 32 (svI (rdM I n rs) o z 180) from rfl]
    exact lay_cong (fun j hj => hrow j hj)
  rw [elay]
  refine ru_go hV 8 [(1, 0), (2, 0), (s, 8), ((3+s), 5)] rfl rfl ⟨⟨⟨⟨trivial, (by first | exact rfl | assumption | exact ⟨rfl, rfl⟩ | exact ⟨rfl, rfl, by omega⟩ | exact ⟨by assumption, rfl, by omega⟩ | exact ⟨⟨_, rfl, rfl⟩, by decide, by decide, rfl, by omega⟩ | omega | decide)⟩, (by first | exact rfl | assumption | exact ⟨rfl, rfl⟩ | exact ⟨rfl, rfl, by omega⟩ | exact ⟨by assumption, rfl, by omega⟩ | exact ⟨⟨_, rfl, rfl⟩, by decide, by decide, rfl, by omega⟩ | omega | decide)⟩, (by first | exact rfl | assumption | exact ⟨rfl, rfl⟩ | exact ⟨rfl, rfl, by omega⟩ | exact ⟨by assumption, rfl, by omega⟩ | exact ⟨⟨_, rfl, rfl⟩, by decide, by decide, rfl, by omega⟩ | omega | decide)⟩, kr⟩ ?_
  refine ru_S hV [] sSX7_181 (qX2_countNonzero l km _ L) rfl rfl rfl (Nat.le_of_ble_eq_true rfl) ?_
  refine ru_fin hV 1 [] rfl rfl trivial ?_
  refine ⟨?_, rfl, rfl⟩
  rw [mu_ne _ _ (by omega)]
  have ec : cnz (lay (svI (rdM I n rs) o z) (3 + s) 32 rs.2.2.2.2 (3 + s)) 32 = cnz rs.2.2.2.2 32 := cnz_cong (fun j hj => lay_in hj)
  rw [ec]
  rfl
theorem xX7_putD (l : Launch) (hlt : l.stackTraces = false) {x : Int32} (hx : ouR x 8) (I : IM) (L : LM) : TX7_put l [.ref 0, .int x] I L exB I L := by
  refine vX7_put l hlt rfl (fun V hX => ?_)
  have hV := hX.1
  refine ru_go hV 1 [] rfl rfl trivial ?_
  exact rx_cS hX [] sSX7_97 (xX7_requireSlot l hlt hx I L) rfl rfl rfl (Nat.le_of_ble_eq_true rfl)
theorem xX7_putW (l : Launch) (hlt : l.stackTraces = false) {n q s : Nat} {f : Nat → Nat} (hs : s < 8) (hn : n ≤ 5) (hq : q ≤ 60) {I : IM} (hd : I 1 0 = nI n) (hb : I 0 5 = nI q) (hf : ∀ j, j < q → I 167 j = nI (f j) ∧ f j < 128) (L : LM) (hw : ¬ rdW n f q) : TX7_put l [.ref 0, .int (nI s)] I L exA (rdM I n (rdB n f q).2) L := by
  have hrm := rdB_m (n := n) (q := q) (f := f) hn
  have hle : (rdB n f q).1 ≤ q := by
    have := rdR_le (n := n) (f := f) q 0 (0, false, 1, 0, fun _ => 0)
    rw [Nat.zero_add] at this
    exact this
  have eread : KX1_read l [.ref 179, .ref 167, .int (nI q), .int (nI n)] I L (some (.int (nI (rdB n f q).1))) (rdM I n (rdB n f q).2) L := qX1_read l hn hq hf L
  refine vX7_put l hlt rfl (fun V hX => ?_)
  have hV := hX.1
  refine ru_go hV 1 [] rfl rfl trivial ?_
  refine ru_S hV [] sSX7_97 (qX7_requireSlot l hs I L) rfl rfl rfl (Nat.le_of_ble_eq_true rfl) ?_
  refine ru_go hV 9 [(179, 0), (167, 0), (1, 0)] rfl rfl ⟨⟨⟨⟨⟨trivial, (by first | exact rfl | assumption | exact ⟨rfl, rfl⟩ | exact ⟨rfl, rfl, by omega⟩ | exact ⟨by assumption, rfl, by omega⟩ | exact ⟨⟨_, rfl, rfl⟩, by decide, by decide, rfl, by omega⟩ | omega | decide)⟩, (by first | exact rfl | assumption | exact ⟨rfl, rfl⟩ | exact ⟨rfl, rfl, by omega⟩ | exact ⟨by assumption, rfl, by omega⟩ | exact ⟨⟨_, rfl, rfl⟩, by decide, by decide, rfl, by omega⟩ | omega | decide)⟩, (by first | exact rfl | assumption | exact ⟨rfl, rfl⟩ | exact ⟨rfl, rfl, by omega⟩ | exact ⟨by assumption, rfl, by omega⟩ | exact ⟨⟨_, rfl, rfl⟩, by decide, by decide, rfl, by omega⟩ | omega | decide)⟩, (by first | exact rfl | assumption | exact ⟨rfl, rfl⟩ | exact ⟨rfl, rfl, by omega⟩ | exact ⟨by assumption, rfl, by omega⟩ | exact ⟨⟨_, rfl, rfl⟩, by decide, by decide, rfl, by omega⟩ | omega | decide)⟩, (by first | exact rfl | assumption | exact ⟨rfl, rfl⟩ | exact ⟨rfl, rfl, by omega⟩ | exact ⟨by assumption, rfl, by omega⟩ | exact ⟨⟨_, rfl, rfl⟩, by decide, by decide, rfl, by omega⟩ | omega | decide)⟩ ?_
  rw [hb, hd]
  refine ru_V hV [] sVX7_162 eread rfl rfl rfl rfl rfl (Nat.le_of_ble_eq_true rfl) ?_
  by_cases h : (rdB n f q).1 = q
  · refine ru_go hV 7 [(0, 0), (179, 0)] rfl rfl ⟨⟨⟨trivial, (by first | exact rfl | assumption | exact ⟨rfl, rfl⟩ | exact ⟨rfl, rfl, by omega⟩ | exact ⟨by assumption, rfl, by omega⟩ | exact ⟨⟨_, rfl, rfl⟩, by decide, by decide, rfl, by omega⟩ | omega | decide)⟩, (by rw [rd_o (by decide) (by decide), hb, h]; exact nI_nlt (Nat.le_refl q) (by omega))⟩, (by first | exact rfl | assumption | exact ⟨rfl, rfl⟩ | exact ⟨rfl, rfl, by omega⟩ | exact ⟨by assumption, rfl, by omega⟩ | exact ⟨⟨_, rfl, rfl⟩, by decide, by decide, rfl, by omega⟩ | omega | decide)⟩ ?_
    refine ru_V hV [] sVX7_166 (qX1_isComplete l hrm L) rfl rfl rfl rfl rfl (Nat.le_of_ble_eq_true rfl) ?_
    rw [if_neg (fun e => hw ⟨h, e⟩)]
    refine ru_go hV 1 [(0, 0)] rfl rfl ⟨trivial, (by decide)⟩ ?_
    exact rx_S hX "the buffer is not a complete form" thX7_put_45 excA (by decide) rfl
  · refine ru_go hV 5 [(1, 0)] rfl rfl ⟨⟨trivial, (by first | exact rfl | assumption | exact ⟨rfl, rfl⟩ | exact ⟨rfl, rfl, by omega⟩ | exact ⟨by assumption, rfl, by omega⟩ | exact ⟨⟨_, rfl, rfl⟩, by decide, by decide, rfl, by omega⟩ | omega | decide)⟩, (by rw [rd_o (by decide) (by decide), hb]; exact nI_lt (by omega) (by omega))⟩ ?_
    exact rx_S hX "the buffer is not a complete form" thX7_put_45 excA (by decide) rfl
def sbk (k : Nat) : Nat := 130 + 18 * k
theorem sbk_st {k : Nat} (h : k < 2) : isSt (sbk k) := Or.inr (Or.inr ⟨k, h, rfl⟩)
theorem sbk_aa {k : Nat} (h : k < 2) : (∃ w, kdC 129 = (4, 2, w) ∧ sbk k = 129 + 1 + k * w) ∧ 4 ≤ 4 ∧ 4 ≤ 6 ∧ nI k = nI k ∧ k < 2 := ⟨⟨18, rfl, by unfold sbk; omega⟩, by decide, by decide, rfl, h⟩
theorem qX7_take (l : Launch) {k : Nat} (hk : k < 2) (I : IM) (L : LM) : KX7_take l [.ref 0, .int (nI k)] I L (some (.int (nI (cfS (mu (cpS I (sbk k) 1) 166 k 1) 1 8)))) (mu (cpS I (sbk k) 1) 166 k 1) L := by
  refine wX7_take l rfl (hz0 (by decide)) (fun V hV => ?_)
  refine ru_go hV 1 [] rfl rfl trivial ?_
  refine ru_S hV [] sSX7_187 (qX7_requireSnapshot l hk I L) rfl rfl rfl (Nat.le_of_ble_eq_true rfl) ?_
  refine ru_go hV 6 [(129, 0), (k, 2), ((sbk k), 4), (1, 0)] rfl rfl ⟨⟨⟨trivial, (by first | exact rfl | assumption | exact ⟨rfl, rfl⟩ | exact ⟨rfl, rfl, by omega⟩ | exact ⟨by assumption, rfl, by omega⟩ | exact ⟨⟨_, rfl, rfl⟩, by decide, by decide, rfl, by omega⟩ | omega | decide)⟩, sbk_aa hk⟩, (by first | exact rfl | assumption | exact ⟨rfl, rfl⟩ | exact ⟨rfl, rfl, by omega⟩ | exact ⟨by assumption, rfl, by omega⟩ | exact ⟨⟨_, rfl, rfl⟩, by decide, by decide, rfl, by omega⟩ | omega | decide)⟩ ?_
  refine ru_V hV [] sVX7_190 (qX6_copyScene l (sbk_st hk) hb1 (by unfold sbk; omega) I L) (kd_st0 (sbk_st hk)) rfl rfl rfl rfl (Nat.le_of_ble_eq_true rfl) ?_
  refine ru_go hV 7 [(166, 0), (k, 2), (1, 0)] rfl rfl ⟨⟨⟨trivial, (by first | exact rfl | assumption | exact ⟨rfl, rfl⟩ | exact ⟨rfl, rfl, by omega⟩ | exact ⟨by assumption, rfl, by omega⟩ | exact ⟨⟨_, rfl, rfl⟩, by decide, by decide, rfl, by omega⟩ | omega | decide)⟩, ⟨rfl, rfl, hk, Or.inr rfl⟩⟩, (by first | exact rfl | assumption | exact ⟨rfl, rfl⟩ | exact ⟨rfl, rfl, by omega⟩ | exact ⟨by assumption, rfl, by omega⟩ | exact ⟨⟨_, rfl, rfl⟩, by decide, by decide, rfl, by omega⟩ | omega | decide)⟩ ?_
  refine ru_V hV [] sVX7_193 (qX6_countForms l hb1 _ L) rfl rfl rfl rfl rfl (Nat.le_of_ble_eq_true rfl) ?_
  refine ru_fin hV 1 [] rfl rfl trivial ?_
  exact ⟨rfl, rfl, rfl⟩
theorem xX7_take (l : Launch) (hlt : l.stackTraces = false) {x : Int32} (hx : ouR x 2) (I : IM) (L : LM) : TX7_take l [.ref 0, .int x] I L exB I L := by
  refine vX7_take l hlt rfl (fun V hX => ?_)
  have hV := hX.1
  refine ru_go hV 1 [] rfl rfl trivial ?_
  exact rx_cS hX [] sSX7_187 (xX7_requireSnapshot l hlt hx I L) rfl rfl rfl (Nat.le_of_ble_eq_true rfl)
theorem qX7_restore (l : Launch) {k o z : Nat} (hk : k < 2) (ho : o < 6) (hz : z ≤ 6) {I : IM} (h1 : I 19 1 = nI o) (h2 : I 19 2 = nI z) (ht : I 166 k ≠ 0) (L : LM) : KX7_restore l [.ref 0, .int (nI k)] I L (some (.int (nI (cfS (cpS (svI I o z) 1 (sbk k)) 1 8)))) (cpS (svI I o z) 1 (sbk k)) L := by
  refine wX7_restore l rfl (hz0 (by decide)) (fun V hV => ?_)
  refine ru_go hV 1 [] rfl rfl trivial ?_
  refine ru_S hV [] sSX7_187 (qX7_requireSnapshot l hk I L) rfl rfl rfl (Nat.le_of_ble_eq_true rfl) ?_
  refine ru_go hV 9 [(166, 0), (k, 2), (1, 0), (19, 0), (1, 0)] rfl rfl ⟨⟨⟨⟨⟨trivial, (by first | exact rfl | assumption | exact ⟨rfl, rfl⟩ | exact ⟨rfl, rfl, by omega⟩ | exact ⟨by assumption, rfl, by omega⟩ | exact ⟨⟨_, rfl, rfl⟩, by decide, by decide, rfl, by omega⟩ | omega | decide)⟩, (by first | exact rfl | assumption | exact ⟨rfl, rfl⟩ | exact ⟨rfl, rfl, by omega⟩ | exact ⟨by assumption, rfl, by omega⟩ | exact ⟨⟨_, rfl, rfl⟩, by decide, by decide, rfl, by omega⟩ | omega | decide)⟩, ht⟩, (by first | exact rfl | assumption | exact ⟨rfl, rfl⟩ | exact ⟨rfl, rfl, by omega⟩ | exact ⟨by assumption, rfl, by omega⟩ | exact ⟨⟨_, rfl, rfl⟩, by decide, by decide, rfl, by omega⟩ | omega | decide)⟩, (by first | exact rfl | assumption | exact ⟨rfl, rfl⟩ | exact ⟨rfl, rfl, by omega⟩ | exact ⟨by assumption, rfl, by omega⟩ | exact ⟨⟨_, rfl, rfl⟩, by decide, by decide, rfl, by omega⟩ | omega | decide)⟩ ?_
  refine ru_V hV [] sVX7_70 (qX3_save l ho hz h1 h2 L) rfl rfl rfl rfl rfl (Nat.le_of_ble_eq_true rfl) ?_
  refine ru_go hV 6 [(1, 0), (129, 0), (k, 2), ((sbk k), 4)] rfl rfl ⟨⟨⟨trivial, (by first | exact rfl | assumption | exact ⟨rfl, rfl⟩ | exact ⟨rfl, rfl, by omega⟩ | exact ⟨by assumption, rfl, by omega⟩ | exact ⟨⟨_, rfl, rfl⟩, by decide, by decide, rfl, by omega⟩ | omega | decide)⟩, (by first | exact rfl | assumption | exact ⟨rfl, rfl⟩ | exact ⟨rfl, rfl, by omega⟩ | exact ⟨by assumption, rfl, by omega⟩ | exact ⟨⟨_, rfl, rfl⟩, by decide, by decide, rfl, by omega⟩ | omega | decide)⟩, sbk_aa hk⟩ ?_
  refine ru_V hV [] sVX7_190 (qX6_copyScene l hb1 (sbk_st hk) (by unfold sbk; omega) _ L) rfl rfl rfl rfl rfl (Nat.le_of_ble_eq_true rfl) ?_
  refine ru_go hV 2 [(1, 0)] rfl rfl ⟨trivial, (by first | exact rfl | assumption | exact ⟨rfl, rfl⟩ | exact ⟨rfl, rfl, by omega⟩ | exact ⟨by assumption, rfl, by omega⟩ | exact ⟨⟨_, rfl, rfl⟩, by decide, by decide, rfl, by omega⟩ | omega | decide)⟩ ?_
  refine ru_V hV [] sVX7_193 (qX6_countForms l hb1 _ L) rfl rfl rfl rfl rfl (Nat.le_of_ble_eq_true rfl) ?_
  refine ru_fin hV 1 [] rfl rfl trivial ?_
  exact ⟨rfl, rfl, rfl⟩
theorem xX7_restoreD (l : Launch) (hlt : l.stackTraces = false) {x : Int32} (hx : ouR x 2) (I : IM) (L : LM) : TX7_restore l [.ref 0, .int x] I L exB I L := by
  refine vX7_restore l hlt rfl (fun V hX => ?_)
  have hV := hX.1
  refine ru_go hV 1 [] rfl rfl trivial ?_
  exact rx_cS hX [] sSX7_187 (xX7_requireSnapshot l hlt hx I L) rfl rfl rfl (Nat.le_of_ble_eq_true rfl)
theorem xX7_restoreT (l : Launch) (hlt : l.stackTraces = false) {k : Nat} (hk : k < 2) {I : IM} (ht : I 166 k = 0) (L : LM) : TX7_restore l [.ref 0, .int (nI k)] I L exS I L := by
  refine vX7_restore l hlt rfl (fun V hX => ?_)
  have hV := hX.1
  refine ru_go hV 1 [] rfl rfl trivial ?_
  refine ru_S hV [] sSX7_187 (qX7_requireSnapshot l hk I L) rfl rfl rfl (Nat.le_of_ble_eq_true rfl) ?_
  refine ru_go hV 5 [(166, 0), (k, 2), (0, 0)] rfl rfl ⟨⟨⟨trivial, (by first | exact rfl | assumption | exact ⟨rfl, rfl⟩ | exact ⟨rfl, rfl, by omega⟩ | exact ⟨by assumption, rfl, by omega⟩ | exact ⟨⟨_, rfl, rfl⟩, by decide, by decide, rfl, by omega⟩ | omega | decide)⟩, (by first | exact rfl | assumption | exact ⟨rfl, rfl⟩ | exact ⟨rfl, rfl, by omega⟩ | exact ⟨by assumption, rfl, by omega⟩ | exact ⟨⟨_, rfl, rfl⟩, by decide, by decide, rfl, by omega⟩ | omega | decide)⟩, (fun e => e ht)⟩ ?_
  exact rx_S hX "the snapshot was not taken" thX7_restore_13 excS (by decide) rfl
theorem qX7_undo (l : Launch) {o z : Nat} (ho : o < 6) (hz : z ≤ 6) (hz1 : 0 < z) {I : IM} (h1 : I 19 1 = nI o) (h2 : I 19 2 = nI z) (L : LM) : KX7_undo l [.ref 0] I L (some (.int (nI (z - 1)))) (drI I o z) L := by
  refine wX7_undo l rfl (hz0 (by decide)) (fun V hV => ?_)
  refine ru_go hV 8 [(19, 0), (1, 0), (19, 0), (1, 0)] rfl rfl ⟨⟨⟨⟨⟨trivial, (by first | exact rfl | assumption | exact ⟨rfl, rfl⟩ | exact ⟨rfl, rfl, by omega⟩ | exact ⟨by assumption, rfl, by omega⟩ | exact ⟨⟨_, rfl, rfl⟩, by decide, by decide, rfl, by omega⟩ | omega | decide)⟩, (by first | exact rfl | assumption | exact ⟨rfl, rfl⟩ | exact ⟨rfl, rfl, by omega⟩ | exact ⟨by assumption, rfl, by omega⟩ | exact ⟨⟨_, rfl, rfl⟩, by decide, by decide, rfl, by omega⟩ | omega | decide)⟩, (by rw [h2]; exact nI_ne0 hz1 (by omega))⟩, (by first | exact rfl | assumption | exact ⟨rfl, rfl⟩ | exact ⟨rfl, rfl, by omega⟩ | exact ⟨by assumption, rfl, by omega⟩ | exact ⟨⟨_, rfl, rfl⟩, by decide, by decide, rfl, by omega⟩ | omega | decide)⟩, (by first | exact rfl | assumption | exact ⟨rfl, rfl⟩ | exact ⟨rfl, rfl, by omega⟩ | exact ⟨by assumption, rfl, by omega⟩ | exact ⟨⟨_, rfl, rfl⟩, by decide, by decide, rfl, by omega⟩ | omega | decide)⟩ ?_
  refine ru_V hV [] sVX7_203 (qX3_dropInto l ho hz hz1 h1 h2 L) rfl rfl rfl rfl rfl (Nat.le_of_ble_eq_true rfl) ?_
  refine ru_fin hV 4 [(19, 0)] rfl rfl ⟨⟨trivial, (by first | exact rfl | assumption | exact ⟨rfl, rfl⟩ | exact ⟨rfl, rfl, by omega⟩ | exact ⟨by assumption, rfl, by omega⟩ | exact ⟨⟨_, rfl, rfl⟩, by decide, by decide, rfl, by omega⟩ | omega | decide)⟩, (by first | exact rfl | assumption | exact ⟨rfl, rfl⟩ | exact ⟨rfl, rfl, by omega⟩ | exact ⟨by assumption, rfl, by omega⟩ | exact ⟨⟨_, rfl, rfl⟩, by decide, by decide, rfl, by omega⟩ | omega | decide)⟩ ?_
  refine ⟨?_, rfl, rfl⟩
  rw [show drI I o z 19 2 = nI (z - 1) by
    unfold drI
    rw [cpA_19 _ hb1, mu_at]]
  rfl
theorem xX7_undo (l : Launch) (hlt : l.stackTraces = false) {I : IM} (h2 : I 19 2 = 0) (L : LM) : TX7_undo l [.ref 0] I L exS I L := by
  refine vX7_undo l hlt rfl (fun V hX => ?_)
  have hV := hX.1
  refine ru_go hV 4 [(19, 0), (0, 0)] rfl rfl ⟨⟨⟨trivial, (by first | exact rfl | assumption | exact ⟨rfl, rfl⟩ | exact ⟨rfl, rfl, by omega⟩ | exact ⟨by assumption, rfl, by omega⟩ | exact ⟨⟨_, rfl, rfl⟩, by decide, by decide, rfl, by omega⟩ | omega | decide)⟩, (by first | exact rfl | assumption | exact ⟨rfl, rfl⟩ | exact ⟨rfl, rfl, by omega⟩ | exact ⟨by assumption, rfl, by omega⟩ | exact ⟨⟨_, rfl, rfl⟩, by decide, by decide, rfl, by omega⟩ | omega | decide)⟩, (fun e => e h2)⟩ ?_
  exact rx_S hX "there is no saved state" thX7_undo_10 excS (by decide) rfl
