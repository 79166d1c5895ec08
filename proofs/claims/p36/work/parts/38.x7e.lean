/-! the desk: calls that change it -/
theorem ftO_g {L : LM} {n : Nat} {g : Nat → Int64} (hn : n ≤ 5) : ftO (lay L 168 32 g 168) (2 ^ n) = ftO g (2 ^ n) := fsO_cong (fun k hk => by rw [lay_in (pow_mono n hn k hk)])
theorem stI1_g {I : IM} {L : LM} {n o z t : Nat} {g : Nat → Int64} (hn : n ≤ 5) : stI1 I (lay L 168 32 g 168) o z (2 ^ n) t = stI1 I g o z (2 ^ n) t := lay_cong (fun k hk => by rw [lay_in (pow_mono n hn k hk)])
theorem stI_g {I : IM} {L : LM} {n o z t d : Nat} {g : Nat → Int64} (hn : n ≤ 5) : stI I (lay L 168 32 g 168) o z (2 ^ n) t d = stI I g o z (2 ^ n) t d := by
  unfold stI
  rw [stI1_g hn]
theorem qX7_storeG (l : Launch) {n o z t d : Nat} {g : Nat → Int64} (hn : n ≤ 5) (ho : o < 6) (hz : z ≤ 6) (ht : t < 8) (hd9 : d < 9) {I : IM} (hd : I 1 0 = nI n) (h1 : I 19 1 = nI o) (h2 : I 19 2 = nI z) (L : LM) : KX7_storeResult l [.ref 0, .int (nI t), .int (nI d)] I (lay L 168 32 g) (some (.int (nI (cnz (stI1 I g o z (2 ^ n) t (3 + t)) 32)))) (stI I g o z (2 ^ n) t d) (lay L 168 32 g) := by
  have h := qX7_storeResult l hn ho hz ht hd9 hd h1 h2 (lay L 168 32 g)
  rw [stI1_g hn, stI_g hn] at h
  exact h
theorem qX7_sum (l : Launch) {a b t : Nat} (ha : a < 8) (hb : b < 8) (ht : t < 8) {n o z : Nat} (hn : n ≤ 5) (ho : o < 6) (hz : z ≤ 6) {I : IM} (hd : I 1 0 = nI n) (h1 : I 19 1 = nI o) (h2 : I 19 2 = nI z) (L : LM) (hf : ftO (fun k => (I (3 + a) k).toInt64 + (I (3 + b) k).toInt64) (2 ^ n) = none) : KX7_sum l [.ref 0, .int (nI a), .int (nI b), .int (nI t)] I L (some (.int (nI (cnz (stI1 I (fun k => (I (3 + a) k).toInt64 + (I (3 + b) k).toInt64) o z (2 ^ n) t (3 + t)) 32)))) (stI I (fun k => (I (3 + a) k).toInt64 + (I (3 + b) k).toInt64) o z (2 ^ n) t 0) (lay L 168 32 (fun k => (I (3 + a) k).toInt64 + (I (3 + b) k).toInt64)) := by
  refine wX7_sum l rfl (hz0 (by decide)) (fun V hV => ?_)
  refine ru_go hV 3 [] rfl rfl trivial ?_
  refine ru_S hV [] sSX7_107 (qX7_requireSlots l ha hb ht I L) rfl rfl rfl (Nat.le_of_ble_eq_true rfl) ?_
  refine ru_go hV 6 [(1, 0), (168, 0)] rfl rfl ⟨⟨trivial, (by first | exact rfl | assumption | exact ⟨rfl, rfl⟩ | exact ⟨rfl, rfl, by omega⟩ | exact ⟨by assumption, rfl, by omega⟩ | exact ⟨⟨_, rfl, rfl⟩, by decide, by decide, rfl, by omega⟩ | omega | decide)⟩, (by first | exact rfl | assumption | exact ⟨rfl, rfl⟩ | exact ⟨rfl, rfl, by omega⟩ | exact ⟨by assumption, rfl, by omega⟩ | exact ⟨⟨_, rfl, rfl⟩, by decide, by decide, rfl, by omega⟩ | omega | decide)⟩ ?_
  refine ru_S hV [] sSX7_111 (qX5_addForms l (b := 1) (r := 168) hb1 ha hb rfl I L) rfl rfl rfl (Nat.le_of_ble_eq_true rfl) ?_
  refine ru_go hV 1 [] rfl rfl trivial ?_
  refine ru_V hV [] sVX7_117 (qX7_requireFits l hn hd (by rw [ftO_g hn]; exact hf)) rfl rfl rfl rfl rfl (Nat.le_of_ble_eq_true rfl) ?_
  refine ru_go hV 3 [] rfl rfl trivial ?_
  refine ru_V hV [] sVX7_120 (qX7_storeG l (d := 0) hn ho hz ht (by decide) hd h1 h2 L) rfl rfl rfl rfl rfl (Nat.le_of_ble_eq_true rfl) ?_
  refine ru_fin hV 1 [] rfl rfl trivial ?_
  exact ⟨rfl, rfl, rfl⟩
theorem qX7_wedge (l : Launch) {a b t : Nat} (ha : a < 8) (hb : b < 8) (ht : t < 8) {n o z : Nat} (hn : n ≤ 5) (ho : o < 6) (hz : z ≤ 6) {I : IM} (hd : I 1 0 = nI n) (h1 : I 19 1 = nI o) (h2 : I 19 2 = nI z) (L : LM) (hf : ftO (wC (I (3 + a)) (I (3 + b)) (2 ^ n)) (2 ^ n) = none) : KX7_wedge l [.ref 0, .int (nI a), .int (nI b), .int (nI t)] I L (some (.int (nI (cnz (stI1 I (wC (I (3 + a)) (I (3 + b)) (2 ^ n)) o z (2 ^ n) t (3 + t)) 32)))) (stI I (wC (I (3 + a)) (I (3 + b)) (2 ^ n)) o z (2 ^ n) t 2) (lay L 168 32 (wC (I (3 + a)) (I (3 + b)) (2 ^ n))) := by
  refine wX7_wedge l rfl (hz0 (by decide)) (fun V hV => ?_)
  refine ru_go hV 3 [] rfl rfl trivial ?_
  refine ru_S hV [] sSX7_107 (qX7_requireSlots l ha hb ht I L) rfl rfl rfl (Nat.le_of_ble_eq_true rfl) ?_
  refine ru_go hV 12 [(1, 0), (2, 0), (a, 8), ((3+a), 5), (1, 0), (2, 0), (b, 8), ((3+b), 5), (1, 0)] rfl rfl ⟨⟨⟨⟨⟨⟨⟨trivial, (by first | exact rfl | assumption | exact ⟨rfl, rfl⟩ | exact ⟨rfl, rfl, by omega⟩ | exact ⟨by assumption, rfl, by omega⟩ | exact ⟨⟨_, rfl, rfl⟩, by decide, by decide, rfl, by omega⟩ | omega | decide)⟩, (by first | exact rfl | assumption | exact ⟨rfl, rfl⟩ | exact ⟨rfl, rfl, by omega⟩ | exact ⟨by assumption, rfl, by omega⟩ | exact ⟨⟨_, rfl, rfl⟩, by decide, by decide, rfl, by omega⟩ | omega | decide)⟩, kd_fr (b := 1) hb1 ha⟩, (by first | exact rfl | assumption | exact ⟨rfl, rfl⟩ | exact ⟨rfl, rfl, by omega⟩ | exact ⟨by assumption, rfl, by omega⟩ | exact ⟨⟨_, rfl, rfl⟩, by decide, by decide, rfl, by omega⟩ | omega | decide)⟩, (by first | exact rfl | assumption | exact ⟨rfl, rfl⟩ | exact ⟨rfl, rfl, by omega⟩ | exact ⟨by assumption, rfl, by omega⟩ | exact ⟨⟨_, rfl, rfl⟩, by decide, by decide, rfl, by omega⟩ | omega | decide)⟩, kd_fr (b := 1) hb1 hb⟩, (by first | exact rfl | assumption | exact ⟨rfl, rfl⟩ | exact ⟨rfl, rfl, by omega⟩ | exact ⟨by assumption, rfl, by omega⟩ | exact ⟨⟨_, rfl, rfl⟩, by decide, by decide, rfl, by omega⟩ | omega | decide)⟩ ?_
  refine ru_V hV [.ref (3 + b), .ref (3 + a)] sVX7_127 (qX6_blades l hb1 hn hd L) rfl rfl rfl rfl rfl (Nat.le_of_ble_eq_true rfl) ?_
  refine ru_go hV 2 [(168, 0)] rfl rfl ⟨trivial, (by first | exact rfl | assumption | exact ⟨rfl, rfl⟩ | exact ⟨rfl, rfl, by omega⟩ | exact ⟨by assumption, rfl, by omega⟩ | exact ⟨⟨_, rfl, rfl⟩, by decide, by decide, rfl, by omega⟩ | omega | decide)⟩ ?_
  refine ru_S hV [] sSX7_131 (qX5_wedgeForms l (c := 3 + a) (d := 3 + b) (r := 168) (n := n) (kd_row (b := 1) hb1 ha) (kd_row (b := 1) hb1 hb) rfl hn I L) rfl rfl rfl (Nat.le_of_ble_eq_true rfl) ?_
  refine ru_go hV 1 [] rfl rfl trivial ?_
  refine ru_V hV [] sVX7_117 (qX7_requireFits l hn hd (by rw [ftO_g hn]; exact hf)) rfl rfl rfl rfl rfl (Nat.le_of_ble_eq_true rfl) ?_
  refine ru_go hV 3 [] rfl rfl trivial ?_
  refine ru_V hV [] sVX7_120 (qX7_storeG l (d := 2) hn ho hz ht (by decide) hd h1 h2 L) rfl rfl rfl rfl rfl (Nat.le_of_ble_eq_true rfl) ?_
  refine ru_fin hV 1 [] rfl rfl trivial ?_
  exact ⟨rfl, rfl, rfl⟩
theorem qX7_contract (l : Launch) {a b t : Nat} (ha : a < 8) (hb : b < 8) (ht : t < 8) {n o z : Nat} (hn : n ≤ 5) (ho : o < 6) (hz : z ≤ 6) {I : IM} (hd : I 1 0 = nI n) (h1 : I 19 1 = nI o) (h2 : I 19 2 = nI z) (L : LM) (hf : ftO (cC (I 11) (I (3 + a)) (I (3 + b)) (2 ^ n)) (2 ^ n) = none) : KX7_contract l [.ref 0, .int (nI a), .int (nI b), .int (nI t)] I L (some (.int (nI (cnz (stI1 I (cC (I 11) (I (3 + a)) (I (3 + b)) (2 ^ n)) o z (2 ^ n) t (3 + t)) 32)))) (stI I (cC (I 11) (I (3 + a)) (I (3 + b)) (2 ^ n)) o z (2 ^ n) t 3) (lay L 168 32 (cC (I 11) (I (3 + a)) (I (3 + b)) (2 ^ n))) := by
  refine wX7_contract l rfl (hz0 (by decide)) (fun V hV => ?_)
  refine ru_go hV 3 [] rfl rfl trivial ?_
  refine ru_S hV [] sSX7_107 (qX7_requireSlots l ha hb ht I L) rfl rfl rfl (Nat.le_of_ble_eq_true rfl) ?_
  refine ru_go hV 6 [(1, 0), (168, 0)] rfl rfl ⟨⟨trivial, (by first | exact rfl | assumption | exact ⟨rfl, rfl⟩ | exact ⟨rfl, rfl, by omega⟩ | exact ⟨by assumption, rfl, by omega⟩ | exact ⟨⟨_, rfl, rfl⟩, by decide, by decide, rfl, by omega⟩ | omega | decide)⟩, (by first | exact rfl | assumption | exact ⟨rfl, rfl⟩ | exact ⟨rfl, rfl, by omega⟩ | exact ⟨by assumption, rfl, by omega⟩ | exact ⟨⟨_, rfl, rfl⟩, by decide, by decide, rfl, by omega⟩ | omega | decide)⟩ ?_
  refine ru_S hV [] sSX7_135 (qX5_contractForms l (b := 1) (r := 168) hb1 ha hb rfl hn hd L) rfl rfl rfl (Nat.le_of_ble_eq_true rfl) ?_
  refine ru_go hV 1 [] rfl rfl trivial ?_
  refine ru_V hV [] sVX7_117 (qX7_requireFits l hn hd (by rw [ftO_g hn]; exact hf)) rfl rfl rfl rfl rfl (Nat.le_of_ble_eq_true rfl) ?_
  refine ru_go hV 3 [] rfl rfl trivial ?_
  refine ru_V hV [] sVX7_120 (qX7_storeG l (d := 3) hn ho hz ht (by decide) hd h1 h2 L) rfl rfl rfl rfl rfl (Nat.le_of_ble_eq_true rfl) ?_
  refine ru_fin hV 1 [] rfl rfl trivial ?_
  exact ⟨rfl, rfl, rfl⟩
theorem qX7_scale (l : Launch) {a t : Nat} {v : Int32} (ha : a < 8) (ht : t < 8) (hv : ¬ ouS v 1000) {n o z : Nat} (hn : n ≤ 5) (ho : o < 6) (hz : z ≤ 6) {I : IM} (hd : I 1 0 = nI n) (h1 : I 19 1 = nI o) (h2 : I 19 2 = nI z) (L : LM) (hf : ftO (fun k => (I (3 + a) k).toInt64 * v.toInt64) (2 ^ n) = none) : KX7_scale l [.ref 0, .int (nI a), .int v, .int (nI t)] I L (some (.int (nI (cnz (stI1 I (fun k => (I (3 + a) k).toInt64 * v.toInt64) o z (2 ^ n) t (3 + t)) 32)))) (stI I (fun k => (I (3 + a) k).toInt64 * v.toInt64) o z (2 ^ n) t 1) (lay L 168 32 (fun k => (I (3 + a) k).toInt64 * v.toInt64)) := by
  refine wX7_scale l rfl (hz0 (by decide)) (fun V hV => ?_)
  refine ru_go hV 1 [] rfl rfl trivial ?_
  refine ru_S hV [] sSX7_97 (qX7_requireSlot l ha I L) rfl rfl rfl (Nat.le_of_ble_eq_true rfl) ?_
  refine ru_go hV 1 [] rfl rfl trivial ?_
  refine ru_S hV [] sSX7_97 (qX7_requireSlot l ht I L) rfl rfl rfl (Nat.le_of_ble_eq_true rfl) ?_
  refine ru_go hV 2 [] rfl rfl trivial ?_
  refine ru_S hV [] sSX7_89 (qX7_requireSize l hv I L) rfl rfl rfl (Nat.le_of_ble_eq_true rfl) ?_
  refine ru_go hV 6 [(1, 0), (168, 0)] rfl rfl ⟨⟨trivial, (by first | exact rfl | assumption | exact ⟨rfl, rfl⟩ | exact ⟨rfl, rfl, by omega⟩ | exact ⟨by assumption, rfl, by omega⟩ | exact ⟨⟨_, rfl, rfl⟩, by decide, by decide, rfl, by omega⟩ | omega | decide)⟩, (by first | exact rfl | assumption | exact ⟨rfl, rfl⟩ | exact ⟨rfl, rfl, by omega⟩ | exact ⟨by assumption, rfl, by omega⟩ | exact ⟨⟨_, rfl, rfl⟩, by decide, by decide, rfl, by omega⟩ | omega | decide)⟩ ?_
  refine ru_S hV [] sSX7_124 (qX5_multiplyForm l (b := 1) (r := 168) (z := v) hb1 ha rfl I L) rfl rfl rfl (Nat.le_of_ble_eq_true rfl) ?_
  refine ru_go hV 1 [] rfl rfl trivial ?_
  refine ru_V hV [] sVX7_117 (qX7_requireFits l hn hd (by rw [ftO_g hn]; exact hf)) rfl rfl rfl rfl rfl (Nat.le_of_ble_eq_true rfl) ?_
  refine ru_go hV 3 [] rfl rfl trivial ?_
  refine ru_V hV [] sVX7_120 (qX7_storeG l (d := 1) hn ho hz ht (by decide) hd h1 h2 L) rfl rfl rfl rfl rfl (Nat.le_of_ble_eq_true rfl) ?_
  refine ru_fin hV 1 [] rfl rfl trivial ?_
  exact ⟨rfl, rfl, rfl⟩
theorem qX7_star (l : Launch) {a t : Nat} (ha : a < 8) (ht : t < 8) {n o z : Nat} (hn : n ≤ 5) (ho : o < 6) (hz : z ≤ 6) {I : IM} (hd : I 1 0 = nI n) (h1 : I 19 1 = nI o) (h2 : I 19 2 = nI z) (L : LM) : KX7_star l [.ref 0, .int (nI a), .int (nI t)] I L (some (.int (nI (cnz (stI1 I (stC (I 11) (I (3 + a)) (2 ^ n)) o z (2 ^ n) t (3 + t)) 32)))) (stI I (stC (I 11) (I (3 + a)) (2 ^ n)) o z (2 ^ n) t 4) (lay L 168 32 (stC (I 11) (I (3 + a)) (2 ^ n))) := by
  refine wX7_star l rfl (hz0 (by decide)) (fun V hV => ?_)
  refine ru_go hV 1 [] rfl rfl trivial ?_
  refine ru_S hV [] sSX7_97 (qX7_requireSlot l ha I L) rfl rfl rfl (Nat.le_of_ble_eq_true rfl) ?_
  refine ru_go hV 1 [] rfl rfl trivial ?_
  refine ru_S hV [] sSX7_97 (qX7_requireSlot l ht I L) rfl rfl rfl (Nat.le_of_ble_eq_true rfl) ?_
  refine ru_go hV 5 [(1, 0), (168, 0)] rfl rfl ⟨⟨trivial, (by first | exact rfl | assumption | exact ⟨rfl, rfl⟩ | exact ⟨rfl, rfl, by omega⟩ | exact ⟨by assumption, rfl, by omega⟩ | exact ⟨⟨_, rfl, rfl⟩, by decide, by decide, rfl, by omega⟩ | omega | decide)⟩, (by first | exact rfl | assumption | exact ⟨rfl, rfl⟩ | exact ⟨rfl, rfl, by omega⟩ | exact ⟨by assumption, rfl, by omega⟩ | exact ⟨⟨_, rfl, rfl⟩, by decide, by decide, rfl, by omega⟩ | omega | decide)⟩ ?_
  refine ru_S hV [] sSX7_138 (qX5_starForm l (b := 1) (r := 168) hb1 ha rfl hn hd L) rfl rfl rfl (Nat.le_of_ble_eq_true rfl) ?_
  refine ru_go hV 3 [] rfl rfl trivial ?_
  refine ru_V hV [] sVX7_120 (qX7_storeG l (d := 4) hn ho hz ht (by decide) hd h1 h2 L) rfl rfl rfl rfl rfl (Nat.le_of_ble_eq_true rfl) ?_
  refine ru_fin hV 1 [] rfl rfl trivial ?_
  exact ⟨rfl, rfl, rfl⟩
theorem qX7_reverse (l : Launch) {a t : Nat} (ha : a < 8) (ht : t < 8) {n o z : Nat} (hn : n ≤ 5) (ho : o < 6) (hz : z ≤ 6) {I : IM} (hd : I 1 0 = nI n) (h1 : I 19 1 = nI o) (h2 : I 19 2 = nI z) (L : LM) : KX7_reverse l [.ref 0, .int (nI a), .int (nI t)] I L (some (.int (nI (cnz (stI1 I (fun k => if 2 ≤ pc5 k % 4 then (-(I (3 + a) k)).toInt64 else (I (3 + a) k).toInt64) o z (2 ^ n) t (3 + t)) 32)))) (stI I (fun k => if 2 ≤ pc5 k % 4 then (-(I (3 + a) k)).toInt64 else (I (3 + a) k).toInt64) o z (2 ^ n) t 6) (lay L 168 32 (fun k => if 2 ≤ pc5 k % 4 then (-(I (3 + a) k)).toInt64 else (I (3 + a) k).toInt64)) := by
  refine wX7_reverse l rfl (hz0 (by decide)) (fun V hV => ?_)
  refine ru_go hV 1 [] rfl rfl trivial ?_
  refine ru_S hV [] sSX7_97 (qX7_requireSlot l ha I L) rfl rfl rfl (Nat.le_of_ble_eq_true rfl) ?_
  refine ru_go hV 1 [] rfl rfl trivial ?_
  refine ru_S hV [] sSX7_97 (qX7_requireSlot l ht I L) rfl rfl rfl (Nat.le_of_ble_eq_true rfl) ?_
  refine ru_go hV 5 [(1, 0), (168, 0)] rfl rfl ⟨⟨trivial, (by first | exact rfl | assumption | exact ⟨rfl, rfl⟩ | exact ⟨rfl, rfl, by omega⟩ | exact ⟨by assumption, rfl, by omega⟩ | exact ⟨⟨_, rfl, rfl⟩, by decide, by decide, rfl, by omega⟩ | omega | decide)⟩, (by first | exact rfl | assumption | exact ⟨rfl, rfl⟩ | exact ⟨rfl, rfl, by omega⟩ | exact ⟨by assumption, rfl, by omega⟩ | exact ⟨⟨_, rfl, rfl⟩, by decide, by decide, rfl, by omega⟩ | omega | decide)⟩ ?_
  refine ru_S hV [] sSX7_148 (qX5_reverseForm l (b := 1) (r := 168) hb1 ha rfl I L) rfl rfl rfl (Nat.le_of_ble_eq_true rfl) ?_
  refine ru_go hV 3 [] rfl rfl trivial ?_
  refine ru_V hV [] sVX7_120 (qX7_storeG l (d := 6) hn ho hz ht (by decide) hd h1 h2 L) rfl rfl rfl rfl rfl (Nat.le_of_ble_eq_true rfl) ?_
  refine ru_fin hV 1 [] rfl rfl trivial ?_
  exact ⟨rfl, rfl, rfl⟩
theorem qX7_part (l : Launch) {a t gr : Nat} (ha : a < 8) (ht : t < 8) {n o z : Nat} (hn : n ≤ 5) (ho : o < 6) (hz : z ≤ 6) {I : IM} (hd : I 1 0 = nI n) (h1 : I 19 1 = nI o) (h2 : I 19 2 = nI z) (L : LM) (hg : gr ≤ n) : KX7_part l [.ref 0, .int (nI a), .int (nI gr), .int (nI t)] I L (some (.int (nI (cnz (stI1 I (fun k => if nI (pc5 k) = nI gr then (I (3 + a) k).toInt64 else 0) o z (2 ^ n) t (3 + t)) 32)))) (stI I (fun k => if nI (pc5 k) = nI gr then (I (3 + a) k).toInt64 else 0) o z (2 ^ n) t 5) (lay L 168 32 (fun k => if nI (pc5 k) = nI gr then (I (3 + a) k).toInt64 else 0)) := by
  refine wX7_part l rfl (hz0 (by decide)) (fun V hV => ?_)
  refine ru_go hV 1 [] rfl rfl trivial ?_
  refine ru_S hV [] sSX7_97 (qX7_requireSlot l ha I L) rfl rfl rfl (Nat.le_of_ble_eq_true rfl) ?_
  refine ru_go hV 1 [] rfl rfl trivial ?_
  refine ru_S hV [] sSX7_97 (qX7_requireSlot l ht I L) rfl rfl rfl (Nat.le_of_ble_eq_true rfl) ?_
  refine ru_go hV 2 [] rfl rfl trivial ?_
  refine ru_V hV [] sVX7_142 (qX7_requireGrade l hg hn hd L) rfl rfl rfl rfl rfl (Nat.le_of_ble_eq_true rfl) ?_
  refine ru_go hV 6 [(1, 0), (168, 0)] rfl rfl ⟨⟨trivial, (by first | exact rfl | assumption | exact ⟨rfl, rfl⟩ | exact ⟨rfl, rfl, by omega⟩ | exact ⟨by assumption, rfl, by omega⟩ | exact ⟨⟨_, rfl, rfl⟩, by decide, by decide, rfl, by omega⟩ | omega | decide)⟩, (by first | exact rfl | assumption | exact ⟨rfl, rfl⟩ | exact ⟨rfl, rfl, by omega⟩ | exact ⟨by assumption, rfl, by omega⟩ | exact ⟨⟨_, rfl, rfl⟩, by decide, by decide, rfl, by omega⟩ | omega | decide)⟩ ?_
  refine ru_S hV [] sSX7_145 (qX5_partOfForm l (b := 1) (r := 168) (z := nI gr) hb1 ha rfl I L) rfl rfl rfl (Nat.le_of_ble_eq_true rfl) ?_
  refine ru_go hV 3 [] rfl rfl trivial ?_
  refine ru_V hV [] sVX7_120 (qX7_storeG l (d := 5) hn ho hz ht (by decide) hd h1 h2 L) rfl rfl rfl rfl rfl (Nat.le_of_ble_eq_true rfl) ?_
  refine ru_fin hV 1 [] rfl rfl trivial ?_
  exact ⟨rfl, rfl, rfl⟩
theorem qX7_push (l : Launch) {a t : Nat} (ha : a < 8) (ht : t < 8) {n o z : Nat} (hn : n ≤ 5) (ho : o < 6) (hz : z ≤ 6) {I : IM} (hd : I 1 0 = nI n) (h1 : I 19 1 = nI o) (h2 : I 19 2 = nI z) (L : LM) (hf : ftO (puC (fun q p => I (13 + q) p) n (I (3 + a))) (2 ^ n) = none) : ∃ L2, KX7_push l [.ref 0, .int (nI a), .int (nI t)] I L (some (.int (nI (cnz (stI1 I (puC (fun q p => I (13 + q) p) n (I (3 + a))) o z (2 ^ n) t (3 + t)) 32)))) (stI I (puC (fun q p => I (13 + q) p) n (I (3 + a))) o z (2 ^ n) t 7) L2 := by
  obtain ⟨f, hp⟩ := qX5_pushForm l (b := 1) (x := a) (im := 169) (r := 168) hb1 ha hn rfl rfl (by decide) hd L
  refine ⟨lay (lay L 169 32 f) 168 32 (puC (fun q p => I (13 + q) p) n (I (3 + a))), wX7_push l rfl (hz0 (by decide)) (fun V hV => ?_)⟩
  refine ru_go hV 1 [] rfl rfl trivial ?_
  refine ru_S hV [] sSX7_97 (qX7_requireSlot l ha I L) rfl rfl rfl (Nat.le_of_ble_eq_true rfl) ?_
  refine ru_go hV 1 [] rfl rfl trivial ?_
  refine ru_S hV [] sSX7_97 (qX7_requireSlot l ht I L) rfl rfl rfl (Nat.le_of_ble_eq_true rfl) ?_
  refine ru_go hV 7 [(1, 0), (169, 0), (168, 0)] rfl rfl ⟨⟨⟨trivial, (by first | exact rfl | assumption | exact ⟨rfl, rfl⟩ | exact ⟨rfl, rfl, by omega⟩ | exact ⟨by assumption, rfl, by omega⟩ | exact ⟨⟨_, rfl, rfl⟩, by decide, by decide, rfl, by omega⟩ | omega | decide)⟩, (by first | exact rfl | assumption | exact ⟨rfl, rfl⟩ | exact ⟨rfl, rfl, by omega⟩ | exact ⟨by assumption, rfl, by omega⟩ | exact ⟨⟨_, rfl, rfl⟩, by decide, by decide, rfl, by omega⟩ | omega | decide)⟩, (by first | exact rfl | assumption | exact ⟨rfl, rfl⟩ | exact ⟨rfl, rfl, by omega⟩ | exact ⟨by assumption, rfl, by omega⟩ | exact ⟨⟨_, rfl, rfl⟩, by decide, by decide, rfl, by omega⟩ | omega | decide)⟩ ?_
  refine ru_S hV [] sSX7_151 hp rfl rfl rfl (Nat.le_of_ble_eq_true rfl) ?_
  refine ru_go hV 1 [] rfl rfl trivial ?_
  refine ru_V hV [] sVX7_117 (qX7_requireFits l hn hd (by rw [ftO_g hn]; exact hf)) rfl rfl rfl rfl rfl (Nat.le_of_ble_eq_true rfl) ?_
  refine ru_go hV 3 [] rfl rfl trivial ?_
  refine ru_V hV [] sVX7_120 (qX7_storeG l (d := 7) hn ho hz ht (by decide) hd h1 h2 _) rfl rfl rfl rfl rfl (Nat.le_of_ble_eq_true rfl) ?_
  refine ru_fin hV 1 [] rfl rfl trivial ?_
  exact ⟨rfl, rfl, rfl⟩
