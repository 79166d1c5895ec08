/-! the reference: products of one form -/
theorem xX8_scale (l : Launch) {x y z : Int32} (h : ouR x 8 ∨ ouR z 8) (I : IM) (L : LM) : KX8_scale l [.ref 0, .int x, .int y, .int z] I L (some (.int 0)) (mu I 0 7 1) L := by
  refine wX8_scale l rfl (hz0 (by decide)) (fun V hV => ?_)
  have tail : V 21 [(0, .ref 0), (1, .int x), (2, .int y), (3, .int z)] [.int 1, .ref 0] (mu I 0 7 0) L := by
    refine ru_V hV [] sVX8_70 (qX8_fails l 1 _ L) rfl rfl rfl rfl rfl (Nat.le_of_ble_eq_true rfl) ?_
    rw [mu_mu]
    refine ru_fin hV 1 [] rfl rfl trivial ?_
    exact ⟨rfl, rfl, rfl⟩
  refine ru_go hV 4 [] rfl rfl ⟨trivial, (by first | exact rfl | assumption | exact ⟨rfl, rfl⟩ | exact ⟨rfl, rfl, by omega⟩ | exact ⟨by assumption, rfl, by omega⟩ | exact ⟨⟨_, rfl, rfl⟩, by decide, by decide, rfl, by omega⟩ | omega | decide)⟩ ?_
  rcases ouR_or x 8 (by omega) with ⟨k, hk, rfl⟩ | hx
  · have h := h.resolve_left (ouR_not hk (by decide))
    refine ru_S hV [] sSX8_80 (qX8_isSlot l hk _ L) rfl rfl rfl (Nat.le_of_ble_eq_true rfl) ?_
    refine ru_go hV 2 [(0, 0)] rfl rfl ⟨trivial, (by decide)⟩ ?_
    refine ru_S hV [] sSX8_80 (xX8_isSlot l h _ L) rfl rfl rfl (Nat.le_of_ble_eq_true rfl) ?_
    refine ru_go hV 3 [(0, 0)] rfl rfl ⟨trivial, (fun e => e rfl)⟩ ?_
    exact tail
  · refine ru_S hV [] sSX8_80 (xX8_isSlot l hx _ L) rfl rfl rfl (Nat.le_of_ble_eq_true rfl) ?_
    refine ru_go hV 3 [(1, 0)] rfl rfl ⟨trivial, (by first | exact rfl | assumption | exact ⟨rfl, rfl⟩ | exact ⟨rfl, rfl, by omega⟩ | exact ⟨by assumption, rfl, by omega⟩ | exact ⟨⟨_, rfl, rfl⟩, by decide, by decide, rfl, by omega⟩ | omega | decide)⟩ ?_
    exact tail
theorem sX8_scale (l : Launch) {a t n : Nat} {v : Int32} (ha : a < 8) (ht : t < 8) (hv : -1000 ≤ v ∧ v ≤ 1000) (hn : n ≤ 5) {I : IM} (hd : I 1 0 = nI n) (L : LM) : ∃ M : LM, (∀ k, k < 2 ^ n → M 8 k = (frR I a k).toInt64 * v.toInt64) ∧ ∀ (r : Option Value) (I2 : IM) (V : Nat → LV → List Value → IM → LM → Prop), Ru l kdR 12 RX8 cX8_scale rmX8_scale FX8 tX8_scale V (fun st J K => st = r.toList ∧ J = I2 ∧ K = M) → V 89 [(0, .ref 0), (1, .int (nI a)), (2, .int v), (3, .int (nI t))] [.int 3, .int (nI 1), .int (nI t), .ref 0] (mu I 0 7 0) M → V 0 [(0, .ref 0), (1, .int (nI a)), (2, .int v), (3, .int (nI t))] [] I L := by
  obtain ⟨hB, -⟩ := pow_le32 n hn
  have hd' : mu I 0 7 0 1 0 = nI n := by rw [t7n (by decide)]; exact hd
  have hls := qX8_laySlots l ha ha hn hd' L
  have m6 : ∀ k, k < 2 ^ n → lsL L (fL (frR (mu I 0 7 0) a) n) (fL (frR (mu I 0 7 0) a) n) 32 6 k = (frR I a k).toInt64 := fun k hk => by
    rw [ls_6 (by omega), fL, if_pos hk]
    unfold frR
    rw [t7n (by decide)]
  generalize lsL L (fL (frR (mu I 0 7 0) a) n) (fL (frR (mu I 0 7 0) a) n) 32 = M at hls m6
  have hbl : ∀ M : LM, KX8_blades l [.ref 0] (mu I 0 7 0) M (some (.int (nI (2 ^ n)))) (mu I 0 7 0) M := fun M => qX8_blades l hn hd' M
  refine ⟨lay M 8 (2 ^ n) (fun k => M 6 k * v.toInt64), fun k hk => by rw [lay_in hk, m6 k hk], fun r I2 V hV h => ?_⟩
  refine ru_go hV 4 [] rfl rfl ⟨trivial, (by first | exact rfl | assumption | exact ⟨rfl, rfl⟩ | exact ⟨rfl, rfl, by omega⟩ | exact ⟨by assumption, rfl, by omega⟩ | exact ⟨⟨_, rfl, rfl⟩, by decide, by decide, rfl, by omega⟩ | omega | decide)⟩ ?_
  refine ru_S hV [] sSX8_80 (qX8_isSlot l ha _ L) rfl rfl rfl (Nat.le_of_ble_eq_true rfl) ?_
  refine ru_go hV 2 [(0, 0)] rfl rfl ⟨trivial, (by decide)⟩ ?_
  refine ru_S hV [] sSX8_80 (qX8_isSlot l ht _ L) rfl rfl rfl (Nat.le_of_ble_eq_true rfl) ?_
  refine ru_go hV 4 [(1, 0)] rfl rfl ⟨trivial, (by decide)⟩ ?_
  refine ru_S hV [] sSX8_54 (qX8_in l v (-1000) 1000 _ L) rfl rfl rfl (Nat.le_of_ble_eq_true rfl) ?_
  rw [decide_eq_true hv]
  refine ru_go hV 4 [(1, 0)] rfl rfl ⟨trivial, (by decide)⟩ ?_
  refine ru_V hV [] sVX8_104 hls rfl rfl rfl rfl rfl (Nat.le_of_ble_eq_true rfl) ?_
  refine ru_go hV 2 [] rfl rfl trivial ?_
  refine loop0 (P := fun k => V 53 [(0, .ref 0), (1, .int (nI a)), (2, .int v), (3, .int (nI t)), (4, .int (nI k))] [] (mu I 0 7 0) (lay M 8 k (fun k => M 6 k * v.toInt64))) (2 ^ n) (fun h => by rw [lay_0] at h; exact h) (fun k hk ih => ?_) ?_
  · refine ru_go hV 2 [] rfl rfl trivial ?_
    refine ru_V hV [.int (nI k)] sVX8_58 (hbl _) rfl rfl rfl rfl rfl (Nat.le_of_ble_eq_true rfl) ?_
    refine ru_go hV 14 [(0, 0), (8, 0), (6, 0), (k, 32), (k, 32)] rfl rfl ⟨⟨⟨⟨⟨trivial, nI_nge hk (by omega)⟩, (by first | exact rfl | assumption | exact ⟨rfl, rfl⟩ | exact ⟨rfl, rfl, by omega⟩ | exact ⟨by assumption, rfl, by omega⟩ | exact ⟨⟨_, rfl, rfl⟩, by decide, by decide, rfl, by omega⟩ | omega | decide)⟩, (by first | exact rfl | assumption | exact ⟨rfl, rfl⟩ | exact ⟨rfl, rfl, by omega⟩ | exact ⟨by assumption, rfl, by omega⟩ | exact ⟨⟨_, rfl, rfl⟩, by decide, by decide, rfl, by omega⟩ | omega | decide)⟩, (by first | exact rfl | assumption | exact ⟨rfl, rfl⟩ | exact ⟨rfl, rfl, by omega⟩ | exact ⟨by assumption, rfl, by omega⟩ | exact ⟨⟨_, rfl, rfl⟩, by decide, by decide, rfl, by omega⟩ | omega | decide)⟩, (by first | exact rfl | assumption | exact ⟨rfl, rfl⟩ | exact ⟨rfl, rfl, by omega⟩ | exact ⟨by assumption, rfl, by omega⟩ | exact ⟨⟨_, rfl, rfl⟩, by decide, by decide, rfl, by omega⟩ | omega | decide)⟩ ?_
    rw [nI_1, lay_up (by rw [lay_ne (a := 6) (by decide)])]
    exact ih
  · refine ru_go hV 2 [] rfl rfl trivial ?_
    refine ru_V hV [.int (nI (2 ^ n))] sVX8_58 (hbl _) rfl rfl rfl rfl rfl (Nat.le_of_ble_eq_true rfl) ?_
    refine ru_go hV 5 [(1, 0)] rfl rfl ⟨trivial, nI_le (Nat.le_refl _) (by omega)⟩ ?_
    exact ru_sub hV [0, 1, 2, 3] rfl h
theorem qX8_scale (l : Launch) {a t n q : Nat} {v : Int32} (ha : a < 8) (ht : t < 8) (hv : -1000 ≤ v ∧ v ≤ 1000) (hn : n ≤ 5) (hq : q ≤ 6) {I : IM} (hd : I 1 0 = nI n) (h2 : I 0 2 = nI q) (L : LM) (hf : ftO (fun k => (frR I a k).toInt64 * v.toInt64) (2 ^ n) = none) : ∃ L2, KX8_scale l [.ref 0, .int (nI a), .int v, .int (nI t)] I L (some (.int (nI (cnz (fun k => ((frR I a k).toInt64 * v.toInt64).toInt32) (2 ^ n))))) (kpR (mu I 0 7 0) (fun k => (frR I a k).toInt64 * v.toInt64) q t 1 (2 ^ n)) L2 := by
  obtain ⟨M, hM, hK⟩ := sX8_scale l ha ht hv hn hd L
  refine ⟨M, wX8_scale l rfl (hz0 (by decide)) (fun V hV => hK _ _ V hV ?_)⟩
  have hd' : mu I 0 7 0 1 0 = nI n := by rw [t7n (by decide)]; exact hd
  refine ru_V hV [] sVX8_135 (qX8_keepOr l (d := 1) ht (by decide) hn hq hd' (by rw [t7 (by decide)]; exact h2) hM hf) rfl rfl rfl rfl rfl (Nat.le_of_ble_eq_true rfl) ?_
  refine ru_fin hV 1 [] rfl rfl trivial ?_
  exact ⟨rfl, rfl, rfl⟩
theorem vX8f_scale (l : Launch) {a t n : Nat} {v : Int32} (ha : a < 8) (ht : t < 8) (hv : -1000 ≤ v ∧ v ≤ 1000) (hn : n ≤ 5) {I : IM} (hd : I 1 0 = nI n) (L : LM) (hf : ftO (fun k => (frR I a k).toInt64 * v.toInt64) (2 ^ n) ≠ none) : ∃ L2, KX8_scale l [.ref 0, .int (nI a), .int v, .int (nI t)] I L (some (.int 0)) (mu I 0 7 3) L2 := by
  obtain ⟨M, hM, hK⟩ := sX8_scale l ha ht hv hn hd L
  refine ⟨M, wX8_scale l rfl (hz0 (by decide)) (fun V hV => hK _ _ V hV ?_)⟩
  have hd' : mu I 0 7 0 1 0 = nI n := by rw [t7n (by decide)]; exact hd
  refine ru_V hV [] sVX8_135 (xX8_keepOr l hn hd' hM hf) rfl rfl rfl rfl rfl (Nat.le_of_ble_eq_true rfl) ?_
  rw [mu_mu]
  refine ru_fin hV 1 [] rfl rfl trivial ?_
  exact ⟨rfl, rfl, rfl⟩
theorem zX8_scale (l : Launch) {a t : Nat} {v : Int32} (ha : a < 8) (ht : t < 8) (hv : ¬ (-1000 ≤ v ∧ v ≤ 1000)) (I : IM) (L : LM) : KX8_scale l [.ref 0, .int (nI a), .int v, .int (nI t)] I L (some (.int 0)) (mu I 0 7 2) L := by
  refine wX8_scale l rfl (hz0 (by decide)) (fun V hV => ?_)
  refine ru_go hV 4 [] rfl rfl ⟨trivial, (by first | exact rfl | assumption | exact ⟨rfl, rfl⟩ | exact ⟨rfl, rfl, by omega⟩ | exact ⟨by assumption, rfl, by omega⟩ | exact ⟨⟨_, rfl, rfl⟩, by decide, by decide, rfl, by omega⟩ | omega | decide)⟩ ?_
  refine ru_S hV [] sSX8_80 (qX8_isSlot l ha _ L) rfl rfl rfl (Nat.le_of_ble_eq_true rfl) ?_
  refine ru_go hV 2 [(0, 0)] rfl rfl ⟨trivial, (by decide)⟩ ?_
  refine ru_S hV [] sSX8_80 (qX8_isSlot l ht _ L) rfl rfl rfl (Nat.le_of_ble_eq_true rfl) ?_
  refine ru_go hV 4 [(1, 0)] rfl rfl ⟨trivial, (by decide)⟩ ?_
  refine ru_S hV [] sSX8_54 (qX8_in l v (-1000) 1000 _ L) rfl rfl rfl (Nat.le_of_ble_eq_true rfl) ?_
  rw [decide_eq_false hv]
  refine ru_go hV 3 [(0, 0)] rfl rfl ⟨trivial, (fun e => e rfl)⟩ ?_
  refine ru_V hV [] sVX8_70 (qX8_fails l 2 _ L) rfl rfl rfl rfl rfl (Nat.le_of_ble_eq_true rfl) ?_
  rw [mu_mu]
  refine ru_fin hV 1 [] rfl rfl trivial ?_
  exact ⟨rfl, rfl, rfl⟩
theorem xX8_star (l : Launch) {x y : Int32} (h : ouR x 8 ∨ ouR y 8) (I : IM) (L : LM) : KX8_star l [.ref 0, .int x, .int y] I L (some (.int 0)) (mu I 0 7 1) L := by
  refine wX8_star l rfl (hz0 (by decide)) (fun V hV => ?_)
  have tail : V 21 [(0, .ref 0), (1, .int x), (2, .int y)] [.int 1, .ref 0] (mu I 0 7 0) L := by
    refine ru_V hV [] sVX8_70 (qX8_fails l 1 _ L) rfl rfl rfl rfl rfl (Nat.le_of_ble_eq_true rfl) ?_
    rw [mu_mu]
    refine ru_fin hV 1 [] rfl rfl trivial ?_
    exact ⟨rfl, rfl, rfl⟩
  refine ru_go hV 4 [] rfl rfl ⟨trivial, (by first | exact rfl | assumption | exact ⟨rfl, rfl⟩ | exact ⟨rfl, rfl, by omega⟩ | exact ⟨by assumption, rfl, by omega⟩ | exact ⟨⟨_, rfl, rfl⟩, by decide, by decide, rfl, by omega⟩ | omega | decide)⟩ ?_
  rcases ouR_or x 8 (by omega) with ⟨k, hk, rfl⟩ | hx
  · have h := h.resolve_left (ouR_not hk (by decide))
    refine ru_S hV [] sSX8_80 (qX8_isSlot l hk _ L) rfl rfl rfl (Nat.le_of_ble_eq_true rfl) ?_
    refine ru_go hV 2 [(0, 0)] rfl rfl ⟨trivial, (by decide)⟩ ?_
    refine ru_S hV [] sSX8_80 (xX8_isSlot l h _ L) rfl rfl rfl (Nat.le_of_ble_eq_true rfl) ?_
    refine ru_go hV 3 [(0, 0)] rfl rfl ⟨trivial, (fun e => e rfl)⟩ ?_
    exact tail
  · refine ru_S hV [] sSX8_80 (xX8_isSlot l hx _ L) rfl rfl rfl (Nat.le_of_ble_eq_true rfl) ?_
    refine ru_go hV 3 [(1, 0)] rfl rfl ⟨trivial, (by first | exact rfl | assumption | exact ⟨rfl, rfl⟩ | exact ⟨rfl, rfl, by omega⟩ | exact ⟨by assumption, rfl, by omega⟩ | exact ⟨⟨_, rfl, rfl⟩, by decide, by decide, rfl, by omega⟩ | omega | decide)⟩ ?_
    exact tail
theorem all_x : ∀ n, n ≤ 5 → ∀ j, j < 2 ^ n → 2 ^ n - 1 - j = (2 ^ n - 1) ^^^ j := by decide +kernel
theorem qX8_star (l : Launch) {a t n q : Nat} (ha : a < 8) (ht : t < 8) (hn : n ≤ 5) (hq : q ≤ 6) {I : IM} (hd : I 1 0 = nI n) (h2 : I 0 2 = nI q) (L : LM) : ∃ L2, KX8_star l [.ref 0, .int (nI a), .int (nI t)] I L (some (.int (nI (cnz (fun k => (stC (sgR I) (frR I a) (2 ^ n) k).toInt32) (2 ^ n))))) (kpR (mu I 0 7 0) (stC (sgR I) (frR I a) (2 ^ n)) q t 4 (2 ^ n)) L2 := by
  obtain ⟨hB, -⟩ := pow_le32 n hn
  have hd' : mu I 0 7 0 1 0 = nI n := by rw [t7n (by decide)]; exact hd
  have hls := qX8_laySlots l ha ha hn hd' L
  have m6 : ∀ k, k < 2 ^ n → lsL L (fL (frR (mu I 0 7 0) a) n) (fL (frR (mu I 0 7 0) a) n) 32 6 k = (frR I a k).toInt64 := fun k hk => by
    rw [ls_6 (by omega), fL, if_pos hk]
    unfold frR
    rw [t7n (by decide)]
  generalize lsL L (fL (frR (mu I 0 7 0) a) n) (fL (frR (mu I 0 7 0) a) n) 32 = M at hls m6
  have hbl : ∀ M : LM, KX8_blades l [.ref 0] (mu I 0 7 0) M (some (.int (nI (2 ^ n)))) (mu I 0 7 0) M := fun M => qX8_blades l hn hd' M
  have hsg : sgR (mu I 0 7 0) = sgR I := by
    unfold sgR
    rw [t7n (by decide)]
  have hsi : ∀ M : LM, ∀ i, i < 2 ^ n → KX8_signOf l [.ref 0, .int (nI i)] (mu I 0 7 0) M (some (.int (sgn (sgR I) i))) (mu I 0 7 0) M := fun M i hi => by
    have := qX8_signOf l (b := i) (by omega) hn hd' M
    rw [sgB_up hn hi, hsg] at this
    exact this
  have hx : ∀ j, j < 2 ^ n → nI (2 ^ n) - 1 - nI j = nI ((2 ^ n - 1) ^^^ j) ∧ (2 ^ n - 1) ^^^ j < 2 ^ n := fun j hj => by
    rw [← all_x n hn j hj]
    exact ⟨by rw [show (1 : Int32) = nI 1 from rfl, nI_sub (by omega), nI_sub (by omega)], by omega⟩
  have hst : ∀ k, k < 2 ^ n → stC (sgR I) (frR I a) (2 ^ n) k = sg (odT ((2 ^ n - 1) ^^^ k) k) (M 6 ((2 ^ n - 1) ^^^ k) * (sgn (sgR I) ((2 ^ n - 1) ^^^ k)).toInt64) := fun k hk => by
    rw [stC, if_pos hk, m6 _ (hx k hk).2]
  generalize stC (sgR I) (frR I a) (2 ^ n) = g at hst ⊢
  refine ⟨lay M 8 (2 ^ n) g, wX8_star l rfl (hz0 (by decide)) (fun V hV => ?_)⟩
  refine ru_go hV 4 [] rfl rfl ⟨trivial, (by first | exact rfl | assumption | exact ⟨rfl, rfl⟩ | exact ⟨rfl, rfl, by omega⟩ | exact ⟨by assumption, rfl, by omega⟩ | exact ⟨⟨_, rfl, rfl⟩, by decide, by decide, rfl, by omega⟩ | omega | decide)⟩ ?_
  refine ru_S hV [] sSX8_80 (qX8_isSlot l ha _ L) rfl rfl rfl (Nat.le_of_ble_eq_true rfl) ?_
  refine ru_go hV 2 [(0, 0)] rfl rfl ⟨trivial, (by decide)⟩ ?_
  refine ru_S hV [] sSX8_80 (qX8_isSlot l ht _ L) rfl rfl rfl (Nat.le_of_ble_eq_true rfl) ?_
  refine ru_go hV 4 [(1, 0)] rfl rfl ⟨trivial, (by decide)⟩ ?_
  refine ru_V hV [] sVX8_104 hls rfl rfl rfl rfl rfl (Nat.le_of_ble_eq_true rfl) ?_
  refine ru_go hV 2 [] rfl rfl trivial ?_
  refine loop0 (P := fun k => V 33 [(0, .ref 0), (1, .int (nI a)), (2, .int (nI t)), (3, .int (nI k))] [] (mu I 0 7 0) (lay M 8 k g)) (2 ^ n) (fun h => by rw [lay_0] at h; exact h) (fun k hk ih => ?_) ?_
  · obtain ⟨hx1, hx2⟩ := hx k hk
    refine ru_go hV 2 [] rfl rfl trivial ?_
    refine ru_V hV [.int (nI k)] sVX8_58 (hbl _) rfl rfl rfl rfl rfl (Nat.le_of_ble_eq_true rfl) ?_
    refine ru_go hV 2 [(0, 0)] rfl rfl ⟨trivial, nI_nge hk (by omega)⟩ ?_
    refine ru_V hV [] sVX8_58 (hbl _) rfl rfl rfl rfl rfl (Nat.le_of_ble_eq_true rfl) ?_
    refine ru_go hV 5 [] rfl rfl trivial ?_
    rw [hx1]
    refine ru_go hV 9 [(8, 0), (6, 0), (((2^n-1)^^^k), 32)] rfl rfl ⟨⟨⟨trivial, (by first | exact rfl | assumption | exact ⟨rfl, rfl⟩ | exact ⟨rfl, rfl, by omega⟩ | exact ⟨by assumption, rfl, by omega⟩ | exact ⟨⟨_, rfl, rfl⟩, by decide, by decide, rfl, by omega⟩ | omega | decide)⟩, (by first | exact rfl | assumption | exact ⟨rfl, rfl⟩ | exact ⟨rfl, rfl, by omega⟩ | exact ⟨by assumption, rfl, by omega⟩ | exact ⟨⟨_, rfl, rfl⟩, by decide, by decide, rfl, by omega⟩ | omega | decide)⟩, (by first | exact rfl | assumption | exact ⟨rfl, rfl⟩ | exact ⟨rfl, rfl, by omega⟩ | exact ⟨by assumption, rfl, by omega⟩ | exact ⟨⟨_, rfl, rfl⟩, by decide, by decide, rfl, by omega⟩ | omega | decide)⟩ ?_
    refine ru_V hV [.long _, .int (nI k), .ref 8] sVX8_94 (hsi _ _ hx2) rfl rfl rfl rfl rfl (Nat.le_of_ble_eq_true rfl) ?_
    refine ru_go hV 4 [] rfl rfl trivial ?_
    refine ru_S hV [.long _, .int (nI k), .ref 8] sSX8_91 (qX8_way l (by omega) (by omega) _ _) rfl rfl rfl (Nat.le_of_ble_eq_true rfl) ?_
    refine ru_go hV 5 [(k, 32)] rfl rfl ⟨trivial, (by first | exact rfl | assumption | exact ⟨rfl, rfl⟩ | exact ⟨rfl, rfl, by omega⟩ | exact ⟨by assumption, rfl, by omega⟩ | exact ⟨⟨_, rfl, rfl⟩, by decide, by decide, rfl, by omega⟩ | omega | decide)⟩ ?_
    rw [nI_1, wy_sg, lay_ne (a := 6) (by decide), ← hst k hk, lay_up rfl]
    exact ru_sub hV [0, 1, 2, 3] rfl ih
  · refine ru_go hV 2 [] rfl rfl trivial ?_
    refine ru_V hV [.int (nI (2 ^ n))] sVX8_58 (hbl _) rfl rfl rfl rfl rfl (Nat.le_of_ble_eq_true rfl) ?_
    refine ru_go hV 4 [(1, 0)] rfl rfl ⟨trivial, nI_le (Nat.le_refl _) (by omega)⟩ ?_
    refine ru_V hV [] sVX8_128 (qX8_keep l (d := 4) ht (by decide) hn hq hd' (by rw [t7 (by decide)]; exact h2) (fun k hk => lay_in hk)) rfl rfl rfl rfl rfl (Nat.le_of_ble_eq_true rfl) ?_
    refine ru_fin hV 1 [] rfl rfl trivial ?_
    exact ⟨rfl, rfl, rfl⟩
theorem xX8_reverse (l : Launch) {x y : Int32} (h : ouR x 8 ∨ ouR y 8) (I : IM) (L : LM) : KX8_reverse l [.ref 0, .int x, .int y] I L (some (.int 0)) (mu I 0 7 1) L := by
  refine wX8_reverse l rfl (hz0 (by decide)) (fun V hV => ?_)
  have tail : V 21 [(0, .ref 0), (1, .int x), (2, .int y)] [.int 1, .ref 0] (mu I 0 7 0) L := by
    refine ru_V hV [] sVX8_70 (qX8_fails l 1 _ L) rfl rfl rfl rfl rfl (Nat.le_of_ble_eq_true rfl) ?_
    rw [mu_mu]
    refine ru_fin hV 1 [] rfl rfl trivial ?_
    exact ⟨rfl, rfl, rfl⟩
  refine ru_go hV 4 [] rfl rfl ⟨trivial, (by first | exact rfl | assumption | exact ⟨rfl, rfl⟩ | exact ⟨rfl, rfl, by omega⟩ | exact ⟨by assumption, rfl, by omega⟩ | exact ⟨⟨_, rfl, rfl⟩, by decide, by decide, rfl, by omega⟩ | omega | decide)⟩ ?_
  rcases ouR_or x 8 (by omega) with ⟨k, hk, rfl⟩ | hx
  · have h := h.resolve_left (ouR_not hk (by decide))
    refine ru_S hV [] sSX8_80 (qX8_isSlot l hk _ L) rfl rfl rfl (Nat.le_of_ble_eq_true rfl) ?_
    refine ru_go hV 2 [(0, 0)] rfl rfl ⟨trivial, (by decide)⟩ ?_
    refine ru_S hV [] sSX8_80 (xX8_isSlot l h _ L) rfl rfl rfl (Nat.le_of_ble_eq_true rfl) ?_
    refine ru_go hV 3 [(0, 0)] rfl rfl ⟨trivial, (fun e => e rfl)⟩ ?_
    exact tail
  · refine ru_S hV [] sSX8_80 (xX8_isSlot l hx _ L) rfl rfl rfl (Nat.le_of_ble_eq_true rfl) ?_
    refine ru_go hV 3 [(1, 0)] rfl rfl ⟨trivial, (by first | exact rfl | assumption | exact ⟨rfl, rfl⟩ | exact ⟨rfl, rfl, by omega⟩ | exact ⟨by assumption, rfl, by omega⟩ | exact ⟨⟨_, rfl, rfl⟩, by decide, by decide, rfl, by omega⟩ | omega | decide)⟩ ?_
    exact tail
theorem rem4 : ∀ a, a < 6 → nI a - nI a / 4 * 4 = nI (a % 4) := by decide +kernel
theorem qX8_reverse (l : Launch) {a t n q : Nat} (ha : a < 8) (ht : t < 8) (hn : n ≤ 5) (hq : q ≤ 6) {I : IM} (hd : I 1 0 = nI n) (h2 : I 0 2 = nI q) (L : LM) {g : Nat → Int64} (hg : ∀ k, k < 2 ^ n → g k = if 2 ≤ pc5 k % 4 then -(frR I a k).toInt64 else (frR I a k).toInt64) : ∃ L2, KX8_reverse l [.ref 0, .int (nI a), .int (nI t)] I L (some (.int (nI (cnz (fun k => (g k).toInt32) (2 ^ n))))) (kpR (mu I 0 7 0) g q t 6 (2 ^ n)) L2 := by
  obtain ⟨hB, -⟩ := pow_le32 n hn
  have hd' : mu I 0 7 0 1 0 = nI n := by rw [t7n (by decide)]; exact hd
  have hls := qX8_laySlots l ha ha hn hd' L
  have m6 : ∀ k, k < 2 ^ n → lsL L (fL (frR (mu I 0 7 0) a) n) (fL (frR (mu I 0 7 0) a) n) 32 6 k = (frR I a k).toInt64 := fun k hk => by
    rw [ls_6 (by omega), fL, if_pos hk]
    unfold frR
    rw [t7n (by decide)]
  generalize lsL L (fL (frR (mu I 0 7 0) a) n) (fL (frR (mu I 0 7 0) a) n) 32 = M at hls m6
  have hbl : ∀ M : LM, KX8_blades l [.ref 0] (mu I 0 7 0) M (some (.int (nI (2 ^ n)))) (mu I 0 7 0) M := fun M => qX8_blades l hn hd' M
  refine ⟨lay M 8 (2 ^ n) g, wX8_reverse l rfl (hz0 (by decide)) (fun V hV => ?_)⟩
  refine ru_go hV 4 [] rfl rfl ⟨trivial, (by first | exact rfl | assumption | exact ⟨rfl, rfl⟩ | exact ⟨rfl, rfl, by omega⟩ | exact ⟨by assumption, rfl, by omega⟩ | exact ⟨⟨_, rfl, rfl⟩, by decide, by decide, rfl, by omega⟩ | omega | decide)⟩ ?_
  refine ru_S hV [] sSX8_80 (qX8_isSlot l ha _ L) rfl rfl rfl (Nat.le_of_ble_eq_true rfl) ?_
  refine ru_go hV 2 [(0, 0)] rfl rfl ⟨trivial, (by decide)⟩ ?_
  refine ru_S hV [] sSX8_80 (qX8_isSlot l ht _ L) rfl rfl rfl (Nat.le_of_ble_eq_true rfl) ?_
  refine ru_go hV 4 [(1, 0)] rfl rfl ⟨trivial, (by decide)⟩ ?_
  refine ru_V hV [] sVX8_104 hls rfl rfl rfl rfl rfl (Nat.le_of_ble_eq_true rfl) ?_
  refine ru_go hV 2 [] rfl rfl trivial ?_
  refine loop0 (P := fun k => V 33 [(0, .ref 0), (1, .int (nI a)), (2, .int (nI t)), (3, .int (nI k))] [] (mu I 0 7 0) (lay M 8 k g)) (2 ^ n) (fun h => by rw [lay_0] at h; exact h) (fun k hk ih => ?_) ?_
  · have hg1 := hg k hk
    have hp := pc5_le k
    have hr := rem4 (pc5 k) (by omega)
    refine ru_go hV 2 [] rfl rfl trivial ?_
    refine ru_V hV [.int (nI k)] sVX8_58 (hbl _) rfl rfl rfl rfl rfl (Nat.le_of_ble_eq_true rfl) ?_
    refine ru_go hV 5 [(0, 0), (8, 0)] rfl rfl ⟨⟨trivial, nI_nge hk (by omega)⟩, (by first | exact rfl | assumption | exact ⟨rfl, rfl⟩ | exact ⟨rfl, rfl, by omega⟩ | exact ⟨by assumption, rfl, by omega⟩ | exact ⟨⟨_, rfl, rfl⟩, by decide, by decide, rfl, by omega⟩ | omega | decide)⟩ ?_
    refine ru_S hV [.int (nI k), .ref 8] sSX8_62 (qX8_grade l (by omega) _ _) rfl rfl rfl (Nat.le_of_ble_eq_true rfl) ?_
    by_cases h : 2 ≤ pc5 k % 4
    · rw [if_pos h] at hg1
      refine ru_go hV 13 [(0, 0), (6, 0), (k, 32), (k, 32)] rfl rfl ⟨⟨⟨⟨⟨trivial, (by decide)⟩, (by rw [hr]; exact nI_ge (a := 1) (b := pc5 k % 4) (by omega) (by omega))⟩, (by first | exact rfl | assumption | exact ⟨rfl, rfl⟩ | exact ⟨rfl, rfl, by omega⟩ | exact ⟨by assumption, rfl, by omega⟩ | exact ⟨⟨_, rfl, rfl⟩, by decide, by decide, rfl, by omega⟩ | omega | decide)⟩, (by first | exact rfl | assumption | exact ⟨rfl, rfl⟩ | exact ⟨rfl, rfl, by omega⟩ | exact ⟨by assumption, rfl, by omega⟩ | exact ⟨⟨_, rfl, rfl⟩, by decide, by decide, rfl, by omega⟩ | omega | decide)⟩, (by first | exact rfl | assumption | exact ⟨rfl, rfl⟩ | exact ⟨rfl, rfl, by omega⟩ | exact ⟨by assumption, rfl, by omega⟩ | exact ⟨⟨_, rfl, rfl⟩, by decide, by decide, rfl, by omega⟩ | omega | decide)⟩ ?_
      rw [nI_1, lay_ne (a := 6) (by decide), m6 k hk, ← hg1, lay_up rfl]
      exact ih
    · rw [if_neg h] at hg1
      refine ru_go hV 11 [(1, 0), (6, 0), (k, 32), (k, 32)] rfl rfl ⟨⟨⟨⟨⟨trivial, (by decide)⟩, (by rw [hr]; exact nI_le (b := 1) (by omega) (by decide))⟩, (by first | exact rfl | assumption | exact ⟨rfl, rfl⟩ | exact ⟨rfl, rfl, by omega⟩ | exact ⟨by assumption, rfl, by omega⟩ | exact ⟨⟨_, rfl, rfl⟩, by decide, by decide, rfl, by omega⟩ | omega | decide)⟩, (by first | exact rfl | assumption | exact ⟨rfl, rfl⟩ | exact ⟨rfl, rfl, by omega⟩ | exact ⟨by assumption, rfl, by omega⟩ | exact ⟨⟨_, rfl, rfl⟩, by decide, by decide, rfl, by omega⟩ | omega | decide)⟩, (by first | exact rfl | assumption | exact ⟨rfl, rfl⟩ | exact ⟨rfl, rfl, by omega⟩ | exact ⟨by assumption, rfl, by omega⟩ | exact ⟨⟨_, rfl, rfl⟩, by decide, by decide, rfl, by omega⟩ | omega | decide)⟩ ?_
      rw [nI_1, lay_ne (a := 6) (by decide), m6 k hk, ← hg1, lay_up rfl]
      exact ih
  · refine ru_go hV 2 [] rfl rfl trivial ?_
    refine ru_V hV [.int (nI (2 ^ n))] sVX8_58 (hbl _) rfl rfl rfl rfl rfl (Nat.le_of_ble_eq_true rfl) ?_
    refine ru_go hV 4 [(1, 0)] rfl rfl ⟨trivial, nI_le (Nat.le_refl _) (by omega)⟩ ?_
    refine ru_V hV [] sVX8_128 (qX8_keep l (d := 6) ht (by decide) hn hq hd' (by rw [t7 (by decide)]; exact h2) (fun k hk => lay_in hk)) rfl rfl rfl rfl rfl (Nat.le_of_ble_eq_true rfl) ?_
    refine ru_fin hV 1 [] rfl rfl trivial ?_
    exact ⟨rfl, rfl, rfl⟩
theorem xX8_part (l : Launch) {x y z : Int32} (h : ouR x 8 ∨ ouR z 8) (I : IM) (L : LM) : KX8_part l [.ref 0, .int x, .int y, .int z] I L (some (.int 0)) (mu I 0 7 1) L := by
  refine wX8_part l rfl (hz0 (by decide)) (fun V hV => ?_)
  have tail : V 21 [(0, .ref 0), (1, .int x), (2, .int y), (3, .int z)] [.int 1, .ref 0] (mu I 0 7 0) L := by
    refine ru_V hV [] sVX8_70 (qX8_fails l 1 _ L) rfl rfl rfl rfl rfl (Nat.le_of_ble_eq_true rfl) ?_
    rw [mu_mu]
    refine ru_fin hV 1 [] rfl rfl trivial ?_
    exact ⟨rfl, rfl, rfl⟩
  refine ru_go hV 4 [] rfl rfl ⟨trivial, (by first | exact rfl | assumption | exact ⟨rfl, rfl⟩ | exact ⟨rfl, rfl, by omega⟩ | exact ⟨by assumption, rfl, by omega⟩ | exact ⟨⟨_, rfl, rfl⟩, by decide, by decide, rfl, by omega⟩ | omega | decide)⟩ ?_
  rcases ouR_or x 8 (by omega) with ⟨k, hk, rfl⟩ | hx
  · have h := h.resolve_left (ouR_not hk (by decide))
    refine ru_S hV [] sSX8_80 (qX8_isSlot l hk _ L) rfl rfl rfl (Nat.le_of_ble_eq_true rfl) ?_
    refine ru_go hV 2 [(0, 0)] rfl rfl ⟨trivial, (by decide)⟩ ?_
    refine ru_S hV [] sSX8_80 (xX8_isSlot l h _ L) rfl rfl rfl (Nat.le_of_ble_eq_true rfl) ?_
    refine ru_go hV 3 [(0, 0)] rfl rfl ⟨trivial, (fun e => e rfl)⟩ ?_
    exact tail
  · refine ru_S hV [] sSX8_80 (xX8_isSlot l hx _ L) rfl rfl rfl (Nat.le_of_ble_eq_true rfl) ?_
    refine ru_go hV 3 [(1, 0)] rfl rfl ⟨trivial, (by first | exact rfl | assumption | exact ⟨rfl, rfl⟩ | exact ⟨rfl, rfl, by omega⟩ | exact ⟨by assumption, rfl, by omega⟩ | exact ⟨⟨_, rfl, rfl⟩, by decide, by decide, rfl, by omega⟩ | omega | decide)⟩ ?_
    exact tail
theorem zX8_part (l : Launch) {a t n : Nat} {y : Int32} (ha : a < 8) (ht : t < 8) (hn : n ≤ 5) (hy : ouR y (n + 1)) {I : IM} (hd : I 1 0 = nI n) (L : LM) : KX8_part l [.ref 0, .int (nI a), .int y, .int (nI t)] I L (some (.int 0)) (mu I 0 7 2) L := by
  refine wX8_part l rfl (hz0 (by decide)) (fun V hV => ?_)
  have hd' : mu I 0 7 0 1 0 = nI n := by rw [t7n (by decide)]; exact hd
  refine ru_go hV 4 [] rfl rfl ⟨trivial, (by first | exact rfl | assumption | exact ⟨rfl, rfl⟩ | exact ⟨rfl, rfl, by omega⟩ | exact ⟨by assumption, rfl, by omega⟩ | exact ⟨⟨_, rfl, rfl⟩, by decide, by decide, rfl, by omega⟩ | omega | decide)⟩ ?_
  refine ru_S hV [] sSX8_80 (qX8_isSlot l ha _ L) rfl rfl rfl (Nat.le_of_ble_eq_true rfl) ?_
  refine ru_go hV 2 [(0, 0)] rfl rfl ⟨trivial, (by decide)⟩ ?_
  refine ru_S hV [] sSX8_80 (qX8_isSlot l ht _ L) rfl rfl rfl (Nat.le_of_ble_eq_true rfl) ?_
  refine ru_go hV 7 [(1, 0), (1, 0), (0, 296)] rfl rfl ⟨⟨⟨trivial, (by decide)⟩, (by first | exact rfl | assumption | exact ⟨rfl, rfl⟩ | exact ⟨rfl, rfl, by omega⟩ | exact ⟨by assumption, rfl, by omega⟩ | exact ⟨⟨_, rfl, rfl⟩, by decide, by decide, rfl, by omega⟩ | omega | decide)⟩, (by first | exact rfl | assumption | exact ⟨rfl, rfl⟩ | exact ⟨rfl, rfl, by omega⟩ | exact ⟨by assumption, rfl, by omega⟩ | exact ⟨⟨_, rfl, rfl⟩, by decide, by decide, rfl, by omega⟩ | omega | decide)⟩ ?_
  rw [hd']
  refine ru_S hV [] sSX8_54 (qX8_in l y 0 (nI n) _ L) rfl rfl rfl (Nat.le_of_ble_eq_true rfl) ?_
  rw [show b2i (decide ((0 : Int32) ≤ y ∧ y ≤ nI n)) = 0 from in_f (m := n + 1) hy (by omega) (by omega)]
  refine ru_go hV 3 [(0, 0)] rfl rfl ⟨trivial, (fun e => e rfl)⟩ ?_
  refine ru_V hV [] sVX8_70 (qX8_fails l 2 _ L) rfl rfl rfl rfl rfl (Nat.le_of_ble_eq_true rfl) ?_
  rw [mu_mu]
  refine ru_fin hV 1 [] rfl rfl trivial ?_
  exact ⟨rfl, rfl, rfl⟩
theorem qX8_part (l : Launch) {a t n q gr : Nat} (ha : a < 8) (ht : t < 8) (hn : n ≤ 5) (hgr : gr ≤ n) (hq : q ≤ 6) {I : IM} (hd : I 1 0 = nI n) (h2 : I 0 2 = nI q) (L : LM) {g : Nat → Int64} (hg : ∀ k, k < 2 ^ n → g k = if nI (pc5 k) = nI gr then (frR I a k).toInt64 else 0) : ∃ L2, KX8_part l [.ref 0, .int (nI a), .int (nI gr), .int (nI t)] I L (some (.int (nI (cnz (fun k => (g k).toInt32) (2 ^ n))))) (kpR (mu I 0 7 0) g q t 5 (2 ^ n)) L2 := by
  obtain ⟨hB, -⟩ := pow_le32 n hn
  have hd' : mu I 0 7 0 1 0 = nI n := by rw [t7n (by decide)]; exact hd
  have hls := qX8_laySlots l ha ha hn hd' L
  have m6 : ∀ k, k < 2 ^ n → lsL L (fL (frR (mu I 0 7 0) a) n) (fL (frR (mu I 0 7 0) a) n) 32 6 k = (frR I a k).toInt64 := fun k hk => by
    rw [ls_6 (by omega), fL, if_pos hk]
    unfold frR
    rw [t7n (by decide)]
  generalize lsL L (fL (frR (mu I 0 7 0) a) n) (fL (frR (mu I 0 7 0) a) n) 32 = M at hls m6
  have hbl : ∀ M : LM, KX8_blades l [.ref 0] (mu I 0 7 0) M (some (.int (nI (2 ^ n)))) (mu I 0 7 0) M := fun M => qX8_blades l hn hd' M
  refine ⟨lay M 8 (2 ^ n) g, wX8_part l rfl (hz0 (by decide)) (fun V hV => ?_)⟩
  refine ru_go hV 4 [] rfl rfl ⟨trivial, (by first | exact rfl | assumption | exact ⟨rfl, rfl⟩ | exact ⟨rfl, rfl, by omega⟩ | exact ⟨by assumption, rfl, by omega⟩ | exact ⟨⟨_, rfl, rfl⟩, by decide, by decide, rfl, by omega⟩ | omega | decide)⟩ ?_
  refine ru_S hV [] sSX8_80 (qX8_isSlot l ha _ L) rfl rfl rfl (Nat.le_of_ble_eq_true rfl) ?_
  refine ru_go hV 2 [(0, 0)] rfl rfl ⟨trivial, (by decide)⟩ ?_
  refine ru_S hV [] sSX8_80 (qX8_isSlot l ht _ L) rfl rfl rfl (Nat.le_of_ble_eq_true rfl) ?_
  refine ru_go hV 7 [(1, 0), (1, 0), (0, 296)] rfl rfl ⟨⟨⟨trivial, (by decide)⟩, (by first | exact rfl | assumption | exact ⟨rfl, rfl⟩ | exact ⟨rfl, rfl, by omega⟩ | exact ⟨by assumption, rfl, by omega⟩ | exact ⟨⟨_, rfl, rfl⟩, by decide, by decide, rfl, by omega⟩ | omega | decide)⟩, (by first | exact rfl | assumption | exact ⟨rfl, rfl⟩ | exact ⟨rfl, rfl, by omega⟩ | exact ⟨by assumption, rfl, by omega⟩ | exact ⟨⟨_, rfl, rfl⟩, by decide, by decide, rfl, by omega⟩ | omega | decide)⟩ ?_
  rw [hd']
  refine ru_S hV [] sSX8_54 (qX8_in l (nI gr) 0 (nI n) _ L) rfl rfl rfl (Nat.le_of_ble_eq_true rfl) ?_
  rw [show b2i (decide ((0 : Int32) ≤ nI gr ∧ nI gr ≤ nI n)) = 1 from in_t (m := n + 1) (by omega) (by omega)]
  refine ru_go hV 4 [(1, 0)] rfl rfl ⟨trivial, (by decide)⟩ ?_
  refine ru_V hV [] sVX8_104 hls rfl rfl rfl rfl rfl (Nat.le_of_ble_eq_true rfl) ?_
  refine ru_go hV 2 [] rfl rfl trivial ?_
  refine loop0 (P := fun k => V 54 [(0, .ref 0), (1, .int (nI a)), (2, .int (nI gr)), (3, .int (nI t)), (4, .int (nI k))] [] (mu I 0 7 0) (lay M 8 k g)) (2 ^ n) (fun h => by rw [lay_0] at h; exact h) (fun k hk ih => ?_) ?_
  · have hg1 := hg k hk
    refine ru_go hV 2 [] rfl rfl trivial ?_
    refine ru_V hV [.int (nI k)] sVX8_58 (hbl _) rfl rfl rfl rfl rfl (Nat.le_of_ble_eq_true rfl) ?_
    refine ru_go hV 5 [(0, 0), (8, 0)] rfl rfl ⟨⟨trivial, nI_nge hk (by omega)⟩, (by first | exact rfl | assumption | exact ⟨rfl, rfl⟩ | exact ⟨rfl, rfl, by omega⟩ | exact ⟨by assumption, rfl, by omega⟩ | exact ⟨⟨_, rfl, rfl⟩, by decide, by decide, rfl, by omega⟩ | omega | decide)⟩ ?_
    refine ru_S hV [.int (nI k), .ref 8] sSX8_62 (qX8_grade l (by omega) _ _) rfl rfl rfl (Nat.le_of_ble_eq_true rfl) ?_
    by_cases h : nI (pc5 k) = nI gr
    · rw [if_pos h] at hg1
      refine ru_go hV 10 [(0, 0), (6, 0), (k, 32), (k, 32)] rfl rfl ⟨⟨⟨⟨trivial, (fun e => e h)⟩, (by first | exact rfl | assumption | exact ⟨rfl, rfl⟩ | exact ⟨rfl, rfl, by omega⟩ | exact ⟨by assumption, rfl, by omega⟩ | exact ⟨⟨_, rfl, rfl⟩, by decide, by decide, rfl, by omega⟩ | omega | decide)⟩, (by first | exact rfl | assumption | exact ⟨rfl, rfl⟩ | exact ⟨rfl, rfl, by omega⟩ | exact ⟨by assumption, rfl, by omega⟩ | exact ⟨⟨_, rfl, rfl⟩, by decide, by decide, rfl, by omega⟩ | omega | decide)⟩, (by first | exact rfl | assumption | exact ⟨rfl, rfl⟩ | exact ⟨rfl, rfl, by omega⟩ | exact ⟨by assumption, rfl, by omega⟩ | exact ⟨⟨_, rfl, rfl⟩, by decide, by decide, rfl, by omega⟩ | omega | decide)⟩ ?_
      rw [nI_1, lay_ne (a := 6) (by decide), m6 k hk, ← hg1, lay_up rfl]
      exact ih
    · rw [if_neg h] at hg1
      refine ru_go hV 6 [(1, 0), (k, 32)] rfl rfl ⟨⟨trivial, h⟩, (by first | exact rfl | assumption | exact ⟨rfl, rfl⟩ | exact ⟨rfl, rfl, by omega⟩ | exact ⟨by assumption, rfl, by omega⟩ | exact ⟨⟨_, rfl, rfl⟩, by decide, by decide, rfl, by omega⟩ | omega | decide)⟩ ?_
      rw [nI_1, ← hg1, lay_up rfl]
      exact ih
  · refine ru_go hV 2 [] rfl rfl trivial ?_
    refine ru_V hV [.int (nI (2 ^ n))] sVX8_58 (hbl _) rfl rfl rfl rfl rfl (Nat.le_of_ble_eq_true rfl) ?_
    refine ru_go hV 4 [(1, 0)] rfl rfl ⟨trivial, nI_le (Nat.le_refl _) (by omega)⟩ ?_
    refine ru_V hV [] sVX8_128 (qX8_keep l (d := 5) ht (by decide) hn hq hd' (by rw [t7 (by decide)]; exact h2) (fun k hk => lay_in hk)) rfl rfl rfl rfl rfl (Nat.le_of_ble_eq_true rfl) ?_
    refine ru_fin hV 1 [] rfl rfl trivial ?_
    exact ⟨rfl, rfl, rfl⟩
theorem xX8_push (l : Launch) {x y : Int32} (h : ouR x 8 ∨ ouR y 8) (I : IM) (L : LM) : KX8_push l [.ref 0, .int x, .int y] I L (some (.int 0)) (mu I 0 7 1) L := by
  refine wX8_push l rfl (hz0 (by decide)) (fun V hV => ?_)
  have tail : V 21 [(0, .ref 0), (1, .int x), (2, .int y)] [.int 1, .ref 0] (mu I 0 7 0) L := by
    refine ru_V hV [] sVX8_70 (qX8_fails l 1 _ L) rfl rfl rfl rfl rfl (Nat.le_of_ble_eq_true rfl) ?_
    rw [mu_mu]
    refine ru_fin hV 1 [] rfl rfl trivial ?_
    exact ⟨rfl, rfl, rfl⟩
  refine ru_go hV 4 [] rfl rfl ⟨trivial, (by first | exact rfl | assumption | exact ⟨rfl, rfl⟩ | exact ⟨rfl, rfl, by omega⟩ | exact ⟨by assumption, rfl, by omega⟩ | exact ⟨⟨_, rfl, rfl⟩, by decide, by decide, rfl, by omega⟩ | omega | decide)⟩ ?_
  rcases ouR_or x 8 (by omega) with ⟨k, hk, rfl⟩ | hx
  · have h := h.resolve_left (ouR_not hk (by decide))
    refine ru_S hV [] sSX8_80 (qX8_isSlot l hk _ L) rfl rfl rfl (Nat.le_of_ble_eq_true rfl) ?_
    refine ru_go hV 2 [(0, 0)] rfl rfl ⟨trivial, (by decide)⟩ ?_
    refine ru_S hV [] sSX8_80 (xX8_isSlot l h _ L) rfl rfl rfl (Nat.le_of_ble_eq_true rfl) ?_
    refine ru_go hV 3 [(0, 0)] rfl rfl ⟨trivial, (fun e => e rfl)⟩ ?_
    exact tail
  · refine ru_S hV [] sSX8_80 (xX8_isSlot l hx _ L) rfl rfl rfl (Nat.le_of_ble_eq_true rfl) ?_
    refine ru_go hV 3 [(1, 0)] rfl rfl ⟨trivial, (by first | exact rfl | assumption | exact ⟨rfl, rfl⟩ | exact ⟨rfl, rfl, by omega⟩ | exact ⟨by assumption, rfl, by omega⟩ | exact ⟨⟨_, rfl, rfl⟩, by decide, by decide, rfl, by omega⟩ | omega | decide)⟩ ?_
    exact tail
theorem hX8_push (l : Launch) {a t n : Nat} (ha : a < 8) (ht : t < 8) (hn : n ≤ 5) {I : IM} (hd : I 1 0 = nI n) (L : LM) : ∃ M : LM, (∀ k, k < 2 ^ n → M 8 k = rfR I n 3 a a k) ∧ ∀ (r : Option Value) (I2 : IM) (V : Nat → LV → List Value → IM → LM → Prop), Ru l kdR 12 RX8 cX8_push rmX8_push FX8 tX8_push V (fun st J K => st = r.toList ∧ J = I2 ∧ K = M) → V 37 [(0, .ref 0), (1, .int (nI a)), (2, .int (nI t))] [.int 2, .int (nI 7), .int (nI t), .ref 0] (mu I 0 7 0) M → V 0 [(0, .ref 0), (1, .int (nI a)), (2, .int (nI t))] [] I L := by
  have hd' : mu I 0 7 0 1 0 = nI n := by rw [t7n (by decide)]; exact hd
  obtain ⟨M, hM, hK⟩ := qX8_layBy l (w := 3) (by decide) ha ha hn hd' L
  refine ⟨M, fun k hk => by rw [hM k hk, rf_t7], fun r I2 V hV h => ?_⟩
  refine ru_go hV 4 [] rfl rfl ⟨trivial, (by first | exact rfl | assumption | exact ⟨rfl, rfl⟩ | exact ⟨rfl, rfl, by omega⟩ | exact ⟨by assumption, rfl, by omega⟩ | exact ⟨⟨_, rfl, rfl⟩, by decide, by decide, rfl, by omega⟩ | omega | decide)⟩ ?_
  refine ru_S hV [] sSX8_80 (qX8_isSlot l ha _ L) rfl rfl rfl (Nat.le_of_ble_eq_true rfl) ?_
  refine ru_go hV 2 [(0, 0)] rfl rfl ⟨trivial, (by decide)⟩ ?_
  refine ru_S hV [] sSX8_80 (qX8_isSlot l ht _ L) rfl rfl rfl (Nat.le_of_ble_eq_true rfl) ?_
  refine ru_go hV 5 [(1, 0)] rfl rfl ⟨trivial, (by decide)⟩ ?_
  refine ru_V hV [] sVX8_131 hK rfl rfl rfl rfl rfl (Nat.le_of_ble_eq_true rfl) ?_
  refine ru_go hV 4 [] rfl rfl trivial ?_
  exact h
theorem qX8_push (l : Launch) {a t n q : Nat} (ha : a < 8) (ht : t < 8) (hn : n ≤ 5) (hq : q ≤ 6) {I : IM} (hd : I 1 0 = nI n) (h2 : I 0 2 = nI q) (L : LM) (hf : ftO (rfR I n 3 a a) (2 ^ n) = none) : ∃ L2, KX8_push l [.ref 0, .int (nI a), .int (nI t)] I L (some (.int (nI (cnz (fun k => (rfR I n 3 a a k).toInt32) (2 ^ n))))) (kpR (mu I 0 7 0) (rfR I n 3 a a) q t 7 (2 ^ n)) L2 := by
  obtain ⟨M, hM, hK⟩ := hX8_push l ha ht hn hd L
  refine ⟨M, wX8_push l rfl (hz0 (by decide)) (fun V hV => hK _ _ V hV ?_)⟩
  have hd' : mu I 0 7 0 1 0 = nI n := by rw [t7n (by decide)]; exact hd
  refine ru_V hV [] sVX8_135 (qX8_keepOr l (d := 7) ht (by decide) hn hq hd' (by rw [t7 (by decide)]; exact h2) hM hf) rfl rfl rfl rfl rfl (Nat.le_of_ble_eq_true rfl) ?_
  refine ru_fin hV 1 [] rfl rfl trivial ?_
  exact ⟨rfl, rfl, rfl⟩
theorem vX8f_push (l : Launch) {a t n : Nat} (ha : a < 8) (ht : t < 8) (hn : n ≤ 5) {I : IM} (hd : I 1 0 = nI n) (L : LM) (hf : ftO (rfR I n 3 a a) (2 ^ n) ≠ none) : ∃ L2, KX8_push l [.ref 0, .int (nI a), .int (nI t)] I L (some (.int 0)) (mu I 0 7 2) L2 := by
  obtain ⟨M, hM, hK⟩ := hX8_push l ha ht hn hd L
  refine ⟨M, wX8_push l rfl (hz0 (by decide)) (fun V hV => hK _ _ V hV ?_)⟩
  have hd' : mu I 0 7 0 1 0 = nI n := by rw [t7n (by decide)]; exact hd
  refine ru_V hV [] sVX8_135 (xX8_keepOr l hn hd' hM hf) rfl rfl rfl rfl rfl (Nat.le_of_ble_eq_true rfl) ?_
  rw [mu_mu]
  refine ru_fin hV 1 [] rfl rfl trivial ?_
  exact ⟨rfl, rfl, rfl⟩
