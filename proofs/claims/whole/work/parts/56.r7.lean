/-! the reference: products kept or refused -/
/-- a form laid into a slot -/
def kpF (I : IM) (g : Nat → Int64) (q to B : Nat) : IM := rg (svR I q) 1 (40 + 32 * to) B (fun k => (g k).toInt32)
/-- and what was done counted -/
def kpR (I : IM) (g : Nat → Int64) (q to d B : Nat) : IM :=
  mu (mu (kpF I g q to B) 1 (31 + d) (I 1 (31 + d) + 1)) 1 39 (I 1 39 + if cnz (fun k => (g k).toInt32) B = 0 then 1 else 0)
theorem frR_kp {I : IM} {g : Nat → Int64} {q to B k : Nat} (hk : k < B) : frR (kpF I g q to B) to k = (g k).toInt32 := by
  unfold frR kpF
  exact rg_at (f := fun k => (g k).toInt32) hk
theorem mu_1 {I : IM} {j k : Nat} {x : Int32} (h : k ≠ j) : mu I 1 j x 1 k = I 1 k := by simp [mu, h]
theorem qX8_keep (l : Launch) {to d n q : Nat} (ht : to < 8) (hd8 : d < 8) (hn : n ≤ 5) (hq : q ≤ 6) {I : IM} (hd : I 1 0 = nI n) (h2 : I 0 2 = nI q) {L : LM} {g : Nat → Int64} (hg : ∀ k, k < 2 ^ n → L 8 k = g k) : KX8_keep l [.ref 0, .int (nI to), .int (nI d)] I L (some (.int (nI (cnz (fun k => (g k).toInt32) (2 ^ n))))) (kpR I g q to d (2 ^ n)) L := by
  obtain ⟨hB, -⟩ := pow_le32 n hn
  have s10 : svR I q 1 0 = nI n := by rw [svR_ne (by decide) (by decide)]; exact hd
  have hbl : ∀ M : IM, M 1 0 = nI n → KX8_blades l [.ref 0] M L (some (.int (nI (2 ^ n)))) M L := fun M hM => qX8_blades l hn hM L
  have hmn : ∀ M : IM, M 1 0 = nI n → KX8_many l [.ref 0, .int (nI to)] M L (some (.int (nI (cnz (frR M to) (2 ^ n))))) M L := fun M hM => qX8_many l ht hn hM L
  generalize 2 ^ n = B at hB hbl hg hmn ⊢
  refine wX8_keep l rfl (hz0 (by decide)) (fun V hV => ?_)
  unfold kpR kpF at hV
  have e31 : ∀ j, 31 ≤ j → j < 40 → svR I q 1 j = I 1 j := fun j _ _ => by rw [svR_ne (by decide) (by decide)]
  refine ru_go hV 1 [] rfl rfl trivial ?_
  refine ru_V hV [] sVX8_73 (qX8_save l hq h2 L) rfl rfl rfl rfl rfl (Nat.le_of_ble_eq_true rfl) ?_
  generalize svR I q = J at s10 e31 hV ⊢
  have z0 : ∀ k f, rg J 1 (40 + 32 * to) k f 1 0 = nI n := fun k f => by rw [rg_out (by omega)]; exact s10
  refine ru_go hV 2 [] rfl rfl trivial ?_
  refine loop0 (P := fun k => V 6 [(0, .ref 0), (1, .int (nI to)), (2, .int (nI d)), (3, .int (nI k))] [] (rg J 1 (40 + 32 * to) k (fun k => (g k).toInt32)) L) B (fun h => by rw [rg_0] at h; exact h) (fun k hk ih => ?_) ?_
  · refine ru_go hV 2 [] rfl rfl trivial ?_
    refine ru_V hV [.int (nI k)] sVX8_58 (hbl _ (z0 _ _)) rfl rfl rfl rfl rfl (Nat.le_of_ble_eq_true rfl) ?_
    refine ru_go hV 18 [(0, 0), (1, 0), (8, 0), (k, 32), ((40+32*to+k), 296)] rfl rfl ⟨⟨⟨⟨⟨trivial, nI_nge hk (by omega)⟩, (by first | exact rfl | assumption | exact ⟨rfl, rfl⟩ | exact ⟨rfl, rfl, by omega⟩ | exact ⟨by assumption, rfl, by omega⟩ | exact ⟨⟨_, rfl, rfl⟩, by decide, by decide, rfl, by omega⟩ | omega | decide)⟩, (by first | exact rfl | assumption | exact ⟨rfl, rfl⟩ | exact ⟨rfl, rfl, by omega⟩ | exact ⟨by assumption, rfl, by omega⟩ | exact ⟨⟨_, rfl, rfl⟩, by decide, by decide, rfl, by omega⟩ | omega | decide)⟩, (by first | exact rfl | assumption | exact ⟨rfl, rfl⟩ | exact ⟨rfl, rfl, by omega⟩ | exact ⟨by assumption, rfl, by omega⟩ | exact ⟨⟨_, rfl, rfl⟩, by decide, by decide, rfl, by omega⟩ | omega | decide)⟩, ⟨rfl, ix_fr to k, by omega⟩⟩ ?_
    rw [nI_1, hg k hk, rg_up rfl rfl]
    exact ih
  · have e2 : ∀ j, 31 ≤ j → j < 40 → rg J 1 (40 + 32 * to) B (fun k => (g k).toInt32) 1 j = I 1 j := fun j h1 h2 => by rw [rg_out (by omega)]; exact e31 j h1 h2
    have e3 : ∀ x, cnz (frR (mu (rg J 1 (40 + 32 * to) B (fun k => (g k).toInt32)) 1 (31 + d) x) to) B = cnz (fun k => (g k).toInt32) B := fun x => cnz_cong (fun k hk => by
      unfold frR
      rw [mu_1 (by omega)]
      exact rg_at hk)
    have z1 := z0 B (fun k => (g k).toInt32)
    generalize rg J 1 (40 + 32 * to) B (fun k => (g k).toInt32) = K at e2 e3 z1 hV ⊢
    have ixd : (31 : Int32) + nI d = nI (31 + d) := by rw [show (31 : Int32) = nI 31 from rfl, nI_add]
    refine ru_go hV 2 [] rfl rfl trivial ?_
    refine ru_V hV [.int (nI B)] sVX8_58 (hbl _ z1) rfl rfl rfl rfl rfl (Nat.le_of_ble_eq_true rfl) ?_
    refine ru_go hV 13 [(1, 0), (1, 0), ((31+d), 296), ((31+d), 296)] rfl rfl ⟨⟨⟨⟨trivial, nI_le (Nat.le_refl B) (by omega)⟩, (by first | exact rfl | assumption | exact ⟨rfl, rfl⟩ | exact ⟨rfl, rfl, by omega⟩ | exact ⟨by assumption, rfl, by omega⟩ | exact ⟨⟨_, rfl, rfl⟩, by decide, by decide, rfl, by omega⟩ | omega | decide)⟩, ⟨rfl, ixd, by omega⟩⟩, ⟨rfl, ixd, by omega⟩⟩ ?_
    rw [e2 (31 + d) (by omega) (by omega)]
    refine ru_V hV [] sVX8_122 (hmn _ (by rw [mu_1 (by omega)]; exact z1)) rfl rfl rfl rfl rfl (Nat.le_of_ble_eq_true rfl) ?_
    rw [e3]
    have hc := cnz_le (fun k => (g k).toInt32) B
    have e39 : d ≠ 8 := by omega
    have e4 : ∀ x, mu K 1 (31 + d) x 1 39 = I 1 39 := fun x => by rw [mu_1 (by omega)]; exact e2 39 (by decide) (by decide)
    by_cases h : cnz (fun k => (g k).toInt32) B = 0
    · rw [if_pos h] at hV
      refine ru_fin hV 14 [(1, 0), (39, 296), (0, 0), (39, 296)] rfl rfl ⟨⟨⟨⟨trivial, (by first | exact rfl | assumption | exact ⟨rfl, rfl⟩ | exact ⟨rfl, rfl, by omega⟩ | exact ⟨by assumption, rfl, by omega⟩ | exact ⟨⟨_, rfl, rfl⟩, by decide, by decide, rfl, by omega⟩ | omega | decide)⟩, (by first | exact rfl | assumption | exact ⟨rfl, rfl⟩ | exact ⟨rfl, rfl, by omega⟩ | exact ⟨by assumption, rfl, by omega⟩ | exact ⟨⟨_, rfl, rfl⟩, by decide, by decide, rfl, by omega⟩ | omega | decide)⟩, (fun e => e (by rw [h]; rfl))⟩, (by first | exact rfl | assumption | exact ⟨rfl, rfl⟩ | exact ⟨rfl, rfl, by omega⟩ | exact ⟨by assumption, rfl, by omega⟩ | exact ⟨⟨_, rfl, rfl⟩, by decide, by decide, rfl, by omega⟩ | omega | decide)⟩ ?_
      rw [e4]
      exact ⟨rfl, rfl, rfl⟩
    · rw [if_neg h] at hV
      refine ru_fin hV 13 [(1, 0), (39, 296), (1, 0), (39, 296)] rfl rfl ⟨⟨⟨⟨trivial, (by first | exact rfl | assumption | exact ⟨rfl, rfl⟩ | exact ⟨rfl, rfl, by omega⟩ | exact ⟨by assumption, rfl, by omega⟩ | exact ⟨⟨_, rfl, rfl⟩, by decide, by decide, rfl, by omega⟩ | omega | decide)⟩, (by first | exact rfl | assumption | exact ⟨rfl, rfl⟩ | exact ⟨rfl, rfl, by omega⟩ | exact ⟨by assumption, rfl, by omega⟩ | exact ⟨⟨_, rfl, rfl⟩, by decide, by decide, rfl, by omega⟩ | omega | decide)⟩, nI_ne0 (by omega) (by omega)⟩, (by first | exact rfl | assumption | exact ⟨rfl, rfl⟩ | exact ⟨rfl, rfl, by omega⟩ | exact ⟨by assumption, rfl, by omega⟩ | exact ⟨⟨_, rfl, rfl⟩, by decide, by decide, rfl, by omega⟩ | omega | decide)⟩ ?_
      rw [e4]
      exact ⟨rfl, rfl, rfl⟩
theorem qX8_keepOr (l : Launch) {to d n q : Nat} {x : Int32} (ht : to < 8) (hd8 : d < 8) (hn : n ≤ 5) (hq : q ≤ 6) {I : IM} (hd : I 1 0 = nI n) (h2 : I 0 2 = nI q) {L : LM} {g : Nat → Int64} (hg : ∀ k, k < 2 ^ n → L 8 k = g k) (hf : ftO g (2 ^ n) = none) : KX8_keepOr l [.ref 0, .int (nI to), .int (nI d), .int x] I L (some (.int (nI (cnz (fun k => (g k).toInt32) (2 ^ n))))) (kpR I g q to d (2 ^ n)) L := by
  have hb := qX8_beyond l hn hd L
  rw [show ftO (L 8) (2 ^ n) = none from (fsO_cong (fun k hk => by rw [hg k hk])).trans hf] at hb
  refine wX8_keepOr l rfl (hz0 (by decide)) (fun V hV => ?_)
  refine ru_go hV 1 [] rfl rfl trivial ?_
  refine ru_V hV [] sVX8_125 hb rfl rfl rfl rfl rfl (Nat.le_of_ble_eq_true rfl) ?_
  refine ru_go hV 5 [(0, 0)] rfl rfl ⟨trivial, (fun e => e rfl)⟩ ?_
  refine ru_V hV [] sVX8_128 (qX8_keep l ht hd8 hn hq hd h2 hg) rfl rfl rfl rfl rfl (Nat.le_of_ble_eq_true rfl) ?_
  refine ru_fin hV 2 [] rfl rfl trivial ?_
  exact ⟨rfl, rfl, rfl⟩
theorem xX8_keepOr (l : Launch) {n : Nat} {x y z : Int32} (hn : n ≤ 5) {I : IM} (hd : I 1 0 = nI n) {L : LM} {g : Nat → Int64} (hg : ∀ k, k < 2 ^ n → L 8 k = g k) (hf : ftO g (2 ^ n) ≠ none) : KX8_keepOr l [.ref 0, .int y, .int z, .int x] I L (some (.int 0)) (mu I 0 7 x) L := by
  have hB := pow_le32 n hn
  have hb := qX8_beyond l hn hd L
  rw [show ftO (L 8) (2 ^ n) = ftO g (2 ^ n) from fsO_cong (fun k hk => by rw [hg k hk])] at hb
  refine wX8_keepOr l rfl (hz0 (by decide)) (fun V hV => ?_)
  refine ru_go hV 1 [] rfl rfl trivial ?_
  refine ru_V hV [] sVX8_125 hb rfl rfl rfl rfl rfl (Nat.le_of_ble_eq_true rfl) ?_
  refine ru_go hV 4 [(1, 0)] rfl rfl ⟨trivial, (fun e => hf ((fsI_non hB.1).mp e))⟩ ?_
  refine ru_V hV [] sVX8_70 (qX8_fails l x _ L) rfl rfl rfl rfl rfl (Nat.le_of_ble_eq_true rfl) ?_
  refine ru_fin hV 1 [] rfl rfl trivial ?_
  exact ⟨rfl, rfl, rfl⟩
theorem rf_t7 {I : IM} {x : Int32} {n w a b : Nat} : rfR (mu I 0 7 x) n w a b = rfR I n w a b := by
  unfold rfR frR sgR mxR
  rw [t7n (by decide)]
/-- three slots, one of them out of range -/
def ou3 (x y z : Int32) : Prop := ouR x 8 ∨ ouR y 8 ∨ ouR z 8
theorem ouR_not {k m : Nat} (hk : k < m) (hm : m < 2 ^ 31) : ¬ ouR (nI k) m := fun e => by
  rcases e with e | e
  · exact absurd e (nI_nn (by omega))
  · exact absurd e (nI_nge hk hm)
theorem xX8_sum (l : Launch) {x y z : Int32} (h : ou3 x y z) (I : IM) (L : LM) : KX8_sum l [.ref 0, .int x, .int y, .int z] I L (some (.int 0)) (mu I 0 7 1) L := by
  refine wX8_sum l rfl (hz0 (by decide)) (fun V hV => ?_)
  have tail : V 28 [(0, .ref 0), (1, .int x), (2, .int y), (3, .int z)] [.int 1, .ref 0] (mu I 0 7 0) L := by
    refine ru_V hV [] sVX8_70 (qX8_fails l 1 _ L) rfl rfl rfl rfl rfl (Nat.le_of_ble_eq_true rfl) ?_
    rw [mu_mu]
    refine ru_fin hV 1 [] rfl rfl trivial ?_
    exact ⟨rfl, rfl, rfl⟩
  refine ru_go hV 4 [] rfl rfl ⟨trivial, (by first | exact rfl | assumption | exact ⟨rfl, rfl⟩ | exact ⟨rfl, rfl, by omega⟩ | exact ⟨by assumption, rfl, by omega⟩ | exact ⟨⟨_, rfl, rfl⟩, by decide, by decide, rfl, by omega⟩ | omega | decide)⟩ ?_
  rcases ouR_or x 8 (by omega) with ⟨k, hk, rfl⟩ | hx
  · have h := h.resolve_left (ouR_not hk (by decide))
    refine ru_S hV [] sSX8_80 (qX8_isSlot l hk _ L) rfl rfl rfl (Nat.le_of_ble_eq_true rfl) ?_
    refine ru_go hV 2 [(0, 0)] rfl rfl ⟨trivial, (by decide)⟩ ?_
    rcases ouR_or y 8 (by omega) with ⟨k, hk, rfl⟩ | hy
    · have h := h.resolve_left (ouR_not hk (by decide))
      refine ru_S hV [] sSX8_80 (qX8_isSlot l hk _ L) rfl rfl rfl (Nat.le_of_ble_eq_true rfl) ?_
      refine ru_go hV 2 [(0, 0)] rfl rfl ⟨trivial, (by decide)⟩ ?_
      refine ru_S hV [] sSX8_80 (xX8_isSlot l h _ L) rfl rfl rfl (Nat.le_of_ble_eq_true rfl) ?_
      refine ru_go hV 3 [(0, 0)] rfl rfl ⟨trivial, (fun e => e rfl)⟩ ?_
      exact tail
    · refine ru_S hV [] sSX8_80 (xX8_isSlot l hy _ L) rfl rfl rfl (Nat.le_of_ble_eq_true rfl) ?_
      refine ru_go hV 3 [(1, 0)] rfl rfl ⟨trivial, (by first | exact rfl | assumption | exact ⟨rfl, rfl⟩ | exact ⟨rfl, rfl, by omega⟩ | exact ⟨by assumption, rfl, by omega⟩ | exact ⟨⟨_, rfl, rfl⟩, by decide, by decide, rfl, by omega⟩ | omega | decide)⟩ ?_
      exact tail
  · refine ru_S hV [] sSX8_80 (xX8_isSlot l hx _ L) rfl rfl rfl (Nat.le_of_ble_eq_true rfl) ?_
    refine ru_go hV 3 [(1, 0)] rfl rfl ⟨trivial, (by first | exact rfl | assumption | exact ⟨rfl, rfl⟩ | exact ⟨rfl, rfl, by omega⟩ | exact ⟨by assumption, rfl, by omega⟩ | exact ⟨⟨_, rfl, rfl⟩, by decide, by decide, rfl, by omega⟩ | omega | decide)⟩ ?_
    exact tail
theorem hX8_sum (l : Launch) {a b t n : Nat} (ha : a < 8) (hb : b < 8) (ht : t < 8) (hn : n ≤ 5) {I : IM} (hd : I 1 0 = nI n) (L : LM) : ∃ M : LM, (∀ k, k < 2 ^ n → M 8 k = rfR I n 0 a b k) ∧ ∀ (r : Option Value) (I2 : IM) (V : Nat → LV → List Value → IM → LM → Prop), Ru l kdR 12 RX8 cX8_sum rmX8_sum FX8 tX8_sum V (fun st J K => st = r.toList ∧ J = I2 ∧ K = M) → V 43 [(0, .ref 0), (1, .int (nI a)), (2, .int (nI b)), (3, .int (nI t))] [.int 2, .int (nI 0), .int (nI t), .ref 0] (mu I 0 7 0) M → V 0 [(0, .ref 0), (1, .int (nI a)), (2, .int (nI b)), (3, .int (nI t))] [] I L := by
  have hd' : mu I 0 7 0 1 0 = nI n := by rw [t7n (by decide)]; exact hd
  obtain ⟨M, hM, hK⟩ := qX8_layBy l (w := 0) (by decide) ha hb hn hd' L
  refine ⟨M, fun k hk => by rw [hM k hk, rf_t7], fun r I2 V hV h => ?_⟩
  refine ru_go hV 4 [] rfl rfl ⟨trivial, (by first | exact rfl | assumption | exact ⟨rfl, rfl⟩ | exact ⟨rfl, rfl, by omega⟩ | exact ⟨by assumption, rfl, by omega⟩ | exact ⟨⟨_, rfl, rfl⟩, by decide, by decide, rfl, by omega⟩ | omega | decide)⟩ ?_
  refine ru_S hV [] sSX8_80 (qX8_isSlot l ha _ L) rfl rfl rfl (Nat.le_of_ble_eq_true rfl) ?_
  refine ru_go hV 2 [(0, 0)] rfl rfl ⟨trivial, (by decide)⟩ ?_
  refine ru_S hV [] sSX8_80 (qX8_isSlot l hb _ L) rfl rfl rfl (Nat.le_of_ble_eq_true rfl) ?_
  refine ru_go hV 2 [(0, 0)] rfl rfl ⟨trivial, (by decide)⟩ ?_
  refine ru_S hV [] sSX8_80 (qX8_isSlot l ht _ L) rfl rfl rfl (Nat.le_of_ble_eq_true rfl) ?_
  refine ru_go hV 5 [(1, 0)] rfl rfl ⟨trivial, (by decide)⟩ ?_
  refine ru_V hV [] sVX8_131 hK rfl rfl rfl rfl rfl (Nat.le_of_ble_eq_true rfl) ?_
  refine ru_go hV 4 [] rfl rfl trivial ?_
  exact h
theorem qX8_sum (l : Launch) {a b t n q : Nat} (ha : a < 8) (hb : b < 8) (ht : t < 8) (hn : n ≤ 5) (hq : q ≤ 6) {I : IM} (hd : I 1 0 = nI n) (h2 : I 0 2 = nI q) (L : LM) (hf : ftO (rfR I n 0 a b) (2 ^ n) = none) : ∃ L2, KX8_sum l [.ref 0, .int (nI a), .int (nI b), .int (nI t)] I L (some (.int (nI (cnz (fun k => (rfR I n 0 a b k).toInt32) (2 ^ n))))) (kpR (mu I 0 7 0) (rfR I n 0 a b) q t 0 (2 ^ n)) L2 := by
  obtain ⟨M, hM, hK⟩ := hX8_sum l ha hb ht hn hd L
  refine ⟨M, wX8_sum l rfl (hz0 (by decide)) (fun V hV => hK _ _ V hV ?_)⟩
  have hd' : mu I 0 7 0 1 0 = nI n := by rw [t7n (by decide)]; exact hd
  refine ru_V hV [] sVX8_135 (qX8_keepOr l (d := 0) ht (by decide) hn hq hd' (by rw [t7 (by decide)]; exact h2) hM hf) rfl rfl rfl rfl rfl (Nat.le_of_ble_eq_true rfl) ?_
  refine ru_fin hV 1 [] rfl rfl trivial ?_
  exact ⟨rfl, rfl, rfl⟩
theorem vX8f_sum (l : Launch) {a b t n : Nat} (ha : a < 8) (hb : b < 8) (ht : t < 8) (hn : n ≤ 5) {I : IM} (hd : I 1 0 = nI n) (L : LM) (hf : ftO (rfR I n 0 a b) (2 ^ n) ≠ none) : ∃ L2, KX8_sum l [.ref 0, .int (nI a), .int (nI b), .int (nI t)] I L (some (.int 0)) (mu I 0 7 2) L2 := by
  obtain ⟨M, hM, hK⟩ := hX8_sum l ha hb ht hn hd L
  refine ⟨M, wX8_sum l rfl (hz0 (by decide)) (fun V hV => hK _ _ V hV ?_)⟩
  have hd' : mu I 0 7 0 1 0 = nI n := by rw [t7n (by decide)]; exact hd
  refine ru_V hV [] sVX8_135 (xX8_keepOr l hn hd' hM hf) rfl rfl rfl rfl rfl (Nat.le_of_ble_eq_true rfl) ?_
  rw [mu_mu]
  refine ru_fin hV 1 [] rfl rfl trivial ?_
  exact ⟨rfl, rfl, rfl⟩
theorem xX8_wedge (l : Launch) {x y z : Int32} (h : ou3 x y z) (I : IM) (L : LM) : KX8_wedge l [.ref 0, .int x, .int y, .int z] I L (some (.int 0)) (mu I 0 7 1) L := by
  refine wX8_wedge l rfl (hz0 (by decide)) (fun V hV => ?_)
  have tail : V 28 [(0, .ref 0), (1, .int x), (2, .int y), (3, .int z)] [.int 1, .ref 0] (mu I 0 7 0) L := by
    refine ru_V hV [] sVX8_70 (qX8_fails l 1 _ L) rfl rfl rfl rfl rfl (Nat.le_of_ble_eq_true rfl) ?_
    rw [mu_mu]
    refine ru_fin hV 1 [] rfl rfl trivial ?_
    exact ⟨rfl, rfl, rfl⟩
  refine ru_go hV 4 [] rfl rfl ⟨trivial, (by first | exact rfl | assumption | exact ⟨rfl, rfl⟩ | exact ⟨rfl, rfl, by omega⟩ | exact ⟨by assumption, rfl, by omega⟩ | exact ⟨⟨_, rfl, rfl⟩, by decide, by decide, rfl, by omega⟩ | omega | decide)⟩ ?_
  rcases ouR_or x 8 (by omega) with ⟨k, hk, rfl⟩ | hx
  · have h := h.resolve_left (ouR_not hk (by decide))
    refine ru_S hV [] sSX8_80 (qX8_isSlot l hk _ L) rfl rfl rfl (Nat.le_of_ble_eq_true rfl) ?_
    refine ru_go hV 2 [(0, 0)] rfl rfl ⟨trivial, (by decide)⟩ ?_
    rcases ouR_or y 8 (by omega) with ⟨k, hk, rfl⟩ | hy
    · have h := h.resolve_left (ouR_not hk (by decide))
      refine ru_S hV [] sSX8_80 (qX8_isSlot l hk _ L) rfl rfl rfl (Nat.le_of_ble_eq_true rfl) ?_
      refine ru_go hV 2 [(0, 0)] rfl rfl ⟨trivial, (by decide)⟩ ?_
      refine ru_S hV [] sSX8_80 (xX8_isSlot l h _ L) rfl rfl rfl (Nat.le_of_ble_eq_true rfl) ?_
      refine ru_go hV 3 [(0, 0)] rfl rfl ⟨trivial, (fun e => e rfl)⟩ ?_
      exact tail
    · refine ru_S hV [] sSX8_80 (xX8_isSlot l hy _ L) rfl rfl rfl (Nat.le_of_ble_eq_true rfl) ?_
      refine ru_go hV 3 [(1, 0)] rfl rfl ⟨trivial, (by first | exact rfl | assumption | exact ⟨rfl, rfl⟩ | exact ⟨rfl, rfl, by omega⟩ | exact ⟨by assumption, rfl, by omega⟩ | exact ⟨⟨_, rfl, rfl⟩, by decide, by decide, rfl, by omega⟩ | omega | decide)⟩ ?_
      exact tail
  · refine ru_S hV [] sSX8_80 (xX8_isSlot l hx _ L) rfl rfl rfl (Nat.le_of_ble_eq_true rfl) ?_
    refine ru_go hV 3 [(1, 0)] rfl rfl ⟨trivial, (by first | exact rfl | assumption | exact ⟨rfl, rfl⟩ | exact ⟨rfl, rfl, by omega⟩ | exact ⟨by assumption, rfl, by omega⟩ | exact ⟨⟨_, rfl, rfl⟩, by decide, by decide, rfl, by omega⟩ | omega | decide)⟩ ?_
    exact tail
theorem hX8_wedge (l : Launch) {a b t n : Nat} (ha : a < 8) (hb : b < 8) (ht : t < 8) (hn : n ≤ 5) {I : IM} (hd : I 1 0 = nI n) (L : LM) : ∃ M : LM, (∀ k, k < 2 ^ n → M 8 k = rfR I n 1 a b k) ∧ ∀ (r : Option Value) (I2 : IM) (V : Nat → LV → List Value → IM → LM → Prop), Ru l kdR 12 RX8 cX8_wedge rmX8_wedge FX8 tX8_wedge V (fun st J K => st = r.toList ∧ J = I2 ∧ K = M) → V 43 [(0, .ref 0), (1, .int (nI a)), (2, .int (nI b)), (3, .int (nI t))] [.int 2, .int (nI 2), .int (nI t), .ref 0] (mu I 0 7 0) M → V 0 [(0, .ref 0), (1, .int (nI a)), (2, .int (nI b)), (3, .int (nI t))] [] I L := by
  have hd' : mu I 0 7 0 1 0 = nI n := by rw [t7n (by decide)]; exact hd
  obtain ⟨M, hM, hK⟩ := qX8_layBy l (w := 1) (by decide) ha hb hn hd' L
  refine ⟨M, fun k hk => by rw [hM k hk, rf_t7], fun r I2 V hV h => ?_⟩
  refine ru_go hV 4 [] rfl rfl ⟨trivial, (by first | exact rfl | assumption | exact ⟨rfl, rfl⟩ | exact ⟨rfl, rfl, by omega⟩ | exact ⟨by assumption, rfl, by omega⟩ | exact ⟨⟨_, rfl, rfl⟩, by decide, by decide, rfl, by omega⟩ | omega | decide)⟩ ?_
  refine ru_S hV [] sSX8_80 (qX8_isSlot l ha _ L) rfl rfl rfl (Nat.le_of_ble_eq_true rfl) ?_
  refine ru_go hV 2 [(0, 0)] rfl rfl ⟨trivial, (by decide)⟩ ?_
  refine ru_S hV [] sSX8_80 (qX8_isSlot l hb _ L) rfl rfl rfl (Nat.le_of_ble_eq_true rfl) ?_
  refine ru_go hV 2 [(0, 0)] rfl rfl ⟨trivial, (by decide)⟩ ?_
  refine ru_S hV [] sSX8_80 (qX8_isSlot l ht _ L) rfl rfl rfl (Nat.le_of_ble_eq_true rfl) ?_
  refine ru_go hV 5 [(1, 0)] rfl rfl ⟨trivial, (by decide)⟩ ?_
  refine ru_V hV [] sVX8_131 hK rfl rfl rfl rfl rfl (Nat.le_of_ble_eq_true rfl) ?_
  refine ru_go hV 4 [] rfl rfl trivial ?_
  exact h
theorem qX8_wedge (l : Launch) {a b t n q : Nat} (ha : a < 8) (hb : b < 8) (ht : t < 8) (hn : n ≤ 5) (hq : q ≤ 6) {I : IM} (hd : I 1 0 = nI n) (h2 : I 0 2 = nI q) (L : LM) (hf : ftO (rfR I n 1 a b) (2 ^ n) = none) : ∃ L2, KX8_wedge l [.ref 0, .int (nI a), .int (nI b), .int (nI t)] I L (some (.int (nI (cnz (fun k => (rfR I n 1 a b k).toInt32) (2 ^ n))))) (kpR (mu I 0 7 0) (rfR I n 1 a b) q t 2 (2 ^ n)) L2 := by
  obtain ⟨M, hM, hK⟩ := hX8_wedge l ha hb ht hn hd L
  refine ⟨M, wX8_wedge l rfl (hz0 (by decide)) (fun V hV => hK _ _ V hV ?_)⟩
  have hd' : mu I 0 7 0 1 0 = nI n := by rw [t7n (by decide)]; exact hd
  refine ru_V hV [] sVX8_135 (qX8_keepOr l (d := 2) ht (by decide) hn hq hd' (by rw [t7 (by decide)]; exact h2) hM hf) rfl rfl rfl rfl rfl (Nat.le_of_ble_eq_true rfl) ?_
  refine ru_fin hV 1 [] rfl rfl trivial ?_
  exact ⟨rfl, rfl, rfl⟩
theorem vX8f_wedge (l : Launch) {a b t n : Nat} (ha : a < 8) (hb : b < 8) (ht : t < 8) (hn : n ≤ 5) {I : IM} (hd : I 1 0 = nI n) (L : LM) (hf : ftO (rfR I n 1 a b) (2 ^ n) ≠ none) : ∃ L2, KX8_wedge l [.ref 0, .int (nI a), .int (nI b), .int (nI t)] I L (some (.int 0)) (mu I 0 7 2) L2 := by
  obtain ⟨M, hM, hK⟩ := hX8_wedge l ha hb ht hn hd L
  refine ⟨M, wX8_wedge l rfl (hz0 (by decide)) (fun V hV => hK _ _ V hV ?_)⟩
  have hd' : mu I 0 7 0 1 0 = nI n := by rw [t7n (by decide)]; exact hd
  refine ru_V hV [] sVX8_135 (xX8_keepOr l hn hd' hM hf) rfl rfl rfl rfl rfl (Nat.le_of_ble_eq_true rfl) ?_
  rw [mu_mu]
  refine ru_fin hV 1 [] rfl rfl trivial ?_
  exact ⟨rfl, rfl, rfl⟩
theorem xX8_contract (l : Launch) {x y z : Int32} (h : ou3 x y z) (I : IM) (L : LM) : KX8_contract l [.ref 0, .int x, .int y, .int z] I L (some (.int 0)) (mu I 0 7 1) L := by
  refine wX8_contract l rfl (hz0 (by decide)) (fun V hV => ?_)
  have tail : V 28 [(0, .ref 0), (1, .int x), (2, .int y), (3, .int z)] [.int 1, .ref 0] (mu I 0 7 0) L := by
    refine ru_V hV [] sVX8_70 (qX8_fails l 1 _ L) rfl rfl rfl rfl rfl (Nat.le_of_ble_eq_true rfl) ?_
    rw [mu_mu]
    refine ru_fin hV 1 [] rfl rfl trivial ?_
    exact ⟨rfl, rfl, rfl⟩
  refine ru_go hV 4 [] rfl rfl ⟨trivial, (by first | exact rfl | assumption | exact ⟨rfl, rfl⟩ | exact ⟨rfl, rfl, by omega⟩ | exact ⟨by assumption, rfl, by omega⟩ | exact ⟨⟨_, rfl, rfl⟩, by decide, by decide, rfl, by omega⟩ | omega | decide)⟩ ?_
  rcases ouR_or x 8 (by omega) with ⟨k, hk, rfl⟩ | hx
  · have h := h.resolve_left (ouR_not hk (by decide))
    refine ru_S hV [] sSX8_80 (qX8_isSlot l hk _ L) rfl rfl rfl (Nat.le_of_ble_eq_true rfl) ?_
    refine ru_go hV 2 [(0, 0)] rfl rfl ⟨trivial, (by decide)⟩ ?_
    rcases ouR_or y 8 (by omega) with ⟨k, hk, rfl⟩ | hy
    · have h := h.resolve_left (ouR_not hk (by decide))
      refine ru_S hV [] sSX8_80 (qX8_isSlot l hk _ L) rfl rfl rfl (Nat.le_of_ble_eq_true rfl) ?_
      refine ru_go hV 2 [(0, 0)] rfl rfl ⟨trivial, (by decide)⟩ ?_
      refine ru_S hV [] sSX8_80 (xX8_isSlot l h _ L) rfl rfl rfl (Nat.le_of_ble_eq_true rfl) ?_
      refine ru_go hV 3 [(0, 0)] rfl rfl ⟨trivial, (fun e => e rfl)⟩ ?_
      exact tail
    · refine ru_S hV [] sSX8_80 (xX8_isSlot l hy _ L) rfl rfl rfl (Nat.le_of_ble_eq_true rfl) ?_
      refine ru_go hV 3 [(1, 0)] rfl rfl ⟨trivial, (by first | exact rfl | assumption | exact ⟨rfl, rfl⟩ | exact ⟨rfl, rfl, by omega⟩ | exact ⟨by assumption, rfl, by omega⟩ | exact ⟨⟨_, rfl, rfl⟩, by decide, by decide, rfl, by omega⟩ | omega | decide)⟩ ?_
      exact tail
  · refine ru_S hV [] sSX8_80 (xX8_isSlot l hx _ L) rfl rfl rfl (Nat.le_of_ble_eq_true rfl) ?_
    refine ru_go hV 3 [(1, 0)] rfl rfl ⟨trivial, (by first | exact rfl | assumption | exact ⟨rfl, rfl⟩ | exact ⟨rfl, rfl, by omega⟩ | exact ⟨by assumption, rfl, by omega⟩ | exact ⟨⟨_, rfl, rfl⟩, by decide, by decide, rfl, by omega⟩ | omega | decide)⟩ ?_
    exact tail
theorem hX8_contract (l : Launch) {a b t n : Nat} (ha : a < 8) (hb : b < 8) (ht : t < 8) (hn : n ≤ 5) {I : IM} (hd : I 1 0 = nI n) (L : LM) : ∃ M : LM, (∀ k, k < 2 ^ n → M 8 k = rfR I n 2 a b k) ∧ ∀ (r : Option Value) (I2 : IM) (V : Nat → LV → List Value → IM → LM → Prop), Ru l kdR 12 RX8 cX8_contract rmX8_contract FX8 tX8_contract V (fun st J K => st = r.toList ∧ J = I2 ∧ K = M) → V 43 [(0, .ref 0), (1, .int (nI a)), (2, .int (nI b)), (3, .int (nI t))] [.int 2, .int (nI 3), .int (nI t), .ref 0] (mu I 0 7 0) M → V 0 [(0, .ref 0), (1, .int (nI a)), (2, .int (nI b)), (3, .int (nI t))] [] I L := by
  have hd' : mu I 0 7 0 1 0 = nI n := by rw [t7n (by decide)]; exact hd
  obtain ⟨M, hM, hK⟩ := qX8_layBy l (w := 2) (by decide) ha hb hn hd' L
  refine ⟨M, fun k hk => by rw [hM k hk, rf_t7], fun r I2 V hV h => ?_⟩
  refine ru_go hV 4 [] rfl rfl ⟨trivial, (by first | exact rfl | assumption | exact ⟨rfl, rfl⟩ | exact ⟨rfl, rfl, by omega⟩ | exact ⟨by assumption, rfl, by omega⟩ | exact ⟨⟨_, rfl, rfl⟩, by decide, by decide, rfl, by omega⟩ | omega | decide)⟩ ?_
  refine ru_S hV [] sSX8_80 (qX8_isSlot l ha _ L) rfl rfl rfl (Nat.le_of_ble_eq_true rfl) ?_
  refine ru_go hV 2 [(0, 0)] rfl rfl ⟨trivial, (by decide)⟩ ?_
  refine ru_S hV [] sSX8_80 (qX8_isSlot l hb _ L) rfl rfl rfl (Nat.le_of_ble_eq_true rfl) ?_
  refine ru_go hV 2 [(0, 0)] rfl rfl ⟨trivial, (by decide)⟩ ?_
  refine ru_S hV [] sSX8_80 (qX8_isSlot l ht _ L) rfl rfl rfl (Nat.le_of_ble_eq_true rfl) ?_
  refine ru_go hV 5 [(1, 0)] rfl rfl ⟨trivial, (by decide)⟩ ?_
  refine ru_V hV [] sVX8_131 hK rfl rfl rfl rfl rfl (Nat.le_of_ble_eq_true rfl) ?_
  refine ru_go hV 4 [] rfl rfl trivial ?_
  exact h
theorem qX8_contract (l : Launch) {a b t n q : Nat} (ha : a < 8) (hb : b < 8) (ht : t < 8) (hn : n ≤ 5) (hq : q ≤ 6) {I : IM} (hd : I 1 0 = nI n) (h2 : I 0 2 = nI q) (L : LM) (hf : ftO (rfR I n 2 a b) (2 ^ n) = none) : ∃ L2, KX8_contract l [.ref 0, .int (nI a), .int (nI b), .int (nI t)] I L (some (.int (nI (cnz (fun k => (rfR I n 2 a b k).toInt32) (2 ^ n))))) (kpR (mu I 0 7 0) (rfR I n 2 a b) q t 3 (2 ^ n)) L2 := by
  obtain ⟨M, hM, hK⟩ := hX8_contract l ha hb ht hn hd L
  refine ⟨M, wX8_contract l rfl (hz0 (by decide)) (fun V hV => hK _ _ V hV ?_)⟩
  have hd' : mu I 0 7 0 1 0 = nI n := by rw [t7n (by decide)]; exact hd
  refine ru_V hV [] sVX8_135 (qX8_keepOr l (d := 3) ht (by decide) hn hq hd' (by rw [t7 (by decide)]; exact h2) hM hf) rfl rfl rfl rfl rfl (Nat.le_of_ble_eq_true rfl) ?_
  refine ru_fin hV 1 [] rfl rfl trivial ?_
  exact ⟨rfl, rfl, rfl⟩
theorem vX8f_contract (l : Launch) {a b t n : Nat} (ha : a < 8) (hb : b < 8) (ht : t < 8) (hn : n ≤ 5) {I : IM} (hd : I 1 0 = nI n) (L : LM) (hf : ftO (rfR I n 2 a b) (2 ^ n) ≠ none) : ∃ L2, KX8_contract l [.ref 0, .int (nI a), .int (nI b), .int (nI t)] I L (some (.int 0)) (mu I 0 7 2) L2 := by
  obtain ⟨M, hM, hK⟩ := hX8_contract l ha hb ht hn hd L
  refine ⟨M, wX8_contract l rfl (hz0 (by decide)) (fun V hV => hK _ _ V hV ?_)⟩
  have hd' : mu I 0 7 0 1 0 = nI n := by rw [t7n (by decide)]; exact hd
  refine ru_V hV [] sVX8_135 (xX8_keepOr l hn hd' hM hf) rfl rfl rfl rfl rfl (Nat.le_of_ble_eq_true rfl) ?_
  rw [mu_mu]
  refine ru_fin hV 1 [] rfl rfl trivial ?_
  exact ⟨rfl, rfl, rfl⟩
