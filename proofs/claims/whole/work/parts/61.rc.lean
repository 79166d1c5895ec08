/-! the reference: looks -/
theorem nI_nle0 {g : Nat} (h : 0 < g) (h2 : g < 2 ^ 31) : ¬ nI g ≤ 0 := nI_ge (a := 0) h h2
/-- looks touch the code, the pivots alone -/
def RV (I J : IM) : Prop := (∀ a, a ≠ 0 → a ≠ 11 → J a = I a) ∧ ∀ j, j ≠ 7 → j ≠ 21 → J 0 j = I 0 j
theorem RV.tr {I J K : IM} (h1 : RV I J) (h2 : RV J K) : RV I K := ⟨fun a a1 a2 => (h2.1 a a1 a2).trans (h1.1 a a1 a2), fun j j1 j2 => (h2.2 j j1 j2).trans (h1.2 j j1 j2)⟩
theorem RQ7 (I : IM) (x : Int32) : RV I (mu I 0 7 x) := ⟨fun a h _ => mu_ne _ _ h, fun j h _ => mu_0 h⟩
theorem RV.fr {I J : IM} (h : RV I J) (s : Nat) : frR J s = frR I s := by
  unfold frR
  rw [h.1 1 (by decide) (by decide)]
/-- the code stays too -/
def RQ (I J : IM) : Prop := (∀ a, a ≠ 0 → a ≠ 11 → J a = I a) ∧ ∀ j, j + 1 ≠ 0 → j ≠ 21 → J 0 j = I 0 j
theorem RQ.v {I J : IM} (h : RQ I J) : RV I J := ⟨h.1, fun j _ j2 => h.2 j (Nat.succ_ne_zero j) j2⟩
theorem RQ.rf (I : IM) : RQ I I := ⟨fun _ _ _ => rfl, fun _ _ _ => rfl⟩
theorem RQ.tr {I J K : IM} (h1 : RQ I J) (h2 : RQ J K) : RQ I K := ⟨fun a a1 a2 => (h2.1 a a1 a2).trans (h1.1 a a1 a2), fun j j1 j2 => (h2.2 j j1 j2).trans (h1.2 j j1 j2)⟩
theorem RQ.fr {I J : IM} (h : RQ I J) (s : Nat) : frR J s = frR I s := by
  unfold frR
  rw [h.1 1 (by decide) (by decide)]
theorem t7fr {I : IM} {x : Int32} {s : Nat} : frR (mu I 0 7 x) s = frR I s := (RQ7 I x).fr s
theorem t7sg {I : IM} {x : Int32} : sgR (mu I 0 7 x) = sgR I := by
  unfold sgR
  rw [t7n (by decide)]
theorem t7mx {I : IM} {x : Int32} : mxR (mu I 0 7 x) = mxR I := by
  unfold mxR
  rw [t7n (by decide)]
theorem xX8_coefficient (l : Launch) {x y : Int32} {n : Nat} (hx : ouR x 8 ∨ ouR y (2 ^ n)) (hn : n ≤ 5) {I : IM} (hd : I 1 0 = nI n) (L : LM) : KX8_coefficient l [.ref 0, .int x, .int y] I L (some (.int 0)) (mu I 0 7 1) L := by
  refine wX8_coefficient l rfl (hz0 (by decide)) (fun V hV => ?_)
  have hd' : mu I 0 7 0 1 0 = nI n := by rw [t7n (by decide)]; exact hd
  have tail : V 31 [(0, .ref 0), (1, .int x), (2, .int y)] [.int 1, .ref 0] (mu I 0 7 0) L := by
    refine ru_V hV [] sVX8_70 (qX8_fails l 1 _ L) rfl rfl rfl rfl rfl (Nat.le_of_ble_eq_true rfl) ?_
    rw [mu_mu]
    refine ru_fin hV 1 [] rfl rfl trivial ?_
    exact ⟨rfl, rfl, rfl⟩
  refine ru_go hV 4 [] rfl rfl ⟨trivial, (by first | exact rfl | assumption | exact ⟨rfl, rfl⟩ | exact ⟨rfl, rfl, by omega⟩ | exact ⟨by assumption, rfl, by omega⟩ | exact ⟨⟨_, rfl, rfl⟩, by decide, by decide, rfl, by omega⟩ | omega | decide)⟩ ?_
  rcases ouR_or x 8 (by omega) with ⟨k, hk, rfl⟩ | h
  · have hy := hx.resolve_left (ouR_not hk (by decide))
    refine ru_S hV [] sSX8_80 (qX8_isSlot l hk _ L) rfl rfl rfl (Nat.le_of_ble_eq_true rfl) ?_
    refine ru_go hV 3 [(0, 0)] rfl rfl ⟨trivial, (by decide)⟩ ?_
    refine ru_V hV [] sVX8_83 (xX8_isBlade l hy hn hd' L) rfl rfl rfl rfl rfl (Nat.le_of_ble_eq_true rfl) ?_
    refine ru_go hV 3 [(1, 0)] rfl rfl ⟨trivial, (by first | exact rfl | assumption | exact ⟨rfl, rfl⟩ | exact ⟨rfl, rfl, by omega⟩ | exact ⟨by assumption, rfl, by omega⟩ | exact ⟨⟨_, rfl, rfl⟩, by decide, by decide, rfl, by omega⟩ | omega | decide)⟩ ?_
    exact tail
  · refine ru_S hV [] sSX8_80 (xX8_isSlot l h _ L) rfl rfl rfl (Nat.le_of_ble_eq_true rfl) ?_
    refine ru_go hV 3 [(1, 0)] rfl rfl ⟨trivial, (by first | exact rfl | assumption | exact ⟨rfl, rfl⟩ | exact ⟨rfl, rfl, by omega⟩ | exact ⟨by assumption, rfl, by omega⟩ | exact ⟨⟨_, rfl, rfl⟩, by decide, by decide, rfl, by omega⟩ | omega | decide)⟩ ?_
    exact tail
theorem qX8_coefficient (l : Launch) {s b n : Nat} (hs : s < 8) (hb : b < 2 ^ n) (hn : n ≤ 5) {I : IM} (hd : I 1 0 = nI n) (L : LM) : KX8_coefficient l [.ref 0, .int (nI s), .int (nI b)] I L (some (.int (frR I s b))) (mu I 0 7 0) L := by
  refine wX8_coefficient l rfl (hz0 (by decide)) (fun V hV => ?_)
  have hd' : mu I 0 7 0 1 0 = nI n := by rw [t7n (by decide)]; exact hd
  refine ru_go hV 4 [] rfl rfl ⟨trivial, (by first | exact rfl | assumption | exact ⟨rfl, rfl⟩ | exact ⟨rfl, rfl, by omega⟩ | exact ⟨by assumption, rfl, by omega⟩ | exact ⟨⟨_, rfl, rfl⟩, by decide, by decide, rfl, by omega⟩ | omega | decide)⟩ ?_
  refine ru_S hV [] sSX8_80 (qX8_isSlot l hs _ L) rfl rfl rfl (Nat.le_of_ble_eq_true rfl) ?_
  refine ru_go hV 3 [(0, 0)] rfl rfl ⟨trivial, (by decide)⟩ ?_
  refine ru_V hV [] sVX8_83 (qX8_isBlade l hb hn hd' L) rfl rfl rfl rfl rfl (Nat.le_of_ble_eq_true rfl) ?_
  refine ru_go hV 4 [(0, 0)] rfl rfl ⟨trivial, (by decide)⟩ ?_
  refine ru_V hV [] sVX8_88 (qX8_at l hs (pow_mono n hn b hb) _ L) rfl rfl rfl rfl rfl (Nat.le_of_ble_eq_true rfl) ?_
  refine ru_fin hV 2 [] rfl rfl trivial ?_
  rw [t7fr]
  exact ⟨rfl, rfl, rfl⟩
theorem xX8_form (l : Launch) {x y : Int32} (h : ouR x 8) (I : IM) (L : LM) : KX8_form l [.ref 0, .int x, .int y] I L (some (.int 0)) (mu I 0 7 1) L := by
  refine wX8_form l rfl (hz0 (by decide)) (fun V hV => ?_)
  refine ru_go hV 4 [] rfl rfl ⟨trivial, (by first | exact rfl | assumption | exact ⟨rfl, rfl⟩ | exact ⟨rfl, rfl, by omega⟩ | exact ⟨by assumption, rfl, by omega⟩ | exact ⟨⟨_, rfl, rfl⟩, by decide, by decide, rfl, by omega⟩ | omega | decide)⟩ ?_
  refine ru_S hV [] sSX8_80 (xX8_isSlot l h _ L) rfl rfl rfl (Nat.le_of_ble_eq_true rfl) ?_
  refine ru_go hV 3 [(0, 0)] rfl rfl ⟨trivial, (fun e => e rfl)⟩ ?_
  refine ru_V hV [] sVX8_70 (qX8_fails l 1 _ L) rfl rfl rfl rfl rfl (Nat.le_of_ble_eq_true rfl) ?_
  rw [mu_mu]
  refine ru_fin hV 1 [] rfl rfl trivial ?_
  exact ⟨rfl, rfl, rfl⟩
theorem zX8_form (l : Launch) {s : Nat} {y : Int32} (hs : s < 8) (h : ouR y 8) (I : IM) (L : LM) : KX8_form l [.ref 0, .int (nI s), .int y] I L (some (.int 0)) (mu I 0 7 2) L := by
  refine wX8_form l rfl (hz0 (by decide)) (fun V hV => ?_)
  refine ru_go hV 4 [] rfl rfl ⟨trivial, (by first | exact rfl | assumption | exact ⟨rfl, rfl⟩ | exact ⟨rfl, rfl, by omega⟩ | exact ⟨by assumption, rfl, by omega⟩ | exact ⟨⟨_, rfl, rfl⟩, by decide, by decide, rfl, by omega⟩ | omega | decide)⟩ ?_
  refine ru_S hV [] sSX8_80 (qX8_isSlot l hs _ L) rfl rfl rfl (Nat.le_of_ble_eq_true rfl) ?_
  refine ru_go hV 4 [(1, 0)] rfl rfl ⟨trivial, (by decide)⟩ ?_
  refine ru_S hV [] sSX8_54 (qX8_in l y 0 7 _ L) rfl rfl rfl (Nat.le_of_ble_eq_true rfl) ?_
  rw [show b2i (decide ((0 : Int32) ≤ y ∧ y ≤ 7)) = 0 from in_f (m := 8) h (by decide) (by decide)]
  refine ru_go hV 3 [(1, 0)] rfl rfl ⟨trivial, (by first | exact rfl | assumption | exact ⟨rfl, rfl⟩ | exact ⟨rfl, rfl, by omega⟩ | exact ⟨by assumption, rfl, by omega⟩ | exact ⟨⟨_, rfl, rfl⟩, by decide, by decide, rfl, by omega⟩ | omega | decide)⟩ ?_
  refine ru_V hV [] sVX8_70 (qX8_fails l 2 _ L) rfl rfl rfl rfl rfl (Nat.le_of_ble_eq_true rfl) ?_
  rw [mu_mu]
  refine ru_fin hV 1 [] rfl rfl trivial ?_
  exact ⟨rfl, rfl, rfl⟩
theorem qX8_form (l : Launch) {s k n : Nat} (hs : s < 8) (hk : k < 8) (hn : n ≤ 5) {I : IM} (hd : I 1 0 = nI n) (L : LM) : KX8_form l [.ref 0, .int (nI s), .int (nI k)] I L (some (.int (prF (frR I s) (2 ^ n) k))) (mu I 0 7 0) L := by
  refine wX8_form l rfl (hz0 (by decide)) (fun V hV => ?_)
  have hf := qX8_formOf l hs hk hn (I := mu I 0 7 0) (by rw [t7n (by decide)]; exact hd) L
  rw [t7fr] at hf
  refine ru_go hV 4 [] rfl rfl ⟨trivial, (by first | exact rfl | assumption | exact ⟨rfl, rfl⟩ | exact ⟨rfl, rfl, by omega⟩ | exact ⟨by assumption, rfl, by omega⟩ | exact ⟨⟨_, rfl, rfl⟩, by decide, by decide, rfl, by omega⟩ | omega | decide)⟩ ?_
  refine ru_S hV [] sSX8_80 (qX8_isSlot l hs _ L) rfl rfl rfl (Nat.le_of_ble_eq_true rfl) ?_
  refine ru_go hV 4 [(1, 0)] rfl rfl ⟨trivial, (by decide)⟩ ?_
  refine ru_S hV [] sSX8_54 (qX8_in l (nI k) 0 7 _ L) rfl rfl rfl (Nat.le_of_ble_eq_true rfl) ?_
  rw [show b2i (decide ((0 : Int32) ≤ nI k ∧ nI k ≤ 7)) = 1 from in_t (m := 8) hk (by decide)]
  refine ru_go hV 4 [(0, 0)] rfl rfl ⟨trivial, (by decide)⟩ ?_
  refine ru_V hV [] sVX8_203 hf rfl rfl rfl rfl rfl (Nat.le_of_ble_eq_true rfl) ?_
  refine ru_fin hV 2 [] rfl rfl trivial ?_
  exact ⟨rfl, rfl, rfl⟩
theorem qX8_innerOf (l : Launch) {a b n : Nat} (ha : a < 8) (hb : b < 8) (hn : n ≤ 5) {I : IM} (hd : I 1 0 = nI n) (L : LM) : KX8_innerOf l [.ref 0, .int (nI a), .int (nI b)] I L (some (.long (inC (sgR I) (frR I a) (frR I b) (2 ^ n)))) I L := by
  obtain ⟨hB, -⟩ := pow_le32 n hn
  have hbl : ∀ M : LM, KX8_blades l [.ref 0] I M (some (.int (nI (2 ^ n)))) I M := fun M => qX8_blades l hn hd M
  have hsi : ∀ M : LM, ∀ i, i < 2 ^ n → KX8_signOf l [.ref 0, .int (nI i)] I M (some (.int (sgn (sgR I) i))) I M := fun M i hi => by
    have := qX8_signOf l (b := i) (by omega) hn hd M
    rw [sgB_up hn hi] at this
    exact this
  generalize 2 ^ n = B at hB hbl hsi ⊢
  refine wX8_innerOf l rfl (hz0 (by decide)) (fun V hV => ?_)
  refine ru_go hV 4 [] rfl rfl trivial ?_
  refine loop0 (P := fun k => V 5 [(0, .ref 0), (1, .int (nI a)), (2, .int (nI b)), (3, .long (inC (sgR I) (frR I a) (frR I b) k)), (5, .int (nI k))] [] I L) B (fun h => h) (fun k hk ih => ?_) ?_
  · refine ru_go hV 2 [] rfl rfl trivial ?_
    refine ru_V hV [.int (nI k)] sVX8_58 (hbl _) rfl rfl rfl rfl rfl (Nat.le_of_ble_eq_true rfl) ?_
    refine ru_go hV 5 [(0, 0)] rfl rfl ⟨trivial, nI_nge hk (by omega)⟩ ?_
    refine ru_V hV [.long _] sVX8_88 (qX8_at l ha (k := k) (by omega) I L) rfl rfl rfl rfl rfl (Nat.le_of_ble_eq_true rfl) ?_
    refine ru_go hV 4 [] rfl rfl trivial ?_
    refine ru_V hV [.long _, .long _] sVX8_88 (qX8_at l hb (k := k) (by omega) I L) rfl rfl rfl rfl rfl (Nat.le_of_ble_eq_true rfl) ?_
    refine ru_go hV 4 [] rfl rfl trivial ?_
    refine ru_V hV [.long _, .long _] sVX8_94 (hsi _ k hk) rfl rfl rfl rfl rfl (Nat.le_of_ble_eq_true rfl) ?_
    refine ru_go hV 6 [] rfl rfl trivial ?_
    rw [nI_1]
    exact ru_sub hV [0, 1, 2, 3, 4] rfl ih
  · refine ru_go hV 2 [] rfl rfl trivial ?_
    refine ru_V hV [.int (nI B)] sVX8_58 (hbl _) rfl rfl rfl rfl rfl (Nat.le_of_ble_eq_true rfl) ?_
    refine ru_fin hV 3 [(1, 0)] rfl rfl ⟨trivial, nI_le (Nat.le_refl B) (by omega)⟩ ?_
    exact ⟨rfl, rfl, rfl⟩
theorem xX8_inner (l : Launch) {x y : Int32} (h : ouR x 8 ∨ ouR y 8) (I : IM) (L : LM) : KX8_inner l [.ref 0, .int x, .int y] I L (some (.long 0)) (mu I 0 7 1) L := by
  refine wX8_inner l rfl (hz0 (by decide)) (fun V hV => ?_)
  have tail : V 30 [(0, .ref 0), (1, .int x), (2, .int y)] [.int 1, .ref 0] (mu I 0 7 0) L := by
    refine ru_V hV [] sVX8_70 (qX8_fails l 1 _ L) rfl rfl rfl rfl rfl (Nat.le_of_ble_eq_true rfl) ?_
    rw [mu_mu]
    refine ru_fin hV 2 [] rfl rfl trivial ?_
    exact ⟨rfl, rfl, rfl⟩
  refine ru_go hV 4 [] rfl rfl ⟨trivial, (by first | exact rfl | assumption | exact ⟨rfl, rfl⟩ | exact ⟨rfl, rfl, by omega⟩ | exact ⟨by assumption, rfl, by omega⟩ | exact ⟨⟨_, rfl, rfl⟩, by decide, by decide, rfl, by omega⟩ | omega | decide)⟩ ?_
  rcases ouR_or x 8 (by omega) with ⟨k, hk, rfl⟩ | hx
  · have h := h.resolve_left (ouR_not hk (by decide))
    refine ru_S hV [] sSX8_80 (qX8_isSlot l hk _ L) rfl rfl rfl (Nat.le_of_ble_eq_true rfl) ?_
    refine ru_go hV 2 [(0, 0)] rfl rfl ⟨trivial, (by decide)⟩ ?_
    refine ru_S hV [] sSX8_80 (xX8_isSlot l h _ L) rfl rfl rfl (Nat.le_of_ble_eq_true rfl) ?_
    refine ru_go hV 3 [(1, 0)] rfl rfl ⟨trivial, (by first | exact rfl | assumption | exact ⟨rfl, rfl⟩ | exact ⟨rfl, rfl, by omega⟩ | exact ⟨by assumption, rfl, by omega⟩ | exact ⟨⟨_, rfl, rfl⟩, by decide, by decide, rfl, by omega⟩ | omega | decide)⟩ ?_
    exact tail
  · refine ru_S hV [] sSX8_80 (xX8_isSlot l hx _ L) rfl rfl rfl (Nat.le_of_ble_eq_true rfl) ?_
    refine ru_go hV 3 [(1, 0)] rfl rfl ⟨trivial, (by first | exact rfl | assumption | exact ⟨rfl, rfl⟩ | exact ⟨rfl, rfl, by omega⟩ | exact ⟨by assumption, rfl, by omega⟩ | exact ⟨⟨_, rfl, rfl⟩, by decide, by decide, rfl, by omega⟩ | omega | decide)⟩ ?_
    exact tail
theorem qX8_inner (l : Launch) {a b n : Nat} (ha : a < 8) (hb : b < 8) (hn : n ≤ 5) {I : IM} (hd : I 1 0 = nI n) (L : LM) : KX8_inner l [.ref 0, .int (nI a), .int (nI b)] I L (some (.long (inC (sgR I) (frR I a) (frR I b) (2 ^ n)))) (mu I 0 7 0) L := by
  refine wX8_inner l rfl (hz0 (by decide)) (fun V hV => ?_)
  have hf := qX8_innerOf l ha hb hn (I := mu I 0 7 0) (by rw [t7n (by decide)]; exact hd) L
  rw [t7fr, t7fr, t7sg] at hf
  refine ru_go hV 4 [] rfl rfl ⟨trivial, (by first | exact rfl | assumption | exact ⟨rfl, rfl⟩ | exact ⟨rfl, rfl, by omega⟩ | exact ⟨by assumption, rfl, by omega⟩ | exact ⟨⟨_, rfl, rfl⟩, by decide, by decide, rfl, by omega⟩ | omega | decide)⟩ ?_
  refine ru_S hV [] sSX8_80 (qX8_isSlot l ha _ L) rfl rfl rfl (Nat.le_of_ble_eq_true rfl) ?_
  refine ru_go hV 2 [(0, 0)] rfl rfl ⟨trivial, (by decide)⟩ ?_
  refine ru_S hV [] sSX8_80 (qX8_isSlot l hb _ L) rfl rfl rfl (Nat.le_of_ble_eq_true rfl) ?_
  refine ru_go hV 4 [(0, 0)] rfl rfl ⟨trivial, (by decide)⟩ ?_
  refine ru_V hV [] sVX8_206 hf rfl rfl rfl rfl rfl (Nat.le_of_ble_eq_true rfl) ?_
  refine ru_fin hV 2 [] rfl rfl trivial ?_
  exact ⟨rfl, rfl, rfl⟩
/-- no number is the least one -/
def SM (f : Nat → Int32) : Prop := ∀ k, k < 32 → f k ≠ -2147483648
theorem sgI_l (o : Bool) {x : Int32} (h : x ≠ -2147483648) : (sgI o x).toInt64 = sg o x.toInt64 := by
  cases o with
  | true => exact Int32.toInt64_neg_of_ne h
  | false => rfl
theorem qX8_vector (l : Launch) {s i k : Nat} (hs : s < 8) (hi : i < 32) (hk : k < 5) {I : IM} (hm : SM (frR I s)) (L : LM) : KX8_vector l [.ref 0, .int (nI s), .int (nI i), .int (nI k)] I L (some (.long (paI (frR I s) i k).toInt64)) I L := by
  have hp := pow2_lt k hk
  have esh := bl_sh k (by omega)
  have hb := bt_01 i hi k hk
  refine wX8_vector l rfl (hz0 (by decide)) (fun V hV => ?_)
  by_cases h : i.testBit k = true
  · rw [if_pos h] at hb
    refine ru_fin hV 10 [(0, 0)] rfl rfl ⟨trivial, (fun e => e hb)⟩ ?_
    exact ⟨by rw [paI, if_pos h]; rfl, rfl, rfl⟩
  · rw [if_neg h] at hb
    have hor := or_lt i hi (2 ^ k) hp
    refine ru_go hV 14 [(1, 0)] rfl rfl ⟨trivial, (by rw [hb]; decide)⟩ ?_
    rw [esh, orI i hi _ hp]
    refine ru_V hV [] sVX8_88 (qX8_at l hs hor I L) rfl rfl rfl rfl rfl (Nat.le_of_ble_eq_true rfl) ?_
    refine ru_go hV 5 [] rfl rfl trivial ?_
    rw [esh]
    refine ru_S hV [.long _] sSX8_91 (qX8_way l hi hp I L) rfl rfl rfl (Nat.le_of_ble_eq_true rfl) ?_
    refine ru_fin hV 3 [] rfl rfl trivial ?_
    rw [wy_sg]
    refine ⟨?_, rfl, rfl⟩
    rw [paI, if_neg h, sgI_l _ (hm _ hor)]
    rfl
/-- the test of the reference -/
def puP (f : Nat → Int32) (n g r : Nat) : Bool := decide (pc5 r + 1 = g) && !(pwz f r n)
def puB (f : Nat → Int32) (n g : Nat) : Bool := (fsO (puP f n g) (2 ^ n)).isNone
theorem fsO_su (p : Nat → Bool) (k : Nat) : (fsO p (k + 1)).isNone = ((fsO p k).isNone && !(p k)) := by
  rw [show fsO p (k + 1) = (match fsO p k with
    | some q => some q
    | none => if p k = true then some k else none) from rfl]
  cases h : fsO p k with
  | some q => rfl
  | none => cases h2 : p k <;> rfl
theorem fsO_st {p : Nat → Bool} {k : Nat} (h : (fsO p k).isNone = false) : ∀ m, k ≤ m → (fsO p m).isNone = false
  | 0, hm => by
    have : k = 0 := by omega
    subst this
    exact h
  | m + 1, hm => by
    by_cases e : k = m + 1
    · rw [← e]; exact h
    · rw [fsO_su, fsO_st h m (by omega)]; rfl
theorem qX8_isPureH (l : Launch) {s g n : Nat} (hs : s < 8) (hg : g ≤ 5) (hn : n ≤ 5) {I : IM} (hd : I 1 0 = nI n) (hm : SM (frR I s)) (L : LM) : ∃ L2, L2 0 23 = L 0 23 ∧ KX8_isPure l [.ref 0, .int (nI s), .int (nI g)] I L (some (.int (b2i (puB (frR I s) n g)))) I L2 := by
  have ex : ∃ I2 L2, (I2 = I ∧ L2 0 23 = L 0 23) ∧ KX8_isPure l [.ref 0, .int (nI s), .int (nI g)] I L (some (.int (b2i (puB (frR I s) n g)))) I2 L2 := by
    refine ru_pos1 (r := some (.int (b2i (puB (frR I s) n g)))) (Q := fun J M => J = I ∧ M 0 23 = L 0 23) (fun V hV => ?_) (fun I2 L2 h => wX8_isPure l rfl (fun _ x h => by cases h; exact b2i_01 _) h)
    show V 0 [(0, .ref 0), (1, .int (nI s)), (2, .int (nI g))] [] I L
    obtain ⟨hB, -⟩ := pow_le32 n hn
    have hbl : ∀ M : LM, KX8_blades l [.ref 0] I M (some (.int (nI (2 ^ n)))) I M := fun M => qX8_blades l hn hd M
    have out : ∀ M : LM, M 0 23 = L 0 23 → ∀ i, i ≤ 2 ^ n → (fsO (puP (frR I s) n g) i).isNone = false → V 5 [(0, .ref 0), (1, .int (nI s)), (2, .int (nI g)), (3, .int 0), (4, .int (nI i))] [] I M := by
      intro M hM0 i hi hf
      have hr : puB (frR I s) n g = false := fsO_st hf _ hi
      refine ru_go hV 2 [] rfl rfl trivial ?_
      refine ru_V hV [.int (nI i)] sVX8_58 (hbl _) rfl rfl rfl rfl rfl (Nat.le_of_ble_eq_true rfl) ?_
      by_cases e : i = 2 ^ n
      · subst e
        refine ru_fin hV 3 [(1, 0)] rfl rfl ⟨trivial, nI_le (Nat.le_refl _) (by omega)⟩ ?_
        exact ⟨by rw [hr]; rfl, rfl, hM0⟩
      · refine ru_fin hV 5 [(0, 0), (1, 0)] rfl rfl ⟨⟨trivial, nI_nge (show i < 2 ^ n by omega) (by omega)⟩, rfl⟩ ?_
        exact ⟨by rw [hr]; rfl, rfl, hM0⟩
    refine ru_go hV 4 [] rfl rfl trivial ?_
    refine loop0 (P := fun i => ∀ M : LM, M 0 23 = L 0 23 → (fsO (puP (frR I s) n g) i).isNone = true → V 5 [(0, .ref 0), (1, .int (nI s)), (2, .int (nI g)), (3, .int 1), (4, .int (nI i))] [] I M) (2 ^ n) (fun h => h L rfl rfl) (fun i hi ih M hM0 hM => ?_) (fun M hM0 hM => ?_)
    · have hi32 : i < 32 := by omega
      have hsu := fsO_su (puP (frR I s) n g) i
      rw [hM, Bool.true_and] at hsu
      by_cases h0 : pc5 i + 1 = g
      · have hpu : puP (frR I s) n g i = !(pwz (frR I s) i n) := by rw [puP, decide_eq_true h0, Bool.true_and]
        rw [hpu, Bool.not_not] at hsu
        refine ru_go hV 2 [] rfl rfl trivial ?_
        refine ru_V hV [.int (nI i)] sVX8_58 (hbl _) rfl rfl rfl rfl rfl (Nat.le_of_ble_eq_true rfl) ?_
        refine ru_go hV 6 [(0, 0), (0, 0), (0, 0)] rfl rfl ⟨⟨⟨trivial, nI_nge hi (by omega)⟩, (by decide)⟩, nI_nle0 (by omega) (by omega)⟩ ?_
        refine ru_S hV [] sSX8_62 (qX8_grade l hi32 _ _) rfl rfl rfl (Nat.le_of_ble_eq_true rfl) ?_
        refine ru_go hV 7 [(0, 0)] rfl rfl ⟨trivial, (fun e => e (by rw [show (1 : Int32) = nI 1 from rfl, nI_sub (by omega), show pc5 i = g - 1 by omega]))⟩ ?_
        refine ru_V hV [] sVX8_104 (qX8_laySlots l hs hs hn hd M) rfl rfl rfl rfl rfl (Nat.le_of_ble_eq_true rfl) ?_
        refine ru_go hV 2 [] rfl rfl trivial ?_
        have m6 : ∀ k, k < 2 ^ n → lsL M (fL (frR I s) n) (fL (frR I s) n) 32 6 k = (frR I s k).toInt64 := fun k hk => by rw [ls_6 (by omega), fL, if_pos hk]
        have m0 : lsL M (fL (frR I s) n) (fL (frR I s) n) 32 0 23 = L 0 23 := by rw [ls_o (by decide)]; exact hM0
        generalize lsL M (fL (frR I s) n) (fL (frR I s) n) 32 = M at m6 m0 ⊢
        refine loop0 (P := fun k => V 42 [(0, .ref 0), (1, .int (nI s)), (2, .int (nI g)), (3, .int 1), (4, .int (nI i)), (5, .int (nI k))] [] I (lay M 7 k (fun _ => 0))) 32 (fun h => by rw [lay_0] at h; exact h) (fun k hk ih2 => ?_) ?_
        · refine ru_go hV 10 [(0, 0), (7, 0), (k, 32)] rfl rfl ⟨⟨⟨trivial, nI32_ge hk⟩, (by first | exact rfl | assumption | exact ⟨rfl, rfl⟩ | exact ⟨rfl, rfl, by omega⟩ | exact ⟨by assumption, rfl, by omega⟩ | exact ⟨⟨_, rfl, rfl⟩, by decide, by decide, rfl, by omega⟩ | omega | decide)⟩, (by first | exact rfl | assumption | exact ⟨rfl, rfl⟩ | exact ⟨rfl, rfl, by omega⟩ | exact ⟨by assumption, rfl, by omega⟩ | exact ⟨⟨_, rfl, rfl⟩, by decide, by decide, rfl, by omega⟩ | omega | decide)⟩ ?_
          rw [nI_1, lay_up rfl]
          exact ih2
        · refine ru_go hV 5 [(1, 0)] rfl rfl ⟨trivial, (by first | exact rfl | assumption | exact ⟨rfl, rfl⟩ | exact ⟨rfl, rfl, by omega⟩ | exact ⟨by assumption, rfl, by omega⟩ | exact ⟨⟨_, rfl, rfl⟩, by decide, by decide, rfl, by omega⟩ | omega | decide)⟩ ?_
          refine loop0 (P := fun k => V 66 [(0, .ref 0), (1, .int (nI s)), (2, .int (nI g)), (3, .int 1), (4, .int (nI i)), (5, .int (nI k))] [] I (lay M 7 32 (fun j => (pvF (frR I s) i k j).toInt64))) n (fun h => h) (fun k hk ih2 => ?_) ?_
          · have hp := pow2_lt k (by omega)
            refine ru_go hV 15 [(1, 0), (0, 296), (0, 0), (7, 0)] rfl rfl ⟨⟨⟨⟨trivial, (by first | exact rfl | assumption | exact ⟨rfl, rfl⟩ | exact ⟨rfl, rfl, by omega⟩ | exact ⟨by assumption, rfl, by omega⟩ | exact ⟨⟨_, rfl, rfl⟩, by decide, by decide, rfl, by omega⟩ | omega | decide)⟩, (by first | exact rfl | assumption | exact ⟨rfl, rfl⟩ | exact ⟨rfl, rfl, by omega⟩ | exact ⟨by assumption, rfl, by omega⟩ | exact ⟨⟨_, rfl, rfl⟩, by decide, by decide, rfl, by omega⟩ | omega | decide)⟩, (by rw [hd]; exact nI_nge hk (by omega))⟩, (by first | exact rfl | assumption | exact ⟨rfl, rfl⟩ | exact ⟨rfl, rfl, by omega⟩ | exact ⟨by assumption, rfl, by omega⟩ | exact ⟨⟨_, rfl, rfl⟩, by decide, by decide, rfl, by omega⟩ | omega | decide)⟩ ?_
            rw [bl_sh k (by omega)]
            refine ru_V hV [.int (nI (2 ^ k)), .ref 7] sVX8_210 (qX8_vector l hs hi32 (k := k) (by omega) hm _) rfl rfl rfl rfl rfl (Nat.le_of_ble_eq_true rfl) ?_
            refine ru_go hV 3 [((2^k), 32)] rfl rfl ⟨trivial, (by first | exact rfl | assumption | exact ⟨rfl, rfl⟩ | exact ⟨rfl, rfl, by omega⟩ | exact ⟨by assumption, rfl, by omega⟩ | exact ⟨⟨_, rfl, rfl⟩, by decide, by decide, rfl, by omega⟩ | omega | decide)⟩ ?_
            rw [nI_1, lay_mu hp]
            refine Eq.mp ?_ ih2
            congr 1
            refine lay_cong (fun j hj => ?_)
            show (if j = 2 ^ k then _ else pvF (frR I s) i k j).toInt64 = _
            split <;> rfl
          · have n6 : lay M 7 32 (fun j => (pvF (frR I s) i n j).toInt64) 6 = M 6 := lay_ne (by decide)
            have n7 : ∀ j, j < 32 → lay M 7 32 (fun j => (pvF (frR I s) i n j).toInt64) 7 j = (pvF (frR I s) i n j).toInt64 := fun j hj => lay_in hj
            have n0 : lay M 7 32 (fun j => (pvF (frR I s) i n j).toInt64) 0 23 = L 0 23 := by rw [lay_ne (by decide)]; exact m0
            generalize lay M 7 32 (fun j => (pvF (frR I s) i n j).toInt64) = M at n6 n7 n0 ⊢
            have l0 : lay M 8 (2 ^ n) (wR (M 6) (M 7) (2 ^ n)) 0 23 = L 0 23 := by rw [lay_ne (by decide)]; exact n0
            have hw := qX8_isResultEmpty l hn hd (lay M 8 (2 ^ n) (wR (M 6) (M 7) (2 ^ n)))
            rw [show alz (lay M 8 (2 ^ n) (wR (M 6) (M 7) (2 ^ n)) 8) (2 ^ n) = pwz (frR I s) i n from alz_cong (fun k hk => by
              rw [lay_in hk]
              exact wR_wC hn hk (fun j hj => by rw [n6]; exact m6 j hj) (fun j hj => n7 j (by omega)))] at hw
            refine ru_go hV 7 [(1, 0), (0, 296), (1, 0)] rfl rfl ⟨⟨⟨trivial, (by first | exact rfl | assumption | exact ⟨rfl, rfl⟩ | exact ⟨rfl, rfl, by omega⟩ | exact ⟨by assumption, rfl, by omega⟩ | exact ⟨⟨_, rfl, rfl⟩, by decide, by decide, rfl, by omega⟩ | omega | decide)⟩, (by first | exact rfl | assumption | exact ⟨rfl, rfl⟩ | exact ⟨rfl, rfl, by omega⟩ | exact ⟨by assumption, rfl, by omega⟩ | exact ⟨⟨_, rfl, rfl⟩, by decide, by decide, rfl, by omega⟩ | omega | decide)⟩, (by rw [hd]; exact nI_le (Nat.le_refl n) (by omega))⟩ ?_
            refine ru_V hV [] sVX8_108 (qX8_layWedge l hn hd M) rfl rfl rfl rfl rfl (Nat.le_of_ble_eq_true rfl) ?_
            refine ru_go hV 1 [] rfl rfl trivial ?_
            refine ru_V hV [] sVX8_214 hw rfl rfl rfl rfl rfl (Nat.le_of_ble_eq_true rfl) ?_
            refine ru_go hV 3 [] rfl rfl trivial ?_
            rw [nI_1]
            refine ru_sub hV [0, 1, 2, 3, 4] rfl ?_
            cases hz : pwz (frR I s) i n with
            | true => rw [hz] at hsu; exact ih _ l0 hsu
            | false => rw [hz] at hsu; exact out _ l0 (i + 1) (by omega) hsu
      · have hpu : puP (frR I s) n g i = false := by rw [puP, decide_eq_false h0]; rfl
        rw [hpu] at hsu
        by_cases hg0 : g = 0
        · refine ru_go hV 2 [] rfl rfl trivial ?_
          refine ru_V hV [.int (nI i)] sVX8_58 (hbl _) rfl rfl rfl rfl rfl (Nat.le_of_ble_eq_true rfl) ?_
          refine ru_go hV 7 [(0, 0), (0, 0), (1, 0)] rfl rfl ⟨⟨⟨trivial, nI_nge hi (by omega)⟩, (by decide)⟩, (by rw [hg0]; decide)⟩ ?_
          rw [nI_1]
          exact ih _ hM0 hsu
        · have hp5 := pc5_le i
          refine ru_go hV 2 [] rfl rfl trivial ?_
          refine ru_V hV [.int (nI i)] sVX8_58 (hbl _) rfl rfl rfl rfl rfl (Nat.le_of_ble_eq_true rfl) ?_
          refine ru_go hV 6 [(0, 0), (0, 0), (0, 0)] rfl rfl ⟨⟨⟨trivial, nI_nge hi (by omega)⟩, (by decide)⟩, nI_nle0 (by omega) (by omega)⟩ ?_
          refine ru_S hV [] sSX8_62 (qX8_grade l hi32 _ _) rfl rfl rfl (Nat.le_of_ble_eq_true rfl) ?_
          refine ru_go hV 6 [(1, 0)] rfl rfl ⟨trivial, (fun e => h0 (by rw [show (1 : Int32) = nI 1 from rfl, nI_sub (by omega)] at e; have := nI_inj (by omega) (by omega) e; omega))⟩ ?_
          rw [nI_1]
          exact ih _ hM0 hsu
    · have hr : puB (frR I s) n g = true := hM
      refine ru_go hV 2 [] rfl rfl trivial ?_
      refine ru_V hV [.int (nI (2 ^ n))] sVX8_58 (hbl _) rfl rfl rfl rfl rfl (Nat.le_of_ble_eq_true rfl) ?_
      refine ru_fin hV 3 [(1, 0)] rfl rfl ⟨trivial, nI_le (Nat.le_refl _) (by omega)⟩ ?_
      exact ⟨by rw [hr]; rfl, rfl, hM0⟩
  obtain ⟨I2, L2, ⟨rfl, h0⟩, h⟩ := ex
  exact ⟨L2, h0, h⟩
