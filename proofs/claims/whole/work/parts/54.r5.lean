/-! the reference: products -/
theorem bnot_0 : ∀ i, i < 32 → ∀ k, k < 32 → (nI i &&& (nI k ^^^ (-1)) = 0 ↔ i &&& k = i) := by decide +kernel
theorem bnot_x : ∀ i, i < 32 → ∀ k, k < 32 → i &&& k = i → nI k &&& (nI i ^^^ (-1)) = nI (k ^^^ i) := by decide +kernel
theorem bnot_2 : ∀ r, r < 5 → ∀ k, k < 32 → k.testBit r = true → nI k &&& ((1 : Int32) <<< (nI r &&& 31) ^^^ (-1)) = nI (k ^^^ 2 ^ r) := by decide +kernel
/-- two forms laid out, and a result of 0 -/
def lsL (L : LM) (f g : Nat → Int64) (k : Nat) : LM := fun a j => if 6 ≤ a ∧ a ≤ 8 ∧ j < k then (if a = 6 then f j else if a = 7 then g j else 0) else L a j
theorem ls_0 {L : LM} {f g : Nat → Int64} : lsL L f g 0 = L := by
  funext a j
  simp only [lsL]
  rw [if_neg (by omega)]
theorem ls_6 {L : LM} {f g : Nat → Int64} {k j : Nat} (h : j < k) : lsL L f g k 6 j = f j := by simp [lsL, h]
theorem ls_7 {L : LM} {f g : Nat → Int64} {k j : Nat} (h : j < k) : lsL L f g k 7 j = g j := by simp [lsL, h]
theorem ls_8 {L : LM} {f g : Nat → Int64} {k j : Nat} (h : j < k) : lsL L f g k 8 j = 0 := by simp [lsL, h]
theorem ls_up {L : LM} {f g : Nat → Int64} {k : Nat} {x y : Int64} (hx : x = f k) (hy : y = g k) : mu (mu (mu (lsL L f g k) 6 k x) 7 k y) 8 k 0 = lsL L f g (k + 1) := by
  funext a j
  simp only [mu, lsL]
  by_cases ha : a = 8 ∧ j = k
  · obtain ⟨rfl, rfl⟩ := ha
    simp
  · rw [if_neg ha]
    by_cases hb : a = 7 ∧ j = k
    · obtain ⟨rfl, rfl⟩ := hb
      simp [hy]
    · rw [if_neg hb]
      by_cases hc : a = 6 ∧ j = k
      · obtain ⟨rfl, rfl⟩ := hc
        simp [hx]
      · rw [if_neg hc]
        by_cases hd : 6 ≤ a ∧ a ≤ 8 ∧ j < k
        · rw [if_pos hd, if_pos (show 6 ≤ a ∧ a ≤ 8 ∧ j < k + 1 by omega)]
        · rw [if_neg hd, if_neg (show ¬ (6 ≤ a ∧ a ≤ 8 ∧ j < k + 1) by omega)]
/-- a form, laid out -/
def fL (f : Nat → Int32) (n : Nat) (k : Nat) : Int64 := if k < 2 ^ n then (f k).toInt64 else 0
theorem qX8_laySlots (l : Launch) {a b n : Nat} (ha : a < 8) (hb : b < 8) (hn : n ≤ 5) {I : IM} (hd : I 1 0 = nI n) (L : LM) : KX8_laySlots l [.ref 0, .int (nI a), .int (nI b)] I L none I (lsL L (fL (frR I a) n) (fL (frR I b) n) 32) := by
  obtain ⟨hB, -⟩ := pow_le32 n hn
  have hbl : ∀ M : LM, KX8_blades l [.ref 0] I M (some (.int (nI (2 ^ n)))) I M := fun M => qX8_blades l hn hd M
  unfold fL
  generalize 2 ^ n = B at hB hbl ⊢
  refine wX8_laySlots l rfl (hz0 (by decide)) (fun V hV => ?_)
  refine ru_go hV 2 [] rfl rfl trivial ?_
  refine loop0 (P := fun k => V 2 [(0, .ref 0), (1, .int (nI a)), (2, .int (nI b)), (3, .int (nI k))] [] I (lsL L (fun k => if k < B then (frR I a k).toInt64 else 0) (fun k => if k < B then (frR I b k).toInt64 else 0) k)) 32 (fun h => by rw [ls_0] at h; exact h) (fun k hk ih => ?_) ?_
  · have hup := fun x y => ls_up (L := L) (f := fun k => if k < B then (frR I a k).toInt64 else 0) (g := fun k => if k < B then (frR I b k).toInt64 else 0) (k := k) (x := x) (y := y)
    generalize lsL L (fun k => if k < B then (frR I a k).toInt64 else 0) (fun k => if k < B then (frR I b k).toInt64 else 0) k = M at hup ⊢
    by_cases h : k < B
    · refine ru_go hV 8 [(0, 0), (6, 0)] rfl rfl ⟨⟨trivial, nI32_ge hk⟩, (by first | exact rfl | assumption | exact ⟨rfl, rfl⟩ | exact ⟨rfl, rfl, by omega⟩ | exact ⟨by assumption, rfl, by omega⟩ | exact ⟨⟨_, rfl, rfl⟩, by decide, by decide, rfl, by omega⟩ | omega | decide)⟩ ?_
      refine ru_V hV [.int (nI k), .int (nI k), .ref 6] sVX8_58 (hbl _) rfl rfl rfl rfl rfl (Nat.le_of_ble_eq_true rfl) ?_
      refine ru_go hV 4 [(0, 0)] rfl rfl ⟨trivial, nI_nge h (by omega)⟩ ?_
      refine ru_V hV [.int (nI k), .ref 6] sVX8_88 (qX8_at l ha hk I _) rfl rfl rfl rfl rfl (Nat.le_of_ble_eq_true rfl) ?_
      refine ru_go hV 8 [(k, 32), (7, 0)] rfl rfl ⟨⟨trivial, (by first | exact rfl | assumption | exact ⟨rfl, rfl⟩ | exact ⟨rfl, rfl, by omega⟩ | exact ⟨by assumption, rfl, by omega⟩ | exact ⟨⟨_, rfl, rfl⟩, by decide, by decide, rfl, by omega⟩ | omega | decide)⟩, (by first | exact rfl | assumption | exact ⟨rfl, rfl⟩ | exact ⟨rfl, rfl, by omega⟩ | exact ⟨by assumption, rfl, by omega⟩ | exact ⟨⟨_, rfl, rfl⟩, by decide, by decide, rfl, by omega⟩ | omega | decide)⟩ ?_
      refine ru_V hV [.int (nI k), .int (nI k), .ref 7] sVX8_58 (hbl _) rfl rfl rfl rfl rfl (Nat.le_of_ble_eq_true rfl) ?_
      refine ru_go hV 4 [(0, 0)] rfl rfl ⟨trivial, nI_nge h (by omega)⟩ ?_
      refine ru_V hV [.int (nI k), .ref 7] sVX8_88 (qX8_at l hb hk I _) rfl rfl rfl rfl rfl (Nat.le_of_ble_eq_true rfl) ?_
      refine ru_go hV 10 [(k, 32), (8, 0), (k, 32)] rfl rfl ⟨⟨⟨trivial, (by first | exact rfl | assumption | exact ⟨rfl, rfl⟩ | exact ⟨rfl, rfl, by omega⟩ | exact ⟨by assumption, rfl, by omega⟩ | exact ⟨⟨_, rfl, rfl⟩, by decide, by decide, rfl, by omega⟩ | omega | decide)⟩, (by first | exact rfl | assumption | exact ⟨rfl, rfl⟩ | exact ⟨rfl, rfl, by omega⟩ | exact ⟨by assumption, rfl, by omega⟩ | exact ⟨⟨_, rfl, rfl⟩, by decide, by decide, rfl, by omega⟩ | omega | decide)⟩, (by first | exact rfl | assumption | exact ⟨rfl, rfl⟩ | exact ⟨rfl, rfl, by omega⟩ | exact ⟨by assumption, rfl, by omega⟩ | exact ⟨⟨_, rfl, rfl⟩, by decide, by decide, rfl, by omega⟩ | omega | decide)⟩ ?_
      rw [nI_1, hup _ _ (by rw [if_pos h]) (by rw [if_pos h])]
      exact ih
    · refine ru_go hV 8 [(0, 0), (6, 0)] rfl rfl ⟨⟨trivial, nI32_ge hk⟩, (by first | exact rfl | assumption | exact ⟨rfl, rfl⟩ | exact ⟨rfl, rfl, by omega⟩ | exact ⟨by assumption, rfl, by omega⟩ | exact ⟨⟨_, rfl, rfl⟩, by decide, by decide, rfl, by omega⟩ | omega | decide)⟩ ?_
      refine ru_V hV [.int (nI k), .int (nI k), .ref 6] sVX8_58 (hbl _) rfl rfl rfl rfl rfl (Nat.le_of_ble_eq_true rfl) ?_
      refine ru_go hV 8 [(1, 0), (k, 32), (7, 0)] rfl rfl ⟨⟨⟨trivial, nI_le (by omega) (by omega)⟩, (by first | exact rfl | assumption | exact ⟨rfl, rfl⟩ | exact ⟨rfl, rfl, by omega⟩ | exact ⟨by assumption, rfl, by omega⟩ | exact ⟨⟨_, rfl, rfl⟩, by decide, by decide, rfl, by omega⟩ | omega | decide)⟩, (by first | exact rfl | assumption | exact ⟨rfl, rfl⟩ | exact ⟨rfl, rfl, by omega⟩ | exact ⟨by assumption, rfl, by omega⟩ | exact ⟨⟨_, rfl, rfl⟩, by decide, by decide, rfl, by omega⟩ | omega | decide)⟩ ?_
      refine ru_V hV [.int (nI k), .int (nI k), .ref 7] sVX8_58 (hbl _) rfl rfl rfl rfl rfl (Nat.le_of_ble_eq_true rfl) ?_
      refine ru_go hV 10 [(1, 0), (k, 32), (8, 0), (k, 32)] rfl rfl ⟨⟨⟨⟨trivial, nI_le (by omega) (by omega)⟩, (by first | exact rfl | assumption | exact ⟨rfl, rfl⟩ | exact ⟨rfl, rfl, by omega⟩ | exact ⟨by assumption, rfl, by omega⟩ | exact ⟨⟨_, rfl, rfl⟩, by decide, by decide, rfl, by omega⟩ | omega | decide)⟩, (by first | exact rfl | assumption | exact ⟨rfl, rfl⟩ | exact ⟨rfl, rfl, by omega⟩ | exact ⟨by assumption, rfl, by omega⟩ | exact ⟨⟨_, rfl, rfl⟩, by decide, by decide, rfl, by omega⟩ | omega | decide)⟩, (by first | exact rfl | assumption | exact ⟨rfl, rfl⟩ | exact ⟨rfl, rfl, by omega⟩ | exact ⟨by assumption, rfl, by omega⟩ | exact ⟨⟨_, rfl, rfl⟩, by decide, by decide, rfl, by omega⟩ | omega | decide)⟩ ?_
      rw [nI_1, hup _ _ (by rw [if_neg h]) (by rw [if_neg h])]
      exact ih
  · refine ru_fin hV 4 [(1, 0)] rfl rfl ⟨trivial, (by first | exact rfl | assumption | exact ⟨rfl, rfl⟩ | exact ⟨rfl, rfl, by omega⟩ | exact ⟨by assumption, rfl, by omega⟩ | exact ⟨⟨_, rfl, rfl⟩, by decide, by decide, rfl, by omega⟩ | omega | decide)⟩ ?_
    exact ⟨rfl, rfl, rfl⟩
def wRi (f g : Nat → Int64) (k i : Nat) : Int64 := if i &&& k = i then sg (odT i (k ^^^ i)) (f i * g (k ^^^ i)) else 0
def wR (f g : Nat → Int64) (B k : Nat) : Int64 := sumL (wRi f g k) B
theorem qX8_layWedge (l : Launch) {n : Nat} (hn : n ≤ 5) {I : IM} (hd : I 1 0 = nI n) (L : LM) : KX8_layWedge l [.ref 0] I L none I (lay L 8 (2 ^ n) (wR (L 6) (L 7) (2 ^ n))) := by
  obtain ⟨hB, -⟩ := pow_le32 n hn
  have hbl : ∀ M : LM, KX8_blades l [.ref 0] I M (some (.int (nI (2 ^ n)))) I M := fun M => qX8_blades l hn hd M
  generalize 2 ^ n = B at hB hbl ⊢
  refine wX8_layWedge l rfl (hz0 (by decide)) (fun V hV => ?_)
  refine ru_go hV 2 [] rfl rfl trivial ?_
  refine loop0 (P := fun k => V 2 [(0, .ref 0), (1, .int (nI k))] [] I (lay L 8 k (wR (L 6) (L 7) B))) B (fun h => by rw [lay_0] at h; exact h) (fun k hk ih => ?_) ?_
  · have e6 : lay L 8 k (wR (L 6) (L 7) B) 6 = L 6 := lay_ne (by decide)
    have e7 : lay L 8 k (wR (L 6) (L 7) B) 7 = L 7 := lay_ne (by decide)
    have hup := lay_succ (I := L) (c := 8) (n := k) (f := wR (L 6) (L 7) B)
    generalize lay L 8 k (wR (L 6) (L 7) B) = M at e6 e7 hup ⊢
    have hk32 : k < 32 := by omega
    refine ru_go hV 2 [] rfl rfl trivial ?_
    refine ru_V hV [.int (nI k)] sVX8_58 (hbl _) rfl rfl rfl rfl rfl (Nat.le_of_ble_eq_true rfl) ?_
    refine ru_go hV 5 [(0, 0)] rfl rfl ⟨trivial, nI_nge hk (by omega)⟩ ?_
    refine loop0 (P := fun i => V 15 [(0, .ref 0), (1, .int (nI k)), (2, .long (sumL (wRi (L 6) (L 7) k) i)), (4, .int (nI i))] [] I M) B (fun h => h) (fun i hi ih2 => ?_) ?_
    · have hi32 : i < 32 := by omega
      refine ru_go hV 2 [] rfl rfl trivial ?_
      refine ru_V hV [.int (nI i)] sVX8_58 (hbl _) rfl rfl rfl rfl rfl (Nat.le_of_ble_eq_true rfl) ?_
      by_cases h : i &&& k = i
      · have hx := xor_lt k hk32 i hi32
        have ex := bnot_x i hi32 k hk32 h
        refine ru_go hV 27 [(0, 0), (0, 0), (6, 0), (i, 32), (7, 0), ((k^^^i), 32)] rfl rfl ⟨⟨⟨⟨⟨⟨trivial, nI_nge hi (by omega)⟩, (fun e => e ((bnot_0 i hi32 k hk32).mpr h))⟩, (by first | exact rfl | assumption | exact ⟨rfl, rfl⟩ | exact ⟨rfl, rfl, by omega⟩ | exact ⟨by assumption, rfl, by omega⟩ | exact ⟨⟨_, rfl, rfl⟩, by decide, by decide, rfl, by omega⟩ | omega | decide)⟩, (by first | exact rfl | assumption | exact ⟨rfl, rfl⟩ | exact ⟨rfl, rfl, by omega⟩ | exact ⟨by assumption, rfl, by omega⟩ | exact ⟨⟨_, rfl, rfl⟩, by decide, by decide, rfl, by omega⟩ | omega | decide)⟩, (by first | exact rfl | assumption | exact ⟨rfl, rfl⟩ | exact ⟨rfl, rfl, by omega⟩ | exact ⟨by assumption, rfl, by omega⟩ | exact ⟨⟨_, rfl, rfl⟩, by decide, by decide, rfl, by omega⟩ | omega | decide)⟩, ⟨rfl, ex, hx⟩⟩ ?_
        rw [ex]
        refine ru_S hV [.long _, .long _] sSX8_91 (qX8_way l hi32 hx I _) rfl rfl rfl (Nat.le_of_ble_eq_true rfl) ?_
        refine ru_go hV 6 [] rfl rfl trivial ?_
        rw [nI_1, wy_sg, e6, e7]
        rw [show sumL (wRi (L 6) (L 7) k) (i + 1) = sumL (wRi (L 6) (L 7) k) i + sg (odT i (k ^^^ i)) (L 6 i * L 7 (k ^^^ i)) by rw [sumL, wRi, if_pos h]] at ih2
        exact ih2
      · refine ru_go hV 9 [(0, 0), (1, 0)] rfl rfl ⟨⟨trivial, nI_nge hi (by omega)⟩, (fun e => h ((bnot_0 i hi32 k hk32).mp e))⟩ ?_
        rw [nI_1]
        rw [show sumL (wRi (L 6) (L 7) k) (i + 1) = sumL (wRi (L 6) (L 7) k) i by rw [sumL, wRi, if_neg h, Int64.add_zero]] at ih2
        exact ih2
    · refine ru_go hV 2 [] rfl rfl trivial ?_
      refine ru_V hV [.int (nI B)] sVX8_58 (hbl _) rfl rfl rfl rfl rfl (Nat.le_of_ble_eq_true rfl) ?_
      refine ru_go hV 8 [(1, 0), (8, 0), (k, 32)] rfl rfl ⟨⟨⟨trivial, nI_le (Nat.le_refl B) (by omega)⟩, (by first | exact rfl | assumption | exact ⟨rfl, rfl⟩ | exact ⟨rfl, rfl, by omega⟩ | exact ⟨by assumption, rfl, by omega⟩ | exact ⟨⟨_, rfl, rfl⟩, by decide, by decide, rfl, by omega⟩ | omega | decide)⟩, (by first | exact rfl | assumption | exact ⟨rfl, rfl⟩ | exact ⟨rfl, rfl, by omega⟩ | exact ⟨by assumption, rfl, by omega⟩ | exact ⟨⟨_, rfl, rfl⟩, by decide, by decide, rfl, by omega⟩ | omega | decide)⟩ ?_
      rw [nI_1]
      refine ru_sub hV [0, 1] rfl ?_
      rw [← hup] at ih
      exact ih
  · refine ru_go hV 2 [] rfl rfl trivial ?_
    refine ru_V hV [.int (nI B)] sVX8_58 (hbl _) rfl rfl rfl rfl rfl (Nat.le_of_ble_eq_true rfl) ?_
    refine ru_fin hV 2 [(1, 0)] rfl rfl ⟨trivial, nI_le (Nat.le_refl B) (by omega)⟩ ?_
    exact ⟨rfl, rfl, rfl⟩
def cRi (s : Nat → Int32) (f g : Nat → Int64) (j i : Nat) : Int64 := if i &&& j = 0 then sg (odT i j) (f i * g (i ||| j) * (sgn s i).toInt64) else 0
def cR (s : Nat → Int32) (f g : Nat → Int64) (B j : Nat) : Int64 := sumL (cRi s f g j) B
theorem qX8_layContraction (l : Launch) {n : Nat} (hn : n ≤ 5) {I : IM} (hd : I 1 0 = nI n) (L : LM) : KX8_layContraction l [.ref 0] I L none I (lay L 8 (2 ^ n) (cR (sgR I) (L 6) (L 7) (2 ^ n))) := by
  obtain ⟨hB, -⟩ := pow_le32 n hn
  have hbl : ∀ M : LM, KX8_blades l [.ref 0] I M (some (.int (nI (2 ^ n)))) I M := fun M => qX8_blades l hn hd M
  have hsi : ∀ M : LM, ∀ i, i < 2 ^ n → KX8_signOf l [.ref 0, .int (nI i)] I M (some (.int (sgn (sgR I) i))) I M := fun M i hi => by
    have := qX8_signOf l (b := i) (by omega) hn hd M
    rw [sgB_up hn hi] at this
    exact this
  generalize 2 ^ n = B at hB hbl hsi ⊢
  refine wX8_layContraction l rfl (hz0 (by decide)) (fun V hV => ?_)
  refine ru_go hV 2 [] rfl rfl trivial ?_
  refine loop0 (P := fun k => V 2 [(0, .ref 0), (1, .int (nI k))] [] I (lay L 8 k (cR (sgR I) (L 6) (L 7) B))) B (fun h => by rw [lay_0] at h; exact h) (fun k hk ih => ?_) ?_
  · have e6 : lay L 8 k (cR (sgR I) (L 6) (L 7) B) 6 = L 6 := lay_ne (by decide)
    have e7 : lay L 8 k (cR (sgR I) (L 6) (L 7) B) 7 = L 7 := lay_ne (by decide)
    have hup := lay_succ (I := L) (c := 8) (n := k) (f := cR (sgR I) (L 6) (L 7) B)
    generalize lay L 8 k (cR (sgR I) (L 6) (L 7) B) = M at e6 e7 hup ⊢
    have hk32 : k < 32 := by omega
    refine ru_go hV 2 [] rfl rfl trivial ?_
    refine ru_V hV [.int (nI k)] sVX8_58 (hbl _) rfl rfl rfl rfl rfl (Nat.le_of_ble_eq_true rfl) ?_
    refine ru_go hV 5 [(0, 0)] rfl rfl ⟨trivial, nI_nge hk (by omega)⟩ ?_
    refine loop0 (P := fun i => V 15 [(0, .ref 0), (1, .int (nI k)), (2, .long (sumL (cRi (sgR I) (L 6) (L 7) k) i)), (4, .int (nI i))] [] I M) B (fun h => h) (fun i hi ih2 => ?_) ?_
    · have hi32 : i < 32 := by omega
      refine ru_go hV 2 [] rfl rfl trivial ?_
      refine ru_V hV [.int (nI i)] sVX8_58 (hbl _) rfl rfl rfl rfl rfl (Nat.le_of_ble_eq_true rfl) ?_
      by_cases h : i &&& k = 0
      · have hx := or_lt i hi32 k hk32
        refine ru_go hV 19 [(0, 0), (0, 0), (6, 0), (i, 32), (7, 0), ((i|||k), 32)] rfl rfl ⟨⟨⟨⟨⟨⟨trivial, nI_nge hi (by omega)⟩, (fun e => e ((andI0 hi32 hk32).mpr h))⟩, (by first | exact rfl | assumption | exact ⟨rfl, rfl⟩ | exact ⟨rfl, rfl, by omega⟩ | exact ⟨by assumption, rfl, by omega⟩ | exact ⟨⟨_, rfl, rfl⟩, by decide, by decide, rfl, by omega⟩ | omega | decide)⟩, (by first | exact rfl | assumption | exact ⟨rfl, rfl⟩ | exact ⟨rfl, rfl, by omega⟩ | exact ⟨by assumption, rfl, by omega⟩ | exact ⟨⟨_, rfl, rfl⟩, by decide, by decide, rfl, by omega⟩ | omega | decide)⟩, (by first | exact rfl | assumption | exact ⟨rfl, rfl⟩ | exact ⟨rfl, rfl, by omega⟩ | exact ⟨by assumption, rfl, by omega⟩ | exact ⟨⟨_, rfl, rfl⟩, by decide, by decide, rfl, by omega⟩ | omega | decide)⟩, ⟨rfl, orI i hi32 k hk32, hx⟩⟩ ?_
        refine ru_V hV [.long _, .long _] sVX8_94 (hsi _ i hi) rfl rfl rfl rfl rfl (Nat.le_of_ble_eq_true rfl) ?_
        refine ru_go hV 4 [] rfl rfl trivial ?_
        refine ru_S hV [.long _, .long _] sSX8_91 (qX8_way l hi32 hk32 I _) rfl rfl rfl (Nat.le_of_ble_eq_true rfl) ?_
        refine ru_go hV 6 [] rfl rfl trivial ?_
        rw [nI_1, wy_sg, e6, e7]
        rw [show sumL (cRi (sgR I) (L 6) (L 7) k) (i + 1) = sumL (cRi (sgR I) (L 6) (L 7) k) i + sg (odT i k) (L 6 i * L 7 (i ||| k) * (sgn (sgR I) i).toInt64) by rw [sumL, cRi, if_pos h]] at ih2
        exact ih2
      · refine ru_go hV 7 [(0, 0), (1, 0)] rfl rfl ⟨⟨trivial, nI_nge hi (by omega)⟩, (fun e => h ((andI0 hi32 hk32).mp e))⟩ ?_
        rw [nI_1]
        rw [show sumL (cRi (sgR I) (L 6) (L 7) k) (i + 1) = sumL (cRi (sgR I) (L 6) (L 7) k) i by rw [sumL, cRi, if_neg h, Int64.add_zero]] at ih2
        exact ih2
    · refine ru_go hV 2 [] rfl rfl trivial ?_
      refine ru_V hV [.int (nI B)] sVX8_58 (hbl _) rfl rfl rfl rfl rfl (Nat.le_of_ble_eq_true rfl) ?_
      refine ru_go hV 8 [(1, 0), (8, 0), (k, 32)] rfl rfl ⟨⟨⟨trivial, nI_le (Nat.le_refl B) (by omega)⟩, (by first | exact rfl | assumption | exact ⟨rfl, rfl⟩ | exact ⟨rfl, rfl, by omega⟩ | exact ⟨by assumption, rfl, by omega⟩ | exact ⟨⟨_, rfl, rfl⟩, by decide, by decide, rfl, by omega⟩ | omega | decide)⟩, (by first | exact rfl | assumption | exact ⟨rfl, rfl⟩ | exact ⟨rfl, rfl, by omega⟩ | exact ⟨by assumption, rfl, by omega⟩ | exact ⟨⟨_, rfl, rfl⟩, by decide, by decide, rfl, by omega⟩ | omega | decide)⟩ ?_
      rw [nI_1]
      refine ru_sub hV [0, 1] rfl ?_
      rw [← hup] at ih
      exact ih
  · refine ru_go hV 2 [] rfl rfl trivial ?_
    refine ru_V hV [.int (nI B)] sVX8_58 (hbl _) rfl rfl rfl rfl rfl (Nat.le_of_ble_eq_true rfl) ?_
    refine ru_fin hV 2 [(1, 0)] rfl rfl ⟨trivial, nI_le (Nat.le_refl B) (by omega)⟩ ?_
    exact ⟨rfl, rfl, rfl⟩
/-- the reference's matrix -/
def mxR (I : IM) : Nat → Nat → Int32 := fun r c => I 1 (6 + 5 * r + c)
theorem qX8_growBy (l : Launch) {n c : Nat} (hn : n ≤ 5) (hc : c < 5) {I : IM} (hd : I 1 0 = nI n) (L : LM) : KX8_growBy l [.ref 0, .int (nI c)] I L none I (lay (lay L 7 (2 ^ n) (wcs (mxR I) n c (L 9))) 9 (2 ^ n) (wcs (mxR I) n c (L 9))) := by
  obtain ⟨hB, -⟩ := pow_le32 n hn
  have hbl : ∀ M : LM, KX8_blades l [.ref 0] I M (some (.int (nI (2 ^ n)))) I M := fun M => qX8_blades l hn hd M
  generalize 2 ^ n = B at hB hbl ⊢
  refine wX8_growBy l rfl (hz0 (by decide)) (fun V hV => ?_)
  refine ru_go hV 2 [] rfl rfl trivial ?_
  refine loop0 (P := fun k => V 2 [(0, .ref 0), (1, .int (nI c)), (2, .int (nI k))] [] I (lay L 7 k (wcs (mxR I) n c (L 9)))) B (fun h => by rw [lay_0] at h; exact h) (fun k hk ih => ?_) ?_
  · have e9 : lay L 7 k (wcs (mxR I) n c (L 9)) 9 = L 9 := lay_ne (by decide)
    have hup := lay_succ (I := L) (c := 7) (n := k) (f := wcs (mxR I) n c (L 9))
    generalize lay L 7 k (wcs (mxR I) n c (L 9)) = M at e9 hup ⊢
    have hk32 : k < 32 := by omega
    refine ru_go hV 2 [] rfl rfl trivial ?_
    refine ru_V hV [.int (nI k)] sVX8_58 (hbl _) rfl rfl rfl rfl rfl (Nat.le_of_ble_eq_true rfl) ?_
    refine ru_go hV 5 [(0, 0)] rfl rfl ⟨trivial, nI_nge hk (by omega)⟩ ?_
    refine loop0 (P := fun r => V 15 [(0, .ref 0), (1, .int (nI c)), (2, .int (nI k)), (3, .long (wcs (mxR I) r c (L 9) k)), (5, .int (nI r))] [] I M) n (fun h => h) (fun r hr ih2 => ?_) ?_
    · have hr5 : r < 5 := by omega
      have hp := pow2_lt r hr5
      have esh := bl_sh r (by omega)
      by_cases h : k.testBit r = true
      · have hx := xor_lt k hk32 (2 ^ r) hp
        have ex := bnot_2 r hr5 k hk32 h
        refine ru_go hV 21 [(1, 0), (0, 296), (0, 0), (0, 0)] rfl rfl ⟨⟨⟨⟨trivial, (by first | exact rfl | assumption | exact ⟨rfl, rfl⟩ | exact ⟨rfl, rfl, by omega⟩ | exact ⟨by assumption, rfl, by omega⟩ | exact ⟨⟨_, rfl, rfl⟩, by decide, by decide, rfl, by omega⟩ | omega | decide)⟩, (by first | exact rfl | assumption | exact ⟨rfl, rfl⟩ | exact ⟨rfl, rfl, by omega⟩ | exact ⟨by assumption, rfl, by omega⟩ | exact ⟨⟨_, rfl, rfl⟩, by decide, by decide, rfl, by omega⟩ | omega | decide)⟩, (by rw [hd]; exact nI_nge hr (by omega))⟩, (fun e => e (by rw [bt_01 k hk32 r hr5, if_pos h]))⟩ ?_
        rw [ex]
        refine ru_go hV 21 [(9, 0), ((k^^^2^r), 32), (1, 0), ((6+5*r+c), 296)] rfl rfl ⟨⟨⟨⟨trivial, (by first | exact rfl | assumption | exact ⟨rfl, rfl⟩ | exact ⟨rfl, rfl, by omega⟩ | exact ⟨by assumption, rfl, by omega⟩ | exact ⟨⟨_, rfl, rfl⟩, by decide, by decide, rfl, by omega⟩ | omega | decide)⟩, (by first | exact rfl | assumption | exact ⟨rfl, rfl⟩ | exact ⟨rfl, rfl, by omega⟩ | exact ⟨by assumption, rfl, by omega⟩ | exact ⟨⟨_, rfl, rfl⟩, by decide, by decide, rfl, by omega⟩ | omega | decide)⟩, (by first | exact rfl | assumption | exact ⟨rfl, rfl⟩ | exact ⟨rfl, rfl, by omega⟩ | exact ⟨by assumption, rfl, by omega⟩ | exact ⟨⟨_, rfl, rfl⟩, by decide, by decide, rfl, by omega⟩ | omega | decide)⟩, ⟨rfl, ix_mx r c, by omega⟩⟩ ?_
        rw [esh]
        refine ru_S hV [.long _, .long _] sSX8_91 (qX8_way l hx hp I _) rfl rfl rfl (Nat.le_of_ble_eq_true rfl) ?_
        refine ru_go hV 6 [] rfl rfl trivial ?_
        rw [nI_1, wy_sg, e9]
        refine ru_sub hV [0, 1, 2, 3, 4] rfl ?_
        rw [show wcs (mxR I) (r + 1) c (L 9) k = wcs (mxR I) r c (L 9) k + sg (odT (k ^^^ 2 ^ r) (2 ^ r)) (L 9 (k ^^^ 2 ^ r) * (I 1 (6 + 5 * r + c)).toInt64) by simp only [wcs, sumL, h, if_true, mxR]] at ih2
        exact ih2
      · refine ru_go hV 15 [(1, 0), (0, 296), (0, 0), (1, 0)] rfl rfl ⟨⟨⟨⟨trivial, (by first | exact rfl | assumption | exact ⟨rfl, rfl⟩ | exact ⟨rfl, rfl, by omega⟩ | exact ⟨by assumption, rfl, by omega⟩ | exact ⟨⟨_, rfl, rfl⟩, by decide, by decide, rfl, by omega⟩ | omega | decide)⟩, (by first | exact rfl | assumption | exact ⟨rfl, rfl⟩ | exact ⟨rfl, rfl, by omega⟩ | exact ⟨by assumption, rfl, by omega⟩ | exact ⟨⟨_, rfl, rfl⟩, by decide, by decide, rfl, by omega⟩ | omega | decide)⟩, (by rw [hd]; exact nI_nge hr (by omega))⟩, (by rw [bt_01 k hk32 r hr5, if_neg h]; decide)⟩ ?_
        rw [nI_1]
        rw [show wcs (mxR I) (r + 1) c (L 9) k = wcs (mxR I) r c (L 9) k by simp [wcs, sumL, h]] at ih2
        exact ru_sub hV [0, 1, 2, 3, 4] rfl ih2
    · refine ru_go hV 13 [(1, 0), (0, 296), (1, 0), (7, 0), (k, 32)] rfl rfl ⟨⟨⟨⟨⟨trivial, (by first | exact rfl | assumption | exact ⟨rfl, rfl⟩ | exact ⟨rfl, rfl, by omega⟩ | exact ⟨by assumption, rfl, by omega⟩ | exact ⟨⟨_, rfl, rfl⟩, by decide, by decide, rfl, by omega⟩ | omega | decide)⟩, (by first | exact rfl | assumption | exact ⟨rfl, rfl⟩ | exact ⟨rfl, rfl, by omega⟩ | exact ⟨by assumption, rfl, by omega⟩ | exact ⟨⟨_, rfl, rfl⟩, by decide, by decide, rfl, by omega⟩ | omega | decide)⟩, (by rw [hd]; exact nI_le (Nat.le_refl n) (by omega))⟩, (by first | exact rfl | assumption | exact ⟨rfl, rfl⟩ | exact ⟨rfl, rfl, by omega⟩ | exact ⟨by assumption, rfl, by omega⟩ | exact ⟨⟨_, rfl, rfl⟩, by decide, by decide, rfl, by omega⟩ | omega | decide)⟩, (by first | exact rfl | assumption | exact ⟨rfl, rfl⟩ | exact ⟨rfl, rfl, by omega⟩ | exact ⟨by assumption, rfl, by omega⟩ | exact ⟨⟨_, rfl, rfl⟩, by decide, by decide, rfl, by omega⟩ | omega | decide)⟩ ?_
      rw [nI_1]
      refine ru_sub hV [0, 1, 2] rfl ?_
      rw [← hup] at ih
      exact ih
  · have e7 : ∀ j, j < B → lay L 7 B (wcs (mxR I) n c (L 9)) 7 j = wcs (mxR I) n c (L 9) j := fun j hj => lay_in hj
    generalize wcs (mxR I) n c (L 9) = w at e7 hV ⊢
    generalize lay L 7 B w = M at e7 hV ⊢
    refine ru_go hV 2 [] rfl rfl trivial ?_
    refine ru_V hV [.int (nI B)] sVX8_58 (hbl _) rfl rfl rfl rfl rfl (Nat.le_of_ble_eq_true rfl) ?_
    refine ru_go hV 3 [(1, 0)] rfl rfl ⟨trivial, nI_le (Nat.le_refl B) (by omega)⟩ ?_
    refine loop0 (P := fun k => V 104 [(0, .ref 0), (1, .int (nI c)), (2, .int (nI k))] [] I (lay M 9 k w)) B (fun h => by rw [lay_0] at h; exact h) (fun k hk ih => ?_) ?_
    · refine ru_go hV 2 [] rfl rfl trivial ?_
      refine ru_V hV [.int (nI k)] sVX8_58 (hbl _) rfl rfl rfl rfl rfl (Nat.le_of_ble_eq_true rfl) ?_
      refine ru_go hV 11 [(0, 0), (9, 0), (7, 0), (k, 32), (k, 32)] rfl rfl ⟨⟨⟨⟨⟨trivial, nI_nge hk (by omega)⟩, (by first | exact rfl | assumption | exact ⟨rfl, rfl⟩ | exact ⟨rfl, rfl, by omega⟩ | exact ⟨by assumption, rfl, by omega⟩ | exact ⟨⟨_, rfl, rfl⟩, by decide, by decide, rfl, by omega⟩ | omega | decide)⟩, (by first | exact rfl | assumption | exact ⟨rfl, rfl⟩ | exact ⟨rfl, rfl, by omega⟩ | exact ⟨by assumption, rfl, by omega⟩ | exact ⟨⟨_, rfl, rfl⟩, by decide, by decide, rfl, by omega⟩ | omega | decide)⟩, (by first | exact rfl | assumption | exact ⟨rfl, rfl⟩ | exact ⟨rfl, rfl, by omega⟩ | exact ⟨by assumption, rfl, by omega⟩ | exact ⟨⟨_, rfl, rfl⟩, by decide, by decide, rfl, by omega⟩ | omega | decide)⟩, (by first | exact rfl | assumption | exact ⟨rfl, rfl⟩ | exact ⟨rfl, rfl, by omega⟩ | exact ⟨by assumption, rfl, by omega⟩ | exact ⟨⟨_, rfl, rfl⟩, by decide, by decide, rfl, by omega⟩ | omega | decide)⟩ ?_
      rw [nI_1, lay_up (by rw [lay_ne (by decide), e7 k hk])]
      exact ih
    · refine ru_go hV 2 [] rfl rfl trivial ?_
      refine ru_V hV [.int (nI B)] sVX8_58 (hbl _) rfl rfl rfl rfl rfl (Nat.le_of_ble_eq_true rfl) ?_
      refine ru_fin hV 2 [(1, 0)] rfl rfl ⟨trivial, nI_le (Nat.le_refl B) (by omega)⟩ ?_
      exact ⟨rfl, rfl, rfl⟩
