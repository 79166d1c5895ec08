/-! the reference: counts, shares, the digest -/
/-- a number that is one is the same as itself -/
def nn32 (x : UInt32) : Prop := Op.cmpValue (FP.fcmp x x) .l = 0
def nn64 (x : UInt64) : Prop := Op.cmpValue (FP.dcmp x x) .l = 0
theorem de_self : ∀ a, a < 33 → ∀ b, b < 33 → nn32 (deQ a b) := by
  unfold nn32
  decide +kernel
theorem fd_self {E T : Nat} (h1 : 1 ≤ E) (h2 : E ≤ 2046) (hT : T < 2 ^ 52) : nn64 (u64 (en E T)) := by
  have hl := en_lt (E := E) h2 hT
  show Op.cmpValue (FP.Core.order (FP.Core.decode FP.Core.b64 (u64 (en E T)).toNat) (FP.Core.decode FP.Core.b64 (u64 (en E T)).toNat)) .l = 0
  rw [u64_n (by omega), fd_dec h1 h2 hT]
  show Op.cmpValue (some (compare (((2 ^ 52 + T) * 2 ^ ((E : Int) - 1075 - min ((E : Int) - 1075) ((E : Int) - 1075)).toNat : Nat) : Int) (((2 ^ 52 + T) * 2 ^ ((E : Int) - 1075 - min ((E : Int) - 1075) ((E : Int) - 1075)).toNat : Nat) : Int))) .l = 0
  generalize (((2 ^ 52 + T) * 2 ^ ((E : Int) - 1075 - min ((E : Int) - 1075) ((E : Int) - 1075)).toNat : Nat) : Int) = z
  rw [show compare z z = .eq from Int.compare_eq_eq.mpr rfl]
  rfl
theorem shG_self {x : UInt64} (h : shG x) : nn64 x := by
  rcases h with rfl | ⟨E, T, h1, h2, h3, rfl⟩
  · unfold nn64
    decide +kernel
  · exact fd_self h1 (by omega) h3
theorem qJf_isNaN (l : Launch) {x : UInt32} (h : nn32 x) (I : IM) (L : LM) : KJxf58ca_isNaN_12338r l [.float x] I L (some (.int 0)) I L := by
  refine wJxf58ca_isNaN_12338r l rfl (fun _ x h => by cases h; exact Or.inl rfl) (fun V hV => ?_)
  refine ru_fin hV 6 [(1, 0)] rfl rfl ⟨trivial, h⟩ ?_
  exact ⟨rfl, rfl, rfl⟩
theorem qJd_isNaN (l : Launch) {x : UInt64} (h : nn64 x) (I : IM) (L : LM) : KJxe99ae_isNaN_b9ae7r l [.double x] I L (some (.int 0)) I L := by
  refine wJxe99ae_isNaN_b9ae7r l rfl (fun _ x h => by cases h; exact Or.inl rfl) (fun V hV => ?_)
  refine ru_fin hV 6 [(1, 0)] rfl rfl ⟨trivial, h⟩ ?_
  exact ⟨rfl, rfl, rfl⟩
theorem qJf_bits (l : Launch) {x : UInt32} (h : nn32 x) (I : IM) (L : LM) : KJxf58ca_floatToIntBits_5c35ar l [.float x] I L (some (.int x.toInt32)) I L := by
  refine wJxf58ca_floatToIntBits_5c35ar l rfl (hz0 (by decide)) (fun V hV => ?_)
  refine ru_go hV 1 [] rfl rfl trivial ?_
  refine ru_S hV [] sSJxf58ca_59 (qJf_isNaN l h I L) rfl rfl rfl (Nat.le_of_ble_eq_true rfl) ?_
  refine ru_go hV 2 [(0, 0)] rfl rfl ⟨trivial, (fun e => e rfl)⟩ ?_
  refine hV.2.2.2.2.2.2.2.2 8 74 11 0 .null x [] _ I L rfl sNJf_74 (by decide) (by decide) ?_
  refine ru_fin hV 1 [] rfl rfl trivial ?_
  exact ⟨rfl, rfl, rfl⟩
theorem qJd_bits (l : Launch) {x : UInt64} (h : nn64 x) (I : IM) (L : LM) : KJxe99ae_doubleToLongBits_ccdeer l [.double x] I L (some (.long x.toInt64)) I L := by
  refine wJxe99ae_doubleToLongBits_ccdeer l rfl (hz0 (by decide)) (fun V hV => ?_)
  refine ru_go hV 1 [] rfl rfl trivial ?_
  refine ru_S hV [] sSJxe99ae_122 (qJd_isNaN l h I L) rfl rfl rfl (Nat.le_of_ble_eq_true rfl) ?_
  refine ru_go hV 2 [(0, 0)] rfl rfl ⟨trivial, (fun e => e rfl)⟩ ?_
  refine hV.2.2.2.2.2.2.2.1 8 134 11 0 .null x [] _ I L rfl sNJd_134 (by decide) (by decide) ?_
  refine ru_fin hV 1 [] rfl rfl trivial ?_
  exact ⟨rfl, rfl, rfl⟩
/-- a count of the reference -/
def cnR (I : IM) (n k : Nat) : Int32 := if 5 ≤ k ∧ k < 14 then I 1 (31 + (k - 5)) else if 20 ≤ k then (if k - 20 < n then I 1 (1 + (k - 20)) else 0) else match k with
  | 0 => nI n
  | 1 => nI (fmR I n 8)
  | 2 => I 0 2
  | 3 => (gw (mxR I) n (2 ^ n - 1) n (2 ^ n - 1)).toInt32
  | 4 => sgn (sgR I) (2 ^ n - 1)
  | _ => I 4 0 + I 4 1
theorem qX8_counted (l : Launch) {k n : Nat} (hk : okC k) (hn : n ≤ 5) (hn0 : 0 < n) {I : IM} (hd : I 1 0 = nI n) (L : LM) : ∃ L2, L2 0 23 = L 0 23 ∧ KX8_counted l [.ref 0, .int (nI k)] I L (some (.int (cnR I n k))) I L2 := by
  have hk24 : k ≤ 24 := by unfold okC at hk; omega
  have hB := pow_le32 n hn
  have sw := fun (V : Nat → LV → List Value → IM → LM → Prop) (E : List Value → IM → LM → Prop) (hV : Ru l kdR 12 RX8 cX8_counted rmX8_counted FX8 tX8_counted V E) (tgt : Nat) h1 h2 h3 => ru_sw hV (tgt := tgt) swX8_counted_1 h1 h2 h3 (x := nI k) (rest := []) (lv := [(0, .ref 0), (1, .int (nI k))]) (I := I) (L := L)
  by_cases h1 : 5 ≤ k ∧ k < 14
  · refine ⟨L, rfl, wX8_counted l rfl (hz0 (by decide)) (fun V hV => ?_)⟩
    unfold cnR at hV
    rw [if_pos h1] at hV
    have hoff : ∀ k, 5 ≤ k → k < 14 → (#[75, 82, 87, 92, 115, 140, 140, 140, 140, 140, 140, 140, 140, 140, 126] : Array Int)[((nI k).toInt - 0).toNat]? = some 140 := by
      intro k h5 h14
      have : k = 5 ∨ k = 6 ∨ k = 7 ∨ k = 8 ∨ k = 9 ∨ k = 10 ∨ k = 11 ∨ k = 12 ∨ k = 13 := by omega
      rcases this with rfl | rfl | rfl | rfl | rfl | rfl | rfl | rfl | rfl <;> decide
    refine ru_go hV 1 [] rfl rfl trivial ?_
    refine sw V _ hV 141 (fun _ => by decide) (fun _ _ => ⟨140, hoff k h1.1 h1.2, by decide⟩) ?_
    refine ru_fin hV 13 [(0, 0), (1, 0), ((31+(k-5)), 296)] rfl rfl ⟨⟨⟨trivial, nI_ge (b := 14) h1.2 (by decide)⟩, (by first | exact rfl | assumption | exact ⟨rfl, rfl⟩ | exact ⟨rfl, rfl, by omega⟩ | exact ⟨by assumption, rfl, by omega⟩ | exact ⟨⟨_, rfl, rfl⟩, by decide, by decide, rfl, by omega⟩ | omega | decide)⟩, ⟨rfl, by rw [show (31 : Int32) = nI 31 from rfl, nI_add, show (5 : Int32) = nI 5 from rfl, nI_sub (by omega)]; congr 1; omega, by omega⟩⟩ ?_
    exact ⟨rfl, rfl, rfl⟩
  · by_cases h2 : 20 ≤ k
    · refine ⟨L, rfl, wX8_counted l rfl (hz0 (by decide)) (fun V hV => ?_)⟩
      unfold cnR at hV
      rw [if_neg h1, if_pos h2] at hV
      refine ru_go hV 1 [] rfl rfl trivial ?_
      refine sw V _ hV 141 (fun _ => by decide) (fun _ h => absurd (by rw [nI_toInt (by omega)]; omega) h) ?_
      refine ru_go hV 7 [(1, 0)] rfl rfl ⟨trivial, nI_le (a := 14) (by omega) (by omega)⟩ ?_
      rw [show nI k - 20 = nI (k - 20) from nI_sub (b := 20) h2]
      by_cases h3 : k - 20 < n
      · rw [if_pos h3] at hV
        refine ru_V hV [] sVX8_76 (qX8_isDirection l h3 hn hd L) rfl rfl rfl rfl rfl (Nat.le_of_ble_eq_true rfl) ?_
        refine ru_fin hV 11 [(0, 0), (1, 0), ((1+(k-20)), 296)] rfl rfl ⟨⟨⟨trivial, (by decide)⟩, (by first | exact rfl | assumption | exact ⟨rfl, rfl⟩ | exact ⟨rfl, rfl, by omega⟩ | exact ⟨by assumption, rfl, by omega⟩ | exact ⟨⟨_, rfl, rfl⟩, by decide, by decide, rfl, by omega⟩ | omega | decide)⟩, ⟨rfl, by rw [show (1 : Int32) = nI 1 from rfl, nI_add, show (20 : Int32) = nI 20 from rfl, nI_sub (by omega)]; congr 1; omega, by omega⟩⟩ ?_
        exact ⟨rfl, rfl, rfl⟩
      · rw [if_neg h3] at hV
        refine ru_V hV [] sVX8_76 (xX8_isDirection l (n := n) (Or.inr (nI_le (by omega) (by omega))) hn0 hn hd L) rfl rfl rfl rfl rfl (Nat.le_of_ble_eq_true rfl) ?_
        refine ru_fin hV 3 [(1, 0)] rfl rfl ⟨trivial, (by first | exact rfl | assumption | exact ⟨rfl, rfl⟩ | exact ⟨rfl, rfl, by omega⟩ | exact ⟨by assumption, rfl, by omega⟩ | exact ⟨⟨_, rfl, rfl⟩, by decide, by decide, rfl, by omega⟩ | omega | decide)⟩ ?_
        exact ⟨rfl, rfl, rfl⟩
    · have hkk : k = 0 ∨ k = 1 ∨ k = 2 ∨ k = 3 ∨ k = 4 ∨ k = 14 := by unfold okC at hk; omega
      rcases hkk with rfl | rfl | rfl | rfl | rfl | rfl
      · refine ⟨L, rfl, wX8_counted l rfl (hz0 (by decide)) (fun V hV => ?_)⟩
        refine ru_go hV 1 [] rfl rfl trivial ?_
        refine sw V _ hV 76 (by decide) (fun _ _ => ⟨75, by decide, by decide⟩) ?_
        refine ru_fin hV 5 [(1, 0), (0, 296)] rfl rfl ⟨⟨trivial, (by first | exact rfl | assumption | exact ⟨rfl, rfl⟩ | exact ⟨rfl, rfl, by omega⟩ | exact ⟨by assumption, rfl, by omega⟩ | exact ⟨⟨_, rfl, rfl⟩, by decide, by decide, rfl, by omega⟩ | omega | decide)⟩, (by first | exact rfl | assumption | exact ⟨rfl, rfl⟩ | exact ⟨rfl, rfl, by omega⟩ | exact ⟨by assumption, rfl, by omega⟩ | exact ⟨⟨_, rfl, rfl⟩, by decide, by decide, rfl, by omega⟩ | omega | decide)⟩ ?_
        rw [hd]
        exact ⟨rfl, rfl, rfl⟩
      · refine ⟨L, rfl, wX8_counted l rfl (hz0 (by decide)) (fun V hV => ?_)⟩
        refine ru_go hV 1 [] rfl rfl trivial ?_
        refine sw V _ hV 83 (by decide) (fun _ _ => ⟨82, by decide, by decide⟩) ?_
        refine ru_go hV 1 [] rfl rfl trivial ?_
        refine ru_V hV [] sVX8_182 (qX8_forms l hn hd L) rfl rfl rfl rfl rfl (Nat.le_of_ble_eq_true rfl) ?_
        refine ru_fin hV 1 [] rfl rfl trivial ?_
        exact ⟨rfl, rfl, rfl⟩
      · refine ⟨L, rfl, wX8_counted l rfl (hz0 (by decide)) (fun V hV => ?_)⟩
        refine ru_go hV 1 [] rfl rfl trivial ?_
        refine sw V _ hV 88 (by decide) (fun _ _ => ⟨87, by decide, by decide⟩) ?_
        refine ru_fin hV 3 [] rfl rfl ⟨trivial, (by first | exact rfl | assumption | exact ⟨rfl, rfl⟩ | exact ⟨rfl, rfl, by omega⟩ | exact ⟨by assumption, rfl, by omega⟩ | exact ⟨⟨_, rfl, rfl⟩, by decide, by decide, rfl, by omega⟩ | omega | decide)⟩ ?_
        exact ⟨rfl, rfl, rfl⟩
      · refine ⟨grL L (mxR I) n (2 ^ n - 1) n, by rw [gr_ne (by decide) (by decide)], wX8_counted l rfl (hz0 (by decide)) (fun V hV => ?_)⟩
        have e1 : nI (2 ^ n) - 1 = nI (2 ^ n - 1) := nI_sub (b := 1) (by omega)
        refine ru_go hV 1 [] rfl rfl trivial ?_
        refine sw V _ hV 93 (by decide) (fun _ _ => ⟨92, by decide, by decide⟩) ?_
        refine ru_go hV 2 [] rfl rfl trivial ?_
        refine ru_V hV [.ref 0] sVX8_58 (qX8_blades l hn hd L) rfl rfl rfl rfl rfl (Nat.le_of_ble_eq_true rfl) ?_
        refine ru_go hV 2 [] rfl rfl trivial ?_
        rw [e1]
        refine ru_V hV [] sVX8_101 (qX8_layGrown l hn (b := 2 ^ n - 1) (by omega) hd L) rfl rfl rfl rfl rfl (Nat.le_of_ble_eq_true rfl) ?_
        refine ru_go hV 3 [(9, 0)] rfl rfl ⟨trivial, (by first | exact rfl | assumption | exact ⟨rfl, rfl⟩ | exact ⟨rfl, rfl, by omega⟩ | exact ⟨by assumption, rfl, by omega⟩ | exact ⟨⟨_, rfl, rfl⟩, by decide, by decide, rfl, by omega⟩ | omega | decide)⟩ ?_
        refine ru_V hV [.ref 9] sVX8_58 (qX8_blades l hn hd _) rfl rfl rfl rfl rfl (Nat.le_of_ble_eq_true rfl) ?_
        refine ru_fin hV 5 [((2^n-1), 32)] rfl rfl ⟨trivial, ⟨rfl, e1, by omega⟩⟩ ?_
        rw [gr_9 hn n _ (by omega)]
        exact ⟨rfl, rfl, rfl⟩
      · refine ⟨L, rfl, wX8_counted l rfl (hz0 (by decide)) (fun V hV => ?_)⟩
        have hs := qX8_signOf l (b := 2 ^ n - 1) (by omega) hn hd L
        rw [sgB_up hn (by omega)] at hs
        refine ru_go hV 1 [] rfl rfl trivial ?_
        refine sw V _ hV 116 (by decide) (fun _ _ => ⟨115, by decide, by decide⟩) ?_
        refine ru_go hV 2 [] rfl rfl trivial ?_
        refine ru_V hV [.ref 0] sVX8_58 (qX8_blades l hn hd L) rfl rfl rfl rfl rfl (Nat.le_of_ble_eq_true rfl) ?_
        refine ru_go hV 2 [] rfl rfl trivial ?_
        rw [show nI (2 ^ n) - 1 = nI (2 ^ n - 1) from nI_sub (b := 1) (by omega)]
        refine ru_V hV [] sVX8_94 hs rfl rfl rfl rfl rfl (Nat.le_of_ble_eq_true rfl) ?_
        refine ru_fin hV 1 [] rfl rfl trivial ?_
        exact ⟨rfl, rfl, rfl⟩
      · refine ⟨L, rfl, wX8_counted l rfl (hz0 (by decide)) (fun V hV => ?_)⟩
        refine ru_go hV 1 [] rfl rfl trivial ?_
        refine sw V _ hV 127 (by decide) (fun _ _ => ⟨126, by decide, by decide⟩) ?_
        refine ru_fin hV 10 [(4, 0), (0, 2), (4, 0), (1, 2)] rfl rfl ⟨⟨⟨⟨trivial, (by first | exact rfl | assumption | exact ⟨rfl, rfl⟩ | exact ⟨rfl, rfl, by omega⟩ | exact ⟨by assumption, rfl, by omega⟩ | exact ⟨⟨_, rfl, rfl⟩, by decide, by decide, rfl, by omega⟩ | omega | decide)⟩, (by first | exact rfl | assumption | exact ⟨rfl, rfl⟩ | exact ⟨rfl, rfl, by omega⟩ | exact ⟨by assumption, rfl, by omega⟩ | exact ⟨⟨_, rfl, rfl⟩, by decide, by decide, rfl, by omega⟩ | omega | decide)⟩, (by first | exact rfl | assumption | exact ⟨rfl, rfl⟩ | exact ⟨rfl, rfl, by omega⟩ | exact ⟨by assumption, rfl, by omega⟩ | exact ⟨⟨_, rfl, rfl⟩, by decide, by decide, rfl, by omega⟩ | omega | decide)⟩, (by first | exact rfl | assumption | exact ⟨rfl, rfl⟩ | exact ⟨rfl, rfl, by omega⟩ | exact ⟨by assumption, rfl, by omega⟩ | exact ⟨⟨_, rfl, rfl⟩, by decide, by decide, rfl, by omega⟩ | omega | decide)⟩ ?_
        exact ⟨rfl, rfl, rfl⟩
theorem cnR_t7 {I : IM} {x : Int32} {n k : Nat} : cnR (mu I 0 7 x) n k = cnR I n k := by
  unfold cnR
  rw [t7mx, t7sg, t7n (a := 1) (by decide), t7n (a := 4) (by decide), t7 (j := 2) (by decide), fmR_cong (J := I) (t7n (by decide)) 8]
theorem xX8_count (l : Launch) {x : Int32} (h1 : ¬ (0 ≤ x ∧ x ≤ 14)) (h2 : ¬ (20 ≤ x ∧ x ≤ 24)) (I : IM) (L : LM) : KX8_count l [.ref 0, .int x] I L (some (.int 0)) (mu I 0 7 1) L := by
  refine wX8_count l rfl (hz0 (by decide)) (fun V hV => ?_)
  refine ru_go hV 6 [] rfl rfl ⟨trivial, (by first | exact rfl | assumption | exact ⟨rfl, rfl⟩ | exact ⟨rfl, rfl, by omega⟩ | exact ⟨by assumption, rfl, by omega⟩ | exact ⟨⟨_, rfl, rfl⟩, by decide, by decide, rfl, by omega⟩ | omega | decide)⟩ ?_
  refine ru_S hV [] sSX8_54 (qX8_in l x 0 14 _ L) rfl rfl rfl (Nat.le_of_ble_eq_true rfl) ?_
  rw [decide_eq_false h1]
  refine ru_go hV 4 [(0, 0)] rfl rfl ⟨trivial, (fun e => e rfl)⟩ ?_
  refine ru_S hV [] sSX8_54 (qX8_in l x 20 24 _ L) rfl rfl rfl (Nat.le_of_ble_eq_true rfl) ?_
  rw [decide_eq_false h2]
  refine ru_go hV 3 [(1, 0)] rfl rfl ⟨trivial, rfl⟩ ?_
  refine ru_V hV [] sVX8_70 (qX8_fails l 1 _ L) rfl rfl rfl rfl rfl (Nat.le_of_ble_eq_true rfl) ?_
  rw [mu_mu]
  refine ru_fin hV 1 [] rfl rfl trivial ?_
  exact ⟨rfl, rfl, rfl⟩
theorem qX8_count (l : Launch) {k n : Nat} (hk : okC k) (hn : n ≤ 5) (hn0 : 0 < n) {I : IM} (hd : I 1 0 = nI n) (L : LM) : ∃ L2, KX8_count l [.ref 0, .int (nI k)] I L (some (.int (cnR I n k))) (mu I 0 7 0) L2 := by
  obtain ⟨L2, -, hK⟩ := qX8_counted l hk hn hn0 (I := mu I 0 7 0) (by rw [t7n (by decide)]; exact hd) L
  rw [cnR_t7] at hK
  refine ⟨L2, wX8_count l rfl (hz0 (by decide)) (fun V hV => ?_)⟩
  refine ru_go hV 6 [] rfl rfl ⟨trivial, (by first | exact rfl | assumption | exact ⟨rfl, rfl⟩ | exact ⟨rfl, rfl, by omega⟩ | exact ⟨by assumption, rfl, by omega⟩ | exact ⟨⟨_, rfl, rfl⟩, by decide, by decide, rfl, by omega⟩ | omega | decide)⟩ ?_
  refine ru_S hV [] sSX8_54 (qX8_in l (nI k) 0 14 _ L) rfl rfl rfl (Nat.le_of_ble_eq_true rfl) ?_
  by_cases h : k ≤ 14
  · rw [show b2i (decide ((0 : Int32) ≤ nI k ∧ nI k ≤ 14)) = 1 from in_t (m := 15) (by omega) (by decide)]
    refine ru_go hV 3 [(1, 0)] rfl rfl ⟨trivial, (by decide)⟩ ?_
    refine ru_V hV [] sVX8_276 hK rfl rfl rfl rfl rfl (Nat.le_of_ble_eq_true rfl) ?_
    refine ru_fin hV 2 [] rfl rfl trivial ?_
    exact ⟨rfl, rfl, rfl⟩
  · have hk2 : 20 ≤ k ∧ k ≤ 24 := by unfold okC at hk; omega
    rw [show b2i (decide ((0 : Int32) ≤ nI k ∧ nI k ≤ 14)) = 0 from in_f (m := 15) (Or.inr (nI_le (a := 15) (by omega) (by omega))) (by decide) (by decide)]
    refine ru_go hV 4 [(0, 0)] rfl rfl ⟨trivial, (fun e => e rfl)⟩ ?_
    refine ru_S hV [] sSX8_54 (qX8_in l (nI k) 20 24 _ L) rfl rfl rfl (Nat.le_of_ble_eq_true rfl) ?_
    rw [decide_eq_true ⟨nI_le (a := 20) hk2.1 (by omega), nI_le (b := 24) hk2.2 (by decide)⟩]
    refine ru_go hV 3 [(0, 0)] rfl rfl ⟨trivial, (by decide)⟩ ?_
    refine ru_V hV [] sVX8_276 hK rfl rfl rfl rfl rfl (Nat.le_of_ble_eq_true rfl) ?_
    refine ru_fin hV 2 [] rfl rfl trivial ?_
    exact ⟨rfl, rfl, rfl⟩
def deR (f : Nat → Int32) (B : Nat) : UInt32 := if ldI f B = NON then 0 else FP.fdiv (FP.i2f (nI (cnz f B))) (FP.i2f (nI (btw (loF f B) (hiF f B) B)))
theorem qX8_densityOf (l : Launch) {s n : Nat} (hs : s < 8) (hn : n ≤ 5) {I : IM} (hd : I 1 0 = nI n) (hb0 : ldI (frR I s) (2 ^ n) ≠ NON → btw (loF (frR I s) (2 ^ n)) (hiF (frR I s) (2 ^ n)) (2 ^ n) ≠ 0) (L : LM) : KX8_densityOf l [.ref 0, .int (nI s)] I L (some (.float (deR (frR I s) (2 ^ n)))) I L := by
  obtain ⟨hB, -⟩ := pow_le32 n hn
  have hbl := qX8_blades l hn hd L
  have hlo := qX8_lowest l hs hn hd L
  have hhi := qX8_highest l hs hn hd L
  have hle := qX8_lead l hs hn hd L
  have hmn := qX8_many l hs hn hd L
  generalize 2 ^ n = B at hB hbl hlo hhi hle hmn hb0 ⊢
  refine wX8_densityOf l rfl (hz0 (by decide)) (fun V hV => ?_)
  have hbt := btw_le (loF (frR I s) B) (hiF (frR I s) B) B
  have hcn := cnz_le (frR I s) B
  unfold deR at hV
  refine ru_go hV 4 [] rfl rfl trivial ?_
  refine loop0 (P := fun k => V 4 [(0, .ref 0), (1, .int (nI s)), (2, .int (nI (btw (loF (frR I s) B) (hiF (frR I s) B) k))), (3, .int (nI k))] [] I L) B (fun h => h) (fun k hk ih => ?_) ?_
  · refine ru_go hV 2 [] rfl rfl trivial ?_
    refine ru_V hV [.int (nI k)] sVX8_58 hbl rfl rfl rfl rfl rfl (Nat.le_of_ble_eq_true rfl) ?_
    refine ru_go hV 3 [(0, 0)] rfl rfl ⟨trivial, nI_nge hk (by omega)⟩ ?_
    refine ru_S hV [.int _] sSX8_62 (qX8_grade l (b := k) (by omega) _ _) rfl rfl rfl (Nat.le_of_ble_eq_true rfl) ?_
    refine ru_go hV 2 [] rfl rfl trivial ?_
    refine ru_V hV [.int _, .int _] sVX8_185 hlo rfl rfl rfl rfl rfl (Nat.le_of_ble_eq_true rfl) ?_
    refine ru_go hV 2 [] rfl rfl trivial ?_
    refine ru_V hV [.int _, .int _, .int _] sVX8_188 hhi rfl rfl rfl rfl rfl (Nat.le_of_ble_eq_true rfl) ?_
    refine ru_S hV [.int _] sSX8_54 (qX8_in l _ _ _ _ L) rfl rfl rfl (Nat.le_of_ble_eq_true rfl) ?_
    by_cases h : loF (frR I s) B ≤ nI (pc5 k) ∧ nI (pc5 k) ≤ hiF (frR I s) B
    · rw [decide_eq_true h]
      refine ru_go hV 7 [(0, 0)] rfl rfl ⟨trivial, (by decide)⟩ ?_
      rw [nI_1, nI_1]
      rw [show btw (loF (frR I s) B) (hiF (frR I s) B) (k + 1) = _ from if_pos h] at ih
      exact ih
    · rw [decide_eq_false h]
      refine ru_go hV 6 [(1, 0)] rfl rfl ⟨trivial, rfl⟩ ?_
      rw [nI_1, Int32.add_zero]
      rw [show btw (loF (frR I s) B) (hiF (frR I s) B) (k + 1) = _ from if_neg h] at ih
      exact ih
  · generalize btw (loF (frR I s) B) (hiF (frR I s) B) B = t at hbt hb0 hV ⊢
    refine ru_go hV 2 [] rfl rfl trivial ?_
    refine ru_V hV [.int (nI B)] sVX8_58 hbl rfl rfl rfl rfl rfl (Nat.le_of_ble_eq_true rfl) ?_
    refine ru_go hV 3 [(1, 0)] rfl rfl ⟨trivial, nI_le (Nat.le_refl B) (by omega)⟩ ?_
    refine ru_V hV [] sVX8_197 hle rfl rfl rfl rfl rfl (Nat.le_of_ble_eq_true rfl) ?_
    by_cases h : ldI (frR I s) B = NON
    · rw [if_pos h] at hV
      refine ru_fin hV 5 [(0, 0)] rfl rfl ⟨trivial, (fun e => e h)⟩ ?_
      exact ⟨rfl, rfl, rfl⟩
    · rw [if_neg h] at hV
      refine ru_go hV 4 [(1, 0)] rfl rfl ⟨trivial, h⟩ ?_
      refine ru_V hV [] sVX8_122 hmn rfl rfl rfl rfl rfl (Nat.le_of_ble_eq_true rfl) ?_
      refine ru_fin hV 5 [] rfl rfl ⟨trivial, (by unfold vf_n32; exact de_nan _ (by omega) _ (by omega) (hb0 h))⟩ ?_
      exact ⟨rfl, rfl, rfl⟩
theorem xX8_density (l : Launch) {x : Int32} (h : ouR x 8) (I : IM) (L : LM) : ∃ z, KX8_density l [.ref 0, .int x] I L (some (.float z)) (mu I 0 7 1) L := by
  refine ⟨FP.i2f 0, wX8_density l rfl (hz0 (by decide)) (fun V hV => ?_)⟩
  refine ru_go hV 4 [] rfl rfl ⟨trivial, (by first | exact rfl | assumption | exact ⟨rfl, rfl⟩ | exact ⟨rfl, rfl, by omega⟩ | exact ⟨by assumption, rfl, by omega⟩ | exact ⟨⟨_, rfl, rfl⟩, by decide, by decide, rfl, by omega⟩ | omega | decide)⟩ ?_
  refine ru_S hV [] sSX8_80 (xX8_isSlot l h _ L) rfl rfl rfl (Nat.le_of_ble_eq_true rfl) ?_
  refine ru_go hV 3 [(1, 0)] rfl rfl ⟨trivial, (by first | exact rfl | assumption | exact ⟨rfl, rfl⟩ | exact ⟨rfl, rfl, by omega⟩ | exact ⟨by assumption, rfl, by omega⟩ | exact ⟨⟨_, rfl, rfl⟩, by decide, by decide, rfl, by omega⟩ | omega | decide)⟩ ?_
  refine ru_V hV [] sVX8_70 (qX8_fails l 1 _ L) rfl rfl rfl rfl rfl (Nat.le_of_ble_eq_true rfl) ?_
  rw [mu_mu]
  refine ru_fin hV 2 [] rfl rfl trivial ?_
  exact ⟨rfl, rfl, rfl⟩
theorem qX8_density (l : Launch) {s n : Nat} (hs : s < 8) (hn : n ≤ 5) {I : IM} (hd : I 1 0 = nI n) (hb0 : ldI (frR I s) (2 ^ n) ≠ NON → btw (loF (frR I s) (2 ^ n)) (hiF (frR I s) (2 ^ n)) (2 ^ n) ≠ 0) (L : LM) : KX8_density l [.ref 0, .int (nI s)] I L (some (.float (deR (frR I s) (2 ^ n)))) (mu I 0 7 0) L := by
  have hK := qX8_densityOf l hs hn (I := mu I 0 7 0) (by rw [t7n (by decide)]; exact hd) (by rw [t7fr]; exact hb0) L
  rw [t7fr] at hK
  refine wX8_density l rfl (hz0 (by decide)) (fun V hV => ?_)
  refine ru_go hV 4 [] rfl rfl ⟨trivial, (by first | exact rfl | assumption | exact ⟨rfl, rfl⟩ | exact ⟨rfl, rfl, by omega⟩ | exact ⟨by assumption, rfl, by omega⟩ | exact ⟨⟨_, rfl, rfl⟩, by decide, by decide, rfl, by omega⟩ | omega | decide)⟩ ?_
  refine ru_S hV [] sSX8_80 (qX8_isSlot l hs _ L) rfl rfl rfl (Nat.le_of_ble_eq_true rfl) ?_
  refine ru_go hV 3 [(0, 0)] rfl rfl ⟨trivial, (by decide)⟩ ?_
  refine ru_V hV [] sVX8_279 hK rfl rfl rfl rfl rfl (Nat.le_of_ble_eq_true rfl) ?_
  refine ru_fin hV 2 [] rfl rfl trivial ?_
  exact ⟨rfl, rfl, rfl⟩
theorem qX8_shareOf (l : Launch) {s n : Nat} {g : Int32} (hs : s < 8) (hn : n ≤ 5) {I : IM} (hd : I 1 0 = nI n) (hv : vf_n64 (shQ (shA (frR I s) g (2 ^ n)) (shB (frR I s) (2 ^ n)))) (L : LM) : KX8_shareOf l [.ref 0, .int (nI s), .int g] I L (some (.double (shQ (shA (frR I s) g (2 ^ n)) (shB (frR I s) (2 ^ n))))) I L := by
  obtain ⟨hB, -⟩ := pow_le32 n hn
  have hbl := qX8_blades l hn hd L
  generalize 2 ^ n = B at hB hbl hv ⊢
  refine wX8_shareOf l rfl (hz0 (by decide)) (fun V hV => ?_)
  refine ru_go hV 6 [] rfl rfl trivial ?_
  refine loop0 (P := fun k => V 8 [(0, .ref 0), (1, .int (nI s)), (2, .int g), (3, .long (shA (frR I s) g k)), (5, .long (shB (frR I s) k)), (7, .int (nI k))] [] I L) B (fun h => h) (fun k hk ih => ?_) ?_
  · have ak := qX8_at l hs (k := k) (by omega) I L
    have tl : V 47 [(0, .ref 0), (1, .int (nI s)), (2, .int g), (3, .long (shA (frR I s) g k)), (5, .long (shB (frR I s) k)), (7, .int (nI k))] [.long (iabs (frR I s k)).toInt64] I L := by
      refine ru_go hV 7 [] rfl rfl trivial ?_
      refine ru_S hV [.long _] sSX8_62 (qX8_grade l (b := k) (by omega) _ _) rfl rfl rfl (Nat.le_of_ble_eq_true rfl) ?_
      by_cases h : nI (pc5 k) = g
      · refine ru_go hV 8 [(0, 0)] rfl rfl ⟨trivial, (fun e => e h)⟩ ?_
        rw [nI_1]
        refine ru_sub hV [0, 1, 2, 3, 4, 5] rfl ?_
        rw [show shA (frR I s) g (k + 1) = shA (frR I s) g k + (iabs (frR I s k)).toInt64 by simp only [shA, sumL, h, if_true]] at ih
        exact ih
      · refine ru_go hV 7 [(1, 0)] rfl rfl ⟨trivial, h⟩ ?_
        rw [nI_1]
        refine ru_sub hV [0, 1, 2, 3, 4, 5] rfl ?_
        rw [show shA (frR I s) g (k + 1) = shA (frR I s) g k + 0 by simp only [shA, sumL, h, if_false]] at ih
        exact ih
    refine ru_go hV 2 [] rfl rfl trivial ?_
    refine ru_V hV [.int (nI k)] sVX8_58 hbl rfl rfl rfl rfl rfl (Nat.le_of_ble_eq_true rfl) ?_
    refine ru_go hV 4 [(0, 0)] rfl rfl ⟨trivial, nI_nge hk (by omega)⟩ ?_
    refine ru_V hV [] sVX8_88 ak rfl rfl rfl rfl rfl (Nat.le_of_ble_eq_true rfl) ?_
    by_cases h : frR I s k < 0
    · rw [show iabs (frR I s k) = -(frR I s k) from if_pos h] at tl
      refine ru_go hV 4 [(0, 0)] rfl rfl ⟨trivial, Int32.not_le.mpr h⟩ ?_
      refine ru_V hV [] sVX8_88 ak rfl rfl rfl rfl rfl (Nat.le_of_ble_eq_true rfl) ?_
      refine ru_go hV 3 [] rfl rfl trivial ?_
      exact tl
    · rw [show iabs (frR I s k) = frR I s k from if_neg h] at tl
      refine ru_go hV 4 [(1, 0)] rfl rfl ⟨trivial, Int32.not_lt.mp h⟩ ?_
      refine ru_V hV [] sVX8_88 ak rfl rfl rfl rfl rfl (Nat.le_of_ble_eq_true rfl) ?_
      refine ru_go hV 1 [] rfl rfl trivial ?_
      exact tl
  · refine ru_go hV 2 [] rfl rfl trivial ?_
    refine ru_V hV [.int (nI B)] sVX8_58 hbl rfl rfl rfl rfl rfl (Nat.le_of_ble_eq_true rfl) ?_
    generalize shA (frR I s) g B = a at hv hV ⊢
    generalize shB (frR I s) B = b at hv hV ⊢
    by_cases h : b = 0
    · refine ru_fin hV 8 [(1, 0), (0, 0)] rfl rfl ⟨⟨trivial, nI_le (Nat.le_refl B) (by omega)⟩, (fun e => e ((lg_cmp0 _ _).mpr h))⟩ ?_
      exact ⟨by rw [shQ, if_pos h]; rfl, rfl, rfl⟩
    · rw [shQ, if_neg h] at hv
      refine ru_fin hV 11 [(1, 0), (1, 0)] rfl rfl ⟨⟨⟨trivial, nI_le (Nat.le_refl B) (by omega)⟩, (fun e => h ((lg_cmp0 _ _).mp e))⟩, hv⟩ ?_
      exact ⟨by rw [shQ, if_neg h]; rfl, rfl, rfl⟩
theorem xX8_share (l : Launch) {x y : Int32} (h : ouR x 8) (I : IM) (L : LM) : ∃ z, KX8_share l [.ref 0, .int x, .int y] I L (some (.double z)) (mu I 0 7 1) L := by
  refine ⟨FP.i2d 0, wX8_share l rfl (hz0 (by decide)) (fun V hV => ?_)⟩
  refine ru_go hV 4 [] rfl rfl ⟨trivial, (by first | exact rfl | assumption | exact ⟨rfl, rfl⟩ | exact ⟨rfl, rfl, by omega⟩ | exact ⟨by assumption, rfl, by omega⟩ | exact ⟨⟨_, rfl, rfl⟩, by decide, by decide, rfl, by omega⟩ | omega | decide)⟩ ?_
  refine ru_S hV [] sSX8_80 (xX8_isSlot l h _ L) rfl rfl rfl (Nat.le_of_ble_eq_true rfl) ?_
  refine ru_go hV 3 [(0, 0)] rfl rfl ⟨trivial, (fun e => e rfl)⟩ ?_
  refine ru_V hV [] sVX8_70 (qX8_fails l 1 _ L) rfl rfl rfl rfl rfl (Nat.le_of_ble_eq_true rfl) ?_
  rw [mu_mu]
  refine ru_fin hV 2 [] rfl rfl trivial ?_
  exact ⟨rfl, rfl, rfl⟩
theorem zX8_share (l : Launch) {s n : Nat} {y : Int32} (hs : s < 8) (hn : n ≤ 5) (h : ouR y (n + 1)) {I : IM} (hd : I 1 0 = nI n) (L : LM) : ∃ z, KX8_share l [.ref 0, .int (nI s), .int y] I L (some (.double z)) (mu I 0 7 2) L := by
  refine ⟨FP.i2d 0, wX8_share l rfl (hz0 (by decide)) (fun V hV => ?_)⟩
  have hd' : mu I 0 7 0 1 0 = nI n := by rw [t7n (by decide)]; exact hd
  refine ru_go hV 4 [] rfl rfl ⟨trivial, (by first | exact rfl | assumption | exact ⟨rfl, rfl⟩ | exact ⟨rfl, rfl, by omega⟩ | exact ⟨by assumption, rfl, by omega⟩ | exact ⟨⟨_, rfl, rfl⟩, by decide, by decide, rfl, by omega⟩ | omega | decide)⟩ ?_
  refine ru_S hV [] sSX8_80 (qX8_isSlot l hs _ L) rfl rfl rfl (Nat.le_of_ble_eq_true rfl) ?_
  refine ru_go hV 7 [(1, 0), (1, 0), (0, 296)] rfl rfl ⟨⟨⟨trivial, (by decide)⟩, (by first | exact rfl | assumption | exact ⟨rfl, rfl⟩ | exact ⟨rfl, rfl, by omega⟩ | exact ⟨by assumption, rfl, by omega⟩ | exact ⟨⟨_, rfl, rfl⟩, by decide, by decide, rfl, by omega⟩ | omega | decide)⟩, (by first | exact rfl | assumption | exact ⟨rfl, rfl⟩ | exact ⟨rfl, rfl, by omega⟩ | exact ⟨by assumption, rfl, by omega⟩ | exact ⟨⟨_, rfl, rfl⟩, by decide, by decide, rfl, by omega⟩ | omega | decide)⟩ ?_
  rw [hd']
  refine ru_S hV [] sSX8_54 (qX8_in l y 0 (nI n) _ L) rfl rfl rfl (Nat.le_of_ble_eq_true rfl) ?_
  rw [show b2i (decide ((0 : Int32) ≤ y ∧ y ≤ nI n)) = 0 from in_f (m := n + 1) h (by omega) (by omega)]
  refine ru_go hV 3 [(1, 0)] rfl rfl ⟨trivial, (by first | exact rfl | assumption | exact ⟨rfl, rfl⟩ | exact ⟨rfl, rfl, by omega⟩ | exact ⟨by assumption, rfl, by omega⟩ | exact ⟨⟨_, rfl, rfl⟩, by decide, by decide, rfl, by omega⟩ | omega | decide)⟩ ?_
  refine ru_V hV [] sVX8_70 (qX8_fails l 2 _ L) rfl rfl rfl rfl rfl (Nat.le_of_ble_eq_true rfl) ?_
  rw [mu_mu]
  refine ru_fin hV 2 [] rfl rfl trivial ?_
  exact ⟨rfl, rfl, rfl⟩
theorem qX8_share (l : Launch) {s g n : Nat} (hs : s < 8) (hg : g ≤ n) (hn : n ≤ 5) {I : IM} (hd : I 1 0 = nI n) (hv : vf_n64 (shQ (shA (frR I s) (nI g) (2 ^ n)) (shB (frR I s) (2 ^ n)))) (L : LM) : KX8_share l [.ref 0, .int (nI s), .int (nI g)] I L (some (.double (shQ (shA (frR I s) (nI g) (2 ^ n)) (shB (frR I s) (2 ^ n))))) (mu I 0 7 0) L := by
  have hd' : mu I 0 7 0 1 0 = nI n := by rw [t7n (by decide)]; exact hd
  have hK := qX8_shareOf l (g := nI g) hs hn hd' (by rw [t7fr]; exact hv) L
  rw [t7fr] at hK
  refine wX8_share l rfl (hz0 (by decide)) (fun V hV => ?_)
  refine ru_go hV 4 [] rfl rfl ⟨trivial, (by first | exact rfl | assumption | exact ⟨rfl, rfl⟩ | exact ⟨rfl, rfl, by omega⟩ | exact ⟨by assumption, rfl, by omega⟩ | exact ⟨⟨_, rfl, rfl⟩, by decide, by decide, rfl, by omega⟩ | omega | decide)⟩ ?_
  refine ru_S hV [] sSX8_80 (qX8_isSlot l hs _ L) rfl rfl rfl (Nat.le_of_ble_eq_true rfl) ?_
  refine ru_go hV 7 [(1, 0), (1, 0), (0, 296)] rfl rfl ⟨⟨⟨trivial, (by decide)⟩, (by first | exact rfl | assumption | exact ⟨rfl, rfl⟩ | exact ⟨rfl, rfl, by omega⟩ | exact ⟨by assumption, rfl, by omega⟩ | exact ⟨⟨_, rfl, rfl⟩, by decide, by decide, rfl, by omega⟩ | omega | decide)⟩, (by first | exact rfl | assumption | exact ⟨rfl, rfl⟩ | exact ⟨rfl, rfl, by omega⟩ | exact ⟨by assumption, rfl, by omega⟩ | exact ⟨⟨_, rfl, rfl⟩, by decide, by decide, rfl, by omega⟩ | omega | decide)⟩ ?_
  rw [hd']
  refine ru_S hV [] sSX8_54 (qX8_in l (nI g) 0 (nI n) _ L) rfl rfl rfl (Nat.le_of_ble_eq_true rfl) ?_
  rw [show b2i (decide ((0 : Int32) ≤ nI g ∧ nI g ≤ nI n)) = 1 from in_t (m := n + 1) (by omega) (by omega)]
  refine ru_go hV 4 [(0, 0)] rfl rfl ⟨trivial, (by decide)⟩ ?_
  refine ru_V hV [] sVX8_283 hK rfl rfl rfl rfl rfl (Nat.le_of_ble_eq_true rfl) ?_
  refine ru_fin hV 2 [] rfl rfl trivial ?_
  exact ⟨rfl, rfl, rfl⟩
