/-! the desk: counts, shares, the digest -/
/-- a count of the desk -/
def coF (I : IM) (n k : Nat) : Int32 := if 5 ≤ k ∧ k < 14 then I 18 (k - 5) else if 20 ≤ k then (if k - 20 < n then I 11 (k - 20) else 0) else match k with
  | 0 => nI n
  | 1 => nI (cfS I 1 8)
  | 2 => I 19 2
  | 3 => (gw (fun q p => I (13 + q) p) n (2 ^ n - 1) n (2 ^ n - 1)).toInt32
  | 4 => sgB (I 11) (2 ^ n - 1) 5
  | _ => tkF I
def okC (k : Nat) : Prop := k ≤ 14 ∨ (20 ≤ k ∧ k ≤ 24)
theorem qX7_count (l : Launch) {k n : Nat} (hk : okC k) (hn : n ≤ 5) {I : IM} (hd : I 1 0 = nI n) (L : LM) : ∃ L2, KX7_count l [.ref 0, .int (nI k)] I L (some (.int (coF I n k))) I L2 := by
  have hk24 : k ≤ 24 := by unfold okC at hk; omega
  have hB := pow_le32 n hn
  by_cases h1 : 5 ≤ k ∧ k < 14
  · refine ⟨L, wX7_count l rfl (hz0 (by decide)) (fun V hV => ?_)⟩
    unfold coF at hV
    rw [if_pos h1] at hV
    refine ru_fin hV 14 [(0, 0), (0, 0), (1, 0), (18, 0), ((k-5), 9)] rfl rfl ⟨⟨⟨⟨⟨trivial, nI_nlt (b := 5) h1.1 (by omega)⟩, nI_nge (n := 14) h1.2 (by omega)⟩, (by first | exact rfl | assumption | exact ⟨rfl, rfl⟩ | exact ⟨rfl, rfl, by omega⟩ | exact ⟨by assumption, rfl, by omega⟩ | exact ⟨⟨_, rfl, rfl⟩, by decide, by decide, rfl, by omega⟩ | omega | decide)⟩, (by first | exact rfl | assumption | exact ⟨rfl, rfl⟩ | exact ⟨rfl, rfl, by omega⟩ | exact ⟨by assumption, rfl, by omega⟩ | exact ⟨⟨_, rfl, rfl⟩, by decide, by decide, rfl, by omega⟩ | omega | decide)⟩, ⟨rfl, nI_sub (b := 5) h1.1, by omega⟩⟩ ?_
    exact ⟨rfl, rfl, rfl⟩
  · by_cases h2 : 20 ≤ k
    · refine ⟨L, wX7_count l rfl (hz0 (by decide)) (fun V hV => ?_)⟩
      unfold coF at hV
      rw [if_neg h1, if_pos h2] at hV
      refine ru_go hV 16 [(0, 0), (1, 0), (0, 0), (0, 0)] rfl rfl ⟨⟨⟨⟨trivial, nI_nlt (b := 5) (by omega) (by omega)⟩, nI_le (a := 14) (by omega) (by omega)⟩, nI_nlt (b := 20) h2 (by omega)⟩, nI_nlt (a := 24) (b := k) (by omega) (by omega)⟩ ?_
      rw [show nI k - 20 = nI (k - 20) from nI_sub (b := 20) h2]
      refine ru_V hV [] sVX7_259 (qX7_signOrZero l (k := k - 20) (by omega) hn hd L) rfl rfl rfl rfl rfl (Nat.le_of_ble_eq_true rfl) ?_
      refine ru_fin hV 1 [] rfl rfl trivial ?_
      exact ⟨rfl, rfl, rfl⟩
    · have head : ∀ (E : List Value → IM → LM → Prop) (V : Nat → LV → List Value → IM → LM → Prop), Ru l kdC 181 RX7 cX7_count rmX7_count FX7 tX7_count V E → V 45 [(0, .ref 0), (1, .int (nI k))] [.int (nI k)] I L → V 0 [(0, .ref 0), (1, .int (nI k))] [] I L := fun E V hV h => by
        by_cases h3 : k < 5
        · refine ru_go hV 7 [(1, 0), (1, 0)] rfl rfl ⟨⟨trivial, nI_lt (b := 5) h3 (by omega)⟩, nI_lt (b := 20) (by omega) (by omega)⟩ ?_
          exact h
        · refine ru_go hV 10 [(0, 0), (1, 0), (1, 0)] rfl rfl ⟨⟨⟨trivial, nI_nlt (b := 5) (by omega) (by omega)⟩, nI_le (a := 14) (by omega) (by omega)⟩, nI_lt (b := 20) (by omega) (by omega)⟩ ?_
          exact h
      have sw := fun (V : Nat → LV → List Value → IM → LM → Prop) (E : List Value → IM → LM → Prop) (hV : Ru l kdC 181 RX7 cX7_count rmX7_count FX7 tX7_count V E) (tgt : Nat) h1 h2 h3 => ru_sw hV (tgt := tgt) swX7_count_45 h1 h2 h3 (x := nI k) (rest := []) (lv := [(0, .ref 0), (1, .int (nI k))]) (I := I) (L := L)
      have hkk : k = 0 ∨ k = 1 ∨ k = 2 ∨ k = 3 ∨ k = 4 ∨ k = 14 := by unfold okC at hk; omega
      rcases hkk with rfl | rfl | rfl | rfl | rfl | rfl
      · refine ⟨L, wX7_count l rfl (hz0 (by decide)) (fun V hV => ?_)⟩
        refine head _ V hV (sw V _ hV 120 (by decide) (fun _ _ => ⟨75, by decide, by decide⟩) ?_)
        refine ru_fin hV 4 [(1, 0)] rfl rfl ⟨⟨trivial, (by first | exact rfl | assumption | exact ⟨rfl, rfl⟩ | exact ⟨rfl, rfl, by omega⟩ | exact ⟨by assumption, rfl, by omega⟩ | exact ⟨⟨_, rfl, rfl⟩, by decide, by decide, rfl, by omega⟩ | omega | decide)⟩, (by first | exact rfl | assumption | exact ⟨rfl, rfl⟩ | exact ⟨rfl, rfl, by omega⟩ | exact ⟨by assumption, rfl, by omega⟩ | exact ⟨⟨_, rfl, rfl⟩, by decide, by decide, rfl, by omega⟩ | omega | decide)⟩ ?_
        rw [hd]
        exact ⟨rfl, rfl, rfl⟩
      · refine ⟨L, wX7_count l rfl (hz0 (by decide)) (fun V hV => ?_)⟩
        refine head _ V hV (sw V _ hV 128 (by decide) (fun _ _ => ⟨83, by decide, by decide⟩) ?_)
        refine ru_go hV 2 [(1, 0)] rfl rfl ⟨trivial, (by first | exact rfl | assumption | exact ⟨rfl, rfl⟩ | exact ⟨rfl, rfl, by omega⟩ | exact ⟨by assumption, rfl, by omega⟩ | exact ⟨⟨_, rfl, rfl⟩, by decide, by decide, rfl, by omega⟩ | omega | decide)⟩ ?_
        refine ru_V hV [] sVX7_193 (qX6_countForms l hb1 I L) rfl rfl rfl rfl rfl (Nat.le_of_ble_eq_true rfl) ?_
        refine ru_fin hV 1 [] rfl rfl trivial ?_
        exact ⟨rfl, rfl, rfl⟩
      · refine ⟨L, wX7_count l rfl (hz0 (by decide)) (fun V hV => ?_)⟩
        refine head _ V hV (sw V _ hV 136 (by decide) (fun _ _ => ⟨91, by decide, by decide⟩) ?_)
        refine ru_fin hV 4 [(19, 0)] rfl rfl ⟨⟨trivial, (by first | exact rfl | assumption | exact ⟨rfl, rfl⟩ | exact ⟨rfl, rfl, by omega⟩ | exact ⟨by assumption, rfl, by omega⟩ | exact ⟨⟨_, rfl, rfl⟩, by decide, by decide, rfl, by omega⟩ | omega | decide)⟩, (by first | exact rfl | assumption | exact ⟨rfl, rfl⟩ | exact ⟨rfl, rfl, by omega⟩ | exact ⟨by assumption, rfl, by omega⟩ | exact ⟨⟨_, rfl, rfl⟩, by decide, by decide, rfl, by omega⟩ | omega | decide)⟩ ?_
        exact ⟨rfl, rfl, rfl⟩
      · obtain ⟨f, hK⟩ := qX5_determinant l hb1 hn (r := 169) rfl hd L
        refine ⟨lay L 169 32 f, wX7_count l rfl (hz0 (by decide)) (fun V hV => ?_)⟩
        refine head _ V hV (sw V _ hV 144 (by decide) (fun _ _ => ⟨99, by decide, by decide⟩) ?_)
        refine ru_go hV 4 [(1, 0), (169, 0)] rfl rfl ⟨⟨trivial, (by first | exact rfl | assumption | exact ⟨rfl, rfl⟩ | exact ⟨rfl, rfl, by omega⟩ | exact ⟨by assumption, rfl, by omega⟩ | exact ⟨⟨_, rfl, rfl⟩, by decide, by decide, rfl, by omega⟩ | omega | decide)⟩, (by first | exact rfl | assumption | exact ⟨rfl, rfl⟩ | exact ⟨rfl, rfl, by omega⟩ | exact ⟨by assumption, rfl, by omega⟩ | exact ⟨⟨_, rfl, rfl⟩, by decide, by decide, rfl, by omega⟩ | omega | decide)⟩ ?_
        refine ru_S hV [] sSX7_262 hK rfl rfl rfl (Nat.le_of_ble_eq_true rfl) ?_
        refine ru_fin hV 1 [] rfl rfl trivial ?_
        exact ⟨rfl, rfl, rfl⟩
      · refine ⟨L, wX7_count l rfl (hz0 (by decide)) (fun V hV => ?_)⟩
        refine head _ V hV (sw V _ hV 156 (by decide) (fun _ _ => ⟨111, by decide, by decide⟩) ?_)
        refine ru_go hV 5 [(1, 0), (11, 0), (1, 0)] rfl rfl ⟨⟨⟨trivial, (by first | exact rfl | assumption | exact ⟨rfl, rfl⟩ | exact ⟨rfl, rfl, by omega⟩ | exact ⟨by assumption, rfl, by omega⟩ | exact ⟨⟨_, rfl, rfl⟩, by decide, by decide, rfl, by omega⟩ | omega | decide)⟩, (by first | exact rfl | assumption | exact ⟨rfl, rfl⟩ | exact ⟨rfl, rfl, by omega⟩ | exact ⟨by assumption, rfl, by omega⟩ | exact ⟨⟨_, rfl, rfl⟩, by decide, by decide, rfl, by omega⟩ | omega | decide)⟩, (by first | exact rfl | assumption | exact ⟨rfl, rfl⟩ | exact ⟨rfl, rfl, by omega⟩ | exact ⟨by assumption, rfl, by omega⟩ | exact ⟨⟨_, rfl, rfl⟩, by decide, by decide, rfl, by omega⟩ | omega | decide)⟩ ?_
        refine ru_V hV [.ref 11] sVX7_127 (qX6_blades l hb1 hn hd L) rfl rfl rfl rfl rfl (Nat.le_of_ble_eq_true rfl) ?_
        refine ru_go hV 2 [] rfl rfl trivial ?_
        rw [show nI (2 ^ n) - 1 = nI (2 ^ n - 1) from nI_sub (b := 1) (by omega)]
        refine ru_S hV [] sSX7_266 (qX5_signOfBlade l (c := 11) (b := 2 ^ n - 1) rfl (by omega) I L) rfl rfl rfl (Nat.le_of_ble_eq_true rfl) ?_
        refine ru_fin hV 1 [] rfl rfl trivial ?_
        exact ⟨rfl, rfl, rfl⟩
      · refine ⟨L, wX7_count l rfl (hz0 (by decide)) (fun V hV => ?_)⟩
        refine head _ V hV (sw V _ hV 176 (by decide) (fun _ _ => ⟨131, by decide, by decide⟩) ?_)
        refine ru_go hV 1 [] rfl rfl trivial ?_
        refine ru_V hV [] sVX7_269 (qX7_countTaken l I L) rfl rfl rfl rfl rfl (Nat.le_of_ble_eq_true rfl) ?_
        refine ru_fin hV 1 [] rfl rfl trivial ?_
        exact ⟨rfl, rfl, rfl⟩
theorem xX7_count (l : Launch) (hlt : l.stackTraces = false) {x : Int32} (hx : ∀ k, okC k → x ≠ nI k) (I : IM) (L : LM) : TX7_count l [.ref 0, .int x] I L exA I L := by
  refine vX7_count l hlt rfl (fun V hX => ?_)
  have hV := hX.1
  have hno : ∀ k : Nat, okC k → x.toInt ≠ k := fun k hk e => hx k hk (by
    have : k < 2 ^ 31 := by unfold okC at hk; omega
    rw [← Int32.toInt_inj, nI_toInt this]; exact e)
  have thr : (x.toInt < 0 ∨ 14 < x.toInt) → V 44 [(0, .ref 0), (1, .int x)] [] I L := fun hc => by
    refine ru_go hV 1 [] rfl rfl trivial ?_
    refine ru_sw hV (tgt := 181) swX7_count_45 (fun _ => by decide) (fun h1 h2 => by omega) ?_
    exact rx_W hX "there is no such number" thX7_count_181 excA (by decide) rfl
  have b5 : (x < 5) ↔ x.toInt < 5 := Int32.lt_iff_toInt_lt
  have b14 : (14 ≤ x) ↔ 14 ≤ x.toInt := Int32.le_iff_toInt_le
  have b20 : (x < 20) ↔ x.toInt < 20 := Int32.lt_iff_toInt_lt
  have b24 : (24 < x) ↔ 24 < x.toInt := Int32.lt_iff_toInt_lt
  have hpos : ∀ v : Int, 0 ≤ v → (v ≤ 14 ∨ (20 ≤ v ∧ v ≤ 24)) → x.toInt ≠ v := fun v h0 h1 e => hno v.toNat (by unfold okC; omega) (by omega)
  have hr : x.toInt < 0 ∨ (14 < x.toInt ∧ x.toInt < 20) ∨ 24 < x.toInt := by
    have := hpos x.toInt
    omega
  rcases hr with h | h | h
  · refine ru_go hV 6 [(1, 0), (1, 0)] rfl rfl ⟨⟨trivial, b5.mpr (by omega)⟩, b20.mpr (by omega)⟩ ?_
    exact thr (Or.inl h)
  · refine ru_go hV 9 [(0, 0), (1, 0), (1, 0)] rfl rfl ⟨⟨⟨trivial, (fun e => by have := b5.mp e; omega)⟩, b14.mpr (by omega)⟩, b20.mpr (by omega)⟩ ?_
    exact thr (Or.inr h.1)
  · refine ru_go hV 12 [(0, 0), (1, 0), (0, 0), (1, 0)] rfl rfl ⟨⟨⟨⟨trivial, (fun e => by have := b5.mp e; omega)⟩, b14.mpr (by omega)⟩, (fun e => by have := b20.mp e; omega)⟩, b24.mpr h⟩ ?_
    exact thr (Or.inr (by omega))
theorem qX7_matrixAt (l : Launch) {r c n : Nat} (hr : r < n) (hc : c < n) (hn : n ≤ 5) {I : IM} (hd : I 1 0 = nI n) (L : LM) : KX7_matrixAt l [.ref 0, .int (nI r), .int (nI c)] I L (some (.int (I (13 + r) c))) I L := by
  refine wX7_matrixAt l rfl (hz0 (by decide)) (fun V hV => ?_)
  refine ru_go hV 2 [] rfl rfl trivial ?_
  refine ru_V hV [] sVX7_81 (qX7_requireDirection l hr hn hd L) rfl rfl rfl rfl rfl (Nat.le_of_ble_eq_true rfl) ?_
  refine ru_go hV 2 [] rfl rfl trivial ?_
  refine ru_V hV [] sVX7_81 (qX7_requireDirection l hc hn hd L) rfl rfl rfl rfl rfl (Nat.le_of_ble_eq_true rfl) ?_
  refine ru_fin hV 8 [(1, 0), (12, 0), (r, 5), ((13+r), 5), (c, 5)] rfl rfl ⟨⟨⟨⟨trivial, (by first | exact rfl | assumption | exact ⟨rfl, rfl⟩ | exact ⟨rfl, rfl, by omega⟩ | exact ⟨by assumption, rfl, by omega⟩ | exact ⟨⟨_, rfl, rfl⟩, by decide, by decide, rfl, by omega⟩ | omega | decide)⟩, (by first | exact rfl | assumption | exact ⟨rfl, rfl⟩ | exact ⟨rfl, rfl, by omega⟩ | exact ⟨by assumption, rfl, by omega⟩ | exact ⟨⟨_, rfl, rfl⟩, by decide, by decide, rfl, by omega⟩ | omega | decide)⟩, kd_mr (b := 1) hb1 (by omega)⟩, ⟨kd_mrow (b := 1) hb1 (by omega), rfl, by omega⟩⟩ ?_
  exact ⟨rfl, rfl, rfl⟩
theorem xX7_matrixAt (l : Launch) (hlt : l.stackTraces = false) {x y : Int32} {n : Nat} (hn : n ≤ 5) (h : ouR x n ∨ ouR y n) {I : IM} (hd : I 1 0 = nI n) (L : LM) : TX7_matrixAt l [.ref 0, .int x, .int y] I L exB I L := by
  refine vX7_matrixAt l hlt rfl (fun V hX => ?_)
  have hV := hX.1
  refine ru_go hV 2 [] rfl rfl trivial ?_
  rcases ouR_or x n (by omega) with ⟨r, hr, rfl⟩ | hx
  · refine ru_V hV [] sVX7_81 (qX7_requireDirection l hr hn hd L) rfl rfl rfl rfl rfl (Nat.le_of_ble_eq_true rfl) ?_
    refine ru_go hV 2 [] rfl rfl trivial ?_
    exact rx_cV hX [] sVX7_81 (xX7_requireDirection l hlt (h.resolve_left (noR hr (by omega))) hd L) rfl rfl rfl rfl rfl (Nat.le_of_ble_eq_true rfl)
  · exact rx_cV hX [] sVX7_81 (xX7_requireDirection l hlt hx hd L) rfl rfl rfl rfl rfl (Nat.le_of_ble_eq_true rfl)
theorem qX7_density (l : Launch) {s n : Nat} (hs : s < 8) (hn : n ≤ 5) {I : IM} (hd : I 1 0 = nI n) (L : LM) : KX7_density l [.ref 0, .int (nI s)] I L (some (.float (deF (I (3 + s)) (2 ^ n)))) I L := by
  have hB := pow_le32 n hn
  refine wX7_density l rfl (hz0 (by decide)) (fun V hV => ?_)
  refine ru_go hV 1 [] rfl rfl trivial ?_
  refine ru_S hV [] sSX7_97 (qX7_requireSlot l hs I L) rfl rfl rfl (Nat.le_of_ble_eq_true rfl) ?_
  refine ru_go hV 7 [(1, 0), (2, 0), (s, 8), ((3+s), 5), (1, 0)] rfl rfl ⟨⟨⟨⟨trivial, (by first | exact rfl | assumption | exact ⟨rfl, rfl⟩ | exact ⟨rfl, rfl, by omega⟩ | exact ⟨by assumption, rfl, by omega⟩ | exact ⟨⟨_, rfl, rfl⟩, by decide, by decide, rfl, by omega⟩ | omega | decide)⟩, (by first | exact rfl | assumption | exact ⟨rfl, rfl⟩ | exact ⟨rfl, rfl, by omega⟩ | exact ⟨by assumption, rfl, by omega⟩ | exact ⟨⟨_, rfl, rfl⟩, by decide, by decide, rfl, by omega⟩ | omega | decide)⟩, kd_fr (b := 1) hb1 hs⟩, (by first | exact rfl | assumption | exact ⟨rfl, rfl⟩ | exact ⟨rfl, rfl, by omega⟩ | exact ⟨by assumption, rfl, by omega⟩ | exact ⟨⟨_, rfl, rfl⟩, by decide, by decide, rfl, by omega⟩ | omega | decide)⟩ ?_
  refine ru_V hV [.ref (3 + s)] sVX7_127 (qX6_blades l hb1 hn hd L) rfl rfl rfl rfl rfl (Nat.le_of_ble_eq_true rfl) ?_
  refine ru_S hV [] sSX7_274 (qX2_densityOf l (kd_row (b := 1) hb1 hs) hB.1 I L) rfl rfl rfl (Nat.le_of_ble_eq_true rfl) ?_
  refine ru_fin hV 1 [] rfl rfl trivial ?_
  exact ⟨rfl, rfl, rfl⟩
theorem xX7_density (l : Launch) (hlt : l.stackTraces = false) {x : Int32} (h : ouR x 8) (I : IM) (L : LM) : TX7_density l [.ref 0, .int x] I L exB I L := by
  refine vX7_density l hlt rfl (fun V hX => ?_)
  have hV := hX.1
  refine ru_go hV 1 [] rfl rfl trivial ?_
  exact rx_cS hX [] sSX7_97 (xX7_requireSlot l hlt h I L) rfl rfl rfl (Nat.le_of_ble_eq_true rfl)
/-- the share of a row -/
def shF (f : Nat → Int32) (g : Nat) : UInt64 := shQ (shA f (nI g) 32) (shB f 32)
theorem qX7_share (l : Launch) {s g n : Nat} (hs : s < 8) (hg : g ≤ n) (hn : n ≤ 5) {I : IM} (hd : I 1 0 = nI n) (hv : vf_n64 (shF (I (3 + s)) g)) (L : LM) : KX7_share l [.ref 0, .int (nI s), .int (nI g)] I L (some (.double (shF (I (3 + s)) g))) I L := by
  refine wX7_share l rfl (hz0 (by decide)) (fun V hV => ?_)
  refine ru_go hV 1 [] rfl rfl trivial ?_
  refine ru_S hV [] sSX7_97 (qX7_requireSlot l hs I L) rfl rfl rfl (Nat.le_of_ble_eq_true rfl) ?_
  refine ru_go hV 2 [] rfl rfl trivial ?_
  refine ru_V hV [] sVX7_142 (qX7_requireGrade l hg hn hd L) rfl rfl rfl rfl rfl (Nat.le_of_ble_eq_true rfl) ?_
  refine ru_go hV 6 [(1, 0), (2, 0), (s, 8), ((3+s), 5)] rfl rfl ⟨⟨⟨trivial, (by first | exact rfl | assumption | exact ⟨rfl, rfl⟩ | exact ⟨rfl, rfl, by omega⟩ | exact ⟨by assumption, rfl, by omega⟩ | exact ⟨⟨_, rfl, rfl⟩, by decide, by decide, rfl, by omega⟩ | omega | decide)⟩, (by first | exact rfl | assumption | exact ⟨rfl, rfl⟩ | exact ⟨rfl, rfl, by omega⟩ | exact ⟨by assumption, rfl, by omega⟩ | exact ⟨⟨_, rfl, rfl⟩, by decide, by decide, rfl, by omega⟩ | omega | decide)⟩, kd_fr (b := 1) hb1 hs⟩ ?_
  refine ru_S hV [] sSX7_278 (qX2_shareOf l (kd_row (b := 1) hb1 hs) hv L) rfl rfl rfl (Nat.le_of_ble_eq_true rfl) ?_
  refine ru_fin hV 1 [] rfl rfl trivial ?_
  exact ⟨rfl, rfl, rfl⟩
theorem xX7_shareD (l : Launch) (hlt : l.stackTraces = false) {x y : Int32} (h : ouR x 8) (I : IM) (L : LM) : TX7_share l [.ref 0, .int x, .int y] I L exB I L := by
  refine vX7_share l hlt rfl (fun V hX => ?_)
  have hV := hX.1
  refine ru_go hV 1 [] rfl rfl trivial ?_
  exact rx_cS hX [] sSX7_97 (xX7_requireSlot l hlt h I L) rfl rfl rfl (Nat.le_of_ble_eq_true rfl)
theorem xX7_shareV (l : Launch) (hlt : l.stackTraces = false) {s n : Nat} {y : Int32} (hs : s < 8) (hn : n ≤ 5) (h : ouR y (n + 1)) {I : IM} (hd : I 1 0 = nI n) (L : LM) : TX7_share l [.ref 0, .int (nI s), .int y] I L exA I L := by
  refine vX7_share l hlt rfl (fun V hX => ?_)
  have hV := hX.1
  refine ru_go hV 1 [] rfl rfl trivial ?_
  refine ru_S hV [] sSX7_97 (qX7_requireSlot l hs I L) rfl rfl rfl (Nat.le_of_ble_eq_true rfl) ?_
  refine ru_go hV 2 [] rfl rfl trivial ?_
  exact rx_cV hX [] sVX7_142 (xX7_requireGrade l hlt hn h hd L) rfl rfl rfl rfl rfl (Nat.le_of_ble_eq_true rfl)
