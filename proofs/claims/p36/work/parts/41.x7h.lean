/-! the desk: counts, shares, the digest -/
/-- a count of the desk -/
def coF (I : IM) (n k : Nat) : Int32 := if 5 ≤ k ∧ k < 14 then I 18 (k - 5) else if 20 ≤ k then (if k - 20 < n then I 11 (k - 20) else 0) else match k with
  | 0 => nI n
  | 1 => nI (cfS I 1 8)
  | 2 => I 19 2
  | 3 => (gw (fun q p => I (13 + q) p) n (2 ^ n - 1) n (2 ^ n - 1)).toInt32
  | 4 => sgB (I 11) (2 ^ n - 1) 5
  | _ => tkF I
def okC (k : Nat) : Prop := k ≤ 14 ∨ (20 ≤ k ∧ k ≤ 24)
theorem qX7_count (l : Launch) {k n : Nat} (hk : okC k) (hn : n ≤ 5) {I : IM} (hd : I 1 0 = nI n) (L : LM) : ∃ L2, KX7_count l [.ref 0, .int (nI k)] I L (some (.int (coF I n k))) I L2 := by
  have hk24 : k ≤ 24 := by unfold okC at hk; omega
  have hB := pow_le32 n hn
  by_cases h1 : 5 ≤ k ∧ k < 14
  · refine ⟨L, wX7_count l rfl (hz0 (by decide)) (fun V hV => ?_)⟩
    unfold coF at hV
    rw [if_pos h1] at hV
    refine ru_fin hV 14 [(0, 0), (0, 0), (1, 0), (18, 0), ((k-5), 9)] rfl rfl ⟨⟨⟨⟨⟨trivial, nI_nlt (b := 5) h1.1 (by omega)⟩, nI_nge (n := 14) h1.2 (by omega)⟩, (by first | exact rfl | assumption | exact ⟨rfl, rfl⟩ | exact ⟨rfl, rfl, by omega⟩ | exact ⟨by assumption, rfl, by omega⟩ | exact ⟨⟨_, rfl, rfl⟩, by decide, by decide, rfl, by omega⟩ | omega | decide)⟩, (by first | exact rfl | assumption | exact ⟨rfl, rfl⟩ | exact ⟨rfl, rfl, by omega⟩ | exact ⟨by assumption, rfl, by omega⟩ | exact ⟨⟨_, rfl, rfl⟩, by decide, by decide, rfl, by omega⟩ | omega | decide)⟩, ⟨rfl, nI_sub (b := 5) h1.1, by omega⟩⟩ ?_
    exact ⟨rfl, rfl, rfl⟩
  · by_cases h2 : 20 ≤ k
    · refine ⟨L, wX7_count l rfl (hz0 (by decide)) (fun V hV => ?_)⟩
      unfold coF at hV
      rw [if_neg h1, if_pos h2] at hV
      refine ru_go hV 16 [(0, 0), (1, 0), (0, 0), (0, 0)] rfl rfl ⟨⟨⟨⟨trivial, nI_nlt (b := 5) (by omega) (by omega)⟩, nI_le (a := 14) (by omega) (by omega)⟩, nI_nlt (b := 20) h2 (by omega)⟩, nI_nlt (a := 24) (b := k) (by omega) (by omega)⟩ ?_
      rw [show nI k - 20 = nI (k - 20) from nI_sub (b := 20) h2]
      refine ru_V hV [] sVX7_259 (qX7_signOrZero l (k := k - 20) (by omega) hn hd L) rfl rfl rfl rfl rfl (Nat.le_of_ble_eq_true rfl) ?_
      refine ru_fin hV 1 [] rfl rfl trivial ?_
      exact ⟨rfl, rfl, rfl⟩
    · have head : ∀ (E : List Value → IM → LM → Prop) (V : Nat → LV → List Value → IM → LM → Prop), Ru l kdC 181 RX7 cX7_count rmX7_count FX7 tX7_count V E → V 45 [(0, .ref 0), (1, .int (nI k))] [.int (nI k)] I L → V 0 [(0, .ref 0), (1, .int (nI k))] [] I L := fun E V hV h => by
        by_cases h3 : k < 5
        · refine ru_go hV 7 [(1, 0), (1, 0)] rfl rfl ⟨⟨trivial, nI_lt (b := 5) h3 (by omega)⟩, nI_lt (b := 20) (by omega) (by omega)⟩ ?_
          exact h
        · refine ru_go hV 10 [(0, 0), (1, 0), (1, 0)] rfl rfl ⟨⟨⟨trivial, nI_nlt (b := 5) (by omega) (by omega)⟩, nI_le (a := 14) (by omega) (by omega)⟩, nI_lt (b := 20) (by omega) (by omega)⟩ ?_
          exact h
      have sw := fun (V : Nat → LV → List Value → IM → LM → Prop) (E : List Value → IM → LM → Prop) (hV : Ru l kdC 181 RX7 cX7_count rmX7_count FX7 tX7_count V E) (tgt : Nat) h1 h2 h3 => ru_sw hV (tgt := tgt) swX7_count_45 h1 h2 h3 (x := nI k) (rest := []) (lv := [(0, .ref 0), (1, .int (nI k))]) (I := I) (L := L)
      have hkk : k = 0 ∨ k = 1 ∨ k = 2 ∨ k = 3 ∨ k = 4 ∨ k = 14 := by unfold okC at hk; omega
      rcases hkk with rfl | rfl | rfl | rfl | rfl | rfl
      · refine ⟨L, wX7_count l rfl (hz0 (by decide)) (fun V hV => ?_)⟩
        refine head _ V hV (sw V _ hV 120 (by decide) (fun _ _ => ⟨75, by decide, by decide⟩) ?_)
        refine ru_fin hV 4 [(1, 0)] rfl rfl ⟨⟨trivial, (by first | exact rfl | assumption | exact ⟨rfl, rfl⟩ | exact ⟨rfl, rfl, by omega⟩ | exact ⟨by assumption, rfl, by omega⟩ | exact ⟨⟨_, rfl, rfl⟩, by decide, by decide, rfl, by omega⟩ | omega | decide)⟩, (by first | exact rfl | assumption | exact ⟨rfl, rfl⟩ | exact ⟨rfl, rfl, by omega⟩ | exact ⟨by assumption, rfl, by omega⟩ | exact ⟨⟨_, rfl, rfl⟩, by decide, by decide, rfl, by omega⟩ | omega | decide)⟩ ?_
        rw [hd]
        exact ⟨rfl, rfl, rfl⟩
      · refine ⟨L, wX7_count l rfl (hz0 (by decide)) (fun V hV => ?_)⟩
        refine head _ V hV (sw V _ hV 128 (by decide) (fun _ _ => ⟨83, by decide, by decide⟩) ?_)
        refine ru_go hV 2 [(1, 0)] rfl rfl ⟨trivial, (by first | exact rfl | assumption | exact ⟨rfl, rfl⟩ | exact ⟨rfl, rfl, by omega⟩ | exact ⟨by assumption, rfl, by omega⟩ | exact ⟨⟨_, rfl, rfl⟩, by decide, by decide, rfl, by omega⟩ | omega | decide)⟩ ?_
        refine ru_V hV [] sVX7_193 (qX6_countForms l hb1 I L) rfl rfl rfl rfl rfl (Nat.le_of_ble_eq_true rfl) ?_
        refine ru_fin hV 1 [] rfl rfl trivial ?_
        exact ⟨rfl, rfl, rfl⟩
      · refine ⟨L, wX7_count l rfl (hz0 (by decide)) (fun V hV => ?_)⟩
        refine head _ V hV (sw V _ hV 136 (by decide) (fun _ _ => ⟨91, by decide, by decide⟩) ?_)
        refine ru_fin hV 4 [(19, 0)] rfl rfl ⟨⟨trivial, (by first | exact rfl | assumption | exact ⟨rfl, rfl⟩ | exact ⟨rfl, rfl, by omega⟩ | exact ⟨by assumption, rfl, by omega⟩ | exact ⟨⟨_, rfl, rfl⟩, by decide, by decide, rfl, by omega⟩ | omega | decide)⟩, (by first | exact rfl | assumption | exact ⟨rfl, rfl⟩ | exact ⟨rfl, rfl, by omega⟩ | exact ⟨by assumption, rfl, by omega⟩ | exact ⟨⟨_, rfl, rfl⟩, by decide, by decide, rfl, by omega⟩ | omega | decide)⟩ ?_
        exact ⟨rfl, rfl, rfl⟩
      · obtain ⟨f, hK⟩ := qX5_determinant l hb1 hn (r := 169) rfl hd L
        refine ⟨lay L 169 32 f, wX7_count l rfl (hz0 (by decide)) (fun V hV => ?_)⟩
        refine head _ V hV (sw V _ hV 144 (by decide) (fun _ _ => ⟨99, by decide, by decide⟩) ?_)
        refine ru_go hV 4 [(1, 0), (169, 0)] rfl rfl ⟨⟨trivial, (by first | exact rfl | assumption | exact ⟨rfl, rfl⟩ | exact ⟨rfl, rfl, by omega⟩ | exact ⟨by assumption, rfl, by omega⟩ | exact ⟨⟨_, rfl, rfl⟩, by decide, by decide, rfl, by omega⟩ | omega | decide)⟩, (by first | exact rfl | assumption | exact ⟨rfl, rfl⟩ | exact ⟨rfl, rfl, by omega⟩ | exact ⟨by assumption, rfl, by omega⟩ | exact ⟨⟨_, rfl, rfl⟩, by decide, by decide, rfl, by omega⟩ | omega | decide)⟩ ?_
        refine ru_S hV [] sSX7_262 hK rfl rfl rfl (Nat.le_of_ble_eq_true rfl) ?_
        refine ru_fin hV 1 [] rfl rfl trivial ?_
        exact ⟨rfl, rfl, rfl⟩
      · refine ⟨L, wX7_count l rfl (hz0 (by decide)) (fun V hV => ?_)⟩
        refine head _ V hV (sw V _ hV 156 (by decide) (fun _ _ => ⟨111, by decide, by decide⟩) ?_)
        refine ru_go hV 5 [(1, 0), (11, 0), (1, 0)] rfl rfl ⟨⟨⟨trivial, (by first | exact rfl | assumption | exact ⟨rfl, rfl⟩ | exact ⟨rfl, rfl, by omega⟩ | exact ⟨by assumption, rfl, by omega⟩ | exact ⟨⟨_, rfl, rfl⟩, by decide, by decide, rfl, by omega⟩ | omega | decide)⟩, (by first | exact rfl | assumption | exact ⟨rfl, rfl⟩ | exact ⟨rfl, rfl, by omega⟩ | exact ⟨by assumption, rfl, by omega⟩ | exact ⟨⟨_, rfl, rfl⟩, by decide, by decide, rfl, by omega⟩ | omega | decide)⟩, (by first | exact rfl | assumption | exact ⟨rfl, rfl⟩ | exact ⟨rfl, rfl, by omega⟩ | exact ⟨by assumption, rfl, by omega⟩ | exact ⟨⟨_, rfl, rfl⟩, by decide, by decide, rfl, by omega⟩ | omega | decide)⟩ ?_
        refine ru_V hV [.ref 11] sVX7_127 (qX6_blades l hb1 hn hd L) rfl rfl rfl rfl rfl (Nat.le_of_ble_eq_true rfl) ?_
        refine ru_go hV 2 [] rfl rfl trivial ?_
        rw [show nI (2 ^ n) - 1 = nI (2 ^ n - 1) from nI_sub (b := 1) (by omega)]
        refine ru_S hV [] sSX7_266 (qX5_signOfBlade l (c := 11) (b := 2 ^ n - 1) rfl (by omega) I L) rfl rfl rfl (Nat.le_of_ble_eq_true rfl) ?_
        refine ru_fin hV 1 [] rfl rfl trivial ?_
        exact ⟨rfl, rfl, rfl⟩
      · refine ⟨L, wX7_count l rfl (hz0 (by decide)) (fun V hV => ?_)⟩
        refine head _ V hV (sw V _ hV 176 (by decide) (fun _ _ => ⟨131, by decide, by decide⟩) ?_)
        refine ru_go hV 1 [] rfl rfl trivial ?_
        refine ru_V hV [] sVX7_269 (qX7_countTaken l I L) rfl rfl rfl rfl rfl (Nat.le_of_ble_eq_true rfl) ?_
        refine ru_fin hV 1 [] rfl rfl trivial ?_
        exact ⟨rfl, rfl, rfl⟩
theorem qX7_matrixAt (l : Launch) {r c n : Nat} (hr : r < n) (hc : c < n) (hn : n ≤ 5) {I : IM} (hd : I 1 0 = nI n) (L : LM) : KX7_matrixAt l [.ref 0, .int (nI r), .int (nI c)] I L (some (.int (I (13 + r) c))) I L := by
  refine wX7_matrixAt l rfl (hz0 (by decide)) (fun V hV => ?_)
  refine ru_go hV 2 [] rfl rfl trivial ?_
  refine ru_V hV [] sVX7_81 (qX7_requireDirection l hr hn hd L) rfl rfl rfl rfl rfl (Nat.le_of_ble_eq_true rfl) ?_
  refine ru_go hV 2 [] rfl rfl trivial ?_
  refine ru_V hV [] sVX7_81 (qX7_requireDirection l hc hn hd L) rfl rfl rfl rfl rfl (Nat.le_of_ble_eq_true rfl) ?_
  refine ru_fin hV 8 [(1, 0), (12, 0), (r, 5), ((13+r), 5), (c, 5)] rfl rfl ⟨⟨⟨⟨trivial, (by first | exact rfl | assumption | exact ⟨rfl, rfl⟩ | exact ⟨rfl, rfl, by omega⟩ | exact ⟨by assumption, rfl, by omega⟩ | exact ⟨⟨_, rfl, rfl⟩, by decide, by decide, rfl, by omega⟩ | omega | decide)⟩, (by first | exact rfl | assumption | exact ⟨rfl, rfl⟩ | exact ⟨rfl, rfl, by omega⟩ | exact ⟨by assumption, rfl, by omega⟩ | exact ⟨⟨_, rfl, rfl⟩, by decide, by decide, rfl, by omega⟩ | omega | decide)⟩, kd_mr (b := 1) hb1 (by omega)⟩, ⟨kd_mrow (b := 1) hb1 (by omega), rfl, by omega⟩⟩ ?_
  exact ⟨rfl, rfl, rfl⟩
/-- the share of a row -/
def shF (f : Nat → Int32) (g : Nat) : UInt64 := shQ (shA f (nI g) 32) (shB f 32)
