/-! THE STATE's OWN WORLD -/
def kdT (i : Nat) : Nat × Nat × Nat := if i < 18 then kdS i else (9, 0, 0)
theorem kt_lt {i : Nat} {r : Nat × Nat × Nat} (h : i < 18) (hr : kdS i = r) : kdT i = r := by unfold kdT; rw [if_pos h]; exact hr
theorem kdT_ok : kdOK kdT 18 := by
  refine ⟨fun i h => ?_, fun i => ?_⟩
  · rcases Nat.lt_or_ge i 18 with h1 | h1
    · exact h1
    · exfalso
      unfold kdT at h
      rw [if_neg (by omega)] at h
      exact absurd h (by decide)
  · unfold kdT
    split
    · exact kdS_lt i
    · decide
theorem kt_st0 {b : Nat} (hb : b = 0) : kdT b = (0, 3, 0) := by subst hb; rfl
theorem kt_row {b x : Nat} (hb : b = 0) (hx : x < 8) : kdT (b + 2 + x) = (1, 32, 0) := by
  subst hb
  exact kt_lt (by omega) (by unfold kdS; simp only [show ¬ 0 + 2 + x = 0 by omega, show ¬ 0 + 2 + x = 1 by omega, show 0 + 2 + x ≤ 9 by omega, if_false, if_true])
theorem kt_mrow {b x : Nat} (hb : b = 0) (hx : x < 5) : kdT (b + 12 + x) = (1, 5, 0) := by
  subst hb
  exact kt_lt (by omega) (by unfold kdS; simp only [show ¬ 0 + 12 + x = 0 by omega, show ¬ 0 + 12 + x = 1 by omega, show ¬ 0 + 12 + x ≤ 9 by omega, show ¬ 0 + 12 + x = 10 by omega, show ¬ 0 + 12 + x = 11 by omega, show 0 + 12 + x ≤ 16 by omega, if_false, if_true])
theorem kt_sg {b : Nat} (hb : b = 0) : kdT (b + 10) = (1, 5, 0) := by subst hb; rfl
theorem kt_fr {b x : Nat} (hb : b = 0) (hx : x < 8) : (∃ w, kdT (b + 1) = (5, 8, w) ∧ b + 2 + x = b + 1 + 1 + x * w) ∧ 4 ≤ 5 ∧ 5 ≤ 6 ∧ nI x = nI x ∧ x < 8 := ⟨⟨1, by subst hb; rfl, by omega⟩, by decide, by decide, rfl, hx⟩
theorem kt_mr {b x : Nat} (hb : b = 0) (hx : x < 5) : (∃ w, kdT (b + 11) = (5, 5, w) ∧ b + 12 + x = b + 11 + 1 + x * w) ∧ 4 ≤ 5 ∧ 5 ≤ 6 ∧ nI x = nI x ∧ x < 5 := ⟨⟨1, by subst hb; rfl, by omega⟩, by decide, by decide, rfl, hx⟩
abbrev KY6_startWith (l : Launch) (av : List Value) (I : IM) (L : LM) (r : Option Value) (I2 : IM) (L2 : LM) : Prop := CR l kdT 18 yX6_startWith cX6_startWith 4 none rmX6_startWith av I L r I2 L2
theorem wY6_startWith (l : Launch) {av : List Value} {I : IM} {L : LM} {r : Option Value} {I2 : IM} {L2 : LM} (hlen : Nat.ble (lg_sl av).length 4 = true) (hz : none = some FieldType.boolean → ∀ x, r = some (.int x) → x = 0 ∨ x = 1) (body : ∀ V : Nat → LV → List Value → IM → LM → Prop, Ru l kdT 18 RX6 cX6_startWith rmX6_startWith FX6 tX6_startWith V (fun st J K => st = r.toList ∧ J = I2 ∧ K = L2) → V 0 (lv_args 0 av) [] I L) : KY6_startWith l av I L r I2 L2 := cr_of (y := yX6_startWith) (cc := cX6_startWith) (nL := 4) (ret := none) (rm := rmX6_startWith) (own := RX6) (F := FX6) (P := tX6_startWith) (by decide +kernel) rfl kdT_ok fokX6 okX6_startWith (by decide +kernel) (by decide +kernel) hlen hz body
theorem qY6_startWith (l : Launch) {b : Nat} {n : Int32} (hb : b = 0) (I : IM) (L : LM) : KY6_startWith l [.ref b, .int n] I L none (nwS I b n) L := by
  have k0 := kt_st0 hb
  refine wY6_startWith l rfl (hz0 (by decide)) (fun V hV => ?_)
  refine ru_go hV 5 [] rfl rfl ⟨trivial, (by first | exact rfl | assumption | exact ⟨rfl, rfl⟩ | exact ⟨rfl, rfl, by omega⟩ | exact ⟨by assumption, rfl, by omega⟩ | exact ⟨⟨_, rfl, rfl⟩, by decide, by decide, rfl, by omega⟩ | omega | decide)⟩ ?_
  have e0 : mu I b 0 n = fb I (fun a j => (a = b ∧ j = 0) ∨ (b + 2 ≤ a ∧ a < b + 2 + 0 ∧ j < 32)) (nwV b n) := by
    exact fb_one (by simp [nwV]) (fun a j => by omega)
  rw [e0]
  refine loop0 (P := fun s => V 7 [(0, .ref b), (1, .int n), (2, .int (nI s))] [] (fb I (fun a j => (a = b ∧ j = 0) ∨ (b + 2 ≤ a ∧ a < b + 2 + s ∧ j < 32)) (nwV b n)) L) 8 (fun h => h) (fun s hs ih => ?_) ?_
  · refine ru_go hV 5 [(0, 0)] rfl rfl ⟨trivial, nI8_ge hs⟩ ?_
    refine loop0 (P := fun k => V 15 [(0, .ref b), (1, .int n), (2, .int (nI s)), (3, .int (nI k))] [] (fb I (fun a j => (a = b ∧ j = 0) ∨ (b + 2 ≤ a ∧ a < b + 2 + s ∧ j < 32) ∨ (a = b + 2 + s ∧ j < k)) (nwV b n)) L) 32 (fun h => by
      rw [fb_cong (q := fun a j => (a = b ∧ j = 0) ∨ (b + 2 ≤ a ∧ a < b + 2 + s ∧ j < 32)) (fun a j => by omega)] at h
      exact h) (fun k hk ih2 => ?_) ?_
    · refine ru_go hV 12 [(0, 0), ((b+1), 0), (s, 8), ((b+2+s), 5), (k, 32)] rfl rfl ⟨⟨⟨⟨trivial, nI32_ge hk⟩, ⟨k0, rfl⟩⟩, kt_fr hb hs⟩, ⟨kt_row hb hs, rfl, hk⟩⟩ ?_
      rw [nI_1, fb_mu (q := fun a j => (a = b ∧ j = 0) ∨ (b + 2 ≤ a ∧ a < b + 2 + s ∧ j < 32) ∨ (a = b + 2 + s ∧ j < k + 1)) (by simp [nwV, show ¬ b + 2 + s = b by omega, show b + 2 + s < b + 10 by omega]) (fun a j => by omega)]
      exact ih2
    · refine ru_go hV 5 [(1, 0)] rfl rfl ⟨trivial, (by first | exact rfl | assumption | exact ⟨rfl, rfl⟩ | exact ⟨rfl, rfl, by omega⟩ | exact ⟨by assumption, rfl, by omega⟩ | exact ⟨⟨_, rfl, rfl⟩, by decide, by decide, rfl, by omega⟩ | omega | decide)⟩ ?_
      rw [nI_1, fb_cong (q := fun a j => (a = b ∧ j = 0) ∨ (b + 2 ≤ a ∧ a < b + 2 + (s + 1) ∧ j < 32)) (fun a j => by omega)]
      exact ru_sub hV [0, 1, 2] rfl ih
  · refine ru_go hV 5 [(1, 0)] rfl rfl ⟨trivial, (by first | exact rfl | assumption | exact ⟨rfl, rfl⟩ | exact ⟨rfl, rfl, by omega⟩ | exact ⟨by assumption, rfl, by omega⟩ | exact ⟨⟨_, rfl, rfl⟩, by decide, by decide, rfl, by omega⟩ | omega | decide)⟩ ?_
    refine loop0 (P := fun r => V 44 [(0, .ref b), (1, .int n), (2, .int (nI r))] [] (fb I (fun a j => (a = b ∧ j = 0) ∨ (b + 2 ≤ a ∧ a < b + 10 ∧ j < 32) ∨ (a = b + 10 ∧ j < r) ∨ (b + 12 ≤ a ∧ a < b + 12 + r ∧ j < 5)) (nwV b n)) L) 5 (fun h => by
      rw [fb_cong (q := fun a j => (a = b ∧ j = 0) ∨ (b + 2 ≤ a ∧ a < b + 2 + 8 ∧ j < 32)) (fun a j => by omega)] at h
      exact h) (fun r hr ih => ?_) ?_
    · refine ru_go hV 10 [(0, 0), ((b+10), 0), (r, 5)] rfl rfl ⟨⟨⟨trivial, nI5_ge hr⟩, ⟨k0, rfl⟩⟩, ⟨kt_sg hb, rfl, hr⟩⟩ ?_
      rw [fb_mu (q := fun a j => (a = b ∧ j = 0) ∨ (b + 2 ≤ a ∧ a < b + 10 ∧ j < 32) ∨ (a = b + 10 ∧ j < r + 1) ∨ (b + 12 ≤ a ∧ a < b + 12 + r ∧ j < 5)) (by simp [nwV]) (fun a j => by omega)]
      refine loop0 (P := fun k => V 58 [(0, .ref b), (1, .int n), (2, .int (nI r)), (3, .int (nI k))] [] (fb I (fun a j => (a = b ∧ j = 0) ∨ (b + 2 ≤ a ∧ a < b + 10 ∧ j < 32) ∨ (a = b + 10 ∧ j < r + 1) ∨ (b + 12 ≤ a ∧ a < b + 12 + r ∧ j < 5) ∨ (a = b + 12 + r ∧ j < k)) (nwV b n)) L) 5 (fun h => by
        rw [fb_cong (q := fun a j => (a = b ∧ j = 0) ∨ (b + 2 ≤ a ∧ a < b + 10 ∧ j < 32) ∨ (a = b + 10 ∧ j < r + 1) ∨ (b + 12 ≤ a ∧ a < b + 12 + r ∧ j < 5)) (fun a j => by omega)] at h
        exact h) (fun k hk ih2 => ?_) ?_
      · by_cases hrk : r = k
        · refine ru_go hV 16 [(0, 0), ((b+11), 0), (r, 5), ((b+12+r), 5), (0, 0), (k, 5)] rfl rfl ⟨⟨⟨⟨⟨trivial, nI5_ge hk⟩, ⟨k0, rfl⟩⟩, kt_mr hb hr⟩, (fun e => e (by rw [hrk]))⟩, ⟨kt_mrow hb hr, rfl, hk⟩⟩ ?_
          rw [nI_1, fb_mu (q := fun a j => (a = b ∧ j = 0) ∨ (b + 2 ≤ a ∧ a < b + 10 ∧ j < 32) ∨ (a = b + 10 ∧ j < r + 1) ∨ (b + 12 ≤ a ∧ a < b + 12 + r ∧ j < 5) ∨ (a = b + 12 + r ∧ j < k + 1)) (by simp [nwV, show ¬ b + 12 + r = b by omega, show ¬ b + 12 + r < b + 10 by omega, show ¬ b + 12 + r = b + 10 by omega, show b + 12 + r - (b + 12) = k by omega]) (fun a j => by omega)]
          exact ih2
        · refine ru_go hV 15 [(0, 0), ((b+11), 0), (r, 5), ((b+12+r), 5), (1, 0), (k, 5)] rfl rfl ⟨⟨⟨⟨⟨trivial, nI5_ge hk⟩, ⟨k0, rfl⟩⟩, kt_mr hb hr⟩, (fun e => hrk ((nI_eq (by omega) (by omega)).mp e))⟩, ⟨kt_mrow hb hr, rfl, hk⟩⟩ ?_
          rw [nI_1, fb_mu (q := fun a j => (a = b ∧ j = 0) ∨ (b + 2 ≤ a ∧ a < b + 10 ∧ j < 32) ∨ (a = b + 10 ∧ j < r + 1) ∨ (b + 12 ≤ a ∧ a < b + 12 + r ∧ j < 5) ∨ (a = b + 12 + r ∧ j < k + 1)) (by simp [nwV, show ¬ b + 12 + r = b by omega, show ¬ b + 12 + r < b + 10 by omega, show ¬ b + 12 + r = b + 10 by omega, hrk]) (fun a j => by omega)]
          exact ih2
      · refine ru_go hV 5 [(1, 0)] rfl rfl ⟨trivial, (by first | exact rfl | assumption | exact ⟨rfl, rfl⟩ | exact ⟨rfl, rfl, by omega⟩ | exact ⟨by assumption, rfl, by omega⟩ | exact ⟨⟨_, rfl, rfl⟩, by decide, by decide, rfl, by omega⟩ | omega | decide)⟩ ?_
        rw [nI_1, fb_cong (q := fun a j => (a = b ∧ j = 0) ∨ (b + 2 ≤ a ∧ a < b + 10 ∧ j < 32) ∨ (a = b + 10 ∧ j < r + 1) ∨ (b + 12 ≤ a ∧ a < b + 12 + (r + 1) ∧ j < 5)) (fun a j => by omega)]
        exact ru_sub hV [0, 1, 2] rfl ih
    · refine ru_fin hV 4 [(1, 0)] rfl rfl ⟨trivial, (by first | exact rfl | assumption | exact ⟨rfl, rfl⟩ | exact ⟨rfl, rfl, by omega⟩ | exact ⟨by assumption, rfl, by omega⟩ | exact ⟨⟨_, rfl, rfl⟩, by decide, by decide, rfl, by omega⟩ | omega | decide)⟩ ?_
      exact ⟨rfl, fb_cong (fun a j => by unfold scP; omega), rfl⟩
