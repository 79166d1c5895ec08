theorem qX6_countForms (l : Launch) {b : Nat} (hb : isSt b) (I : IM) (L : LM) : KX6_countForms l [.ref b] I L (some (.int (nI (cfS I b 8)))) I L := by
  have k0 := kd_st0 hb
  refine wX6_countForms l rfl (hz0 (by decide)) (fun V hV => ?_)
  refine ru_go hV 4 [] rfl rfl trivial ?_
  refine loop0 (P := fun i => V 4 [(0, .ref b), (1, .int (nI (cfS I b i))), (2, .int (nI i))] [] I L) 8 (fun h => h) (fun i hi ih => ?_) ?_
  · refine ru_go hV 7 [(0, 0), ((b+1), 0), (i, 8), ((b+2+i), 5)] rfl rfl ⟨⟨⟨trivial, nI8_ge hi⟩, ⟨k0, rfl⟩⟩, kd_fr hb hi⟩ ?_
    refine ru_S hV [] sSX6_44 (qX2_leadOf l (kd_row hb hi) I L) rfl rfl rfl (Nat.le_of_ble_eq_true rfl) ?_
    cases h : ldO (I (b + 2 + i)) 32 with
    | some k =>
      obtain ⟨h1, h2⟩ := ldO_some h
      rw [show ldI (I (b + 2 + i)) 32 = nI k by simp [ldI, h]]
      refine ru_go hV 5 [(0, 0)] rfl rfl ⟨trivial, NON_ne (by omega)⟩ ?_
      rw [nI_1, nI_1, show cfS I b i + 1 = cfS I b (i + 1) by simp [cfS, h]]
      exact ih
    | none =>
      rw [show ldI (I (b + 2 + i)) 32 = NON by simp [ldI, h]]
      refine ru_go hV 4 [(1, 0)] rfl rfl ⟨trivial, (by first | exact rfl | assumption | exact ⟨rfl, rfl⟩ | exact ⟨rfl, rfl, by omega⟩ | exact ⟨by assumption, rfl, by omega⟩ | exact ⟨⟨_, rfl, rfl⟩, by decide, by decide, rfl, by omega⟩ | omega | decide)⟩ ?_
      rw [nI_1, show cfS I b i = cfS I b (i + 1) by simp [cfS, h]]
      exact ih
  · refine ru_fin hV 5 [(1, 0)] rfl rfl ⟨trivial, (by first | exact rfl | assumption | exact ⟨rfl, rfl⟩ | exact ⟨rfl, rfl, by omega⟩ | exact ⟨by assumption, rfl, by omega⟩ | exact ⟨⟨_, rfl, rfl⟩, by decide, by decide, rfl, by omega⟩ | omega | decide)⟩ ?_
    exact ⟨rfl, rfl, rfl⟩
theorem qX6_startWith (l : Launch) {b : Nat} {n : Int32} (hb : isSt b) (I : IM) (L : LM) : KX6_startWith l [.ref b, .int n] I L none (nwS I b n) L := by
  have k0 := kd_st0 hb
  refine wX6_startWith l rfl (hz0 (by decide)) (fun V hV => ?_)
  refine ru_go hV 5 [] rfl rfl ⟨trivial, (by first | exact rfl | assumption | exact ⟨rfl, rfl⟩ | exact ⟨rfl, rfl, by omega⟩ | exact ⟨by assumption, rfl, by omega⟩ | exact ⟨⟨_, rfl, rfl⟩, by decide, by decide, rfl, by omega⟩ | omega | decide)⟩ ?_
  have e0 : mu I b 0 n = fb I (fun a j => (a = b ∧ j = 0) ∨ (b + 2 ≤ a ∧ a < b + 2 + 0 ∧ j < 32)) (nwV b n) := by
    exact fb_one (by simp [nwV]) (fun a j => by omega)
  rw [e0]
  refine loop0 (P := fun s => V 7 [(0, .ref b), (1, .int n), (2, .int (nI s))] [] (fb I (fun a j => (a = b ∧ j = 0) ∨ (b + 2 ≤ a ∧ a < b + 2 + s ∧ j < 32)) (nwV b n)) L) 8 (fun h => h) (fun s hs ih => ?_) ?_
  · refine ru_go hV 5 [(0, 0)] rfl rfl ⟨trivial, nI8_ge hs⟩ ?_
    refine loop0 (P := fun k => V 15 [(0, .ref b), (1, .int n), (2, .int (nI s)), (3, .int (nI k))] [] (fb I (fun a j => (a = b ∧ j = 0) ∨ (b + 2 ≤ a ∧ a < b + 2 + s ∧ j < 32) ∨ (a = b + 2 + s ∧ j < k)) (nwV b n)) L) 32 (fun h => by
      rw [fb_cong (q := fun a j => (a = b ∧ j = 0) ∨ (b + 2 ≤ a ∧ a < b + 2 + s ∧ j < 32)) (fun a j => by omega)] at h
      exact h) (fun k hk ih2 => ?_) ?_
    · refine ru_go hV 12 [(0, 0), ((b+1), 0), (s, 8), ((b+2+s), 5), (k, 32)] rfl rfl ⟨⟨⟨⟨trivial, nI32_ge hk⟩, ⟨k0, rfl⟩⟩, kd_fr hb hs⟩, ⟨kd_row hb hs, rfl, hk⟩⟩ ?_
      rw [nI_1, fb_mu (q := fun a j => (a = b ∧ j = 0) ∨ (b + 2 ≤ a ∧ a < b + 2 + s ∧ j < 32) ∨ (a = b + 2 + s ∧ j < k + 1)) (by simp [nwV, show ¬ b + 2 + s = b by omega, show b + 2 + s < b + 10 by omega]) (fun a j => by omega)]
      exact ih2
    · refine ru_go hV 5 [(1, 0)] rfl rfl ⟨trivial, (by first | exact rfl | assumption | exact ⟨rfl, rfl⟩ | exact ⟨rfl, rfl, by omega⟩ | exact ⟨by assumption, rfl, by omega⟩ | exact ⟨⟨_, rfl, rfl⟩, by decide, by decide, rfl, by omega⟩ | omega | decide)⟩ ?_
      rw [nI_1, fb_cong (q := fun a j => (a = b ∧ j = 0) ∨ (b + 2 ≤ a ∧ a < b + 2 + (s + 1) ∧ j < 32)) (fun a j => by omega)]
      exact ru_sub hV [0, 1, 2] rfl ih
  · refine ru_go hV 5 [(1, 0)] rfl rfl ⟨trivial, (by first | exact rfl | assumption | exact ⟨rfl, rfl⟩ | exact ⟨rfl, rfl, by omega⟩ | exact ⟨by assumption, rfl, by omega⟩ | exact ⟨⟨_, rfl, rfl⟩, by decide, by decide, rfl, by omega⟩ | omega | decide)⟩ ?_
    refine loop0 (P := fun r => V 44 [(0, .ref b), (1, .int n), (2, .int (nI r))] [] (fb I (fun a j => (a = b ∧ j = 0) ∨ (b + 2 ≤ a ∧ a < b + 10 ∧ j < 32) ∨ (a = b + 10 ∧ j < r) ∨ (b + 12 ≤ a ∧ a < b + 12 + r ∧ j < 5)) (nwV b n)) L) 5 (fun h => by
      rw [fb_cong (q := fun a j => (a = b ∧ j = 0) ∨ (b + 2 ≤ a ∧ a < b + 2 + 8 ∧ j < 32)) (fun a j => by omega)] at h
      exact h) (fun r hr ih => ?_) ?_
    · refine ru_go hV 10 [(0, 0), ((b+10), 0), (r, 5)] rfl rfl ⟨⟨⟨trivial, nI5_ge hr⟩, ⟨k0, rfl⟩⟩, ⟨kd_sg hb, rfl, hr⟩⟩ ?_
      rw [fb_mu (q := fun a j => (a = b ∧ j = 0) ∨ (b + 2 ≤ a ∧ a < b + 10 ∧ j < 32) ∨ (a = b + 10 ∧ j < r + 1) ∨ (b + 12 ≤ a ∧ a < b + 12 + r ∧ j < 5)) (by simp [nwV]) (fun a j => by omega)]
      refine loop0 (P := fun k => V 58 [(0, .ref b), (1, .int n), (2, .int (nI r)), (3, .int (nI k))] [] (fb I (fun a j => (a = b ∧ j = 0) ∨ (b + 2 ≤ a ∧ a < b + 10 ∧ j < 32) ∨ (a = b + 10 ∧ j < r + 1) ∨ (b + 12 ≤ a ∧ a < b + 12 + r ∧ j < 5) ∨ (a = b + 12 + r ∧ j < k)) (nwV b n)) L) 5 (fun h => by
        rw [fb_cong (q := fun a j => (a = b ∧ j = 0) ∨ (b + 2 ≤ a ∧ a < b + 10 ∧ j < 32) ∨ (a = b + 10 ∧ j < r + 1) ∨ (b + 12 ≤ a ∧ a < b + 12 + r ∧ j < 5)) (fun a j => by omega)] at h
        exact h) (fun k hk ih2 => ?_) ?_
      · by_cases hrk : r = k
        · refine ru_go hV 16 [(0, 0), ((b+11), 0), (r, 5), ((b+12+r), 5), (0, 0), (k, 5)] rfl rfl ⟨⟨⟨⟨⟨trivial, nI5_ge hk⟩, ⟨k0, rfl⟩⟩, kd_mr hb hr⟩, (fun e => e (by rw [hrk]))⟩, ⟨kd_mrow hb hr, rfl, hk⟩⟩ ?_
          rw [nI_1, fb_mu (q := fun a j => (a = b ∧ j = 0) ∨ (b + 2 ≤ a ∧ a < b + 10 ∧ j < 32) ∨ (a = b + 10 ∧ j < r + 1) ∨ (b + 12 ≤ a ∧ a < b + 12 + r ∧ j < 5) ∨ (a = b + 12 + r ∧ j < k + 1)) (by simp [nwV, show ¬ b + 12 + r = b by omega, show ¬ b + 12 + r < b + 10 by omega, show ¬ b + 12 + r = b + 10 by omega, show b + 12 + r - (b + 12) = k by omega]) (fun a j => by omega)]
          exact ih2
        · refine ru_go hV 15 [(0, 0), ((b+11), 0), (r, 5), ((b+12+r), 5), (1, 0), (k, 5)] rfl rfl ⟨⟨⟨⟨⟨trivial, nI5_ge hk⟩, ⟨k0, rfl⟩⟩, kd_mr hb hr⟩, (fun e => hrk ((nI_eq (by omega) (by omega)).mp e))⟩, ⟨kd_mrow hb hr, rfl, hk⟩⟩ ?_
          rw [nI_1, fb_mu (q := fun a j => (a = b ∧ j = 0) ∨ (b + 2 ≤ a ∧ a < b + 10 ∧ j < 32) ∨ (a = b + 10 ∧ j < r + 1) ∨ (b + 12 ≤ a ∧ a < b + 12 + r ∧ j < 5) ∨ (a = b + 12 + r ∧ j < k + 1)) (by simp [nwV, show ¬ b + 12 + r = b by omega, show ¬ b + 12 + r < b + 10 by omega, show ¬ b + 12 + r = b + 10 by omega, hrk]) (fun a j => by omega)]
          exact ih2
      · refine ru_go hV 5 [(1, 0)] rfl rfl ⟨trivial, (by first | exact rfl | assumption | exact ⟨rfl, rfl⟩ | exact ⟨rfl, rfl, by omega⟩ | exact ⟨by assumption, rfl, by omega⟩ | exact ⟨⟨_, rfl, rfl⟩, by decide, by decide, rfl, by omega⟩ | omega | decide)⟩ ?_
        rw [nI_1, fb_cong (q := fun a j => (a = b ∧ j = 0) ∨ (b + 2 ≤ a ∧ a < b + 10 ∧ j < 32) ∨ (a = b + 10 ∧ j < r + 1) ∨ (b + 12 ≤ a ∧ a < b + 12 + (r + 1) ∧ j < 5)) (fun a j => by omega)]
        exact ru_sub hV [0, 1, 2] rfl ih
    · refine ru_fin hV 4 [(1, 0)] rfl rfl ⟨trivial, (by first | exact rfl | assumption | exact ⟨rfl, rfl⟩ | exact ⟨rfl, rfl, by omega⟩ | exact ⟨by assumption, rfl, by omega⟩ | exact ⟨⟨_, rfl, rfl⟩, by decide, by decide, rfl, by omega⟩ | omega | decide)⟩ ?_
      exact ⟨rfl, fb_cong (fun a j => by unfold scP; omega), rfl⟩
theorem qX6_copyScene (l : Launch) {b o : Nat} (hb : isSt b) (ho : isSt o) (hne : b ≠ o) (I : IM) (L : LM) : KX6_copyScene l [.ref b, .ref o] I L none (cpS I b o) L := by
  have k0 := kd_st0 hb
  have k1 := kd_st0 ho
  have hap := st_apart hb ho hne
  refine wX6_copyScene l rfl (hz0 (by decide)) (fun V hV => ?_)
  refine ru_go hV 6 [] rfl rfl ⟨⟨trivial, (by first | exact rfl | assumption | exact ⟨rfl, rfl⟩ | exact ⟨rfl, rfl, by omega⟩ | exact ⟨by assumption, rfl, by omega⟩ | exact ⟨⟨_, rfl, rfl⟩, by decide, by decide, rfl, by omega⟩ | omega | decide)⟩, (by first | exact rfl | assumption | exact ⟨rfl, rfl⟩ | exact ⟨rfl, rfl, by omega⟩ | exact ⟨by assumption, rfl, by omega⟩ | exact ⟨⟨_, rfl, rfl⟩, by decide, by decide, rfl, by omega⟩ | omega | decide)⟩ ?_
  have e0 : mu I b 0 (I o 0) = fb I (fun a j => (a = b ∧ j = 0) ∨ (b + 2 ≤ a ∧ a < b + 2 + 0 ∧ j < 32)) (fun a j => I (o + (a - b)) j) := by
    exact fb_one (by simp) (fun a j => by omega)
  rw [e0]
  refine loop0 (P := fun s => V 10 [(0, .ref b), (1, .ref o), (2, .int (nI s))] [] (fb I (fun a j => (a = b ∧ j = 0) ∨ (b + 2 ≤ a ∧ a < b + 2 + s ∧ j < 32)) (fun a j => I (o + (a - b)) j)) L) 8 (fun h => h) (fun s hs ih => ?_) ?_
  · refine ru_go hV 14 [(0, 0), ((o+1), 0), (s, 8), ((o+2+s), 5), ((b+1), 0), (s, 8), ((b+2+s), 5)] rfl rfl ⟨⟨⟨⟨⟨trivial, nI8_ge hs⟩, ⟨k1, rfl⟩⟩, kd_fr ho hs⟩, ⟨k0, rfl⟩⟩, kd_fr hb hs⟩ ?_
    refine ru_cI hV (n := 32) (rest := []) sNX6_34 (kd_row ho hs) (kd_row hb hs) (Nat.le_refl 32) (Nat.le_refl 32) rfl (by decide +kernel) rfl ?_
    rw [fb_row (q := fun a j => (a = b ∧ j = 0) ∨ (b + 2 ≤ a ∧ a < b + 2 + (s + 1) ∧ j < 32)) (fun j hj => by
      rw [fb_out (by omega)]
      congr 1; omega) (fun a j => by omega)]
    refine ru_go hV 2 [] rfl rfl trivial ?_
    rw [nI_1]
    exact ih
  · refine ru_go hV 10 [(1, 0), ((o+10), 0), ((b+10), 0)] rfl rfl ⟨⟨⟨trivial, (by first | exact rfl | assumption | exact ⟨rfl, rfl⟩ | exact ⟨rfl, rfl, by omega⟩ | exact ⟨by assumption, rfl, by omega⟩ | exact ⟨⟨_, rfl, rfl⟩, by decide, by decide, rfl, by omega⟩ | omega | decide)⟩, ⟨k1, rfl⟩⟩, ⟨k0, rfl⟩⟩ ?_
    refine ru_cI hV (n := 5) (rest := []) sNX6_34 (kd_sg ho) (kd_sg hb) (Nat.le_refl 5) (Nat.le_refl 5) rfl (by decide +kernel) rfl ?_
    rw [fb_row (q := fun a j => (a = b ∧ j = 0) ∨ (b + 2 ≤ a ∧ a < b + 10 ∧ j < 32) ∨ (a = b + 10 ∧ j < 5) ∨ (b + 12 ≤ a ∧ a < b + 12 + 0 ∧ j < 5)) (fun j hj => by
      rw [fb_out (by omega)]
      congr 1; omega) (fun a j => by omega)]
    refine ru_go hV 2 [] rfl rfl trivial ?_
    refine loop0 (P := fun s => V 57 [(0, .ref b), (1, .ref o), (2, .int (nI s))] [] (fb I (fun a j => (a = b ∧ j = 0) ∨ (b + 2 ≤ a ∧ a < b + 10 ∧ j < 32) ∨ (a = b + 10 ∧ j < 5) ∨ (b + 12 ≤ a ∧ a < b + 12 + s ∧ j < 5)) (fun a j => I (o + (a - b)) j)) L) 5 (fun h => h) (fun s hs ih => ?_) ?_
    · refine ru_go hV 14 [(0, 0), ((o+11), 0), (s, 5), ((o+12+s), 5), ((b+11), 0), (s, 5), ((b+12+s), 5)] rfl rfl ⟨⟨⟨⟨⟨trivial, nI5_ge hs⟩, ⟨k1, rfl⟩⟩, kd_mr ho hs⟩, ⟨k0, rfl⟩⟩, kd_mr hb hs⟩ ?_
      refine ru_cI hV (n := 5) (rest := []) sNX6_34 (kd_mrow ho hs) (kd_mrow hb hs) (Nat.le_refl 5) (Nat.le_refl 5) rfl (by decide +kernel) rfl ?_
      rw [fb_row (q := fun a j => (a = b ∧ j = 0) ∨ (b + 2 ≤ a ∧ a < b + 10 ∧ j < 32) ∨ (a = b + 10 ∧ j < 5) ∨ (b + 12 ≤ a ∧ a < b + 12 + (s + 1) ∧ j < 5)) (fun j hj => by
        rw [fb_out (by omega)]
        congr 1; omega) (fun a j => by omega)]
      refine ru_go hV 2 [] rfl rfl trivial ?_
      rw [nI_1]
      exact ih
    · refine ru_fin hV 4 [(1, 0)] rfl rfl ⟨trivial, (by first | exact rfl | assumption | exact ⟨rfl, rfl⟩ | exact ⟨rfl, rfl, by omega⟩ | exact ⟨by assumption, rfl, by omega⟩ | exact ⟨⟨_, rfl, rfl⟩, by decide, by decide, rfl, by omega⟩ | omega | decide)⟩ ?_
      exact ⟨rfl, fb_cong (fun a j => by unfold scP; omega), rfl⟩
theorem qX6_copyAll (l : Launch) {b o : Nat} (hb : isSt b) (ho : isSt o) (hne : b ≠ o) (I : IM) (L : LM) : KX6_copyAll l [.ref b, .ref o] I L none (cpA I b o) L := by
  have k0 := kd_st0 hb
  have k1 := kd_st0 ho
  have hap := st_apart hb ho hne
  refine wX6_copyAll l rfl (hz0 (by decide)) (fun V hV => ?_)
  refine ru_go hV 2 [] rfl rfl trivial ?_
  refine ru_V hV [] sVX6_40 (qX6_copyScene l hb ho hne I L) k0 rfl rfl rfl rfl (Nat.le_of_ble_eq_true rfl) ?_
  refine ru_go hV 7 [((o+17), 0), ((b+17), 0)] rfl rfl ⟨⟨trivial, ⟨k1, rfl⟩⟩, ⟨k0, rfl⟩⟩ ?_
  refine ru_cI hV (n := 9) (rest := []) sNX6_34 (kd_ta ho) (kd_ta hb) (Nat.le_refl 9) (Nat.le_refl 9) rfl (by decide +kernel) rfl ?_
  unfold cpS
  rw [fb_row (q := alP b) (fun j hj => by
    rw [fb_out (by unfold scP; omega)]
    congr 1; omega) (fun a j => Iff.rfl)]
  refine ru_fin hV 1 [] rfl rfl trivial ?_
  exact ⟨rfl, rfl, rfl⟩
