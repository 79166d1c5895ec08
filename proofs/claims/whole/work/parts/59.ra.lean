theorem pow_le_iff {d t b : Nat} (h1 : 2 ^ t ≤ b) (h2 : b < 2 ^ (t + 1)) : 2 ^ d ≤ b ↔ d ≤ t := by
  constructor
  · intro h
    by_cases e : d ≤ t
    · exact e
    · have := Nat.pow_le_pow_right (n := 2) (by decide) (show t + 1 ≤ d by omega)
      omega
  · intro h
    have := Nat.pow_le_pow_right (n := 2) (by decide) h
    omega
theorem nI_le_iff {a b : Nat} (ha : a < 2 ^ 31) (hb : b < 2 ^ 31) : nI a ≤ nI b ↔ a ≤ b := ⟨fun h => by
  by_cases e : a ≤ b
  · exact e
  · exact absurd h (nI_ge (by omega) ha), fun h => nI_le h hb⟩
theorem dX8_nextState (l : Launch) {I : IM} {L : LM} {n m k x : Nat} {g : Bool} {u b : Nat} {c : Nat → Int32} (hx : x = stx m) (hm : m = 4 ∨ m = 5) (hn : n ≤ 5) (hn0 : 0 < n) (hb : b < 2 ^ n) (hd : I 1 0 = nI n) (h : RR I L (m, g, u, b, c)) (hk : k < 128) (hdg : 48 ≤ k ∧ k ≤ 57) : ∃ r I2 L2, RN I (acc n (m, g, u, b, c) k) r I2 L2 ∧ ∀ V : Nat → LV → List Value → IM → LM → Prop, Ru l kdR 12 RX8 cX8_nextState rmX8_nextState FX8 tX8_nextState V (fun st J K => st = [.int r] ∧ J = I2 ∧ K = L2) → V 136 [(0, .ref 0), (1, .int (nI x)), (2, .int (nI k))] [] I L := by
  obtain ⟨h18, hc, h16, hu, hb0, h4, h5⟩ := h
  have hb32 := pow_mono n hn b hb
  have hlast : ∀ d, d < 10 → (nI d ≤ I 0 17 ↔ 2 ^ d ≤ b) := by
    intro d hd
    rcases hm with rfl | rfl
    · rw [h4 rfl, hb0 (by decide)]
      exact ⟨fun e => absurd e (Int32.not_le.mpr (Int32.lt_of_lt_of_le (show (-1 : Int32) < nI 0 by decide) (nI_le (Nat.zero_le d) (by omega)))), fun e => absurd e (by have := Nat.two_pow_pos d; omega)⟩
    · obtain ⟨t, t1, t2, t3, t4⟩ := h5 rfl
      rw [t2, nI_le_iff (by omega) (by omega), pow_le_iff t3 t4]
  have hd10 : k - 48 < 10 := by omega
  have ea : acc n (m, g, u, b, c) k = if n ≤ k - 48 ∨ 2 ^ (k - 48) ≤ b then none else some (5, g, u, b ||| 2 ^ (k - 48), c) := by
    unfold acc acD
    rw [if_neg (by omega), if_neg (by omega), if_pos hdg]
    simp only
    rw [if_neg (by rcases hm with rfl | rfl <;> simp), if_neg (by rcases hm with rfl | rfl <;> decide), if_neg (by rcases hm with rfl | rfl <;> decide), if_pos hm]
  rw [ea]
  have e48 := sub_48 hdg.1
  generalize k - 48 = d at hd10 e48
  have refuse : ∀ V : Nat → LV → List Value → IM → LM → Prop, Ru l kdR 12 RX8 cX8_nextState rmX8_nextState FX8 tX8_nextState V (fun st J K => st = [.int NON] ∧ J = mu (mu I 0 16 (nI b)) 0 17 (nI d) ∧ K = L) → V 161 [(0, .ref 0), (1, .int (nI x)), (2, .int (nI k)), (3, .int (nI d))] [] I L := fun V hV => by
    refine ru_fin hV 17 [(1, 0), (1, 0)] rfl rfl ⟨⟨⟨⟨⟨trivial, (by first | exact rfl | assumption | exact ⟨rfl, rfl⟩ | exact ⟨rfl, rfl, by omega⟩ | exact ⟨by assumption, rfl, by omega⟩ | exact ⟨⟨_, rfl, rfl⟩, by decide, by decide, rfl, by omega⟩ | omega | decide)⟩, rfl⟩, (by first | exact rfl | assumption | exact ⟨rfl, rfl⟩ | exact ⟨rfl, rfl, by omega⟩ | exact ⟨by assumption, rfl, by omega⟩ | exact ⟨⟨_, rfl, rfl⟩, by decide, by decide, rfl, by omega⟩ | omega | decide)⟩, (by first | exact rfl | assumption | exact ⟨rfl, rfl⟩ | exact ⟨rfl, rfl, by omega⟩ | exact ⟨by assumption, rfl, by omega⟩ | exact ⟨⟨_, rfl, rfl⟩, by decide, by decide, rfl, by omega⟩ | omega | decide)⟩, (by first | exact rfl | assumption | exact ⟨rfl, rfl⟩ | exact ⟨rfl, rfl, by omega⟩ | exact ⟨by assumption, rfl, by omega⟩ | exact ⟨⟨_, rfl, rfl⟩, by decide, by decide, rfl, by omega⟩ | omega | decide)⟩ ?_
    exact ⟨rfl, by rw [h16, Int32.or_zero], rfl⟩
  by_cases e1 : n ≤ d
  · rw [if_pos (Or.inl e1)]
    refine ⟨NON, mu (mu I 0 16 (nI b)) 0 17 (nI d), L, ⟨(RFm I (by decide) _).tr (RFm _ (by decide) _), rfl⟩, fun V hV => ?_⟩
    refine ru_go hV 6 [] rfl rfl trivial ?_
    rw [e48]
    refine ru_V hV [] sVX8_76 (xX8_isDirection l (Or.inr (nI_le e1 (by omega))) hn0 hn hd L) rfl rfl rfl rfl rfl (Nat.le_of_ble_eq_true rfl) ?_
    refine ru_go hV 1 [(1, 0)] rfl rfl ⟨trivial, (by first | exact rfl | assumption | exact ⟨rfl, rfl⟩ | exact ⟨rfl, rfl, by omega⟩ | exact ⟨by assumption, rfl, by omega⟩ | exact ⟨⟨_, rfl, rfl⟩, by decide, by decide, rfl, by omega⟩ | omega | decide)⟩ ?_
    exact refuse V hV
  · by_cases e2 : 2 ^ d ≤ b
    · rw [if_pos (Or.inr e2)]
      refine ⟨NON, mu (mu I 0 16 (nI b)) 0 17 (nI d), L, ⟨(RFm I (by decide) _).tr (RFm _ (by decide) _), rfl⟩, fun V hV => ?_⟩
      refine ru_go hV 6 [] rfl rfl trivial ?_
      rw [e48]
      refine ru_V hV [] sVX8_76 (qX8_isDirection l (by omega) hn hd L) rfl rfl rfl rfl rfl (Nat.le_of_ble_eq_true rfl) ?_
      refine ru_go hV 5 [(0, 0), (1, 0)] rfl rfl ⟨⟨⟨trivial, (by decide)⟩, (by first | exact rfl | assumption | exact ⟨rfl, rfl⟩ | exact ⟨rfl, rfl, by omega⟩ | exact ⟨by assumption, rfl, by omega⟩ | exact ⟨⟨_, rfl, rfl⟩, by decide, by decide, rfl, by omega⟩ | omega | decide)⟩, (hlast d hd10).mpr e2⟩ ?_
      exact refuse V hV
    · rw [if_neg (fun e => e.elim e1 e2)]
      have hd5 : d < 5 := by omega
      refine ⟨4, mu (mu I 0 16 (nI (b ||| 2 ^ d))) 0 17 (nI d), L, ⟨(RFm I (by decide) _).tr (RFm _ (by decide) _), rfl, by rw [mu_0 (by decide), mu_0 (by decide)]; exact h18, hc, by rw [mu_0 (by decide), mu_self], ?_, fun e => absurd e (by decide), fun e => absurd e (by decide), fun _ => ⟨d, hd5, mu_self _ _ _ _, Nat.right_le_or, Nat.or_lt_two_pow (by rw [Nat.pow_succ]; omega) (Nat.pow_lt_pow_right (by decide) (Nat.lt_succ_self d))⟩⟩, fun V hV => ?_⟩
      · rcases hu with ⟨a1, a2, a3⟩ | ⟨d', a1, a2, a3, a4, a5, a6, a7⟩
        · exact Or.inl ⟨by rw [mu_0 (by decide), mu_0 (by decide)]; exact a1, a2, by decide⟩
        · exact Or.inr ⟨d', a1, a2, by rw [mu_0 (by decide), mu_0 (by decide)]; exact a3, by rw [mu_0 (by decide), mu_0 (by decide)]; exact a4, a5, a6, by decide⟩
      · refine ru_go hV 6 [] rfl rfl trivial ?_
        rw [e48]
        refine ru_V hV [] sVX8_76 (qX8_isDirection l (by omega) hn hd L) rfl rfl rfl rfl rfl (Nat.le_of_ble_eq_true rfl) ?_
        refine ru_fin hV 27 [(0, 0), (0, 0), (0, 0), (0, 0)] rfl rfl ⟨⟨⟨⟨⟨⟨⟨⟨trivial, (by decide)⟩, (by first | exact rfl | assumption | exact ⟨rfl, rfl⟩ | exact ⟨rfl, rfl, by omega⟩ | exact ⟨by assumption, rfl, by omega⟩ | exact ⟨⟨_, rfl, rfl⟩, by decide, by decide, rfl, by omega⟩ | omega | decide)⟩, (fun e => e2 ((hlast d hd10).mp e))⟩, (by first | exact rfl | assumption | exact ⟨rfl, rfl⟩ | exact ⟨rfl, rfl, by omega⟩ | exact ⟨by assumption, rfl, by omega⟩ | exact ⟨⟨_, rfl, rfl⟩, by decide, by decide, rfl, by omega⟩ | omega | decide)⟩, (by decide)⟩, (by first | exact rfl | assumption | exact ⟨rfl, rfl⟩ | exact ⟨rfl, rfl, by omega⟩ | exact ⟨by assumption, rfl, by omega⟩ | exact ⟨⟨_, rfl, rfl⟩, by decide, by decide, rfl, by omega⟩ | omega | decide)⟩, (by first | exact rfl | assumption | exact ⟨rfl, rfl⟩ | exact ⟨rfl, rfl, by omega⟩ | exact ⟨by assumption, rfl, by omega⟩ | exact ⟨⟨_, rfl, rfl⟩, by decide, by decide, rfl, by omega⟩ | omega | decide)⟩, (by decide)⟩ ?_
        rw [h16, bl_sh d (by omega), orI b hb32 (2 ^ d) (pow2_lt d hd5)]
        exact ⟨rfl, rfl, rfl⟩
theorem qX8_nextState (l : Launch) {I : IM} {L : LM} {n k : Nat} {s : Fs} (hs : VF n s) (hn : n ≤ 5) (hn0 : 0 < n) (hd : I 1 0 = nI n) (h : RR I L s) (hk : k < 128) : ∃ r I2 L2, RN I (acc n s k) r I2 L2 ∧ KX8_nextState l [.ref 0, .int (nI (stx s.1)), .int (nI k)] I L (some (.int r)) I2 L2 := by
  obtain ⟨m, g, u, b, c⟩ := s
  obtain ⟨hm5, hu5, hb⟩ := hs
  have hm5 : m ≤ 5 := hm5
  have hb : b < 2 ^ n := hb
  have hb32 := pow_mono n hn b hb
  have non : ∀ (V : Nat → LV → List Value → IM → LM → Prop) (x : Nat), x < 6 → x ≠ 2 → x ≠ 4 → Ru l kdR 12 RX8 cX8_nextState rmX8_nextState FX8 tX8_nextState V (fun st J K => st = (some (Value.int NON)).toList ∧ J = I ∧ K = L) → V 202 [(0, .ref 0), (1, .int (nI x)), (2, .int (nI k))] [] I L := fun V x h6 h2 h4 hV => by
    refine ru_fin hV 8 [(0, 0), (1, 0)] rfl rfl ⟨⟨trivial, ci_ne (by omega) (by decide) h2⟩, ci_ne (by omega) (by decide) h4⟩ ?_
    exact ⟨rfl, rfl, rfl⟩
  match m, hm5 with
  | 0, _ =>
    show ∃ r I2 L2, RN I (acc n (0, g, u, b, c) k) r I2 L2 ∧ KX8_nextState l [.ref 0, .int (nI 0), .int (nI k)] I L (some (.int r)) I2 L2
    by_cases e1 : k = 48
    · subst e1
      refine ⟨5, I, L, ⟨RF.rf I, rfl, ?_⟩, wX8_nextState l rfl (hz0 (by decide)) (fun V hV => ?_)⟩
      · obtain ⟨h18, hc, h16, hu, hb0, -, -⟩ := h
        refine ⟨h18, hc, h16, ?_, fun _ => hb0 (by decide), fun e => absurd e (by decide), fun e => absurd e (by decide)⟩
        rcases hu with a | ⟨d, a⟩
        · exact Or.inl ⟨a.1, a.2.1, by decide⟩
        · exact absurd a.2.2.2.2.2.2 (by decide)
      · refine ru_fin hV 7 [(0, 0), (0, 0)] rfl rfl ⟨⟨trivial, (fun e => e rfl)⟩, (fun e => e rfl)⟩ ?_
        exact ⟨rfl, rfl, rfl⟩
    · by_cases e2 : k = 45
      · subst e2
        refine ⟨1, mu I 0 18 1, L, ⟨RFm I (by decide) _, rfl, ?_⟩, wX8_nextState l rfl (hz0 (by decide)) (fun V hV => ?_)⟩
        · obtain ⟨h18, hc, h16, hu, hb0, -, -⟩ := h
          refine ⟨mu_self _ _ _ _, hc, by rw [mu_0 (by decide), h16, hb0 (by decide)], ?_, fun _ => rfl, fun e => absurd e (by decide), fun e => absurd e (by decide)⟩
          rcases hu with a | ⟨d, a⟩
          · exact Or.inl ⟨by rw [mu_0 (by decide)]; exact a.1, rfl, by decide⟩
          · exact absurd a.2.2.2.2.2.2 (by decide)
        · refine ru_fin hV 15 [(0, 0), (1, 0), (0, 0), (0, 0)] rfl rfl ⟨⟨⟨⟨⟨trivial, (fun e => e rfl)⟩, (by decide)⟩, (fun e => e rfl)⟩, (fun e => e rfl)⟩, (by first | exact rfl | assumption | exact ⟨rfl, rfl⟩ | exact ⟨rfl, rfl, by omega⟩ | exact ⟨by assumption, rfl, by omega⟩ | exact ⟨⟨_, rfl, rfl⟩, by decide, by decide, rfl, by omega⟩ | omega | decide)⟩ ?_
          exact ⟨rfl, rfl, rfl⟩
      · obtain ⟨r, I2, L2, hR, hK⟩ := qX8_beginTerm l (n := n) (k := k) h (by decide) hk (fun _ => ⟨e1, e2⟩)
        refine ⟨r, I2, L2, hR, wX8_nextState l rfl (hz0 (by decide)) (fun V hV => ?_)⟩
        refine ru_go hV 15 [(0, 0), (1, 0), (0, 0), (1, 0), (0, 0)] rfl rfl ⟨⟨⟨⟨⟨trivial, (fun e => e rfl)⟩, ci_ne hk (by decide) e1⟩, (fun e => e rfl)⟩, ci_ne hk (by decide) e2⟩, (by decide)⟩ ?_
        refine ru_V hV [] sVX8_160 hK rfl rfl rfl rfl rfl (Nat.le_of_ble_eq_true rfl) ?_
        refine ru_fin hV 1 [] rfl rfl trivial ?_
        exact ⟨rfl, rfl, rfl⟩
  | 1, _ =>
    show ∃ r I2 L2, RN I (acc n (1, g, u, b, c) k) r I2 L2 ∧ KX8_nextState l [.ref 0, .int (nI 1), .int (nI k)] I L (some (.int r)) I2 L2
    obtain ⟨r, I2, L2, hR, hK⟩ := qX8_beginTerm l (n := n) (k := k) h (by decide) hk (fun e => absurd e (by decide))
    refine ⟨r, I2, L2, hR, wX8_nextState l rfl (hz0 (by decide)) (fun V hV => ?_)⟩
    refine ru_go hV 9 [(1, 0), (1, 0), (0, 0)] rfl rfl ⟨⟨⟨trivial, (by decide)⟩, (by decide)⟩, (by decide)⟩ ?_
    refine ru_V hV [] sVX8_160 hK rfl rfl rfl rfl rfl (Nat.le_of_ble_eq_true rfl) ?_
    refine ru_fin hV 1 [] rfl rfl trivial ?_
    exact ⟨rfl, rfl, rfl⟩
  | 2, _ =>
    show ∃ r I2 L2, RN I (acc n (2, g, u, b, c) k) r I2 L2 ∧ KX8_nextState l [.ref 0, .int (nI 5), .int (nI k)] I L (some (.int r)) I2 L2
    refine ⟨NON, I, L, ⟨RF.rf I, ?_⟩, wX8_nextState l rfl (hz0 (by decide)) (fun V hV => ?_)⟩
    · have ea : acc n (2, g, u, b, c) k = none := by
        unfold acc acS acE acD
        simp only
        split
        · rw [if_neg (by decide), if_neg (by simp)]
        · split
          · rw [if_neg (by decide)]
          · split
            · rw [if_neg (by simp), if_neg (by decide), if_neg (by decide), if_neg (by decide)]
            · rfl
      rw [ea]
    · refine ru_go hV 19 [(1, 0), (1, 0), (1, 0), (1, 0), (1, 0), (0, 0), (1, 0)] rfl rfl ⟨⟨⟨⟨⟨⟨⟨trivial, (by decide)⟩, (by decide)⟩, (by decide)⟩, (by decide)⟩, (by decide)⟩, (by decide)⟩, (by decide)⟩ ?_
      exact non V 5 (by decide) (by decide) (by decide) hV
  | 3, _ =>
    show ∃ r I2 L2, RN I (acc n (3, g, u, b, c) k) r I2 L2 ∧ KX8_nextState l [.ref 0, .int (nI 2), .int (nI k)] I L (some (.int r)) I2 L2
    by_cases e1 : 48 ≤ k ∧ k ≤ 57
    · have ea : acc n (3, g, u, b, c) k = if 9999 < u then none else some (3, g, u * 10 + (k - 48), b, c) := by
        unfold acc acD
        rw [if_neg (by omega), if_neg (by omega), if_pos e1]
        simp only
        rw [if_neg (by omega), if_neg (by omega), if_pos trivial]
      obtain ⟨h18, hc, h16, hu, hb0, -, -⟩ := h
      obtain ⟨d, d1, d2, h14, h15, p1, p2, -⟩ := hu.resolve_left (fun e => e.2.2 rfl)
      have hu9 : u < 100000 := hu5
      have walk : ∀ V : Nat → LV → List Value → IM → LM → Prop, ∀ r, Ru l kdR 12 RX8 cX8_nextState rmX8_nextState FX8 tX8_nextState V (fun st J K => st = (some (Value.int r)).toList ∧ J = mu (mu I 0 15 (nI (u * 10 + (k - 48)))) 0 14 (nI (d + 1)) ∧ K = L) → V 86 [(0, .ref 0), (1, .int (nI 2)), (2, .int (nI k))] [.int (nI (d + 1))] (mu (mu I 0 15 (nI (u * 10 + (k - 48)))) 0 14 (nI (d + 1))) L → V 0 [(0, .ref 0), (1, .int (nI 2)), (2, .int (nI k))] [] I L := fun V r hV hh => by
        refine ru_go hV 13 [(1, 0), (1, 0), (1, 0), (0, 0)] rfl rfl ⟨⟨⟨⟨trivial, (by decide)⟩, (by decide)⟩, (by decide)⟩, (fun e => e rfl)⟩ ?_
        refine ru_S hV [] sSX8_54 (qX8_in l (nI k) 48 57 _ L) rfl rfl rfl (Nat.le_of_ble_eq_true rfl) ?_
        rw [in_48 k hk, if_pos e1]
        refine ru_go hV 16 [(0, 0)] rfl rfl ⟨⟨⟨⟨trivial, (by decide)⟩, (by first | exact rfl | assumption | exact ⟨rfl, rfl⟩ | exact ⟨rfl, rfl, by omega⟩ | exact ⟨by assumption, rfl, by omega⟩ | exact ⟨⟨_, rfl, rfl⟩, by decide, by decide, rfl, by omega⟩ | omega | decide)⟩, (by first | exact rfl | assumption | exact ⟨rfl, rfl⟩ | exact ⟨rfl, rfl, by omega⟩ | exact ⟨by assumption, rfl, by omega⟩ | exact ⟨⟨_, rfl, rfl⟩, by decide, by decide, rfl, by omega⟩ | omega | decide)⟩, (by first | exact rfl | assumption | exact ⟨rfl, rfl⟩ | exact ⟨rfl, rfl, by omega⟩ | exact ⟨by assumption, rfl, by omega⟩ | exact ⟨⟨_, rfl, rfl⟩, by decide, by decide, rfl, by omega⟩ | omega | decide)⟩ ?_
        rw [mu_0 (by decide), h14, h15, nI_1, show (10 : Int32) * nI u + nI k - 48 = nI (u * 10 + (k - 48)) by
          rw [show (10 : Int32) = nI 10 from rfl, nI_mul, nI_add, show (48 : Int32) = nI 48 from rfl, nI_sub (by omega)]
          congr 1
          omega]
        refine ru_go hV 3 [] rfl rfl ⟨⟨trivial, (by first | exact rfl | assumption | exact ⟨rfl, rfl⟩ | exact ⟨rfl, rfl, by omega⟩ | exact ⟨by assumption, rfl, by omega⟩ | exact ⟨⟨_, rfl, rfl⟩, by decide, by decide, rfl, by omega⟩ | omega | decide)⟩, (by first | exact rfl | assumption | exact ⟨rfl, rfl⟩ | exact ⟨rfl, rfl, by omega⟩ | exact ⟨by assumption, rfl, by omega⟩ | exact ⟨⟨_, rfl, rfl⟩, by decide, by decide, rfl, by omega⟩ | omega | decide)⟩ ?_
        rw [mu_self]
        exact hh
      by_cases e2 : 9999 < u
      · rw [ea, if_pos e2]
        have hd5 : d = 5 := by
          by_cases e : d ≤ 4
          · have := Nat.pow_le_pow_right (n := 10) (by decide) e
            omega
          · omega
        refine ⟨NON, mu (mu I 0 15 (nI (u * 10 + (k - 48)))) 0 14 (nI (d + 1)), L, ⟨(RFm I (by decide) _).tr (RFm _ (by decide) _), rfl⟩, wX8_nextState l rfl (hz0 (by decide)) (fun V hV => walk V _ hV ?_)⟩
        refine ru_fin hV 5 [(0, 0)] rfl rfl ⟨trivial, (by rw [hd5]; decide)⟩ ?_
        exact ⟨rfl, rfl, rfl⟩
      · rw [ea, if_neg e2]
        have hd4 : d ≤ 4 := by
          by_cases e : d ≤ 4
          · exact e
          · have : d = 5 := by omega
            subst this
            have : 10 ^ (5 - 1) ≤ u := p1
            omega
        refine ⟨2, mu (mu I 0 15 (nI (u * 10 + (k - 48)))) 0 14 (nI (d + 1)), L, ⟨(RFm I (by decide) _).tr (RFm _ (by decide) _), rfl, by rw [mu_0 (by decide), mu_0 (by decide)]; exact h18, hc, by rw [mu_0 (by decide), mu_0 (by decide)]; exact h16, Or.inr ⟨d + 1, by omega, by omega, mu_self _ _ _ _, by rw [mu_0 (by decide), mu_self], ?_, ?_, by decide⟩, fun _ => hb0 (by decide), fun e => absurd e (by decide), fun e => absurd e (by decide)⟩, wX8_nextState l rfl (hz0 (by decide)) (fun V hV => walk V _ hV ?_)⟩
        · rw [show d + 1 - 1 = (d - 1) + 1 by omega, Nat.pow_succ]
          omega
        · rw [Nat.pow_succ]
          omega
        · refine ru_fin hV 4 [(1, 0)] rfl rfl ⟨trivial, nI_le (b := 5) (by omega) (by decide)⟩ ?_
          exact ⟨rfl, rfl, rfl⟩
    · by_cases e2 : k = 101
      · subst e2
        refine ⟨3, mu I 0 17 (-1), L, ⟨RFm I (by decide) _, rfl, ?_⟩, wX8_nextState l rfl (hz0 (by decide)) (fun V hV => ?_)⟩
        · obtain ⟨h18, hc, h16, hu, hb0, -, -⟩ := h
          refine ⟨by rw [mu_0 (by decide)]; exact h18, hc, by rw [mu_0 (by decide)]; exact h16, ?_, fun _ => hb0 (by decide), fun _ => mu_self _ _ _ _, fun e => absurd e (by decide)⟩
          rcases hu with ⟨a1, a2, a3⟩ | ⟨d', a1, a2, a3, a4, a5, a6, a7⟩
          · exact absurd rfl a3
          · exact Or.inr ⟨d', a1, a2, by rw [mu_0 (by decide)]; exact a3, by rw [mu_0 (by decide)]; exact a4, a5, a6, by decide⟩
        · refine ru_go hV 13 [(1, 0), (1, 0), (1, 0), (0, 0)] rfl rfl ⟨⟨⟨⟨trivial, (by decide)⟩, (by decide)⟩, (by decide)⟩, (fun e => e rfl)⟩ ?_
          refine ru_S hV [] sSX8_54 (qX8_in l (nI 101) 48 57 _ L) rfl rfl rfl (Nat.le_of_ble_eq_true rfl) ?_
          refine ru_fin hV 12 [(1, 0), (0, 0), (0, 0)] rfl rfl ⟨⟨⟨⟨trivial, (by decide)⟩, (fun e => e rfl)⟩, (fun e => e rfl)⟩, (by first | exact rfl | assumption | exact ⟨rfl, rfl⟩ | exact ⟨rfl, rfl, by omega⟩ | exact ⟨by assumption, rfl, by omega⟩ | exact ⟨⟨_, rfl, rfl⟩, by decide, by decide, rfl, by omega⟩ | omega | decide)⟩ ?_
          exact ⟨rfl, rfl, rfl⟩
      · obtain ⟨r, I2, L2, hR, hK⟩ := qX8_endTerm l (n := n) (k := k) h (Or.inl rfl) hb32 hk e1 (fun _ => e2)
        refine ⟨r, I2, L2, hR, wX8_nextState l rfl (hz0 (by decide)) (fun V hV => ?_)⟩
        refine ru_go hV 13 [(1, 0), (1, 0), (1, 0), (0, 0)] rfl rfl ⟨⟨⟨⟨trivial, (by decide)⟩, (by decide)⟩, (by decide)⟩, (fun e => e rfl)⟩ ?_
        refine ru_S hV [] sSX8_54 (qX8_in l (nI k) 48 57 _ L) rfl rfl rfl (Nat.le_of_ble_eq_true rfl) ?_
        rw [in_48 k hk, if_neg e1]
        refine ru_go hV 18 [(1, 0), (0, 0), (1, 0), (0, 0), (1, 0), (1, 0)] rfl rfl ⟨⟨⟨⟨⟨⟨trivial, rfl⟩, (fun e => e rfl)⟩, ci_ne hk (by decide) e2⟩, (by decide)⟩, (by decide)⟩, rfl⟩ ?_
        refine ru_V hV [] sVX8_163 hK rfl rfl rfl rfl rfl (Nat.le_of_ble_eq_true rfl) ?_
        refine ru_fin hV 2 [] rfl rfl trivial ?_
        exact ⟨rfl, rfl, rfl⟩
  | 4, _ =>
    show ∃ r I2 L2, RN I (acc n (4, g, u, b, c) k) r I2 L2 ∧ KX8_nextState l [.ref 0, .int (nI 3), .int (nI k)] I L (some (.int r)) I2 L2
    by_cases e1 : 48 ≤ k ∧ k ≤ 57
    · obtain ⟨r, I2, L2, hR, hK⟩ := dX8_nextState l (x := 3) rfl (Or.inl rfl) hn hn0 hb hd h hk e1
      refine ⟨r, I2, L2, hR, wX8_nextState l rfl (hz0 (by decide)) (fun V hV => ?_)⟩
      refine ru_go hV 19 [(1, 0), (1, 0), (1, 0), (1, 0), (1, 0), (1, 0)] rfl rfl ⟨⟨⟨⟨⟨⟨trivial, (by decide)⟩, (by decide)⟩, (by decide)⟩, (by decide)⟩, (by decide)⟩, rfl⟩ ?_
      refine ru_S hV [] sSX8_54 (qX8_in l (nI k) 48 57 _ L) rfl rfl rfl (Nat.le_of_ble_eq_true rfl) ?_
      rw [in_48 k hk, if_pos e1]
      refine ru_go hV 1 [(0, 0)] rfl rfl ⟨trivial, (by decide)⟩ ?_
      exact hK V hV
    · refine ⟨NON, I, L, ⟨RF.rf I, ?_⟩, wX8_nextState l rfl (hz0 (by decide)) (fun V hV => ?_)⟩
      · have ea : acc n (4, g, u, b, c) k = none := by
          unfold acc acS acE
          simp only
          split
          · rw [if_neg (by decide), if_neg (by simp)]
          · split
            · rw [if_neg (by decide)]
            · first | rfl | rw [if_neg e1]
        rw [ea]
      · refine ru_go hV 19 [(1, 0), (1, 0), (1, 0), (1, 0), (1, 0), (1, 0)] rfl rfl ⟨⟨⟨⟨⟨⟨trivial, (by decide)⟩, (by decide)⟩, (by decide)⟩, (by decide)⟩, (by decide)⟩, rfl⟩ ?_
        refine ru_S hV [] sSX8_54 (qX8_in l (nI k) 48 57 _ L) rfl rfl rfl (Nat.le_of_ble_eq_true rfl) ?_
        rw [in_48 k hk, if_neg e1]
        refine ru_go hV 1 [(1, 0)] rfl rfl ⟨trivial, (by first | exact rfl | assumption | exact ⟨rfl, rfl⟩ | exact ⟨rfl, rfl, by omega⟩ | exact ⟨by assumption, rfl, by omega⟩ | exact ⟨⟨_, rfl, rfl⟩, by decide, by decide, rfl, by omega⟩ | omega | decide)⟩ ?_
        exact non V 3 (by decide) (by decide) (by decide) hV
  | 5, _ =>
    show ∃ r I2 L2, RN I (acc n (5, g, u, b, c) k) r I2 L2 ∧ KX8_nextState l [.ref 0, .int (nI 4), .int (nI k)] I L (some (.int r)) I2 L2
    by_cases e1 : 48 ≤ k ∧ k ≤ 57
    · obtain ⟨r, I2, L2, hR, hK⟩ := dX8_nextState l (x := 4) rfl (Or.inr rfl) hn hn0 hb hd h hk e1
      refine ⟨r, I2, L2, hR, wX8_nextState l rfl (hz0 (by decide)) (fun V hV => ?_)⟩
      refine ru_go hV 22 [(1, 0), (1, 0), (1, 0), (1, 0), (1, 0), (0, 0), (0, 0)] rfl rfl ⟨⟨⟨⟨⟨⟨⟨trivial, (by decide)⟩, (by decide)⟩, (by decide)⟩, (by decide)⟩, (by decide)⟩, (by decide)⟩, (fun e => e rfl)⟩ ?_
      refine ru_S hV [] sSX8_54 (qX8_in l (nI k) 48 57 _ L) rfl rfl rfl (Nat.le_of_ble_eq_true rfl) ?_
      rw [in_48 k hk, if_pos e1]
      refine ru_go hV 1 [(0, 0)] rfl rfl ⟨trivial, (by decide)⟩ ?_
      exact hK V hV
    · obtain ⟨r, I2, L2, hR, hK⟩ := qX8_endTerm l (n := n) (k := k) h (Or.inr rfl) hb32 hk e1 (fun e => absurd e (by decide))
      refine ⟨r, I2, L2, hR, wX8_nextState l rfl (hz0 (by decide)) (fun V hV => ?_)⟩
      refine ru_go hV 22 [(1, 0), (1, 0), (1, 0), (1, 0), (1, 0), (0, 0), (0, 0)] rfl rfl ⟨⟨⟨⟨⟨⟨⟨trivial, (by decide)⟩, (by decide)⟩, (by decide)⟩, (by decide)⟩, (by decide)⟩, (by decide)⟩, (fun e => e rfl)⟩ ?_
      refine ru_S hV [] sSX8_54 (qX8_in l (nI k) 48 57 _ L) rfl rfl rfl (Nat.le_of_ble_eq_true rfl) ?_
      rw [in_48 k hk, if_neg e1]
      refine ru_go hV 9 [(1, 0), (0, 0), (0, 0)] rfl rfl ⟨⟨⟨trivial, rfl⟩, (by decide)⟩, (fun e => e rfl)⟩ ?_
      refine ru_V hV [] sVX8_163 hK rfl rfl rfl rfl rfl (Nat.le_of_ble_eq_true rfl) ?_
      refine ru_fin hV 2 [] rfl rfl trivial ?_
      exact ⟨rfl, rfl, rfl⟩
