/-! the reference: the reader -/
/-- the reader touches fields 12 to 18 alone -/
def RF (I J : IM) : Prop := (∀ a, a ≠ 0 → J a = I a) ∧ ∀ j, j < 12 → J 0 j = I 0 j
theorem RF.rf (I : IM) : RF I I := ⟨fun _ _ => rfl, fun _ _ => rfl⟩
theorem RF.tr {I J K : IM} (h1 : RF I J) (h2 : RF J K) : RF I K := ⟨fun a h => (h2.1 a h).trans (h1.1 a h), fun j h => (h2.2 j h).trans (h1.2 j h)⟩
theorem RFm (I : IM) {j : Nat} (h : 12 ≤ j) (x : Int32) : RF I (mu I 0 j x) := ⟨fun a ha => mu_ne _ _ ha, fun k hk => by simp [mu, show k ≠ j by omega]⟩
theorem mu_0 {I : IM} {j k : Nat} {x : Int32} (h : k ≠ j) : mu I 0 j x 0 k = I 0 k := by simp [mu, h]
/-- the reference's number for a mode of the reader -/
def stx (m : Nat) : Nat := match m with
  | 0 => 0
  | 1 => 1
  | 2 => 5
  | 3 => 2
  | 4 => 3
  | _ => 4
/-- the memory tells the reader's state -/
def RR (I : IM) (L : LM) : Fs → Prop
  | (m, g, u, b, c) => I 0 18 = b2i g ∧ (∀ j, j < 32 → (L 8 j).toInt32 = c j) ∧ I 0 16 = nI b ∧
    ((I 0 14 = 0 ∧ u = 1 ∧ m ≠ 3) ∨ (∃ d, 1 ≤ d ∧ d ≤ 5 ∧ I 0 14 = nI d ∧ I 0 15 = nI u ∧ 10 ^ (d - 1) ≤ u ∧ u < 10 ^ d ∧ 3 ≤ m)) ∧
    (m ≤ 4 → b = 0) ∧ (m = 4 → I 0 17 = -1) ∧ (m = 5 → ∃ t, t < 5 ∧ I 0 17 = nI t ∧ 2 ^ t ≤ b ∧ b < 2 ^ (t + 1))
theorem addTI (x : Int64) (y : Int32) : (x + y.toInt64).toInt32 = x.toInt32 + y := by
  rw [Int64.toInt32_add, Int32.toInt32_toInt64]
theorem qX8_addTerm (l : Launch) {I : IM} {L : LM} {m u b : Nat} {g : Bool} {c : Nat → Int32} (h : RR I L (m, g, u, b, c)) (hb : b < 32) : ∃ I2 L2, (RF I I2 ∧ (∀ j, 17 ≤ j → I2 0 j = I 0 j) ∧ I2 0 12 = I 0 12 ∧ I2 0 13 = I 0 13 ∧ I2 0 14 = 0 ∧ I2 0 16 = 0 ∧ ∀ j, j < 32 → (L2 8 j).toInt32 = adT g u b c j) ∧ KX8_addTerm l [.ref 0] I L none I2 L2 := by
  obtain ⟨h18, hc, h16, hu, -, -, -⟩ := h
  refine ⟨mu (mu (mu I 0 14 0) 0 15 0) 0 16 0, mu L 8 b (L 8 b + (sgI g (nI u)).toInt64), ⟨((RFm I (by decide) _).tr (RFm _ (by decide) _)).tr (RFm _ (by decide) _), fun j hj => by rw [mu_0 (by omega), mu_0 (by omega), mu_0 (by omega)], by rw [mu_0 (by omega), mu_0 (by omega), mu_0 (by omega)], by rw [mu_0 (by omega), mu_0 (by omega), mu_0 (by omega)], by rw [mu_0 (by omega), mu_0 (by omega), mu_self], mu_self _ _ _ _, fun j hj => ?_⟩, wX8_addTerm l rfl (hz0 (by decide)) (fun V hV => ?_)⟩
  · unfold adT
    by_cases e : j = b
    · subst e
      rw [mu_self, addTI, hc j hj, if_pos rfl]
    · rw [if_neg e, show mu L 8 b (L 8 b + (sgI g (nI u)).toInt64) 8 j = L 8 j by simp [mu, e]]
      exact hc j hj
  · have tail : V 16 [(0, .ref 0), (1, .int (nI u))] [] I L := by
      cases g with
      | true =>
        refine ru_fin hV 26 [(8, 0), (b, 32), (0, 0), (b, 32)] rfl rfl ⟨⟨⟨⟨⟨⟨⟨⟨⟨trivial, (by first | exact rfl | assumption | exact ⟨rfl, rfl⟩ | exact ⟨rfl, rfl, by omega⟩ | exact ⟨by assumption, rfl, by omega⟩ | exact ⟨⟨_, rfl, rfl⟩, by decide, by decide, rfl, by omega⟩ | omega | decide)⟩, (by first | exact rfl | assumption | exact ⟨rfl, rfl⟩ | exact ⟨rfl, rfl, by omega⟩ | exact ⟨by assumption, rfl, by omega⟩ | exact ⟨⟨_, rfl, rfl⟩, by decide, by decide, rfl, by omega⟩ | omega | decide)⟩, ⟨rfl, h16, hb⟩⟩, (by first | exact rfl | assumption | exact ⟨rfl, rfl⟩ | exact ⟨rfl, rfl, by omega⟩ | exact ⟨by assumption, rfl, by omega⟩ | exact ⟨⟨_, rfl, rfl⟩, by decide, by decide, rfl, by omega⟩ | omega | decide)⟩, (fun e => e h18)⟩, ⟨rfl, h16, hb⟩⟩, (by first | exact rfl | assumption | exact ⟨rfl, rfl⟩ | exact ⟨rfl, rfl, by omega⟩ | exact ⟨by assumption, rfl, by omega⟩ | exact ⟨⟨_, rfl, rfl⟩, by decide, by decide, rfl, by omega⟩ | omega | decide)⟩, (by first | exact rfl | assumption | exact ⟨rfl, rfl⟩ | exact ⟨rfl, rfl, by omega⟩ | exact ⟨by assumption, rfl, by omega⟩ | exact ⟨⟨_, rfl, rfl⟩, by decide, by decide, rfl, by omega⟩ | omega | decide)⟩, (by first | exact rfl | assumption | exact ⟨rfl, rfl⟩ | exact ⟨rfl, rfl, by omega⟩ | exact ⟨by assumption, rfl, by omega⟩ | exact ⟨⟨_, rfl, rfl⟩, by decide, by decide, rfl, by omega⟩ | omega | decide)⟩ ?_
        exact ⟨rfl, rfl, rfl⟩
      | false =>
        refine ru_fin hV 24 [(8, 0), (b, 32), (1, 0), (b, 32)] rfl rfl ⟨⟨⟨⟨⟨⟨⟨⟨⟨trivial, (by first | exact rfl | assumption | exact ⟨rfl, rfl⟩ | exact ⟨rfl, rfl, by omega⟩ | exact ⟨by assumption, rfl, by omega⟩ | exact ⟨⟨_, rfl, rfl⟩, by decide, by decide, rfl, by omega⟩ | omega | decide)⟩, (by first | exact rfl | assumption | exact ⟨rfl, rfl⟩ | exact ⟨rfl, rfl, by omega⟩ | exact ⟨by assumption, rfl, by omega⟩ | exact ⟨⟨_, rfl, rfl⟩, by decide, by decide, rfl, by omega⟩ | omega | decide)⟩, ⟨rfl, h16, hb⟩⟩, (by first | exact rfl | assumption | exact ⟨rfl, rfl⟩ | exact ⟨rfl, rfl, by omega⟩ | exact ⟨by assumption, rfl, by omega⟩ | exact ⟨⟨_, rfl, rfl⟩, by decide, by decide, rfl, by omega⟩ | omega | decide)⟩, (by rw [h18]; decide)⟩, ⟨rfl, h16, hb⟩⟩, (by first | exact rfl | assumption | exact ⟨rfl, rfl⟩ | exact ⟨rfl, rfl, by omega⟩ | exact ⟨by assumption, rfl, by omega⟩ | exact ⟨⟨_, rfl, rfl⟩, by decide, by decide, rfl, by omega⟩ | omega | decide)⟩, (by first | exact rfl | assumption | exact ⟨rfl, rfl⟩ | exact ⟨rfl, rfl, by omega⟩ | exact ⟨by assumption, rfl, by omega⟩ | exact ⟨⟨_, rfl, rfl⟩, by decide, by decide, rfl, by omega⟩ | omega | decide)⟩, (by first | exact rfl | assumption | exact ⟨rfl, rfl⟩ | exact ⟨rfl, rfl, by omega⟩ | exact ⟨by assumption, rfl, by omega⟩ | exact ⟨⟨_, rfl, rfl⟩, by decide, by decide, rfl, by omega⟩ | omega | decide)⟩ ?_
        exact ⟨rfl, rfl, rfl⟩
    rcases hu with ⟨h14, rfl, -⟩ | ⟨d, hd1, hd2, h14, h15, -⟩
    · refine ru_go hV 6 [(0, 0)] rfl rfl ⟨⟨trivial, (by first | exact rfl | assumption | exact ⟨rfl, rfl⟩ | exact ⟨rfl, rfl, by omega⟩ | exact ⟨by assumption, rfl, by omega⟩ | exact ⟨⟨_, rfl, rfl⟩, by decide, by decide, rfl, by omega⟩ | omega | decide)⟩, (fun e => e h14)⟩ ?_
      exact tail
    · refine ru_go hV 6 [(1, 0)] rfl rfl ⟨⟨⟨trivial, (by first | exact rfl | assumption | exact ⟨rfl, rfl⟩ | exact ⟨rfl, rfl, by omega⟩ | exact ⟨by assumption, rfl, by omega⟩ | exact ⟨⟨_, rfl, rfl⟩, by decide, by decide, rfl, by omega⟩ | omega | decide)⟩, (by rw [h14]; exact nI_ne0 (by omega) (by omega))⟩, (by first | exact rfl | assumption | exact ⟨rfl, rfl⟩ | exact ⟨rfl, rfl, by omega⟩ | exact ⟨by assumption, rfl, by omega⟩ | exact ⟨⟨_, rfl, rfl⟩, by decide, by decide, rfl, by omega⟩ | omega | decide)⟩ ?_
      rw [h15]
      exact tail
theorem in_49 : ∀ c, c < 128 → b2i (decide ((49 : Int32) ≤ nI c ∧ nI c ≤ 57)) = if 49 ≤ c ∧ c ≤ 57 then 1 else 0 := by decide +kernel
theorem in_48 : ∀ c, c < 128 → b2i (decide ((48 : Int32) ≤ nI c ∧ nI c ≤ 57)) = if 48 ≤ c ∧ c ≤ 57 then 1 else 0 := by decide +kernel
theorem ci_ne {c k : Nat} (hc : c < 128) (hk : k < 128) (h : c ≠ k) : nI c ≠ nI k := fun e => h (nI_inj (by omega) (by omega) e)
theorem sub_48 {c : Nat} (h : 48 ≤ c) : nI c - 48 = nI (c - 48) := by rw [show (48 : Int32) = nI 48 from rfl, nI_sub h]
/-- what a step of the reader answers and leaves -/
def RN (I : IM) (o : Option Fs) (r : Int32) (I2 : IM) (L2 : LM) : Prop := RF I I2 ∧ match o with
  | none => r = NON
  | some t => r = nI (stx t.1) ∧ RR I2 L2 t
theorem qX8_beginTerm (l : Launch) {I : IM} {L : LM} {n m k : Nat} {g : Bool} {u b : Nat} {c : Nat → Int32} (h : RR I L (m, g, u, b, c)) (hm : m ≤ 1) (hk : k < 128) (h0 : m = 0 → k ≠ 48 ∧ k ≠ 45) : ∃ r I2 L2, RN I (acc n (m, g, u, b, c) k) r I2 L2 ∧ KX8_beginTerm l [.ref 0, .int (nI k)] I L (some (.int r)) I2 L2 := by
  obtain ⟨h18, hc, h16, hu, hb0, -, -⟩ := h
  have hb := hb0 (by omega)
  obtain ⟨h14, hu1⟩ : I 0 14 = 0 ∧ u = 1 := by
    rcases hu with h | ⟨d, h⟩
    · exact ⟨h.1, h.2.1⟩
    · omega
  subst hb hu1
  by_cases e1 : k = 101
  · subst e1
    refine ⟨3, mu I 0 17 (-1), L, ⟨RFm I (by decide) _, ?_⟩, wX8_beginTerm l rfl (hz0 (by decide)) (fun V hV => ?_)⟩
    · have e : acc n (m, g, 1, 0, c) 101 = some (4, g, 1, 0, c) := by
        unfold acc acE
        rw [if_neg (by decide), if_pos rfl]
        simp only
        rw [if_pos (by omega)]
      rw [e]
      exact ⟨rfl, by rw [mu_0 (by decide)]; exact h18, hc, by rw [mu_0 (by decide)]; exact h16, Or.inl ⟨by rw [mu_0 (by decide)]; exact h14, rfl, by decide⟩, fun _ => rfl, fun _ => mu_self _ _ _ _, fun e => absurd e (by decide)⟩
    · refine ru_fin hV 8 [(0, 0)] rfl rfl ⟨⟨trivial, (fun e => e rfl)⟩, (by first | exact rfl | assumption | exact ⟨rfl, rfl⟩ | exact ⟨rfl, rfl, by omega⟩ | exact ⟨by assumption, rfl, by omega⟩ | exact ⟨⟨_, rfl, rfl⟩, by decide, by decide, rfl, by omega⟩ | omega | decide)⟩ ?_
      exact ⟨rfl, rfl, rfl⟩
  · by_cases e2 : 49 ≤ k ∧ k ≤ 57
    · refine ⟨2, mu (mu I 0 14 1) 0 15 (nI (k - 48)), L, ⟨(RFm I (by decide) _).tr (RFm _ (by decide) _), ?_⟩, wX8_beginTerm l rfl (hz0 (by decide)) (fun V hV => ?_)⟩
      · have e : acc n (m, g, 1, 0, c) k = some (3, g, k - 48, 0, c) := by
          unfold acc acD
          rw [if_neg (by omega), if_neg e1, if_pos (by omega)]
          simp only
          rw [if_neg (by omega), if_pos (by omega), if_neg (by omega)]
        rw [e]
        exact ⟨rfl, by rw [mu_0 (by decide), mu_0 (by decide)]; exact h18, hc, by rw [mu_0 (by decide), mu_0 (by decide)]; exact h16, Or.inr ⟨1, by decide, by decide, by rw [mu_0 (by decide), mu_self]; rfl, mu_self _ _ _ _, by omega, by omega, by decide⟩, fun _ => rfl, fun e => absurd e (by decide), fun e => absurd e (by decide)⟩
      · refine ru_go hV 6 [(1, 0)] rfl rfl ⟨trivial, ci_ne hk (by decide) e1⟩ ?_
        refine ru_S hV [] sSX8_54 (qX8_in l (nI k) 49 57 _ L) rfl rfl rfl (Nat.le_of_ble_eq_true rfl) ?_
        rw [in_49 k hk, if_pos e2]
        refine ru_fin hV 11 [(1, 0)] rfl rfl ⟨⟨⟨trivial, (by decide)⟩, (by first | exact rfl | assumption | exact ⟨rfl, rfl⟩ | exact ⟨rfl, rfl, by omega⟩ | exact ⟨by assumption, rfl, by omega⟩ | exact ⟨⟨_, rfl, rfl⟩, by decide, by decide, rfl, by omega⟩ | omega | decide)⟩, (by first | exact rfl | assumption | exact ⟨rfl, rfl⟩ | exact ⟨rfl, rfl, by omega⟩ | exact ⟨by assumption, rfl, by omega⟩ | exact ⟨⟨_, rfl, rfl⟩, by decide, by decide, rfl, by omega⟩ | omega | decide)⟩ ?_
        rw [sub_48 (by omega)]
        exact ⟨rfl, rfl, rfl⟩
    · refine ⟨NON, I, L, ⟨RF.rf I, ?_⟩, wX8_beginTerm l rfl (hz0 (by decide)) (fun V hV => ?_)⟩
      · have e : acc n (m, g, 1, 0, c) k = none := by
          unfold acc
          split
          · unfold acS
            simp only
            rw [if_neg (by omega), if_neg]
            rintro ⟨e3, e4⟩
            have := (h0 e3).2
            simp at e4
            exact this e4
          · split
            · have : k = 48 := by omega
              subst this
              unfold acD
              simp only
              rw [if_neg (fun e => (h0 e.1).1 rfl), if_pos (by omega)]
              rfl
            · rfl
        rw [e]
      · refine ru_go hV 6 [(1, 0)] rfl rfl ⟨trivial, ci_ne hk (by decide) e1⟩ ?_
        refine ru_S hV [] sSX8_54 (qX8_in l (nI k) 49 57 _ L) rfl rfl rfl (Nat.le_of_ble_eq_true rfl) ?_
        rw [in_49 k hk, if_neg e2]
        refine ru_fin hV 3 [(0, 0)] rfl rfl ⟨trivial, (fun e => e rfl)⟩ ?_
        exact ⟨rfl, rfl, rfl⟩
theorem qX8_endTerm (l : Launch) {I : IM} {L : LM} {n m k : Nat} {g : Bool} {u b : Nat} {c : Nat → Int32} (h : RR I L (m, g, u, b, c)) (hm : m = 3 ∨ m = 5) (hb : b < 32) (hk : k < 128) (h0 : ¬ (48 ≤ k ∧ k ≤ 57)) (h1 : m = 3 → k ≠ 101) : ∃ r I2 L2, RN I (acc n (m, g, u, b, c) k) r I2 L2 ∧ KX8_endTerm l [.ref 0, .int (nI k)] I L (some (.int r)) I2 L2 := by
  by_cases e : k = 43 ∨ k = 45
  · obtain ⟨I2, L2, ⟨f1, f2, f3, f4, f5, f6, f7⟩, hK⟩ := qX8_addTerm l h hb
    have ea : acc n (m, g, u, b, c) k = some (1, k == 45, 1, 0, adT g u b c) := by
      unfold acc acS
      rw [if_pos e]
      simp only
      rw [if_pos hm]
    refine ⟨1, mu I2 0 18 (b2i (k == 45)), L2, ⟨f1.tr (RFm _ (by decide) _), ?_⟩, wX8_endTerm l rfl (hz0 (by decide)) (fun V hV => ?_)⟩
    · rw [ea]
      exact ⟨rfl, mu_self _ _ _ _, f7, by rw [mu_0 (by decide)]; exact f6, Or.inl ⟨by rw [mu_0 (by decide)]; exact f5, rfl, (by decide : (1 : Nat) ≠ 3)⟩, fun _ => rfl, fun e => absurd e (by decide), fun e => absurd e (by decide)⟩
    · rcases e with rfl | rfl
      · refine ru_go hV 4 [(1, 0)] rfl rfl ⟨trivial, (by decide)⟩ ?_
        refine ru_V hV [] sVX8_157 hK rfl rfl rfl rfl rfl (Nat.le_of_ble_eq_true rfl) ?_
        refine ru_fin hV 8 [(1, 0)] rfl rfl ⟨⟨trivial, (by decide)⟩, (by first | exact rfl | assumption | exact ⟨rfl, rfl⟩ | exact ⟨rfl, rfl, by omega⟩ | exact ⟨by assumption, rfl, by omega⟩ | exact ⟨⟨_, rfl, rfl⟩, by decide, by decide, rfl, by omega⟩ | omega | decide)⟩ ?_
        exact ⟨rfl, rfl, rfl⟩
      · refine ru_go hV 7 [(0, 0), (1, 0)] rfl rfl ⟨⟨trivial, (by decide)⟩, (by decide)⟩ ?_
        refine ru_V hV [] sVX8_157 hK rfl rfl rfl rfl rfl (Nat.le_of_ble_eq_true rfl) ?_
        refine ru_fin hV 9 [(0, 0)] rfl rfl ⟨⟨trivial, (fun e => e rfl)⟩, (by first | exact rfl | assumption | exact ⟨rfl, rfl⟩ | exact ⟨rfl, rfl, by omega⟩ | exact ⟨by assumption, rfl, by omega⟩ | exact ⟨⟨_, rfl, rfl⟩, by decide, by decide, rfl, by omega⟩ | omega | decide)⟩ ?_
        exact ⟨rfl, rfl, rfl⟩
  · refine ⟨NON, I, L, ⟨RF.rf I, ?_⟩, wX8_endTerm l rfl (hz0 (by decide)) (fun V hV => ?_)⟩
    · have ea : acc n (m, g, u, b, c) k = none := by
        unfold acc
        rw [if_neg e]
        by_cases e1 : k = 101
        · rw [if_pos e1]
          unfold acE
          simp only
          rw [if_neg (by rcases hm with rfl | rfl; exact absurd e1 (h1 rfl); decide)]
        · rw [if_neg e1, if_neg h0]
      rw [ea]
    · refine ru_fin hV 8 [(0, 0), (0, 0)] rfl rfl ⟨⟨trivial, ci_ne hk (by decide) (fun z => e (Or.inl z))⟩, ci_ne hk (by decide) (fun z => e (Or.inr z))⟩ ?_
      exact ⟨rfl, rfl, rfl⟩
