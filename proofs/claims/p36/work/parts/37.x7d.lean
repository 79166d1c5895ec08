def dtP (f : Nat → Int32) (n r : Nat) : Bool := decide (nI (pc5 r) = grF f 32 - 1) && !(pwz f r n)
def dtF (f : Nat → Int32) (n : Nat) : Int32 := if grF f 32 = NON then NON else b2i (fsO (dtP f n) (2 ^ n)).isNone
def dbF (f : Nat → Int32) (n : Nat) : Int32 := if grF f 32 = NON ∨ anF f n = NON then NON else if anF f n = grF f 32 then 1 else 0
def ctF (f : Nat → Int32) (n : Nat) : Int32 := if dtF f n = 1 then grF f 32 else 0
theorem qX7_decomposableAsTold (l : Launch) {s n : Nat} (hs : s < 8) (hn : n ≤ 5) {I : IM} (hd : I 1 0 = nI n) (hz : VZ I) (L : LM) : ∃ I2 L2, SC I I2 ∧ KX7_decomposableAsTold l [.ref 0, .int (nI s)] I L (some (.int (dtF (I (3 + s)) n))) I2 L2 := by
  obtain ⟨hB, -⟩ := pow_le32 n hn
  have kr : kdC (3 + s) = (1, 32, 0) := kd_row (b := 1) hb1 hs
  refine ru_pos1 (fun V hV => ?_) (fun I2 L2 => wX7_decomposableAsTold l rfl (hz0 (by decide)))
  refine ru_go hV 7 [(1, 0), (2, 0), (s, 8), ((3+s), 5)] rfl rfl ⟨⟨⟨trivial, (by first | exact rfl | assumption | exact ⟨rfl, rfl⟩ | exact ⟨rfl, rfl, by omega⟩ | exact ⟨by assumption, rfl, by omega⟩ | exact ⟨⟨_, rfl, rfl⟩, by decide, by decide, rfl, by omega⟩ | omega | decide)⟩, (by first | exact rfl | assumption | exact ⟨rfl, rfl⟩ | exact ⟨rfl, rfl, by omega⟩ | exact ⟨by assumption, rfl, by omega⟩ | exact ⟨⟨_, rfl, rfl⟩, by decide, by decide, rfl, by omega⟩ | omega | decide)⟩, kd_fr (b := 1) hb1 hs⟩ ?_
  refine ru_S hV [] sSX7_324 (qX2_gradeOf l kr I L) rfl rfl rfl (Nat.le_of_ble_eq_true rfl) ?_
  by_cases hg : grF (I (3 + s)) 32 = NON
  · rw [show dtF (I (3 + s)) n = NON from if_pos hg] at hV
    refine ru_fin hV 6 [(0, 0)] rfl rfl ⟨trivial, (fun e => e hg)⟩ ?_
    exact ⟨rfl, SC.rf I⟩
  · rw [show dtF (I (3 + s)) n = b2i (fsO (dtP (I (3 + s)) n) (2 ^ n)).isNone from if_neg hg] at hV
    refine ru_go hV 6 [(1, 0)] rfl rfl ⟨trivial, hg⟩ ?_
    refine loop0 (P := fun i => ∀ J K, SC I J → (∀ j, j < i → dtP (I (3 + s)) n j = false) → V 27 [(0, .ref 0), (1, .int (nI s)), (2, .ref (3 + s)), (3, .int (grF (I (3 + s)) 32)), (4, .int (nI i))] [] J K) (2 ^ n) (fun h => h I L (SC.rf I) (fun j hj => absurd hj (by omega))) (fun i hi ih J K hsc hall => ?_) (fun J K hsc hall => ?_)
    · have hdJ : J 1 0 = nI n := by rw [hsc.lo (by decide)]; exact hd
      have hrJ : J (3 + s) = I (3 + s) := hsc.lo (by omega)
      refine ru_go hV 3 [(1, 0)] rfl rfl ⟨trivial, (by first | exact rfl | assumption | exact ⟨rfl, rfl⟩ | exact ⟨rfl, rfl, by omega⟩ | exact ⟨by assumption, rfl, by omega⟩ | exact ⟨⟨_, rfl, rfl⟩, by decide, by decide, rfl, by omega⟩ | omega | decide)⟩ ?_
      refine ru_V hV [.int (nI i)] sVX7_127 (qX6_blades l hb1 hn hdJ K) rfl rfl rfl rfl rfl (Nat.le_of_ble_eq_true rfl) ?_
      refine ru_go hV 2 [(0, 0)] rfl rfl ⟨trivial, nI_nge hi (by omega)⟩ ?_
      refine ru_S hV [] sSX7_327 (qJ6_bitCount l (by omega) J K) rfl rfl rfl (Nat.le_of_ble_eq_true rfl) ?_
      have step : dtP (I (3 + s)) n i = false → ∀ J K, SC I J → V 62 [(0, .ref 0), (1, .int (nI s)), (2, .ref (3 + s)), (3, .int (grF (I (3 + s)) 32)), (4, .int (nI i))] [] J K := fun hp J K hsc => by
        refine ru_go hV 2 [] rfl rfl trivial ?_
        rw [nI_1]
        refine ih J K hsc (fun j hj => ?_)
        by_cases e : j = i
        · subst e; exact hp
        · exact hall j (by omega)
      by_cases hc : nI (pc5 i) = grF (I (3 + s)) 32 - 1
      · refine ru_go hV 7 [(0, 0)] rfl rfl ⟨trivial, (fun e => e hc)⟩ ?_
        obtain ⟨J2, K2, hsc2, hK⟩ := qX7_wedgeWithPartnerIsZero l (c := 3 + s) (r := i) kr (by omega) (by omega) hn hdJ (hsc.2 hz) K
        rw [hrJ] at hK
        refine ru_V hV [] sVX7_332 hK rfl rfl rfl rfl rfl (Nat.le_of_ble_eq_true rfl) ?_
        cases hw : pwz (I (3 + s)) i n with
        | true =>
          refine ru_go hV 1 [(1, 0)] rfl rfl ⟨trivial, (by first | exact rfl | assumption | exact ⟨rfl, rfl⟩ | exact ⟨rfl, rfl, by omega⟩ | exact ⟨by assumption, rfl, by omega⟩ | exact ⟨⟨_, rfl, rfl⟩, by decide, by decide, rfl, by omega⟩ | omega | decide)⟩ ?_
          exact step (by simp [dtP, hw]) J2 K2 (hsc.tr hsc2)
        | false =>
          refine ru_fin hV 3 [(0, 0)] rfl rfl ⟨trivial, (by first | exact rfl | assumption | exact ⟨rfl, rfl⟩ | exact ⟨rfl, rfl, by omega⟩ | exact ⟨by assumption, rfl, by omega⟩ | exact ⟨⟨_, rfl, rfl⟩, by decide, by decide, rfl, by omega⟩ | omega | decide)⟩ ?_
          exact ⟨by rw [fsO_some (p := dtP (I (3 + s)) n) (k := i) (by simp [dtP, hw, hc]) hall (2 ^ n) hi]; rfl, hsc.tr hsc2⟩
      · refine ru_go hV 4 [(1, 0)] rfl rfl ⟨trivial, hc⟩ ?_
        exact step (by simp [dtP, hc]) J K hsc
    · have hdJ : J 1 0 = nI n := by rw [hsc.lo (by decide)]; exact hd
      refine ru_go hV 3 [(1, 0)] rfl rfl ⟨trivial, (by first | exact rfl | assumption | exact ⟨rfl, rfl⟩ | exact ⟨rfl, rfl, by omega⟩ | exact ⟨by assumption, rfl, by omega⟩ | exact ⟨⟨_, rfl, rfl⟩, by decide, by decide, rfl, by omega⟩ | omega | decide)⟩ ?_
      refine ru_V hV [.int (nI (2 ^ n))] sVX7_127 (qX6_blades l hb1 hn hdJ K) rfl rfl rfl rfl rfl (Nat.le_of_ble_eq_true rfl) ?_
      refine ru_fin hV 3 [(1, 0)] rfl rfl ⟨trivial, nI_le (Nat.le_refl _) (by omega)⟩ ?_
      exact ⟨by rw [fsO_none hall]; rfl, hsc⟩
theorem qX7_decomposableByAnnihilator (l : Launch) {s n : Nat} (hs : s < 8) (hn : n ≤ 5) {I : IM} (hd : I 1 0 = nI n) (L : LM) : ∃ I2 L2, SC I I2 ∧ KX7_decomposableByAnnihilator l [.ref 0, .int (nI s)] I L (some (.int (dbF (I (3 + s)) n))) I2 L2 := by
  have kr : kdC (3 + s) = (1, 32, 0) := kd_row (b := 1) hb1 hs
  obtain ⟨I2, L2, ⟨hsc, -⟩, hK⟩ := qX4_fin l kr hn I L
  refine ⟨I2, L2, hsc, ?_⟩
  refine wX7_decomposableByAnnihilator l rfl (hz0 (by decide)) (fun V hV => ?_)
  refine ru_go hV 7 [(1, 0), (2, 0), (s, 8), ((3+s), 5)] rfl rfl ⟨⟨⟨trivial, (by first | exact rfl | assumption | exact ⟨rfl, rfl⟩ | exact ⟨rfl, rfl, by omega⟩ | exact ⟨by assumption, rfl, by omega⟩ | exact ⟨⟨_, rfl, rfl⟩, by decide, by decide, rfl, by omega⟩ | omega | decide)⟩, (by first | exact rfl | assumption | exact ⟨rfl, rfl⟩ | exact ⟨rfl, rfl, by omega⟩ | exact ⟨by assumption, rfl, by omega⟩ | exact ⟨⟨_, rfl, rfl⟩, by decide, by decide, rfl, by omega⟩ | omega | decide)⟩, kd_fr (b := 1) hb1 hs⟩ ?_
  refine ru_S hV [] sSX7_324 (qX2_gradeOf l kr I L) rfl rfl rfl (Nat.le_of_ble_eq_true rfl) ?_
  refine ru_go hV 7 [(171, 0), (1, 0)] rfl rfl ⟨⟨⟨trivial, (by first | exact rfl | assumption | exact ⟨rfl, rfl⟩ | exact ⟨rfl, rfl, by omega⟩ | exact ⟨by assumption, rfl, by omega⟩ | exact ⟨⟨_, rfl, rfl⟩, by decide, by decide, rfl, by omega⟩ | omega | decide)⟩, (by first | exact rfl | assumption | exact ⟨rfl, rfl⟩ | exact ⟨rfl, rfl, by omega⟩ | exact ⟨by assumption, rfl, by omega⟩ | exact ⟨⟨_, rfl, rfl⟩, by decide, by decide, rfl, by omega⟩ | omega | decide)⟩, (by first | exact rfl | assumption | exact ⟨rfl, rfl⟩ | exact ⟨rfl, rfl, by omega⟩ | exact ⟨by assumption, rfl, by omega⟩ | exact ⟨⟨_, rfl, rfl⟩, by decide, by decide, rfl, by omega⟩ | omega | decide)⟩ ?_
  rw [hd]
  refine ru_V hV [] sVX7_235 hK rfl rfl rfl rfl rfl (Nat.le_of_ble_eq_true rfl) ?_
  unfold dbF at hV
  by_cases h1 : grF (I (3 + s)) 32 = NON
  · refine ru_fin hV 6 [(1, 0)] rfl rfl ⟨trivial, h1⟩ ?_
    exact ⟨by rw [if_pos (Or.inl h1)]; rfl, rfl, rfl⟩
  · by_cases h2 : anF (I (3 + s)) n = NON
    · refine ru_fin hV 9 [(0, 0), (0, 0)] rfl rfl ⟨⟨trivial, h1⟩, (fun e => e h2)⟩ ?_
      exact ⟨by rw [if_pos (Or.inr h2)]; rfl, rfl, rfl⟩
    · rw [if_neg (fun e => e.elim h1 h2)] at hV
      by_cases h3 : anF (I (3 + s)) n = grF (I (3 + s)) 32
      · refine ru_fin hV 13 [(0, 0), (1, 0), (0, 0)] rfl rfl ⟨⟨⟨trivial, h1⟩, h2⟩, (fun e => e h3)⟩ ?_
        exact ⟨by rw [if_pos h3]; rfl, rfl, rfl⟩
      · refine ru_fin hV 12 [(0, 0), (1, 0), (1, 0)] rfl rfl ⟨⟨⟨trivial, h1⟩, h2⟩, h3⟩ ?_
        exact ⟨by rw [if_neg h3]; rfl, rfl, rfl⟩
theorem qX7_signOrZero (l : Launch) {k n : Nat} (hk : k < 5) (hn : n ≤ 5) {I : IM} (hd : I 1 0 = nI n) (L : LM) : KX7_signOrZero l [.ref 0, .int (nI k)] I L (some (.int (if k < n then I 11 k else 0))) I L := by
  refine wX7_signOrZero l rfl (hz0 (by decide)) (fun V hV => ?_)
  by_cases h : k < n
  · rw [if_pos h] at hV
    refine ru_fin hV 12 [(1, 0), (0, 0), (1, 0), (11, 0), (k, 5)] rfl rfl ⟨⟨⟨⟨⟨⟨trivial, (by first | exact rfl | assumption | exact ⟨rfl, rfl⟩ | exact ⟨rfl, rfl, by omega⟩ | exact ⟨by assumption, rfl, by omega⟩ | exact ⟨⟨_, rfl, rfl⟩, by decide, by decide, rfl, by omega⟩ | omega | decide)⟩, (by first | exact rfl | assumption | exact ⟨rfl, rfl⟩ | exact ⟨rfl, rfl, by omega⟩ | exact ⟨by assumption, rfl, by omega⟩ | exact ⟨⟨_, rfl, rfl⟩, by decide, by decide, rfl, by omega⟩ | omega | decide)⟩, (by rw [hd]; exact nI_nge h (by omega))⟩, (by first | exact rfl | assumption | exact ⟨rfl, rfl⟩ | exact ⟨rfl, rfl, by omega⟩ | exact ⟨by assumption, rfl, by omega⟩ | exact ⟨⟨_, rfl, rfl⟩, by decide, by decide, rfl, by omega⟩ | omega | decide)⟩, (by first | exact rfl | assumption | exact ⟨rfl, rfl⟩ | exact ⟨rfl, rfl, by omega⟩ | exact ⟨by assumption, rfl, by omega⟩ | exact ⟨⟨_, rfl, rfl⟩, by decide, by decide, rfl, by omega⟩ | omega | decide)⟩, ⟨rfl, rfl, hk⟩⟩ ?_
    exact ⟨rfl, rfl, rfl⟩
  · rw [if_neg h] at hV
    refine ru_fin hV 7 [(1, 0), (1, 0)] rfl rfl ⟨⟨⟨trivial, (by first | exact rfl | assumption | exact ⟨rfl, rfl⟩ | exact ⟨rfl, rfl, by omega⟩ | exact ⟨by assumption, rfl, by omega⟩ | exact ⟨⟨_, rfl, rfl⟩, by decide, by decide, rfl, by omega⟩ | omega | decide)⟩, (by first | exact rfl | assumption | exact ⟨rfl, rfl⟩ | exact ⟨rfl, rfl, by omega⟩ | exact ⟨by assumption, rfl, by omega⟩ | exact ⟨⟨_, rfl, rfl⟩, by decide, by decide, rfl, by omega⟩ | omega | decide)⟩, (by rw [hd]; exact nI_le (by omega) (by omega))⟩ ?_
    exact ⟨rfl, rfl, rfl⟩
/-- snapshots taken: 0 or 1 each -/
def tkF (I : IM) : Int32 := (if I 166 0 = 0 then 0 else 1) + (if I 166 1 = 0 then 0 else 1)
theorem qX7_countTaken (l : Launch) (I : IM) (L : LM) : KX7_countTaken l [.ref 0] I L (some (.int (tkF I))) I L := by
  refine wX7_countTaken l rfl (hz0 (by decide)) (fun V hV => ?_)
  unfold tkF at hV
  by_cases h0 : I 166 0 = 0
  · by_cases h1 : I 166 1 = 0
    · refine ru_fin hV 29 [(0, 0), (166, 0), (0, 2), (1, 0), (0, 0), (166, 0), (1, 2), (1, 0), (1, 0)] rfl rfl ⟨⟨⟨⟨⟨⟨⟨⟨⟨trivial, (by first | exact rfl | assumption | exact ⟨rfl, rfl⟩ | exact ⟨rfl, rfl, by omega⟩ | exact ⟨by assumption, rfl, by omega⟩ | exact ⟨⟨_, rfl, rfl⟩, by decide, by decide, rfl, by omega⟩ | omega | decide)⟩, (by first | exact rfl | assumption | exact ⟨rfl, rfl⟩ | exact ⟨rfl, rfl, by omega⟩ | exact ⟨by assumption, rfl, by omega⟩ | exact ⟨⟨_, rfl, rfl⟩, by decide, by decide, rfl, by omega⟩ | omega | decide)⟩, (by first | exact rfl | assumption | exact ⟨rfl, rfl⟩ | exact ⟨rfl, rfl, by omega⟩ | exact ⟨by assumption, rfl, by omega⟩ | exact ⟨⟨_, rfl, rfl⟩, by decide, by decide, rfl, by omega⟩ | omega | decide)⟩, (by first | exact rfl | assumption | exact ⟨rfl, rfl⟩ | exact ⟨rfl, rfl, by omega⟩ | exact ⟨by assumption, rfl, by omega⟩ | exact ⟨⟨_, rfl, rfl⟩, by decide, by decide, rfl, by omega⟩ | omega | decide)⟩, (by first | exact rfl | assumption | exact ⟨rfl, rfl⟩ | exact ⟨rfl, rfl, by omega⟩ | exact ⟨by assumption, rfl, by omega⟩ | exact ⟨⟨_, rfl, rfl⟩, by decide, by decide, rfl, by omega⟩ | omega | decide)⟩, (by first | exact rfl | assumption | exact ⟨rfl, rfl⟩ | exact ⟨rfl, rfl, by omega⟩ | exact ⟨by assumption, rfl, by omega⟩ | exact ⟨⟨_, rfl, rfl⟩, by decide, by decide, rfl, by omega⟩ | omega | decide)⟩, (by first | exact rfl | assumption | exact ⟨rfl, rfl⟩ | exact ⟨rfl, rfl, by omega⟩ | exact ⟨by assumption, rfl, by omega⟩ | exact ⟨⟨_, rfl, rfl⟩, by decide, by decide, rfl, by omega⟩ | omega | decide)⟩, (by first | exact rfl | assumption | exact ⟨rfl, rfl⟩ | exact ⟨rfl, rfl, by omega⟩ | exact ⟨by assumption, rfl, by omega⟩ | exact ⟨⟨_, rfl, rfl⟩, by decide, by decide, rfl, by omega⟩ | omega | decide)⟩, (by first | exact rfl | assumption | exact ⟨rfl, rfl⟩ | exact ⟨rfl, rfl, by omega⟩ | exact ⟨by assumption, rfl, by omega⟩ | exact ⟨⟨_, rfl, rfl⟩, by decide, by decide, rfl, by omega⟩ | omega | decide)⟩ ?_
      exact ⟨by rw [if_pos h0, if_pos h1]; rfl, rfl, rfl⟩
    · refine ru_fin hV 30 [(0, 0), (166, 0), (0, 2), (1, 0), (0, 0), (166, 0), (1, 2), (0, 0), (1, 0)] rfl rfl ⟨⟨⟨⟨⟨⟨⟨⟨⟨trivial, (by first | exact rfl | assumption | exact ⟨rfl, rfl⟩ | exact ⟨rfl, rfl, by omega⟩ | exact ⟨by assumption, rfl, by omega⟩ | exact ⟨⟨_, rfl, rfl⟩, by decide, by decide, rfl, by omega⟩ | omega | decide)⟩, (by first | exact rfl | assumption | exact ⟨rfl, rfl⟩ | exact ⟨rfl, rfl, by omega⟩ | exact ⟨by assumption, rfl, by omega⟩ | exact ⟨⟨_, rfl, rfl⟩, by decide, by decide, rfl, by omega⟩ | omega | decide)⟩, (by first | exact rfl | assumption | exact ⟨rfl, rfl⟩ | exact ⟨rfl, rfl, by omega⟩ | exact ⟨by assumption, rfl, by omega⟩ | exact ⟨⟨_, rfl, rfl⟩, by decide, by decide, rfl, by omega⟩ | omega | decide)⟩, (by first | exact rfl | assumption | exact ⟨rfl, rfl⟩ | exact ⟨rfl, rfl, by omega⟩ | exact ⟨by assumption, rfl, by omega⟩ | exact ⟨⟨_, rfl, rfl⟩, by decide, by decide, rfl, by omega⟩ | omega | decide)⟩, (by first | exact rfl | assumption | exact ⟨rfl, rfl⟩ | exact ⟨rfl, rfl, by omega⟩ | exact ⟨by assumption, rfl, by omega⟩ | exact ⟨⟨_, rfl, rfl⟩, by decide, by decide, rfl, by omega⟩ | omega | decide)⟩, (by first | exact rfl | assumption | exact ⟨rfl, rfl⟩ | exact ⟨rfl, rfl, by omega⟩ | exact ⟨by assumption, rfl, by omega⟩ | exact ⟨⟨_, rfl, rfl⟩, by decide, by decide, rfl, by omega⟩ | omega | decide)⟩, (by first | exact rfl | assumption | exact ⟨rfl, rfl⟩ | exact ⟨rfl, rfl, by omega⟩ | exact ⟨by assumption, rfl, by omega⟩ | exact ⟨⟨_, rfl, rfl⟩, by decide, by decide, rfl, by omega⟩ | omega | decide)⟩, (by first | exact rfl | assumption | exact ⟨rfl, rfl⟩ | exact ⟨rfl, rfl, by omega⟩ | exact ⟨by assumption, rfl, by omega⟩ | exact ⟨⟨_, rfl, rfl⟩, by decide, by decide, rfl, by omega⟩ | omega | decide)⟩, (by first | exact rfl | assumption | exact ⟨rfl, rfl⟩ | exact ⟨rfl, rfl, by omega⟩ | exact ⟨by assumption, rfl, by omega⟩ | exact ⟨⟨_, rfl, rfl⟩, by decide, by decide, rfl, by omega⟩ | omega | decide)⟩ ?_
      exact ⟨by rw [if_pos h0, if_neg h1]; rfl, rfl, rfl⟩
  · by_cases h1 : I 166 1 = 0
    · refine ru_fin hV 30 [(0, 0), (166, 0), (0, 2), (0, 0), (0, 0), (166, 0), (1, 2), (1, 0), (1, 0)] rfl rfl ⟨⟨⟨⟨⟨⟨⟨⟨⟨trivial, (by first | exact rfl | assumption | exact ⟨rfl, rfl⟩ | exact ⟨rfl, rfl, by omega⟩ | exact ⟨by assumption, rfl, by omega⟩ | exact ⟨⟨_, rfl, rfl⟩, by decide, by decide, rfl, by omega⟩ | omega | decide)⟩, (by first | exact rfl | assumption | exact ⟨rfl, rfl⟩ | exact ⟨rfl, rfl, by omega⟩ | exact ⟨by assumption, rfl, by omega⟩ | exact ⟨⟨_, rfl, rfl⟩, by decide, by decide, rfl, by omega⟩ | omega | decide)⟩, (by first | exact rfl | assumption | exact ⟨rfl, rfl⟩ | exact ⟨rfl, rfl, by omega⟩ | exact ⟨by assumption, rfl, by omega⟩ | exact ⟨⟨_, rfl, rfl⟩, by decide, by decide, rfl, by omega⟩ | omega | decide)⟩, (by first | exact rfl | assumption | exact ⟨rfl, rfl⟩ | exact ⟨rfl, rfl, by omega⟩ | exact ⟨by assumption, rfl, by omega⟩ | exact ⟨⟨_, rfl, rfl⟩, by decide, by decide, rfl, by omega⟩ | omega | decide)⟩, (by first | exact rfl | assumption | exact ⟨rfl, rfl⟩ | exact ⟨rfl, rfl, by omega⟩ | exact ⟨by assumption, rfl, by omega⟩ | exact ⟨⟨_, rfl, rfl⟩, by decide, by decide, rfl, by omega⟩ | omega | decide)⟩, (by first | exact rfl | assumption | exact ⟨rfl, rfl⟩ | exact ⟨rfl, rfl, by omega⟩ | exact ⟨by assumption, rfl, by omega⟩ | exact ⟨⟨_, rfl, rfl⟩, by decide, by decide, rfl, by omega⟩ | omega | decide)⟩, (by first | exact rfl | assumption | exact ⟨rfl, rfl⟩ | exact ⟨rfl, rfl, by omega⟩ | exact ⟨by assumption, rfl, by omega⟩ | exact ⟨⟨_, rfl, rfl⟩, by decide, by decide, rfl, by omega⟩ | omega | decide)⟩, (by first | exact rfl | assumption | exact ⟨rfl, rfl⟩ | exact ⟨rfl, rfl, by omega⟩ | exact ⟨by assumption, rfl, by omega⟩ | exact ⟨⟨_, rfl, rfl⟩, by decide, by decide, rfl, by omega⟩ | omega | decide)⟩, (by first | exact rfl | assumption | exact ⟨rfl, rfl⟩ | exact ⟨rfl, rfl, by omega⟩ | exact ⟨by assumption, rfl, by omega⟩ | exact ⟨⟨_, rfl, rfl⟩, by decide, by decide, rfl, by omega⟩ | omega | decide)⟩ ?_
      exact ⟨by rw [if_neg h0, if_pos h1]; rfl, rfl, rfl⟩
    · refine ru_fin hV 31 [(0, 0), (166, 0), (0, 2), (0, 0), (0, 0), (166, 0), (1, 2), (0, 0), (1, 0)] rfl rfl ⟨⟨⟨⟨⟨⟨⟨⟨⟨trivial, (by first | exact rfl | assumption | exact ⟨rfl, rfl⟩ | exact ⟨rfl, rfl, by omega⟩ | exact ⟨by assumption, rfl, by omega⟩ | exact ⟨⟨_, rfl, rfl⟩, by decide, by decide, rfl, by omega⟩ | omega | decide)⟩, (by first | exact rfl | assumption | exact ⟨rfl, rfl⟩ | exact ⟨rfl, rfl, by omega⟩ | exact ⟨by assumption, rfl, by omega⟩ | exact ⟨⟨_, rfl, rfl⟩, by decide, by decide, rfl, by omega⟩ | omega | decide)⟩, (by first | exact rfl | assumption | exact ⟨rfl, rfl⟩ | exact ⟨rfl, rfl, by omega⟩ | exact ⟨by assumption, rfl, by omega⟩ | exact ⟨⟨_, rfl, rfl⟩, by decide, by decide, rfl, by omega⟩ | omega | decide)⟩, (by first | exact rfl | assumption | exact ⟨rfl, rfl⟩ | exact ⟨rfl, rfl, by omega⟩ | exact ⟨by assumption, rfl, by omega⟩ | exact ⟨⟨_, rfl, rfl⟩, by decide, by decide, rfl, by omega⟩ | omega | decide)⟩, (by first | exact rfl | assumption | exact ⟨rfl, rfl⟩ | exact ⟨rfl, rfl, by omega⟩ | exact ⟨by assumption, rfl, by omega⟩ | exact ⟨⟨_, rfl, rfl⟩, by decide, by decide, rfl, by omega⟩ | omega | decide)⟩, (by first | exact rfl | assumption | exact ⟨rfl, rfl⟩ | exact ⟨rfl, rfl, by omega⟩ | exact ⟨by assumption, rfl, by omega⟩ | exact ⟨⟨_, rfl, rfl⟩, by decide, by decide, rfl, by omega⟩ | omega | decide)⟩, (by first | exact rfl | assumption | exact ⟨rfl, rfl⟩ | exact ⟨rfl, rfl, by omega⟩ | exact ⟨by assumption, rfl, by omega⟩ | exact ⟨⟨_, rfl, rfl⟩, by decide, by decide, rfl, by omega⟩ | omega | decide)⟩, (by first | exact rfl | assumption | exact ⟨rfl, rfl⟩ | exact ⟨rfl, rfl, by omega⟩ | exact ⟨by assumption, rfl, by omega⟩ | exact ⟨⟨_, rfl, rfl⟩, by decide, by decide, rfl, by omega⟩ | omega | decide)⟩, (by first | exact rfl | assumption | exact ⟨rfl, rfl⟩ | exact ⟨rfl, rfl, by omega⟩ | exact ⟨by assumption, rfl, by omega⟩ | exact ⟨⟨_, rfl, rfl⟩, by decide, by decide, rfl, by omega⟩ | omega | decide)⟩ ?_
      exact ⟨by rw [if_neg h0, if_neg h1]; rfl, rfl, rfl⟩
