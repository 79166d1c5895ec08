/-! the desk: what arguments must be -/
theorem hb1 : isSt 1 := Or.inl rfl
/-- out of the numbers below m -/
def ouR (x : Int32) (m : Nat) : Prop := x < 0 ∨ nI m ≤ x
theorem ouR_or (x : Int32) (m : Nat) (hm : m < 2 ^ 31) : (∃ k, k < m ∧ x = nI k) ∨ ouR x m := by
  by_cases h : x < 0
  · exact Or.inr (Or.inl h)
  · obtain ⟨k, hk, rfl⟩ := nI_of h
    by_cases hkm : k < m
    · exact Or.inl ⟨k, hkm, rfl⟩
    · exact Or.inr (Or.inr (nI_le (by omega) hk))
def ouS (v M : Int32) : Prop := v < -M ∨ ¬ v ≤ M
theorem qX7_requireSlot (l : Launch) {k : Nat} (hk : k < 8) (I : IM) (L : LM) : KX7_requireSlot l [.int (nI k)] I L none I L := by
  refine wX7_requireSlot l rfl (hz0 (by decide)) (fun V hV => ?_)
  refine ru_fin hV 6 [(0, 0), (1, 0)] rfl rfl ⟨⟨trivial, nI_pos (by omega)⟩, nI_lt (b := 8) hk (by decide)⟩ ?_
  exact ⟨rfl, rfl, rfl⟩
theorem qX7_requirePlace (l : Launch) {k : Nat} (hk : k < 5) (I : IM) (L : LM) : KX7_requirePlace l [.int (nI k)] I L none I L := by
  refine wX7_requirePlace l rfl (hz0 (by decide)) (fun V hV => ?_)
  refine ru_fin hV 6 [(0, 0), (1, 0)] rfl rfl ⟨⟨trivial, nI_pos (by omega)⟩, nI_lt (b := 5) hk (by decide)⟩ ?_
  exact ⟨rfl, rfl, rfl⟩
theorem qX7_requireDirection (l : Launch) {k n : Nat} (hk : k < n) (hn : n ≤ 5) {I : IM} (hd : I 1 0 = nI n) (L : LM) : KX7_requireDirection l [.ref 0, .int (nI k)] I L none I L := by
  refine wX7_requireDirection l rfl (hz0 (by decide)) (fun V hV => ?_)
  refine ru_fin hV 8 [(0, 0), (1, 0), (1, 0)] rfl rfl ⟨⟨⟨⟨trivial, nI_pos (by omega)⟩, (by first | exact rfl | assumption | exact ⟨rfl, rfl⟩ | exact ⟨rfl, rfl, by omega⟩ | exact ⟨by assumption, rfl, by omega⟩ | exact ⟨⟨_, rfl, rfl⟩, by decide, by decide, rfl, by omega⟩ | omega | decide)⟩, (by first | exact rfl | assumption | exact ⟨rfl, rfl⟩ | exact ⟨rfl, rfl, by omega⟩ | exact ⟨by assumption, rfl, by omega⟩ | exact ⟨⟨_, rfl, rfl⟩, by decide, by decide, rfl, by omega⟩ | omega | decide)⟩, (by rw [hd]; exact nI_lt hk (by omega))⟩ ?_
  exact ⟨rfl, rfl, rfl⟩
theorem qX7_requireGrade (l : Launch) {k n : Nat} (hk : k ≤ n) (hn : n ≤ 5) {I : IM} (hd : I 1 0 = nI n) (L : LM) : KX7_requireGrade l [.ref 0, .int (nI k)] I L none I L := by
  refine wX7_requireGrade l rfl (hz0 (by decide)) (fun V hV => ?_)
  refine ru_fin hV 8 [(0, 0), (1, 0), (1, 0)] rfl rfl ⟨⟨⟨⟨trivial, nI_pos (by omega)⟩, (by first | exact rfl | assumption | exact ⟨rfl, rfl⟩ | exact ⟨rfl, rfl, by omega⟩ | exact ⟨by assumption, rfl, by omega⟩ | exact ⟨⟨_, rfl, rfl⟩, by decide, by decide, rfl, by omega⟩ | omega | decide)⟩, (by first | exact rfl | assumption | exact ⟨rfl, rfl⟩ | exact ⟨rfl, rfl, by omega⟩ | exact ⟨by assumption, rfl, by omega⟩ | exact ⟨⟨_, rfl, rfl⟩, by decide, by decide, rfl, by omega⟩ | omega | decide)⟩, (by rw [hd]; exact nI_le hk (by omega))⟩ ?_
  exact ⟨rfl, rfl, rfl⟩
theorem ouR_lt {x : Int32} {m : Nat} (hm : m + 1 < 2 ^ 31) (h : ouR x (m + 1)) (h0 : ¬ x < 0) : ¬ x ≤ nI m := by
  obtain ⟨k, hk, rfl⟩ := nI_of h0
  have := h.resolve_left h0
  rw [nI_leI hm hk] at this
  rw [nI_leI hk (by omega)]
  omega
theorem qX7_requireBlade (l : Launch) {k n : Nat} (hk : k < 2 ^ n) (hn : n ≤ 5) {I : IM} (hd : I 1 0 = nI n) (L : LM) : KX7_requireBlade l [.ref 0, .int (nI k)] I L none I L := by
  have hB := pow_le32 n hn
  refine wX7_requireBlade l rfl (hz0 (by decide)) (fun V hV => ?_)
  refine ru_go hV 5 [(0, 0), (1, 0)] rfl rfl ⟨⟨trivial, nI_pos (by omega)⟩, (by first | exact rfl | assumption | exact ⟨rfl, rfl⟩ | exact ⟨rfl, rfl, by omega⟩ | exact ⟨by assumption, rfl, by omega⟩ | exact ⟨⟨_, rfl, rfl⟩, by decide, by decide, rfl, by omega⟩ | omega | decide)⟩ ?_
  refine ru_V hV [.int (nI k)] sVX7_127 (qX6_blades l hb1 hn hd L) rfl rfl rfl rfl rfl (Nat.le_of_ble_eq_true rfl) ?_
  refine ru_fin hV 2 [(1, 0)] rfl rfl ⟨trivial, nI_lt hk (by omega)⟩ ?_
  exact ⟨rfl, rfl, rfl⟩
theorem qX7_requireSize (l : Launch) {v M : Int32} (h : ¬ ouS v M) (I : IM) (L : LM) : KX7_requireSize l [.int v, .int M] I L none I L := by
  refine wX7_requireSize l rfl (hz0 (by decide)) (fun V hV => ?_)
  refine ru_fin hV 8 [(0, 0), (1, 0)] rfl rfl ⟨⟨trivial, (fun e => h (Or.inl e))⟩, (Decidable.byContradiction fun e => h (Or.inr e))⟩ ?_
  exact ⟨rfl, rfl, rfl⟩
theorem qX7_requireSlots (l : Launch) {a b c : Nat} (ha : a < 8) (hb : b < 8) (hc : c < 8) (I : IM) (L : LM) : KX7_requireSlots l [.int (nI a), .int (nI b), .int (nI c)] I L none I L := by
  refine wX7_requireSlots l rfl (hz0 (by decide)) (fun V hV => ?_)
  refine ru_go hV 1 [] rfl rfl trivial ?_
  refine ru_S hV [] sSX7_97 (qX7_requireSlot l ha I L) rfl rfl rfl (Nat.le_of_ble_eq_true rfl) ?_
  refine ru_go hV 1 [] rfl rfl trivial ?_
  refine ru_S hV [] sSX7_97 (qX7_requireSlot l hb I L) rfl rfl rfl (Nat.le_of_ble_eq_true rfl) ?_
  refine ru_go hV 1 [] rfl rfl trivial ?_
  refine ru_S hV [] sSX7_97 (qX7_requireSlot l hc I L) rfl rfl rfl (Nat.le_of_ble_eq_true rfl) ?_
  refine ru_fin hV 1 [] rfl rfl trivial ?_
  exact ⟨rfl, rfl, rfl⟩
