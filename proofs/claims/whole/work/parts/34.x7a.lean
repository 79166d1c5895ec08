/-! the desk: what arguments must be -/
theorem hb1 : isSt 1 := Or.inl rfl
/-- out of the numbers below m -/
def ouR (x : Int32) (m : Nat) : Prop := x < 0 ∨ nI m ≤ x
theorem ouR_or (x : Int32) (m : Nat) (hm : m < 2 ^ 31) : (∃ k, k < m ∧ x = nI k) ∨ ouR x m := by
  by_cases h : x < 0
  · exact Or.inr (Or.inl h)
  · obtain ⟨k, hk, rfl⟩ := nI_of h
    by_cases hkm : k < m
    · exact Or.inl ⟨k, hkm, rfl⟩
    · exact Or.inr (Or.inr (nI_le (by omega) hk))
def ouS (v M : Int32) : Prop := v < -M ∨ ¬ v ≤ M
theorem qX7_requireSlot (l : Launch) {k : Nat} (hk : k < 8) (I : IM) (L : LM) : KX7_requireSlot l [.int (nI k)] I L none I L := by
  refine wX7_requireSlot l rfl (hz0 (by decide)) (fun V hV => ?_)
  refine ru_fin hV 6 [(0, 0), (1, 0)] rfl rfl ⟨⟨trivial, nI_pos (by omega)⟩, nI_lt (b := 8) hk (by decide)⟩ ?_
  exact ⟨rfl, rfl, rfl⟩
theorem xX7_requireSlot (l : Launch) (hlt : l.stackTraces = false) {x : Int32} (hx : ouR x 8) (I : IM) (L : LM) : TX7_requireSlot l [.int x] I L exB I L := by
  refine vX7_requireSlot l hlt rfl (fun V hX => ?_)
  have hV := hX.1
  by_cases h : x < 0
  · refine ru_go hV 2 [(1, 0)] rfl rfl ⟨trivial, h⟩ ?_
    exact rx_W hX "there is no such slot" thX7_requireSlot_10 excB (by decide) rfl
  · refine ru_go hV 5 [(0, 0), (0, 0)] rfl rfl ⟨⟨trivial, h⟩, Int32.not_lt.mpr (hx.resolve_left h)⟩ ?_
    exact rx_W hX "there is no such slot" thX7_requireSlot_10 excB (by decide) rfl
theorem qX7_requireSnapshot (l : Launch) {k : Nat} (hk : k < 2) (I : IM) (L : LM) : KX7_requireSnapshot l [.int (nI k)] I L none I L := by
  refine wX7_requireSnapshot l rfl (hz0 (by decide)) (fun V hV => ?_)
  refine ru_fin hV 6 [(0, 0), (1, 0)] rfl rfl ⟨⟨trivial, nI_pos (by omega)⟩, nI_lt (b := 2) hk (by decide)⟩ ?_
  exact ⟨rfl, rfl, rfl⟩
theorem xX7_requireSnapshot (l : Launch) (hlt : l.stackTraces = false) {x : Int32} (hx : ouR x 2) (I : IM) (L : LM) : TX7_requireSnapshot l [.int x] I L exB I L := by
  refine vX7_requireSnapshot l hlt rfl (fun V hX => ?_)
  have hV := hX.1
  by_cases h : x < 0
  · refine ru_go hV 2 [(1, 0)] rfl rfl ⟨trivial, h⟩ ?_
    exact rx_W hX "there is no such snapshot" thX7_requireSnapshot_9 excB (by decide) rfl
  · refine ru_go hV 5 [(0, 0), (0, 0)] rfl rfl ⟨⟨trivial, h⟩, Int32.not_lt.mpr (hx.resolve_left h)⟩ ?_
    exact rx_W hX "there is no such snapshot" thX7_requireSnapshot_9 excB (by decide) rfl
theorem qX7_requirePlace (l : Launch) {k : Nat} (hk : k < 5) (I : IM) (L : LM) : KX7_requirePlace l [.int (nI k)] I L none I L := by
  refine wX7_requirePlace l rfl (hz0 (by decide)) (fun V hV => ?_)
  refine ru_fin hV 6 [(0, 0), (1, 0)] rfl rfl ⟨⟨trivial, nI_pos (by omega)⟩, nI_lt (b := 5) hk (by decide)⟩ ?_
  exact ⟨rfl, rfl, rfl⟩
theorem xX7_requirePlace (l : Launch) (hlt : l.stackTraces = false) {x : Int32} (hx : ouR x 5) (I : IM) (L : LM) : TX7_requirePlace l [.int x] I L exA I L := by
  refine vX7_requirePlace l hlt rfl (fun V hX => ?_)
  have hV := hX.1
  by_cases h : x < 0
  · refine ru_go hV 2 [(1, 0)] rfl rfl ⟨trivial, h⟩ ?_
    exact rx_W hX "the place is out of range" thX7_requirePlace_9 excA (by decide) rfl
  · refine ru_go hV 5 [(0, 0), (0, 0)] rfl rfl ⟨⟨trivial, h⟩, Int32.not_lt.mpr (hx.resolve_left h)⟩ ?_
    exact rx_W hX "the place is out of range" thX7_requirePlace_9 excA (by decide) rfl
theorem qX7_requireDirection (l : Launch) {k n : Nat} (hk : k < n) (hn : n ≤ 5) {I : IM} (hd : I 1 0 = nI n) (L : LM) : KX7_requireDirection l [.ref 0, .int (nI k)] I L none I L := by
  refine wX7_requireDirection l rfl (hz0 (by decide)) (fun V hV => ?_)
  refine ru_fin hV 8 [(0, 0), (1, 0), (1, 0)] rfl rfl ⟨⟨⟨⟨trivial, nI_pos (by omega)⟩, (by first | exact rfl | assumption | exact ⟨rfl, rfl⟩ | exact ⟨rfl, rfl, by omega⟩ | exact ⟨by assumption, rfl, by omega⟩ | exact ⟨⟨_, rfl, rfl⟩, by decide, by decide, rfl, by omega⟩ | omega | decide)⟩, (by first | exact rfl | assumption | exact ⟨rfl, rfl⟩ | exact ⟨rfl, rfl, by omega⟩ | exact ⟨by assumption, rfl, by omega⟩ | exact ⟨⟨_, rfl, rfl⟩, by decide, by decide, rfl, by omega⟩ | omega | decide)⟩, (by rw [hd]; exact nI_lt hk (by omega))⟩ ?_
  exact ⟨rfl, rfl, rfl⟩
theorem xX7_requireDirection (l : Launch) (hlt : l.stackTraces = false) {x : Int32} {n : Nat} (hx : ouR x n) {I : IM} (hd : I 1 0 = nI n) (L : LM) : TX7_requireDirection l [.ref 0, .int x] I L exB I L := by
  refine vX7_requireDirection l hlt rfl (fun V hX => ?_)
  have hV := hX.1
  by_cases h : x < 0
  · refine ru_go hV 2 [(1, 0)] rfl rfl ⟨trivial, h⟩ ?_
    exact rx_W hX "there is no such direction" thX7_requireDirection_15 excB (by decide) rfl
  · refine ru_go hV 7 [(0, 0), (1, 0), (0, 0)] rfl rfl ⟨⟨⟨⟨trivial, h⟩, (by first | exact rfl | assumption | exact ⟨rfl, rfl⟩ | exact ⟨rfl, rfl, by omega⟩ | exact ⟨by assumption, rfl, by omega⟩ | exact ⟨⟨_, rfl, rfl⟩, by decide, by decide, rfl, by omega⟩ | omega | decide)⟩, (by first | exact rfl | assumption | exact ⟨rfl, rfl⟩ | exact ⟨rfl, rfl, by omega⟩ | exact ⟨by assumption, rfl, by omega⟩ | exact ⟨⟨_, rfl, rfl⟩, by decide, by decide, rfl, by omega⟩ | omega | decide)⟩, (by rw [hd]; exact Int32.not_lt.mpr (hx.resolve_left h))⟩ ?_
    exact rx_W hX "there is no such direction" thX7_requireDirection_15 excB (by decide) rfl
theorem qX7_requireGrade (l : Launch) {k n : Nat} (hk : k ≤ n) (hn : n ≤ 5) {I : IM} (hd : I 1 0 = nI n) (L : LM) : KX7_requireGrade l [.ref 0, .int (nI k)] I L none I L := by
  refine wX7_requireGrade l rfl (hz0 (by decide)) (fun V hV => ?_)
  refine ru_fin hV 8 [(0, 0), (1, 0), (1, 0)] rfl rfl ⟨⟨⟨⟨trivial, nI_pos (by omega)⟩, (by first | exact rfl | assumption | exact ⟨rfl, rfl⟩ | exact ⟨rfl, rfl, by omega⟩ | exact ⟨by assumption, rfl, by omega⟩ | exact ⟨⟨_, rfl, rfl⟩, by decide, by decide, rfl, by omega⟩ | omega | decide)⟩, (by first | exact rfl | assumption | exact ⟨rfl, rfl⟩ | exact ⟨rfl, rfl, by omega⟩ | exact ⟨by assumption, rfl, by omega⟩ | exact ⟨⟨_, rfl, rfl⟩, by decide, by decide, rfl, by omega⟩ | omega | decide)⟩, (by rw [hd]; exact nI_le hk (by omega))⟩ ?_
  exact ⟨rfl, rfl, rfl⟩
theorem ouR_lt {x : Int32} {m : Nat} (hm : m + 1 < 2 ^ 31) (h : ouR x (m + 1)) (h0 : ¬ x < 0) : ¬ x ≤ nI m := by
  obtain ⟨k, hk, rfl⟩ := nI_of h0
  have := h.resolve_left h0
  rw [nI_leI hm hk] at this
  rw [nI_leI hk (by omega)]
  omega
theorem xX7_requireGrade (l : Launch) (hlt : l.stackTraces = false) {x : Int32} {n : Nat} (hn : n ≤ 5) (hx : ouR x (n + 1)) {I : IM} (hd : I 1 0 = nI n) (L : LM) : TX7_requireGrade l [.ref 0, .int x] I L exA I L := by
  refine vX7_requireGrade l hlt rfl (fun V hX => ?_)
  have hV := hX.1
  by_cases h : x < 0
  · refine ru_go hV 2 [(1, 0)] rfl rfl ⟨trivial, h⟩ ?_
    exact rx_W hX "the grade is out of range" thX7_requireGrade_15 excA (by decide) rfl
  · refine ru_go hV 7 [(0, 0), (1, 0), (0, 0)] rfl rfl ⟨⟨⟨⟨trivial, h⟩, (by first | exact rfl | assumption | exact ⟨rfl, rfl⟩ | exact ⟨rfl, rfl, by omega⟩ | exact ⟨by assumption, rfl, by omega⟩ | exact ⟨⟨_, rfl, rfl⟩, by decide, by decide, rfl, by omega⟩ | omega | decide)⟩, (by first | exact rfl | assumption | exact ⟨rfl, rfl⟩ | exact ⟨rfl, rfl, by omega⟩ | exact ⟨by assumption, rfl, by omega⟩ | exact ⟨⟨_, rfl, rfl⟩, by decide, by decide, rfl, by omega⟩ | omega | decide)⟩, (by rw [hd]; exact ouR_lt (by omega) hx h)⟩ ?_
    exact rx_W hX "the grade is out of range" thX7_requireGrade_15 excA (by decide) rfl
theorem qX7_requireBlade (l : Launch) {k n : Nat} (hk : k < 2 ^ n) (hn : n ≤ 5) {I : IM} (hd : I 1 0 = nI n) (L : LM) : KX7_requireBlade l [.ref 0, .int (nI k)] I L none I L := by
  have hB := pow_le32 n hn
  refine wX7_requireBlade l rfl (hz0 (by decide)) (fun V hV => ?_)
  refine ru_go hV 5 [(0, 0), (1, 0)] rfl rfl ⟨⟨trivial, nI_pos (by omega)⟩, (by first | exact rfl | assumption | exact ⟨rfl, rfl⟩ | exact ⟨rfl, rfl, by omega⟩ | exact ⟨by assumption, rfl, by omega⟩ | exact ⟨⟨_, rfl, rfl⟩, by decide, by decide, rfl, by omega⟩ | omega | decide)⟩ ?_
  refine ru_V hV [.int (nI k)] sVX7_127 (qX6_blades l hb1 hn hd L) rfl rfl rfl rfl rfl (Nat.le_of_ble_eq_true rfl) ?_
  refine ru_fin hV 2 [(1, 0)] rfl rfl ⟨trivial, nI_lt hk (by omega)⟩ ?_
  exact ⟨rfl, rfl, rfl⟩
theorem xX7_requireBlade (l : Launch) (hlt : l.stackTraces = false) {x : Int32} {n : Nat} (hn : n ≤ 5) (hx : ouR x (2 ^ n)) {I : IM} (hd : I 1 0 = nI n) (L : LM) : TX7_requireBlade l [.ref 0, .int x] I L exB I L := by
  refine vX7_requireBlade l hlt rfl (fun V hX => ?_)
  have hV := hX.1
  by_cases h : x < 0
  · refine ru_go hV 2 [(1, 0)] rfl rfl ⟨trivial, h⟩ ?_
    exact rx_W hX "there is no such blade" thX7_requireBlade_15 excB (by decide) rfl
  · refine ru_go hV 5 [(0, 0), (1, 0)] rfl rfl ⟨⟨trivial, h⟩, (by first | exact rfl | assumption | exact ⟨rfl, rfl⟩ | exact ⟨rfl, rfl, by omega⟩ | exact ⟨by assumption, rfl, by omega⟩ | exact ⟨⟨_, rfl, rfl⟩, by decide, by decide, rfl, by omega⟩ | omega | decide)⟩ ?_
    refine ru_V hV [.int x] sVX7_127 (qX6_blades l hb1 hn hd L) rfl rfl rfl rfl rfl (Nat.le_of_ble_eq_true rfl) ?_
    refine ru_go hV 1 [(0, 0)] rfl rfl ⟨trivial, Int32.not_lt.mpr (hx.resolve_left h)⟩ ?_
    exact rx_W hX "there is no such blade" thX7_requireBlade_15 excB (by decide) rfl
theorem qX7_requireSize (l : Launch) {v M : Int32} (h : ¬ ouS v M) (I : IM) (L : LM) : KX7_requireSize l [.int v, .int M] I L none I L := by
  refine wX7_requireSize l rfl (hz0 (by decide)) (fun V hV => ?_)
  refine ru_fin hV 8 [(0, 0), (1, 0)] rfl rfl ⟨⟨trivial, (fun e => h (Or.inl e))⟩, (Decidable.byContradiction fun e => h (Or.inr e))⟩ ?_
  exact ⟨rfl, rfl, rfl⟩
theorem xX7_requireSize (l : Launch) (hlt : l.stackTraces = false) {v M : Int32} (h : ouS v M) (I : IM) (L : LM) : TX7_requireSize l [.int v, .int M] I L exA I L := by
  refine vX7_requireSize l hlt rfl (fun V hX => ?_)
  have hV := hX.1
  by_cases h0 : v < -M
  · refine ru_go hV 4 [(1, 0)] rfl rfl ⟨trivial, h0⟩ ?_
    exact rx_W hX "the number is out of range" thX7_requireSize_11 excA (by decide) rfl
  · refine ru_go hV 7 [(0, 0), (0, 0)] rfl rfl ⟨⟨trivial, h0⟩, h.resolve_left h0⟩ ?_
    exact rx_W hX "the number is out of range" thX7_requireSize_11 excA (by decide) rfl
theorem qX7_requireSlots (l : Launch) {a b c : Nat} (ha : a < 8) (hb : b < 8) (hc : c < 8) (I : IM) (L : LM) : KX7_requireSlots l [.int (nI a), .int (nI b), .int (nI c)] I L none I L := by
  refine wX7_requireSlots l rfl (hz0 (by decide)) (fun V hV => ?_)
  refine ru_go hV 1 [] rfl rfl trivial ?_
  refine ru_S hV [] sSX7_97 (qX7_requireSlot l ha I L) rfl rfl rfl (Nat.le_of_ble_eq_true rfl) ?_
  refine ru_go hV 1 [] rfl rfl trivial ?_
  refine ru_S hV [] sSX7_97 (qX7_requireSlot l hb I L) rfl rfl rfl (Nat.le_of_ble_eq_true rfl) ?_
  refine ru_go hV 1 [] rfl rfl trivial ?_
  refine ru_S hV [] sSX7_97 (qX7_requireSlot l hc I L) rfl rfl rfl (Nat.le_of_ble_eq_true rfl) ?_
  refine ru_fin hV 1 [] rfl rfl trivial ?_
  exact ⟨rfl, rfl, rfl⟩
theorem xX7_requireSlots (l : Launch) (hlt : l.stackTraces = false) {x y z : Int32} (h : ouR x 8 ∨ ouR y 8 ∨ ouR z 8) (I : IM) (L : LM) : TX7_requireSlots l [.int x, .int y, .int z] I L exB I L := by
  refine vX7_requireSlots l hlt rfl (fun V hX => ?_)
  have hV := hX.1
  refine ru_go hV 1 [] rfl rfl trivial ?_
  rcases ouR_or x 8 (by decide) with ⟨a, ha, rfl⟩ | hx
  · refine ru_S hV [] sSX7_97 (qX7_requireSlot l ha I L) rfl rfl rfl (Nat.le_of_ble_eq_true rfl) ?_
    refine ru_go hV 1 [] rfl rfl trivial ?_
    rcases ouR_or y 8 (by decide) with ⟨b, hb, rfl⟩ | hy
    · refine ru_S hV [] sSX7_97 (qX7_requireSlot l hb I L) rfl rfl rfl (Nat.le_of_ble_eq_true rfl) ?_
      refine ru_go hV 1 [] rfl rfl trivial ?_
      rcases ouR_or z 8 (by decide) with ⟨c, hc, rfl⟩ | hz
      · have no : ∀ k, k < 8 → ¬ ouR (nI k) 8 := fun k hk e => e.elim (nI_pos (by omega)) (nI_ge (b := 8) hk (by decide))
        exact absurd h (fun e => e.elim (no a ha) (fun e => e.elim (no b hb) (no c hc)))
      · exact rx_cS hX [] sSX7_97 (xX7_requireSlot l hlt hz I L) rfl rfl rfl (Nat.le_of_ble_eq_true rfl)
    · exact rx_cS hX [] sSX7_97 (xX7_requireSlot l hlt hy I L) rfl rfl rfl (Nat.le_of_ble_eq_true rfl)
  · exact rx_cS hX [] sSX7_97 (xX7_requireSlot l hlt hx I L) rfl rfl rfl (Nat.le_of_ble_eq_true rfl)
