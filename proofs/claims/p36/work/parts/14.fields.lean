/-! FIELDS, KINDS OF CELLS -/
def flk : List (Nat × Nat × Nat × Nat × Nat) → Ft
  | [], _ => none
  | (q, r) :: t, ix => bif Nat.beq q ix then some r else flk t ix
theorem flk_mem : ∀ (P : List (Nat × Nat × Nat × Nat × Nat)) {ix : Nat} {r : Nat × Nat × Nat × Nat}, flk P ix = some r → (ix, r) ∈ P
  | [], ix, r, h => by simp [flk] at h
  | (q, z) :: t, ix, r, h => by
    simp only [flk] at h
    cases hq : Nat.beq q ix with
    | true =>
      rw [hq] at h
      simp only [cond_true, Option.some.injEq] at h
      rw [Nat.eq_of_beq_eq_true hq, h]
      exact List.mem_cons_self
    | false =>
      rw [hq] at h
      simp only [cond_false] at h
      exact List.mem_cons_of_mem _ (flk_mem t h)
def ClsOK (ci : Nat) (C : String) (T : u_T) (NF : Nat) (ty0 : Nat → FieldType) : Prop := vwCl[ci]? = some (C, T, NF) ∧ (∀ w ∈ u_ws C T NF, w ∈ WB) ∧ (FD ci).length = NF ∧ (∀ k, k < NF → parseFieldDescriptor (T k).2.2.1 = some (ty0 k)) ∧ (∀ a, a < NF → ∀ b, b < NF → a ≠ b → (T a).2.1 ≠ (T b).2.1)
def feB (own C : String) (T : u_T) (ty0 : Nat → FieldType) (NF : Nat) (q : Nat × Nat × Nat × Nat × Nat) : Bool := Nat.blt q.2.2.1 NF && (decide (Cond.fieldLink own q.1 C (T q.2.2.1).2.1 (T q.2.2.1).2.2.1 ∈ WB) && (decide ((T q.2.2.1).1 = C) && (decide ((FD q.2.1)[q.2.2.1]? = some (q.2.2.2.1, q.2.2.2.2)) && ((Nat.beq q.2.2.2.1 2 || decide ((T q.2.2.1).2.2.2 = false)) && ((!(Nat.beq q.2.2.2.1 0) || decide (ty0 q.2.2.1 = .int)) && ((!(Nat.beq q.2.2.2.1 1) || decide (ty0 q.2.2.1 = .long)) && (!(Nat.beq q.2.2.2.1 3) || decide (ty0 q.2.2.1 = .boolean))))))))
def FeOK (own : String) (q : Nat × Nat × Nat × Nat × Nat) : Prop := ∃ (C : String) (T : u_T) (NF : Nat) (ty0 : Nat → FieldType), ClsOK q.2.1 C T NF ty0 ∧ feB own C T ty0 NF q = true
theorem fok_of {own : String} {l : List (Nat × Nat × Nat × Nat × Nat)} (h : ∀ q ∈ l, FeOK own q) : FOK own (flk l) := by
  intro ix ci j t off hf
  obtain ⟨C, T, NF, ty0, ⟨a1, a2, a3, a4, a5⟩, hb⟩ := h _ (flk_mem l hf)
  simp only [feB, Bool.and_eq_true, Bool.or_eq_true, decide_eq_true_eq, Nat.blt_eq, Bool.not_eq_true', Nat.beq_eq] at hb
  obtain ⟨b1, b2, b3, b4, b5, b6, b7, b8⟩ := hb
  refine ⟨C, T, NF, ty0, a1, b1, a2, b2, b3, b4, a3, a4, a5, fun h => ?_, fun h => ?_, fun h => ?_, fun h => ?_⟩
  · rcases b5 with e | e
    · exact absurd e h
    · exact e
  · rcases b6 with e | e
    · subst h; simp at e
    · exact e
  · rcases b7 with e | e
    · subst h; simp at e
    · exact e
  · rcases b8 with e | e
    · subst h; simp at e
    · exact e
theorem fok_nil {own : String} : FOK own (flk []) := fok_of (fun q h => by cases h)
theorem clsX1 : ClsOK 0 RX1 TX1 6 tyX1 := ⟨rfl, by decide +kernel, by decide, tyX1_ok, nmX1⟩
theorem clsX3 : ClsOK 1 RX3 TX3 3 tyX3 := ⟨rfl, by decide +kernel, by decide, tyX3_ok, nmX3⟩
theorem clsX4 : ClsOK 2 RX4 TX4 3 tyX4 := ⟨rfl, by decide +kernel, by decide, tyX4_ok, nmX4⟩
theorem clsX6 : ClsOK 3 RX6 TX6 5 tyX6 := ⟨rfl, by decide +kernel, by decide, tyX6_ok, nmX6⟩
theorem clsX7 : ClsOK 4 RX7 TX7 11 tyX7 := ⟨rfl, by decide +kernel, by decide, tyX7_ok, nmX7⟩
def FJ6 : Ft := flk []
theorem fokJ6 : FOK RJ6 FJ6 := fok_nil
def FJ9 : Ft := flk []
theorem fokJ9 : FOK RJ9 FJ9 := fok_nil
def FL : Ft := flk []
theorem fokL : FOK RL FL := fok_nil
def FX1 : Ft := flk [(9, 0, 0, 2, 1), (15, 0, 2, 0, 0)]
theorem fokX1 : FOK RX1 FX1 := fok_of (List.forall_mem_cons.mpr ⟨⟨_, _, _, _, clsX1, by decide +kernel⟩, List.forall_mem_cons.mpr ⟨⟨_, _, _, _, clsX1, by decide +kernel⟩, fun _ h => by cases h⟩⟩)
def FX2 : Ft := flk []
theorem fokX2 : FOK RX2 FX2 := fok_nil
def FX3 : Ft := flk [(11, 1, 0, 2, 1), (18, 1, 1, 0, 0), (22, 1, 2, 0, 0)]
theorem fokX3 : FOK RX3 FX3 := fok_of (List.forall_mem_cons.mpr ⟨⟨_, _, _, _, clsX3, by decide +kernel⟩, List.forall_mem_cons.mpr ⟨⟨_, _, _, _, clsX3, by decide +kernel⟩, List.forall_mem_cons.mpr ⟨⟨_, _, _, _, clsX3, by decide +kernel⟩, fun _ h => by cases h⟩⟩⟩)
def FX4 : Ft := flk [(11, 2, 0, 2, 1), (16, 2, 1, 2, 7), (20, 2, 2, 0, 0)]
theorem fokX4 : FOK RX4 FX4 := fok_of (List.forall_mem_cons.mpr ⟨⟨_, _, _, _, clsX4, by decide +kernel⟩, List.forall_mem_cons.mpr ⟨⟨_, _, _, _, clsX4, by decide +kernel⟩, List.forall_mem_cons.mpr ⟨⟨_, _, _, _, clsX4, by decide +kernel⟩, fun _ h => by cases h⟩⟩⟩)
def FX5 : Ft := flk [(15, 3, 1, 2, 1), (35, 3, 2, 2, 10), (47, 3, 0, 0, 0), (55, 3, 3, 2, 11)]
theorem fokX5 : FOK RX5 FX5 := fok_of (List.forall_mem_cons.mpr ⟨⟨_, _, _, _, clsX6, by decide +kernel⟩, List.forall_mem_cons.mpr ⟨⟨_, _, _, _, clsX6, by decide +kernel⟩, List.forall_mem_cons.mpr ⟨⟨_, _, _, _, clsX6, by decide +kernel⟩, List.forall_mem_cons.mpr ⟨⟨_, _, _, _, clsX6, by decide +kernel⟩, fun _ h => by cases h⟩⟩⟩⟩)
def FX6 : Ft := flk [(11, 3, 1, 2, 1), (16, 3, 2, 2, 10), (20, 3, 3, 2, 11), (23, 3, 4, 2, 17), (30, 3, 0, 0, 0)]
theorem fokX6 : FOK RX6 FX6 := fok_of (List.forall_mem_cons.mpr ⟨⟨_, _, _, _, clsX6, by decide +kernel⟩, List.forall_mem_cons.mpr ⟨⟨_, _, _, _, clsX6, by decide +kernel⟩, List.forall_mem_cons.mpr ⟨⟨_, _, _, _, clsX6, by decide +kernel⟩, List.forall_mem_cons.mpr ⟨⟨_, _, _, _, clsX6, by decide +kernel⟩, List.forall_mem_cons.mpr ⟨⟨_, _, _, _, clsX6, by decide +kernel⟩, fun _ h => by cases h⟩⟩⟩⟩⟩)
def FX7 : Ft := flk [(10, 4, 0, 2, 1), (19, 4, 1, 2, 19), (23, 4, 2, 2, 129), (27, 4, 3, 2, 166), (31, 4, 4, 2, 167), (35, 4, 5, 0, 0), (39, 4, 6, 2, 168), (43, 4, 7, 2, 169), (46, 4, 8, 2, 170), (52, 4, 9, 2, 171), (59, 4, 10, 2, 179), (74, 3, 0, 0, 0), (86, 3, 2, 2, 10), (93, 3, 3, 2, 11), (104, 3, 1, 2, 1), (198, 1, 2, 0, 0), (256, 3, 4, 2, 17)]
theorem fokX7 : FOK RX7 FX7 := fok_of (List.forall_mem_cons.mpr ⟨⟨_, _, _, _, clsX7, by decide +kernel⟩, List.forall_mem_cons.mpr ⟨⟨_, _, _, _, clsX7, by decide +kernel⟩, List.forall_mem_cons.mpr ⟨⟨_, _, _, _, clsX7, by decide +kernel⟩, List.forall_mem_cons.mpr ⟨⟨_, _, _, _, clsX7, by decide +kernel⟩, List.forall_mem_cons.mpr ⟨⟨_, _, _, _, clsX7, by decide +kernel⟩, List.forall_mem_cons.mpr ⟨⟨_, _, _, _, clsX7, by decide +kernel⟩, List.forall_mem_cons.mpr ⟨⟨_, _, _, _, clsX7, by decide +kernel⟩, List.forall_mem_cons.mpr ⟨⟨_, _, _, _, clsX7, by decide +kernel⟩, List.forall_mem_cons.mpr ⟨⟨_, _, _, _, clsX7, by decide +kernel⟩, List.forall_mem_cons.mpr ⟨⟨_, _, _, _, clsX7, by decide +kernel⟩, List.forall_mem_cons.mpr ⟨⟨_, _, _, _, clsX7, by decide +kernel⟩, List.forall_mem_cons.mpr ⟨⟨_, _, _, _, clsX6, by decide +kernel⟩, List.forall_mem_cons.mpr ⟨⟨_, _, _, _, clsX6, by decide +kernel⟩, List.forall_mem_cons.mpr ⟨⟨_, _, _, _, clsX6, by decide +kernel⟩, List.forall_mem_cons.mpr ⟨⟨_, _, _, _, clsX6, by decide +kernel⟩, List.forall_mem_cons.mpr ⟨⟨_, _, _, _, clsX3, by decide +kernel⟩, List.forall_mem_cons.mpr ⟨⟨_, _, _, _, clsX6, by decide +kernel⟩, fun _ h => by cases h⟩⟩⟩⟩⟩⟩⟩⟩⟩⟩⟩⟩⟩⟩⟩⟩⟩)
/-- the kinds of a State's cells, by their place in it -/
def kdS (o : Nat) : Nat × Nat × Nat := if o = 0 then (0, 3, 0) else if o = 1 then (5, 8, 1) else if o ≤ 9 then (1, 32, 0) else if o = 10 then (1, 5, 0) else if o = 11 then (5, 5, 1) else if o ≤ 16 then (1, 5, 0) else (1, 9, 0)
/-- the kinds of the class's cells -/
def kdC (i : Nat) : Nat × Nat × Nat := if i = 0 then (0, 4, 0) else if i < 19 then kdS (i - 1) else if i = 19 then (0, 1, 0) else if i = 20 then (4, 6, 18) else if i < 129 then kdS ((i - 21) % 18) else if i = 129 then (4, 2, 18) else if i < 166 then kdS ((i - 130) % 18) else if i = 166 then (3, 2, 0) else if i = 167 then (1, 60, 0) else if i = 168 then (2, 32, 0) else if i = 169 then (2, 32, 0) else if i = 170 then (1, 32, 0) else if i = 171 then (0, 2, 0) else if i = 172 then (6, 5, 1) else if i ≤ 178 then (2, 5, 0) else if i = 179 then (0, 0, 0) else if i = 180 then (1, 32, 0) else (9, 0, 0)
/-- the class's cells and the law's own arrays -/
def kdL (i : Nat) : Nat × Nat × Nat := if i < 181 then kdC i else if i = 181 then (2, 64, 0) else if i ≤ 185 then (2, 32, 0) else if i = 186 then (1, 25, 0) else if i = 187 then (1, 32, 0) else if i = 188 then (1, 15, 0) else (9, 0, 0)
theorem kdS_lt (o : Nat) : (kdS o).2.1 < 2147483648 := by unfold kdS; repeat' split
                                                          all_goals decide
theorem kdC_ok : kdOK kdC 181 := by
  constructor
  · intro i h
    rcases Nat.lt_or_ge i 181 with h1 | h1
    · exact h1
    · exfalso
      unfold kdC at h
      simp only [show ¬ i = 0 by omega, show ¬ i < 19 by omega, show ¬ i = 19 by omega, show ¬ i = 20 by omega, show ¬ i < 129 by omega, show ¬ i = 129 by omega, show ¬ i < 166 by omega, show ¬ i = 166 by omega, show ¬ i = 167 by omega, show ¬ i = 168 by omega, show ¬ i = 169 by omega, show ¬ i = 170 by omega, show ¬ i = 171 by omega, show ¬ i = 172 by omega, show ¬ i ≤ 178 by omega, show ¬ i = 179 by omega, show ¬ i = 180 by omega, if_false] at h
      omega
  · intro i
    rcases Nat.lt_or_ge i 181 with h1 | h1
    · exact (by decide +kernel : ∀ i, i < 181 → (kdC i).2.1 < 2147483648) i h1
    · unfold kdC
      simp only [show ¬ i = 0 by omega, show ¬ i < 19 by omega, show ¬ i = 19 by omega, show ¬ i = 20 by omega, show ¬ i < 129 by omega, show ¬ i = 129 by omega, show ¬ i < 166 by omega, show ¬ i = 166 by omega, show ¬ i = 167 by omega, show ¬ i = 168 by omega, show ¬ i = 169 by omega, show ¬ i = 170 by omega, show ¬ i = 171 by omega, show ¬ i = 172 by omega, show ¬ i ≤ 178 by omega, show ¬ i = 179 by omega, show ¬ i = 180 by omega, if_false]
      decide
theorem kdL_lo {i : Nat} (h : i < 181) : kdL i = kdC i := if_pos h
theorem kdL_ok : kdOK kdL 189 := by
  constructor
  · intro i h
    rcases Nat.lt_or_ge i 189 with h1 | h1
    · exact h1
    · exfalso
      unfold kdL at h
      simp only [show ¬ i < 181 by omega, show ¬ i = 181 by omega, show ¬ i ≤ 185 by omega, show ¬ i = 186 by omega, show ¬ i = 187 by omega, show ¬ i = 188 by omega, if_false] at h
      omega
  · intro i
    rcases Nat.lt_or_ge i 181 with h1 | h1
    · rw [kdL_lo h1]
      exact kdC_ok.2 i
    · unfold kdL
      rw [if_neg (by omega)]
      repeat' split
      all_goals decide
/-- the places of States -/
def isSt (b : Nat) : Prop := b = 1 ∨ (∃ j, j < 6 ∧ b = 21 + 18 * j) ∨ ∃ j, j < 2 ∧ b = 130 + 18 * j
theorem kd_st {b o : Nat} {r : Nat × Nat × Nat} (hb : isSt b) (ho : o < 18) (h : kdS o = r) : kdC (b + o) = r := by
  rw [← h]
  rcases hb with rfl | ⟨j, hj, rfl⟩ | ⟨j, hj, rfl⟩
  · unfold kdC
    rw [if_neg (by omega), if_pos (by omega), show 1 + o - 1 = o by omega]
  · unfold kdC
    rw [if_neg (by omega), if_neg (by omega), if_neg (by omega), if_neg (by omega), if_pos (by omega), show (21 + 18 * j + o - 21) % 18 = o by omega]
  · unfold kdC
    rw [if_neg (by omega), if_neg (by omega), if_neg (by omega), if_neg (by omega), if_neg (by omega), if_neg (by omega), if_pos (by omega), show (130 + 18 * j + o - 130) % 18 = o by omega]
theorem kd_st0 {b : Nat} (hb : isSt b) : kdC b = (0, 3, 0) := kd_st (o := 0) hb (by decide) rfl
