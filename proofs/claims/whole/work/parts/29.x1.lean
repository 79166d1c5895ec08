/-! the reader: mode, negative, number, blade, coefficients -/
abbrev Fs : Type := Nat × Bool × Nat × Nat × (Nat → Int32)
/-- the memory with the reader in this state -/
def rdM (I : IM) (n : Nat) (s : Fs) : IM := fun a j => if a = 179 then (if j = 1 then nI n else if j = 2 then nI s.1 else if j = 3 then b2i s.2.1 else if j = 4 then nI s.2.2.1 else if j = 5 then nI s.2.2.2.1 else I 179 j) else if a = 180 then (if j < 32 then s.2.2.2.2 j else I 180 j) else I a j
def VF (n : Nat) (s : Fs) : Prop := s.1 ≤ 5 ∧ s.2.2.1 < 100000 ∧ s.2.2.2.1 < 2 ^ n
section RDM
variable {I : IM} {n m u b : Nat} {g : Bool} {c : Nat → Int32}
theorem rd_1 {s : Fs} : rdM I n s 179 1 = nI n := by simp [rdM]
theorem rd_2 : rdM I n (m, g, u, b, c) 179 2 = nI m := by simp [rdM]
theorem rd_3 : rdM I n (m, g, u, b, c) 179 3 = b2i g := by simp [rdM]
theorem rd_4 : rdM I n (m, g, u, b, c) 179 4 = nI u := by simp [rdM]
theorem rd_5 : rdM I n (m, g, u, b, c) 179 5 = nI b := by simp [rdM]
theorem rd_c {j : Nat} (h : j < 32) : rdM I n (m, g, u, b, c) 180 j = c j := by simp [rdM, h]
theorem rd_o {s : Fs} {a : Nat} (h1 : a ≠ 179) (h2 : a ≠ 180) : rdM I n s a = I a := by funext j; simp [rdM, h1, h2]
theorem rd_m2 {m' : Nat} {x : Int32} (hx : x = nI m') : mu (rdM I n (m, g, u, b, c)) 179 2 x = rdM I n (m', g, u, b, c) := by
  subst hx
  funext a j
  by_cases h : a = 179 ∧ j = 2
  · obtain ⟨rfl, rfl⟩ := h; simp [mu, rdM]
  · by_cases h1 : a = 179
    · subst h1
      have h2 : j ≠ 2 := fun e => h ⟨rfl, e⟩
      simp [mu, rdM, h2]
    · simp [mu, rdM, h1]
theorem rd_m3 {g' : Bool} {x : Int32} (hx : x = b2i g') : mu (rdM I n (m, g, u, b, c)) 179 3 x = rdM I n (m, g', u, b, c) := by
  subst hx
  funext a j
  by_cases h : a = 179 ∧ j = 3
  · obtain ⟨rfl, rfl⟩ := h; simp [mu, rdM]
  · by_cases h1 : a = 179
    · subst h1
      have h2 : j ≠ 3 := fun e => h ⟨rfl, e⟩
      simp [mu, rdM, h2]
    · simp [mu, rdM, h1]
theorem rd_m4 {u' : Nat} {x : Int32} (hx : x = nI u') : mu (rdM I n (m, g, u, b, c)) 179 4 x = rdM I n (m, g, u', b, c) := by
  subst hx
  funext a j
  by_cases h : a = 179 ∧ j = 4
  · obtain ⟨rfl, rfl⟩ := h; simp [mu, rdM]
  · by_cases h1 : a = 179
    · subst h1
      have h2 : j ≠ 4 := fun e => h ⟨rfl, e⟩
      simp [mu, rdM, h2]
    · simp [mu, rdM, h1]
theorem rd_m5 {b' : Nat} {x : Int32} (hx : x = nI b') : mu (rdM I n (m, g, u, b, c)) 179 5 x = rdM I n (m, g, u, b', c) := by
  subst hx
  funext a j
  by_cases h : a = 179 ∧ j = 5
  · obtain ⟨rfl, rfl⟩ := h; simp [mu, rdM]
  · by_cases h1 : a = 179
    · subst h1
      have h2 : j ≠ 5 := fun e => h ⟨rfl, e⟩
      simp [mu, rdM, h2]
    · simp [mu, rdM, h1]
theorem rd_mc {k : Nat} {x : Int32} (hk : k < 32) : mu (rdM I n (m, g, u, b, c)) 180 k x = rdM I n (m, g, u, b, fun j => if j = k then x else c j) := by
  funext a j
  by_cases h : a = 180 ∧ j = k
  · obtain ⟨rfl, rfl⟩ := h; simp [mu, rdM, hk]
  · by_cases h1 : a = 180
    · subst h1
      have h2 : j ≠ k := fun e => h ⟨rfl, e⟩
      simp [mu, rdM, h2]
    · simp [mu, rdM, h1]
end RDM
/-- the term read so far added up -/
def adT (g : Bool) (u b : Nat) (c : Nat → Int32) : Nat → Int32 := fun j => if j = b then c b + sgI g (nI u) else c j
/-- a character: the next state, or none where it is refused -/
def acc (n : Nat) (s : Fs) (k : Nat) : Option Fs := match s with
  | (m, g, u, b, c) =>
    if k = 43 ∨ k = 45 then (if m = 3 ∨ m = 5 then some (1, k == 45, 1, 0, adT g u b c) else if m = 0 ∧ k = 45 then some (1, k == 45, 1, 0, c) else none)
    else if k = 101 then (if m = 0 ∨ m = 1 ∨ m = 3 then some (4, g, u, b, c) else none)
    else if 48 ≤ k ∧ k ≤ 57 then
      (if m = 0 ∧ k = 48 then some (2, g, u, b, c)
       else if m = 0 ∨ m = 1 then (if k = 48 then none else some (3, g, k - 48, b, c))
       else if m = 3 then (if 9999 < u then none else some (3, g, u * 10 + (k - 48), b, c))
       else if m = 4 ∨ m = 5 then (if n ≤ k - 48 ∨ 2 ^ (k - 48) ≤ b then none else some (5, g, u, b ||| 2 ^ (k - 48), c))
       else none)
    else none
theorem qX1_startTerm (l : Launch) {I : IM} {n m u b : Nat} {g g' : Bool} {c : Nat → Int32} (L : LM) : KX1_startTerm l [.ref 179, .int (b2i g')] (rdM I n (m, g, u, b, c)) L none (rdM I n (m, g', 1, 0, c)) L := by
  refine wX1_startTerm l rfl (hz0 (by decide)) (fun V hV => ?_)
  refine ru_fin hV 10 [] rfl rfl ⟨⟨⟨trivial, ⟨rfl, b2i_01 g'⟩⟩, (by first | exact rfl | assumption | exact ⟨rfl, rfl⟩ | exact ⟨rfl, rfl, by omega⟩ | exact ⟨by assumption, rfl, by omega⟩ | exact ⟨⟨_, rfl, rfl⟩, by decide, by decide, rfl, by omega⟩ | omega | decide)⟩, (by first | exact rfl | assumption | exact ⟨rfl, rfl⟩ | exact ⟨rfl, rfl, by omega⟩ | exact ⟨by assumption, rfl, by omega⟩ | exact ⟨⟨_, rfl, rfl⟩, by decide, by decide, rfl, by omega⟩ | omega | decide)⟩ ?_
  exact ⟨rfl, by rw [rd_m3 rfl, rd_m4 (x := 1) (u' := 1) rfl, rd_m5 (x := 0) (b' := 0) rfl], rfl⟩
/-- the memory with any numbers in the reader's places 3, 4, 5 -/
def rdA (I : IM) (n : Nat) (m : Nat) (x y z : Int32) (c : Nat → Int32) : IM := fun a j => if a = 179 then (if j = 1 then nI n else if j = 2 then nI m else if j = 3 then x else if j = 4 then y else if j = 5 then z else I 179 j) else if a = 180 then (if j < 32 then c j else I 180 j) else I a j
theorem rdA_st {I : IM} {n m : Nat} {x y z : Int32} {c : Nat → Int32} (g' : Bool) : mu (mu (mu (rdA I n m x y z c) 179 3 (b2i g')) 179 4 1) 179 5 0 = rdM I n (m, g', 1, 0, c) := by
  funext a j
  by_cases h2 : a = 179
  · subst h2
    by_cases j3 : j = 3
    · subst j3; simp [mu, rdM]
    · by_cases j4 : j = 4
      · subst j4; simp [mu, rdM]; rfl
      · by_cases j5 : j = 5
        · subst j5; simp [mu, rdM]; rfl
        · simp [mu, rdM, rdA, j3, j4, j5]
  · simp [mu, rdM, rdA, h2]
theorem qX1_startTermA (l : Launch) {I : IM} {n m : Nat} {x y z : Int32} {g' : Bool} {c : Nat → Int32} (L : LM) : KX1_startTerm l [.ref 179, .int (b2i g')] (rdA I n m x y z c) L none (rdM I n (m, g', 1, 0, c)) L := by
  refine wX1_startTerm l rfl (hz0 (by decide)) (fun V hV => ?_)
  refine ru_fin hV 10 [] rfl rfl ⟨⟨⟨trivial, ⟨rfl, b2i_01 g'⟩⟩, (by first | exact rfl | assumption | exact ⟨rfl, rfl⟩ | exact ⟨rfl, rfl, by omega⟩ | exact ⟨by assumption, rfl, by omega⟩ | exact ⟨⟨_, rfl, rfl⟩, by decide, by decide, rfl, by omega⟩ | omega | decide)⟩, (by first | exact rfl | assumption | exact ⟨rfl, rfl⟩ | exact ⟨rfl, rfl, by omega⟩ | exact ⟨by assumption, rfl, by omega⟩ | exact ⟨⟨_, rfl, rfl⟩, by decide, by decide, rfl, by omega⟩ | omega | decide)⟩ ?_
  exact ⟨rfl, rdA_st g', rfl⟩
theorem qX1_start (l : Launch) {n : Nat} (I : IM) (L : LM) : KX1_start l [.ref 179, .int (nI n)] I L none (rdM I n (0, false, 1, 0, fun _ => 0)) L := by
  refine wX1_start l rfl (hz0 (by decide)) (fun V hV => ?_)
  refine ru_go hV 8 [] rfl rfl ⟨⟨trivial, (by first | exact rfl | assumption | exact ⟨rfl, rfl⟩ | exact ⟨rfl, rfl, by omega⟩ | exact ⟨by assumption, rfl, by omega⟩ | exact ⟨⟨_, rfl, rfl⟩, by decide, by decide, rfl, by omega⟩ | omega | decide)⟩, (by first | exact rfl | assumption | exact ⟨rfl, rfl⟩ | exact ⟨rfl, rfl, by omega⟩ | exact ⟨by assumption, rfl, by omega⟩ | exact ⟨⟨_, rfl, rfl⟩, by decide, by decide, rfl, by omega⟩ | omega | decide)⟩ ?_
  refine loop0 (P := fun k => V 12 [(0, .ref 179), (1, .int (nI n)), (2, .int (nI k))] [] (lay (mu (mu I 179 1 (nI n)) 179 2 0) 180 k (fun _ => 0)) L) 32 (fun h => by rw [lay_0] at h; exact h) (fun k hk ih => ?_) ?_
  · refine ru_go hV 10 [(0, 0), (180, 0), (k, 32)] rfl rfl ⟨⟨⟨trivial, nI32_ge hk⟩, (by first | exact rfl | assumption | exact ⟨rfl, rfl⟩ | exact ⟨rfl, rfl, by omega⟩ | exact ⟨by assumption, rfl, by omega⟩ | exact ⟨⟨_, rfl, rfl⟩, by decide, by decide, rfl, by omega⟩ | omega | decide)⟩, (by first | exact rfl | assumption | exact ⟨rfl, rfl⟩ | exact ⟨rfl, rfl, by omega⟩ | exact ⟨by assumption, rfl, by omega⟩ | exact ⟨⟨_, rfl, rfl⟩, by decide, by decide, rfl, by omega⟩ | omega | decide)⟩ ?_
    rw [nI_1, lay_up (f := fun _ => 0) rfl]
    exact ih
  · refine ru_go hV 5 [(1, 0)] rfl rfl ⟨trivial, (by first | exact rfl | assumption | exact ⟨rfl, rfl⟩ | exact ⟨rfl, rfl, by omega⟩ | exact ⟨by assumption, rfl, by omega⟩ | exact ⟨⟨_, rfl, rfl⟩, by decide, by decide, rfl, by omega⟩ | omega | decide)⟩ ?_
    have e : lay (mu (mu I 179 1 (nI n)) 179 2 0) 180 32 (fun _ => 0) = rdA I n 0 (I 179 3) (I 179 4) (I 179 5) (fun _ => 0) := by
      funext a j
      by_cases h1 : a = 180
      · subst h1
        by_cases hj : j < 32
        · rw [lay_in hj]; simp [rdA, hj]
        · rw [lay_out (by omega)]; simp [mu, rdA, hj]
      · rw [lay_ne h1]
        by_cases h2 : a = 179
        · subst h2
          by_cases j1 : j = 1
          · subst j1; simp [mu, rdA]
          · by_cases j2 : j = 2
            · subst j2; simp [mu, rdA]; rfl
            · simp only [mu, rdA, j1, j2, and_false, if_false, if_true]
              by_cases j3 : j = 3
              · simp [j3]
              · by_cases j4 : j = 4
                · simp [j4]
                · by_cases j5 : j = 5
                  · simp [j5]
                  · simp [j3, j4, j5]
        · simp [mu, rdA, h1, h2]
    rw [e]
    refine ru_V hV [] sVX1_33 (qX1_startTermA (g':=false) l L) rfl rfl rfl rfl rfl (Nat.le_of_ble_eq_true rfl) ?_
    refine ru_fin hV 1 [] rfl rfl trivial ?_
    exact ⟨rfl, rfl, rfl⟩
theorem qX1_addTerm (l : Launch) {I : IM} {n m u b : Nat} {g : Bool} {c : Nat → Int32} (hb : b < 32) (L : LM) : KX1_addTerm l [.ref 179] (rdM I n (m, g, u, b, c)) L none (rdM I n (m, g, u, b, adT g u b c)) L := by
  refine wX1_addTerm l rfl (hz0 (by decide)) (fun V hV => ?_)
  cases g with
  | false =>
    refine ru_fin hV 14 [(180, 0), (b, 32), (1, 0), (b, 32)] rfl rfl ⟨⟨⟨⟨⟨⟨⟨trivial, (by first | exact rfl | assumption | exact ⟨rfl, rfl⟩ | exact ⟨rfl, rfl, by omega⟩ | exact ⟨by assumption, rfl, by omega⟩ | exact ⟨⟨_, rfl, rfl⟩, by decide, by decide, rfl, by omega⟩ | omega | decide)⟩, (by first | exact rfl | assumption | exact ⟨rfl, rfl⟩ | exact ⟨rfl, rfl, by omega⟩ | exact ⟨by assumption, rfl, by omega⟩ | exact ⟨⟨_, rfl, rfl⟩, by decide, by decide, rfl, by omega⟩ | omega | decide)⟩, ⟨rfl, rd_5, hb⟩⟩, (by first | exact rfl | assumption | exact ⟨rfl, rfl⟩ | exact ⟨rfl, rfl, by omega⟩ | exact ⟨by assumption, rfl, by omega⟩ | exact ⟨⟨_, rfl, rfl⟩, by decide, by decide, rfl, by omega⟩ | omega | decide)⟩, rd_3⟩, (by first | exact rfl | assumption | exact ⟨rfl, rfl⟩ | exact ⟨rfl, rfl, by omega⟩ | exact ⟨by assumption, rfl, by omega⟩ | exact ⟨⟨_, rfl, rfl⟩, by decide, by decide, rfl, by omega⟩ | omega | decide)⟩, ⟨rfl, rd_5, hb⟩⟩ ?_
    refine ⟨rfl, ?_, rfl⟩
    rw [rd_c hb, rd_4, rd_mc hb]
    rfl
  | true =>
    refine ru_fin hV 16 [(180, 0), (b, 32), (0, 0), (b, 32)] rfl rfl ⟨⟨⟨⟨⟨⟨⟨trivial, (by first | exact rfl | assumption | exact ⟨rfl, rfl⟩ | exact ⟨rfl, rfl, by omega⟩ | exact ⟨by assumption, rfl, by omega⟩ | exact ⟨⟨_, rfl, rfl⟩, by decide, by decide, rfl, by omega⟩ | omega | decide)⟩, (by first | exact rfl | assumption | exact ⟨rfl, rfl⟩ | exact ⟨rfl, rfl, by omega⟩ | exact ⟨by assumption, rfl, by omega⟩ | exact ⟨⟨_, rfl, rfl⟩, by decide, by decide, rfl, by omega⟩ | omega | decide)⟩, ⟨rfl, rd_5, hb⟩⟩, (by first | exact rfl | assumption | exact ⟨rfl, rfl⟩ | exact ⟨rfl, rfl, by omega⟩ | exact ⟨by assumption, rfl, by omega⟩ | exact ⟨⟨_, rfl, rfl⟩, by decide, by decide, rfl, by omega⟩ | omega | decide)⟩, (by rw [rd_3]; decide)⟩, (by first | exact rfl | assumption | exact ⟨rfl, rfl⟩ | exact ⟨rfl, rfl, by omega⟩ | exact ⟨by assumption, rfl, by omega⟩ | exact ⟨⟨_, rfl, rfl⟩, by decide, by decide, rfl, by omega⟩ | omega | decide)⟩, ⟨rfl, rd_5, hb⟩⟩ ?_
    refine ⟨rfl, ?_, rfl⟩
    rw [rd_c hb, rd_4, rd_mc hb]
    rfl
theorem qX1_acceptsFirstDigit (l : Launch) {I : IM} {n m u b d : Nat} {g : Bool} {c : Nat → Int32} (hd : d < 10) (L : LM) : KX1_acceptsFirstDigit l [.ref 179, .int (nI d)] (rdM I n (m, g, u, b, c)) L (some (.int (if d = 0 then 0 else 1))) (if d = 0 then rdM I n (m, g, u, b, c) else rdM I n (3, g, d, b, c)) L := by
  refine wX1_acceptsFirstDigit l rfl (fun _ x h => by split at h <;> cases h <;> simp) (fun V hV => ?_)
  by_cases h : d = 0
  · subst h
    refine ru_fin hV 4 [(0, 0)] rfl rfl ⟨trivial, (by first | exact rfl | assumption | exact ⟨rfl, rfl⟩ | exact ⟨rfl, rfl, by omega⟩ | exact ⟨by assumption, rfl, by omega⟩ | exact ⟨⟨_, rfl, rfl⟩, by decide, by decide, rfl, by omega⟩ | omega | decide)⟩ ?_
    exact ⟨rfl, rfl, rfl⟩
  · refine ru_fin hV 10 [(1, 0)] rfl rfl ⟨⟨⟨trivial, nI_ne0 (by omega) (by omega)⟩, (by first | exact rfl | assumption | exact ⟨rfl, rfl⟩ | exact ⟨rfl, rfl, by omega⟩ | exact ⟨by assumption, rfl, by omega⟩ | exact ⟨⟨_, rfl, rfl⟩, by decide, by decide, rfl, by omega⟩ | omega | decide)⟩, (by first | exact rfl | assumption | exact ⟨rfl, rfl⟩ | exact ⟨rfl, rfl, by omega⟩ | exact ⟨by assumption, rfl, by omega⟩ | exact ⟨⟨_, rfl, rfl⟩, by decide, by decide, rfl, by omega⟩ | omega | decide)⟩ ?_
    exact ⟨by rw [if_neg h]; rfl, by rw [if_neg h, rd_m4 rfl, rd_m2 (x := 3) (m' := 3) rfl], rfl⟩
theorem qX1_acceptsDirection (l : Launch) {I : IM} {n m u b d : Nat} {g : Bool} {c : Nat → Int32} (hn : n ≤ 5) (hd : d < 10) (hb : b < 32) (L : LM) : KX1_acceptsDirection l [.ref 179, .int (nI d)] (rdM I n (m, g, u, b, c)) L (some (.int (if n ≤ d ∨ 2 ^ d ≤ b then 0 else 1))) (if n ≤ d ∨ 2 ^ d ≤ b then rdM I n (m, g, u, b, c) else rdM I n (5, g, u, b ||| 2 ^ d, c)) L := by
  refine wX1_acceptsDirection l rfl (fun _ x h => by split at h <;> cases h <;> simp) (fun V hV => ?_)
  have hsh : ∀ b, b < 32 → ∀ d, d < 5 → ((nI b >>> (nI d &&& 31) = 0) ↔ ¬ 2 ^ d ≤ b) := by decide +kernel
  by_cases h1 : n ≤ d
  · refine ru_fin hV 6 [(1, 0)] rfl rfl ⟨⟨trivial, (by first | exact rfl | assumption | exact ⟨rfl, rfl⟩ | exact ⟨rfl, rfl, by omega⟩ | exact ⟨by assumption, rfl, by omega⟩ | exact ⟨⟨_, rfl, rfl⟩, by decide, by decide, rfl, by omega⟩ | omega | decide)⟩, (by rw [rd_1]; exact nI_le h1 (by omega))⟩ ?_
    exact ⟨by rw [if_pos (Or.inl h1)]; rfl, by rw [if_pos (Or.inl h1)], rfl⟩
  · by_cases h2 : 2 ^ d ≤ b
    · refine ru_fin hV 11 [(0, 0), (0, 0)] rfl rfl ⟨⟨⟨⟨trivial, (by first | exact rfl | assumption | exact ⟨rfl, rfl⟩ | exact ⟨rfl, rfl, by omega⟩ | exact ⟨by assumption, rfl, by omega⟩ | exact ⟨⟨_, rfl, rfl⟩, by decide, by decide, rfl, by omega⟩ | omega | decide)⟩, (by rw [rd_1]; exact nI_ge (by omega) (by omega))⟩, (by first | exact rfl | assumption | exact ⟨rfl, rfl⟩ | exact ⟨rfl, rfl, by omega⟩ | exact ⟨by assumption, rfl, by omega⟩ | exact ⟨⟨_, rfl, rfl⟩, by decide, by decide, rfl, by omega⟩ | omega | decide)⟩, (by rw [rd_5]; exact fun e => (hsh b hb d (by omega)).mp e h2)⟩ ?_
      exact ⟨by rw [if_pos (Or.inr h2)]; rfl, by rw [if_pos (Or.inr h2)], rfl⟩
    · have hno : ¬ (n ≤ d ∨ 2 ^ d ≤ b) := fun z => z.elim h1 h2
      have hp := pow2_lt d (by omega)
      refine ru_fin hV 22 [(0, 0), (1, 0)] rfl rfl ⟨⟨⟨⟨⟨⟨⟨trivial, (by first | exact rfl | assumption | exact ⟨rfl, rfl⟩ | exact ⟨rfl, rfl, by omega⟩ | exact ⟨by assumption, rfl, by omega⟩ | exact ⟨⟨_, rfl, rfl⟩, by decide, by decide, rfl, by omega⟩ | omega | decide)⟩, (by rw [rd_1]; exact nI_ge (by omega) (by omega))⟩, (by first | exact rfl | assumption | exact ⟨rfl, rfl⟩ | exact ⟨rfl, rfl, by omega⟩ | exact ⟨by assumption, rfl, by omega⟩ | exact ⟨⟨_, rfl, rfl⟩, by decide, by decide, rfl, by omega⟩ | omega | decide)⟩, (by rw [rd_5]; exact (hsh b hb d (by omega)).mpr h2)⟩, (by first | exact rfl | assumption | exact ⟨rfl, rfl⟩ | exact ⟨rfl, rfl, by omega⟩ | exact ⟨by assumption, rfl, by omega⟩ | exact ⟨⟨_, rfl, rfl⟩, by decide, by decide, rfl, by omega⟩ | omega | decide)⟩, (by first | exact rfl | assumption | exact ⟨rfl, rfl⟩ | exact ⟨rfl, rfl, by omega⟩ | exact ⟨by assumption, rfl, by omega⟩ | exact ⟨⟨_, rfl, rfl⟩, by decide, by decide, rfl, by omega⟩ | omega | decide)⟩, (by first | exact rfl | assumption | exact ⟨rfl, rfl⟩ | exact ⟨rfl, rfl, by omega⟩ | exact ⟨by assumption, rfl, by omega⟩ | exact ⟨⟨_, rfl, rfl⟩, by decide, by decide, rfl, by omega⟩ | omega | decide)⟩ ?_
      exact ⟨by rw [if_neg hno]; rfl, by rw [if_neg hno, rd_5, bl_sh d (by omega), rd_m5 (orI b hb _ hp), rd_m2 (x := 5) (m' := 5) rfl], rfl⟩
theorem qX1_acceptsLetter (l : Launch) {I : IM} {n m u b : Nat} {g : Bool} {c : Nat → Int32} (hm : m ≤ 5) (L : LM) : KX1_acceptsLetter l [.ref 179] (rdM I n (m, g, u, b, c)) L (some (.int (if m = 0 ∨ m = 1 ∨ m = 3 then 1 else 0))) (if m = 0 ∨ m = 1 ∨ m = 3 then rdM I n (4, g, u, b, c) else rdM I n (m, g, u, b, c)) L := by
  refine wX1_acceptsLetter l rfl (fun _ x h => by split at h <;> cases h <;> simp) (fun V hV => ?_)
  match m, hm with
  | 0, _ =>
    refine ru_fin hV 8 [(1, 0)] rfl rfl ⟨⟨⟨trivial, (by first | exact rfl | assumption | exact ⟨rfl, rfl⟩ | exact ⟨rfl, rfl, by omega⟩ | exact ⟨by assumption, rfl, by omega⟩ | exact ⟨⟨_, rfl, rfl⟩, by decide, by decide, rfl, by omega⟩ | omega | decide)⟩, rd_2⟩, (by first | exact rfl | assumption | exact ⟨rfl, rfl⟩ | exact ⟨rfl, rfl, by omega⟩ | exact ⟨by assumption, rfl, by omega⟩ | exact ⟨⟨_, rfl, rfl⟩, by decide, by decide, rfl, by omega⟩ | omega | decide)⟩ ?_
    exact ⟨rfl, by simp only [true_or, if_true]; rw [rd_m2 (x := 4) (m' := 4) rfl], rfl⟩
  | 1, _ =>
    refine ru_fin hV 12 [(0, 0), (1, 0)] rfl rfl ⟨⟨⟨⟨⟨trivial, (by first | exact rfl | assumption | exact ⟨rfl, rfl⟩ | exact ⟨rfl, rfl, by omega⟩ | exact ⟨by assumption, rfl, by omega⟩ | exact ⟨⟨_, rfl, rfl⟩, by decide, by decide, rfl, by omega⟩ | omega | decide)⟩, (by rw [rd_2]; decide)⟩, (by first | exact rfl | assumption | exact ⟨rfl, rfl⟩ | exact ⟨rfl, rfl, by omega⟩ | exact ⟨by assumption, rfl, by omega⟩ | exact ⟨⟨_, rfl, rfl⟩, by decide, by decide, rfl, by omega⟩ | omega | decide)⟩, rd_2⟩, (by first | exact rfl | assumption | exact ⟨rfl, rfl⟩ | exact ⟨rfl, rfl, by omega⟩ | exact ⟨by assumption, rfl, by omega⟩ | exact ⟨⟨_, rfl, rfl⟩, by decide, by decide, rfl, by omega⟩ | omega | decide)⟩ ?_
    exact ⟨rfl, by simp only [true_or, or_true, if_true]; rw [rd_m2 (x := 4) (m' := 4) rfl], rfl⟩
  | 2, _ =>
    refine ru_fin hV 13 [(0, 0), (0, 0), (0, 0)] rfl rfl ⟨⟨⟨⟨⟨⟨trivial, (by first | exact rfl | assumption | exact ⟨rfl, rfl⟩ | exact ⟨rfl, rfl, by omega⟩ | exact ⟨by assumption, rfl, by omega⟩ | exact ⟨⟨_, rfl, rfl⟩, by decide, by decide, rfl, by omega⟩ | omega | decide)⟩, (by rw [rd_2]; decide)⟩, (by first | exact rfl | assumption | exact ⟨rfl, rfl⟩ | exact ⟨rfl, rfl, by omega⟩ | exact ⟨by assumption, rfl, by omega⟩ | exact ⟨⟨_, rfl, rfl⟩, by decide, by decide, rfl, by omega⟩ | omega | decide)⟩, (by rw [rd_2]; decide)⟩, (by first | exact rfl | assumption | exact ⟨rfl, rfl⟩ | exact ⟨rfl, rfl, by omega⟩ | exact ⟨by assumption, rfl, by omega⟩ | exact ⟨⟨_, rfl, rfl⟩, by decide, by decide, rfl, by omega⟩ | omega | decide)⟩, (by rw [rd_2]; decide)⟩ ?_
    exact ⟨rfl, rfl, rfl⟩
  | 3, _ =>
    refine ru_fin hV 16 [(0, 0), (0, 0), (1, 0)] rfl rfl ⟨⟨⟨⟨⟨⟨⟨trivial, (by first | exact rfl | assumption | exact ⟨rfl, rfl⟩ | exact ⟨rfl, rfl, by omega⟩ | exact ⟨by assumption, rfl, by omega⟩ | exact ⟨⟨_, rfl, rfl⟩, by decide, by decide, rfl, by omega⟩ | omega | decide)⟩, (by rw [rd_2]; decide)⟩, (by first | exact rfl | assumption | exact ⟨rfl, rfl⟩ | exact ⟨rfl, rfl, by omega⟩ | exact ⟨by assumption, rfl, by omega⟩ | exact ⟨⟨_, rfl, rfl⟩, by decide, by decide, rfl, by omega⟩ | omega | decide)⟩, (by rw [rd_2]; decide)⟩, (by first | exact rfl | assumption | exact ⟨rfl, rfl⟩ | exact ⟨rfl, rfl, by omega⟩ | exact ⟨by assumption, rfl, by omega⟩ | exact ⟨⟨_, rfl, rfl⟩, by decide, by decide, rfl, by omega⟩ | omega | decide)⟩, rd_2⟩, (by first | exact rfl | assumption | exact ⟨rfl, rfl⟩ | exact ⟨rfl, rfl, by omega⟩ | exact ⟨by assumption, rfl, by omega⟩ | exact ⟨⟨_, rfl, rfl⟩, by decide, by decide, rfl, by omega⟩ | omega | decide)⟩ ?_
    exact ⟨rfl, by simp only [or_true, if_true]; rw [rd_m2 (x := 4) (m' := 4) rfl], rfl⟩
  | 4, _ =>
    refine ru_fin hV 13 [(0, 0), (0, 0), (0, 0)] rfl rfl ⟨⟨⟨⟨⟨⟨trivial, (by first | exact rfl | assumption | exact ⟨rfl, rfl⟩ | exact ⟨rfl, rfl, by omega⟩ | exact ⟨by assumption, rfl, by omega⟩ | exact ⟨⟨_, rfl, rfl⟩, by decide, by decide, rfl, by omega⟩ | omega | decide)⟩, (by rw [rd_2]; decide)⟩, (by first | exact rfl | assumption | exact ⟨rfl, rfl⟩ | exact ⟨rfl, rfl, by omega⟩ | exact ⟨by assumption, rfl, by omega⟩ | exact ⟨⟨_, rfl, rfl⟩, by decide, by decide, rfl, by omega⟩ | omega | decide)⟩, (by rw [rd_2]; decide)⟩, (by first | exact rfl | assumption | exact ⟨rfl, rfl⟩ | exact ⟨rfl, rfl, by omega⟩ | exact ⟨by assumption, rfl, by omega⟩ | exact ⟨⟨_, rfl, rfl⟩, by decide, by decide, rfl, by omega⟩ | omega | decide)⟩, (by rw [rd_2]; decide)⟩ ?_
    exact ⟨rfl, rfl, rfl⟩
  | 5, _ =>
    refine ru_fin hV 13 [(0, 0), (0, 0), (0, 0)] rfl rfl ⟨⟨⟨⟨⟨⟨trivial, (by first | exact rfl | assumption | exact ⟨rfl, rfl⟩ | exact ⟨rfl, rfl, by omega⟩ | exact ⟨by assumption, rfl, by omega⟩ | exact ⟨⟨_, rfl, rfl⟩, by decide, by decide, rfl, by omega⟩ | omega | decide)⟩, (by rw [rd_2]; decide)⟩, (by first | exact rfl | assumption | exact ⟨rfl, rfl⟩ | exact ⟨rfl, rfl, by omega⟩ | exact ⟨by assumption, rfl, by omega⟩ | exact ⟨⟨_, rfl, rfl⟩, by decide, by decide, rfl, by omega⟩ | omega | decide)⟩, (by rw [rd_2]; decide)⟩, (by first | exact rfl | assumption | exact ⟨rfl, rfl⟩ | exact ⟨rfl, rfl, by omega⟩ | exact ⟨by assumption, rfl, by omega⟩ | exact ⟨⟨_, rfl, rfl⟩, by decide, by decide, rfl, by omega⟩ | omega | decide)⟩, (by rw [rd_2]; decide)⟩ ?_
    exact ⟨rfl, rfl, rfl⟩
