theorem nI_mul (a b : Nat) : nI a * nI b = nI (a * b) := (Int32.ofNat_mul a b).symm
theorem nI_sub {a b : Nat} (h : b ≤ a) : nI a - nI b = nI (a - b) := by
  obtain ⟨c, rfl⟩ := Nat.le.dest h
  rw [Nat.add_sub_cancel_left, Nat.add_comm, ← nI_add, Int32.add_sub_cancel]
theorem nI_gtn {a b : Nat} (h : b < a) (ha : a < 2 ^ 31) : ¬ nI a ≤ nI b := nI_ge h ha
/-! the reader: mode, negative, number, blade, coefficients -/
abbrev Fs : Type := Nat × Bool × Nat × Nat × (Nat → Int32)
/-- the memory with the reader in this state -/
def rdM (I : IM) (n : Nat) (s : Fs) : IM := fun a j => if a = 179 then (if j = 1 then nI n else if j = 2 then nI s.1 else if j = 3 then b2i s.2.1 else if j = 4 then nI s.2.2.1 else if j = 5 then nI s.2.2.2.1 else I 179 j) else if a = 180 then (if j < 32 then s.2.2.2.2 j else I 180 j) else I a j
def VF (n : Nat) (s : Fs) : Prop := s.1 ≤ 5 ∧ s.2.2.1 < 100000 ∧ s.2.2.2.1 < 2 ^ n
section RDM
variable {I : IM} {n m u b : Nat} {g : Bool} {c : Nat → Int32}
theorem rd_1 {s : Fs} : rdM I n s 179 1 = nI n := by simp [rdM]
theorem rd_2 : rdM I n (m, g, u, b, c) 179 2 = nI m := by simp [rdM]
theorem rd_3 : rdM I n (m, g, u, b, c) 179 3 = b2i g := by simp [rdM]
theorem rd_4 : rdM I n (m, g, u, b, c) 179 4 = nI u := by simp [rdM]
theorem rd_5 : rdM I n (m, g, u, b, c) 179 5 = nI b := by simp [rdM]
theorem rd_c {j : Nat} (h : j < 32) : rdM I n (m, g, u, b, c) 180 j = c j := by simp [rdM, h]
theorem rd_o {s : Fs} {a : Nat} (h1 : a ≠ 179) (h2 : a ≠ 180) : rdM I n s a = I a := by funext j; simp [rdM, h1, h2]
theorem rd_m2 {m' : Nat} {x : Int32} (hx : x = nI m') : mu (rdM I n (m, g, u, b, c)) 179 2 x = rdM I n (m', g, u, b, c) := by
  subst hx
  funext a j
  by_cases h : a = 179 ∧ j = 2
  · obtain ⟨rfl, rfl⟩ := h; simp [mu, rdM]
  · by_cases h1 : a = 179
    · subst h1
      have h2 : j ≠ 2 := fun e => h ⟨rfl, e⟩
      simp [mu, rdM, h2]
    · simp [mu, rdM, h1]
theorem rd_m3 {g' : Bool} {x : Int32} (hx : x = b2i g') : mu (rdM I n (m, g, u, b, c)) 179 3 x = rdM I n (m, g', u, b, c) := by
  subst hx
  funext a j
  by_cases h : a = 179 ∧ j = 3
  · obtain ⟨rfl, rfl⟩ := h; simp [mu, rdM]
  · by_cases h1 : a = 179
    · subst h1
      have h2 : j ≠ 3 := fun e => h ⟨rfl, e⟩
      simp [mu, rdM, h2]
    · simp [mu, rdM, h1]
theorem rd_m4 {u' : Nat} {x : Int32} (hx : x = nI u') : mu (rdM I n (m, g, u, b, c)) 179 4 x = rdM I n (m, g, u', b, c) := by
  subst hx
  funext a j
  by_cases h : a = 179 ∧ j = 4
  · obtain ⟨rfl, rfl⟩ := h; simp [mu, rdM]
  · by_cases h1 : a = 179
    · subst h1
      have h2 : j ≠ 4 := fun e => h ⟨rfl, e⟩
      simp [mu, rdM, h2]
    · simp [mu, rdM, h1]
theorem rd_m5 {b' : Nat} {x : Int32} (hx : x = nI b') : mu (rdM I n (m, g, u, b, c)) 179 5 x = rdM I n (m, g, u, b', c) := by
  subst hx
  funext a j
  by_cases h : a = 179 ∧ j = 5
  · obtain ⟨rfl, rfl⟩ := h; simp [mu, rdM]
  · by_cases h1 : a = 179
    · subst h1
      have h2 : j ≠ 5 := fun e => h ⟨rfl, e⟩
      simp [mu, rdM, h2]
    · simp [mu, rdM, h1]
theorem rd_mc {k : Nat} {x : Int32} (hk : k < 32) : mu (rdM I n (m, g, u, b, c)) 180 k x = rdM I n (m, g, u, b, fun j => if j = k then x else c j) := by
  funext a j
  by_cases h : a = 180 ∧ j = k
  · obtain ⟨rfl, rfl⟩ := h; simp [mu, rdM, hk]
  · by_cases h1 : a = 180
    · subst h1
      have h2 : j ≠ k := fun e => h ⟨rfl, e⟩
      simp [mu, rdM, h2]
    · simp [mu, rdM, h1]
end RDM
/-- the term read so far added up -/
def adT (g : Bool) (u b : Nat) (c : Nat → Int32) : Nat → Int32 := fun j => if j = b then c b + sgI g (nI u) else c j
/-- a digit: the next state, or none where it is refused -/
def acD (n : Nat) : Fs → Nat → Option Fs
  | (m, g, u, b, c), d =>
    if m = 0 ∧ d = 0 then some (2, g, u, b, c)
    else if m = 0 ∨ m = 1 then (if d = 0 then none else some (3, g, d, b, c))
    else if m = 3 then (if 9999 < u then none else some (3, g, u * 10 + d, b, c))
    else if m = 4 ∨ m = 5 then (if n ≤ d ∨ 2 ^ d ≤ b then none else some (5, g, u, b ||| 2 ^ d, c))
    else none
/-- a sign -/
def acS : Fs → Bool → Option Fs
  | (m, g, u, b, c), z => if m = 3 ∨ m = 5 then some (1, z, 1, 0, adT g u b c) else if m = 0 ∧ z = true then some (1, z, 1, 0, c) else none
/-- the letter -/
def acE : Fs → Option Fs
  | (m, g, u, b, c) => if m = 0 ∨ m = 1 ∨ m = 3 then some (4, g, u, b, c) else none
/-- a character: the next state, or none where it is refused -/
def acc (n : Nat) (s : Fs) (k : Nat) : Option Fs :=
  if k = 43 ∨ k = 45 then acS s (k == 45) else if k = 101 then acE s else if 48 ≤ k ∧ k ≤ 57 then acD n s (k - 48) else none
theorem qX1_startTerm (l : Launch) {I : IM} {n m u b : Nat} {g g' : Bool} {c : Nat → Int32} (L : LM) : KX1_startTerm l [.ref 179, .int (b2i g')] (rdM I n (m, g, u, b, c)) L none (rdM I n (m, g', 1, 0, c)) L := by
  refine wX1_startTerm l rfl (hz0 (by decide)) (fun V hV => ?_)
  refine ru_fin hV 10 [] rfl rfl ⟨⟨⟨trivial, ⟨rfl, b2i_01 g'⟩⟩, (by first | exact rfl | assumption | exact ⟨rfl, rfl⟩ | exact ⟨rfl, rfl, by omega⟩ | exact ⟨by assumption, rfl, by omega⟩ | exact ⟨⟨_, rfl, rfl⟩, by decide, by decide, rfl, by omega⟩ | omega | decide)⟩, (by first | exact rfl | assumption | exact ⟨rfl, rfl⟩ | exact ⟨rfl, rfl, by omega⟩ | exact ⟨by assumption, rfl, by omega⟩ | exact ⟨⟨_, rfl, rfl⟩, by decide, by decide, rfl, by omega⟩ | omega | decide)⟩ ?_
  exact ⟨rfl, by rw [rd_m3 rfl, rd_m4 (x := 1) (u' := 1) rfl, rd_m5 (x := 0) (b' := 0) rfl], rfl⟩
/-- the memory with any numbers in the reader's places 3, 4, 5 -/
def rdA (I : IM) (n : Nat) (m : Nat) (x y z : Int32) (c : Nat → Int32) : IM := fun a j => if a = 179 then (if j = 1 then nI n else if j = 2 then nI m else if j = 3 then x else if j = 4 then y else if j = 5 then z else I 179 j) else if a = 180 then (if j < 32 then c j else I 180 j) else I a j
theorem rdA_st {I : IM} {n m : Nat} {x y z : Int32} {c : Nat → Int32} (g' : Bool) : mu (mu (mu (rdA I n m x y z c) 179 3 (b2i g')) 179 4 1) 179 5 0 = rdM I n (m, g', 1, 0, c) := by
  funext a j
  by_cases h2 : a = 179
  · subst h2
    by_cases j3 : j = 3
    · subst j3; simp [mu, rdM]
    · by_cases j4 : j = 4
      · subst j4; simp [mu, rdM]; rfl
      · by_cases j5 : j = 5
        · subst j5; simp [mu, rdM]; rfl
        · simp [mu, rdM, rdA, j3, j4, j5]
  · simp [mu, rdM, rdA, h2]
theorem qX1_startTermA (l : Launch) {I : IM} {n m : Nat} {x y z : Int32} {g' : Bool} {c : Nat → Int32} (L : LM) : KX1_startTerm l [.ref 179, .int (b2i g')] (rdA I n m x y z c) L none (rdM I n (m, g', 1, 0, c)) L := by
  refine wX1_startTerm l rfl (hz0 (by decide)) (fun V hV => ?_)
  refine ru_fin hV 10 [] rfl rfl ⟨⟨⟨trivial, ⟨rfl, b2i_01 g'⟩⟩, (by first | exact rfl | assumption | exact ⟨rfl, rfl⟩ | exact ⟨rfl, rfl, by omega⟩ | exact ⟨by assumption, rfl, by omega⟩ | exact ⟨⟨_, rfl, rfl⟩, by decide, by decide, rfl, by omega⟩ | omega | decide)⟩, (by first | exact rfl | assumption | exact ⟨rfl, rfl⟩ | exact ⟨rfl, rfl, by omega⟩ | exact ⟨by assumption, rfl, by omega⟩ | exact ⟨⟨_, rfl, rfl⟩, by decide, by decide, rfl, by omega⟩ | omega | decide)⟩ ?_
  exact ⟨rfl, rdA_st g', rfl⟩
theorem qX1_start (l : Launch) {n : Nat} (I : IM) (L : LM) : KX1_start l [.ref 179, .int (nI n)] I L none (rdM I n (0, false, 1, 0, fun _ => 0)) L := by
  refine wX1_start l rfl (hz0 (by decide)) (fun V hV => ?_)
  refine ru_go hV 8 [] rfl rfl ⟨⟨trivial, (by first | exact rfl | assumption | exact ⟨rfl, rfl⟩ | exact ⟨rfl, rfl, by omega⟩ | exact ⟨by assumption, rfl, by omega⟩ | exact ⟨⟨_, rfl, rfl⟩, by decide, by decide, rfl, by omega⟩ | omega | decide)⟩, (by first | exact rfl | assumption | exact ⟨rfl, rfl⟩ | exact ⟨rfl, rfl, by omega⟩ | exact ⟨by assumption, rfl, by omega⟩ | exact ⟨⟨_, rfl, rfl⟩, by decide, by decide, rfl, by omega⟩ | omega | decide)⟩ ?_
  refine loop0 (P := fun k => V 12 [(0, .ref 179), (1, .int (nI n)), (2, .int (nI k))] [] (lay (mu (mu I 179 1 (nI n)) 179 2 0) 180 k (fun _ => 0)) L) 32 (fun h => by rw [lay_0] at h; exact h) (fun k hk ih => ?_) ?_
  · refine ru_go hV 10 [(0, 0), (180, 0), (k, 32)] rfl rfl ⟨⟨⟨trivial, nI32_ge hk⟩, (by first | exact rfl | assumption | exact ⟨rfl, rfl⟩ | exact ⟨rfl, rfl, by omega⟩ | exact ⟨by assumption, rfl, by omega⟩ | exact ⟨⟨_, rfl, rfl⟩, by decide, by decide, rfl, by omega⟩ | omega | decide)⟩, (by first | exact rfl | assumption | exact ⟨rfl, rfl⟩ | exact ⟨rfl, rfl, by omega⟩ | exact ⟨by assumption, rfl, by omega⟩ | exact ⟨⟨_, rfl, rfl⟩, by decide, by decide, rfl, by omega⟩ | omega | decide)⟩ ?_
    rw [nI_1, lay_up (f := fun _ => 0) rfl]
    exact ih
  · refine ru_go hV 5 [(1, 0)] rfl rfl ⟨trivial, (by first | exact rfl | assumption | exact ⟨rfl, rfl⟩ | exact ⟨rfl, rfl, by omega⟩ | exact ⟨by assumption, rfl, by omega⟩ | exact ⟨⟨_, rfl, rfl⟩, by decide, by decide, rfl, by omega⟩ | omega | decide)⟩ ?_
    have e : lay (mu (mu I 179 1 (nI n)) 179 2 0) 180 32 (fun _ => 0) = rdA I n 0 (I 179 3) (I 179 4) (I 179 5) (fun _ => 0) := by
      funext a j
      by_cases h1 : a = 180
      · subst h1
        by_cases hj : j < 32
        · rw [lay_in hj]; simp [rdA, hj]
        · rw [lay_out (by omega)]; simp [mu, rdA, hj]
      · rw [lay_ne h1]
        by_cases h2 : a = 179
        · subst h2
          by_cases j1 : j = 1
          · subst j1; simp [mu, rdA]
          · by_cases j2 : j = 2
            · subst j2; simp [mu, rdA]; rfl
            · simp only [mu, rdA, j1, j2, and_false, if_false, if_true]
              by_cases j3 : j = 3
              · simp [j3]
              · by_cases j4 : j = 4
                · simp [j4]
                · by_cases j5 : j = 5
                  · simp [j5]
                  · simp [j3, j4, j5]
        · simp [mu, rdA, h1, h2]
    rw [e]
    refine ru_V hV [] sVX1_33 (qX1_startTermA (g':=false) l L) rfl rfl rfl rfl rfl (Nat.le_of_ble_eq_true rfl) ?_
    refine ru_fin hV 1 [] rfl rfl trivial ?_
    exact ⟨rfl, rfl, rfl⟩
theorem qX1_addTerm (l : Launch) {I : IM} {n m u b : Nat} {g : Bool} {c : Nat → Int32} (hb : b < 32) (L : LM) : KX1_addTerm l [.ref 179] (rdM I n (m, g, u, b, c)) L none (rdM I n (m, g, u, b, adT g u b c)) L := by
  refine wX1_addTerm l rfl (hz0 (by decide)) (fun V hV => ?_)
  cases g with
  | false =>
    refine ru_fin hV 14 [(180, 0), (b, 32), (1, 0), (b, 32)] rfl rfl ⟨⟨⟨⟨⟨⟨⟨trivial, (by first | exact rfl | assumption | exact ⟨rfl, rfl⟩ | exact ⟨rfl, rfl, by omega⟩ | exact ⟨by assumption, rfl, by omega⟩ | exact ⟨⟨_, rfl, rfl⟩, by decide, by decide, rfl, by omega⟩ | omega | decide)⟩, (by first | exact rfl | assumption | exact ⟨rfl, rfl⟩ | exact ⟨rfl, rfl, by omega⟩ | exact ⟨by assumption, rfl, by omega⟩ | exact ⟨⟨_, rfl, rfl⟩, by decide, by decide, rfl, by omega⟩ | omega | decide)⟩, ⟨rfl, rd_5, hb⟩⟩, (by first | exact rfl | assumption | exact ⟨rfl, rfl⟩ | exact ⟨rfl, rfl, by omega⟩ | exact ⟨by assumption, rfl, by omega⟩ | exact ⟨⟨_, rfl, rfl⟩, by decide, by decide, rfl, by omega⟩ | omega | decide)⟩, rd_3⟩, (by first | exact rfl | assumption | exact ⟨rfl, rfl⟩ | exact ⟨rfl, rfl, by omega⟩ | exact ⟨by assumption, rfl, by omega⟩ | exact ⟨⟨_, rfl, rfl⟩, by decide, by decide, rfl, by omega⟩ | omega | decide)⟩, ⟨rfl, rd_5, hb⟩⟩ ?_
    refine ⟨rfl, ?_, rfl⟩
    rw [rd_c hb, rd_4, rd_mc hb]
    rfl
  | true =>
    refine ru_fin hV 16 [(180, 0), (b, 32), (0, 0), (b, 32)] rfl rfl ⟨⟨⟨⟨⟨⟨⟨trivial, (by first | exact rfl | assumption | exact ⟨rfl, rfl⟩ | exact ⟨rfl, rfl, by omega⟩ | exact ⟨by assumption, rfl, by omega⟩ | exact ⟨⟨_, rfl, rfl⟩, by decide, by decide, rfl, by omega⟩ | omega | decide)⟩, (by first | exact rfl | assumption | exact ⟨rfl, rfl⟩ | exact ⟨rfl, rfl, by omega⟩ | exact ⟨by assumption, rfl, by omega⟩ | exact ⟨⟨_, rfl, rfl⟩, by decide, by decide, rfl, by omega⟩ | omega | decide)⟩, ⟨rfl, rd_5, hb⟩⟩, (by first | exact rfl | assumption | exact ⟨rfl, rfl⟩ | exact ⟨rfl, rfl, by omega⟩ | exact ⟨by assumption, rfl, by omega⟩ | exact ⟨⟨_, rfl, rfl⟩, by decide, by decide, rfl, by omega⟩ | omega | decide)⟩, (by rw [rd_3]; decide)⟩, (by first | exact rfl | assumption | exact ⟨rfl, rfl⟩ | exact ⟨rfl, rfl, by omega⟩ | exact ⟨by assumption, rfl, by omega⟩ | exact ⟨⟨_, rfl, rfl⟩, by decide, by decide, rfl, by omega⟩ | omega | decide)⟩, ⟨rfl, rd_5, hb⟩⟩ ?_
    refine ⟨rfl, ?_, rfl⟩
    rw [rd_c hb, rd_4, rd_mc hb]
    rfl
theorem qX1_acceptsFirstDigit (l : Launch) {I : IM} {n m u b d : Nat} {g : Bool} {c : Nat → Int32} (hd : d < 10) (L : LM) : KX1_acceptsFirstDigit l [.ref 179, .int (nI d)] (rdM I n (m, g, u, b, c)) L (some (.int (if d = 0 then 0 else 1))) (if d = 0 then rdM I n (m, g, u, b, c) else rdM I n (3, g, d, b, c)) L := by
  refine wX1_acceptsFirstDigit l rfl (fun _ x h => by split at h <;> cases h <;> simp) (fun V hV => ?_)
  by_cases h : d = 0
  · subst h
    refine ru_fin hV 4 [(0, 0)] rfl rfl ⟨trivial, (by first | exact rfl | assumption | exact ⟨rfl, rfl⟩ | exact ⟨rfl, rfl, by omega⟩ | exact ⟨by assumption, rfl, by omega⟩ | exact ⟨⟨_, rfl, rfl⟩, by decide, by decide, rfl, by omega⟩ | omega | decide)⟩ ?_
    exact ⟨rfl, rfl, rfl⟩
  · refine ru_fin hV 10 [(1, 0)] rfl rfl ⟨⟨⟨trivial, nI_ne0 (by omega) (by omega)⟩, (by first | exact rfl | assumption | exact ⟨rfl, rfl⟩ | exact ⟨rfl, rfl, by omega⟩ | exact ⟨by assumption, rfl, by omega⟩ | exact ⟨⟨_, rfl, rfl⟩, by decide, by decide, rfl, by omega⟩ | omega | decide)⟩, (by first | exact rfl | assumption | exact ⟨rfl, rfl⟩ | exact ⟨rfl, rfl, by omega⟩ | exact ⟨by assumption, rfl, by omega⟩ | exact ⟨⟨_, rfl, rfl⟩, by decide, by decide, rfl, by omega⟩ | omega | decide)⟩ ?_
    exact ⟨by rw [if_neg h]; rfl, by rw [if_neg h, rd_m4 rfl, rd_m2 (x := 3) (m' := 3) rfl], rfl⟩
theorem qX1_acceptsDirection (l : Launch) {I : IM} {n m u b d : Nat} {g : Bool} {c : Nat → Int32} (hn : n ≤ 5) (hd : d < 10) (hb : b < 32) (L : LM) : KX1_acceptsDirection l [.ref 179, .int (nI d)] (rdM I n (m, g, u, b, c)) L (some (.int (if n ≤ d ∨ 2 ^ d ≤ b then 0 else 1))) (if n ≤ d ∨ 2 ^ d ≤ b then rdM I n (m, g, u, b, c) else rdM I n (5, g, u, b ||| 2 ^ d, c)) L := by
  refine wX1_acceptsDirection l rfl (fun _ x h => by split at h <;> cases h <;> simp) (fun V hV => ?_)
  have hsh : ∀ b, b < 32 → ∀ d, d < 5 → ((nI b >>> (nI d &&& 31) = 0) ↔ ¬ 2 ^ d ≤ b) := by decide +kernel
  by_cases h1 : n ≤ d
  · refine ru_fin hV 6 [(1, 0)] rfl rfl ⟨⟨trivial, (by first | exact rfl | assumption | exact ⟨rfl, rfl⟩ | exact ⟨rfl, rfl, by omega⟩ | exact ⟨by assumption, rfl, by omega⟩ | exact ⟨⟨_, rfl, rfl⟩, by decide, by decide, rfl, by omega⟩ | omega | decide)⟩, (by rw [rd_1]; exact nI_le h1 (by omega))⟩ ?_
    exact ⟨by rw [if_pos (Or.inl h1)]; rfl, by rw [if_pos (Or.inl h1)], rfl⟩
  · by_cases h2 : 2 ^ d ≤ b
    · refine ru_fin hV 11 [(0, 0), (0, 0)] rfl rfl ⟨⟨⟨⟨trivial, (by first | exact rfl | assumption | exact ⟨rfl, rfl⟩ | exact ⟨rfl, rfl, by omega⟩ | exact ⟨by assumption, rfl, by omega⟩ | exact ⟨⟨_, rfl, rfl⟩, by decide, by decide, rfl, by omega⟩ | omega | decide)⟩, (by rw [rd_1]; exact nI_ge (by omega) (by omega))⟩, (by first | exact rfl | assumption | exact ⟨rfl, rfl⟩ | exact ⟨rfl, rfl, by omega⟩ | exact ⟨by assumption, rfl, by omega⟩ | exact ⟨⟨_, rfl, rfl⟩, by decide, by decide, rfl, by omega⟩ | omega | decide)⟩, (by rw [rd_5]; exact fun e => (hsh b hb d (by omega)).mp e h2)⟩ ?_
      exact ⟨by rw [if_pos (Or.inr h2)]; rfl, by rw [if_pos (Or.inr h2)], rfl⟩
    · have hno : ¬ (n ≤ d ∨ 2 ^ d ≤ b) := fun z => z.elim h1 h2
      have hp := pow2_lt d (by omega)
      refine ru_fin hV 22 [(0, 0), (1, 0)] rfl rfl ⟨⟨⟨⟨⟨⟨⟨trivial, (by first | exact rfl | assumption | exact ⟨rfl, rfl⟩ | exact ⟨rfl, rfl, by omega⟩ | exact ⟨by assumption, rfl, by omega⟩ | exact ⟨⟨_, rfl, rfl⟩, by decide, by decide, rfl, by omega⟩ | omega | decide)⟩, (by rw [rd_1]; exact nI_ge (by omega) (by omega))⟩, (by first | exact rfl | assumption | exact ⟨rfl, rfl⟩ | exact ⟨rfl, rfl, by omega⟩ | exact ⟨by assumption, rfl, by omega⟩ | exact ⟨⟨_, rfl, rfl⟩, by decide, by decide, rfl, by omega⟩ | omega | decide)⟩, (by rw [rd_5]; exact (hsh b hb d (by omega)).mpr h2)⟩, (by first | exact rfl | assumption | exact ⟨rfl, rfl⟩ | exact ⟨rfl, rfl, by omega⟩ | exact ⟨by assumption, rfl, by omega⟩ | exact ⟨⟨_, rfl, rfl⟩, by decide, by decide, rfl, by omega⟩ | omega | decide)⟩, (by first | exact rfl | assumption | exact ⟨rfl, rfl⟩ | exact ⟨rfl, rfl, by omega⟩ | exact ⟨by assumption, rfl, by omega⟩ | exact ⟨⟨_, rfl, rfl⟩, by decide, by decide, rfl, by omega⟩ | omega | decide)⟩, (by first | exact rfl | assumption | exact ⟨rfl, rfl⟩ | exact ⟨rfl, rfl, by omega⟩ | exact ⟨by assumption, rfl, by omega⟩ | exact ⟨⟨_, rfl, rfl⟩, by decide, by decide, rfl, by omega⟩ | omega | decide)⟩ ?_
      exact ⟨by rw [if_neg hno]; rfl, by rw [if_neg hno, rd_5, bl_sh d (by omega), rd_m5 (orI b hb _ hp), rd_m2 (x := 5) (m' := 5) rfl], rfl⟩
theorem qX1_acceptsLetter (l : Launch) {I : IM} {n m u b : Nat} {g : Bool} {c : Nat → Int32} (hm : m ≤ 5) (L : LM) : KX1_acceptsLetter l [.ref 179] (rdM I n (m, g, u, b, c)) L (some (.int (if m = 0 ∨ m = 1 ∨ m = 3 then 1 else 0))) (if m = 0 ∨ m = 1 ∨ m = 3 then rdM I n (4, g, u, b, c) else rdM I n (m, g, u, b, c)) L := by
  refine wX1_acceptsLetter l rfl (fun _ x h => by split at h <;> cases h <;> simp) (fun V hV => ?_)
  match m, hm with
  | 0, _ =>
    refine ru_fin hV 8 [(1, 0)] rfl rfl ⟨⟨⟨trivial, (by first | exact rfl | assumption | exact ⟨rfl, rfl⟩ | exact ⟨rfl, rfl, by omega⟩ | exact ⟨by assumption, rfl, by omega⟩ | exact ⟨⟨_, rfl, rfl⟩, by decide, by decide, rfl, by omega⟩ | omega | decide)⟩, rd_2⟩, (by first | exact rfl | assumption | exact ⟨rfl, rfl⟩ | exact ⟨rfl, rfl, by omega⟩ | exact ⟨by assumption, rfl, by omega⟩ | exact ⟨⟨_, rfl, rfl⟩, by decide, by decide, rfl, by omega⟩ | omega | decide)⟩ ?_
    exact ⟨rfl, by simp only [true_or, if_true]; rw [rd_m2 (x := 4) (m' := 4) rfl], rfl⟩
  | 1, _ =>
    refine ru_fin hV 12 [(0, 0), (1, 0)] rfl rfl ⟨⟨⟨⟨⟨trivial, (by first | exact rfl | assumption | exact ⟨rfl, rfl⟩ | exact ⟨rfl, rfl, by omega⟩ | exact ⟨by assumption, rfl, by omega⟩ | exact ⟨⟨_, rfl, rfl⟩, by decide, by decide, rfl, by omega⟩ | omega | decide)⟩, (by rw [rd_2]; decide)⟩, (by first | exact rfl | assumption | exact ⟨rfl, rfl⟩ | exact ⟨rfl, rfl, by omega⟩ | exact ⟨by assumption, rfl, by omega⟩ | exact ⟨⟨_, rfl, rfl⟩, by decide, by decide, rfl, by omega⟩ | omega | decide)⟩, rd_2⟩, (by first | exact rfl | assumption | exact ⟨rfl, rfl⟩ | exact ⟨rfl, rfl, by omega⟩ | exact ⟨by assumption, rfl, by omega⟩ | exact ⟨⟨_, rfl, rfl⟩, by decide, by decide, rfl, by omega⟩ | omega | decide)⟩ ?_
    exact ⟨rfl, by simp only [true_or, or_true, if_true]; rw [rd_m2 (x := 4) (m' := 4) rfl], rfl⟩
  | 2, _ =>
    refine ru_fin hV 13 [(0, 0), (0, 0), (0, 0)] rfl rfl ⟨⟨⟨⟨⟨⟨trivial, (by first | exact rfl | assumption | exact ⟨rfl, rfl⟩ | exact ⟨rfl, rfl, by omega⟩ | exact ⟨by assumption, rfl, by omega⟩ | exact ⟨⟨_, rfl, rfl⟩, by decide, by decide, rfl, by omega⟩ | omega | decide)⟩, (by rw [rd_2]; decide)⟩, (by first | exact rfl | assumption | exact ⟨rfl, rfl⟩ | exact ⟨rfl, rfl, by omega⟩ | exact ⟨by assumption, rfl, by omega⟩ | exact ⟨⟨_, rfl, rfl⟩, by decide, by decide, rfl, by omega⟩ | omega | decide)⟩, (by rw [rd_2]; decide)⟩, (by first | exact rfl | assumption | exact ⟨rfl, rfl⟩ | exact ⟨rfl, rfl, by omega⟩ | exact ⟨by assumption, rfl, by omega⟩ | exact ⟨⟨_, rfl, rfl⟩, by decide, by decide, rfl, by omega⟩ | omega | decide)⟩, (by rw [rd_2]; decide)⟩ ?_
    exact ⟨rfl, rfl, rfl⟩
  | 3, _ =>
    refine ru_fin hV 16 [(0, 0), (0, 0), (1, 0)] rfl rfl ⟨⟨⟨⟨⟨⟨⟨trivial, (by first | exact rfl | assumption | exact ⟨rfl, rfl⟩ | exact ⟨rfl, rfl, by omega⟩ | exact ⟨by assumption, rfl, by omega⟩ | exact ⟨⟨_, rfl, rfl⟩, by decide, by decide, rfl, by omega⟩ | omega | decide)⟩, (by rw [rd_2]; decide)⟩, (by first | exact rfl | assumption | exact ⟨rfl, rfl⟩ | exact ⟨rfl, rfl, by omega⟩ | exact ⟨by assumption, rfl, by omega⟩ | exact ⟨⟨_, rfl, rfl⟩, by decide, by decide, rfl, by omega⟩ | omega | decide)⟩, (by rw [rd_2]; decide)⟩, (by first | exact rfl | assumption | exact ⟨rfl, rfl⟩ | exact ⟨rfl, rfl, by omega⟩ | exact ⟨by assumption, rfl, by omega⟩ | exact ⟨⟨_, rfl, rfl⟩, by decide, by decide, rfl, by omega⟩ | omega | decide)⟩, rd_2⟩, (by first | exact rfl | assumption | exact ⟨rfl, rfl⟩ | exact ⟨rfl, rfl, by omega⟩ | exact ⟨by assumption, rfl, by omega⟩ | exact ⟨⟨_, rfl, rfl⟩, by decide, by decide, rfl, by omega⟩ | omega | decide)⟩ ?_
    exact ⟨rfl, by simp only [or_true, if_true]; rw [rd_m2 (x := 4) (m' := 4) rfl], rfl⟩
  | 4, _ =>
    refine ru_fin hV 13 [(0, 0), (0, 0), (0, 0)] rfl rfl ⟨⟨⟨⟨⟨⟨trivial, (by first | exact rfl | assumption | exact ⟨rfl, rfl⟩ | exact ⟨rfl, rfl, by omega⟩ | exact ⟨by assumption, rfl, by omega⟩ | exact ⟨⟨_, rfl, rfl⟩, by decide, by decide, rfl, by omega⟩ | omega | decide)⟩, (by rw [rd_2]; decide)⟩, (by first | exact rfl | assumption | exact ⟨rfl, rfl⟩ | exact ⟨rfl, rfl, by omega⟩ | exact ⟨by assumption, rfl, by omega⟩ | exact ⟨⟨_, rfl, rfl⟩, by decide, by decide, rfl, by omega⟩ | omega | decide)⟩, (by rw [rd_2]; decide)⟩, (by first | exact rfl | assumption | exact ⟨rfl, rfl⟩ | exact ⟨rfl, rfl, by omega⟩ | exact ⟨by assumption, rfl, by omega⟩ | exact ⟨⟨_, rfl, rfl⟩, by decide, by decide, rfl, by omega⟩ | omega | decide)⟩, (by rw [rd_2]; decide)⟩ ?_
    exact ⟨rfl, rfl, rfl⟩
  | 5, _ =>
    refine ru_fin hV 13 [(0, 0), (0, 0), (0, 0)] rfl rfl ⟨⟨⟨⟨⟨⟨trivial, (by first | exact rfl | assumption | exact ⟨rfl, rfl⟩ | exact ⟨rfl, rfl, by omega⟩ | exact ⟨by assumption, rfl, by omega⟩ | exact ⟨⟨_, rfl, rfl⟩, by decide, by decide, rfl, by omega⟩ | omega | decide)⟩, (by rw [rd_2]; decide)⟩, (by first | exact rfl | assumption | exact ⟨rfl, rfl⟩ | exact ⟨rfl, rfl, by omega⟩ | exact ⟨by assumption, rfl, by omega⟩ | exact ⟨⟨_, rfl, rfl⟩, by decide, by decide, rfl, by omega⟩ | omega | decide)⟩, (by rw [rd_2]; decide)⟩, (by first | exact rfl | assumption | exact ⟨rfl, rfl⟩ | exact ⟨rfl, rfl, by omega⟩ | exact ⟨by assumption, rfl, by omega⟩ | exact ⟨⟨_, rfl, rfl⟩, by decide, by decide, rfl, by omega⟩ | omega | decide)⟩, (by rw [rd_2]; decide)⟩ ?_
    exact ⟨rfl, rfl, rfl⟩
theorem qX1_lett (l : Launch) {I : IM} {n : Nat} {s : Fs} (hm : s.1 ≤ 5) (L : LM) : KX1_acceptsLetter l [.ref 179] (rdM I n s) L (some (.int (b2i (acE s).isSome))) (rdM I n ((acE s).getD s)) L := by
  obtain ⟨m, g, u, b, c⟩ := s
  have h := qX1_acceptsLetter l (I := I) (n := n) (u := u) (b := b) (g := g) (c := c) (m := m) hm L
  by_cases e : m = 0 ∨ m = 1 ∨ m = 3
  · rw [if_pos e, if_pos e] at h
    rw [show acE (m, g, u, b, c) = some (4, g, u, b, c) from if_pos e]
    exact h
  · rw [if_neg e, if_neg e] at h
    rw [show acE (m, g, u, b, c) = none from if_neg e]
    exact h
theorem qX1_acceptsDigit (l : Launch) {I : IM} {n d : Nat} {s : Fs} (hn : n ≤ 5) (hs : VF n s) (hd : d < 10) (L : LM) : KX1_acceptsDigit l [.ref 179, .int (nI d)] (rdM I n s) L (some (.int (b2i (acD n s d).isSome))) (rdM I n ((acD n s d).getD s)) L := by
  refine wX1_acceptsDigit l rfl (fun _ x h => by cases h; exact b2i_01 _) (fun V hV => ?_)
  obtain ⟨m, g, u, b, c⟩ := s
  obtain ⟨hm, hu, hb⟩ := hs
  have hb32 : b < 32 := pow_mono n hn b hb
  have sw := fun (tgt : Nat) h1 h2 h3 => ru_sw hV (tgt := tgt) swX1_acceptsDigit_4 h1 h2 h3 (x := nI m) (rest := []) (lv := [(0, .ref 179), (1, .int (nI d))]) (I := rdM I n (m, g, u, b, c)) (L := L)
  have hfd := qX1_acceptsFirstDigit l (I := I) (n := n) (m := m) (u := u) (b := b) (g := g) (c := c) hd L
  have hdi := qX1_acceptsDirection l (I := I) (n := n) (m := m) (u := u) (b := b) (g := g) (c := c) hn hd hb32 L
  have go0 : ∀ (P : V 4 [(0, .ref 179), (1, .int (nI d))] [.int (nI m)] (rdM I n (m, g, u, b, c)) L), V 0 [(0, .ref 179), (1, .int (nI d))] [] (rdM I n (m, g, u, b, c)) L := fun P => by
    refine ru_go hV 2 [] rfl rfl ⟨trivial, (by first | exact rfl | assumption | exact ⟨rfl, rfl⟩ | exact ⟨rfl, rfl, by omega⟩ | exact ⟨by assumption, rfl, by omega⟩ | exact ⟨⟨_, rfl, rfl⟩, by decide, by decide, rfl, by omega⟩ | omega | decide)⟩ ?_
    rw [rd_2]
    exact P
  refine go0 ?_
  have fd : ∀ pc, (m = 1 ∨ (m = 0 ∧ d ≠ 0)) → (pc = 60 ∨ pc = 66) → V pc [(0, .ref 179), (1, .int (nI d))] [.int (if d = 0 then 0 else 1)] (if d = 0 then rdM I n (m, g, u, b, c) else rdM I n (3, g, d, b, c)) L := fun pc hm1 hp => by
    have e : acD n (m, g, u, b, c) d = if d = 0 then none else some (3, g, d, b, c) := by
      rcases hm1 with e | ⟨e, e2⟩ <;> subst e
      · simp [acD]
      · simp [acD, e2]
    rcases hp with rfl | rfl
    · refine ru_fin hV 1 [] rfl rfl trivial ?_
      rw [e]
      by_cases h : d = 0
      · rw [if_pos h, if_pos h, if_pos h]; exact ⟨rfl, rfl, rfl⟩
      · rw [if_neg h, if_neg h, if_neg h]; exact ⟨rfl, rfl, rfl⟩
    · refine ru_fin hV 1 [] rfl rfl trivial ?_
      rw [e]
      by_cases h : d = 0
      · rw [if_pos h, if_pos h, if_pos h]; exact ⟨rfl, rfl, rfl⟩
      · rw [if_neg h, if_neg h, if_neg h]; exact ⟨rfl, rfl, rfl⟩
  have dd : (m = 4 ∨ m = 5) → V 94 [(0, .ref 179), (1, .int (nI d))] [] (rdM I n (m, g, u, b, c)) L := fun hm1 => by
    have e : acD n (m, g, u, b, c) d = if n ≤ d ∨ 2 ^ d ≤ b then none else some (5, g, u, b ||| 2 ^ d, c) := by
      rcases hm1 with e | e <;> subst e <;> simp [acD]
    refine ru_go hV 2 [] rfl rfl trivial ?_
    refine ru_V hV [] sVX1_61 hdi rfl rfl rfl rfl rfl (Nat.le_of_ble_eq_true rfl) ?_
    refine ru_fin hV 1 [] rfl rfl trivial ?_
    rw [e]
    by_cases h : n ≤ d ∨ 2 ^ d ≤ b
    · rw [if_pos h, if_pos h, if_pos h]; exact ⟨rfl, rfl, rfl⟩
    · rw [if_neg h, if_neg h, if_neg h]; exact ⟨rfl, rfl, rfl⟩
  match m, hm with
  | 0, _ =>
    refine sw 44 (by decide) (fun _ _ => ⟨40, by decide, by decide⟩) ?_
    by_cases h : d = 0
    · subst h
      refine ru_fin hV 7 [(0, 0)] rfl rfl ⟨⟨trivial, (by first | exact rfl | assumption | exact ⟨rfl, rfl⟩ | exact ⟨rfl, rfl, by omega⟩ | exact ⟨by assumption, rfl, by omega⟩ | exact ⟨⟨_, rfl, rfl⟩, by decide, by decide, rfl, by omega⟩ | omega | decide)⟩, (by first | exact rfl | assumption | exact ⟨rfl, rfl⟩ | exact ⟨rfl, rfl, by omega⟩ | exact ⟨by assumption, rfl, by omega⟩ | exact ⟨⟨_, rfl, rfl⟩, by decide, by decide, rfl, by omega⟩ | omega | decide)⟩ ?_
      exact ⟨rfl, rd_m2 (x := 2) (m' := 2) rfl, rfl⟩
    · refine ru_go hV 4 [(1, 0)] rfl rfl ⟨trivial, nI_ne0 (by omega) (by omega)⟩ ?_
      refine ru_V hV [] sVX1_58 hfd rfl rfl rfl rfl rfl (Nat.le_of_ble_eq_true rfl) ?_
      exact fd 60 (Or.inr ⟨rfl, h⟩) (Or.inl rfl)
  | 1, _ =>
    refine sw 61 (by decide) (fun _ _ => ⟨57, by decide, by decide⟩) ?_
    refine ru_go hV 2 [] rfl rfl trivial ?_
    refine ru_V hV [] sVX1_58 hfd rfl rfl rfl rfl rfl (Nat.le_of_ble_eq_true rfl) ?_
    exact fd 66 (Or.inl rfl) (Or.inr rfl)
  | 2, _ =>
    refine sw 100 (by decide) (fun _ _ => ⟨96, by decide, by decide⟩) ?_
    refine ru_fin hV 2 [] rfl rfl trivial ?_
    exact ⟨rfl, rfl, rfl⟩
  | 3, _ =>
    refine sw 67 (by decide) (fun _ _ => ⟨63, by decide, by decide⟩) ?_
    have e : acD n (3, g, u, b, c) d = if 9999 < u then none else some (3, g, u * 10 + d, b, c) := rfl
    by_cases h : 9999 < u
    · refine ru_fin hV 6 [(0, 0)] rfl rfl ⟨⟨trivial, (by first | exact rfl | assumption | exact ⟨rfl, rfl⟩ | exact ⟨rfl, rfl, by omega⟩ | exact ⟨by assumption, rfl, by omega⟩ | exact ⟨⟨_, rfl, rfl⟩, by decide, by decide, rfl, by omega⟩ | omega | decide)⟩, (by rw [rd_4]; exact nI_ge (a := 9999) (b := u) h (Nat.lt_trans hu (by decide)))⟩ ?_
      rw [e, if_pos h]
      exact ⟨rfl, rfl, rfl⟩
    · refine ru_fin hV 14 [(1, 0)] rfl rfl ⟨⟨⟨⟨trivial, (by first | exact rfl | assumption | exact ⟨rfl, rfl⟩ | exact ⟨rfl, rfl, by omega⟩ | exact ⟨by assumption, rfl, by omega⟩ | exact ⟨⟨_, rfl, rfl⟩, by decide, by decide, rfl, by omega⟩ | omega | decide)⟩, (by rw [rd_4]; exact nI_le (a := u) (b := 9999) (by omega) (by omega))⟩, (by first | exact rfl | assumption | exact ⟨rfl, rfl⟩ | exact ⟨rfl, rfl, by omega⟩ | exact ⟨by assumption, rfl, by omega⟩ | exact ⟨⟨_, rfl, rfl⟩, by decide, by decide, rfl, by omega⟩ | omega | decide)⟩, (by first | exact rfl | assumption | exact ⟨rfl, rfl⟩ | exact ⟨rfl, rfl, by omega⟩ | exact ⟨by assumption, rfl, by omega⟩ | exact ⟨⟨_, rfl, rfl⟩, by decide, by decide, rfl, by omega⟩ | omega | decide)⟩ ?_
      rw [e, if_neg h]
      exact ⟨rfl, by rw [rd_4]; rw [show (10 : Int32) = nI 10 from rfl, nI_mul, nI_add]; exact rd_m4 rfl, rfl⟩
  | 4, _ =>
    refine sw 94 (by decide) (fun _ _ => ⟨90, by decide, by decide⟩) ?_
    exact dd (Or.inl rfl)
  | 5, _ =>
    refine sw 94 (by decide) (fun _ _ => ⟨90, by decide, by decide⟩) ?_
    exact dd (Or.inr rfl)
theorem qX1_acceptsSign (l : Launch) {I : IM} {n : Nat} {s : Fs} {z : Bool} (hn : n ≤ 5) (hs : VF n s) (L : LM) : KX1_acceptsSign l [.ref 179, .int (b2i z)] (rdM I n s) L (some (.int (b2i (acS s z).isSome))) (rdM I n ((acS s z).getD s)) L := by
  refine wX1_acceptsSign l rfl (fun _ x h => by cases h; exact b2i_01 _) (fun V hV => ?_)
  obtain ⟨m, g, u, b, c⟩ := s
  obtain ⟨hm, hu, hb⟩ := hs
  have hb32 : b < 32 := pow_mono n hn b hb
  have had := qX1_addTerm l (I := I) (n := n) (m := m) (u := u) (b := b) (g := g) (c := c) hb32 L
  have fin : ∀ c', acS (m, g, u, b, c) z = some (1, z, 1, 0, c') → V 36 [(0, .ref 179), (1, .int (b2i z))] [] (rdM I n (m, g, u, b, c')) L := fun c' e => by
    refine ru_go hV 2 [] rfl rfl trivial ?_
    refine ru_V hV [] sVX1_33 (qX1_startTerm (g' := z) l L) rfl rfl rfl rfl rfl (Nat.le_of_ble_eq_true rfl) ?_
    refine ru_fin hV 5 [] rfl rfl ⟨trivial, (by first | exact rfl | assumption | exact ⟨rfl, rfl⟩ | exact ⟨rfl, rfl, by omega⟩ | exact ⟨by assumption, rfl, by omega⟩ | exact ⟨⟨_, rfl, rfl⟩, by decide, by decide, rfl, by omega⟩ | omega | decide)⟩ ?_
    rw [e]
    exact ⟨rfl, rd_m2 (x := 1) (m' := 1) rfl, rfl⟩
  match m, hm with
  | 0, _ =>
    cases z with
    | true =>
      refine ru_go hV 13 [(0, 0), (1, 0), (0, 0), (1, 0)] rfl rfl ⟨⟨⟨⟨⟨⟨⟨trivial, (by first | exact rfl | assumption | exact ⟨rfl, rfl⟩ | exact ⟨rfl, rfl, by omega⟩ | exact ⟨by assumption, rfl, by omega⟩ | exact ⟨⟨_, rfl, rfl⟩, by decide, by decide, rfl, by omega⟩ | omega | decide)⟩, (by rw [rd_2]; decide)⟩, (by first | exact rfl | assumption | exact ⟨rfl, rfl⟩ | exact ⟨rfl, rfl, by omega⟩ | exact ⟨by assumption, rfl, by omega⟩ | exact ⟨⟨_, rfl, rfl⟩, by decide, by decide, rfl, by omega⟩ | omega | decide)⟩, (by rw [rd_2]; decide)⟩, (by first | exact rfl | assumption | exact ⟨rfl, rfl⟩ | exact ⟨rfl, rfl, by omega⟩ | exact ⟨by assumption, rfl, by omega⟩ | exact ⟨⟨_, rfl, rfl⟩, by decide, by decide, rfl, by omega⟩ | omega | decide)⟩, (by rw [rd_2]; decide)⟩, (by first | exact rfl | assumption | exact ⟨rfl, rfl⟩ | exact ⟨rfl, rfl, by omega⟩ | exact ⟨by assumption, rfl, by omega⟩ | exact ⟨⟨_, rfl, rfl⟩, by decide, by decide, rfl, by omega⟩ | omega | decide)⟩ ?_
      exact fin c rfl
    | false =>
      refine ru_fin hV 15 [(0, 0), (1, 0), (0, 0), (0, 0)] rfl rfl ⟨⟨⟨⟨⟨⟨⟨trivial, (by first | exact rfl | assumption | exact ⟨rfl, rfl⟩ | exact ⟨rfl, rfl, by omega⟩ | exact ⟨by assumption, rfl, by omega⟩ | exact ⟨⟨_, rfl, rfl⟩, by decide, by decide, rfl, by omega⟩ | omega | decide)⟩, (by rw [rd_2]; decide)⟩, (by first | exact rfl | assumption | exact ⟨rfl, rfl⟩ | exact ⟨rfl, rfl, by omega⟩ | exact ⟨by assumption, rfl, by omega⟩ | exact ⟨⟨_, rfl, rfl⟩, by decide, by decide, rfl, by omega⟩ | omega | decide)⟩, (by rw [rd_2]; decide)⟩, (by first | exact rfl | assumption | exact ⟨rfl, rfl⟩ | exact ⟨rfl, rfl, by omega⟩ | exact ⟨by assumption, rfl, by omega⟩ | exact ⟨⟨_, rfl, rfl⟩, by decide, by decide, rfl, by omega⟩ | omega | decide)⟩, (by rw [rd_2]; decide)⟩, (by first | exact rfl | assumption | exact ⟨rfl, rfl⟩ | exact ⟨rfl, rfl, by omega⟩ | exact ⟨by assumption, rfl, by omega⟩ | exact ⟨⟨_, rfl, rfl⟩, by decide, by decide, rfl, by omega⟩ | omega | decide)⟩ ?_
      exact ⟨rfl, rfl, rfl⟩
  | 1, _ =>
    refine ru_fin hV 13 [(0, 0), (1, 0), (1, 0)] rfl rfl ⟨⟨⟨⟨⟨⟨trivial, (by first | exact rfl | assumption | exact ⟨rfl, rfl⟩ | exact ⟨rfl, rfl, by omega⟩ | exact ⟨by assumption, rfl, by omega⟩ | exact ⟨⟨_, rfl, rfl⟩, by decide, by decide, rfl, by omega⟩ | omega | decide)⟩, (by rw [rd_2]; decide)⟩, (by first | exact rfl | assumption | exact ⟨rfl, rfl⟩ | exact ⟨rfl, rfl, by omega⟩ | exact ⟨by assumption, rfl, by omega⟩ | exact ⟨⟨_, rfl, rfl⟩, by decide, by decide, rfl, by omega⟩ | omega | decide)⟩, (by rw [rd_2]; decide)⟩, (by first | exact rfl | assumption | exact ⟨rfl, rfl⟩ | exact ⟨rfl, rfl, by omega⟩ | exact ⟨by assumption, rfl, by omega⟩ | exact ⟨⟨_, rfl, rfl⟩, by decide, by decide, rfl, by omega⟩ | omega | decide)⟩, (by rw [rd_2]; decide)⟩ ?_
    exact ⟨rfl, rfl, rfl⟩
  | 2, _ =>
    refine ru_fin hV 13 [(0, 0), (1, 0), (1, 0)] rfl rfl ⟨⟨⟨⟨⟨⟨trivial, (by first | exact rfl | assumption | exact ⟨rfl, rfl⟩ | exact ⟨rfl, rfl, by omega⟩ | exact ⟨by assumption, rfl, by omega⟩ | exact ⟨⟨_, rfl, rfl⟩, by decide, by decide, rfl, by omega⟩ | omega | decide)⟩, (by rw [rd_2]; decide)⟩, (by first | exact rfl | assumption | exact ⟨rfl, rfl⟩ | exact ⟨rfl, rfl, by omega⟩ | exact ⟨by assumption, rfl, by omega⟩ | exact ⟨⟨_, rfl, rfl⟩, by decide, by decide, rfl, by omega⟩ | omega | decide)⟩, (by rw [rd_2]; decide)⟩, (by first | exact rfl | assumption | exact ⟨rfl, rfl⟩ | exact ⟨rfl, rfl, by omega⟩ | exact ⟨by assumption, rfl, by omega⟩ | exact ⟨⟨_, rfl, rfl⟩, by decide, by decide, rfl, by omega⟩ | omega | decide)⟩, (by rw [rd_2]; decide)⟩ ?_
    exact ⟨rfl, rfl, rfl⟩
  | 3, _ =>
    refine ru_go hV 5 [(1, 0)] rfl rfl ⟨⟨trivial, (by first | exact rfl | assumption | exact ⟨rfl, rfl⟩ | exact ⟨rfl, rfl, by omega⟩ | exact ⟨by assumption, rfl, by omega⟩ | exact ⟨⟨_, rfl, rfl⟩, by decide, by decide, rfl, by omega⟩ | omega | decide)⟩, (by rw [rd_2]; decide)⟩ ?_
    refine ru_V hV [] sVX1_27 had rfl rfl rfl rfl rfl (Nat.le_of_ble_eq_true rfl) ?_
    refine ru_go hV 1 [] rfl rfl trivial ?_
    exact fin _ rfl
  | 4, _ =>
    refine ru_fin hV 13 [(0, 0), (1, 0), (1, 0)] rfl rfl ⟨⟨⟨⟨⟨⟨trivial, (by first | exact rfl | assumption | exact ⟨rfl, rfl⟩ | exact ⟨rfl, rfl, by omega⟩ | exact ⟨by assumption, rfl, by omega⟩ | exact ⟨⟨_, rfl, rfl⟩, by decide, by decide, rfl, by omega⟩ | omega | decide)⟩, (by rw [rd_2]; decide)⟩, (by first | exact rfl | assumption | exact ⟨rfl, rfl⟩ | exact ⟨rfl, rfl, by omega⟩ | exact ⟨by assumption, rfl, by omega⟩ | exact ⟨⟨_, rfl, rfl⟩, by decide, by decide, rfl, by omega⟩ | omega | decide)⟩, (by rw [rd_2]; decide)⟩, (by first | exact rfl | assumption | exact ⟨rfl, rfl⟩ | exact ⟨rfl, rfl, by omega⟩ | exact ⟨by assumption, rfl, by omega⟩ | exact ⟨⟨_, rfl, rfl⟩, by decide, by decide, rfl, by omega⟩ | omega | decide)⟩, (by rw [rd_2]; decide)⟩ ?_
    exact ⟨rfl, rfl, rfl⟩
  | 5, _ =>
    refine ru_go hV 9 [(0, 0), (0, 0)] rfl rfl ⟨⟨⟨⟨trivial, (by first | exact rfl | assumption | exact ⟨rfl, rfl⟩ | exact ⟨rfl, rfl, by omega⟩ | exact ⟨by assumption, rfl, by omega⟩ | exact ⟨⟨_, rfl, rfl⟩, by decide, by decide, rfl, by omega⟩ | omega | decide)⟩, (by rw [rd_2]; decide)⟩, (by first | exact rfl | assumption | exact ⟨rfl, rfl⟩ | exact ⟨rfl, rfl, by omega⟩ | exact ⟨by assumption, rfl, by omega⟩ | exact ⟨⟨_, rfl, rfl⟩, by decide, by decide, rfl, by omega⟩ | omega | decide)⟩, (by rw [rd_2]; decide)⟩ ?_
    refine ru_V hV [] sVX1_27 had rfl rfl rfl rfl rfl (Nat.le_of_ble_eq_true rfl) ?_
    refine ru_go hV 1 [] rfl rfl trivial ?_
    exact fin _ rfl
theorem qX1_accepts (l : Launch) {I : IM} {n k : Nat} {s : Fs} (hn : n ≤ 5) (hs : VF n s) (hk : k < 128) (L : LM) : KX1_accepts l [.ref 179, .int (nI k)] (rdM I n s) L (some (.int (b2i (acc n s k).isSome))) (rdM I n ((acc n s k).getD s)) L := by
  refine wX1_accepts l rfl (fun _ x h => by cases h; exact b2i_01 _) (fun V hV => ?_)
  by_cases h1 : k = 43
  · subst h1
    refine ru_go hV 8 [(1, 0), (1, 0)] rfl rfl ⟨⟨trivial, (by first | exact rfl | assumption | exact ⟨rfl, rfl⟩ | exact ⟨rfl, rfl, by omega⟩ | exact ⟨by assumption, rfl, by omega⟩ | exact ⟨⟨_, rfl, rfl⟩, by decide, by decide, rfl, by omega⟩ | omega | decide)⟩, (by first | exact rfl | assumption | exact ⟨rfl, rfl⟩ | exact ⟨rfl, rfl, by omega⟩ | exact ⟨by assumption, rfl, by omega⟩ | exact ⟨⟨_, rfl, rfl⟩, by decide, by decide, rfl, by omega⟩ | omega | decide)⟩ ?_
    refine ru_V hV [] sVX1_47 (qX1_acceptsSign (z := false) l hn hs L) rfl rfl rfl rfl rfl (Nat.le_of_ble_eq_true rfl) ?_
    refine ru_fin hV 1 [] rfl rfl trivial ?_
    exact ⟨rfl, rfl, rfl⟩
  · by_cases h2 : k = 45
    · subst h2
      refine ru_go hV 12 [(0, 0), (0, 0), (0, 0)] rfl rfl ⟨⟨⟨trivial, (by first | exact rfl | assumption | exact ⟨rfl, rfl⟩ | exact ⟨rfl, rfl, by omega⟩ | exact ⟨by assumption, rfl, by omega⟩ | exact ⟨⟨_, rfl, rfl⟩, by decide, by decide, rfl, by omega⟩ | omega | decide)⟩, (by first | exact rfl | assumption | exact ⟨rfl, rfl⟩ | exact ⟨rfl, rfl, by omega⟩ | exact ⟨by assumption, rfl, by omega⟩ | exact ⟨⟨_, rfl, rfl⟩, by decide, by decide, rfl, by omega⟩ | omega | decide)⟩, (by first | exact rfl | assumption | exact ⟨rfl, rfl⟩ | exact ⟨rfl, rfl, by omega⟩ | exact ⟨by assumption, rfl, by omega⟩ | exact ⟨⟨_, rfl, rfl⟩, by decide, by decide, rfl, by omega⟩ | omega | decide)⟩ ?_
      refine ru_V hV [] sVX1_47 (qX1_acceptsSign (z := true) l hn hs L) rfl rfl rfl rfl rfl (Nat.le_of_ble_eq_true rfl) ?_
      refine ru_fin hV 1 [] rfl rfl trivial ?_
      exact ⟨rfl, rfl, rfl⟩
    · have k1 : ¬ nI k = 43 := fun e => h1 ((nI_eq (b := 43) (by omega) (by omega)).mp e)
      have k2 : ¬ nI k = 45 := fun e => h2 ((nI_eq (b := 45) (by omega) (by omega)).mp e)
      have ea : acc n s k = if k = 101 then acE s else if 48 ≤ k ∧ k ≤ 57 then acD n s (k - 48) else none := by
        unfold acc
        rw [if_neg (by omega)]
      by_cases h3 : k = 101
      · subst h3
        refine ru_go hV 10 [(0, 0), (1, 0), (0, 0)] rfl rfl ⟨⟨⟨trivial, (by first | exact rfl | assumption | exact ⟨rfl, rfl⟩ | exact ⟨rfl, rfl, by omega⟩ | exact ⟨by assumption, rfl, by omega⟩ | exact ⟨⟨_, rfl, rfl⟩, by decide, by decide, rfl, by omega⟩ | omega | decide)⟩, (by first | exact rfl | assumption | exact ⟨rfl, rfl⟩ | exact ⟨rfl, rfl, by omega⟩ | exact ⟨by assumption, rfl, by omega⟩ | exact ⟨⟨_, rfl, rfl⟩, by decide, by decide, rfl, by omega⟩ | omega | decide)⟩, (by first | exact rfl | assumption | exact ⟨rfl, rfl⟩ | exact ⟨rfl, rfl, by omega⟩ | exact ⟨by assumption, rfl, by omega⟩ | exact ⟨⟨_, rfl, rfl⟩, by decide, by decide, rfl, by omega⟩ | omega | decide)⟩ ?_
        refine ru_V hV [] sVX1_51 (qX1_lett l hs.1 L) rfl rfl rfl rfl rfl (Nat.le_of_ble_eq_true rfl) ?_
        refine ru_fin hV 1 [] rfl rfl trivial ?_
        exact ⟨rfl, rfl, rfl⟩
      · have k3 : ¬ nI k = 101 := fun e => h3 ((nI_eq (b := 101) (by omega) (by omega)).mp e)
        rw [if_neg h3] at ea
        by_cases h4 : k < 48
        · refine ru_fin hV 14 [(0, 0), (1, 0), (1, 0), (1, 0)] rfl rfl ⟨⟨⟨⟨trivial, k1⟩, k2⟩, k3⟩, nI_lt (b := 48) h4 (by omega)⟩ ?_
          rw [ea, if_neg (by omega)]
          exact ⟨rfl, rfl, rfl⟩
        · by_cases h5 : 57 < k
          · refine ru_fin hV 17 [(0, 0), (1, 0), (1, 0), (0, 0), (1, 0)] rfl rfl ⟨⟨⟨⟨⟨trivial, k1⟩, k2⟩, k3⟩, nI_nlt (b := 48) (by omega) (by omega)⟩, nI_lt (a := 57) h5 (by omega)⟩ ?_
            rw [ea, if_neg (by omega)]
            exact ⟨rfl, rfl, rfl⟩
          · refine ru_go hV 19 [(0, 0), (1, 0), (1, 0), (0, 0), (0, 0)] rfl rfl ⟨⟨⟨⟨⟨trivial, k1⟩, k2⟩, k3⟩, nI_nlt (b := 48) (by omega) (by omega)⟩, nI_nlt (b := k) (a := 57) (by omega) (by omega)⟩ ?_
            rw [if_pos (by omega)] at ea
            rw [show nI k - 48 = nI (k - 48) from nI_sub (b := 48) (by omega)]
            refine ru_V hV [] sVX1_55 (qX1_acceptsDigit l hn hs (by omega) L) rfl rfl rfl rfl rfl (Nat.le_of_ble_eq_true rfl) ?_
            cases h : acD n s (k - 48) with
            | none =>
              refine ru_fin hV 3 [(1, 0)] rfl rfl ⟨trivial, (by first | exact rfl | assumption | exact ⟨rfl, rfl⟩ | exact ⟨rfl, rfl, by omega⟩ | exact ⟨by assumption, rfl, by omega⟩ | exact ⟨⟨_, rfl, rfl⟩, by decide, by decide, rfl, by omega⟩ | omega | decide)⟩ ?_
              exact by rw [ea, h]; exact ⟨rfl, rfl, rfl⟩
            | some t =>
              refine ru_fin hV 4 [(0, 0)] rfl rfl ⟨trivial, (by show ¬ (1 : Int32) = 0; decide)⟩ ?_
              exact by rw [ea, h]; exact ⟨rfl, rfl, rfl⟩
theorem acc_VF {n k : Nat} {s t : Fs} (hn : n ≤ 5) (hs : VF n s) (h : acc n s k = some t) : VF n t := by
  obtain ⟨m, g, u, b, c⟩ := s
  obtain ⟨hm, hu, hb⟩ := hs
  have hu' : u < 100000 := hu
  have hb' : b < 2 ^ n := hb
  have h0 : (0 : Nat) < 2 ^ n := Nat.pos_of_ne_zero (by simp)
  unfold acc at h
  split at h
  · unfold acS at h
    simp only at h
    split at h
    · cases h; exact ⟨(by decide : 1 ≤ 5), (by decide : 1 < 100000), h0⟩
    · split at h
      · cases h; exact ⟨(by decide : 1 ≤ 5), (by decide : 1 < 100000), h0⟩
      · cases h
  · split at h
    · unfold acE at h
      simp only at h
      split at h
      · cases h; exact ⟨(by decide : 4 ≤ 5), hu, hb⟩
      · cases h
    · split at h
      · rename_i hk
        unfold acD at h
        simp only at h
        split at h
        · cases h; exact ⟨(by decide : 2 ≤ 5), hu, hb⟩
        · split at h
          · split at h
            · cases h
            · cases h; exact ⟨(by decide : 3 ≤ 5), (by omega : k - 48 < 100000), hb⟩
          · split at h
            · split at h
              · cases h
              · cases h; exact ⟨(by decide : 3 ≤ 5), (by omega : u * 10 + (k - 48) < 100000), hb⟩
            · split at h
              · split at h
                · cases h
                · rename_i hnd
                  cases h
                  refine ⟨(by decide : 5 ≤ 5), hu, ?_⟩
                  refine Nat.or_lt_two_pow hb ?_
                  exact Nat.pow_lt_pow_right (by decide) (by omega)
              · cases h
      · cases h
/-- the form read: how many characters, and the reader's state after it -/
def rdR (n : Nat) (f : Nat → Nat) : Nat → Nat → Fs → Nat × Fs
  | 0, i, (m, g, u, b, c) => (i, if m = 3 ∨ m = 5 then (m, g, u, b, adT g u b c) else (m, g, u, b, c))
  | k + 1, i, s => match acc n s (f i) with
    | none => (i, s)
    | some t => rdR n f k (i + 1) t
theorem rdR_le {n : Nat} {f : Nat → Nat} : ∀ (k i : Nat) (s : Fs), (rdR n f k i s).1 ≤ i + k
  | 0, i, (m, g, u, b, c) => Nat.le_refl _
  | k + 1, i, s => by
    unfold rdR
    split
    · exact Nat.le_add_right _ _
    · exact Nat.le_trans (rdR_le k (i + 1) _) (by omega)
theorem qX1_read (l : Launch) {I : IM} {n z : Nat} {f : Nat → Nat} (hn : n ≤ 5) (hz : z ≤ 60) (hf : ∀ j, j < z → I 167 j = nI (f j) ∧ f j < 128) (L : LM) : KX1_read l [.ref 179, .ref 167, .int (nI z), .int (nI n)] I L (some (.int (nI (rdR n f z 0 (0, false, 1, 0, fun _ => 0)).1))) (rdM I n (rdR n f z 0 (0, false, 1, 0, fun _ => 0)).2) L := by
  refine wX1_read l rfl (hz0 (by decide)) (fun V hV => ?_)
  refine ru_go hV 2 [] rfl rfl trivial ?_
  refine ru_V hV [] sVX1_19 (qX1_start (n := n) l I L) rfl rfl rfl rfl rfl (Nat.le_of_ble_eq_true rfl) ?_
  refine ru_go hV 2 [] rfl rfl trivial ?_
  have key : ∀ (k i : Nat) (s : Fs), i + k = z → VF n s → rdR n f k i s = rdR n f z 0 (0, false, 1, 0, fun _ => 0) → V 8 [(0, .ref 179), (1, .ref 167), (2, .int (nI z)), (3, .int (nI n)), (4, .int (nI i))] [] (rdM I n s) L := by
    intro k
    induction k with
    | zero =>
      intro i s hi hs he
      obtain ⟨m, g, u, b, c⟩ := s
      obtain ⟨hm, hu, hb⟩ := hs
      have hb32 : b < 32 := pow_mono n hn b hb
      have had := qX1_addTerm l (I := I) (n := n) (m := m) (u := u) (b := b) (g := g) (c := c) hb32 L
      have hiz : i = z := by omega
      subst hiz
      rw [← he] at hV
      match m, hm with
      | 0, _ =>
        refine ru_fin hV 13 [(1, 0), (0, 0), (1, 0)] rfl rfl ⟨⟨⟨⟨⟨trivial, nI_le (Nat.le_refl _) (by omega)⟩, (by first | exact rfl | assumption | exact ⟨rfl, rfl⟩ | exact ⟨rfl, rfl, by omega⟩ | exact ⟨by assumption, rfl, by omega⟩ | exact ⟨⟨_, rfl, rfl⟩, by decide, by decide, rfl, by omega⟩ | omega | decide)⟩, (by rw [rd_2]; decide)⟩, (by first | exact rfl | assumption | exact ⟨rfl, rfl⟩ | exact ⟨rfl, rfl, by omega⟩ | exact ⟨by assumption, rfl, by omega⟩ | exact ⟨⟨_, rfl, rfl⟩, by decide, by decide, rfl, by omega⟩ | omega | decide)⟩, (by rw [rd_2]; decide)⟩ ?_
        exact ⟨rfl, rfl, rfl⟩
      | 1, _ =>
        refine ru_fin hV 13 [(1, 0), (0, 0), (1, 0)] rfl rfl ⟨⟨⟨⟨⟨trivial, nI_le (Nat.le_refl _) (by omega)⟩, (by first | exact rfl | assumption | exact ⟨rfl, rfl⟩ | exact ⟨rfl, rfl, by omega⟩ | exact ⟨by assumption, rfl, by omega⟩ | exact ⟨⟨_, rfl, rfl⟩, by decide, by decide, rfl, by omega⟩ | omega | decide)⟩, (by rw [rd_2]; decide)⟩, (by first | exact rfl | assumption | exact ⟨rfl, rfl⟩ | exact ⟨rfl, rfl, by omega⟩ | exact ⟨by assumption, rfl, by omega⟩ | exact ⟨⟨_, rfl, rfl⟩, by decide, by decide, rfl, by omega⟩ | omega | decide)⟩, (by rw [rd_2]; decide)⟩ ?_
        exact ⟨rfl, rfl, rfl⟩
      | 2, _ =>
        refine ru_fin hV 13 [(1, 0), (0, 0), (1, 0)] rfl rfl ⟨⟨⟨⟨⟨trivial, nI_le (Nat.le_refl _) (by omega)⟩, (by first | exact rfl | assumption | exact ⟨rfl, rfl⟩ | exact ⟨rfl, rfl, by omega⟩ | exact ⟨by assumption, rfl, by omega⟩ | exact ⟨⟨_, rfl, rfl⟩, by decide, by decide, rfl, by omega⟩ | omega | decide)⟩, (by rw [rd_2]; decide)⟩, (by first | exact rfl | assumption | exact ⟨rfl, rfl⟩ | exact ⟨rfl, rfl, by omega⟩ | exact ⟨by assumption, rfl, by omega⟩ | exact ⟨⟨_, rfl, rfl⟩, by decide, by decide, rfl, by omega⟩ | omega | decide)⟩, (by rw [rd_2]; decide)⟩ ?_
        exact ⟨rfl, rfl, rfl⟩
      | 3, _ =>
        refine ru_go hV 8 [(1, 0), (1, 0)] rfl rfl ⟨⟨⟨trivial, nI_le (Nat.le_refl _) (by omega)⟩, (by first | exact rfl | assumption | exact ⟨rfl, rfl⟩ | exact ⟨rfl, rfl, by omega⟩ | exact ⟨by assumption, rfl, by omega⟩ | exact ⟨⟨_, rfl, rfl⟩, by decide, by decide, rfl, by omega⟩ | omega | decide)⟩, (by rw [rd_2]; decide)⟩ ?_
        refine ru_V hV [] sVX1_27 had rfl rfl rfl rfl rfl (Nat.le_of_ble_eq_true rfl) ?_
        refine ru_fin hV 2 [] rfl rfl trivial ?_
        exact ⟨rfl, rfl, rfl⟩
      | 4, _ =>
        refine ru_fin hV 13 [(1, 0), (0, 0), (1, 0)] rfl rfl ⟨⟨⟨⟨⟨trivial, nI_le (Nat.le_refl _) (by omega)⟩, (by first | exact rfl | assumption | exact ⟨rfl, rfl⟩ | exact ⟨rfl, rfl, by omega⟩ | exact ⟨by assumption, rfl, by omega⟩ | exact ⟨⟨_, rfl, rfl⟩, by decide, by decide, rfl, by omega⟩ | omega | decide)⟩, (by rw [rd_2]; decide)⟩, (by first | exact rfl | assumption | exact ⟨rfl, rfl⟩ | exact ⟨rfl, rfl, by omega⟩ | exact ⟨by assumption, rfl, by omega⟩ | exact ⟨⟨_, rfl, rfl⟩, by decide, by decide, rfl, by omega⟩ | omega | decide)⟩, (by rw [rd_2]; decide)⟩ ?_
        exact ⟨rfl, rfl, rfl⟩
      | 5, _ =>
        refine ru_go hV 12 [(1, 0), (0, 0), (0, 0)] rfl rfl ⟨⟨⟨⟨⟨trivial, nI_le (Nat.le_refl _) (by omega)⟩, (by first | exact rfl | assumption | exact ⟨rfl, rfl⟩ | exact ⟨rfl, rfl, by omega⟩ | exact ⟨by assumption, rfl, by omega⟩ | exact ⟨⟨_, rfl, rfl⟩, by decide, by decide, rfl, by omega⟩ | omega | decide)⟩, (by rw [rd_2]; decide)⟩, (by first | exact rfl | assumption | exact ⟨rfl, rfl⟩ | exact ⟨rfl, rfl, by omega⟩ | exact ⟨by assumption, rfl, by omega⟩ | exact ⟨⟨_, rfl, rfl⟩, by decide, by decide, rfl, by omega⟩ | omega | decide)⟩, (by rw [rd_2]; decide)⟩ ?_
        refine ru_V hV [] sVX1_27 had rfl rfl rfl rfl rfl (Nat.le_of_ble_eq_true rfl) ?_
        refine ru_fin hV 2 [] rfl rfl trivial ?_
        exact ⟨rfl, rfl, rfl⟩
    | succ k ihk =>
      intro i s hi hs he
      obtain ⟨h1, h2⟩ := hf i (by omega)
      have e1 : rdM I n s 167 i = nI (f i) := by rw [rd_o (by decide) (by decide)]; exact h1
      refine ru_go hV 7 [(0, 0), (i, 60)] rfl rfl ⟨⟨trivial, nI_nge (by omega) (by omega)⟩, ⟨rfl, rfl, by omega⟩⟩ ?_
      rw [e1]
      refine ru_V hV [] sVX1_23 (qX1_accepts l hn hs h2 L) rfl rfl rfl rfl rfl (Nat.le_of_ble_eq_true rfl) ?_
      cases ha : acc n s (f i) with
      | none =>
        rw [← he, show rdR n f (k + 1) i s = (i, s) by unfold rdR; rw [ha]] at hV
        refine ru_fin hV 3 [(0, 0)] rfl rfl ⟨trivial, (by first | exact rfl | assumption | exact ⟨rfl, rfl⟩ | exact ⟨rfl, rfl, by omega⟩ | exact ⟨by assumption, rfl, by omega⟩ | exact ⟨⟨_, rfl, rfl⟩, by decide, by decide, rfl, by omega⟩ | omega | decide)⟩ ?_
        exact ⟨rfl, rfl, rfl⟩
      | some t =>
        refine ru_go hV 3 [(1, 0)] rfl rfl ⟨trivial, (by show ¬ (1 : Int32) = 0; decide)⟩ ?_
        rw [nI_1]
        refine ihk (i + 1) t (by omega) (acc_VF hn hs ha) ?_
        rw [← he]
        conv => rhs; unfold rdR
        rw [ha]
  exact key z 0 _ (Nat.zero_add _) ⟨by decide, by simp, Nat.pos_of_ne_zero (by simp)⟩ rfl
theorem qX1_isComplete (l : Launch) {I : IM} {n : Nat} {s : Fs} (hs : s.1 ≤ 5) (L : LM) : KX1_isComplete l [.ref 179] (rdM I n s) L (some (.int (if s.1 = 2 ∨ s.1 = 3 ∨ s.1 = 5 then 1 else 0))) (rdM I n s) L := by
  refine wX1_isComplete l rfl (fun _ x h => by split at h <;> cases h <;> simp) (fun V hV => ?_)
  obtain ⟨m, g, u, b, c⟩ := s
  match m, hs with
  | 0, _ =>
    refine ru_fin hV 14 [(0, 0), (0, 0), (1, 0)] rfl rfl ⟨⟨⟨⟨⟨⟨trivial, (by first | exact rfl | assumption | exact ⟨rfl, rfl⟩ | exact ⟨rfl, rfl, by omega⟩ | exact ⟨by assumption, rfl, by omega⟩ | exact ⟨⟨_, rfl, rfl⟩, by decide, by decide, rfl, by omega⟩ | omega | decide)⟩, (by rw [rd_2]; decide)⟩, (by first | exact rfl | assumption | exact ⟨rfl, rfl⟩ | exact ⟨rfl, rfl, by omega⟩ | exact ⟨by assumption, rfl, by omega⟩ | exact ⟨⟨_, rfl, rfl⟩, by decide, by decide, rfl, by omega⟩ | omega | decide)⟩, (by rw [rd_2]; decide)⟩, (by first | exact rfl | assumption | exact ⟨rfl, rfl⟩ | exact ⟨rfl, rfl, by omega⟩ | exact ⟨by assumption, rfl, by omega⟩ | exact ⟨⟨_, rfl, rfl⟩, by decide, by decide, rfl, by omega⟩ | omega | decide)⟩, (by rw [rd_2]; decide)⟩ ?_
    exact ⟨rfl, rfl, rfl⟩
  | 1, _ =>
    refine ru_fin hV 14 [(0, 0), (0, 0), (1, 0)] rfl rfl ⟨⟨⟨⟨⟨⟨trivial, (by first | exact rfl | assumption | exact ⟨rfl, rfl⟩ | exact ⟨rfl, rfl, by omega⟩ | exact ⟨by assumption, rfl, by omega⟩ | exact ⟨⟨_, rfl, rfl⟩, by decide, by decide, rfl, by omega⟩ | omega | decide)⟩, (by rw [rd_2]; decide)⟩, (by first | exact rfl | assumption | exact ⟨rfl, rfl⟩ | exact ⟨rfl, rfl, by omega⟩ | exact ⟨by assumption, rfl, by omega⟩ | exact ⟨⟨_, rfl, rfl⟩, by decide, by decide, rfl, by omega⟩ | omega | decide)⟩, (by rw [rd_2]; decide)⟩, (by first | exact rfl | assumption | exact ⟨rfl, rfl⟩ | exact ⟨rfl, rfl, by omega⟩ | exact ⟨by assumption, rfl, by omega⟩ | exact ⟨⟨_, rfl, rfl⟩, by decide, by decide, rfl, by omega⟩ | omega | decide)⟩, (by rw [rd_2]; decide)⟩ ?_
    exact ⟨rfl, rfl, rfl⟩
  | 2, _ =>
    refine ru_fin hV 7 [(1, 0)] rfl rfl ⟨⟨trivial, (by first | exact rfl | assumption | exact ⟨rfl, rfl⟩ | exact ⟨rfl, rfl, by omega⟩ | exact ⟨by assumption, rfl, by omega⟩ | exact ⟨⟨_, rfl, rfl⟩, by decide, by decide, rfl, by omega⟩ | omega | decide)⟩, (by rw [rd_2]; decide)⟩ ?_
    exact ⟨rfl, rfl, rfl⟩
  | 3, _ =>
    refine ru_fin hV 11 [(0, 0), (1, 0)] rfl rfl ⟨⟨⟨⟨trivial, (by first | exact rfl | assumption | exact ⟨rfl, rfl⟩ | exact ⟨rfl, rfl, by omega⟩ | exact ⟨by assumption, rfl, by omega⟩ | exact ⟨⟨_, rfl, rfl⟩, by decide, by decide, rfl, by omega⟩ | omega | decide)⟩, (by rw [rd_2]; decide)⟩, (by first | exact rfl | assumption | exact ⟨rfl, rfl⟩ | exact ⟨rfl, rfl, by omega⟩ | exact ⟨by assumption, rfl, by omega⟩ | exact ⟨⟨_, rfl, rfl⟩, by decide, by decide, rfl, by omega⟩ | omega | decide)⟩, (by rw [rd_2]; decide)⟩ ?_
    exact ⟨rfl, rfl, rfl⟩
  | 4, _ =>
    refine ru_fin hV 14 [(0, 0), (0, 0), (1, 0)] rfl rfl ⟨⟨⟨⟨⟨⟨trivial, (by first | exact rfl | assumption | exact ⟨rfl, rfl⟩ | exact ⟨rfl, rfl, by omega⟩ | exact ⟨by assumption, rfl, by omega⟩ | exact ⟨⟨_, rfl, rfl⟩, by decide, by decide, rfl, by omega⟩ | omega | decide)⟩, (by rw [rd_2]; decide)⟩, (by first | exact rfl | assumption | exact ⟨rfl, rfl⟩ | exact ⟨rfl, rfl, by omega⟩ | exact ⟨by assumption, rfl, by omega⟩ | exact ⟨⟨_, rfl, rfl⟩, by decide, by decide, rfl, by omega⟩ | omega | decide)⟩, (by rw [rd_2]; decide)⟩, (by first | exact rfl | assumption | exact ⟨rfl, rfl⟩ | exact ⟨rfl, rfl, by omega⟩ | exact ⟨by assumption, rfl, by omega⟩ | exact ⟨⟨_, rfl, rfl⟩, by decide, by decide, rfl, by omega⟩ | omega | decide)⟩, (by rw [rd_2]; decide)⟩ ?_
    exact ⟨rfl, rfl, rfl⟩
  | 5, _ =>
    refine ru_fin hV 15 [(0, 0), (0, 0), (0, 0)] rfl rfl ⟨⟨⟨⟨⟨⟨trivial, (by first | exact rfl | assumption | exact ⟨rfl, rfl⟩ | exact ⟨rfl, rfl, by omega⟩ | exact ⟨by assumption, rfl, by omega⟩ | exact ⟨⟨_, rfl, rfl⟩, by decide, by decide, rfl, by omega⟩ | omega | decide)⟩, (by rw [rd_2]; decide)⟩, (by first | exact rfl | assumption | exact ⟨rfl, rfl⟩ | exact ⟨rfl, rfl, by omega⟩ | exact ⟨by assumption, rfl, by omega⟩ | exact ⟨⟨_, rfl, rfl⟩, by decide, by decide, rfl, by omega⟩ | omega | decide)⟩, (by rw [rd_2]; decide)⟩, (by first | exact rfl | assumption | exact ⟨rfl, rfl⟩ | exact ⟨rfl, rfl, by omega⟩ | exact ⟨by assumption, rfl, by omega⟩ | exact ⟨⟨_, rfl, rfl⟩, by decide, by decide, rfl, by omega⟩ | omega | decide)⟩, (by rw [rd_2]; decide)⟩ ?_
    exact ⟨rfl, rfl, rfl⟩
