theorem nI_sub {a b : Nat} (h : b ≤ a) : nI a - nI b = nI (a - b) := by
  obtain ⟨c, rfl⟩ := Nat.le.dest h
  rw [Nat.add_sub_cancel_left, Nat.add_comm, ← nI_add, Int32.add_sub_cancel]
/-! the reader: mode, negative, number, blade, coefficients -/
abbrev Fs : Type := Nat × Bool × Nat × Nat × (Nat → Int32)
/-- the memory with the reader in this state -/
def rdM (I : IM) (n : Nat) (s : Fs) : IM := fun a j => if a = 179 then (if j = 1 then nI n else if j = 2 then nI s.1 else if j = 3 then b2i s.2.1 else if j = 4 then nI s.2.2.1 else if j = 5 then nI s.2.2.2.1 else I 179 j) else if a = 180 then (if j < 32 then s.2.2.2.2 j else I 180 j) else I a j
def VF (n : Nat) (s : Fs) : Prop := s.1 ≤ 5 ∧ s.2.2.1 < 100000 ∧ s.2.2.2.1 < 2 ^ n
section RDM
variable {I : IM} {n m u b : Nat} {g : Bool} {c : Nat → Int32}
theorem rd_c {j : Nat} (h : j < 32) : rdM I n (m, g, u, b, c) 180 j = c j := by simp [rdM, h]
theorem rd_o {s : Fs} {a : Nat} (h1 : a ≠ 179) (h2 : a ≠ 180) : rdM I n s a = I a := by funext j; simp [rdM, h1, h2]
end RDM
/-- the term read so far added up -/
def adT (g : Bool) (u b : Nat) (c : Nat → Int32) : Nat → Int32 := fun j => if j = b then c b + sgI g (nI u) else c j
/-- a digit: the next state, or none where it is refused -/
def acD (n : Nat) : Fs → Nat → Option Fs
  | (m, g, u, b, c), d =>
    if m = 0 ∧ d = 0 then some (2, g, u, b, c)
    else if m = 0 ∨ m = 1 then (if d = 0 then none else some (3, g, d, b, c))
    else if m = 3 then (if 9999 < u then none else some (3, g, u * 10 + d, b, c))
    else if m = 4 ∨ m = 5 then (if n ≤ d ∨ 2 ^ d ≤ b then none else some (5, g, u, b ||| 2 ^ d, c))
    else none
/-- a sign -/
def acS : Fs → Bool → Option Fs
  | (m, g, u, b, c), z => if m = 3 ∨ m = 5 then some (1, z, 1, 0, adT g u b c) else if m = 0 ∧ z = true then some (1, z, 1, 0, c) else none
/-- the letter -/
def acE : Fs → Option Fs
  | (m, g, u, b, c) => if m = 0 ∨ m = 1 ∨ m = 3 then some (4, g, u, b, c) else none
/-- a character: the next state, or none where it is refused -/
def acc (n : Nat) (s : Fs) (k : Nat) : Option Fs :=
  if k = 43 ∨ k = 45 then acS s (k == 45) else if k = 101 then acE s else if 48 ≤ k ∧ k ≤ 57 then acD n s (k - 48) else none
theorem acc_VF {n k : Nat} {s t : Fs} (hn : n ≤ 5) (hs : VF n s) (h : acc n s k = some t) : VF n t := by
  obtain ⟨m, g, u, b, c⟩ := s
  obtain ⟨hm, hu, hb⟩ := hs
  have hu' : u < 100000 := hu
  have hb' : b < 2 ^ n := hb
  have h0 : (0 : Nat) < 2 ^ n := Nat.pos_of_ne_zero (by simp)
  unfold acc at h
  split at h
  · unfold acS at h
    simp only at h
    split at h
    · cases h; exact ⟨(by decide : 1 ≤ 5), (by decide : 1 < 100000), h0⟩
    · split at h
      · cases h; exact ⟨(by decide : 1 ≤ 5), (by decide : 1 < 100000), h0⟩
      · cases h
  · split at h
    · unfold acE at h
      simp only at h
      split at h
      · cases h; exact ⟨(by decide : 4 ≤ 5), hu, hb⟩
      · cases h
    · split at h
      · rename_i hk
        unfold acD at h
        simp only at h
        split at h
        · cases h; exact ⟨(by decide : 2 ≤ 5), hu, hb⟩
        · split at h
          · split at h
            · cases h
            · cases h; exact ⟨(by decide : 3 ≤ 5), (by omega : k - 48 < 100000), hb⟩
          · split at h
            · split at h
              · cases h
              · cases h; exact ⟨(by decide : 3 ≤ 5), (by omega : u * 10 + (k - 48) < 100000), hb⟩
            · split at h
              · split at h
                · cases h
                · rename_i hnd
                  cases h
                  refine ⟨(by decide : 5 ≤ 5), hu, ?_⟩
                  refine Nat.or_lt_two_pow hb ?_
                  exact Nat.pow_lt_pow_right (by decide) (by omega)
              · cases h
      · cases h
/-- the form read: how many characters, and the reader's state after it -/
def rdR (n : Nat) (f : Nat → Nat) : Nat → Nat → Fs → Nat × Fs
  | 0, i, (m, g, u, b, c) => (i, if m = 3 ∨ m = 5 then (m, g, u, b, adT g u b c) else (m, g, u, b, c))
  | k + 1, i, s => match acc n s (f i) with
    | none => (i, s)
    | some t => rdR n f k (i + 1) t
