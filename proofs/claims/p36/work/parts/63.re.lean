/-! the reference: the annihilator -/
theorem fsO_nil {p : Nat → Bool} : ∀ {n : Nat}, fsO p n = none → ∀ j, j < n → p j = false
  | 0, _, _, hj => absurd hj (by omega)
  | n + 1, h, j, hj => by
    rw [show fsO p (n + 1) = (match fsO p n with
      | some q => some q
      | none => if p n = true then some n else none) from rfl] at h
    cases h2 : fsO p n with
    | some q => rw [h2] at h; cases h
    | none =>
      rw [h2] at h
      by_cases h3 : p n = true
      · simp [h3] at h
      · by_cases e : j = n
        · rw [e]; simpa using h3
        · exact fsO_nil h2 j (by omega)
/-- the state of the solving: lines, how many pivots, the last one, the line of each column's pivot -/
abbrev GS : Type := VM × Nat × Int64 × (Nat → Option Nat)
def rwF (A : VM) (c pv : Nat) : Option Nat := fsO (fun i => decide (A (pv + i) c ≠ 0)) (32 - pv)
def slC (c : Nat) (G : GS) : GS := match rwF G.1 c G.2.1 with
  | none => (G.1, G.2.1, G.2.2.1, fun j => if j = c then none else G.2.2.2 j)
  | some i => (ccA (xcA G.1 (G.2.1 + i) G.2.1) G.2.1 c G.2.2.1, G.2.1 + 1, xcA G.1 (G.2.1 + i) G.2.1 G.2.1 c, fun j => if j = c then some G.2.1 else G.2.2.2 j)
def slG (f : Nat → Int32) (n : Nat) : Nat → GS
  | 0 => (lnF f n, 0, 1, fun _ => none)
  | m + 1 => slC (n - 1 - m) (slG f n m)
/-- the column of the place-th free one, from c on -/
def hdF (po : Nat → Option Nat) : Nat → Nat → Nat → Option Nat
  | 0, _, _ => none
  | k + 1, c, left => if (po c).isNone then (if left = 0 then some c else hdF po k (c + 1) (left - 1)) else hdF po k (c + 1) left
def hdO (G : GS) (n p : Nat) : Option Nat := hdF G.2.2.2 n 0 p
/-- a number of the vector with this head, without its divisor -/
def rawF (G : GS) (h d : Nat) : Int64 := if d = h then G.2.2.1 else match G.2.2.2 d with
  | none => 0
  | some r => -(G.1 r h)
