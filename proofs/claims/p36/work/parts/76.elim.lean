/-! ELIMINATION without fractions, as the reference does it -/
abbrev ub (x : Int) : Prop := -1 ≤ x ∧ x ≤ 1
theorem m2u {a b c d : Int} (ha : sb a) (hb : sb b) (hc : ub c) (hd : ub d) : -120 ≤ m2 a b c d ∧ m2 a b c d ≤ 120 := by
  have h1 := mulb ha hd
  have h2 := mulb hb hc
  unfold m2
  omega
theorem m3u {a1 a2 a3 b1 b2 b3 c1 c2 c3 : Int} (x1 : sb a1) (x2 : sb a2) (x3 : sb a3) (y1 : sb b1) (y2 : sb b2) (y3 : sb b3) (z1 : ub c1) (z2 : ub c2) (z3 : ub c3) : -21600 ≤ m3 a1 a2 a3 b1 b2 b3 c1 c2 c3 ∧ m3 a1 a2 a3 b1 b2 b3 c1 c2 c3 ≤ 21600 := by
  have h1 := mulb x1 (m2u y2 y3 z2 z3)
  have h2 := mulb x2 (m2u y1 y3 z1 z3)
  have h3 := mulb x3 (m2u y1 y2 z1 z2)
  unfold m3
  omega
theorem m4u {a1 a2 a3 a4 b1 b2 b3 b4 c1 c2 c3 c4 d1 d2 d3 d4 : Int} (x1 : sb a1) (x2 : sb a2) (x3 : sb a3) (x4 : sb a4) (y1 : sb b1) (y2 : sb b2) (y3 : sb b3) (y4 : sb b4) (z1 : sb c1) (z2 : sb c2) (z3 : sb c3) (z4 : sb c4) (w1 : ub d1) (w2 : ub d2) (w3 : ub d3) (w4 : ub d4) : -5184000 ≤ m4 a1 a2 a3 a4 b1 b2 b3 b4 c1 c2 c3 c4 d1 d2 d3 d4 ∧ m4 a1 a2 a3 a4 b1 b2 b3 b4 c1 c2 c3 c4 d1 d2 d3 d4 ≤ 5184000 := by
  have h1 := mulb x1 (m3u y2 y3 y4 z2 z3 z4 w2 w3 w4)
  have h2 := mulb x2 (m3u y1 y3 y4 z1 z3 z4 w1 w3 w4)
  have h3 := mulb x3 (m3u y1 y2 y4 z1 z2 z4 w1 w2 w4)
  have h4 := mulb x4 (m3u y1 y2 y3 z1 z2 z3 w1 w2 w3)
  unfold m4
  omega
theorem m5u {a1 a2 a3 a4 a5 b1 b2 b3 b4 b5 c1 c2 c3 c4 c5 d1 d2 d3 d4 d5 e1 e2 e3 e4 e5 : Int} (x1 : sb a1) (x2 : sb a2) (x3 : sb a3) (x4 : sb a4) (x5 : sb a5) (y1 : sb b1) (y2 : sb b2) (y3 : sb b3) (y4 : sb b4) (y5 : sb b5) (z1 : sb c1) (z2 : sb c2) (z3 : sb c3) (z4 : sb c4) (z5 : sb c5) (w1 : sb d1) (w2 : sb d2) (w3 : sb d3) (w4 : sb d4) (w5 : sb d5) (v1 : ub e1) (v2 : ub e2) (v3 : ub e3) (v4 : ub e4) (v5 : ub e5) : -1555200000 ≤ m5 a1 a2 a3 a4 a5 b1 b2 b3 b4 b5 c1 c2 c3 c4 c5 d1 d2 d3 d4 d5 e1 e2 e3 e4 e5 ∧ m5 a1 a2 a3 a4 a5 b1 b2 b3 b4 b5 c1 c2 c3 c4 c5 d1 d2 d3 d4 d5 e1 e2 e3 e4 e5 ≤ 1555200000 := by
  have h1 := mulb x1 (m4u y2 y3 y4 y5 z2 z3 z4 z5 w2 w3 w4 w5 v2 v3 v4 v5)
  have h2 := mulb x2 (m4u y1 y3 y4 y5 z1 z3 z4 z5 w1 w3 w4 w5 v1 v3 v4 v5)
  have h3 := mulb x3 (m4u y1 y2 y4 y5 z1 z2 z4 z5 w1 w2 w4 w5 v1 v2 v4 v5)
  have h4 := mulb x4 (m4u y1 y2 y3 y5 z1 z2 z3 z5 w1 w2 w3 w5 v1 v2 v3 v5)
  have h5 := mulb x5 (m4u y1 y2 y3 y4 z1 z2 z3 z4 w1 w2 w3 w4 v1 v2 v3 v4)
  unfold m5
  omega
def PB (P : Pvs) : Prop := ∀ x ∈ P, (∀ d, d < 5 → sb (x.1 d)) ∧ x.2 < 5
theorem PB.get {P : Pvs} {r : Nat → Int} {c : Nat} (hP : PB P) (h : (r, c) ∈ P) : (∀ d, d < 5 → sb (r d)) ∧ c < 5 := hP (r, c) h
def VB (v : Nat → Int) : Prop := ∀ d, d < 5 → sb (v d)
def UBd (v : Nat → Int) : Prop := ∀ d, d < 5 → ub (v d)
theorem NNb {P : Pvs} (hP : PB P) (h : P.length ≤ 3) {v : Nat → Int} (hv : VB v) {d : Nat} (hd : d < 5) : -311040000 ≤ NN P v d ∧ NN P v d ≤ 311040000 := by
  match P, h with
  | [], _ =>
    have := hv d hd
    show -311040000 ≤ v d ∧ v d ≤ 311040000
    omega
  | [(r1, c1)], _ =>
    obtain ⟨p1, q1⟩ := hP.get (r := r1) (c := c1) (by simp)
    have := m2b (p1 c1 q1) (p1 d hd) (hv c1 q1) (hv d hd)
    show -311040000 ≤ m2 _ _ _ _ ∧ m2 _ _ _ _ ≤ 311040000
    omega
  | [(r1, c1), (r2, c2)], _ =>
    obtain ⟨p1, q1⟩ := hP.get (r := r1) (c := c1) (by simp)
    obtain ⟨p2, q2⟩ := hP.get (r := r2) (c := c2) (by simp)
    have := m3b (p1 c1 q1) (p1 c2 q2) (p1 d hd) (p2 c1 q1) (p2 c2 q2) (p2 d hd) (hv c1 q1) (hv c2 q2) (hv d hd)
    show -311040000 ≤ m3 _ _ _ _ _ _ _ _ _ ∧ m3 _ _ _ _ _ _ _ _ _ ≤ 311040000
    omega
  | [(r1, c1), (r2, c2), (r3, c3)], _ =>
    obtain ⟨p1, q1⟩ := hP.get (r := r1) (c := c1) (by simp)
    obtain ⟨p2, q2⟩ := hP.get (r := r2) (c := c2) (by simp)
    obtain ⟨p3, q3⟩ := hP.get (r := r3) (c := c3) (by simp)
    exact m4b (p1 c1 q1) (p1 c2 q2) (p1 c3 q3) (p1 d hd) (p2 c1 q1) (p2 c2 q2) (p2 c3 q3) (p2 d hd) (p3 c1 q1) (p3 c2 q2) (p3 c3 q3) (p3 d hd) (hv c1 q1) (hv c2 q2) (hv c3 q3) (hv d hd)
/-- how large the numbers of a vector may be -/
def UBn (s : Nat) : Int := if s ≤ 3 then 5184000 else 1555200000
theorem NNu {P : Pvs} (hP : PB P) (h : P.length ≤ 4) {v : Nat → Int} (hv : UBd v) {d : Nat} (hd : d < 5) : -UBn P.length ≤ NN P v d ∧ NN P v d ≤ UBn P.length := by
  match P, h with
  | [], _ =>
    have := hv d hd
    show -5184000 ≤ v d ∧ v d ≤ 5184000
    omega
  | [(r1, c1)], _ =>
    obtain ⟨p1, q1⟩ := hP.get (r := r1) (c := c1) (by simp)
    have := m2u (p1 c1 q1) (p1 d hd) (hv c1 q1) (hv d hd)
    show -5184000 ≤ m2 _ _ _ _ ∧ m2 _ _ _ _ ≤ 5184000
    omega
  | [(r1, c1), (r2, c2)], _ =>
    obtain ⟨p1, q1⟩ := hP.get (r := r1) (c := c1) (by simp)
    obtain ⟨p2, q2⟩ := hP.get (r := r2) (c := c2) (by simp)
    have := m3u (p1 c1 q1) (p1 c2 q2) (p1 d hd) (p2 c1 q1) (p2 c2 q2) (p2 d hd) (hv c1 q1) (hv c2 q2) (hv d hd)
    show -5184000 ≤ m3 _ _ _ _ _ _ _ _ _ ∧ m3 _ _ _ _ _ _ _ _ _ ≤ 5184000
    omega
  | [(r1, c1), (r2, c2), (r3, c3)], _ =>
    obtain ⟨p1, q1⟩ := hP.get (r := r1) (c := c1) (by simp)
    obtain ⟨p2, q2⟩ := hP.get (r := r2) (c := c2) (by simp)
    obtain ⟨p3, q3⟩ := hP.get (r := r3) (c := c3) (by simp)
    exact m4u (p1 c1 q1) (p1 c2 q2) (p1 c3 q3) (p1 d hd) (p2 c1 q1) (p2 c2 q2) (p2 c3 q3) (p2 d hd) (p3 c1 q1) (p3 c2 q2) (p3 c3 q3) (p3 d hd) (hv c1 q1) (hv c2 q2) (hv c3 q3) (hv d hd)
  | [(r1, c1), (r2, c2), (r3, c3), (r4, c4)], _ =>
    obtain ⟨p1, q1⟩ := hP.get (r := r1) (c := c1) (by simp)
    obtain ⟨p2, q2⟩ := hP.get (r := r2) (c := c2) (by simp)
    obtain ⟨p3, q3⟩ := hP.get (r := r3) (c := c3) (by simp)
    obtain ⟨p4, q4⟩ := hP.get (r := r4) (c := c4) (by simp)
    exact m5u (p1 c1 q1) (p1 c2 q2) (p1 c3 q3) (p1 c4 q4) (p1 d hd) (p2 c1 q1) (p2 c2 q2) (p2 c3 q3) (p2 c4 q4) (p2 d hd) (p3 c1 q1) (p3 c2 q2) (p3 c3 q3) (p3 c4 q4) (p3 d hd) (p4 c1 q1) (p4 c2 q2) (p4 c3 q3) (p4 c4 q4) (p4 d hd) (hv c1 q1) (hv c2 q2) (hv c3 q3) (hv c4 q4) (hv d hd)
theorem DDb {P : Pvs} (hP : PB P) (h : P.length ≤ 4) : -311040000 ≤ DD P ∧ DD P ≤ 311040000 ∧ (P.length ≤ 3 → -1296000 ≤ DD P ∧ DD P ≤ 1296000) := by
  match P, h with
  | [], _ =>
    show -311040000 ≤ (1 : Int) ∧ (1 : Int) ≤ 311040000 ∧ (_ → -1296000 ≤ (1 : Int) ∧ (1 : Int) ≤ 1296000)
    omega
  | [(r1, c1)], _ =>
    obtain ⟨p1, q1⟩ := hP.get (r := r1) (c := c1) (by simp)
    have := p1 c1 q1
    show -311040000 ≤ r1 c1 ∧ r1 c1 ≤ 311040000 ∧ (_ → -1296000 ≤ r1 c1 ∧ r1 c1 ≤ 1296000)
    omega
  | [(r1, c1), (r2, c2)], _ =>
    obtain ⟨p1, q1⟩ := hP.get (r := r1) (c := c1) (by simp)
    obtain ⟨p2, q2⟩ := hP.get (r := r2) (c := c2) (by simp)
    have := m2b (p1 c1 q1) (p1 c2 q2) (p2 c1 q1) (p2 c2 q2)
    show -311040000 ≤ m2 _ _ _ _ ∧ m2 _ _ _ _ ≤ 311040000 ∧ (_ → -1296000 ≤ m2 _ _ _ _ ∧ m2 _ _ _ _ ≤ 1296000)
    omega
  | [(r1, c1), (r2, c2), (r3, c3)], _ =>
    obtain ⟨p1, q1⟩ := hP.get (r := r1) (c := c1) (by simp)
    obtain ⟨p2, q2⟩ := hP.get (r := r2) (c := c2) (by simp)
    obtain ⟨p3, q3⟩ := hP.get (r := r3) (c := c3) (by simp)
    have := m3b (p1 c1 q1) (p1 c2 q2) (p1 c3 q3) (p2 c1 q1) (p2 c2 q2) (p2 c3 q3) (p3 c1 q1) (p3 c2 q2) (p3 c3 q3)
    show -311040000 ≤ m3 _ _ _ _ _ _ _ _ _ ∧ m3 _ _ _ _ _ _ _ _ _ ≤ 311040000 ∧ (_ → -1296000 ≤ m3 _ _ _ _ _ _ _ _ _ ∧ m3 _ _ _ _ _ _ _ _ _ ≤ 1296000)
    omega
  | [(r1, c1), (r2, c2), (r3, c3), (r4, c4)], _ =>
    obtain ⟨p4, q4⟩ := hP.get (r := r4) (c := c4) (by simp)
    have := NNb (P := [(r1, c1), (r2, c2), (r3, c3)]) (fun x hx => hP x (by simp at hx ⊢; rcases hx with h | h | h <;> simp [h])) (Nat.le_refl 3) p4 q4
    show -311040000 ≤ NN [(r1, c1), (r2, c2), (r3, c3)] r4 c4 ∧ NN [(r1, c1), (r2, c2), (r3, c3)] r4 c4 ≤ 311040000 ∧ ((4 : Nat) ≤ 3 → _)
    exact ⟨this.1, this.2, fun h => absurd h (by decide)⟩
/-- a pivot's column is cleared -/
theorem NN_col {P : Pvs} (h : P.length ≤ 4) {x : (Nat → Int) × Nat} (hx : x ∈ P) (v : Nat → Int) : NN P v x.2 = 0 := by
  match P, h with
  | [(r1, c1)], _ =>
    have : x = (r1, c1) := by simpa using hx
    subst this
    show m2 _ _ _ _ = 0
    unfold m2
    grind
  | [(r1, c1), (r2, c2)], _ =>
    have : x = (r1, c1) ∨ x = (r2, c2) := by simpa using hx
    rcases this with rfl | rfl <;> (show m3 _ _ _ _ _ _ _ _ _ = 0; unfold m3 m2; grind)
  | [(r1, c1), (r2, c2), (r3, c3)], _ =>
    have : x = (r1, c1) ∨ x = (r2, c2) ∨ x = (r3, c3) := by simpa using hx
    rcases this with rfl | rfl | rfl <;> (show m4 _ _ _ _ _ _ _ _ _ _ _ _ _ _ _ _ = 0; unfold m4 m3 m2; grind)
  | [(r1, c1), (r2, c2), (r3, c3), (r4, c4)], _ =>
    have : x = (r1, c1) ∨ x = (r2, c2) ∨ x = (r3, c3) ∨ x = (r4, c4) := by simpa using hx
    rcases this with rfl | rfl | rfl | rfl <;> (show m5 _ _ _ _ _ _ _ _ _ _ _ _ _ _ _ _ _ _ _ _ _ _ _ _ _ = 0; unfold m5 m4 m3 m2; grind)
/-- a row with 0 in the pivots' columns -/
theorem NN_un {P : Pvs} (h : P.length ≤ 4) {v : Nat → Int} (hv : ∀ x ∈ P, v x.2 = 0) (d : Nat) : NN P v d = DD P * v d := by
  match P, h with
  | [], _ => show v d = 1 * v d; omega
  | [(r1, c1)], _ =>
    have h1 := hv (r1, c1) (by simp)
    show m2 _ _ (v c1) _ = _
    rw [show v c1 = 0 from h1]
    show m2 _ _ _ _ = r1 c1 * v d
    unfold m2
    grind
  | [(r1, c1), (r2, c2)], _ =>
    have h1 := hv (r1, c1) (by simp)
    have h2 := hv (r2, c2) (by simp)
    show m3 _ _ _ _ _ _ (v c1) (v c2) _ = m2 _ _ _ _ * v d
    rw [show v c1 = 0 from h1, show v c2 = 0 from h2]
    unfold m3 m2
    grind
  | [(r1, c1), (r2, c2), (r3, c3)], _ =>
    have h1 := hv (r1, c1) (by simp)
    have h2 := hv (r2, c2) (by simp)
    have h3 := hv (r3, c3) (by simp)
    show m4 _ _ _ _ _ _ _ _ _ _ _ _ (v c1) (v c2) (v c3) _ = m3 _ _ _ _ _ _ _ _ _ * v d
    rw [show v c1 = 0 from h1, show v c2 = 0 from h2, show v c3 = 0 from h3]
    unfold m4 m3 m2
    grind
  | [(r1, c1), (r2, c2), (r3, c3), (r4, c4)], _ =>
    have h1 := hv (r1, c1) (by simp)
    have h2 := hv (r2, c2) (by simp)
    have h3 := hv (r3, c3) (by simp)
    have h4 := hv (r4, c4) (by simp)
    show m5 _ _ _ _ _ _ _ _ _ _ _ _ _ _ _ _ _ _ _ _ (v c1) (v c2) (v c3) (v c4) _ = m4 _ _ _ _ _ _ _ _ _ _ _ _ _ _ _ _ * v d
    rw [show v c1 = 0 from h1, show v c2 = 0 from h2, show v c3 = 0 from h3, show v c4 = 0 from h4]
    unfold m5 m4 m3 m2
    grind
/-! sums -/
def sumI (t : Nat → Int) : Nat → Int
  | 0 => 0
  | n + 1 => sumI t n + t n
theorem sumI_cong {s t : Nat → Int} : ∀ {n : Nat}, (∀ d, d < n → s d = t d) → sumI s n = sumI t n
  | 0, _ => rfl
  | n + 1, h => by rw [sumI, sumI, sumI_cong (fun d hd => h d (by omega)), h n (by omega)]
theorem sumI_0 : ∀ n, sumI (fun _ => 0) n = 0
  | 0 => rfl
  | n + 1 => by rw [sumI, sumI_0 n]; rfl
theorem sumI_one {t : Nat → Int} {i : Nat} : ∀ {n : Nat}, i < n → (∀ d, d < n → d ≠ i → t d = 0) → sumI t n = t i
  | 0, hi, _ => absurd hi (by omega)
  | n + 1, hi, h => by
    rw [sumI]
    by_cases e : i = n
    · subst e
      rw [sumI_cong (t := fun _ => 0) (fun d hd => h d (by omega) (by omega)), sumI_0]
      omega
    · rw [sumI_one (by omega) (fun d hd => h d (by omega)), h n (by omega) (by omega)]
      omega
theorem sumI_two {t : Nat → Int} {i j : Nat} (hij : i ≠ j) : ∀ {n : Nat}, i < n → j < n → (∀ d, d < n → d ≠ i → d ≠ j → t d = 0) → sumI t n = t i + t j
  | 0, hi, _, _ => absurd hi (by omega)
  | n + 1, hi, hj, h => by
    rw [sumI]
    by_cases e : i = n
    · subst e
      rw [sumI_one (i := j) (by omega) (fun d hd hd2 => h d (by omega) (by omega) hd2)]
      omega
    · by_cases e2 : j = n
      · subst e2
        rw [sumI_one (i := i) (by omega) (fun d hd hd2 => h d (by omega) hd2 (by omega))]
      · rw [sumI_two hij (by omega) (by omega) (fun d hd => h d (by omega)), h n (by omega) (by omega) (by omega)]
        omega
theorem sumI_lin (a b : Int) (s t : Nat → Int) : ∀ n, sumI (fun d => a * s d - b * t d) n = a * sumI s n - b * sumI t n
  | 0 => by show (0 : Int) = a * 0 - b * 0; simp
  | n + 1 => by
    rw [sumI, sumI, sumI, sumI_lin a b s t n]
    grind
/-- the vectors that a matrix gives 0 -/
def Nu (A : VM) (n : Nat) (v : Nat → Int) : Prop := ∀ k, k < 32 → sumI (fun d => (A k d).toInt * v d) n = 0
theorem Nu.lin {A : VM} {n : Nat} {v w : Nat → Int} (hv : Nu A n v) (hw : Nu A n w) (a b : Int) : Nu A n (fun d => a * v d - b * w d) := fun k hk => by
  rw [sumI_cong (t := fun d => a * ((A k d).toInt * v d) - b * ((A k d).toInt * w d)) (fun d _ => by grind), sumI_lin, hv k hk, hw k hk]
  simp
