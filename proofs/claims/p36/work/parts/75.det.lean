/-! DETERMINANTS of rows with two to five numbers -/
def m2 (a b c d : Int) : Int := a * d - b * c
def m3 (a1 a2 a3 b1 b2 b3 c1 c2 c3 : Int) : Int := a1 * m2 b2 b3 c2 c3 - a2 * m2 b1 b3 c1 c3 + a3 * m2 b1 b2 c1 c2
def m4 (a1 a2 a3 a4 b1 b2 b3 b4 c1 c2 c3 c4 d1 d2 d3 d4 : Int) : Int := a1 * m3 b2 b3 b4 c2 c3 c4 d2 d3 d4 - a2 * m3 b1 b3 b4 c1 c3 c4 d1 d3 d4 + a3 * m3 b1 b2 b4 c1 c2 c4 d1 d2 d4 - a4 * m3 b1 b2 b3 c1 c2 c3 d1 d2 d3
def m5 (a1 a2 a3 a4 a5 b1 b2 b3 b4 b5 c1 c2 c3 c4 c5 d1 d2 d3 d4 d5 e1 e2 e3 e4 e5 : Int) : Int := a1 * m4 b2 b3 b4 b5 c2 c3 c4 c5 d2 d3 d4 d5 e2 e3 e4 e5 - a2 * m4 b1 b3 b4 b5 c1 c3 c4 c5 d1 d3 d4 d5 e1 e3 e4 e5 + a3 * m4 b1 b2 b4 b5 c1 c2 c4 c5 d1 d2 d4 d5 e1 e2 e4 e5 - a4 * m4 b1 b2 b3 b5 c1 c2 c3 c5 d1 d2 d3 d5 e1 e2 e3 e5 + a5 * m4 b1 b2 b3 b4 c1 c2 c3 c4 d1 d2 d3 d4 e1 e2 e3 e4
theorem syl2 (a1 a2 a3 b1 b2 b3 c1 c2 c3 : Int) : m2 a1 a2 b1 b2 * m2 a1 a3 c1 c3 - m2 a1 a2 c1 c2 * m2 a1 a3 b1 b3 = a1 * m3 a1 a2 a3 b1 b2 b3 c1 c2 c3 := by
  unfold m3 m2
  grind
theorem syl3 (a1 a2 a3 a4 b1 b2 b3 b4 c1 c2 c3 c4 d1 d2 d3 d4 : Int) : m3 a1 a2 a3 b1 b2 b3 c1 c2 c3 * m3 a1 a2 a4 b1 b2 b4 d1 d2 d4 - m3 a1 a2 a3 b1 b2 b3 d1 d2 d3 * m3 a1 a2 a4 b1 b2 b4 c1 c2 c4 = m2 a1 a2 b1 b2 * m4 a1 a2 a3 a4 b1 b2 b3 b4 c1 c2 c3 c4 d1 d2 d3 d4 := by
  unfold m4 m3 m2
  grind
set_option maxRecDepth 100000 in
set_option maxHeartbeats 4000000 in
theorem syl4 (a1 a2 a3 a4 a5 b1 b2 b3 b4 b5 c1 c2 c3 c4 c5 d1 d2 d3 d4 d5 e1 e2 e3 e4 e5 : Int) : m4 a1 a2 a3 a4 b1 b2 b3 b4 c1 c2 c3 c4 d1 d2 d3 d4 * m4 a1 a2 a3 a5 b1 b2 b3 b5 c1 c2 c3 c5 e1 e2 e3 e5 - m4 a1 a2 a3 a4 b1 b2 b3 b4 c1 c2 c3 c4 e1 e2 e3 e4 * m4 a1 a2 a3 a5 b1 b2 b3 b5 c1 c2 c3 c5 d1 d2 d3 d5 = m3 a1 a2 a3 b1 b2 b3 c1 c2 c3 * m5 a1 a2 a3 a4 a5 b1 b2 b3 b4 b5 c1 c2 c3 c4 c5 d1 d2 d3 d4 d5 e1 e2 e3 e4 e5 := by
  unfold m5 m4 m3 m2
  grind
/-! their size -/
theorem mulb {x y X Y : Int} (h1 : -X ≤ x ∧ x ≤ X) (h2 : -Y ≤ y ∧ y ≤ Y) : -(X * Y) ≤ x * y ∧ x * y ≤ X * Y := by
  have a : x.natAbs ≤ X.toNat := by omega
  have b : y.natAbs ≤ Y.toNat := by omega
  have c := Nat.mul_le_mul a b
  rw [← Int.natAbs_mul] at c
  have d : ((X.toNat * Y.toNat : Nat) : Int) = X * Y := by rw [Int.natCast_mul, Int.toNat_of_nonneg (by omega), Int.toNat_of_nonneg (by omega)]
  omega
abbrev sb (x : Int) : Prop := -60 ≤ x ∧ x ≤ 60
theorem m2b {a b c d : Int} (ha : sb a) (hb : sb b) (hc : sb c) (hd : sb d) : -7200 ≤ m2 a b c d ∧ m2 a b c d ≤ 7200 := by
  have h1 := mulb ha hd
  have h2 := mulb hb hc
  unfold m2
  omega
theorem m3b {a1 a2 a3 b1 b2 b3 c1 c2 c3 : Int} (x1 : sb a1) (x2 : sb a2) (x3 : sb a3) (y1 : sb b1) (y2 : sb b2) (y3 : sb b3) (z1 : sb c1) (z2 : sb c2) (z3 : sb c3) : -1296000 ≤ m3 a1 a2 a3 b1 b2 b3 c1 c2 c3 ∧ m3 a1 a2 a3 b1 b2 b3 c1 c2 c3 ≤ 1296000 := by
  have h1 := mulb x1 (m2b y2 y3 z2 z3)
  have h2 := mulb x2 (m2b y1 y3 z1 z3)
  have h3 := mulb x3 (m2b y1 y2 z1 z2)
  unfold m3
  omega
theorem m4b {a1 a2 a3 a4 b1 b2 b3 b4 c1 c2 c3 c4 d1 d2 d3 d4 : Int} (x1 : sb a1) (x2 : sb a2) (x3 : sb a3) (x4 : sb a4) (y1 : sb b1) (y2 : sb b2) (y3 : sb b3) (y4 : sb b4) (z1 : sb c1) (z2 : sb c2) (z3 : sb c3) (z4 : sb c4) (w1 : sb d1) (w2 : sb d2) (w3 : sb d3) (w4 : sb d4) : -311040000 ≤ m4 a1 a2 a3 a4 b1 b2 b3 b4 c1 c2 c3 c4 d1 d2 d3 d4 ∧ m4 a1 a2 a3 a4 b1 b2 b3 b4 c1 c2 c3 c4 d1 d2 d3 d4 ≤ 311040000 := by
  have h1 := mulb x1 (m3b y2 y3 y4 z2 z3 z4 w2 w3 w4)
  have h2 := mulb x2 (m3b y1 y3 y4 z1 z3 z4 w1 w3 w4)
  have h3 := mulb x3 (m3b y1 y2 y4 z1 z2 z4 w1 w2 w4)
  have h4 := mulb x4 (m3b y1 y2 y3 z1 z2 z3 w1 w2 w3)
  unfold m4
  omega
theorem m5b {a1 a2 a3 a4 a5 b1 b2 b3 b4 b5 c1 c2 c3 c4 c5 d1 d2 d3 d4 d5 e1 e2 e3 e4 e5 : Int} (x1 : sb a1) (x2 : sb a2) (x3 : sb a3) (x4 : sb a4) (x5 : sb a5) (y1 : sb b1) (y2 : sb b2) (y3 : sb b3) (y4 : sb b4) (y5 : sb b5) (z1 : sb c1) (z2 : sb c2) (z3 : sb c3) (z4 : sb c4) (z5 : sb c5) (w1 : sb d1) (w2 : sb d2) (w3 : sb d3) (w4 : sb d4) (w5 : sb d5) (v1 : sb e1) (v2 : sb e2) (v3 : sb e3) (v4 : sb e4) (v5 : sb e5) : -93312000000 ≤ m5 a1 a2 a3 a4 a5 b1 b2 b3 b4 b5 c1 c2 c3 c4 c5 d1 d2 d3 d4 d5 e1 e2 e3 e4 e5 ∧ m5 a1 a2 a3 a4 a5 b1 b2 b3 b4 b5 c1 c2 c3 c4 c5 d1 d2 d3 d4 d5 e1 e2 e3 e4 e5 ≤ 93312000000 := by
  have h1 := mulb x1 (m4b y2 y3 y4 y5 z2 z3 z4 z5 w2 w3 w4 w5 v2 v3 v4 v5)
  have h2 := mulb x2 (m4b y1 y3 y4 y5 z1 z3 z4 z5 w1 w3 w4 w5 v1 v3 v4 v5)
  have h3 := mulb x3 (m4b y1 y2 y4 y5 z1 z2 z4 z5 w1 w2 w4 w5 v1 v2 v4 v5)
  have h4 := mulb x4 (m4b y1 y2 y3 y5 z1 z2 z3 z5 w1 w2 w3 w5 v1 v2 v3 v5)
  have h5 := mulb x5 (m4b y1 y2 y3 y4 z1 z2 z3 z4 w1 w2 w3 w4 v1 v2 v3 v4)
  unfold m5
  omega
/-- rows and columns of the pivots so far, oldest first; a row's number in the column d behind them -/
abbrev Pvs : Type := List ((Nat → Int) × Nat)
def NN (P : Pvs) (v : Nat → Int) (d : Nat) : Int := match P with
  | [] => v d
  | [(r1, c1)] => m2 (r1 c1) (r1 d) (v c1) (v d)
  | [(r1, c1), (r2, c2)] => m3 (r1 c1) (r1 c2) (r1 d) (r2 c1) (r2 c2) (r2 d) (v c1) (v c2) (v d)
  | [(r1, c1), (r2, c2), (r3, c3)] => m4 (r1 c1) (r1 c2) (r1 c3) (r1 d) (r2 c1) (r2 c2) (r2 c3) (r2 d) (r3 c1) (r3 c2) (r3 c3) (r3 d) (v c1) (v c2) (v c3) (v d)
  | [(r1, c1), (r2, c2), (r3, c3), (r4, c4)] => m5 (r1 c1) (r1 c2) (r1 c3) (r1 c4) (r1 d) (r2 c1) (r2 c2) (r2 c3) (r2 c4) (r2 d) (r3 c1) (r3 c2) (r3 c3) (r3 c4) (r3 d) (r4 c1) (r4 c2) (r4 c3) (r4 c4) (r4 d) (v c1) (v c2) (v c3) (v c4) (v d)
  | _ => 0
/-- the last pivot -/
def DD (P : Pvs) : Int := match P with
  | [] => 1
  | [(r1, c1)] => r1 c1
  | [(r1, c1), (r2, c2)] => NN [(r1, c1)] r2 c2
  | [(r1, c1), (r2, c2), (r3, c3)] => NN [(r1, c1), (r2, c2)] r3 c3
  | [(r1, c1), (r2, c2), (r3, c3), (r4, c4)] => NN [(r1, c1), (r2, c2), (r3, c3)] r4 c4
  | _ => 0
theorem DD_add (P : Pvs) (h : P.length ≤ 3) (r : Nat → Int) (c : Nat) : DD (P ++ [(r, c)]) = NN P r c := by
  match P, h with
  | [], _ => rfl
  | [(r1, c1)], _ => rfl
  | [(r1, c1), (r2, c2)], _ => rfl
  | [(r1, c1), (r2, c2), (r3, c3)], _ => rfl
/-- THE STEP: exact -/
theorem NN_add (P : Pvs) (h : P.length ≤ 3) (r v : Nat → Int) (c d : Nat) : NN P r c * NN P v d - NN P v c * NN P r d = DD P * NN (P ++ [(r, c)]) v d := by
  match P, h with
  | [], _ =>
    show r c * v d - v c * r d = 1 * m2 (r c) (r d) (v c) (v d)
    unfold m2
    grind
  | [(r1, c1)], _ => exact syl2 (r1 c1) (r1 c) (r1 d) (r c1) (r c) (r d) (v c1) (v c) (v d)
  | [(r1, c1), (r2, c2)], _ => exact syl3 (r1 c1) (r1 c2) (r1 c) (r1 d) (r2 c1) (r2 c2) (r2 c) (r2 d) (r c1) (r c2) (r c) (r d) (v c1) (v c2) (v c) (v d)
  | [(r1, c1), (r2, c2), (r3, c3)], _ => exact syl4 (r1 c1) (r1 c2) (r1 c3) (r1 c) (r1 d) (r2 c1) (r2 c2) (r2 c3) (r2 c) (r2 d) (r3 c1) (r3 c2) (r3 c3) (r3 c) (r3 d) (r c1) (r c2) (r c3) (r c) (r d) (v c1) (v c2) (v c3) (v c) (v d)
