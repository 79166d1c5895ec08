/-! the kernel: its memory, and what each of its methods does, in the numbers of the machine -/
def labs (x : Int64) : Int64 := if x < 0 then -x else x
def cdW : Nat → Int64 → Int64 → Int64
  | 0, a, _ => a
  | k + 1, a, b => if b = 0 then a else cdW k b (a - a / b * b)
def cdG (a b : Int64) : Int64 := cdW 200 a b
abbrev VM : Type := Nat → Nat → Int64
def knL (L : LM) (V : VM) (w : Nat → Int64) : LM := fun a j => if 173 ≤ a ∧ a < 178 then (if j < 5 then V (a - 173) j else L a j) else if a = 178 then (if j < 5 then w j else L a j) else L a j
section KNL
variable {L : LM} {V : VM} {w : Nat → Int64}
theorem kn_v {p j : Nat} (hp : p < 5) (hj : j < 5) : knL L V w (173 + p) j = V p j := by
  unfold knL
  rw [if_pos (by omega), if_pos hj, Nat.add_sub_cancel_left]
theorem kn_w {j : Nat} (hj : j < 5) : knL L V w 178 j = w j := by simp [knL, hj]
theorem kn_o {a : Nat} (h : a < 173 ∨ 178 < a) : knL L V w a = L a := by
  funext j
  unfold knL
  rw [if_neg (by omega), if_neg (by omega)]
theorem kn_id : knL L (fun p j => L (173 + p) j) (L 178) = L := by
  funext a j
  unfold knL
  split
  · rename_i h
    have e : 173 + (a - 173) = a := by omega
    split
    · show L (173 + (a - 173)) j = L a j
      rw [e]
    · rfl
  · split
    · rename_i h; subst h; split <;> rfl
    · rfl
theorem kn_mv {p j : Nat} {x : Int64} (hp : p < 5) (hj : j < 5) : mu (knL L V w) (173 + p) j x = knL L (mu V p j x) w := by
  funext a k
  by_cases h : a = 173 + p
  · subst h
    have e1 : 173 ≤ 173 + p ∧ 173 + p < 178 := by omega
    have e2 : 173 + p - 173 = p := by omega
    simp only [mu, knL]
    rw [if_pos e1, if_pos e1, e2]
    by_cases hk : k = j
    · subst hk
      simp only [and_self, if_true]
      rw [if_pos hj]
    · simp only [hk, and_false, if_false]
  · have h2 : ¬ (a = 173 + p ∧ k = j) := fun e => h e.1
    simp only [mu, knL]
    rw [if_neg h2]
    by_cases ha : 173 ≤ a ∧ a < 178
    · have h3 : ¬ (a - 173 = p ∧ k = j) := fun e => h (by omega)
      rw [if_pos ha, if_pos ha, if_neg h3]
    · rw [if_neg ha, if_neg ha]
theorem kn_mw {j : Nat} {x : Int64} (hj : j < 5) : mu (knL L V w) 178 j x = knL L V (fun k => if k = j then x else w k) := by
  funext a k
  unfold mu knL
  by_cases h : a = 178
  · subst h
    rw [if_neg (show ¬ (173 ≤ 178 ∧ 178 < 178) by omega), if_neg (show ¬ (173 ≤ 178 ∧ 178 < 178) by omega)]
    by_cases hk : k = j
    · subst hk; simp [hj]
    · simp [hk]
  · simp [h]
theorem kn_cp {i n : Nat} (hi : i + 1 < 5) (hn : n ≤ 5) : mrow (knL L V w) (173 + i) (cp0 (knL L V w (173 + (i + 1))) (knL L V w (173 + i)) n) = knL L (fun a k => if a = i ∧ k < n then V (i + 1) k else V a k) w := by
  funext a k
  by_cases h : a = 173 + i
  · subst h
    have e1 : 173 ≤ 173 + i ∧ 173 + i < 178 := by omega
    have e2 : 173 + i - 173 = i := by omega
    simp only [mrow, if_true, cp0]
    by_cases hk : k < n
    · rw [if_pos hk, kn_v (by omega) (by omega), kn_v (by omega) (by omega)]
      simp only [hk, and_self, if_true]
    · rw [if_neg hk]
      simp only [knL, hk, and_false, if_false]
  · simp only [mrow, if_neg h, knL]
    by_cases ha : 173 ≤ a ∧ a < 178
    · have h3 : ¬ (a - 173 = i ∧ k < n) := fun e => h (by omega)
      rw [if_pos ha, if_pos ha, if_neg h3]
    · rw [if_neg ha, if_neg ha]
theorem kn_cong {V' : VM} {w' : Nat → Int64} (h : ∀ p j, p < 5 → j < 5 → V p j = V' p j) (h2 : ∀ j, j < 5 → w j = w' j) : knL L V w = knL L V' w' := by
  funext a k
  unfold knL
  split
  · split
    · exact h _ _ (by omega) (by assumption)
    · rfl
  · split
    · split
      · exact h2 _ (by assumption)
      · rfl
    · rfl
end KNL
theorem kk_v {p : Nat} (hp : p < 5) : (∃ w, kdC 172 = (6, 5, w) ∧ 173 + p = 172 + 1 + p * w) ∧ 4 ≤ 6 ∧ 6 ≤ 6 ∧ nI p = nI p ∧ p < 5 := ⟨⟨1, rfl, by omega⟩, by decide, by decide, rfl, hp⟩
theorem kd_kv : ∀ p, p < 5 → kdC (173 + p) = (2, 5, 0) := by decide
theorem qJ9_labs (l : Launch) (x : Int64) (I : IM) (L : LM) : KJ9_abs_067f4 l [.long x] I L (some (.long (labs x))) I L := by
  refine wJ9_abs_067f4 l rfl (hz0 (by decide)) (fun V hV => ?_)
  by_cases h : x < 0
  · refine ru_fin hV 8 [(0, 0)] rfl rfl ⟨trivial, (by rw [lg_cmp_ge]; exact fun e => absurd h (lg_le_not_lt e))⟩ ?_
    exact ⟨by rw [labs, if_pos h]; rfl, rfl, rfl⟩
  · refine ru_fin hV 6 [(1, 0)] rfl rfl ⟨trivial, ((lg_cmp_ge x 0).mpr (Int64.not_lt.mp h))⟩ ?_
    exact ⟨by rw [labs, if_neg h]; rfl, rfl, rfl⟩
theorem qX4_commonDivisor (l : Launch) (a b : Int64) (I : IM) (L : LM) : KX4_commonDivisor l [.long a, .long b] I L (some (.long (cdG a b))) I L := by
  refine wX4_commonDivisor l rfl (hz0 (by decide)) (fun V hV => ?_)
  refine ru_go hV 6 [] rfl rfl trivial ?_
  have key : ∀ k i (x y : Int64), i + k = 200 → cdW k x y = cdG a b → V 9 [(0, .long a), (2, .long b), (4, .long x), (6, .long y), (8, .int (nI i))] [] I L := by
    intro k
    induction k with
    | zero =>
      intro i x y hi he
      refine ru_fin hV 5 [(1, 0)] rfl rfl ⟨trivial, nI_le (a := 200) (b := i) (by omega) (by omega)⟩ ?_
      rw [← he]
      exact ⟨rfl, rfl, rfl⟩
    | succ k ih =>
      intro i x y hi he
      unfold cdW at he
      by_cases hy : y = 0
      · rw [if_pos hy] at he
        refine ru_fin hV 9 [(0, 0), (1, 0)] rfl rfl ⟨⟨trivial, nI_nge (n := 200) (by omega) (by omega)⟩, (lg_cmp_eq y 0).mpr hy⟩ ?_
        rw [← he]
        exact ⟨rfl, rfl, rfl⟩
      · rw [if_neg hy] at he
        refine ru_go hV 17 [(0, 0), (0, 0)] rfl rfl ⟨⟨⟨trivial, nI_nge (n := 200) (by omega) (by omega)⟩, (fun e => hy ((lg_cmp_eq y 0).mp e))⟩, hy⟩ ?_
        rw [nI_1]
        refine ru_sub hV [0, 1, 2, 3, 4] rfl (ih (i + 1) y _ (by omega) he)
  exact key 200 0 a b rfl rfl
theorem qX4_number (l : Launch) {p d : Nat} (hp : p < 5) (hd : d < 5) (I : IM) (L : LM) : KX4_number l [.ref 171, .int (nI p), .int (nI d)] I L (some (.int (L (173 + p) d).toInt32)) I L := by
  refine wX4_number l rfl (hz0 (by decide)) (fun V hV => ?_)
  refine ru_fin hV 8 [(172, 0), (p, 5), ((173+p), 6), (d, 5)] rfl rfl ⟨⟨⟨trivial, (by first | exact rfl | assumption | exact ⟨rfl, rfl⟩ | exact ⟨rfl, rfl, by omega⟩ | exact ⟨by assumption, rfl, by omega⟩ | exact ⟨⟨_, rfl, rfl⟩, by decide, by decide, rfl, by omega⟩ | omega | decide)⟩, kk_v hp⟩, ⟨kd_kv p hp, rfl, hd⟩⟩ ?_
  exact ⟨rfl, rfl, rfl⟩
def stV (n : Nat) (V : VM) : VM := fun p k => if p < n ∧ k < n then (if p = k then 1 else 0) else V p k
theorem qX4_startWithAll (l : Launch) {n : Nat} (hn : n ≤ 5) (I : IM) {L : LM} {V0 : VM} {w : Nat → Int64} : KX4_startWithAll l [.ref 171, .int (nI n)] I (knL L V0 w) none (mu I 171 2 (nI n)) (knL L (stV n V0) w) := by
  refine wX4_startWithAll l rfl (hz0 (by decide)) (fun V hV => ?_)
  refine ru_go hV 5 [] rfl rfl ⟨trivial, (by first | exact rfl | assumption | exact ⟨rfl, rfl⟩ | exact ⟨rfl, rfl, by omega⟩ | exact ⟨by assumption, rfl, by omega⟩ | exact ⟨⟨_, rfl, rfl⟩, by decide, by decide, rfl, by omega⟩ | omega | decide)⟩ ?_
  refine loop0 (P := fun p => V 7 [(0, .ref 171), (1, .int (nI n)), (2, .int (nI p))] [] (mu I 171 2 (nI n)) (knL L (fun a k => if a < p ∧ k < n then (if a = k then 1 else 0) else V0 a k) w)) n (fun h => by
    rw [kn_cong (V' := V0) (w' := w) (fun a k _ _ => if_neg (by omega)) (fun _ _ => rfl)] at h
    exact h) (fun p hp ih => ?_) ?_
  · refine ru_go hV 5 [(0, 0)] rfl rfl ⟨trivial, nI_nge hp (by omega)⟩ ?_
    refine loop0 (P := fun k => V 14 [(0, .ref 171), (1, .int (nI n)), (2, .int (nI p)), (3, .int (nI k))] [] (mu I 171 2 (nI n)) (knL L (fun a q => if (a < p ∧ q < n) ∨ (a = p ∧ q < k) then (if a = q then 1 else 0) else V0 a q) w)) n (fun h => by
      rw [kn_cong (V' := fun a k => if a < p ∧ k < n then (if a = k then 1 else 0) else V0 a k) (w' := w) (fun a k _ _ => ?_) (fun _ _ => rfl)] at h
      · exact h
      · simp only [Nat.not_lt_zero, and_false, or_false]) (fun k hk ih2 => ?_) ?_
    · have e : ∀ x : Int64, x = (if p = k then 1 else 0) → mu (knL L (fun a q => if (a < p ∧ q < n) ∨ (a = p ∧ q < k) then (if a = q then 1 else 0) else V0 a q) w) (173 + p) k x = knL L (fun a q => if (a < p ∧ q < n) ∨ (a = p ∧ q < k + 1) then (if a = q then 1 else 0) else V0 a q) w := fun x hx => by
        rw [kn_mv (by omega) (by omega)]
        refine kn_cong (fun a q _ _ => ?_) (fun _ _ => rfl)
        unfold mu
        by_cases h : a = p ∧ q = k
        · obtain ⟨rfl, rfl⟩ := h
          rw [if_pos ⟨rfl, rfl⟩, if_pos (Or.inr ⟨rfl, by omega⟩), hx]
        · rw [if_neg h]
          dsimp only
          by_cases h2 : (a < p ∧ q < n) ∨ (a = p ∧ q < k)
          · rw [if_pos h2, if_pos (show (a < p ∧ q < n) ∨ (a = p ∧ q < k + 1) by omega)]
          · rw [if_neg h2, if_neg (show ¬ ((a < p ∧ q < n) ∨ (a = p ∧ q < k + 1)) by omega)]
      by_cases hpk : p = k
      · refine ru_go hV 16 [(0, 0), (172, 0), (p, 5), ((173+p), 6), (0, 0), (k, 5)] rfl rfl ⟨⟨⟨⟨⟨trivial, nI_nge hk (by omega)⟩, (by first | exact rfl | assumption | exact ⟨rfl, rfl⟩ | exact ⟨rfl, rfl, by omega⟩ | exact ⟨by assumption, rfl, by omega⟩ | exact ⟨⟨_, rfl, rfl⟩, by decide, by decide, rfl, by omega⟩ | omega | decide)⟩, kk_v (by omega)⟩, (fun e => e (by rw [hpk]))⟩, ⟨kd_kv p (by omega), rfl, by omega⟩⟩ ?_
        rw [nI_1, e 1 (by rw [if_pos hpk])]
        exact ih2
      · refine ru_go hV 15 [(0, 0), (172, 0), (p, 5), ((173+p), 6), (1, 0), (k, 5)] rfl rfl ⟨⟨⟨⟨⟨trivial, nI_nge hk (by omega)⟩, (by first | exact rfl | assumption | exact ⟨rfl, rfl⟩ | exact ⟨rfl, rfl, by omega⟩ | exact ⟨by assumption, rfl, by omega⟩ | exact ⟨⟨_, rfl, rfl⟩, by decide, by decide, rfl, by omega⟩ | omega | decide)⟩, kk_v (by omega)⟩, (fun e => hpk ((nI_eq (by omega) (by omega)).mp e))⟩, ⟨kd_kv p (by omega), rfl, by omega⟩⟩ ?_
        rw [nI_1, e 0 (by rw [if_neg hpk])]
        exact ih2
    · refine ru_go hV 5 [(1, 0)] rfl rfl ⟨trivial, nI_le (Nat.le_refl n) (by omega)⟩ ?_
      rw [nI_1, kn_cong (V' := fun a k => if a < p + 1 ∧ k < n then (if a = k then 1 else 0) else V0 a k) (w' := w) (fun a k _ _ => ?_) (fun _ _ => rfl)]
      · exact ru_sub hV [0, 1, 2] rfl ih
      · by_cases h2 : (a < p ∧ k < n) ∨ (a = p ∧ k < n)
        · rw [if_pos h2, if_pos (show a < p + 1 ∧ k < n by omega)]
        · rw [if_neg h2, if_neg (show ¬ (a < p + 1 ∧ k < n) by omega)]
  · refine ru_fin hV 4 [(1, 0)] rfl rfl ⟨trivial, nI_le (Nat.le_refl n) (by omega)⟩ ?_
    exact ⟨rfl, rfl, rfl⟩
def vaA (f : Nat → Int32) (b : Nat) (v : Nat → Int64) (n : Nat) : Int64 := sumL (fun k => if b.testBit k then sg (odT (2 ^ k) (b ^^^ 2 ^ k)) (v k * (f (b ^^^ 2 ^ k)).toInt64) else 0) n
theorem qX4_valueAt (l : Launch) {c v b n : Nat} (hc : kdC c = (1, 32, 0)) (hv : kdC v = (2, 5, 0)) (hb : b < 32) (hn : n ≤ 5) (I : IM) (L : LM) : KX4_valueAt l [.ref c, .int (nI b), .ref v, .int (nI n)] I L (some (.long (vaA (I c) b (L v) n))) I L := by
  refine wX4_valueAt l rfl (hz0 (by decide)) (fun V hV => ?_)
  refine ru_go hV 4 [] rfl rfl trivial ?_
  refine loop0 (P := fun q => V 6 [(0, .ref c), (1, .int (nI b)), (2, .ref v), (3, .int (nI n)), (4, .long (vaA (I c) b (L v) q)), (6, .int (nI q))] [] I L) n (fun h => h) (fun q hq ih => ?_) ?_
  · have hq5 : q < 5 := by omega
    have hp := pow2_lt q hq5
    have esh := bl_sh q (by omega)
    refine ru_go hV 7 [(0, 0)] rfl rfl ⟨trivial, nI_nge hq (by omega)⟩ ?_
    rw [esh]
    by_cases h : b.testBit q = true
    · have hx := xor_lt b hb (2 ^ q) hp
      have ex := xorI b hb (2 ^ q) hp
      refine ru_go hV 7 [(0, 0)] rfl rfl ⟨trivial, (fun e => by rw [(tb_and b hb q hq5).mp e] at h; cases h)⟩ ?_
      rw [ex]
      refine ru_go hV 13 [(q, 5), ((b^^^2^q), 32)] rfl rfl ⟨⟨trivial, (by first | exact rfl | assumption | exact ⟨rfl, rfl⟩ | exact ⟨rfl, rfl, by omega⟩ | exact ⟨by assumption, rfl, by omega⟩ | exact ⟨⟨_, rfl, rfl⟩, by decide, by decide, rfl, by omega⟩ | omega | decide)⟩, (by first | exact rfl | assumption | exact ⟨rfl, rfl⟩ | exact ⟨rfl, rfl, by omega⟩ | exact ⟨by assumption, rfl, by omega⟩ | exact ⟨⟨_, rfl, rfl⟩, by decide, by decide, rfl, by omega⟩ | omega | decide)⟩ ?_
      refine ru_S hV [.long _] sSX4_51 (qX5_oddTurns l hp hx I L) rfl rfl rfl (Nat.le_of_ble_eq_true rfl) ?_
      have fin : ∀ o : Bool, o = odT (2 ^ q) (b ^^^ 2 ^ q) → vaA (I c) b (L v) q + sg o (L v q * (I c (b ^^^ 2 ^ q)).toInt64) = vaA (I c) b (L v) (q + 1) := fun o ho => by
        simp only [vaA, sumL, h, if_true, ho]
      cases ho : odT (2 ^ q) (b ^^^ 2 ^ q) with
      | false =>
        refine ru_go hV 6 [(1, 0)] rfl rfl ⟨trivial, (by first | exact rfl | assumption | exact ⟨rfl, rfl⟩ | exact ⟨rfl, rfl, by omega⟩ | exact ⟨by assumption, rfl, by omega⟩ | exact ⟨⟨_, rfl, rfl⟩, by decide, by decide, rfl, by omega⟩ | omega | decide)⟩ ?_
        rw [nI_1]
        refine ru_sub hV [0, 1, 2, 3, 4, 5] rfl ?_
        rw [← fin false ho.symm] at ih
        exact ih
      | true =>
        refine ru_go hV 8 [(0, 0)] rfl rfl ⟨trivial, (by first | exact rfl | assumption | exact ⟨rfl, rfl⟩ | exact ⟨rfl, rfl, by omega⟩ | exact ⟨by assumption, rfl, by omega⟩ | exact ⟨⟨_, rfl, rfl⟩, by decide, by decide, rfl, by omega⟩ | omega | decide)⟩ ?_
        rw [nI_1]
        refine ru_sub hV [0, 1, 2, 3, 4, 5] rfl ?_
        rw [← fin true ho.symm] at ih
        exact ih
    · refine ru_go hV 6 [(1, 0)] rfl rfl ⟨trivial, (tb_and b hb q hq5).mpr (by simpa using h)⟩ ?_
      rw [nI_1]
      refine ru_sub hV [0, 1, 2, 3, 4, 5] rfl ?_
      have e : vaA (I c) b (L v) (q + 1) = vaA (I c) b (L v) q := by
        simp only [vaA, sumL, h]
        exact Int64.add_zero _
      rw [e] at ih
      exact ih
  · refine ru_fin hV 5 [(1, 0)] rfl rfl ⟨trivial, nI_le (Nat.le_refl n) (by omega)⟩ ?_
    exact ⟨rfl, rfl, rfl⟩
/-- the row cleared, before its divisor -/
def clR (V : VM) (w : Nat → Int64) (p q k : Nat) : Int64 := labs (w q) * V p k - (if w q < 0 then -(w p) else w p) * V q k
def clD (r : Nat → Int64) : Nat → Int64
  | 0 => 0
  | k + 1 => cdG (clD r k) (labs (r k))
def clV (V : VM) (w : Nat → Int64) (p q n : Nat) : VM := fun a k => if w p ≠ 0 ∧ a = p ∧ k < n then (if 1 < clD (clR V w p q) n then clR V w p q k / clD (clR V w p q) n else clR V w p q k) else V a k
theorem qX4_clearWith (l : Launch) {n p q : Nat} (hn : n ≤ 5) (hp : p < 5) (hq : q < 5) (hpq : p ≠ q) (I : IM) {L : LM} {V0 : VM} {w : Nat → Int64} : KX4_clearWith l [.ref 171, .int (nI p), .int (nI q), .int (nI n)] I (knL L V0 w) none I (knL L (clV V0 w p q n) w) := by
  refine wX4_clearWith l rfl (hz0 (by decide)) (fun V hV => ?_)
  have hkw : kdC 178 = (2, 5, 0) := rfl
  by_cases h0 : w p = 0
  · refine ru_fin hV 8 [(178, 0), (p, 5), (0, 0)] rfl rfl ⟨⟨⟨trivial, (by first | exact rfl | assumption | exact ⟨rfl, rfl⟩ | exact ⟨rfl, rfl, by omega⟩ | exact ⟨by assumption, rfl, by omega⟩ | exact ⟨⟨_, rfl, rfl⟩, by decide, by decide, rfl, by omega⟩ | omega | decide)⟩, (by first | exact rfl | assumption | exact ⟨rfl, rfl⟩ | exact ⟨rfl, rfl, by omega⟩ | exact ⟨by assumption, rfl, by omega⟩ | exact ⟨⟨_, rfl, rfl⟩, by decide, by decide, rfl, by omega⟩ | omega | decide)⟩, (fun e => e ((lg_cmp_eq _ _).mpr (by rw [kn_w hp]; exact h0)))⟩ ?_
    exact ⟨rfl, rfl, kn_cong (fun a k _ _ => by simp [clV, h0]) (fun _ _ => rfl)⟩
  · refine ru_go hV 11 [(178, 0), (p, 5), (1, 0), (178, 0), (q, 5)] rfl rfl ⟨⟨⟨⟨⟨trivial, (by first | exact rfl | assumption | exact ⟨rfl, rfl⟩ | exact ⟨rfl, rfl, by omega⟩ | exact ⟨by assumption, rfl, by omega⟩ | exact ⟨⟨_, rfl, rfl⟩, by decide, by decide, rfl, by omega⟩ | omega | decide)⟩, (by first | exact rfl | assumption | exact ⟨rfl, rfl⟩ | exact ⟨rfl, rfl, by omega⟩ | exact ⟨by assumption, rfl, by omega⟩ | exact ⟨⟨_, rfl, rfl⟩, by decide, by decide, rfl, by omega⟩ | omega | decide)⟩, (fun e => h0 (by rw [kn_w hp] at e; exact (lg_cmp_eq _ _).mp e))⟩, (by first | exact rfl | assumption | exact ⟨rfl, rfl⟩ | exact ⟨rfl, rfl, by omega⟩ | exact ⟨by assumption, rfl, by omega⟩ | exact ⟨⟨_, rfl, rfl⟩, by decide, by decide, rfl, by omega⟩ | omega | decide)⟩, (by first | exact rfl | assumption | exact ⟨rfl, rfl⟩ | exact ⟨rfl, rfl, by omega⟩ | exact ⟨by assumption, rfl, by omega⟩ | exact ⟨⟨_, rfl, rfl⟩, by decide, by decide, rfl, by omega⟩ | omega | decide)⟩ ?_
    rw [kn_w hq]
    refine ru_S hV [] sSX4_57 (qJ9_labs l (w q) I _) rfl rfl rfl (Nat.le_of_ble_eq_true rfl) ?_
    have lp1 : V 52 [(0, .ref 171), (1, .int (nI p)), (2, .int (nI q)), (3, .int (nI n)), (4, .long (labs (w q))), (6, .long (if w q < 0 then -(w p) else w p))] [] I (knL L V0 w) → V 21 [(0, .ref 171), (1, .int (nI p)), (2, .int (nI q)), (3, .int (nI n))] [.long (labs (w q))] I (knL L V0 w) := fun h => by
      by_cases h1 : w q < 0
      · rw [if_pos h1] at h
        refine ru_go hV 15 [(178, 0), (q, 5), (0, 0), (178, 0), (p, 5)] rfl rfl ⟨⟨⟨⟨⟨trivial, (by first | exact rfl | assumption | exact ⟨rfl, rfl⟩ | exact ⟨rfl, rfl, by omega⟩ | exact ⟨by assumption, rfl, by omega⟩ | exact ⟨⟨_, rfl, rfl⟩, by decide, by decide, rfl, by omega⟩ | omega | decide)⟩, (by first | exact rfl | assumption | exact ⟨rfl, rfl⟩ | exact ⟨rfl, rfl, by omega⟩ | exact ⟨by assumption, rfl, by omega⟩ | exact ⟨⟨_, rfl, rfl⟩, by decide, by decide, rfl, by omega⟩ | omega | decide)⟩, (fun e => by rw [kn_w hq] at e; exact absurd h1 (lg_le_not_lt ((lg_cmp_ge _ _).mp e)))⟩, (by first | exact rfl | assumption | exact ⟨rfl, rfl⟩ | exact ⟨rfl, rfl, by omega⟩ | exact ⟨by assumption, rfl, by omega⟩ | exact ⟨⟨_, rfl, rfl⟩, by decide, by decide, rfl, by omega⟩ | omega | decide)⟩, (by first | exact rfl | assumption | exact ⟨rfl, rfl⟩ | exact ⟨rfl, rfl, by omega⟩ | exact ⟨by assumption, rfl, by omega⟩ | exact ⟨⟨_, rfl, rfl⟩, by decide, by decide, rfl, by omega⟩ | omega | decide)⟩ ?_
        rw [kn_w hp]
        exact h
      · rw [if_neg h1] at h
        refine ru_go hV 13 [(178, 0), (q, 5), (1, 0), (178, 0), (p, 5)] rfl rfl ⟨⟨⟨⟨⟨trivial, (by first | exact rfl | assumption | exact ⟨rfl, rfl⟩ | exact ⟨rfl, rfl, by omega⟩ | exact ⟨by assumption, rfl, by omega⟩ | exact ⟨⟨_, rfl, rfl⟩, by decide, by decide, rfl, by omega⟩ | omega | decide)⟩, (by first | exact rfl | assumption | exact ⟨rfl, rfl⟩ | exact ⟨rfl, rfl, by omega⟩ | exact ⟨by assumption, rfl, by omega⟩ | exact ⟨⟨_, rfl, rfl⟩, by decide, by decide, rfl, by omega⟩ | omega | decide)⟩, (by rw [kn_w hq]; exact (lg_cmp_ge _ _).mpr (Int64.not_lt.mp h1))⟩, (by first | exact rfl | assumption | exact ⟨rfl, rfl⟩ | exact ⟨rfl, rfl, by omega⟩ | exact ⟨by assumption, rfl, by omega⟩ | exact ⟨⟨_, rfl, rfl⟩, by decide, by decide, rfl, by omega⟩ | omega | decide)⟩, (by first | exact rfl | assumption | exact ⟨rfl, rfl⟩ | exact ⟨rfl, rfl, by omega⟩ | exact ⟨by assumption, rfl, by omega⟩ | exact ⟨⟨_, rfl, rfl⟩, by decide, by decide, rfl, by omega⟩ | omega | decide)⟩ ?_
        rw [kn_w hp]
        exact h
    refine lp1 ?_
    refine ru_go hV 4 [] rfl rfl trivial ?_
    refine loop0 (P := fun k => V 58 [(0, .ref 171), (1, .int (nI p)), (2, .int (nI q)), (3, .int (nI n)), (4, .long (labs (w q))), (6, .long (if w q < 0 then -(w p) else w p)), (8, .long (clD (clR V0 w p q) k)), (10, .int (nI k))] [] I (knL L (fun a j => if a = p ∧ j < k then clR V0 w p q j else V0 a j) w)) n (fun h => by
      rw [kn_cong (V' := V0) (w' := w) (fun a k _ _ => if_neg (by omega)) (fun _ _ => rfl)] at h
      exact h) (fun k hk ih => ?_) ?_
    · have hk5 : k < 5 := by omega
      have kvp := kd_kv p hp
      have kvq := kd_kv q hq
      refine ru_go hV 25 [(0, 0), (172, 0), (p, 5), ((173+p), 6), (172, 0), (p, 5), ((173+p), 6), (k, 5), (172, 0), (q, 5), ((173+q), 6), (k, 5)] rfl rfl ⟨⟨⟨⟨⟨⟨⟨⟨⟨trivial, nI_nge hk (by omega)⟩, (by first | exact rfl | assumption | exact ⟨rfl, rfl⟩ | exact ⟨rfl, rfl, by omega⟩ | exact ⟨by assumption, rfl, by omega⟩ | exact ⟨⟨_, rfl, rfl⟩, by decide, by decide, rfl, by omega⟩ | omega | decide)⟩, kk_v hp⟩, (by first | exact rfl | assumption | exact ⟨rfl, rfl⟩ | exact ⟨rfl, rfl, by omega⟩ | exact ⟨by assumption, rfl, by omega⟩ | exact ⟨⟨_, rfl, rfl⟩, by decide, by decide, rfl, by omega⟩ | omega | decide)⟩, kk_v hp⟩, (by first | exact rfl | assumption | exact ⟨rfl, rfl⟩ | exact ⟨rfl, rfl, by omega⟩ | exact ⟨by assumption, rfl, by omega⟩ | exact ⟨⟨_, rfl, rfl⟩, by decide, by decide, rfl, by omega⟩ | omega | decide)⟩, (by first | exact rfl | assumption | exact ⟨rfl, rfl⟩ | exact ⟨rfl, rfl, by omega⟩ | exact ⟨by assumption, rfl, by omega⟩ | exact ⟨⟨_, rfl, rfl⟩, by decide, by decide, rfl, by omega⟩ | omega | decide)⟩, kk_v hq⟩, (by first | exact rfl | assumption | exact ⟨rfl, rfl⟩ | exact ⟨rfl, rfl, by omega⟩ | exact ⟨by assumption, rfl, by omega⟩ | exact ⟨⟨_, rfl, rfl⟩, by decide, by decide, rfl, by omega⟩ | omega | decide)⟩ ?_
      rw [kn_v hp hk5, kn_v hq hk5, if_neg (show ¬ (p = p ∧ k < k) by omega), if_neg (show ¬ (q = p ∧ k < k) by omega)]
      have e : mu (knL L (fun a j => if a = p ∧ j < k then clR V0 w p q j else V0 a j) w) (173 + p) k (labs (w q) * V0 p k - (if w q < 0 then -(w p) else w p) * V0 q k) = knL L (fun a j => if a = p ∧ j < k + 1 then clR V0 w p q j else V0 a j) w := by
        rw [kn_mv hp hk5]
        refine kn_cong (fun a j _ _ => ?_) (fun _ _ => rfl)
        unfold mu
        dsimp only
        by_cases h : a = p ∧ j = k
        · obtain ⟨rfl, rfl⟩ := h
          rw [if_pos ⟨rfl, rfl⟩, if_pos (show a = a ∧ j < j + 1 by omega)]
          rfl
        · rw [if_neg h]
          by_cases h2 : a = p ∧ j < k
          · rw [if_pos h2, if_pos (show a = p ∧ j < k + 1 by omega)]
          · rw [if_neg h2, if_neg (show ¬ (a = p ∧ j < k + 1) by omega)]
      refine ru_go hV 8 [(k, 5), (172, 0), (p, 5), ((173+p), 6), (k, 5)] rfl rfl ⟨⟨⟨⟨trivial, (by first | exact rfl | assumption | exact ⟨rfl, rfl⟩ | exact ⟨rfl, rfl, by omega⟩ | exact ⟨by assumption, rfl, by omega⟩ | exact ⟨⟨_, rfl, rfl⟩, by decide, by decide, rfl, by omega⟩ | omega | decide)⟩, (by first | exact rfl | assumption | exact ⟨rfl, rfl⟩ | exact ⟨rfl, rfl, by omega⟩ | exact ⟨by assumption, rfl, by omega⟩ | exact ⟨⟨_, rfl, rfl⟩, by decide, by decide, rfl, by omega⟩ | omega | decide)⟩, kk_v hp⟩, (by first | exact rfl | assumption | exact ⟨rfl, rfl⟩ | exact ⟨rfl, rfl, by omega⟩ | exact ⟨by assumption, rfl, by omega⟩ | exact ⟨⟨_, rfl, rfl⟩, by decide, by decide, rfl, by omega⟩ | omega | decide)⟩ ?_
      rw [e, kn_v hp hk5, if_pos (show p = p ∧ k < k + 1 by omega)]
      refine ru_S hV [.long _] sSX4_57 (qJ9_labs l (clR V0 w p q k) I _) rfl rfl rfl (Nat.le_of_ble_eq_true rfl) ?_
      refine ru_S hV [] sSX4_63 (qX4_commonDivisor l (clD (clR V0 w p q) k) (labs (clR V0 w p q k)) I _) rfl rfl rfl (Nat.le_of_ble_eq_true rfl) ?_
      refine ru_go hV 3 [] rfl rfl trivial ?_
      rw [nI_1]
      exact ih
    · refine ru_go hV 5 [(1, 0)] rfl rfl ⟨trivial, nI_le (Nat.le_refl n) (by omega)⟩ ?_
      by_cases h1 : 1 < clD (clR V0 w p q) n
      · have hd0 : ¬ clD (clR V0 w p q) n = 0 := fun e => by rw [e] at h1; exact absurd h1 (by decide)
        refine loop0 (P := fun k => V 126 [(0, .ref 171), (1, .int (nI p)), (2, .int (nI q)), (3, .int (nI n)), (4, .long (labs (w q))), (6, .long (if w q < 0 then -(w p) else w p)), (8, .long (clD (clR V0 w p q) n)), (10, .int (nI k))] [] I (knL L (fun a j => if a = p ∧ j < k then clR V0 w p q j / clD (clR V0 w p q) n else if a = p ∧ j < n then clR V0 w p q j else V0 a j) w)) n (fun h => by
          rw [kn_cong (V' := fun a j => if a = p ∧ j < n then clR V0 w p q j else V0 a j) (w' := w) (fun a k _ _ => if_neg (by omega)) (fun _ _ => rfl)] at h
          exact h) (fun k hk ih => ?_) ?_
        · have hk5 : k < 5 := by omega
          have kvp := kd_kv p hp
          refine ru_go hV 19 [(0, 0), (0, 0), (172, 0), (p, 5), ((173+p), 6), (k, 5), (k, 5)] rfl rfl ⟨⟨⟨⟨⟨⟨⟨trivial, nI_nge hk (by omega)⟩, (fun e => absurd ((lg_cmp_le _ _).mp e) (lg_lt_not_le h1))⟩, (by first | exact rfl | assumption | exact ⟨rfl, rfl⟩ | exact ⟨rfl, rfl, by omega⟩ | exact ⟨by assumption, rfl, by omega⟩ | exact ⟨⟨_, rfl, rfl⟩, by decide, by decide, rfl, by omega⟩ | omega | decide)⟩, kk_v hp⟩, (by first | exact rfl | assumption | exact ⟨rfl, rfl⟩ | exact ⟨rfl, rfl, by omega⟩ | exact ⟨by assumption, rfl, by omega⟩ | exact ⟨⟨_, rfl, rfl⟩, by decide, by decide, rfl, by omega⟩ | omega | decide)⟩, hd0⟩, (by first | exact rfl | assumption | exact ⟨rfl, rfl⟩ | exact ⟨rfl, rfl, by omega⟩ | exact ⟨by assumption, rfl, by omega⟩ | exact ⟨⟨_, rfl, rfl⟩, by decide, by decide, rfl, by omega⟩ | omega | decide)⟩ ?_
          rw [nI_1, kn_v hp hk5, if_neg (show ¬ (p = p ∧ k < k) by omega), if_pos (show p = p ∧ k < n by omega), kn_mv hp hk5, kn_cong (V' := fun a j => if a = p ∧ j < k + 1 then clR V0 w p q j / clD (clR V0 w p q) n else if a = p ∧ j < n then clR V0 w p q j else V0 a j) (w' := w) (fun a j _ _ => ?_) (fun _ _ => rfl)]
          · exact ih
          · unfold mu
            dsimp only
            by_cases h : a = p ∧ j = k
            · obtain ⟨rfl, rfl⟩ := h
              rw [if_pos ⟨rfl, rfl⟩, if_pos (show a = a ∧ j < j + 1 by omega)]
            · rw [if_neg h]
              by_cases h2 : a = p ∧ j < k
              · rw [if_pos h2, if_pos (show a = p ∧ j < k + 1 by omega)]
              · rw [if_neg h2, if_neg (show ¬ (a = p ∧ j < k + 1) by omega)]
        · refine ru_fin hV 4 [(1, 0)] rfl rfl ⟨trivial, nI_le (Nat.le_refl n) (by omega)⟩ ?_
          refine ⟨rfl, rfl, kn_cong (fun a j _ _ => ?_) (fun _ _ => rfl)⟩
          dsimp only [clV]
          by_cases h2 : a = p ∧ j < n
          · rw [if_pos h2, if_pos ⟨h0, h2⟩, if_pos h1]
          · rw [if_neg h2, if_neg h2, if_neg (fun e => h2 e.2)]
      · have fin : knL L (fun a j => if a = p ∧ j < n then clR V0 w p q j else V0 a j) w = knL L (clV V0 w p q n) w := by
          refine kn_cong (fun a j _ _ => ?_) (fun _ _ => rfl)
          dsimp only [clV]
          by_cases h2 : a = p ∧ j < n
          · rw [if_pos h2, if_pos ⟨h0, h2⟩, if_neg h1]
          · rw [if_neg h2, if_neg (fun e => h2 e.2)]
        rw [fin]
        by_cases hn0 : n = 0
        · subst hn0
          refine ru_fin hV 4 [(1, 0)] rfl rfl ⟨trivial, nI_le (a := 0) (b := 0) (Nat.le_refl 0) (by decide)⟩ ?_
          exact ⟨rfl, rfl, rfl⟩
        · refine ru_fin hV 8 [(0, 0), (1, 0)] rfl rfl ⟨⟨trivial, nI_nge (i := 0) (by omega) (by omega)⟩, (lg_cmp_le _ _).mpr (Int64.not_lt.mp h1)⟩ ?_
          exact ⟨rfl, rfl, rfl⟩
def rmV (V : VM) (q z n : Nat) : VM := fun a k => if q ≤ a ∧ a + 1 < z ∧ k < n then V (a + 1) k else V a k
theorem qX4_removeVector (l : Launch) {n q z : Nat} (hn : n ≤ 5) (hq : q < z) (hz : z ≤ 5) {I : IM} (hI : I 171 2 = nI z) {L : LM} {V0 : VM} {w : Nat → Int64} : KX4_removeVector l [.ref 171, .int (nI q), .int (nI n)] I (knL L V0 w) none (mu I 171 2 (nI (z - 1))) (knL L (rmV V0 q z n) w) := by
  obtain ⟨y, rfl⟩ : ∃ y, z = y + 1 := ⟨z - 1, by omega⟩
  refine wX4_removeVector l rfl (hz0 (by decide)) (fun V hV => ?_)
  refine ru_go hV 8 [] rfl rfl ⟨⟨trivial, (by first | exact rfl | assumption | exact ⟨rfl, rfl⟩ | exact ⟨rfl, rfl, by omega⟩ | exact ⟨by assumption, rfl, by omega⟩ | exact ⟨⟨_, rfl, rfl⟩, by decide, by decide, rfl, by omega⟩ | omega | decide)⟩, (by first | exact rfl | assumption | exact ⟨rfl, rfl⟩ | exact ⟨rfl, rfl, by omega⟩ | exact ⟨by assumption, rfl, by omega⟩ | exact ⟨⟨_, rfl, rfl⟩, by decide, by decide, rfl, by omega⟩ | omega | decide)⟩ ?_
  rw [hI, nI_pred]
  refine loop0 (P := fun i => V 12 [(0, .ref 171), (1, .int (nI q)), (2, .int (nI n)), (3, .int (nI (q + i)))] [] (mu I 171 2 (nI y)) (knL L (fun a k => if q ≤ a ∧ a < q + i ∧ k < n then V0 (a + 1) k else V0 a k) w)) (y - q) (fun h => by
    rw [kn_cong (V' := V0) (w' := w) (fun a k _ _ => if_neg (by omega)) (fun _ _ => rfl)] at h
    exact h) (fun i hi ih => ?_) ?_
  · refine ru_go hV 17 [(0, 0), (172, 0), ((q+i+1), 5), ((173+(q+i+1)), 6), (172, 0), ((q+i), 5), ((173+(q+i)), 6)] rfl rfl ⟨⟨⟨⟨⟨⟨trivial, (by first | exact rfl | assumption | exact ⟨rfl, rfl⟩ | exact ⟨rfl, rfl, by omega⟩ | exact ⟨by assumption, rfl, by omega⟩ | exact ⟨⟨_, rfl, rfl⟩, by decide, by decide, rfl, by omega⟩ | omega | decide)⟩, (by show ¬ nI y ≤ nI (q + i); exact nI_nge (by omega) (by omega))⟩, (by first | exact rfl | assumption | exact ⟨rfl, rfl⟩ | exact ⟨rfl, rfl, by omega⟩ | exact ⟨by assumption, rfl, by omega⟩ | exact ⟨⟨_, rfl, rfl⟩, by decide, by decide, rfl, by omega⟩ | omega | decide)⟩, (by rw [nI_1]; exact kk_v (by omega))⟩, (by first | exact rfl | assumption | exact ⟨rfl, rfl⟩ | exact ⟨rfl, rfl, by omega⟩ | exact ⟨by assumption, rfl, by omega⟩ | exact ⟨⟨_, rfl, rfl⟩, by decide, by decide, rfl, by omega⟩ | omega | decide)⟩, kk_v (by omega)⟩ ?_
    refine ru_cL hV (n := n) (rest := []) sNX4_67 (kd_kv (q + i + 1) (by omega)) (kd_kv (q + i) (by omega)) hn hn rfl (by decide +kernel) rfl ?_
    rw [kn_cp (by omega) hn]
    refine ru_go hV 2 [] rfl rfl trivial ?_
    rw [nI_1, kn_cong (V' := fun a k => if q ≤ a ∧ a < q + (i + 1) ∧ k < n then V0 (a + 1) k else V0 a k) (w' := w) (fun a k _ _ => ?_) (fun _ _ => rfl)]
    · exact ih
    · by_cases h : a = q + i ∧ k < n
      · rw [if_pos h, if_neg (show ¬ (q ≤ q + i + 1 ∧ q + i + 1 < q + i ∧ k < n) by omega), if_pos (show q ≤ a ∧ a < q + (i + 1) ∧ k < n by omega), h.1]
      · rw [if_neg h]
        by_cases h2 : q ≤ a ∧ a < q + i ∧ k < n
        · rw [if_pos h2, if_pos (show q ≤ a ∧ a < q + (i + 1) ∧ k < n by omega)]
        · rw [if_neg h2, if_neg (show ¬ (q ≤ a ∧ a < q + (i + 1) ∧ k < n) by omega)]
  · refine ru_fin hV 5 [(1, 0)] rfl rfl ⟨⟨trivial, (by first | exact rfl | assumption | exact ⟨rfl, rfl⟩ | exact ⟨rfl, rfl, by omega⟩ | exact ⟨by assumption, rfl, by omega⟩ | exact ⟨⟨_, rfl, rfl⟩, by decide, by decide, rfl, by omega⟩ | omega | decide)⟩, (by show nI y ≤ nI (q + (y - q)); exact nI_le (by omega) (by omega))⟩ ?_
    refine ⟨rfl, rfl, kn_cong (fun a k _ _ => ?_) (fun _ _ => rfl)⟩
    dsimp only [rmV]
    by_cases h2 : q ≤ a ∧ a < q + (y - q) ∧ k < n
    · rw [if_pos h2, if_pos (show q ≤ a ∧ a + 1 < y + 1 ∧ k < n by omega)]
    · rw [if_neg h2, if_neg (show ¬ (q ≤ a ∧ a + 1 < y + 1 ∧ k < n) by omega)]
def laO (w : Nat → Int64) : Nat → Option Nat
  | 0 => none
  | k + 1 => if w k = 0 then laO w k else some k
def laI (w : Nat → Int64) (k : Nat) : Int32 := match laO w k with
  | none => -1
  | some q => nI q
theorem laO_lt {w : Nat → Int64} : ∀ {z q : Nat}, laO w z = some q → q < z ∧ w q ≠ 0 ∧ ∀ j, q < j → j < z → w j = 0
  | 0, _, h => by cases h
  | k + 1, q, h => by
    unfold laO at h
    by_cases e : w k = 0
    · rw [if_pos e] at h
      obtain ⟨h1, h2, h3⟩ := laO_lt h
      refine ⟨by omega, h2, fun j hj hz => ?_⟩
      by_cases hjk : j = k
      · subst hjk; exact e
      · exact h3 j hj (by omega)
    · rw [if_neg e] at h
      cases h
      exact ⟨by omega, e, fun j h1 h2 => absurd h1 (by omega)⟩
theorem laO_cong {w w' : Nat → Int64} : ∀ {z : Nat}, (∀ j, j < z → w j = w' j) → laO w z = laO w' z
  | 0, _ => rfl
  | k + 1, h => by
    unfold laO
    rw [h k (by omega), laO_cong (z := k) (fun j hj => h j (by omega))]
abbrev Kn : Type := Nat × VM × (Nat → Int64)
def cuW (f : Nat → Int32) (b : Nat) (V : VM) (w : Nat → Int64) (n z : Nat) : Nat → Int64 := fun j => if j < z then vaA f b (V j) n else w j
def clA (V : VM) (w : Nat → Int64) (q n : Nat) : Nat → VM
  | 0 => V
  | p + 1 => clV (clA V w q n p) w p q n
def cuR (V : VM) (w : Nat → Int64) (n z : Nat) : Option Nat → Kn
  | none => (z, V, w)
  | some q => (z - 1, rmV (clA V w q n q) q z n, w)
def cuS (f : Nat → Int32) (b n : Nat) (s : Kn) : Kn := cuR s.2.1 (cuW f b s.2.1 s.2.2 n s.1) n s.1 (laO (cuW f b s.2.1 s.2.2 n s.1) s.1)
theorem cuS_le (f : Nat → Int32) (b n : Nat) (s : Kn) : (cuS f b n s).1 ≤ s.1 := by
  unfold cuS
  cases laO (cuW f b s.2.1 s.2.2 n s.1) s.1 with
  | none => exact Nat.le_refl _
  | some q => exact Nat.sub_le _ _
theorem vaA_cong {f : Nat → Int32} {b n : Nat} {v v' : Nat → Int64} (h : ∀ k, k < n → v k = v' k) : vaA f b v n = vaA f b v' n := sumL_cong (fun k hk => by rw [h k hk])
theorem mu_mu {α : Type} {f : Nat → Nat → α} {c j : Nat} {v v' : α} : mu (mu f c j v) c j v' = mu f c j v' := by
  funext a k
  unfold mu
  split <;> rfl
theorem mu_id {α : Type} {f : Nat → Nat → α} {c j : Nat} {v : α} (h : f c j = v) : mu f c j v = f := by
  funext a k
  unfold mu
  split
  · rename_i e; rw [e.1, e.2, h]
  · rfl
theorem mu_at {α : Type} {f : Nat → Nat → α} {c j : Nat} {v : α} : mu f c j v c j = v := if_pos ⟨rfl, rfl⟩
theorem qX4_cut (l : Launch) {c b n : Nat} {s : Kn} (hc : kdC c = (1, 32, 0)) (hn : n ≤ 5) (hb : b < 32) (hz : s.1 ≤ 5) {I : IM} (hI : I 171 2 = nI s.1) {L : LM} : KX4_cut l [.ref 171, .ref c, .int (nI b), .int (nI n)] I (knL L s.2.1 s.2.2) none (mu I 171 2 (nI (cuS (I c) b n s).1)) (knL L (cuS (I c) b n s).2.1 (cuS (I c) b n s).2.2) := by
  obtain ⟨z, V0, w0⟩ := s
  refine wX4_cut l rfl (hz0 (by decide)) (fun V hV => ?_)
  have hI' : I 171 2 = nI z := hI
  have hz' : z ≤ 5 := hz
  refine ru_go hV 4 [] rfl rfl trivial ?_
  refine loop0 (P := fun p => V 6 [(0, .ref 171), (1, .ref c), (2, .int (nI b)), (3, .int (nI n)), (4, .int (laI (cuW (I c) b V0 w0 n p) p)), (5, .int (nI p))] [] I (knL L V0 (cuW (I c) b V0 w0 n p))) z (fun h => by
    rw [kn_cong (w := cuW (I c) b V0 w0 n 0) (V' := V0) (w' := w0) (fun _ _ _ _ => rfl) (fun j _ => if_neg (by omega))] at h
    exact h) (fun p hp ih => ?_) ?_
  · have hp5 : p < 5 := by omega
    refine ru_go hV 14 [(0, 0), (178, 0), (172, 0), (p, 5), ((173+p), 6)] rfl rfl ⟨⟨⟨⟨⟨trivial, (by first | exact rfl | assumption | exact ⟨rfl, rfl⟩ | exact ⟨rfl, rfl, by omega⟩ | exact ⟨by assumption, rfl, by omega⟩ | exact ⟨⟨_, rfl, rfl⟩, by decide, by decide, rfl, by omega⟩ | omega | decide)⟩, (by rw [hI']; exact nI_nge hp (by omega))⟩, (by first | exact rfl | assumption | exact ⟨rfl, rfl⟩ | exact ⟨rfl, rfl, by omega⟩ | exact ⟨by assumption, rfl, by omega⟩ | exact ⟨⟨_, rfl, rfl⟩, by decide, by decide, rfl, by omega⟩ | omega | decide)⟩, (by first | exact rfl | assumption | exact ⟨rfl, rfl⟩ | exact ⟨rfl, rfl, by omega⟩ | exact ⟨by assumption, rfl, by omega⟩ | exact ⟨⟨_, rfl, rfl⟩, by decide, by decide, rfl, by omega⟩ | omega | decide)⟩, kk_v hp5⟩ ?_
    refine ru_S hV [.int _, .ref _] sSX4_39 (qX4_valueAt l hc (kd_kv p hp5) hb hn I _) rfl rfl rfl (Nat.le_of_ble_eq_true rfl) ?_
    have ev : vaA (I c) b (knL L V0 (cuW (I c) b V0 w0 n p) (173 + p)) n = cuW (I c) b V0 w0 n (p + 1) p := by
      rw [show cuW (I c) b V0 w0 n (p + 1) p = vaA (I c) b (V0 p) n from if_pos (by omega)]
      exact vaA_cong (fun k hk => kn_v hp5 (by omega))
    have em : mu (knL L V0 (cuW (I c) b V0 w0 n p)) 178 p (cuW (I c) b V0 w0 n (p + 1) p) = knL L V0 (cuW (I c) b V0 w0 n (p + 1)) := by
      rw [kn_mw hp5]
      refine kn_cong (fun _ _ _ _ => rfl) (fun j _ => ?_)
      by_cases h : j = p
      · subst h; exact if_pos rfl
      · rw [if_neg h]
        unfold cuW
        by_cases h2 : j < p
        · rw [if_pos h2, if_pos (by omega)]
        · rw [if_neg h2, if_neg (by omega)]
    have ec : laO (cuW (I c) b V0 w0 n p) p = laO (cuW (I c) b V0 w0 n (p + 1)) p := laO_cong (fun j hj => by
      unfold cuW
      rw [if_pos hj, if_pos (by omega)])
    rw [ev]
    by_cases h0 : cuW (I c) b V0 w0 n (p + 1) p = 0
    · have el : laI (cuW (I c) b V0 w0 n p) p = laI (cuW (I c) b V0 w0 n (p + 1)) (p + 1) := by
        unfold laI
        rw [ec]
        conv => rhs; unfold laO
        rw [if_pos h0]
      refine ru_go hV 10 [(p, 5), (178, 0), (p, 5), (1, 0)] rfl rfl ⟨⟨⟨⟨trivial, (by first | exact rfl | assumption | exact ⟨rfl, rfl⟩ | exact ⟨rfl, rfl, by omega⟩ | exact ⟨by assumption, rfl, by omega⟩ | exact ⟨⟨_, rfl, rfl⟩, by decide, by decide, rfl, by omega⟩ | omega | decide)⟩, (by first | exact rfl | assumption | exact ⟨rfl, rfl⟩ | exact ⟨rfl, rfl, by omega⟩ | exact ⟨by assumption, rfl, by omega⟩ | exact ⟨⟨_, rfl, rfl⟩, by decide, by decide, rfl, by omega⟩ | omega | decide)⟩, (by first | exact rfl | assumption | exact ⟨rfl, rfl⟩ | exact ⟨rfl, rfl, by omega⟩ | exact ⟨by assumption, rfl, by omega⟩ | exact ⟨⟨_, rfl, rfl⟩, by decide, by decide, rfl, by omega⟩ | omega | decide)⟩, (by rw [em, kn_w hp5, h0]; decide)⟩ ?_
      rw [nI_1, em, el]
      exact ih
    · have el : laI (cuW (I c) b V0 w0 n (p + 1)) (p + 1) = nI p := by
        unfold laI
        conv => lhs; unfold laO
        rw [if_neg h0]
      refine ru_go hV 12 [(p, 5), (178, 0), (p, 5), (0, 0)] rfl rfl ⟨⟨⟨⟨trivial, (by first | exact rfl | assumption | exact ⟨rfl, rfl⟩ | exact ⟨rfl, rfl, by omega⟩ | exact ⟨by assumption, rfl, by omega⟩ | exact ⟨⟨_, rfl, rfl⟩, by decide, by decide, rfl, by omega⟩ | omega | decide)⟩, (by first | exact rfl | assumption | exact ⟨rfl, rfl⟩ | exact ⟨rfl, rfl, by omega⟩ | exact ⟨by assumption, rfl, by omega⟩ | exact ⟨⟨_, rfl, rfl⟩, by decide, by decide, rfl, by omega⟩ | omega | decide)⟩, (by first | exact rfl | assumption | exact ⟨rfl, rfl⟩ | exact ⟨rfl, rfl, by omega⟩ | exact ⟨by assumption, rfl, by omega⟩ | exact ⟨⟨_, rfl, rfl⟩, by decide, by decide, rfl, by omega⟩ | omega | decide)⟩, (fun e => by rw [em, kn_w hp5] at e; exact h0 ((lg_cmp_eq _ _).mp e))⟩ ?_
      rw [nI_1, em, ← el]
      exact ih
  · have ecu : cuS (I c) b n (z, V0, w0) = cuR V0 (cuW (I c) b V0 w0 n z) n z (laO (cuW (I c) b V0 w0 n z) z) := rfl
    refine ru_go hV 4 [(1, 0)] rfl rfl ⟨⟨trivial, (by first | exact rfl | assumption | exact ⟨rfl, rfl⟩ | exact ⟨rfl, rfl, by omega⟩ | exact ⟨by assumption, rfl, by omega⟩ | exact ⟨⟨_, rfl, rfl⟩, by decide, by decide, rfl, by omega⟩ | omega | decide)⟩, (by rw [hI']; exact nI_le (Nat.le_refl z) (by omega))⟩ ?_
    cases hq : laO (cuW (I c) b V0 w0 n z) z with
    | none =>
      rw [show laI (cuW (I c) b V0 w0 n z) z = -1 by unfold laI; rw [hq]]
      rw [ecu, hq] at hV
      refine ru_fin hV 3 [(0, 0)] rfl rfl ⟨trivial, (by first | exact rfl | assumption | exact ⟨rfl, rfl⟩ | exact ⟨rfl, rfl, by omega⟩ | exact ⟨by assumption, rfl, by omega⟩ | exact ⟨⟨_, rfl, rfl⟩, by decide, by decide, rfl, by omega⟩ | omega | decide)⟩ ?_
      exact ⟨rfl, (mu_id hI').symm, rfl⟩
    | some q =>
      obtain ⟨hqz, -, -⟩ := laO_lt hq
      rw [show laI (cuW (I c) b V0 w0 n z) z = nI q by unfold laI; rw [hq]]
      rw [ecu, hq] at hV
      refine ru_go hV 4 [(1, 0)] rfl rfl ⟨trivial, nI_pos' (by omega)⟩ ?_
      refine loop0 (P := fun p => V 66 [(0, .ref 171), (1, .ref c), (2, .int (nI b)), (3, .int (nI n)), (4, .int (nI q)), (5, .int (nI p))] [] I (knL L (clA V0 (cuW (I c) b V0 w0 n z) q n p) (cuW (I c) b V0 w0 n z))) q (fun h => h) (fun p hp ih => ?_) ?_
      · refine ru_go hV 7 [(0, 0)] rfl rfl ⟨trivial, nI_nge hp (by omega)⟩ ?_
        refine ru_V hV [] sVX4_43 (qX4_clearWith l hn (by omega) (by omega) (by omega) I) rfl rfl rfl rfl rfl (Nat.le_of_ble_eq_true rfl) ?_
        refine ru_go hV 2 [] rfl rfl trivial ?_
        rw [nI_1]
        exact ih
      · refine ru_go hV 6 [(1, 0)] rfl rfl ⟨trivial, nI_le (Nat.le_refl q) (by omega)⟩ ?_
        refine ru_V hV [] sVX4_47 (qX4_removeVector l hn hqz hz' hI') rfl rfl rfl rfl rfl (Nat.le_of_ble_eq_true rfl) ?_
        refine ru_fin hV 1 [] rfl rfl trivial ?_
        exact ⟨rfl, rfl, rfl⟩
def fiS (f : Nat → Int32) (n : Nat) (V : VM) (w : Nat → Int64) : Nat → Kn
  | 0 => (n, stV n V, w)
  | b + 1 => cuS f (b + 1) n (fiS f n V w b)
theorem fiS_le (f : Nat → Int32) (n : Nat) (V : VM) (w : Nat → Int64) : ∀ b, (fiS f n V w b).1 ≤ n
  | 0 => Nat.le_refl _
  | b + 1 => Nat.le_trans (cuS_le f (b + 1) n _) (fiS_le f n V w b)
/-- what find leaves -/
def fiE (I : IM) (L : LM) (c n : Nat) : Kn := fiS (I c) n (fun p j => L (173 + p) j) (L 178) (2 ^ n - 1)
theorem qX4_find_n (l : Launch) {c n : Nat} (hc : kdC c = (1, 32, 0)) {I : IM} (hg : ¬ gmF (I c) 32 ≤ 60) (L : LM) : KX4_find l [.ref 171, .ref c, .int (nI n)] I L (some (.int NON)) I L := by
  refine wX4_find l rfl (hz0 (by decide)) (fun V hV => ?_)
  refine ru_go hV 1 [] rfl rfl trivial ?_
  refine ru_S hV [] sSX4_24 (qX2_greatestSize l hc I L) rfl rfl rfl (Nat.le_of_ble_eq_true rfl) ?_
  refine ru_fin hV 4 [(0, 0)] rfl rfl ⟨trivial, hg⟩ ?_
  exact ⟨rfl, rfl, rfl⟩
theorem qX4_find (l : Launch) {c n : Nat} (hc : kdC c = (1, 32, 0)) (hn : n ≤ 5) {I : IM} (hg : gmF (I c) 32 ≤ 60) (L : LM) : KX4_find l [.ref 171, .ref c, .int (nI n)] I L (some (.int (nI (fiE I L c n).1))) (mu I 171 2 (nI (fiE I L c n).1)) (knL L (fiE I L c n).2.1 (fiE I L c n).2.2) := by
  have hB := pow_le32 n hn
  have hc1 : c ≠ 171 := fun e => by subst e; cases hc
  refine wX4_find l rfl (hz0 (by decide)) (fun V hV => ?_)
  refine ru_go hV 1 [] rfl rfl trivial ?_
  refine ru_S hV [] sSX4_24 (qX2_greatestSize l hc I L) rfl rfl rfl (Nat.le_of_ble_eq_true rfl) ?_
  refine ru_go hV 4 [(1, 0)] rfl rfl ⟨trivial, hg⟩ ?_
  have est := qX4_startWithAll l hn I (L := L) (V0 := fun p j => L (173 + p) j) (w := L 178)
  rw [kn_id] at est
  refine ru_V hV [] sVX4_31 est rfl rfl rfl rfl rfl (Nat.le_of_ble_eq_true rfl) ?_
  refine ru_go hV 2 [] rfl rfl trivial ?_
  unfold fiE at hV
  refine loop0 (P := fun b => V 19 [(0, .ref 171), (1, .ref c), (2, .int (nI n)), (3, .int (nI (b + 1)))] [] (mu I 171 2 (nI (fiS (I c) n (fun p j => L (173 + p) j) (L 178) b).1)) (knL L (fiS (I c) n (fun p j => L (173 + p) j) (L 178) b).2.1 (fiS (I c) n (fun p j => L (173 + p) j) (L 178) b).2.2)) (2 ^ n - 1) (fun h => h) (fun b hb ih => ?_) ?_
  · refine ru_go hV 9 [(0, 0)] rfl rfl ⟨trivial, (by rw [bl_sh n hn]; exact nI_nge (by omega) (by omega))⟩ ?_
    have hcut := qX4_cut l (c := c) (b := b + 1) (n := n) (s := fiS (I c) n (fun p j => L (173 + p) j) (L 178) b) hc hn (by omega) (Nat.le_trans (fiS_le _ _ _ _ _) hn) (I := mu I 171 2 (nI (fiS (I c) n (fun p j => L (173 + p) j) (L 178) b).1)) mu_at (L := L)
    rw [mu_mu, mu_ne I _ hc1] at hcut
    refine ru_V hV [] sVX4_35 hcut rfl rfl rfl rfl rfl (Nat.le_of_ble_eq_true rfl) ?_
    refine ru_go hV 2 [] rfl rfl trivial ?_
    rw [nI_1]
    exact ih
  · refine ru_fin hV 8 [(1, 0)] rfl rfl ⟨⟨trivial, (by rw [bl_sh n hn]; exact nI_le (by omega) (by omega))⟩, (by first | exact rfl | assumption | exact ⟨rfl, rfl⟩ | exact ⟨rfl, rfl, by omega⟩ | exact ⟨by assumption, rfl, by omega⟩ | exact ⟨⟨_, rfl, rfl⟩, by decide, by decide, rfl, by omega⟩ | omega | decide)⟩ ?_
    refine ⟨?_, rfl, rfl⟩
    rw [mu_at]
    rfl
