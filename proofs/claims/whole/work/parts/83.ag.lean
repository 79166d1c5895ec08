/-! THE TWO SIDES: call for call -/
def SimE (I J : IM) : Prop := ∃ n o z q f, Sim I J n o z q f
theorem Sim.e {I J : IM} {n o z q : Nat} {f : Nat → Nat} (h : Sim I J n o z q f) : SimE I J := ⟨_, _, _, _, _, h⟩
theorem Sim.n2 {I J : IM} {n o z q : Nat} {f : Nat → Nat} (h : Sim I J n o z q f) : 2 ≤ n := h.1.1.1
theorem Sim.n5 {I J : IM} {n o z q : Nat} {f : Nat → Nat} (h : Sim I J n o z q f) : n ≤ 5 := h.1.1.2.1
theorem Sim.n0 {I J : IM} {n o z q : Nat} {f : Nat → Nat} (h : Sim I J n o z q f) : 0 < n := by have := h.1.1.1; omega
theorem Sim.d {I J : IM} {n o z q : Nat} {f : Nat → Nat} (h : Sim I J n o z q f) : I 1 0 = nI n := h.1.1.2.2.1
theorem Sim.jd {I J : IM} {n o z q : Nat} {f : Nat → Nat} (h : Sim I J n o z q f) : J 1 0 = nI n := h.1.1.2.2.2.1
theorem Sim.o6 {I J : IM} {n o z q : Nat} {f : Nat → Nat} (h : Sim I J n o z q f) : o < 6 := h.2.1.1
theorem Sim.z6 {I J : IM} {n o z q : Nat} {f : Nat → Nat} (h : Sim I J n o z q f) : z ≤ 6 := h.2.1.2.1
theorem Sim.h1 {I J : IM} {n o z q : Nat} {f : Nat → Nat} (h : Sim I J n o z q f) : I 19 1 = nI o := h.2.1.2.2.1
theorem Sim.h2 {I J : IM} {n o z q : Nat} {f : Nat → Nat} (h : Sim I J n o z q f) : I 19 2 = nI z := h.2.1.2.2.2.1
theorem Sim.j2 {I J : IM} {n o z q : Nat} {f : Nat → Nat} (h : Sim I J n o z q f) : J 0 2 = nI z := h.2.1.2.2.2.2
theorem Sim.q6 {I J : IM} {n o z q : Nat} {f : Nat → Nat} (h : Sim I J n o z q f) : q ≤ 60 := h.2.2.2.2.1.1
theorem Sim.b5 {I J : IM} {n o z q : Nat} {f : Nat → Nat} (h : Sim I J n o z q f) : I 0 5 = nI q := h.2.2.2.2.1.2.1
theorem Sim.j6 {I J : IM} {n o z q : Nat} {f : Nat → Nat} (h : Sim I J n o z q f) : J 0 6 = nI q := h.2.2.2.2.1.2.2.1
theorem Sim.bf {I J : IM} {n o z q : Nat} {f : Nat → Nat} (h : Sim I J n o z q f) : ∀ j, j < q → I 167 j = nI (f j) ∧ f j < 128 := fun j hj => ⟨(h.2.2.2.2.1.2.2.2 j hj).1, by have := (h.2.2.2.2.1.2.2.2 j hj).2.2.2; omega⟩
theorem Sim.jf {I J : IM} {n o z q : Nat} {f : Nat → Nat} (h : Sim I J n o z q f) : ∀ j, j < q → J 5 j = nI (f j) ∧ f j < 128 := fun j hj => ⟨(h.2.2.2.2.1.2.2.2 j hj).2.1, by have := (h.2.2.2.2.1.2.2.2 j hj).2.2.2; omega⟩
theorem Sim.vz {I J : IM} {n o z q : Nat} {f : Nat → Nat} (h : Sim I J n o z q f) : VZ I := h.2.2.2.2.2
theorem Sim.fr {I J : IM} {n o z q : Nat} {f : Nat → Nat} (h : Sim I J n o z q f) : ∀ s, s < 8 → FA (I (3 + s)) (frR J s) n := fun s hs => h.1.1.fa hs
theorem Sim.sg {I J : IM} {n o z q : Nat} {f : Nat → Nat} (h : Sim I J n o z q f) : ∀ k, k < 5 → I 11 k = sgR J k ∧ (sgR J k = 1 ∨ sgR J k = -1) := h.1.1.2.2.2.2.1
def OC (KK : Option Value → IM → LM → Prop) (TT : String → IM → LM → Prop) (exs : List String) (code : Nat) (r : Option Value) (I2 : IM) (L2 : LM) : Prop := (code = 0 ∧ KK r I2 L2) ∨ ∃ i E, code = i + 1 ∧ exs[i]? = some E ∧ TT E I2 L2
/-- both sides end alike: R says how the two results go together -/
def Agr {α β : Type} (va : α → Value) (vb : β → Value) (R : α → β → Prop) (KK : Option Value → IM → LM → Prop) (TT : String → IM → LM → Prop) (exs : List String) (RR : Option Value → IM → LM → Prop) : Prop :=
  ∃ (code : Nat) (x : α) (y : β) (I2 : IM) (L2 : LM) (J2 : IM) (M2 : LM), OC KK TT exs code (some (va x)) I2 L2 ∧ RR (some (vb y)) J2 M2 ∧ J2 0 7 = nI code ∧ (code = 0 → R x y) ∧ SimE I2 J2
section AG
variable {α β : Type} {va : α → Value} {vb : β → Value} {R : α → β → Prop} {KK : Option Value → IM → LM → Prop} {TT : String → IM → LM → Prop} {exs : List String} {RR : Option Value → IM → LM → Prop}
theorem ag_ok {x : α} {y : β} {I2 J2 : IM} {L2 M2 : LM} (hK : KK (some (va x)) I2 L2) (hR : RR (some (vb y)) J2 M2) (h7 : J2 0 7 = 0) (hxy : R x y) (hs : SimE I2 J2) : Agr va vb R KK TT exs RR := ⟨0, x, y, I2, L2, J2, M2, Or.inl ⟨rfl, hK⟩, hR, h7, fun _ => hxy, hs⟩
theorem ag_th {x : α} {y : β} {I2 J2 : IM} {L2 M2 : LM} {E : String} (i : Nat) (he : exs[i]? = some E) (hT : TT E I2 L2) (hR : RR (some (vb y)) J2 M2) (h7 : J2 0 7 = nI (i + 1)) (hs : SimE I2 J2) : Agr va vb R KK TT exs RR := ⟨i + 1, x, y, I2, L2, J2, M2, Or.inr ⟨i, E, rfl, he, hT⟩, hR, h7, fun e => absurd e (Nat.succ_ne_zero i), hs⟩
end AG
def AgI (KK : Option Value → IM → LM → Prop) (TT : String → IM → LM → Prop) (exs : List String) (RR : Option Value → IM → LM → Prop) : Prop := Agr Value.int Value.int (fun x y => x = y) KK TT exs RR
theorem agi_ok {KK : Option Value → IM → LM → Prop} {TT : String → IM → LM → Prop} {exs : List String} {RR : Option Value → IM → LM → Prop} {x y : Int32} {I2 J2 : IM} {L2 M2 : LM} (hK : KK (some (.int x)) I2 L2) (hR : RR (some (.int y)) J2 M2) (h7 : J2 0 7 = 0) (hxy : x = y) (hs : SimE I2 J2) : AgI KK TT exs RR := ag_ok (va := Value.int) (vb := Value.int) hK hR h7 hxy hs
/-- a throw that leaves the state as it was -/
theorem agi_th {I J : IM} {n o z q : Nat} {f : Nat → Nat} (h : Sim I J n o z q f) {KK : Option Value → IM → LM → Prop} {TT : String → IM → LM → Prop} {exs : List String} {RR : Option Value → IM → LM → Prop} {y : Int32} {L2 M2 : LM} {E : String} (i : Nat) (he : exs[i]? = some E) (hT : TT E I L2) (hR : RR (some (.int y)) (mu J 0 7 (nI (i + 1))) M2) : AgI KK TT exs RR := ag_th (va := Value.int) (vb := Value.int) (x := 0) i he hT hR (mu_self _ _ _ _) (h.t7 _).e
theorem kp_7 {J : IM} {g : Nat → Int64} {z t d B : Nat} : kpR (mu J 0 7 0) g z t d B 0 7 = 0 := by
  unfold kpR kpF
  rw [mu_ne _ _ (by decide), mu_ne _ _ (by decide), rg_ne (by decide), svR_0 (by decide), mu_self]
theorem tb_no {g : Nat → Int64} {B : Nat} (h : ftO g B = none) : ∀ k, k < B → tooB (g k) = false := fun k hk => fsO_nil h k hk
theorem tb_in {x : Int64} (h : -100000000 ≤ x.toInt ∧ x.toInt ≤ 100000000) : tooB x = false := by
  unfold tooB
  have e1 : ((-100000000 : Int64)).toInt = -100000000 := by decide
  have e2 : ((100000000 : Int64)).toInt = 100000000 := by decide
  rw [decide_eq_false (by rw [Int64.lt_iff_toInt_lt, e1]; omega), decide_eq_false (by rw [Int64.lt_iff_toInt_lt, e2]; omega)]
  rfl
theorem tb_f {f g : Nat → Int32} {n : Nat} (h : FA f g n) {k : Nat} (hk : k < 32) : tooB (g k).toInt64 = false := tb_in (by rw [Int32.toInt_toInt64]; exact h.2.2 k hk)
theorem tb_neg {x : Int32} (h : -100000000 ≤ x.toInt ∧ x.toInt ≤ 100000000) : (-x.toInt64).toInt = -x.toInt ∧ (-x).toInt64 = -x.toInt64 := by
  have e : (-x.toInt64).toInt = -x.toInt := by rw [Int64.toInt_neg, Int32.toInt_toInt64, Int.bmod_eq_of_le (by omega) (by omega)]
  refine ⟨e, Int64.toInt_inj.mp ?_⟩
  rw [e, Int32.toInt_toInt64, Int32.toInt_neg, Int.bmod_eq_of_le (by omega) (by omega)]
theorem tb_n {f g : Nat → Int32} {n : Nat} (h : FA f g n) {k : Nat} (hk : k < 32) : tooB (-(g k).toInt64) = false := tb_in (by
  have h2 := h.2.2 k hk
  rw [(tb_neg h2).1]
  omega)
theorem sgB_pm {s : Nat → Int32} (h : ∀ k, k < 5 → s k = 1 ∨ s k = -1) (b : Nat) : ∀ k, k ≤ 5 → sgB s b k = 1 ∨ sgB s b k = -1
  | 0, _ => Or.inl rfl
  | k + 1, hk => by
    unfold sgB
    split
    · rcases sgB_pm h b k (by omega) with e | e <;> rcases h k (by omega) with e2 | e2 <;> rw [e, e2] <;> decide
    · exact sgB_pm h b k (by omega)
theorem tb_sg {f g : Nat → Int32} {n : Nat} (h : FA f g n) {k : Nat} (hk : k < 32) {s : Int32} (hs : s = 1 ∨ s = -1) (o : Bool) : tooB (sg o ((g k).toInt64 * s.toInt64)) = false := by
  have e : (g k).toInt64 * s.toInt64 = (g k).toInt64 ∨ (g k).toInt64 * s.toInt64 = -(g k).toInt64 := by
    rcases hs with rfl | rfl
    · left
      rw [show ((1 : Int32)).toInt64 = 1 from by decide, Int64.mul_one]
    · right
      rw [show ((-1 : Int32)).toInt64 = -1 from by decide, Int64.mul_neg, Int64.mul_one]
  rcases e with e | e <;> rw [e] <;> cases o
  · exact tb_f h hk
  · exact tb_n h hk
  · exact tb_n h hk
  · show tooB (-(-(g k).toInt64)) = false
    rw [Int64.neg_neg]
    exact tb_f h hk
theorem ou3_or (x y w : Int32) : (∃ a b t, a < 8 ∧ b < 8 ∧ t < 8 ∧ x = nI a ∧ y = nI b ∧ w = nI t) ∨ ou3 x y w := by
  rcases ouR_or x 8 (by decide) with ⟨a, ha, ea⟩ | e
  · rcases ouR_or y 8 (by decide) with ⟨b, hb, eb⟩ | e
    · rcases ouR_or w 8 (by decide) with ⟨t, ht, et⟩ | e
      · exact Or.inl ⟨a, b, t, ha, hb, ht, ea, eb, et⟩
      · exact Or.inr (Or.inr (Or.inr e))
    · exact Or.inr (Or.inr (Or.inl e))
  · exact Or.inr (Or.inl e)
theorem ou2_or (x y : Int32) {a b : Nat} (ha : a < 2 ^ 31) (hb : b < 2 ^ 31) : (∃ i j, i < a ∧ j < b ∧ x = nI i ∧ y = nI j) ∨ (ouR x a ∨ ouR y b) := by
  rcases ouR_or x a ha with ⟨i, hi, ea⟩ | e
  · rcases ouR_or y b hb with ⟨j, hj, eb⟩ | e
    · exact Or.inl ⟨i, j, hi, hj, ea, eb⟩
    · exact Or.inr (Or.inr e)
  · exact Or.inr (Or.inl e)
theorem oS_or (v M : Int32) : (¬ ouS v M ∧ -M ≤ v ∧ v ≤ M) ∨ (ouS v M ∧ ¬ (-M ≤ v ∧ v ≤ M)) := by
  by_cases h : ouS v M
  · refine Or.inr ⟨h, fun e => ?_⟩
    rcases h with h | h
    · exact absurd e.1 (Int32.not_le.mpr h)
    · exact h e.2
  · refine Or.inl ⟨h, ?_, ?_⟩
    · exact Int32.not_lt.mp (fun e => h (Or.inl e))
    · by_cases e : v ≤ M
      · exact e
      · exact absurd (Or.inr e) h
theorem bg_or (x : Int32) : (∃ n, 2 ≤ n ∧ n ≤ 5 ∧ x = nI n) ∨ ((x < 2 ∨ ¬ x ≤ 5) ∧ ¬ (2 ≤ x ∧ x ≤ 5)) := by
  by_cases h : 2 ≤ x ∧ x ≤ 5
  · left
    rcases ouR_or x 6 (by decide) with ⟨k, hk, rfl⟩ | e
    · refine ⟨k, ?_, by omega, rfl⟩
      rcases Nat.lt_or_ge k 2 with e | e
      · exact absurd h.1 (nI_ge (b := 2) e (by decide))
      · exact e
    · exfalso
      have h1 := Int32.le_iff_toInt_le.mp h.1
      have h2 := Int32.le_iff_toInt_le.mp h.2
      have e1 : ((2 : Int32)).toInt = 2 := by decide
      have e2 : ((5 : Int32)).toInt = 5 := by decide
      rcases ouR_int (by decide) e with e | e <;> omega
  · refine Or.inr ⟨?_, h⟩
    by_cases h2 : x < 2
    · exact Or.inl h2
    · exact Or.inr (fun e => h ⟨Int32.not_lt.mp h2, e⟩)
theorem ap_or (x : Int32) : (∃ c, 33 ≤ c ∧ c ≤ 126 ∧ x = nI c ∧ 33 ≤ x ∧ x ≤ 126) ∨ ((x < 33 ∨ ¬ x ≤ 126) ∧ ¬ (33 ≤ x ∧ x ≤ 126)) := by
  by_cases h : 33 ≤ x ∧ x ≤ 126
  · left
    rcases ouR_or x 127 (by decide) with ⟨k, hk, rfl⟩ | e
    · refine ⟨k, ?_, by omega, rfl, h⟩
      rcases Nat.lt_or_ge k 33 with e | e
      · exact absurd h.1 (nI_ge (b := 33) e (by decide))
      · exact e
    · exfalso
      have h1 := Int32.le_iff_toInt_le.mp h.1
      have h2 := Int32.le_iff_toInt_le.mp h.2
      have e1 : ((33 : Int32)).toInt = 33 := by decide
      have e2 : ((126 : Int32)).toInt = 126 := by decide
      rcases ouR_int (by decide) e with e | e <;> omega
  · refine Or.inr ⟨?_, h⟩
    by_cases h2 : x < 33
    · exact Or.inl h2
    · exact Or.inr (fun e => h ⟨Int32.not_lt.mp h2, e⟩)
theorem ag_begin (l : Launch) (hlt : l.stackTraces = false) {I J : IM} (h : SimE I J) (x : Int32) (L M : LM) : AgI (fun r => KX7_begin l [.ref 0, .int x] I L r) (fun E => TX7_begin l [.ref 0, .int x] I L E) [exA] (fun r => KX8_begin l [.ref 0, .int x] J M r) := by
  obtain ⟨n, o, z, q, f, h⟩ := h
  rcases bg_or x with ⟨m, m2, m5, rfl⟩ | ⟨e, e2⟩
  · obtain ⟨o', z', hs⟩ := h.saved
    exact agi_ok (qX7_begin l m2 m5 h.o6 h.z6 h.h1 h.h2 L) (qX8_begin l m2 m5 h.z6 h.j2 M) (by unfold lpR; rw [rg_ne (by decide), rg_ne (by decide), rg_ne (by decide), mu_ne _ _ (by decide), svR_0 (by decide), mu_self]) (h.d.trans h.jd.symm) (hs.begin m2 m5).e
  · exact agi_th h 0 rfl (xX7_begin l hlt e I L) (xX8_begin l e2 J M)
theorem ag_sign (l : Launch) (hlt : l.stackTraces = false) {I J : IM} (h : SimE I J) (x y : Int32) (L M : LM) : AgI (fun r => KX7_sign l [.ref 0, .int x, .int y] I L r) (fun E => TX7_sign l [.ref 0, .int x, .int y] I L E) [exB, exA] (fun r => KX8_sign l [.ref 0, .int x, .int y] J M r) := by
  obtain ⟨n, o, z, q, f, h⟩ := h
  rcases ouR_or x n (by have := h.n5; omega) with ⟨k, hk, rfl⟩ | e
  · by_cases hv : y = 1 ∨ y = -1
    · obtain ⟨o', z', hs⟩ := h.saved
      exact agi_ok (qX7_sign l hk hv h.n5 h.o6 h.z6 h.d h.h1 h.h2 L) (qX8_sign l hk h.n5 hv h.z6 h.jd h.j2 M) (by rw [mu_ne _ _ (by decide), svR_0 (by decide), mu_self]) (h.sg k (by have := h.n5; omega)).1 (hs.sign hk hv).e
    · exact agi_th h 1 rfl (xX7_signV l hlt hk h.n5 (fun e => hv (Or.inl e)) (fun e => hv (Or.inr e)) h.d L) (vX8f_sign l hk h.n5 ⟨fun e => hv (Or.inl e), fun e => hv (Or.inr e)⟩ h.jd M)
  · exact agi_th h 0 rfl (xX7_signD l hlt e h.d L) (xX8_sign l e h.n0 h.n5 h.jd M)
theorem ag_matrix (l : Launch) (hlt : l.stackTraces = false) {I J : IM} (h : SimE I J) (x y w : Int32) (L M : LM) : AgI (fun r => KX7_matrix l [.ref 0, .int x, .int y, .int w] I L r) (fun E => TX7_matrix l [.ref 0, .int x, .int y, .int w] I L E) [exB, exA] (fun r => KX8_matrix l [.ref 0, .int x, .int y, .int w] J M r) := by
  obtain ⟨n, o, z, q, f, h⟩ := h
  have hn := h.n5
  rcases ou2_or x y (a := n) (b := n) (by omega) (by omega) with ⟨r, c, hr, hc, rfl, rfl⟩ | e
  · rcases oS_or w 9 with ⟨e1, e2⟩ | ⟨e1, e2⟩
    · obtain ⟨o', z', hs⟩ := h.saved
      exact agi_ok (qX7_matrix l hr hc e1 h.n5 h.o6 h.z6 h.d h.h1 h.h2 L) (qX8_matrix l hr hc h.n5 e2 h.z6 h.jd h.j2 M) (by rw [mu_ne _ _ (by decide), svR_0 (by decide), mu_self]) (by have := h.1.1.2.2.2.2.2.1 r (by omega) c (by omega); rw [show 1 + 12 + r = 13 + r by omega] at this; exact this) (hs.matrix hr hc).e
    · exact agi_th h 1 rfl (xX7_matrixV l hlt hr hc h.n5 e1 h.d L) (vX8f_matrix l hr hc h.n5 e2 h.jd M)
  · exact agi_th h 0 rfl (xX7_matrixD l hlt h.n5 e h.d L) (xX8_matrix l e h.n0 h.n5 h.jd M)
theorem ag_set (l : Launch) (hlt : l.stackTraces = false) {I J : IM} (h : SimE I J) (x y w : Int32) (L M : LM) : AgI (fun r => KX7_set l [.ref 0, .int x, .int y, .int w] I L r) (fun E => TX7_set l [.ref 0, .int x, .int y, .int w] I L E) [exB, exA] (fun r => KX8_set l [.ref 0, .int x, .int y, .int w] J M r) := by
  obtain ⟨n, o, z, q, f, h⟩ := h
  have hn := h.n5
  have hB := (pow_le32 n hn).1
  rcases ou2_or x y (a := 8) (b := 2 ^ n) (by decide) (by omega) with ⟨s, b, hs, hb, rfl, rfl⟩ | e
  · rcases oS_or w 100000000 with ⟨e1, e2⟩ | ⟨e1, e2⟩
    · obtain ⟨o', z', hs'⟩ := h.saved
      exact agi_ok (qX7_set l hs hb e1 h.n5 h.o6 h.z6 h.d h.h1 h.h2 L) (qX8_set l hs hb h.n5 e2 h.z6 h.jd h.j2 M) (by rw [mu_ne _ _ (by decide), svR_0 (by decide), mu_self]) ((h.fr s hs).1 b (by omega)) (hs'.set hs hb e2).e
    · exact agi_th h 1 rfl (xX7_setV l hlt hs hb h.n5 e1 h.d L) (vX8f_set l hs hb h.n5 e2 h.jd M)
  · exact agi_th h 0 rfl (xX7_setD l hlt h.n5 e h.d L) (xX8_set l e h.n5 h.jd M)
theorem ag_sum (l : Launch) (hlt : l.stackTraces = false) {I J : IM} (h : SimE I J) (x y w : Int32) (L M : LM) : AgI (fun r => KX7_sum l [.ref 0, .int x, .int y, .int w] I L r) (fun E => TX7_sum l [.ref 0, .int x, .int y, .int w] I L E) [exB, exS] (fun r => KX8_sum l [.ref 0, .int x, .int y, .int w] J M r) := by
  obtain ⟨n, o, z, q, f, h⟩ := h
  rcases ou3_or x y w with ⟨a, b, t, ha, hb, ht, rfl, rfl, rfl⟩ | e
  · have hr : ∀ k, k < 2 ^ n → (fun k => (I (3 + a) k).toInt64 + (I (3 + b) k).toInt64) k = rfR J n 0 a b k := fun k hk => St_rf (w := 0) h.1.1 ha hb k hk
    have hg : ftO (fun k => (I (3 + a) k).toInt64 + (I (3 + b) k).toInt64) (2 ^ n) = ftO (rfR J n 0 a b) (2 ^ n) := fsO_cong (fun k hk => by rw [hr k hk])
    by_cases e : ftO (rfR J n 0 a b) (2 ^ n) = none
    · obtain ⟨M2, hR⟩ := qX8_sum l ha hb ht h.n5 h.z6 h.jd h.j2 M e
      obtain ⟨e1, o', z', hs⟩ := h.keep (d := 0) ht (by decide) hr (tb_no e)
      exact agi_ok (qX7_sum l ha hb ht h.n5 h.o6 h.z6 h.d h.h1 h.h2 L (hg.trans e)) hR kp_7 (by rw [e1]) hs.e
    · obtain ⟨M2, hR⟩ := vX8f_sum l ha hb ht h.n5 h.jd M e
      exact agi_th h 1 rfl (xX7_sumT l hlt ha hb ht h.n5 h.d L (fun e2 => e (hg.symm.trans e2))) hR
  · exact agi_th h 0 rfl (xX7_sumS l hlt e I L) (xX8_sum l e J M)
theorem ag_wedge (l : Launch) (hlt : l.stackTraces = false) {I J : IM} (h : SimE I J) (x y w : Int32) (L M : LM) : AgI (fun r => KX7_wedge l [.ref 0, .int x, .int y, .int w] I L r) (fun E => TX7_wedge l [.ref 0, .int x, .int y, .int w] I L E) [exB, exS] (fun r => KX8_wedge l [.ref 0, .int x, .int y, .int w] J M r) := by
  obtain ⟨n, o, z, q, f, h⟩ := h
  rcases ou3_or x y w with ⟨a, b, t, ha, hb, ht, rfl, rfl, rfl⟩ | e
  · have hr : ∀ k, k < 2 ^ n → (wC (I (3 + a)) (I (3 + b)) (2 ^ n)) k = rfR J n 1 a b k := fun k hk => St_rf (w := 1) h.1.1 ha hb k hk
    have hg : ftO (wC (I (3 + a)) (I (3 + b)) (2 ^ n)) (2 ^ n) = ftO (rfR J n 1 a b) (2 ^ n) := fsO_cong (fun k hk => by rw [hr k hk])
    by_cases e : ftO (rfR J n 1 a b) (2 ^ n) = none
    · obtain ⟨M2, hR⟩ := qX8_wedge l ha hb ht h.n5 h.z6 h.jd h.j2 M e
      obtain ⟨e1, o', z', hs⟩ := h.keep (d := 2) ht (by decide) hr (tb_no e)
      exact agi_ok (qX7_wedge l ha hb ht h.n5 h.o6 h.z6 h.d h.h1 h.h2 L (hg.trans e)) hR kp_7 (by rw [e1]) hs.e
    · obtain ⟨M2, hR⟩ := vX8f_wedge l ha hb ht h.n5 h.jd M e
      exact agi_th h 1 rfl (xX7_wedgeT l hlt ha hb ht h.n5 h.d L (fun e2 => e (hg.symm.trans e2))) hR
  · exact agi_th h 0 rfl (xX7_wedgeS l hlt e I L) (xX8_wedge l e J M)
theorem ag_contract (l : Launch) (hlt : l.stackTraces = false) {I J : IM} (h : SimE I J) (x y w : Int32) (L M : LM) : AgI (fun r => KX7_contract l [.ref 0, .int x, .int y, .int w] I L r) (fun E => TX7_contract l [.ref 0, .int x, .int y, .int w] I L E) [exB, exS] (fun r => KX8_contract l [.ref 0, .int x, .int y, .int w] J M r) := by
  obtain ⟨n, o, z, q, f, h⟩ := h
  rcases ou3_or x y w with ⟨a, b, t, ha, hb, ht, rfl, rfl, rfl⟩ | e
  · have hr : ∀ k, k < 2 ^ n → (cC (I 11) (I (3 + a)) (I (3 + b)) (2 ^ n)) k = rfR J n 2 a b k := fun k hk => St_rf (w := 2) h.1.1 ha hb k hk
    have hg : ftO (cC (I 11) (I (3 + a)) (I (3 + b)) (2 ^ n)) (2 ^ n) = ftO (rfR J n 2 a b) (2 ^ n) := fsO_cong (fun k hk => by rw [hr k hk])
    by_cases e : ftO (rfR J n 2 a b) (2 ^ n) = none
    · obtain ⟨M2, hR⟩ := qX8_contract l ha hb ht h.n5 h.z6 h.jd h.j2 M e
      obtain ⟨e1, o', z', hs⟩ := h.keep (d := 3) ht (by decide) hr (tb_no e)
      exact agi_ok (qX7_contract l ha hb ht h.n5 h.o6 h.z6 h.d h.h1 h.h2 L (hg.trans e)) hR kp_7 (by rw [e1]) hs.e
    · obtain ⟨M2, hR⟩ := vX8f_contract l ha hb ht h.n5 h.jd M e
      exact agi_th h 1 rfl (xX7_contractT l hlt ha hb ht h.n5 h.d L (fun e2 => e (hg.symm.trans e2))) hR
  · exact agi_th h 0 rfl (xX7_contractS l hlt e I L) (xX8_contract l e J M)
theorem ag_scale (l : Launch) (hlt : l.stackTraces = false) {I J : IM} (h : SimE I J) (x y w : Int32) (L M : LM) : AgI (fun r => KX7_scale l [.ref 0, .int x, .int y, .int w] I L r) (fun E => TX7_scale l [.ref 0, .int x, .int y, .int w] I L E) [exB, exA, exS] (fun r => KX8_scale l [.ref 0, .int x, .int y, .int w] J M r) := by
  obtain ⟨n, o, z, q, f, h⟩ := h
  rcases ou2_or x w (a := 8) (b := 8) (by decide) (by decide) with ⟨a, t, ha, ht, rfl, rfl⟩ | e
  · rcases oS_or y 1000 with ⟨v1, v2⟩ | ⟨v1, v2⟩
    · have hr : ∀ k, k < 2 ^ n → (fun k => (I (3 + a) k).toInt64 * y.toInt64) k = (fun k => (frR J a k).toInt64 * y.toInt64) k := fun k hk => by
        show (I (3 + a) k).toInt64 * y.toInt64 = (frR J a k).toInt64 * y.toInt64
        rw [(h.fr a ha).1 k (pow_mono n h.n5 k hk)]
      have hg : ftO (fun k => (I (3 + a) k).toInt64 * y.toInt64) (2 ^ n) = ftO (fun k => (frR J a k).toInt64 * y.toInt64) (2 ^ n) := fsO_cong (fun k hk => by rw [hr k hk])
      by_cases e : ftO (fun k => (frR J a k).toInt64 * y.toInt64) (2 ^ n) = none
      · obtain ⟨M2, hR⟩ := qX8_scale l ha ht v2 h.n5 h.z6 h.jd h.j2 M e
        obtain ⟨e1, o', z', hs⟩ := h.keep (d := 1) ht (by decide) hr (tb_no e)
        exact agi_ok (qX7_scale l ha ht v1 h.n5 h.o6 h.z6 h.d h.h1 h.h2 L (hg.trans e)) hR kp_7 (by rw [e1]) hs.e
      · obtain ⟨M2, hR⟩ := vX8f_scale l ha ht v2 h.n5 h.jd M e
        exact agi_th h 2 rfl (xX7_scaleT l hlt ha ht v1 h.n5 h.d L (fun e2 => e (hg.symm.trans e2))) hR
    · exact agi_th h 1 rfl (xX7_scaleV l hlt ha ht v1 I L) (zX8_scale l ha ht v2 J M)
  · exact agi_th h 0 rfl (xX7_scaleS l hlt e I L) (xX8_scale l e J M)
theorem ag_star (l : Launch) (hlt : l.stackTraces = false) {I J : IM} (h : SimE I J) (x y : Int32) (L M : LM) : AgI (fun r => KX7_star l [.ref 0, .int x, .int y] I L r) (fun E => TX7_star l [.ref 0, .int x, .int y] I L E) [exB] (fun r => KX8_star l [.ref 0, .int x, .int y] J M r) := by
  obtain ⟨n, o, z, q, f, h⟩ := h
  rcases ou2_or x y (a := 8) (b := 8) (by decide) (by decide) with ⟨a, t, ha, ht, rfl, rfl⟩ | e
  · have hn := h.n5
    have hr : ∀ k, k < 2 ^ n → stC (I 11) (I (3 + a)) (2 ^ n) k = stC (sgR J) (frR J a) (2 ^ n) k := fun k hk => by
      have hx : (2 ^ n - 1) ^^^ k < 2 ^ n := Nat.xor_lt_two_pow (by omega) hk
      unfold stC sgn
      rw [(h.fr a ha).1 _ (pow_mono n hn _ hx), sgB_cong (fun k hk => (h.sg k hk).1)]
    have hb : ∀ k, k < 2 ^ n → tooB (stC (sgR J) (frR J a) (2 ^ n) k) = false := fun k hk => by
      have hx : (2 ^ n - 1) ^^^ k < 2 ^ n := Nat.xor_lt_two_pow (by omega) hk
      unfold stC sgn
      rw [if_pos hk]
      exact tb_sg (h.fr a ha) (pow_mono n hn _ hx) (sgB_pm (fun k hk => (h.sg k hk).2) _ 5 (Nat.le_refl 5)) _
    obtain ⟨M2, hR⟩ := qX8_star l ha ht h.n5 h.z6 h.jd h.j2 M
    obtain ⟨e1, o', z', hs⟩ := h.keep (d := 4) ht (by decide) hr hb
    exact agi_ok (qX7_star l ha ht h.n5 h.o6 h.z6 h.d h.h1 h.h2 L) hR kp_7 (by rw [e1]) hs.e
  · exact agi_th h 0 rfl (xX7_starS l hlt e I L) (xX8_star l e J M)
theorem ag_part (l : Launch) (hlt : l.stackTraces = false) {I J : IM} (h : SimE I J) (x y w : Int32) (L M : LM) : AgI (fun r => KX7_part l [.ref 0, .int x, .int y, .int w] I L r) (fun E => TX7_part l [.ref 0, .int x, .int y, .int w] I L E) [exB, exA] (fun r => KX8_part l [.ref 0, .int x, .int y, .int w] J M r) := by
  obtain ⟨n, o, z, q, f, h⟩ := h
  rcases ou2_or x w (a := 8) (b := 8) (by decide) (by decide) with ⟨a, t, ha, ht, rfl, rfl⟩ | e
  · have hn := h.n5
    rcases ouR_or y (n + 1) (by omega) with ⟨gr, hgr, rfl⟩ | e
    · have hr : ∀ k, k < 2 ^ n → (fun k => if nI (pc5 k) = nI gr then (I (3 + a) k).toInt64 else 0) k = (fun k => if nI (pc5 k) = nI gr then (frR J a k).toInt64 else 0) k := fun k hk => by
        show (if nI (pc5 k) = nI gr then (I (3 + a) k).toInt64 else 0) = (if nI (pc5 k) = nI gr then (frR J a k).toInt64 else 0)
        rw [(h.fr a ha).1 _ (pow_mono n hn _ hk)]
      have hb : ∀ k, k < 2 ^ n → tooB ((fun k => if nI (pc5 k) = nI gr then (frR J a k).toInt64 else 0) k) = false := fun k hk => by
        show tooB (if nI (pc5 k) = nI gr then (frR J a k).toInt64 else 0) = false
        split
        · exact tb_f (h.fr a ha) (pow_mono n hn _ hk)
        · decide
      obtain ⟨M2, hR⟩ := qX8_part l ha ht h.n5 (by omega) h.z6 h.jd h.j2 M (gr := gr) (g := fun k => if nI (pc5 k) = nI gr then (frR J a k).toInt64 else 0) (fun k _ => rfl)
      obtain ⟨e1, o', z', hs⟩ := h.keep (d := 5) ht (by decide) hr hb
      exact agi_ok (qX7_part l ha ht h.n5 h.o6 h.z6 h.d h.h1 h.h2 L (by omega)) hR kp_7 (by rw [e1]) hs.e
    · exact agi_th h 1 rfl (xX7_partV l hlt ha ht h.n5 e h.d L) (zX8_part l ha ht h.n5 e h.jd M)
  · exact agi_th h 0 rfl (xX7_partS l hlt e I L) (xX8_part l e J M)
theorem ag_reverse (l : Launch) (hlt : l.stackTraces = false) {I J : IM} (h : SimE I J) (x y : Int32) (L M : LM) : AgI (fun r => KX7_reverse l [.ref 0, .int x, .int y] I L r) (fun E => TX7_reverse l [.ref 0, .int x, .int y] I L E) [exB] (fun r => KX8_reverse l [.ref 0, .int x, .int y] J M r) := by
  obtain ⟨n, o, z, q, f, h⟩ := h
  rcases ou2_or x y (a := 8) (b := 8) (by decide) (by decide) with ⟨a, t, ha, ht, rfl, rfl⟩ | e
  · have hn := h.n5
    have hr : ∀ k, k < 2 ^ n → (fun k => if 2 ≤ pc5 k % 4 then (-(I (3 + a) k)).toInt64 else (I (3 + a) k).toInt64) k = (fun k => if 2 ≤ pc5 k % 4 then -(frR J a k).toInt64 else (frR J a k).toInt64) k := fun k hk => by
      show (if 2 ≤ pc5 k % 4 then (-(I (3 + a) k)).toInt64 else (I (3 + a) k).toInt64) = (if 2 ≤ pc5 k % 4 then -(frR J a k).toInt64 else (frR J a k).toInt64)
      rw [(h.fr a ha).1 _ (pow_mono n hn _ hk), (tb_neg ((h.fr a ha).2.2 k (pow_mono n hn _ hk))).2]
    have hb : ∀ k, k < 2 ^ n → tooB ((fun k => if 2 ≤ pc5 k % 4 then -(frR J a k).toInt64 else (frR J a k).toInt64) k) = false := fun k hk => by
      show tooB (if 2 ≤ pc5 k % 4 then -(frR J a k).toInt64 else (frR J a k).toInt64) = false
      split
      · exact tb_n (h.fr a ha) (pow_mono n hn _ hk)
      · exact tb_f (h.fr a ha) (pow_mono n hn _ hk)
    obtain ⟨M2, hR⟩ := qX8_reverse l ha ht h.n5 h.z6 h.jd h.j2 M (g := fun k => if 2 ≤ pc5 k % 4 then -(frR J a k).toInt64 else (frR J a k).toInt64) (fun k _ => rfl)
    obtain ⟨e1, o', z', hs⟩ := h.keep (d := 6) ht (by decide) hr hb
    exact agi_ok (qX7_reverse l ha ht h.n5 h.o6 h.z6 h.d h.h1 h.h2 L) hR kp_7 (by rw [e1]) hs.e
  · exact agi_th h 0 rfl (xX7_reverseS l hlt e I L) (xX8_reverse l e J M)
theorem ag_push (l : Launch) (hlt : l.stackTraces = false) {I J : IM} (h : SimE I J) (x y : Int32) (L M : LM) : AgI (fun r => KX7_push l [.ref 0, .int x, .int y] I L r) (fun E => TX7_push l [.ref 0, .int x, .int y] I L E) [exB, exS] (fun r => KX8_push l [.ref 0, .int x, .int y] J M r) := by
  obtain ⟨n, o, z, q, f, h⟩ := h
  rcases ou2_or x y (a := 8) (b := 8) (by decide) (by decide) with ⟨a, t, ha, ht, rfl, rfl⟩ | e
  · have hr : ∀ k, k < 2 ^ n → puC (fun q p => I (13 + q) p) n (I (3 + a)) k = rfR J n 3 a a k := fun k hk => St_rf (w := 3) h.1.1 ha ha k hk
    have hg : ftO (puC (fun q p => I (13 + q) p) n (I (3 + a))) (2 ^ n) = ftO (rfR J n 3 a a) (2 ^ n) := fsO_cong (fun k hk => by rw [hr k hk])
    by_cases e : ftO (rfR J n 3 a a) (2 ^ n) = none
    · obtain ⟨M2, hR⟩ := qX8_push l ha ht h.n5 h.z6 h.jd h.j2 M e
      obtain ⟨L2, hK⟩ := qX7_push l ha ht h.n5 h.o6 h.z6 h.d h.h1 h.h2 L (hg.trans e)
      obtain ⟨e1, o', z', hs⟩ := h.keep (d := 7) ht (by decide) hr (tb_no e)
      exact agi_ok hK hR kp_7 (by rw [e1]) hs.e
    · obtain ⟨M2, hR⟩ := vX8f_push l ha ht h.n5 h.jd M e
      obtain ⟨L2, hT⟩ := xX7_pushT l hlt ha ht h.n5 h.d L (fun e2 => e (hg.symm.trans e2))
      exact agi_th h 1 rfl hT hR
  · exact agi_th h 0 rfl (xX7_pushS l hlt e I L) (xX8_push l e J M)
