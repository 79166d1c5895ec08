/-! THE LAW: its desk and the class's -/
def Sm (I : IM) (L : LM) (n o z : Nat) : Prop := (2 ≤ n ∧ n ≤ 5 ∧ o < 6 ∧ z ≤ 6) ∧ (I 1 0 = nI n ∧ I 19 1 = nI o ∧ I 19 2 = nI z) ∧ VZ I ∧ (∀ s, s < 2 → RF n (I (3 + s)) (fun q => L 181 (32 * s + q))) ∧ I 188 0 = nI n ∧ (∀ k, k < 5 → I 188 (k + 1) = I 11 k ∧ (I 11 k = 1 ∨ I 11 k = -1)) ∧ (∀ r, r < 5 → ∀ c, c < 5 → I 186 (5 * r + c) = I (13 + r) c ∧ -3 ≤ (I (13 + r) c).toInt ∧ (I (13 + r) c).toInt ≤ 3) ∧ ∀ d, d < 9 → I 188 (6 + d) = I 18 d
section SM
variable {I I2 : IM} {L L2 : LM} {n o z : Nat}
/-- a question changes nothing of it -/
theorem Sm.sc (h : Sm I L n o z) (hs : SC I I2) (hL : L2 181 = L 181) : Sm I2 L2 n o z := by
  obtain ⟨h1, ⟨h2a, h2b, h2c⟩, h3, h4, h5, h6, h7, h8⟩ := h
  have lo : ∀ a, a < 170 → I2 a = I a := fun a ha => hs.lo ha
  have hi : ∀ a, 181 ≤ a → I2 a = I a := fun a ha => hs.1 a (by omega) (by omega) (by omega) (by omega)
  refine ⟨h1, ⟨by rw [lo 1 (by decide)]; exact h2a, by rw [lo 19 (by decide)]; exact h2b, by rw [lo 19 (by decide)]; exact h2c⟩, hs.2 h3, fun s hs2 => ?_, by rw [hi 188 (by decide)]; exact h5, fun k hk => ?_, fun r hr c hc => ?_, fun d hd => ?_⟩
  · rw [lo (3 + s) (by omega), hL]
    exact h4 s hs2
  · rw [hi 188 (by decide), lo 11 (by decide)]
    exact h6 k hk
  · rw [hi 186 (by decide), lo (13 + r) (by omega)]
    exact h7 r hr c hc
  · rw [hi 188 (by decide), lo 18 (by decide)]
    exact h8 d hd
theorem SC.mxS (h : SC I I2) : SC I (mx 181 I2 I) := by
  refine ⟨fun a a1 a2 a3 a4 => ?_, fun hz => ?_⟩
  · by_cases e : a < 181
    · rw [mx_lo e]; exact h.1 a a1 a2 a3 a4
    · rw [mx_hi (by omega)]
  · intro j hj hk
    rw [mx_lo (by decide)]
    exact h.2 hz j hj hk
def oN (o z : Nat) : Nat := if z = 6 then (o + 1) % 6 else o
def zN (z : Nat) : Nat := if z = 6 then 6 else z + 1
theorem oN_lt (ho : o < 6) : oN o z < 6 := by unfold oN; split <;> omega
theorem zN_le (hz : z ≤ 6) : zN z ≤ 6 ∧ 0 < zN z := by unfold zN; split <;> omega
theorem svI_19 (ho : o < 6) (hz : z ≤ 6) (h1 : I 19 1 = nI o) : svI I o z 19 1 = nI (oN o z) ∧ svI I o z 19 2 = nI (zN z) := by
  unfold svI oN zN
  by_cases e : z = 6
  · rw [if_pos e, if_pos e, if_pos e]
    refine ⟨?_, mu_at⟩
    rw [show ∀ (f : IM) (x : Int32), mu f 19 2 x 19 1 = f 19 1 from fun f x => by simp [mu], cpA_19 _ (hbk_st ho), show ∀ (f : IM) (x : Int32), mu f 19 2 x 19 1 = f 19 1 from fun f x => by simp [mu]]
    exact mu_at
  · rw [if_neg e, if_neg e, if_neg e]
    refine ⟨?_, mu_at⟩
    rw [show ∀ (f : IM) (x : Int32), mu f 19 2 x 19 1 = f 19 1 from fun f x => by simp [mu], cpA_19 _ (hbk_st (Nat.mod_lt _ (by decide)))]
    exact h1
theorem stI_ne {g : Nat → Int64} {B t d a : Nat} (h18 : a ≠ 18) (ht : a ≠ 3 + t) : stI I g o z B t d a = svI I o z a := by
  unfold stI stI1
  split
  · rw [mu_ne _ _ h18, mu_ne _ _ h18, lay_ne ht]
  · rw [mu_ne _ _ h18, lay_ne ht]
theorem stI_hi {g : Nat → Int64} {B t d a : Nat} (ho : o < 6) (ht : t < 8) (h : 128 < a) : stI I g o z B t d a = I a := by
  rw [stI_ne (by omega) (by omega), svI_ne ho (Or.inr h)]
theorem stI_row {g : Nat → Int64} {B t d : Nat} (ht : t < 8) : stI I g o z B t d (3 + t) = stI1 I g o z B t (3 + t) := by
  unfold stI
  split
  · rw [mu_ne _ _ (by omega), mu_ne _ _ (by omega)]
  · rw [mu_ne _ _ (by omega)]
theorem stI_18 {g : Nat → Int64} {B t d k : Nat} (ho : o < 6) (ht : t < 8) (hd : d < 8) : stI I g o z B t d 18 k = if k = d then I 18 d + 1 else if k = 8 then (if cnz (stI1 I g o z B t (3 + t)) 32 = 0 then I 18 8 + 1 else I 18 8) else I 18 k := by
  have e1 : ∀ j, stI1 I g o z B t 18 j = I 18 j := fun j => by
    unfold stI1
    rw [lay_ne (by omega), svI_ne ho (Or.inl (by decide))]
  have e2 : ∀ (f : IM) (x : Int32), f 18 = I 18 → mu f 18 d x 18 8 = I 18 8 := fun f x hf => by
    rw [show mu f 18 d x 18 8 = f 18 8 by simp [mu, show ¬ 8 = d by omega], hf]
  have e3 : stI1 I g o z B t 18 = I 18 := funext e1
  unfold stI
  by_cases hc : cnz (stI1 I g o z B t (3 + t)) 32 = 0
  · rw [if_pos hc, if_pos hc, e2 _ _ e3]
    by_cases hk : k = d
    · subst hk
      rw [if_pos rfl, show ∀ (f : IM) (x : Int32), mu f 18 8 x 18 k = f 18 k from fun f x => by simp [mu, show ¬ k = 8 by omega], mu_at]
    · by_cases h8 : k = 8
      · subst h8
        rw [if_neg hk, if_pos rfl, mu_at]
      · rw [if_neg hk, if_neg h8, show ∀ (f : IM) (x : Int32), mu f 18 8 x 18 k = f 18 k from fun f x => by simp [mu, h8], show ∀ (f : IM) (x : Int32), mu f 18 d x 18 k = f 18 k from fun f x => by simp [mu, hk], e1]
  · rw [if_neg hc, if_neg hc]
    by_cases hk : k = d
    · subst hk
      rw [if_pos rfl, mu_at]
    · rw [if_neg hk, show ∀ (f : IM) (x : Int32), mu f 18 d x 18 k = f 18 k from fun f x => by simp [mu, hk], e1]
      by_cases h8 : k = 8
      · subst h8; rw [if_pos rfl]
      · rw [if_neg h8]
theorem i64_i32 {x : Int64} (h : -100000000 ≤ x.toInt ∧ x.toInt ≤ 100000000) : x.toInt32.toInt64 = x ∧ x.toInt32.toInt = x.toInt := by
  have e := lg_i2l_l2i (x := x) (by omega) (by omega)
  refine ⟨e, ?_⟩
  rw [← Int32.toInt_toInt64, e]
/-- the row laid anew -/
theorem st_row {g : Nat → Int64} {t : Nat} (ho : o < 6) (hn : n ≤ 5) (ht : t < 8) (hb : bdF (I (3 + t))) (hz : ∀ k, k < 32 → 2 ^ n ≤ k → I (3 + t) k = 0) (hg : ∀ k, k < 2 ^ n → -100000000 ≤ (g k).toInt ∧ (g k).toInt ≤ 100000000) {F : Nat → Int64} (hF : ∀ k, k < 32 → F k = if k < 2 ^ n then g k else 0) : RF n (stI1 I g o z (2 ^ n) t (3 + t)) F := by
  have e0 : svI I o z (3 + t) = I (3 + t) := svI_ne ho (Or.inl (by omega))
  have er : ∀ k, stI1 I g o z (2 ^ n) t (3 + t) k = if k < 2 ^ n then (g k).toInt32 else I (3 + t) k := fun k => by
    unfold stI1
    by_cases h : k < 2 ^ n
    · rw [lay_in h, if_pos h]
    · rw [lay_out (by omega), if_neg h, e0]
  refine ⟨fun k hk => ?_, fun k hk => ?_, fun k hk h2 => ?_⟩
  · rw [hF k hk, er]
    by_cases h : k < 2 ^ n
    · rw [if_pos h, if_pos h, (i64_i32 (hg k h)).1]
    · rw [if_neg h, if_neg h, hz k hk (by omega)]; rfl
  · rw [er]
    by_cases h : k < 2 ^ n
    · rw [if_pos h, (i64_i32 (hg k h)).2]; exact hg k h
    · rw [if_neg h]; exact hb k hk
  · rw [er, if_neg (by omega)]
    exact hz k hk h2
end SM
