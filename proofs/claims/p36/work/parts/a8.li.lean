/-! THE LAW'S done: the class's products -/
theorem up_X {l : Launch} {y : MethodName} {bytes : ByteArray} {maxL : Nat} {ret : Option FieldType} {rm : Room} {av : List Value} {I I2 : IM} {L L2 : LM} {r : Option Value} (h : CR l kdC 181 y bytes maxL ret rm av I L r I2 L2) : ∃ L3, (∀ c, 181 ≤ c → L3 c = L c) ∧ CR l kdL 189 y bytes maxL ret rm av I L r (mx 181 I2 I) L3 := ⟨mx 181 L2 L, fun _ hc => mx_hi hc, up_K h⟩
def gC (I : IM) (n op a b : Nat) (w : Int32) : Nat → Int64 := match op with
  | 0 => fun k => (I (3 + a) k).toInt64 + (I (3 + b) k).toInt64
  | 1 => fun k => (I (3 + a) k).toInt64 * w.toInt64
  | 2 => wC (I (3 + a)) (I (3 + b)) (2 ^ n)
  | 3 => cC (I 11) (I (3 + a)) (I (3 + b)) (2 ^ n)
  | 4 => stC (I 11) (I (3 + a)) (2 ^ n)
  | 5 => fun k => if nI (pc5 k) = w then (I (3 + a) k).toInt64 else 0
  | 6 => fun k => if 2 ≤ pc5 k % 4 then (-(I (3 + a) k)).toInt64 else (I (3 + a) k).toInt64
  | _ => puC (fun q p => I (13 + q) p) n (I (3 + a))
theorem sm_st {I I' : IM} {L L4 : LM} {n o z t d : Nat} {g : Nat → Int64} (h : Sm I L n o z) (ht : t < 2) (hd : d < 8) (hI : ∀ a, a ≠ 188 → I' a = I a) (hg : ∀ k, k < 2 ^ n → -100000000 ≤ (g k).toInt ∧ (g k).toInt ≤ 100000000) (hz : ∀ k, k < 32 → 2 ^ n ≤ k → g k = 0) (hL : ∀ s, s < 2 → ∀ q, q < 32 → L4 181 (32 * s + q) = if s = t then g q else L 181 (32 * s + q)) (hc : ∀ k, I' 188 k = if k = 6 + d then I 188 (6 + d) + 1 else if k = 14 then (if cnL (fun q => L4 181 (32 * t + q)) 32 = 0 then I 188 14 + 1 else I 188 14) else I 188 k) : Sm (stI I' g o z (2 ^ n) t d) L4 n (oN o z) (zN z) ∧ cnz (stI1 I' g o z (2 ^ n) t (3 + t)) 32 = cnL (fun q => L4 181 (32 * t + q)) 32 := by
  obtain ⟨⟨n2, n5, ho, hzz⟩, ⟨h2a, h2b, h2c⟩, h3, h4, h5, h6, h7, h8⟩ := h
  have hrow : RF n (stI1 I' g o z (2 ^ n) t (3 + t)) (fun q => L4 181 (32 * t + q)) := by
    have e : I' (3 + t) = I (3 + t) := hI _ (by omega)
    refine st_row ho n5 (by omega) (by rw [e]; exact (h4 t ht).2.1) (by rw [e]; exact (h4 t ht).2.2) hg (fun k hk => ?_)
    show L4 181 (32 * t + k) = _
    rw [hL t ht k hk, if_pos rfl]
    by_cases hB : k < 2 ^ n
    · rw [if_pos hB]
    · rw [if_neg hB, hz k hk (by omega)]
  have hcn : cnz (stI1 I' g o z (2 ^ n) t (3 + t)) 32 = cnL (fun q => L4 181 (32 * t + q)) 32 := (r_cnt 32 (Nat.le_refl 32) hrow.1).symm
  refine ⟨?_, hcn⟩
  have ne : ∀ a, a ≠ 18 → a ≠ 3 + t → (a < 19 ∨ 128 < a) → a ≠ 188 → stI I' g o z (2 ^ n) t d a = I a := fun a a1 a2 a3 a4 => by rw [stI_ne a1 a2, svI_ne ho a3, hI a a4]
  have n19 : stI I' g o z (2 ^ n) t d 19 = svI I' o z 19 := stI_ne (by decide) (by omega)
  obtain ⟨s1, s2⟩ := svI_19 (I := I') ho hzz (by rw [hI 19 (by decide)]; exact h2b)
  have n188 : stI I' g o z (2 ^ n) t d 188 = I' 188 := stI_hi ho (by omega) (by decide)
  refine ⟨⟨n2, n5, oN_lt ho, (zN_le hzz).1⟩, ⟨by rw [ne 1 (by decide) (by omega) (Or.inl (by decide)) (by decide)]; exact h2a, by rw [n19]; exact s1, by rw [n19]; exact s2⟩, ?_, fun s hs => ?_, ?_, fun k hk => ?_, fun r hr c hc5 => ?_, fun q hq => ?_⟩
  · intro j hj hk
    rw [ne 170 (by decide) (by omega) (Or.inr (by decide)) (by decide)]
    exact h3 j hj hk
  · by_cases e : s = t
    · subst e
      rw [stI_row (by omega)]
      exact hrow
    · rw [ne (3 + s) (by omega) (by omega) (Or.inl (by omega)) (by omega)]
      refine ⟨fun k hk => ?_, (h4 s hs).2⟩
      show L4 181 (32 * s + k) = _
      rw [hL s hs k hk, if_neg e]
      exact (h4 s hs).1 k hk
  · rw [n188, hc, if_neg (by omega), if_neg (by decide)]
    exact h5
  · rw [n188, hc, if_neg (by omega), if_neg (by omega), ne 11 (by decide) (by omega) (Or.inl (by decide)) (by decide)]
    exact h6 k hk
  · rw [ne 186 (by decide) (by omega) (Or.inr (by decide)) (by decide), ne (13 + r) (by omega) (by omega) (Or.inl (by omega)) (by omega)]
    exact h7 r hr c hc5
  · rw [n188, hc, stI_18 ho (by omega) hd, hcn, hI 18 (by decide)]
    by_cases e : q = d
    · subst e
      rw [if_pos rfl, if_pos rfl, h8 q (by omega)]
    · rw [if_neg (by omega), if_neg e]
      by_cases e8 : q = 8
      · subst e8
        rw [if_pos rfl, if_pos rfl, h8 8 (by decide)]
      · rw [if_neg (by omega), if_neg e8]
        exact h8 q hq
set_option maxRecDepth 100000 in
theorem qL_done0 (l : Launch) {a b t : Nat} {w : Int32} (ha : a < 8) (hb : b < 8) (ht : t < 8) {n o z : Nat} (hn : n ≤ 5) (ho : o < 6) (hz : z ≤ 6) {I : IM} (hd : I 1 0 = nI n) (h1 : I 19 1 = nI o) (h2 : I 19 2 = nI z) (L : LM) (hf : ftO (gC I n 0 a b w) (2 ^ n) = none) : ∃ L2, (∀ c, 181 ≤ c → L2 c = L c) ∧ KL_done l [.ref 0, .int 0, .int (nI a), .int (nI b), .int w, .int (nI t)] I L (some (.int (nI (cnz (stI1 I (gC I n 0 a b w) o z (2 ^ n) t (3 + t)) 32)))) (stI I (gC I n 0 a b w) o z (2 ^ n) t 0) L2 := by
  obtain ⟨L3, e3, hK⟩ := up_X (qX7_sum l ha hb ht hn ho hz hd h1 h2 L hf)
  have e : mx 181 (stI I (gC I n 0 a b w) o z (2 ^ n) t 0) I = stI I (gC I n 0 a b w) o z (2 ^ n) t 0 := mx_eq (fun c hc => stI_hi ho ht (by omega))
  refine ⟨L3, e3, ?_⟩
  refine wL_done l rfl (hz0 (by decide)) (fun V hV => ?_)
  refine ru_go hV 6 [(0, 0)] rfl rfl ⟨trivial, (by decide)⟩ ?_
  refine ru_V hV [] sVL_47 hK rfl rfl rfl rfl rfl (Nat.le_of_ble_eq_true rfl) ?_
  refine ru_fin hV 1 [] rfl rfl trivial ?_
  exact ⟨rfl, e, rfl⟩
set_option maxRecDepth 100000 in
theorem qL_done1 (l : Launch) {a b t : Nat} {w : Int32} (ha : a < 8) (hb : b < 8) (ht : t < 8) {n o z : Nat} (hn : n ≤ 5) (ho : o < 6) (hz : z ≤ 6) {I : IM} (hd : I 1 0 = nI n) (h1 : I 19 1 = nI o) (h2 : I 19 2 = nI z) (L : LM) (hv : ¬ ouS w 1000) (hf : ftO (gC I n 1 a b w) (2 ^ n) = none) : ∃ L2, (∀ c, 181 ≤ c → L2 c = L c) ∧ KL_done l [.ref 0, .int 1, .int (nI a), .int (nI b), .int w, .int (nI t)] I L (some (.int (nI (cnz (stI1 I (gC I n 1 a b w) o z (2 ^ n) t (3 + t)) 32)))) (stI I (gC I n 1 a b w) o z (2 ^ n) t 1) L2 := by
  obtain ⟨L3, e3, hK⟩ := up_X (qX7_scale l ha ht hv hn ho hz hd h1 h2 L hf)
  have e : mx 181 (stI I (gC I n 1 a b w) o z (2 ^ n) t 1) I = stI I (gC I n 1 a b w) o z (2 ^ n) t 1 := mx_eq (fun c hc => stI_hi ho ht (by omega))
  refine ⟨L3, e3, ?_⟩
  refine wL_done l rfl (hz0 (by decide)) (fun V hV => ?_)
  refine ru_go hV 9 [(1, 0), (0, 0)] rfl rfl ⟨⟨trivial, (by decide)⟩, (by decide)⟩ ?_
  refine ru_V hV [] sVL_53 hK rfl rfl rfl rfl rfl (Nat.le_of_ble_eq_true rfl) ?_
  refine ru_fin hV 1 [] rfl rfl trivial ?_
  exact ⟨rfl, e, rfl⟩
set_option maxRecDepth 100000 in
theorem qL_done2 (l : Launch) {a b t : Nat} {w : Int32} (ha : a < 8) (hb : b < 8) (ht : t < 8) {n o z : Nat} (hn : n ≤ 5) (ho : o < 6) (hz : z ≤ 6) {I : IM} (hd : I 1 0 = nI n) (h1 : I 19 1 = nI o) (h2 : I 19 2 = nI z) (L : LM) (hf : ftO (gC I n 2 a b w) (2 ^ n) = none) : ∃ L2, (∀ c, 181 ≤ c → L2 c = L c) ∧ KL_done l [.ref 0, .int 2, .int (nI a), .int (nI b), .int w, .int (nI t)] I L (some (.int (nI (cnz (stI1 I (gC I n 2 a b w) o z (2 ^ n) t (3 + t)) 32)))) (stI I (gC I n 2 a b w) o z (2 ^ n) t 2) L2 := by
  obtain ⟨L3, e3, hK⟩ := up_X (qX7_wedge l ha hb ht hn ho hz hd h1 h2 L hf)
  have e : mx 181 (stI I (gC I n 2 a b w) o z (2 ^ n) t 2) I = stI I (gC I n 2 a b w) o z (2 ^ n) t 2 := mx_eq (fun c hc => stI_hi ho ht (by omega))
  refine ⟨L3, e3, ?_⟩
  refine wL_done l rfl (hz0 (by decide)) (fun V hV => ?_)
  refine ru_go hV 12 [(1, 0), (1, 0), (0, 0)] rfl rfl ⟨⟨⟨trivial, (by decide)⟩, (by decide)⟩, (by decide)⟩ ?_
  refine ru_V hV [] sVL_56 hK rfl rfl rfl rfl rfl (Nat.le_of_ble_eq_true rfl) ?_
  refine ru_fin hV 1 [] rfl rfl trivial ?_
  exact ⟨rfl, e, rfl⟩
set_option maxRecDepth 100000 in
theorem qL_done3 (l : Launch) {a b t : Nat} {w : Int32} (ha : a < 8) (hb : b < 8) (ht : t < 8) {n o z : Nat} (hn : n ≤ 5) (ho : o < 6) (hz : z ≤ 6) {I : IM} (hd : I 1 0 = nI n) (h1 : I 19 1 = nI o) (h2 : I 19 2 = nI z) (L : LM) (hf : ftO (gC I n 3 a b w) (2 ^ n) = none) : ∃ L2, (∀ c, 181 ≤ c → L2 c = L c) ∧ KL_done l [.ref 0, .int 3, .int (nI a), .int (nI b), .int w, .int (nI t)] I L (some (.int (nI (cnz (stI1 I (gC I n 3 a b w) o z (2 ^ n) t (3 + t)) 32)))) (stI I (gC I n 3 a b w) o z (2 ^ n) t 3) L2 := by
  obtain ⟨L3, e3, hK⟩ := up_X (qX7_contract l ha hb ht hn ho hz hd h1 h2 L hf)
  have e : mx 181 (stI I (gC I n 3 a b w) o z (2 ^ n) t 3) I = stI I (gC I n 3 a b w) o z (2 ^ n) t 3 := mx_eq (fun c hc => stI_hi ho ht (by omega))
  refine ⟨L3, e3, ?_⟩
  refine wL_done l rfl (hz0 (by decide)) (fun V hV => ?_)
  refine ru_go hV 15 [(1, 0), (1, 0), (1, 0), (0, 0)] rfl rfl ⟨⟨⟨⟨trivial, (by decide)⟩, (by decide)⟩, (by decide)⟩, (by decide)⟩ ?_
  refine ru_V hV [] sVL_58 hK rfl rfl rfl rfl rfl (Nat.le_of_ble_eq_true rfl) ?_
  refine ru_fin hV 1 [] rfl rfl trivial ?_
  exact ⟨rfl, e, rfl⟩
set_option maxRecDepth 100000 in
theorem qL_done4 (l : Launch) {a b t : Nat} {w : Int32} (ha : a < 8) (hb : b < 8) (ht : t < 8) {n o z : Nat} (hn : n ≤ 5) (ho : o < 6) (hz : z ≤ 6) {I : IM} (hd : I 1 0 = nI n) (h1 : I 19 1 = nI o) (h2 : I 19 2 = nI z) (L : LM)  : ∃ L2, (∀ c, 181 ≤ c → L2 c = L c) ∧ KL_done l [.ref 0, .int 4, .int (nI a), .int (nI b), .int w, .int (nI t)] I L (some (.int (nI (cnz (stI1 I (gC I n 4 a b w) o z (2 ^ n) t (3 + t)) 32)))) (stI I (gC I n 4 a b w) o z (2 ^ n) t 4) L2 := by
  obtain ⟨L3, e3, hK⟩ := up_X (qX7_star l ha ht hn ho hz hd h1 h2 L)
  have e : mx 181 (stI I (gC I n 4 a b w) o z (2 ^ n) t 4) I = stI I (gC I n 4 a b w) o z (2 ^ n) t 4 := mx_eq (fun c hc => stI_hi ho ht (by omega))
  refine ⟨L3, e3, ?_⟩
  refine wL_done l rfl (hz0 (by decide)) (fun V hV => ?_)
  refine ru_go hV 17 [(1, 0), (1, 0), (1, 0), (1, 0), (0, 0)] rfl rfl ⟨⟨⟨⟨⟨trivial, (by decide)⟩, (by decide)⟩, (by decide)⟩, (by decide)⟩, (by decide)⟩ ?_
  refine ru_V hV [] sVL_60 hK rfl rfl rfl rfl rfl (Nat.le_of_ble_eq_true rfl) ?_
  refine ru_fin hV 1 [] rfl rfl trivial ?_
  exact ⟨rfl, e, rfl⟩
set_option maxRecDepth 100000 in
theorem qL_done5 (l : Launch) {a b t : Nat} {w : Int32} (ha : a < 8) (hb : b < 8) (ht : t < 8) {n o z : Nat} (hn : n ≤ 5) (ho : o < 6) (hz : z ≤ 6) {I : IM} (hd : I 1 0 = nI n) (h1 : I 19 1 = nI o) (h2 : I 19 2 = nI z) (L : LM) {gr : Nat} (hw : w = nI gr) (hg : gr ≤ n) : ∃ L2, (∀ c, 181 ≤ c → L2 c = L c) ∧ KL_done l [.ref 0, .int 5, .int (nI a), .int (nI b), .int w, .int (nI t)] I L (some (.int (nI (cnz (stI1 I (gC I n 5 a b w) o z (2 ^ n) t (3 + t)) 32)))) (stI I (gC I n 5 a b w) o z (2 ^ n) t 5) L2 := by
  subst hw
  obtain ⟨L3, e3, hK⟩ := up_X (qX7_part l ha ht hn ho hz hd h1 h2 L hg)
  have e : mx 181 (stI I (gC I n 5 a b (nI gr)) o z (2 ^ n) t 5) I = stI I (gC I n 5 a b (nI gr)) o z (2 ^ n) t 5 := mx_eq (fun c hc => stI_hi ho ht (by omega))
  refine ⟨L3, e3, ?_⟩
  refine wL_done l rfl (hz0 (by decide)) (fun V hV => ?_)
  refine ru_go hV 21 [(1, 0), (1, 0), (1, 0), (1, 0), (1, 0), (0, 0)] rfl rfl ⟨⟨⟨⟨⟨⟨trivial, (by decide)⟩, (by decide)⟩, (by decide)⟩, (by decide)⟩, (by decide)⟩, (by decide)⟩ ?_
  refine ru_V hV [] sVL_63 hK rfl rfl rfl rfl rfl (Nat.le_of_ble_eq_true rfl) ?_
  refine ru_fin hV 1 [] rfl rfl trivial ?_
  exact ⟨rfl, e, rfl⟩
set_option maxRecDepth 100000 in
theorem qL_done6 (l : Launch) {a b t : Nat} {w : Int32} (ha : a < 8) (hb : b < 8) (ht : t < 8) {n o z : Nat} (hn : n ≤ 5) (ho : o < 6) (hz : z ≤ 6) {I : IM} (hd : I 1 0 = nI n) (h1 : I 19 1 = nI o) (h2 : I 19 2 = nI z) (L : LM)  : ∃ L2, (∀ c, 181 ≤ c → L2 c = L c) ∧ KL_done l [.ref 0, .int 6, .int (nI a), .int (nI b), .int w, .int (nI t)] I L (some (.int (nI (cnz (stI1 I (gC I n 6 a b w) o z (2 ^ n) t (3 + t)) 32)))) (stI I (gC I n 6 a b w) o z (2 ^ n) t 6) L2 := by
  obtain ⟨L3, e3, hK⟩ := up_X (qX7_reverse l ha ht hn ho hz hd h1 h2 L)
  have e : mx 181 (stI I (gC I n 6 a b w) o z (2 ^ n) t 6) I = stI I (gC I n 6 a b w) o z (2 ^ n) t 6 := mx_eq (fun c hc => stI_hi ho ht (by omega))
  refine ⟨L3, e3, ?_⟩
  refine wL_done l rfl (hz0 (by decide)) (fun V hV => ?_)
  refine ru_go hV 23 [(1, 0), (1, 0), (1, 0), (1, 0), (1, 0), (1, 0), (0, 0)] rfl rfl ⟨⟨⟨⟨⟨⟨⟨trivial, (by decide)⟩, (by decide)⟩, (by decide)⟩, (by decide)⟩, (by decide)⟩, (by decide)⟩, (by decide)⟩ ?_
  refine ru_V hV [] sVL_66 hK rfl rfl rfl rfl rfl (Nat.le_of_ble_eq_true rfl) ?_
  refine ru_fin hV 1 [] rfl rfl trivial ?_
  exact ⟨rfl, e, rfl⟩
set_option maxRecDepth 100000 in
theorem qL_done7 (l : Launch) {a b t : Nat} {w : Int32} (ha : a < 8) (hb : b < 8) (ht : t < 8) {n o z : Nat} (hn : n ≤ 5) (ho : o < 6) (hz : z ≤ 6) {I : IM} (hd : I 1 0 = nI n) (h1 : I 19 1 = nI o) (h2 : I 19 2 = nI z) (L : LM) (hf : ftO (gC I n 7 a b w) (2 ^ n) = none) : ∃ L2, (∀ c, 181 ≤ c → L2 c = L c) ∧ KL_done l [.ref 0, .int 7, .int (nI a), .int (nI b), .int w, .int (nI t)] I L (some (.int (nI (cnz (stI1 I (gC I n 7 a b w) o z (2 ^ n) t (3 + t)) 32)))) (stI I (gC I n 7 a b w) o z (2 ^ n) t 7) L2 := by
  obtain ⟨Lp, hP⟩ := qX7_push l ha ht hn ho hz hd h1 h2 L hf
  obtain ⟨L3, e3, hK⟩ := up_X hP
  have e : mx 181 (stI I (gC I n 7 a b w) o z (2 ^ n) t 7) I = stI I (gC I n 7 a b w) o z (2 ^ n) t 7 := mx_eq (fun c hc => stI_hi ho ht (by omega))
  refine ⟨L3, e3, ?_⟩
  refine wL_done l rfl (hz0 (by decide)) (fun V hV => ?_)
  refine ru_go hV 23 [(1, 0), (1, 0), (1, 0), (1, 0), (1, 0), (1, 0), (1, 0)] rfl rfl ⟨⟨⟨⟨⟨⟨⟨trivial, (by decide)⟩, (by decide)⟩, (by decide)⟩, (by decide)⟩, (by decide)⟩, (by decide)⟩, (by decide)⟩ ?_
  refine ru_V hV [] sVL_69 hK rfl rfl rfl rfl rfl (Nat.le_of_ble_eq_true rfl) ?_
  refine ru_fin hV 1 [] rfl rfl trivial ?_
  exact ⟨rfl, e, rfl⟩
