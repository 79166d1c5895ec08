/-! where rows agree, so does what is told of them -/
theorem wcs_cong {m m' : Nat → Nat → Int32} {n c : Nat} {f f' : Nat → Int64} {t : Nat} (hm : ∀ r, r < n → m r c = m' r c) (hf : ∀ r, r < n → t.testBit r = true → f (t ^^^ 2 ^ r) = f' (t ^^^ 2 ^ r)) : wcs m n c f t = wcs m' n c f' t := sumL_cong (fun r hr => by
  split
  · rename_i h
    rw [hm r hr, hf r hr h]
  · rfl)
theorem gw_cong {m m' : Nat → Nat → Int32} {n b : Nat} (hm : ∀ r, r < n → ∀ c, c < n → m r c = m' r c) : ∀ c, c ≤ n → ∀ t, gw m n b c t = gw m' n b c t
  | 0, _, _ => rfl
  | c + 1, hc, t => by
    unfold gw
    split
    · exact wcs_cong (fun r hr => hm r hr c hc) (fun r _ _ => gw_cong hm c (by omega) _)
    · exact gw_cong hm c (by omega) t
theorem puI_cong {m m' : Nat → Nat → Int32} {n k i : Nat} {a a' : Nat → Int32} (hm : ∀ r, r < n → ∀ c, c < n → m r c = m' r c) (ha : a i = a' i) : puI m n a k i = puI m' n a' k i := by
  unfold puI
  rw [ha, gw_cong hm n (Nat.le_refl n) k]
theorem puC_cong {m m' : Nat → Nat → Int32} {n k : Nat} {a a' : Nat → Int32} (hm : ∀ r, r < n → ∀ c, c < n → m r c = m' r c) (ha : ∀ i, i < 2 ^ n → a i = a' i) : puC m n a k = puC m' n a' k := sumL_cong (fun i hi => puI_cong hm (ha i hi))
theorem sgB_cong {s s' : Nat → Int32} {b : Nat} : ∀ {n : Nat}, (∀ k, k < n → s k = s' k) → sgB s b n = sgB s' b n
  | 0, _ => rfl
  | n + 1, h => by
    unfold sgB
    rw [sgB_cong (n := n) (fun k hk => h k (by omega)), h n (by omega)]
theorem sgn_cong {s s' : Nat → Int32} {b : Nat} (h : ∀ k, k < 5 → s k = s' k) : sgn s b = sgn s' b := sgB_cong h
theorem cI_cong {s s' a a' b b' : Nat → Int32} {n i j k : Nat} (hs : ∀ k, k < 5 → s k = s' k) (hi : i < 2 ^ n) (hj : j ≤ 2 ^ n) (ha : ∀ q, q < 2 ^ n → a q = a' q) (hb : ∀ q, q < 2 ^ n → b q = b' q) : cI s a b i j k = cI s' a' b' i j k := by
  unfold cI
  split
  · rename_i h
    rw [ha i hi, hb _ (Nat.or_lt_two_pow hi (Nat.lt_of_lt_of_le h.1 hj)), sgn_cong hs]
  · rfl
theorem cC_cong {s s' a a' b b' : Nat → Int32} {n k : Nat} (hs : ∀ k, k < 5 → s k = s' k) (ha : ∀ q, q < 2 ^ n → a q = a' q) (hb : ∀ q, q < 2 ^ n → b q = b' q) : cC s a b (2 ^ n) k = cC s' a' b' (2 ^ n) k := sumL_cong (fun i hi => cI_cong hs hi (Nat.le_refl _) ha hb)
theorem inC_cong {s s' a a' b b' : Nat → Int32} {B : Nat} (hs : ∀ k, k < 5 → s k = s' k) (ha : ∀ q, q < B → a q = a' q) (hb : ∀ q, q < B → b q = b' q) : inC s a b B = inC s' a' b' B := sumL_cong (fun k hk => by rw [ha k hk, hb k hk, sgn_cong hs])
theorem stC_cong {s s' a a' : Nat → Int32} {n k : Nat} (hs : ∀ k, k < 5 → s k = s' k) (ha : ∀ q, q < 2 ^ n → a q = a' q) : stC s a (2 ^ n) k = stC s' a' (2 ^ n) k := by
  have hB : (0 : Nat) < 2 ^ n := Nat.pos_of_ne_zero (by simp)
  unfold stC
  split
  · rename_i h
    rw [ha _ (Nat.xor_lt_two_pow (show 2 ^ n - 1 < 2 ^ n by omega) h), sgn_cong hs]
  · rfl
