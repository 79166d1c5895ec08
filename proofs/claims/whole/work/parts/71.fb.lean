/-! BOTH SIDES: tests, factors, products -/
theorem paI_cong {f g : Nat → Int32} (h : ∀ k, k < 32 → f k = g k) {i k : Nat} (hi : i < 32) (hk : k < 5) : paI f i k = paI g i k := by
  unfold paI
  rw [h _ (or_lt i hi (2 ^ k) (pow2_lt k hk))]
theorem pvF_cong {f g : Nat → Int32} (h : ∀ k, k < 32 → f k = g k) {r : Nat} (hr : r < 32) : ∀ k, k ≤ 5 → ∀ j, pvF f r k j = pvF g r k j
  | 0, _, _ => rfl
  | k + 1, hk, j => by
    show (if j = 2 ^ k then paI f r k else pvF f r k j) = (if j = 2 ^ k then paI g r k else pvF g r k j)
    rw [paI_cong h hr (by omega), pvF_cong h hr k (by omega) j]
theorem pwz_cong {f g : Nat → Int32} (h : ∀ k, k < 32 → f k = g k) {r n : Nat} (hn : n ≤ 5) (hr : r < 32) : pwz f r n = pwz g r n := by
  have hB := (pow_le32 n hn).1
  unfold pwz
  exact alz_cong (fun k hk => wC_cong (fun q hq => h q (by omega)) (fun q _ => pvF_cong h hr n hn q))
theorem gr_m1 : ∀ a, a < 6 → ∀ b, b < 6 → (nI a = nI b - 1 ↔ a + 1 = b) := by decide +kernel
section FBs
variable {f g f' g' : Nat → Int32} {n : Nat}
theorem fa_dtB (h : FA f g n) (hn : n ≤ 5) {gr : Nat} (hg5 : gr ≤ 5) (hg : grF g (2 ^ n) = nI gr) : (fsO (dtP f n) (2 ^ n)).isNone = puB g n gr := by
  have hB := (pow_le32 n hn).1
  unfold puB
  rw [fsO_cong (fun r hr => ?_)]
  unfold dtP puP
  rw [fa_gr h hn, hg, pwz_cong h.1 hn (by omega)]
  have := gr_m1 (pc5 r) (by have := pc5_le r; omega) gr (by omega)
  by_cases e : pc5 r + 1 = gr
  · rw [decide_eq_true (this.mpr e), decide_eq_true e]
  · rw [decide_eq_false (fun z => e (this.mp z)), decide_eq_false e]
theorem fa_dt (h : FA f g n) (hn : n ≤ 5) : dtF f n = dtR g n := by
  have hB := (pow_le32 n hn).1
  unfold dtF dtR
  rw [fa_gr h hn]
  rcases grF_nat (f := g) hB with hg | ⟨gr, hg5, hg⟩
  · rw [if_pos hg, if_pos hg]
  · have hne : grF g (2 ^ n) ≠ NON := by rw [hg]; exact NON_ne (by omega)
    rw [if_neg hne, if_neg hne, fa_dtB h hn hg5 hg, grN_of hg5 hg]
theorem fa_ct (h : FA f g n) (hn : n ≤ 5) : ctF f n = ctR g n := by
  have hB := (pow_le32 n hn).1
  unfold ctF ctR
  rw [fa_dt h hn, fa_gr h hn]
  unfold dtR
  rcases grF_nat (f := g) hB with hg | ⟨gr, hg5, hg⟩
  · rw [if_pos hg, if_pos hg, if_neg (by decide)]
  · have hne : grF g (2 ^ n) ≠ NON := by rw [hg]; exact NON_ne (by omega)
    rw [if_neg hne, if_neg hne]
    cases puB g n (grN g n) with
    | true => rw [if_pos (show b2i true = 1 from rfl), if_pos rfl]
    | false => rw [if_neg (by decide), if_neg (by decide)]
theorem faF_cong (h : ∀ k, k < 32 → f k = g k) {q d : Nat} (hq : q < 32) (hd : d < 5) : ∀ k c left, c + k ≤ 5 → faF f q d k c left = faF g q d k c left
  | 0, _, _, _ => rfl
  | k + 1, c, left, hc => by
    rw [faF, faF, faF_cong h hq hd k (c + 1) (left - 1) (by omega), faF_cong h hq hd k (c + 1) left (by omega), paI_cong h (xor_lt q hq (2 ^ c) (pow2_lt c (by omega))) hd]
theorem fa_fa (h : FA f g n) (hn : n ≤ 5) {p d : Nat} (hd : d < 5) : faI f p d = faR g n p d := by
  have hB := (pow_le32 n hn).1
  unfold faI faR
  rw [fa_ld h hn]
  cases hq : ldO g (2 ^ n) with
  | none => rfl
  | some q => exact faF_cong h.1 (by have := (ldO_some hq).1; omega) hd 5 0 p (by decide)
theorem fa_sm (h : FA f g n) (h' : FA f' g' n) (hn : n ≤ 5) : smB f f' 32 = smB g g' (2 ^ n) := by
  unfold smB
  rw [show fsO (fun k => decide (f k ≠ f' k)) 32 = fsO (fun k => decide (g k ≠ g' k)) 32 from fsO_cong (fun k hk => by rw [h.1 k hk, h'.1 k hk])]
  refine z_up (fun m => (fsO (fun k => decide (g k ≠ g' k)) m).isNone) (pow_le32 n hn).1 (fun k h1 h2 => ?_)
  show (fsO (fun k => decide (g k ≠ g' k)) (k + 1)).isNone = _
  rw [fsO_su, h.2.1 k h1 h2, h'.2.1 k h1 h2]
  simp
theorem fa_lk (h : FA f g n) (h' : FA f' g' n) (hn : n ≤ 5) : lkB f f' 32 = lkB g g' (2 ^ n) := by
  have hB := (pow_le32 n hn).1
  unfold lkB
  rw [fa_ld h hn]
  cases hq : ldO g (2 ^ n) with
  | none => rfl
  | some q =>
    have hq32 : q < 32 := by have := (ldO_some hq).1; omega
    show (decide (f' q ≠ 0) && _) = (decide (g' q ≠ 0) && _)
    rw [h'.1 q hq32, h.1 q hq32]
    congr 1
    rw [show fsO (fun k => decide ((f k).toInt64 * (g' q).toInt64 ≠ (f' k).toInt64 * (g q).toInt64)) 32 = fsO (fun k => decide ((g k).toInt64 * (g' q).toInt64 ≠ (g' k).toInt64 * (g q).toInt64)) 32 from fsO_cong (fun k hk => by rw [h.1 k hk, h'.1 k hk])]
    refine z_up (fun m => (fsO (fun k => decide ((g k).toInt64 * (g' q).toInt64 ≠ (g' k).toInt64 * (g q).toInt64)) m).isNone) (pow_le32 n hn).1 (fun k h1 h2 => ?_)
    show (fsO (fun k => decide ((g k).toInt64 * (g' q).toInt64 ≠ (g' k).toInt64 * (g q).toInt64)) (k + 1)).isNone = _
    rw [fsO_su, h.2.1 k h1 h2, h'.2.1 k h1 h2]
    simp
theorem fa_wC (h : FA f g n) (h' : FA f' g' n) (hn : n ≤ 5) {k : Nat} : wC f f' (2 ^ n) k = wC g g' (2 ^ n) k := wC_cong (fun q hq => h.1 q (pow_mono n hn q hq)) (fun q hq => h'.1 q (pow_mono n hn q hq))
theorem fa_cm (h : FA f g n) (h' : FA f' g' n) (hn : n ≤ 5) : cmF f f' n = cmR g g' n := by
  unfold cmF cmR
  rw [fa_sm h h' hn, fa_lk h h' hn, alz_cong (fun k _ => fa_wC h h' hn (k := k))]
end FBs
/-- the scenes of both sides: dimension, signs, matrix, forms -/
def StS (I : IM) (b n : Nat) (g : Nat → Int32) : Prop := 2 ≤ n ∧ n ≤ 5 ∧ I b 0 = nI n ∧ g 0 = nI n ∧ (∀ k, k < 5 → I (b + 10) k = g (1 + k) ∧ (g (1 + k) = 1 ∨ g (1 + k) = -1)) ∧ (∀ r, r < 5 → ∀ c, c < 5 → I (b + 12 + r) c = g (6 + 5 * r + c)) ∧ ∀ s, s < 8 → FA (I (b + 2 + s)) (fun k => g (40 + 32 * s + k)) n
def Ty (I : IM) (b : Nat) (g : Nat → Int32) : Prop := ∀ j, j < 9 → I (b + 17) j = g (31 + j)
theorem St_rf {I J : IM} {n w a b : Nat} (h : StS I 1 n (J 1)) (ha : a < 8) (hb : b < 8) : ∀ k, k < 2 ^ n → rfG I n w a b k = rfR J n w a b k := by
  obtain ⟨-, hn, -, -, h1, h2, h3⟩ := h
  have fa := h3 a ha
  have fb := h3 b hb
  rw [show 1 + 2 + a = 3 + a by omega] at fa
  rw [show 1 + 2 + b = 3 + b by omega] at fb
  intro k hk
  have hk32 := pow_mono n hn k hk
  match w with
  | 0 =>
    show (I (3 + a) k).toInt64 + (I (3 + b) k).toInt64 = (frR J a k).toInt64 + (frR J b k).toInt64
    rw [fa.1 k hk32, fb.1 k hk32]
    rfl
  | 1 => exact fa_wC fa fb hn
  | 2 => exact cC_cong (fun k hk => (h1 k hk).1) (fun q hq => fa.1 q (pow_mono n hn q hq)) (fun q hq => fb.1 q (pow_mono n hn q hq))
  | _ + 3 => exact puC_cong (fun r hr c hc => by rw [show 13 + r = 1 + 12 + r by omega, h2 r (by omega) c (by omega)]; rfl) (fun i hi => fa.1 i (pow_mono n hn i hi))
