/-! THE LAW'S rows and the class's -/
def bdF (f : Nat → Int32) : Prop := ∀ k, k < 32 → -100000000 ≤ (f k).toInt ∧ (f k).toInt ≤ 100000000
def RF (n : Nat) (f : Nat → Int32) (F : Nat → Int64) : Prop := (∀ k, k < 32 → F k = (f k).toInt64) ∧ bdF f ∧ ∀ k, k < 32 → 2 ^ n ≤ k → f k = 0
theorem neg_64 {x : Int32} (h : -100000000 ≤ x.toInt ∧ x.toInt ≤ 100000000) : (-x).toInt64 = -x.toInt64 := by
  apply Int64.toInt_inj.mp
  rw [Int32.toInt_toInt64, Int32.toInt_neg, Int64.toInt_neg, Int32.toInt_toInt64, Int.bmod_eq_of_le (by omega) (by omega), Int.bmod_eq_of_le (by omega) (by omega)]
theorem i64_0 {x : Int32} : x.toInt64 = 0 ↔ x = 0 := by
  constructor
  · intro h
    apply Int32.toInt_inj.mp
    have := congrArg Int64.toInt h
    rw [Int32.toInt_toInt64] at this
    exact this
  · intro h; rw [h]; rfl
theorem r_wdg {f g : Nat → Int32} {F G : Nat → Int64} {B k : Nat} (hB : B ≤ 32) (hF : ∀ q, q < 32 → F q = (f q).toInt64) (hG : ∀ q, q < 32 → G q = (g q).toInt64) : wdg F G B k = wC f g B k := sumL_cong (fun i hi => by
  unfold wJ wI
  by_cases h : i &&& k = i ∧ k ^^^ i < B
  · rw [if_pos h, if_pos h, hF i (by omega), hG _ (by omega), odI_sg]
  · rw [if_neg h, if_neg h])
theorem r_ctr {s s' : Nat → Int32} {f g : Nat → Int32} {F G : Nat → Int64} {B k : Nat} (hB : B ≤ 32) (hs : ∀ q, q < 5 → s q = s' q) (hF : ∀ q, q < 32 → F q = (f q).toInt64) (hG : ∀ q, q < 32 → G q = (g q).toInt64) (hk : k < 32) : ctr s F G B k = cC s' f g B k := sumL_cong (fun i hi => by
  unfold cJ cI
  by_cases h : k < B ∧ i &&& k = 0
  · rw [if_pos h, if_pos h, hF i (by omega), hG _ (or_lt i (by omega) k hk), sgn_cong hs, odI_sg]
  · rw [if_neg h, if_neg h])
theorem xr_sub : ∀ n, n ≤ 5 → ∀ k, k < 2 ^ n → (2 ^ n - 1) ^^^ k = 2 ^ n - 1 - k := by decide +kernel
theorem r_star {s s' : Nat → Int32} {f : Nat → Int32} {F : Nat → Int64} {n k : Nat} (hn : n ≤ 5) (hs : ∀ q, q < 5 → s q = s' q) (hF : ∀ q, q < 32 → F q = (f q).toInt64) : (if k < 2 ^ n then F (2 ^ n - 1 - k) * (sgn s (2 ^ n - 1 - k)).toInt64 * (odI (2 ^ n - 1 - k) k).toInt64 else 0) = stC s' f (2 ^ n) k := by
  have hB := (pow_le32 n hn).1
  unfold stC
  by_cases h : k < 2 ^ n
  · rw [if_pos h, if_pos h, hF _ (by omega), sgn_cong hs, odI_sg, xr_sub n hn k h]
  · rw [if_neg h, if_neg h]
theorem gw_gr {m : Nat → Nat → Int32} {n b : Nat} (hn : n ≤ 5) : ∀ c t, t < 32 → pc5 t ≠ pcl b c → gw m n b c t = 0
  | 0, t, _, h => if_neg (fun e => h (by rw [e]; rfl))
  | c + 1, t, h32, h => by
    rw [gw]
    rw [pcl] at h
    by_cases hb : b.testBit c = true
    · rw [if_pos hb] at h ⊢
      refine sumL_z (fun r hr => ?_)
      by_cases hp : t.testBit r = true
      · obtain ⟨d1, d2⟩ := pc5_drop t h32 r (by omega) hp
        rw [if_pos hp, gw_gr hn c _ (by omega) (by omega), Int64.zero_mul, sg_0]
      · rw [if_neg hp]
    · rw [if_neg hb] at h ⊢
      exact gw_gr hn c t h32 h
theorem r_push {m m' : Nat → Nat → Int32} {f : Nat → Int32} {F : Nat → Int64} {n k : Nat} (hn : n ≤ 5) (hm : ∀ r, r < n → ∀ c, c < n → m r c = m' r c) (hF : ∀ q, q < 32 → F q = (f q).toInt64) (hk : k < 32) : puL m n F k = puC m' n f k := sumL_cong (fun i hi => by
  have hB := (pow_le32 n hn).1
  unfold puA puI
  by_cases h : k < 2 ^ n
  · rw [if_pos h, hF i (by omega), gw_cong hm n (Nat.le_refl n)]
    by_cases hg : pc5 k = pc5 i
    · rw [if_pos ⟨h, hg⟩]
    · rw [if_neg (fun z => hg z.2), gw_gr hn n k hk (by rw [pcl_all n hn i hi]; exact hg), Int64.mul_zero]
  · rw [if_neg h, if_neg (fun z => h z.1)])
theorem r_rev {f : Nat → Int32} {F : Nat → Int64} {n k : Nat} (h : RF n f F) (hk : k < 32) : (if pc5 k = 2 ∨ pc5 k = 3 then -F k else F k) = (if 2 ≤ pc5 k % 4 then (-(f k)).toInt64 else (f k).toInt64) := by
  have h5 := pc5_le k
  rw [h.1 k hk]
  by_cases hg : pc5 k = 2 ∨ pc5 k = 3
  · rw [if_pos hg, if_pos (by omega), neg_64 (h.2.1 k hk)]
  · rw [if_neg hg, if_neg (by omega)]
theorem fsO_ext {p : Nat → Bool} {B : Nat} : ∀ N, B ≤ N → (∀ k, B ≤ k → k < N → p k = false) → fsO p N = fsO p B
  | 0, hB, _ => by rw [show B = 0 by omega]
  | N + 1, hB, h => by
    by_cases e : B = N + 1
    · rw [e]
    · rw [fsO, fsO_ext N (by omega) (fun k h1 h2 => h k h1 (by omega)), h N (by omega) (by omega)]
      cases fsO p B <;> rfl
theorem r_far {F g : Nat → Int64} {n : Nat} (hn : n ≤ 5) (h : ∀ k, k < 32 → F k = g k) (hz : ∀ k, k < 32 → 2 ^ n ≤ k → g k = 0) : ftO F 32 = ftO g (2 ^ n) := by
  unfold ftO
  rw [fsO_cong (q := fun k => tooB (g k)) (fun j hj => by rw [h j hj])]
  exact fsO_ext 32 (pow_le32 n hn).1 (fun k h1 h2 => by rw [hz k h2 h1]; rfl)
theorem r_cnt {f : Nat → Int32} {F : Nat → Int64} : ∀ k, k ≤ 32 → (∀ q, q < 32 → F q = (f q).toInt64) → cnL F k = cnz f k
  | 0, _, _ => rfl
  | k + 1, hk, h => by
    rw [cnL, cnz, r_cnt k (by omega) h, h k (by omega)]
    simp only [i64_0]
theorem nI_NON {p : Nat} (h : p < 100) : nI p ≠ NON := NON_ne (by omega)
/-- the least and the greatest grade -/
theorem r_low {f : Nat → Int32} {F : Nat → Int64} : ∀ k, k ≤ 32 → (∀ q, q < 32 → F q = (f q).toInt64) → (lwL F k = 9 ∧ loF f k = NON) ∨ (lwL F k ≤ 5 ∧ loF f k = nI (lwL F k))
  | 0, _, _ => Or.inl ⟨rfl, rfl⟩
  | k + 1, hk, h => by
    have h5 := pc5_le k
    have e0 : F k ≠ 0 ↔ f k ≠ 0 := by rw [h k (by omega), Ne, i64_0]
    rw [lwL, loF]
    rcases r_low k (by omega) h with ⟨a1, a2⟩ | ⟨a1, a2⟩
    · by_cases hf : f k ≠ 0
      · refine Or.inr ?_
        rw [if_pos ⟨e0.mpr hf, by omega⟩, if_pos ⟨hf, Or.inl a2⟩]
        exact ⟨h5, rfl⟩
      · refine Or.inl ?_
        rw [if_neg (fun z => hf (e0.mp z.1)), if_neg (fun z => hf z.1)]
        exact ⟨a1, a2⟩
    · refine Or.inr ?_
      by_cases hf : f k ≠ 0
      · by_cases hl : pc5 k < lwL F k
        · rw [if_pos ⟨e0.mpr hf, hl⟩, if_pos ⟨hf, Or.inr (by rw [a2]; exact nI_lt hl (by omega))⟩]
          exact ⟨h5, rfl⟩
        · rw [if_neg (fun z => hl z.2), if_neg (fun z => ?_)]
          · exact ⟨a1, a2⟩
          · rcases z.2 with e | e
            · rw [a2] at e; exact nI_NON (by omega) e
            · rw [a2] at e; exact nI_nlt (by omega) (by omega) e
      · rw [if_neg (fun z => hf (e0.mp z.1)), if_neg (fun z => hf z.1)]
        exact ⟨a1, a2⟩
theorem NON_lt : ∀ p, p < 6 → (NON : Int32) < nI p := by decide
theorem r_high {f : Nat → Int32} {F : Nat → Int64} : ∀ k, k ≤ 32 → (∀ q, q < 32 → F q = (f q).toInt64) → (hgL F k = 0 ∧ hiF f k = NON) ∨ (0 < hgL F k ∧ hgL F k ≤ 6 ∧ hiF f k = nI (hgL F k - 1))
  | 0, _, _ => Or.inl ⟨rfl, rfl⟩
  | k + 1, hk, h => by
    have h5 := pc5_le k
    have e0 : F k ≠ 0 ↔ f k ≠ 0 := by rw [h k (by omega), Ne, i64_0]
    rw [hgL, hiF]
    rcases r_high k (by omega) h with ⟨a1, a2⟩ | ⟨a0, a1, a2⟩
    · by_cases hf : f k ≠ 0
      · refine Or.inr ?_
        rw [if_pos ⟨e0.mpr hf, by omega⟩, if_pos ⟨hf, by rw [a2]; exact NON_lt _ (by omega)⟩]
        exact ⟨by omega, by omega, rfl⟩
      · refine Or.inl ?_
        rw [if_neg (fun z => hf (e0.mp z.1)), if_neg (fun z => hf z.1)]
        exact ⟨a1, a2⟩
    · refine Or.inr ?_
      by_cases hf : f k ≠ 0
      · by_cases hl : hgL F k < pc5 k + 1
        · rw [if_pos ⟨e0.mpr hf, hl⟩, if_pos ⟨hf, by rw [a2]; exact nI_lt (by omega) (by omega)⟩]
          exact ⟨by omega, by omega, rfl⟩
        · rw [if_neg (fun z => hl z.2), if_neg (fun z => ?_)]
          · exact ⟨a0, a1, a2⟩
          · have e := z.2
            rw [a2] at e
            exact nI_nlt (by omega) (by omega) e
      · rw [if_neg (fun z => hf (e0.mp z.1)), if_neg (fun z => hf z.1)]
        exact ⟨a0, a1, a2⟩
/-- both say alike whether there is one grade -/
theorem lw_hg {F : Nat → Int64} : ∀ k, k ≤ 32 → (lwL F k = 9 ↔ hgL F k = 0)
  | 0, _ => ⟨fun _ => rfl, fun _ => rfl⟩
  | k + 1, hk => by
    have h5 := pc5_le k
    have ih := lw_hg (F := F) k (by omega)
    have := lwL_le F k
    rw [lwL, hgL]
    by_cases hf : F k ≠ 0
    · constructor
      · intro z
        split at z
        · omega
        · rename_i h2; exact absurd ⟨hf, by omega⟩ h2
      · intro z
        split at z
        · omega
        · rename_i h2; exact absurd ⟨hf, by omega⟩ h2
    · rw [if_neg (fun z => hf z.1), if_neg (fun z => hf z.1)]
      exact ih
theorem r_most {f : Nat → Int32} {F : Nat → Int64} : ∀ k, k ≤ 32 → (∀ q, q < 32 → F q = (f q).toInt64) → bdF f → mxL F k = (gmF f k).toInt64 ∧ 0 ≤ (gmF f k).toInt ∧ (gmF f k).toInt ≤ 100000000
  | 0, _, _, _ => ⟨rfl, (by decide : 0 ≤ (0 : Int32).toInt), (by decide : (0 : Int32).toInt ≤ 100000000)⟩
  | k + 1, hk, h, hb => by
    obtain ⟨a1, a2, a3⟩ := r_most k (by omega) h hb
    obtain ⟨b1, b2⟩ := hb k (by omega)
    have en : (-(f k)).toInt = -(f k).toInt := by rw [Int32.toInt_neg, Int.bmod_eq_of_le (by omega) (by omega)]
    have eg : gmF f (k + 1) = imax (gmF f k) (iabs (f k)) := rfl
    have el : mxL F (k + 1) = if mxL F k < F k then F k else if mxL F k < -F k then -F k else mxL F k := rfl
    rw [el, eg, a1, h k (by omega), ← neg_64 ⟨b1, b2⟩]
    simp only [Int64.lt_iff_toInt_lt, Int32.toInt_toInt64]
    unfold imax iabs
    simp only [Int32.lt_iff_toInt_lt]
    rw [show (0 : Int32).toInt = 0 from rfl]
    by_cases c1 : (gmF f k).toInt < (f k).toInt
    · rw [if_pos c1, if_neg (show ¬ (f k).toInt < 0 by omega), if_pos c1]
      exact ⟨rfl, by omega, by omega⟩
    · rw [if_neg c1]
      by_cases c2 : (gmF f k).toInt < (-(f k)).toInt
      · rw [if_pos c2, if_pos (show (f k).toInt < 0 by omega), if_pos c2]
        exact ⟨rfl, by omega, by omega⟩
      · rw [if_neg c2]
        by_cases c3 : (f k).toInt < 0
        · rw [if_pos c3, if_neg c2]
          exact ⟨rfl, a2, a3⟩
        · rw [if_neg c3, if_neg c1]
          exact ⟨rfl, a2, a3⟩
theorem cnL_0 {f : Nat → Int64} : ∀ k, cnL f k = 0 ↔ ∀ j, j < k → f j = 0
  | 0 => ⟨fun _ j hj => absurd hj (Nat.not_lt_zero j), fun _ => rfl⟩
  | k + 1 => by
    rw [cnL]
    constructor
    · intro h j hj
      by_cases e : f k = 0
      · rw [if_pos e] at h
        by_cases ej : j = k
        · subst ej; exact e
        · exact (cnL_0 k).mp (by omega) j (by omega)
      · rw [if_neg e] at h; omega
    · intro h
      rw [if_pos (h k (by omega)), (cnL_0 k).mpr (fun j hj => h j (by omega))]
theorem alz_iff {f : Nat → Int64} {B : Nat} : alz f B = true ↔ ∀ j, j < B → f j = 0 := by
  unfold alz
  constructor
  · intro h j hj
    by_cases e : f j = 0
    · exact e
    · exfalso
      have : ∀ N, j < N → fsO (fun k => decide (f k ≠ 0)) N ≠ none := fun N hN z => by
        induction N with
        | zero => omega
        | succ N ih =>
          rw [fsO] at z
          cases q : fsO (fun k => decide (f k ≠ 0)) N with
          | some w => rw [q] at z; cases z
          | none =>
            rw [q] at z
            by_cases ej : j = N
            · subst ej
              simp [e] at z
            · exact ih (by omega) q
      rw [Option.isNone_iff_eq_none] at h
      exact this B hj h
  · intro h
    rw [fsO_none (fun j hj => by simp [h j hj])]
    rfl
theorem r_pv {f : Nat → Int32} {F : Nat → Int64} {i : Nat} (hi : i < 32) (hF : ∀ q, q < 32 → F q = (f q).toInt64) (hb : bdF f) : ∀ e, e ≤ 5 → ∀ q, vcF (ptU F i) e q = (pvF f i e q).toInt64
  | 0, _, _ => rfl
  | e + 1, he, q => by
    rw [vcF, pvF]
    by_cases hq : q = 2 ^ e
    · rw [if_pos hq]
      simp only [hq, if_true]
      unfold ptU paI
      by_cases ht : i.testBit e = true
      · rw [if_pos ht, if_pos ht]; rfl
      · rw [if_neg ht, if_neg ht]
        have hor := or_lt i hi (2 ^ e) (pow2_lt e (by omega))
        rw [hF _ hor, odI_sg]
        unfold sg sgI
        cases odT i (2 ^ e) with
        | true => rw [if_pos rfl, if_pos rfl, neg_64 (hb _ hor)]
        | false => rw [if_neg Bool.false_ne_true, if_neg Bool.false_ne_true]
    · rw [if_neg hq, r_pv hi hF hb e (by omega) q]
      simp only [hq, if_false]
theorem r_pwz {f : Nat → Int32} {F : Nat → Int64} {i n : Nat} (hn : n ≤ 5) (hi : i < 32) (hF : ∀ q, q < 32 → F q = (f q).toInt64) (hb : bdF f) : decide (cnL (wdg F (vcF (ptU F i) n) (2 ^ n)) 32 = 0) = pwz f i n := by
  have hB := (pow_le32 n hn).1
  have e : ∀ k, wdg F (vcF (ptU F i) n) (2 ^ n) k = wC f (pvF f i n) (2 ^ n) k := fun k => r_wdg hB hF (fun q _ => r_pv hi hF hb n hn q)
  unfold pwz
  rw [Bool.eq_iff_iff, decide_eq_true_eq, cnL_0, alz_iff]
  constructor
  · intro h j hj
    rw [← e j]
    exact h j (by omega)
  · intro h j hj
    by_cases hjB : j < 2 ^ n
    · rw [e j]; exact h j hjB
    · exact wdg_hi hn hj (by omega)
theorem nI_m1 : ∀ p, p < 6 → ∀ g, g < 6 → (nI p = nI g - 1 ↔ p + 1 = g) := by decide +kernel
/-- decomposable as told -/
theorem r_dt {f : Nat → Int32} {F : Nat → Int64} {n : Nat} (hn : n ≤ 5) (hF : ∀ q, q < 32 → F q = (f q).toInt64) (hb : bdF f) : dtF f n = if nI (lwL F 32) = nI (hgL F 32) - 1 then b2i (fsO (pnL F n) (2 ^ n)).isNone else NON := by
  have hB := (pow_le32 n hn).1
  have h1 := r_low (f := f) 32 (Nat.le_refl 32) hF
  have h2 := r_high (f := f) 32 (Nat.le_refl 32) hF
  have h3 := lw_hg (F := F) 32 (Nat.le_refl 32)
  unfold dtF grF
  rcases h1 with ⟨a1, a2⟩ | ⟨a1, a2⟩
  · rcases h2 with ⟨b1, b2⟩ | ⟨b0, b1, b2⟩
    · rw [a2, b2, a1, b1, if_pos rfl, if_pos rfl, if_neg (by decide)]
    · omega
  · rcases h2 with ⟨b1, b2⟩ | ⟨b0, b1, b2⟩
    · omega
    · obtain ⟨h, hh⟩ : ∃ h, hgL F 32 = h + 1 := ⟨hgL F 32 - 1, by omega⟩
      rw [a2, b2, hh, nI_pred, Nat.add_sub_cancel]
      by_cases e : lwL F 32 = h
      · have e2 : nI (lwL F 32) = nI h := by rw [e]
        rw [if_pos e2, if_pos e2, if_neg (nI_NON (by omega))]
        congr 2
        refine fsO_cong (fun i hi => ?_)
        unfold dtP pnL
        rw [r_pwz hn (by omega) hF hb]
        congr 1
        unfold grF
        rw [a2, b2, hh, Nat.add_sub_cancel, if_pos e2]
        have h5 := pc5_le i
        exact decide_eq_decide.mpr (nI_m1 _ (by omega) _ (by omega))
      · have e2 : ¬ nI (lwL F 32) = nI h := fun z => e ((nI_eq (by omega) (by omega)).mp z)
        rw [if_neg e2, if_neg e2, if_pos rfl]
