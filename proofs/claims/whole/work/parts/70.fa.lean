/-! BOTH SIDES: what is told of one form -/
/-- a form of the class and one of the reference are the same: nothing beyond the dimension, no number too large -/
def FA (f g : Nat → Int32) (n : Nat) : Prop := (∀ k, k < 32 → f k = g k) ∧ (∀ k, 2 ^ n ≤ k → k < 32 → g k = 0) ∧ ∀ k, k < 32 → -100000000 ≤ (g k).toInt ∧ (g k).toInt ≤ 100000000
theorem z_up {α : Type} (T : Nat → α) {B : Nat} (hB : B ≤ 32) (h : ∀ k, B ≤ k → k < 32 → T (k + 1) = T k) : T 32 = T B := by
  have key : ∀ m, B + m ≤ 32 → T (B + m) = T B := by
    intro m
    induction m with
    | zero => intro _; rfl
    | succ m ih =>
      intro hm
      rw [← ih (by omega)]
      exact h (B + m) (by omega) (by omega)
  have := key (32 - B) (by omega)
  rw [show B + (32 - B) = 32 by omega] at this
  exact this
theorem loF_cong {f g : Nat → Int32} : ∀ {n : Nat}, (∀ j, j < n → f j = g j) → loF f n = loF g n
  | 0, _ => rfl
  | n + 1, h => by rw [loF, loF, loF_cong (fun j hj => h j (by omega)), h n (by omega)]
theorem hiF_cong {f g : Nat → Int32} : ∀ {n : Nat}, (∀ j, j < n → f j = g j) → hiF f n = hiF g n
  | 0, _ => rfl
  | n + 1, h => by rw [hiF, hiF, hiF_cong (fun j hj => h j (by omega)), h n (by omega)]
theorem gmF_cong {f g : Nat → Int32} : ∀ {n : Nat}, (∀ j, j < n → f j = g j) → gmF f n = gmF g n
  | 0, _ => rfl
  | n + 1, h => by rw [gmF, gmF, gmF_cong (fun j hj => h j (by omega)), h n (by omega)]
theorem ldO_cong {f g : Nat → Int32} : ∀ {n : Nat}, (∀ j, j < n → f j = g j) → ldO f n = ldO g n
  | 0, _ => rfl
  | n + 1, h => by rw [ldO, ldO, ldO_cong (fun j hj => h j (by omega)), h n (by omega)]
theorem drF_cong {f g : Nat → Int32} : ∀ {n : Nat}, (∀ j, j < n → f j = g j) → drF f n = drF g n
  | 0, _ => rfl
  | n + 1, h => by rw [drF, drF, drF_cong (fun j hj => h j (by omega)), h n (by omega)]
theorem gm_nn {f : Nat → Int32} : ∀ n, ¬ gmF f n < 0
  | 0 => by show ¬ (0 : Int32) < 0; decide
  | n + 1 => by
    have h := gm_nn (f := f) n
    rw [gmF]
    unfold imax
    split
    · rename_i h2
      intro h3
      exact h (Int32.lt_trans h2 h3)
    · exact h
section FAs
variable {f g : Nat → Int32} {n : Nat}
theorem fa_cnz (h : FA f g n) (hn : n ≤ 5) : cnz f 32 = cnz g (2 ^ n) := by
  rw [cnz_cong h.1]
  exact z_up (cnz g) (pow_le32 n hn).1 (fun k h1 h2 => by rw [cnz, h.2.1 k h1 h2]; rfl)
theorem fa_lo (h : FA f g n) (hn : n ≤ 5) : loF f 32 = loF g (2 ^ n) := by
  rw [loF_cong h.1]
  exact z_up (loF g) (pow_le32 n hn).1 (fun k h1 h2 => by rw [loF, if_neg (fun e => e.1 (h.2.1 k h1 h2))])
theorem fa_hi (h : FA f g n) (hn : n ≤ 5) : hiF f 32 = hiF g (2 ^ n) := by
  rw [hiF_cong h.1]
  exact z_up (hiF g) (pow_le32 n hn).1 (fun k h1 h2 => by rw [hiF, if_neg (fun e => e.1 (h.2.1 k h1 h2))])
theorem fa_gr (h : FA f g n) (hn : n ≤ 5) : grF f 32 = grF g (2 ^ n) := by unfold grF; rw [fa_lo h hn, fa_hi h hn]
theorem fa_gm (h : FA f g n) (hn : n ≤ 5) : gmF f 32 = gmF g (2 ^ n) := by
  rw [gmF_cong h.1]
  refine z_up (gmF g) (pow_le32 n hn).1 (fun k h1 h2 => ?_)
  rw [gmF, h.2.1 k h1 h2]
  exact if_neg (gm_nn k)
theorem fa_ld (h : FA f g n) (hn : n ≤ 5) : ldO f 32 = ldO g (2 ^ n) := by
  rw [ldO_cong h.1]
  refine z_up (ldO g) (pow_le32 n hn).1 (fun k h1 h2 => ?_)
  rw [ldO, h.2.1 k h1 h2]
  cases ldO g k <;> rfl
theorem fa_dr (h : FA f g n) (hn : n ≤ 5) : drF f 32 = drF g (2 ^ n) := by
  rw [drF_cong h.1]
  refine z_up (drF g) (pow_le32 n hn).1 (fun k h1 h2 => ?_)
  rw [drF, h.2.1 k h1 h2]
  rfl
theorem fa_ldI (h : FA f g n) (hn : n ≤ 5) : ldI f 32 = ldI g (2 ^ n) := by unfold ldI; rw [fa_ld h hn]
theorem fa_lc (h : FA f g n) (hn : n ≤ 5) : lcI f 32 = lcI g (2 ^ n) := by
  unfold lcI
  rw [fa_ld h hn]
  cases hq : ldO g (2 ^ n) with
  | none => rfl
  | some q => exact h.1 q (by have := (ldO_some hq).1; have := (pow_le32 n hn).1; omega)
theorem fa_pr (h : FA f g n) (hn : n ≤ 5) {k : Nat} (hk : k < 8) : prF f 32 k = prF g (2 ^ n) k := by
  match k, hk with
  | 0, _ => show nI (cnz f 32) = nI (cnz g (2 ^ n)); rw [fa_cnz h hn]
  | 1, _ => exact fa_gr h hn
  | 2, _ => exact fa_lo h hn
  | 3, _ => exact fa_hi h hn
  | 4, _ => exact fa_gm h hn
  | 5, _ => exact fa_ldI h hn
  | 6, _ => exact fa_lc h hn
  | 7, _ => show nI (drF f 32) = nI (drF g (2 ^ n)); rw [fa_dr h hn]
theorem fa_SM (h : FA f g n) : SM g := fun k hk e => by
  have h1 := (h.2.2 k hk).1
  rw [e] at h1
  exact absurd h1 (by decide)
theorem cnz_ld {f : Nat → Int32} : ∀ n, cnz f n = 0 ↔ ldO f n = none
  | 0 => ⟨fun _ => rfl, fun _ => rfl⟩
  | n + 1 => by
    have ih := cnz_ld (f := f) n
    rw [cnz, ldO]
    cases h : ldO f n with
    | some q =>
      rw [h] at ih
      constructor
      · intro e
        have : cnz f n = 0 := by omega
        exact absurd (ih.mp this) (by simp)
      · intro e; simp at e
    | none =>
      rw [h] at ih
      have h0 := ih.mpr rfl
      rw [h0]
      by_cases e : f n = 0
      · simp [e]
      · simp [e]
/-- all grades lie between the lowest and the highest -/
theorem lo_hi {f : Nat → Int32} : ∀ n k, k < n → f k ≠ 0 → loF f n ≠ NON ∧ loF f n ≤ nI (pc5 k) ∧ nI (pc5 k) ≤ hiF f n
  | 0, _, hk, _ => absurd hk (by omega)
  | n + 1, k, hk, hf => by
    have hp := pc5_le n
    rw [loF, hiF]
    by_cases e : k = n
    · subst e
      refine ⟨?_, ?_, ?_⟩
      · split
        · exact NON_ne (by omega)
        · rename_i h; exact fun z => h ⟨hf, Or.inl z⟩
      · split
        · exact Int32.le_refl _
        · rename_i h; exact Int32.not_lt.mp (fun z => h ⟨hf, Or.inr z⟩)
      · split
        · exact Int32.le_refl _
        · rename_i h; exact Int32.not_lt.mp (fun z => h ⟨hf, z⟩)
    · obtain ⟨i1, i2, i3⟩ := lo_hi n k (by omega) hf
      refine ⟨?_, ?_, ?_⟩
      · split
        · exact NON_ne (by omega)
        · exact i1
      · split
        · rename_i h; exact Int32.le_of_lt (Int32.lt_of_lt_of_le (h.2.resolve_left i1) i2)
        · exact i2
      · split
        · rename_i h; exact Int32.le_of_lt (Int32.lt_of_le_of_lt i3 h.2)
        · exact i3
theorem lo_none {f : Nat → Int32} : ∀ n, ldO f n = none → loF f n = NON ∧ hiF f n = NON
  | 0, _ => ⟨rfl, rfl⟩
  | n + 1, h => by
    rw [ldO] at h
    cases h2 : ldO f n with
    | some q => rw [h2] at h; cases h
    | none =>
      rw [h2] at h
      obtain ⟨i1, i2⟩ := lo_none n h2
      have h0 : f n = 0 := by
        by_cases e : f n = 0
        · exact e
        · simp [e] at h
      rw [loF, hiF, if_neg (fun e => e.1 h0), if_neg (fun e => e.1 h0)]
      exact ⟨i1, i2⟩
theorem btw_pos {lo hi : Int32} : ∀ n k, k < n → lo ≤ nI (pc5 k) → nI (pc5 k) ≤ hi → btw lo hi n ≠ 0
  | 0, _, hk, _, _ => absurd hk (by omega)
  | n + 1, k, hk, h1, h2 => by
    rw [btw]
    by_cases e : k = n
    · subst e
      rw [if_pos ⟨h1, h2⟩]
      omega
    · have := btw_pos n k (by omega) h1 h2
      split
      · omega
      · exact this
theorem btw_none : ∀ n, btw NON NON n = 0
  | 0 => rfl
  | n + 1 => by
    rw [btw, if_neg (fun e => ?_)]
    · exact btw_none n
    · have h2 := e.2
      have : (NON : Int32) < nI (pc5 n) := Int32.lt_of_lt_of_le (show (NON : Int32) < nI 0 by decide) (nI_le (Nat.zero_le _) (by have := pc5_le n; omega))
      exact absurd h2 (Int32.not_le.mpr this)
theorem btw_ne {f : Nat → Int32} {B : Nat} (h : ldI f B ≠ NON) : btw (loF f B) (hiF f B) B ≠ 0 := by
  unfold ldI at h
  cases hq : ldO f B with
  | none => rw [hq] at h; exact absurd rfl h
  | some q =>
    obtain ⟨q1, q2, -⟩ := ldO_some hq
    obtain ⟨-, i2, i3⟩ := lo_hi B q q1 q2
    exact btw_pos B q q1 i2 i3
theorem fa_de (h : FA f g n) (hn : n ≤ 5) : deF f (2 ^ n) = deR g (2 ^ n) := by
  have hB := pow_le32 n hn
  unfold deF deR
  rw [fa_cnz h hn, fa_lo h hn, fa_hi h hn]
  by_cases e : ldI g (2 ^ n) = NON
  · rw [if_pos e]
    have : ldO g (2 ^ n) = none := by
      unfold ldI at e
      cases hq : ldO g (2 ^ n) with
      | none => rfl
      | some q =>
        rw [hq] at e
        exact absurd e (NON_ne (by have := (ldO_some hq).1; omega))
    obtain ⟨i1, i2⟩ := lo_none _ this
    rw [i1, i2, btw_none]
    rfl
  · rw [if_neg e]
    unfold deQ
    rw [if_neg (btw_ne e)]
/-- the lead has the grade -/
theorem gr_ld {f : Nat → Int32} {B gr : Nat} (h : grF f B = nI gr) (hg : gr ≤ 5) : ∃ q, ldO f B = some q ∧ pc5 q = gr := by
  unfold grF at h
  by_cases e : loF f B = hiF f B
  · rw [if_pos e] at h
    cases hq : ldO f B with
    | none =>
      rw [(lo_none B hq).1] at h
      exact absurd h.symm (NON_ne (by omega))
    | some q =>
      obtain ⟨q1, q2, -⟩ := ldO_some hq
      obtain ⟨-, i2, i3⟩ := lo_hi B q q1 q2
      refine ⟨q, rfl, ?_⟩
      rw [← e, h] at i3
      rw [h] at i2
      have hp := pc5_le q
      rw [nI_le_iff (by omega) (by omega)] at i2 i3
      omega
  · rw [if_neg e] at h
    exact absurd h.symm (NON_ne (by omega))
theorem ct_ld {f : Nat → Int32} {n : Nat} : ∀ gr, gr ≤ 5 → ctR f n = nI gr → 0 < gr → ∃ q, ldO f (2 ^ n) = some q ∧ pc5 q = gr := by
  intro gr hg h h0
  unfold ctR at h
  have hne : nI 0 ≠ nI gr := fun e => by have := nI_inj (by omega) (by omega) e; omega
  split at h
  · exact absurd h hne
  · split at h
    · exact gr_ld h hg
    · exact absurd h hne
/-! shares -/
def nB (f : Nat → Int32) : Nat → Nat
  | 0 => 0
  | k + 1 => nB f k + (f k).toInt.natAbs
def nA (f : Nat → Int32) (g : Int32) : Nat → Nat
  | 0 => 0
  | k + 1 => nA f g k + if nI (pc5 k) = g then (f k).toInt.natAbs else 0
theorem iabs_n {x : Int32} (h1 : -100000000 ≤ x.toInt) (h2 : x.toInt ≤ 100000000) : (iabs x).toInt64 = Int64.ofInt (x.toInt.natAbs : Int) := by
  apply Int64.toInt_inj.mp
  rw [Int64.toInt_ofInt_of_le (by omega) (by omega), Int32.toInt_toInt64]
  unfold iabs
  by_cases e : x < 0
  · rw [if_pos e]
    have e2 : x.toInt < 0 := Int32.lt_iff_toInt_lt.mp e
    rw [Int32.toInt_neg, Int.bmod_eq_of_le (by omega) (by omega)]
    omega
  · rw [if_neg e]
    have e2 : ¬ x.toInt < 0 := fun z => e (Int32.lt_iff_toInt_lt.mpr z)
    omega
theorem nA_le {f : Nat → Int32} {g : Int32} : ∀ m, nA f g m ≤ nB f m
  | 0 => Nat.le_refl _
  | m + 1 => by
    have := nA_le (f := f) (g := g) m
    rw [nA, nB]
    split <;> omega
theorem nB_le (h : FA f g n) : ∀ m, m ≤ 32 → nB g m ≤ 100000000 * m
  | 0, _ => Nat.le_refl _
  | m + 1, hm => by
    have := nB_le h m (by omega)
    have := h.2.2 m (by omega)
    rw [nB]
    omega
theorem shB_n (h : FA f g n) : ∀ m, m ≤ 32 → shB g m = Int64.ofInt (nB g m : Int)
  | 0, _ => rfl
  | m + 1, hm => by
    have ih := shB_n h m (by omega)
    have hb := h.2.2 m (by omega)
    unfold shB at ih ⊢
    rw [sumL, ih, iabs_n hb.1 hb.2, ← Int64.ofInt_add, nB, Int.natCast_add]
theorem shA_n (h : FA f g n) {gr : Int32} : ∀ m, m ≤ 32 → shA g gr m = Int64.ofInt (nA g gr m : Int)
  | 0, _ => rfl
  | m + 1, hm => by
    have ih := shA_n h (gr := gr) m (by omega)
    have hb := h.2.2 m (by omega)
    unfold shA at ih ⊢
    rw [sumL, ih, nA]
    split
    · rw [iabs_n hb.1 hb.2, ← Int64.ofInt_add, Int.natCast_add]
    · rw [Int64.add_zero, Nat.add_zero]
theorem fa_shG (h : FA f g n) {gr : Int32} {m : Nat} (hm : m ≤ 32) : shG (shQ (shA g gr m) (shB g m)) := by
  rw [shB_n h m hm, shA_n h m hm]
  have := nB_le h m hm
  exact shG_q (nA_le m) (by omega)
theorem fa_shB (h : FA f g n) (hn : n ≤ 5) : shB f 32 = shB g (2 ^ n) := by
  rw [show shB f 32 = shB g 32 from sumL_cong (fun k hk => by rw [h.1 k hk])]
  refine z_up (shB g) (pow_le32 n hn).1 (fun k h1 h2 => ?_)
  unfold shB
  rw [sumL, h.2.1 k h1 h2]
  exact Int64.add_zero _
theorem fa_shA (h : FA f g n) (hn : n ≤ 5) {gr : Int32} : shA f gr 32 = shA g gr (2 ^ n) := by
  rw [show shA f gr 32 = shA g gr 32 from sumL_cong (fun k hk => by rw [h.1 k hk])]
  refine z_up (shA g gr) (pow_le32 n hn).1 (fun k h1 h2 => ?_)
  unfold shA
  rw [sumL, h.2.1 k h1 h2]
  split
  · exact Int64.add_zero _
  · exact Int64.add_zero _
theorem fa_sh (h : FA f g n) (hn : n ≤ 5) {gr : Nat} : shF f gr = shQ (shA g (nI gr) (2 ^ n)) (shB g (2 ^ n)) := by
  unfold shF
  rw [fa_shA h hn, fa_shB h hn]
theorem fa_okF (h : FA f g n) (hn : n ≤ 5) {gr : Nat} : vf_n64 (shF f gr) ∧ dbR (shF f gr) = some (shF f gr).toInt64 := by
  rw [fa_sh h hn]
  have := fa_shG h (gr := nI gr) (pow_le32 n hn).1
  exact ⟨shG_ok this, shG_bits this⟩
theorem cnz_btw {f : Nat → Int32} {lo hi : Int32} : ∀ m, (∀ k, k < m → f k ≠ 0 → lo ≤ nI (pc5 k) ∧ nI (pc5 k) ≤ hi) → cnz f m ≤ btw lo hi m
  | 0, _ => Nat.le_refl _
  | m + 1, h => by
    have ih := cnz_btw m (fun k hk => h k (by omega))
    rw [cnz, btw]
    by_cases e : f m = 0
    · rw [if_pos e]
      split <;> omega
    · rw [if_neg e, if_pos (h m (by omega) e)]
      omega
theorem fa_deQ (h : FA f g n) (hn : n ≤ 5) : fbR (deF f (2 ^ n)) = some (deF f (2 ^ n)).toInt32 ∧ nn32 (deR g (2 ^ n)) := by
  have hB := (pow_le32 n hn).1
  rw [← fa_de h hn]
  unfold deF
  rw [fa_cnz h hn, fa_lo h hn, fa_hi h hn]
  have h1 := btw_le (loF g (2 ^ n)) (hiF g (2 ^ n)) (2 ^ n)
  have h2 := cnz_btw (f := g) (2 ^ n) (fun k hk hf => (lo_hi (2 ^ n) k hk hf).2)
  exact ⟨fb_bits _ (by omega) _ (by omega) h2, de_self _ (by omega) _ (by omega)⟩
end FAs
