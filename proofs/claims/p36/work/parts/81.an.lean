/-! THE ANNIHILATORS of both sides are the same -/
theorem gm_60 {f : Nat → Int32} {m : Nat} (hb : ∀ k, k < m → -100000000 ≤ (f k).toInt ∧ (f k).toInt ≤ 100000000) (h : gmF f m ≤ 60) : ∀ k, k < m → -60 ≤ (f k).toInt ∧ (f k).toInt ≤ 60 := by
  induction m with
  | zero => intro k hk; omega
  | succ m ih =>
    rw [gmF] at h
    have hx : gmF f m ≤ 60 ∧ iabs (f m) ≤ 60 := by
      unfold imax at h
      split at h
      · rename_i h2
        exact ⟨Int32.le_of_lt (Int32.lt_of_lt_of_le h2 h), h⟩
      · rename_i h2
        exact ⟨h, Int32.le_trans (Int32.not_lt.mp h2) h⟩
    intro k hk
    by_cases e : k = m
    · subst e
      have h1 := hb k hk
      have h2 := iabs_n h1.1 h1.2
      have h3 := Int32.le_iff_toInt_le.mp hx.2
      have h4 : (iabs (f k)).toInt = ((f k).toInt.natAbs : Int) := by
        have := congrArg Int64.toInt h2
        rw [Int32.toInt_toInt64, Int64.toInt_ofInt_of_le (by omega) (by omega)] at this
        exact this
      rw [h4] at h3
      have h5 : (60 : Int32).toInt = 60 := rfl
      omega
    · exact ih (fun k hk => hb k (by omega)) hx.1 k (by omega)
theorem CI.start {f : Nat → Int32} {n : Nat} : CI f n 0 n (stV n (fun _ _ => 0)) (fun p => p) := by
  have st : ∀ p d, p < n → d < n → stV n (fun _ _ => 0) p d = if p = d then 1 else 0 := fun p d hp hd => if_pos ⟨hp, hd⟩
  have st1 : ∀ p d, p < n → d < n → (stV n (fun _ _ => 0) p d).toInt = if p = d then 1 else 0 := fun p d hp hd => by rw [st p d hp hd]; split <;> rfl
  refine ⟨fun p hp => hp, fun p q h _ => h, fun p hp => ⟨?_, fun d hd => ?_, fun q hq hne => ?_⟩, fun p hp k hk => ?_, fun v _ hz d hd => hz d hd, fun p hp => ?_, Nat.le_refl n⟩
  · rw [st1 p p hp hp, if_pos rfl]; decide
  · have hd : d < p := hd
    rw [st1 p d hp (by omega), if_neg (by omega)]
  · rw [st1 p q hp hq, if_neg (fun e => hne e.symm)]
  · rw [sumI_cong (t := fun _ => 0) (fun d _ => ?_), sumI_0]
    unfold Bt
    split
    · have : k = 0 := by omega
      subst this
      rw [show lnF f n 0 d = 0 from if_neg (fun e => by simp at e)]
      exact Int.zero_mul _
    · exact Int.zero_mul _
  · have : ∀ m, m ≤ n → gN (fun d => (stV n (fun _ _ => 0) p d).toInt) m = if p < m then 1 else 0 := by
      intro m
      induction m with
      | zero => intro _; rfl
      | succ m ih =>
        intro hm
        rw [gN, ih (by omega), st1 p m hp (by omega)]
        by_cases e : p = m
        · subst e
          rw [if_neg (Nat.lt_irrefl p), if_pos rfl, if_pos (Nat.lt_succ_self p)]
          rfl
        · rw [if_neg e]
          by_cases e2 : p < m
          · rw [if_pos e2, if_pos (by omega)]; rfl
          · rw [if_neg e2, if_neg (by omega)]; rfl
    rw [this n (Nat.le_refl n), if_pos hp]
theorem fiC_CI {f : Nat → Int32} {n : Nat} (hn : n ≤ 5) (h60 : f60 f n) : ∀ b, b < 2 ^ n → ∃ hd, CI f n b (fiC f n b).1 (fiC f n b).2.1 hd
  | 0, _ => ⟨_, CI.start⟩
  | b + 1, hb => by
    obtain ⟨hd, h⟩ := fiC_CI hn h60 b (by omega)
    exact h.step hn h60 hb (fiC f n b).2.2
theorem Nu_all {f : Nat → Int32} {n : Nat} {v : Nat → Int} : Nu (Bt f n (2 ^ n - 1)) n v ↔ Nu (lnF f n) n v := by
  have e : ∀ k d, Bt f n (2 ^ n - 1) k d = lnF f n k d := fun k d => by
    unfold Bt
    by_cases h : k ≤ 2 ^ n - 1
    · rw [if_pos h]
    · rw [if_neg h, show lnF f n k d = 0 from if_neg (fun z => by omega)]
  unfold Nu
  simp only [e]
theorem ES_N {n : Nat} {N N' : (Nat → Int) → Prop} {S : Nat → Prop} {w : Nat → Nat → Int} (h : ES n N S w) (hN : ∀ v, N v ↔ N' v) : ES n N' S w :=
  ⟨fun l hl => by
    obtain ⟨a, b, c⟩ := h.1 l hl
    exact ⟨a, (hN _).mp b, c⟩, fun v hv => h.2 v ((hN v).mpr hv)⟩
theorem hdF_at {po : Nat → Option Nat} : ∀ (k c left h : Nat), po h = none → c ≤ h → h < c + k → cF po c (h - c) = left → hdF po k c left = some h
  | 0, c, left, h, _, h1, h2, _ => by omega
  | k + 1, c, left, h, hf, h1, h2, hl => by
    rw [hdF]
    by_cases e : h = c
    · subst e
      rw [Nat.sub_self] at hl
      have hl : 0 = left := hl
      rw [hf, ← hl]
      rfl
    · obtain ⟨m, hm⟩ : ∃ m, h - c = m + 1 := ⟨h - c - 1, by omega⟩
      rw [hm, cF_front] at hl
      have hm2 : h - (c + 1) = m := by omega
      cases hc : po c with
      | none =>
        rw [hc] at hl
        simp only [Option.isNone_none, if_true] at hl ⊢
        rw [if_neg (by omega)]
        exact hdF_at k (c + 1) (left - 1) h hf (by omega) (by omega) (by rw [hm2]; omega)
      | some q =>
        rw [hc] at hl
        have hl : 0 + cF po (c + 1) m = left := hl
        show hdF po k (c + 1) left = some h
        exact hdF_at k (c + 1) left h hf (by omega) (by omega) (by rw [hm2]; omega)
theorem hdF_no {po : Nat → Option Nat} : ∀ (k c left : Nat), cF po c k ≤ left → hdF po k c left = none
  | 0, _, _, _ => rfl
  | k + 1, c, left, hl => by
    rw [cF_front] at hl
    rw [hdF]
    cases hc : po c with
    | none =>
      rw [hc] at hl
      simp only [Option.isNone_none, if_true] at hl ⊢
      rw [if_neg (by omega)]
      exact hdF_no k (c + 1) (left - 1) (by omega)
    | some q =>
      rw [hc] at hl
      have hl : 0 + cF po (c + 1) k ≤ left := hl
      show hdF po k (c + 1) left = none
      exact hdF_no k (c + 1) left (by omega)
theorem cF_en {po : Nat → Option Nat} {n z : Nat} {hd : Nat → Nat} (hmono : ∀ p q, p < q → q < z → hd p < hd q) (hS : ∀ l, (∃ p, p < z ∧ hd p = l) ↔ (l < n ∧ po l = none)) : ∀ x p, x ≤ n → p ≤ z → (∀ q, q < p → hd q < x) → (∀ q, p ≤ q → q < z → x ≤ hd q) → cF po 0 x = p
  | 0, p, _, _, h1, _ => by
    by_cases e : p = 0
    · rw [e]; rfl
    · exact absurd (h1 0 (by omega)) (by omega)
  | x + 1, p, hx, hp, h1, h2 => by
    rw [cF, Nat.zero_add]
    cases hc : po x with
    | none =>
      obtain ⟨q, hq, hqx⟩ := (hS x).mpr ⟨by omega, hc⟩
      have hqp : q < p := by
        by_cases e : q < p
        · exact e
        · have := h2 q (by omega) hq; omega
      have hq1 : q = p - 1 := by
        by_cases e : q = p - 1
        · exact e
        · have := hmono q (p - 1) (by omega) (by omega)
          have := h1 (p - 1) (by omega)
          omega
      have ih := cF_en hmono hS x (p - 1) (by omega) (by omega) (fun q' hq' => by have := hmono q' q (by omega) hq; omega) (fun q' h3 h4 => by
        by_cases e : q' = q
        · rw [e]; omega
        · have := hmono q q' (by omega) h4; omega)
      rw [ih]
      simp
      omega
    | some r =>
      have hne : ∀ q, q < z → hd q ≠ x := fun q hq e => by
        have := ((hS x).mp ⟨q, hq, e⟩).2
        rw [hc] at this
        cases this
      have ih := cF_en hmono hS x p (by omega) hp (fun q hq => by have := h1 q hq; have := hne q (by omega); omega) (fun q h3 h4 => by have := h2 q h3 h4; omega)
      rw [ih]
      rfl
theorem gF_gN {G : GS} {h : Nat} : ∀ d, gF G h d = gN (uu G h) d
  | 0 => rfl
  | d + 1 => by rw [gF, gN, gF_gN d]; rfl
/-- THE SAME DIMENSION, THE SAME NUMBERS -/
theorem an_all {g : Nat → Int32} {n : Nat} (hn : n ≤ 5) (h60 : f60 g n) : (fiC g n (2 ^ n - 1)).1 = n - (slG g n n).2.1 ∧ (∀ p, p < (fiC g n (2 ^ n - 1)).1 → ∀ d, d < n → ((fiC g n (2 ^ n - 1)).2.1 p d).toInt32 = baG (slG g n n) n p d) ∧ (∀ p, (fiC g n (2 ^ n - 1)).1 ≤ p → ∀ d, baG (slG g n n) n p d = NON) ∧ rwOK (slG g n n) n := by
  obtain ⟨hd, hC⟩ := fiC_CI hn h60 (2 ^ n - 1) (by have := Nat.two_pow_pos n; omega)
  generalize fiC g n (2 ^ n - 1) = K at hC
  obtain ⟨z, V, w0⟩ := K
  have hC : CI g n (2 ^ n - 1) z V hd := hC
  rw [slG_M]
  obtain ⟨e1, e2⟩ := slM_ES (A0 := lnF g n) (fun k _ d hd' => lnF_sb hn h60 hd') hn
  obtain ⟨u1, u2⟩ := ES.uniq (Nu_LN _ _) (ES_N hC.es (fun v => Nu_all)) e1
  have hcnt := slM_cnt (A0 := lnF g n) (n := n) n (Nat.le_refl n)
  rw [Nat.sub_self] at hcnt
  generalize slM (lnF g n) n n = G at e1 e2 u1 u2 hcnt
  have hU : UBn G.2.1 ≤ 1555200000 := by unfold UBn; split <;> omega
  have hall := cF_en (po := G.2.2.2) hC.2.1 u1
  have hz : cF G.2.2.2 0 n = z := hall n z (Nat.le_refl n) (Nat.le_refl z) (fun q hq => hC.1 q hq) (fun q h1 h2 => by omega)
  refine ⟨by show z = n - G.2.1; omega, fun p hp d hd' => ?_, fun p hp d => ?_, fun h hh hf d hd' e => ?_⟩
  · have hp : p < z := hp
    have hS : ∃ q, q < z ∧ hd q = hd p := ⟨p, hp, rfl⟩
    have hH := (u1 _).mp hS
    have hcp : cF G.2.2.2 0 (hd p) = p := hall (hd p) p (by have := hC.1 p hp; omega) (by omega) (fun q hq => hC.2.1 q p hq hp) (fun q h1 h2 => by
      by_cases e : q = p
      · rw [e]; exact Nat.le_refl _
      · have := hC.2.1 p q (by omega) h2; omega)
    have hdo : hdO G n p = some (hd p) := hdF_at n 0 p (hd p) hH.2 (Nat.zero_le _) (by have := hH.1; omega) (by rw [Nat.sub_zero]; exact hcp)
    have hu := u2 _ hS
    rw [CIw_at hC hp] at hu
    have hpos := (hC.2.2.1 p hp).1
    obtain ⟨t, t1, t2⟩ := prim_dvd (x := fun d => (V p d).toInt) (u := uu G (hd p)) (hC.2.2.2.2.2.1 p hp) hu (by show (V p (hd p)).toInt ≠ 0; omega)
    have ht0 : t ≠ 0 := fun e => by
      rw [e, Int.mul_zero] at t1
      exact (e1.1 _ hH).2.2.1 t1
    have hg : gF G (hd p) n = t.natAbs := by
      rw [gF_gN, ← gN_cong (x := fun d => t * (V p d).toInt) t2, gN_mul, hC.2.2.2.2.2.1 p hp, Nat.mul_one]
    have hp1 : G.2.2.1.toInt = (V p (hd p)).toInt * t := by
      rw [← t1]
      unfold uu rawF
      rw [if_pos rfl]
    have tb : t.natAbs ≤ 1555200000 := by
      have := e2 _ hH (hd p) hH.1
      rw [t1] at this
      have h1 : ((V p (hd p)).toInt * t).natAbs ≤ 1555200000 := by
        have : -1555200000 ≤ (V p (hd p)).toInt * t ∧ (V p (hd p)).toInt * t ≤ 1555200000 := ⟨by omega, by omega⟩
        omega
      rw [Int.natAbs_mul] at h1
      exact Nat.le_trans (Nat.le_mul_of_pos_left _ (by omega)) h1
    have hsgn : (if G.2.2.1 < 0 then -(nL (gF G (hd p) n)) else nL (gF G (hd p) n)).toInt = t := by
      rw [hg]
      by_cases e : G.2.2.1 < 0
      · rw [if_pos e]
        have e3 : (V p (hd p)).toInt * t < 0 := by rw [← hp1]; exact Int64.lt_iff_toInt_lt.mp e
        have e4 : t < 0 := by
          apply Classical.byContradiction
          intro hge
          have : 0 ≤ (V p (hd p)).toInt * t := Int.mul_nonneg (by omega) (by omega)
          omega
        rw [neg_I (by rw [nL_toInt (by omega)]; omega), nL_toInt (by omega)]
        omega
      · rw [if_neg e]
        have e3 : ¬ (V p (hd p)).toInt * t < 0 := by rw [← hp1]; exact fun z => e (Int64.lt_iff_toInt_lt.mpr z)
        have e4 : 0 ≤ t := by
          apply Classical.byContradiction
          intro hlt
          have : 0 < (V p (hd p)).toInt * -t := Int.mul_pos (by omega) (by omega)
          rw [Int.mul_neg] at this
          omega
        rw [nL_toInt (by omega)]
        omega
    have hVb := (hC.bd hn h60 hp).1 d hd'
    unfold baG
    rw [hdo]
    show (V p d).toInt32 = bsR G n (hd p) d
    unfold bsR
    congr 1
    apply Int64.toInt_inj.mp
    rw [div_I (z := (V p d).toInt) (by rw [hsgn]; exact ht0) (by rw [hsgn]; exact (t2 d hd').symm) (by omega)]
  · have hp : z ≤ p := hp
    unfold baG hdO
    rw [hdF_no n 0 p (by omega)]
  · have := e2 h ⟨hh, hf⟩ d hd'
    unfold uu at this
    rw [e] at this
    have : (Int64.minValue).toInt = -2 ^ 63 := rfl
    omega
section FBs
variable {f g : Nat → Int32} {n : Nat}
end FBs
