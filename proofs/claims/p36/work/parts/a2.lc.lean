/-! THE LAW'S pushes -/
theorem sumL_z {h : Nat → Int64} : ∀ {B : Nat}, (∀ i, i < B → h i = 0) → sumL h B = 0
  | 0, _ => rfl
  | B + 1, hz => by rw [sumL, sumL_z (fun i hi => hz i (Nat.lt_succ_of_lt hi)), hz B (Nat.lt_succ_self B), Int64.add_zero]
theorem sumL_pick {h : Nat → Int64} {x : Nat} : ∀ {B : Nat}, x < B → sumL h B = sumL (fun i => if i = x then 0 else h i) B + h x
  | 0, hx => absurd hx (Nat.not_lt_zero x)
  | B + 1, hx => by
    by_cases e : x = B
    · subst e
      rw [sumL, sumL, if_pos rfl, Int64.add_zero]
      congr 1
      exact sumL_cong (fun i hi => by rw [if_neg (by omega)])
    · rw [sumL, sumL, if_neg (fun z => e z.symm), sumL_pick (x := x) (B := B) (by omega), Int64.add_assoc, Int64.add_assoc, Int64.add_comm (h x)]
theorem sumL_re {P : Nat → Bool} {φ : Nat → Nat} {B : Nat} : ∀ (n : Nat) (h : Nat → Int64), (∀ r, r < n → ∀ r', r' < n → P r = true → P r' = true → φ r = φ r' → r = r') → (∀ r, r < n → P r = true → φ r < B) → (∀ i, i < B → (∀ r, r < n → P r = true → i ≠ φ r) → h i = 0) → sumL h B = sumL (fun r => if P r = true then h (φ r) else 0) n
  | 0, h, _, _, h3 => by
    rw [sumL_z (fun i hi => h3 i hi (fun r hr => absurd hr (Nat.not_lt_zero r)))]
    rfl
  | n + 1, h, h1, h2, h3 => by
    by_cases hp : P n = true
    · rw [sumL, if_pos hp, sumL_pick (h2 n (Nat.lt_succ_self n) hp)]
      congr 1
      rw [sumL_re n (fun i => if i = φ n then 0 else h i) (fun r hr r' hr' => h1 r (by omega) r' (by omega)) (fun r hr => h2 r (by omega)) (fun i hi hq => by
        by_cases e : i = φ n
        · exact if_pos e
        · show (if i = φ n then 0 else h i) = 0
          rw [if_neg e]
          exact h3 i hi (fun r hr hpr => by
            by_cases er : r = n
            · subst er; exact e
            · exact hq r (by omega) hpr))]
      refine sumL_cong (fun r hr => ?_)
      by_cases hpr : P r = true
      · rw [if_pos hpr, if_pos hpr]
        show (if φ r = φ n then 0 else h (φ r)) = h (φ r)
        rw [if_neg (fun e => by have := h1 r (by omega) n (by omega) hpr hp e; omega)]
      · rw [if_neg hpr, if_neg hpr]
    · rw [sumL, if_neg hp, Int64.add_zero]
      exact sumL_re n h (fun r hr r' hr' => h1 r (by omega) r' (by omega)) (fun r hr => h2 r (by omega)) (fun i hi hq => h3 i hi (fun r hr hpr => by
        by_cases er : r = n
        · subst er; exact absurd hpr hp
        · exact hq r (by omega) hpr))
/-- a vector as a form, out of its numbers below e -/
def vcF (u : Nat → Int64) : Nat → Nat → Int64
  | 0, _ => 0
  | e + 1, q => if q = 2 ^ e then u e else vcF u e q
theorem vcF_z {u : Nat → Int64} {q : Nat} : ∀ e, (∀ r, r < e → q ≠ 2 ^ r) → vcF u e q = 0
  | 0, _ => rfl
  | e + 1, h => by rw [vcF, if_neg (h e (Nat.lt_succ_self e)), vcF_z e (fun r hr => h r (by omega))]
theorem pow2_inj {a b : Nat} (h : 2 ^ a = 2 ^ b) : a = b := (Nat.pow_right_inj (by decide : 1 < 2)).mp h
theorem vcF_at {u : Nat → Int64} {r : Nat} : ∀ e, r < e → vcF u e (2 ^ r) = u r
  | 0, h => absurd h (Nat.not_lt_zero r)
  | e + 1, h => by
    by_cases er : r = e
    · subst er; rw [vcF, if_pos rfl]
    · rw [vcF, if_neg (fun z => er (pow2_inj z)), vcF_at e (by omega)]
theorem tb_pow : ∀ k, k < 32 → ∀ r, r < 5 → k.testBit r = true → (k ^^^ 2 ^ r) &&& k = k ^^^ 2 ^ r ∧ k ^^^ (k ^^^ 2 ^ r) = 2 ^ r ∧ k ^^^ 2 ^ r < 32 := by decide +kernel
theorem tb_sub : ∀ k, k < 32 → ∀ i, i < 32 → ∀ r, r < 5 → (i &&& k = i ∧ k ^^^ i = 2 ^ r) → (k.testBit r = true ∧ i = k ^^^ 2 ^ r) := by decide +kernel
theorem tb_inj : ∀ k, k < 32 → ∀ r, r < 5 → ∀ r', r' < 5 → k ^^^ 2 ^ r = k ^^^ 2 ^ r' → r = r' := by decide +kernel
theorem tb_hi : ∀ n, n ≤ 5 → ∀ k, k < 2 ^ n → ∀ r, r < n → k.testBit r = true → k ^^^ 2 ^ r < 2 ^ n ∧ 2 ^ r < 2 ^ n := by decide +kernel
theorem odI_sg (x : Int64) (a b : Nat) : x * (odI a b).toInt64 = sg (odT a b) x := by
  unfold odI sg
  cases odT a b with
  | true => simp only [if_true]; rw [show ((-1 : Int32).toInt64) = -1 from rfl]; grind
  | false =>
    rw [if_neg Bool.false_ne_true, if_neg Bool.false_ne_true, show ((1 : Int32).toInt64) = 1 from rfl, Int64.mul_one]
/-- the wedge with a vector, from the right -/
theorem wdg_vec {f u : Nat → Int64} {n k : Nat} (hn : n ≤ 5) (hk : k < 2 ^ n) : wdg f (vcF u n) (2 ^ n) k = sumL (fun r => if k.testBit r = true then sg (odT (k ^^^ 2 ^ r) (2 ^ r)) (f (k ^^^ 2 ^ r) * u r) else 0) n := by
  have h32 := pow_mono n hn k hk
  unfold wdg
  rw [sumL_re (P := fun r => k.testBit r) (φ := fun r => k ^^^ 2 ^ r) n _ (fun r hr r' hr' _ _ e => tb_inj k h32 r (by omega) r' (by omega) e) (fun r hr hp => (tb_hi n hn k hk r hr hp).1) (fun i hi hq => ?_)]
  · refine sumL_cong (fun r hr => ?_)
    by_cases hp : k.testBit r = true
    · rw [if_pos hp, if_pos hp]
      obtain ⟨e1, e2, -⟩ := tb_pow k h32 r (by omega) hp
      unfold wJ
      rw [if_pos ⟨e1, by rw [e2]; exact (tb_hi n hn k hk r hr hp).2⟩, e2, vcF_at n hr, odI_sg]
    · rw [if_neg hp, if_neg hp]
  · unfold wJ
    by_cases h : i &&& k = i ∧ k ^^^ i < 2 ^ n
    · rw [if_pos h, vcF_z n (fun r hr e => ?_), Int64.mul_zero, Int64.zero_mul]
      obtain ⟨a1, a2⟩ := tb_sub k h32 i (by have := (pow_le32 n hn).1; omega) r (by omega) ⟨h.1, e⟩
      exact hq r hr a1 a2
    · rw [if_neg h]
theorem or_pow : ∀ n, n ≤ 5 → ∀ i, i < 2 ^ n → ∀ j, j < 2 ^ n → i ||| j < 2 ^ n := by decide +kernel
theorem wdg_hi {f g : Nat → Int64} {n k : Nat} (hn : n ≤ 5) (h32 : k < 32) (hk : 2 ^ n ≤ k) : wdg f g (2 ^ n) k = 0 := sumL_z (fun i hi => by
  unfold wJ
  by_cases h : i &&& k = i ∧ k ^^^ i < 2 ^ n
  · exfalso
    have hi32 : i < 32 := by have := (pow_le32 n hn).1; omega
    have e := (bl_2 i hi32 k h32 h.1).2
    have := or_pow n hn i hi _ h.2
    omega
  · rw [if_neg h])
theorem gw_hi {m : Nat → Nat → Int32} {n b : Nat} (hn : n ≤ 5) : ∀ c t, t < 32 → 2 ^ n ≤ t → gw m n b c t = 0
  | 0, t, _, h => by
    have : 0 < 2 ^ n := Nat.two_pow_pos n
    exact if_neg (by omega)
  | c + 1, t, h32, h => by
    rw [gw]
    split
    · refine sumL_z (fun r hr => ?_)
      by_cases hp : t.testBit r = true
      · have hx : 2 ^ n ≤ t ^^^ 2 ^ r := by
          refine (by decide +kernel : ∀ n, n ≤ 5 → ∀ t, t < 32 → 2 ^ n ≤ t → ∀ r, r < n → 2 ^ n ≤ t ^^^ 2 ^ r) n hn t h32 h r hr
        rw [if_pos hp, gw_hi hn c _ (tb_pow t h32 r (by omega) hp).2.2 hx, Int64.zero_mul, sg_0]
      · rw [if_neg hp]
    · exact gw_hi hn c t h32 h
abbrev mL (I : IM) : Nat → Nat → Int32 := fun r c => I 186 (5 * r + c)
/-- what a call of the law's leaves of the long rows: all but its own -/
def KpL (cs : List Nat) (L L2 : LM) : Prop := ∀ a, a ∉ cs → L2 a = L a
theorem KpL.rf (cs : List Nat) (L : LM) : KpL cs L L := fun _ _ => rfl
theorem KpL.tr {cs : List Nat} {L L2 L3 : LM} (h1 : KpL cs L L2) (h2 : KpL cs L2 L3) : KpL cs L L3 := fun a h => (h2 a h).trans (h1 a h)
theorem KpL.up {cs ds : List Nat} {L L2 : LM} (h : KpL cs L L2) (hs : ∀ a ∈ cs, a ∈ ds) : KpL ds L L2 := fun a ha => h a (fun z => ha (hs a z))
theorem KpL.ly {cs : List Nat} {L L2 : LM} (h : KpL cs L L2) {c n : Nat} {f : Nat → Int64} (hc : c ∈ cs) : KpL cs L (lay L2 c n f) := fun a ha => (lay_ne (fun e => ha (by rw [e]; exact hc))).trans (h a ha)
theorem KpL.mu {cs : List Nat} {L L2 : LM} (h : KpL cs L L2) {c n : Nat} {x : Int64} (hc : c ∈ cs) : KpL cs L (mu L2 c n x) := fun a ha => (mu_ne _ _ (fun e => ha (by rw [e]; exact hc))).trans (h a ha)
theorem bit_ne0 : ∀ b, b < 32 → ∀ k, k < 5 → ((nI b >>> (nI k &&& 31)) &&& 1 = 0 ↔ b.testBit k = false) := by decide +kernel
theorem qL_grow (l : Launch) {t n : Nat} (ht : t < 32) (hn : n ≤ 5) {I : IM} (hd : I 188 0 = nI n) (L : LM) : ∃ I2 L2, (I2 = I ∧ (∀ k, k < 32 → L2 183 k = gw (mL I) n t n k) ∧ KpL [183, 184, 185] L L2) ∧ KL_grow l [.int (nI t), .ref 186, .ref 183, .ref 184, .ref 185, .ref 188] I L none I2 L2 := by
  obtain ⟨hB, hB0⟩ := pow_le32 n hn
  refine ru_pos1 (fun V hV => ?_) (fun I2 L2 h => wL_grow l rfl (hz0 (by decide)) h)
  refine ru_go hV 2 [] rfl rfl trivial ?_
  refine loop0 (P := fun k => V 3 [(0, .int (nI t)), (1, .ref 186), (2, .ref 183), (3, .ref 184), (4, .ref 185), (5, .ref 188), (6, .int (nI k))] [] I (lay L 183 k (fun q => if q = 0 then 1 else 0))) 32 (fun h => by rw [lay_0] at h; exact h) (fun k hk ih => ?_) ?_
  · by_cases h0 : k = 0
    · subst h0
      refine ru_go hV 12 [(0, 0), (0, 0), (0, 32)] rfl rfl ⟨⟨⟨trivial, nI32_ge hk⟩, (fun e => e rfl)⟩, ⟨rfl, rfl, hk⟩⟩ ?_
      rw [lay_up (by rfl)]
      exact ih
    · refine ru_go hV 11 [(0, 0), (1, 0), (k, 32)] rfl rfl ⟨⟨⟨trivial, nI32_ge hk⟩, nI_ne0 (by omega) (by omega)⟩, ⟨rfl, rfl, hk⟩⟩ ?_
      rw [nI_1, lay_up (by rw [if_neg h0])]
      exact ih
  · refine ru_go hV 5 [(1, 0)] rfl rfl ⟨trivial, (by decide)⟩ ?_
    refine loop0 (P := fun d => ∀ Lx : LM, (∀ k, k < 32 → Lx 183 k = gw (mL I) n t d k) → KpL [183, 184, 185] L Lx → V 33 [(0, .int (nI t)), (1, .ref 186), (2, .ref 183), (3, .ref 184), (4, .ref 185), (5, .ref 188), (6, .int (nI d))] [] I Lx) n (fun h => h _ (fun k hk => by rw [lay_in hk]; rfl) ((KpL.rf _ L).ly (by decide))) (fun d hd5 ih => ?_) ?_
    · intro Lx h1 h2
      have hd4 : d < 5 := by omega
      have next : ∀ Ly : LM, (∀ k, k < 32 → Ly 183 k = gw (mL I) n t (d + 1) k) → KpL [183, 184, 185] L Ly → V 145 [(0, .int (nI t)), (1, .ref 186), (2, .ref 183), (3, .ref 184), (4, .ref 185), (5, .ref 188), (6, .int (nI d))] [] I Ly := fun Ly g1 g2 => by
        refine ru_go hV 2 [] rfl rfl trivial ?_
        rw [nI_1]
        exact ih Ly g1 g2
      by_cases hb : t.testBit d = true
      · refine ru_go hV 13 [(0, 15), (0, 0), (1, 0)] rfl rfl ⟨⟨⟨trivial, (by first | exact rfl | assumption | exact ⟨rfl, rfl⟩ | exact ⟨rfl, rfl, by omega⟩ | exact ⟨by assumption, rfl, by omega⟩ | exact ⟨⟨_, rfl, rfl⟩, by decide, by decide, rfl, by omega⟩ | omega | decide)⟩, (by rw [hd]; exact nI_nge hd5 (by omega))⟩, (fun e => by rw [(bit_ne0 t ht d hd4).mp e] at hb; cases hb)⟩ ?_
        refine loop0 (P := fun k => V 57 [(0, .int (nI t)), (1, .ref 186), (2, .ref 183), (3, .ref 184), (4, .ref 185), (5, .ref 188), (6, .int (nI d)), (7, .int (nI k))] [] I (lay Lx 184 k (fun _ => 0))) 32 (fun h => by rw [lay_0] at h; exact h) (fun k hk ihk => ?_) ?_
        · refine ru_go hV 9 [(0, 0), (k, 32)] rfl rfl ⟨⟨trivial, nI32_ge hk⟩, ⟨rfl, rfl, hk⟩⟩ ?_
          rw [nI_1, lay_up rfl]
          exact ihk
        · refine ru_go hV 5 [(1, 0)] rfl rfl ⟨trivial, (by decide)⟩ ?_
          refine loop0 (P := fun e => V 78 [(0, .int (nI t)), (1, .ref 186), (2, .ref 183), (3, .ref 184), (4, .ref 185), (5, .ref 188), (6, .int (nI d)), (7, .int (nI e))] [] I (lay Lx 184 32 (vcF (fun r => (mL I r d).toInt64) e))) n (fun h => h) (fun e he ihe => ?_) ?_
          · have he4 : e < 5 := by omega
            have hp := pow2_lt e he4
            refine ru_go hV 20 [(0, 15), (0, 0), ((5*e+d), 25), ((2^e), 32)] rfl rfl ⟨⟨⟨⟨trivial, (by first | exact rfl | assumption | exact ⟨rfl, rfl⟩ | exact ⟨rfl, rfl, by omega⟩ | exact ⟨by assumption, rfl, by omega⟩ | exact ⟨⟨_, rfl, rfl⟩, by decide, by decide, rfl, by omega⟩ | omega | decide)⟩, (by rw [hd]; exact nI_nge he (by omega))⟩, ⟨rfl, by rw [show (5 : Int32) = nI 5 from rfl, pk_mul, nI_add], by omega⟩⟩, ⟨rfl, bl_sh e (by omega), hp⟩⟩ ?_
            rw [nI_1, lay_mu hp]
            exact ihe
          · refine ru_go hV 11 [(0, 15), (1, 0)] rfl rfl ⟨⟨trivial, (by first | exact rfl | assumption | exact ⟨rfl, rfl⟩ | exact ⟨rfl, rfl, by omega⟩ | exact ⟨by assumption, rfl, by omega⟩ | exact ⟨⟨_, rfl, rfl⟩, by decide, by decide, rfl, by omega⟩ | omega | decide)⟩, (by rw [hd]; exact nI_le (Nat.le_refl n) (by omega))⟩ ?_
            refine ru_S hV [] sSL_22 (qL_wedge l (cf := 183) (cg := 184) (cr := 185) (a := 0) (b := 0) (nf := 32) (ng := 32) rfl (by decide) rfl (by decide) rfl (by decide) (by decide) hn hd _) rfl rfl rfl (Nat.le_of_ble_eq_true rfl) ?_
            generalize hLy : (lay (lay Lx 184 32 (vcF (fun r => (mL I r d).toInt64) n)) 185 32 _) = Ly
            have y1 : ∀ k, k < 32 → Ly 185 k = gw (mL I) n t (d + 1) k := fun k hk => by
              rw [← hLy, lay_in hk]
              simp only [lay_ne (show 183 ≠ 184 by decide), Nat.zero_add]
              have eg : gw (mL I) n t (d + 1) k = wcs (mL I) n d (gw (mL I) n t d) k := by simp [gw, hb]
              rw [eg]
              by_cases hkB : k < 2 ^ n
              · have e2 : wdg (fun q => Lx 183 q) (fun q => lay Lx 184 32 (vcF (fun r => (mL I r d).toInt64) n) 184 q) (2 ^ n) k = wdg (gw (mL I) n t d) (vcF (fun r => (mL I r d).toInt64) n) (2 ^ n) k := sumL_cong (fun i hi => by
                  have hi32 : i < 32 := by omega
                  unfold wJ
                  simp only []
                  rw [h1 i hi32]
                  by_cases hc : i &&& k = i ∧ k ^^^ i < 2 ^ n
                  · rw [if_pos hc, if_pos hc, lay_in (by omega)]
                  · rw [if_neg hc, if_neg hc])
                rw [e2, wdg_vec hn hkB]
                rfl
              · rw [wdg_hi hn hk (by omega)]
                have := gw_hi (m := mL I) (b := t) hn (d + 1) k hk (by omega)
                rw [eg] at this
                exact this.symm
            have y2 : KpL [183, 184, 185] L Ly := by
              rw [← hLy]
              exact (h2.ly (by decide)).ly (by decide)
            refine ru_go hV 2 [] rfl rfl trivial ?_
            refine loop0 (P := fun k => V 123 [(0, .int (nI t)), (1, .ref 186), (2, .ref 183), (3, .ref 184), (4, .ref 185), (5, .ref 188), (6, .int (nI d)), (7, .int (nI k))] [] I (lay Ly 183 k (gw (mL I) n t (d + 1)))) 32 (fun h => by rw [lay_0] at h; exact h) (fun k hk ihk => ?_) ?_
            · refine ru_go hV 11 [(0, 0), (k, 32), (k, 32)] rfl rfl ⟨⟨⟨trivial, nI32_ge hk⟩, ⟨rfl, rfl, hk⟩⟩, ⟨rfl, rfl, hk⟩⟩ ?_
              rw [nI_1, lay_ne (show 185 ≠ 183 by decide), y1 k hk, lay_up rfl]
              exact ihk
            · refine ru_go hV 3 [(1, 0)] rfl rfl ⟨trivial, (by decide)⟩ ?_
              exact ru_sub hV [0, 1, 2, 3, 4, 5, 6] rfl (next _ (fun k hk => lay_in hk) (y2.ly (by decide)))
      · refine ru_go hV 12 [(0, 15), (0, 0), (0, 0)] rfl rfl ⟨⟨⟨trivial, (by first | exact rfl | assumption | exact ⟨rfl, rfl⟩ | exact ⟨rfl, rfl, by omega⟩ | exact ⟨by assumption, rfl, by omega⟩ | exact ⟨⟨_, rfl, rfl⟩, by decide, by decide, rfl, by omega⟩ | omega | decide)⟩, (by rw [hd]; exact nI_nge hd5 (by omega))⟩, (fun e => e ((bit_ne0 t ht d hd4).mpr (by simpa using hb)))⟩ ?_
        exact next Lx (fun k hk => by rw [h1 k hk]; simp [gw, hb]) h2
    · intro Lx h1 h2
      refine ru_fin hV 6 [(0, 15), (1, 0)] rfl rfl ⟨⟨trivial, (by first | exact rfl | assumption | exact ⟨rfl, rfl⟩ | exact ⟨rfl, rfl, by omega⟩ | exact ⟨by assumption, rfl, by omega⟩ | exact ⟨⟨_, rfl, rfl⟩, by decide, by decide, rfl, by omega⟩ | omega | decide)⟩, (by rw [hd]; exact nI_le (Nat.le_refl n) (by omega))⟩ ?_
      exact ⟨rfl, rfl, h1, h2⟩
def puA (m : Nat → Nat → Int32) (n : Nat) (f : Nat → Int64) (k i : Nat) : Int64 := if k < 2 ^ n then f i * gw m n i n k else 0
def puL (m : Nat → Nat → Int32) (n : Nat) (f : Nat → Int64) (k : Nat) : Int64 := sumL (puA m n f k) (2 ^ n)
theorem qL_push (l : Launch) {a n : Nat} (ha : a + 32 ≤ 64) (hn : n ≤ 5) {I : IM} (hd : I 188 0 = nI n) (L : LM) : ∃ I2 L2, (I2 = I ∧ (∀ k, k < 32 → L2 182 k = puL (mL I) n (fun q => L 181 (a + q)) k) ∧ KpL [182, 183, 184, 185] L L2) ∧ KL_push l [.ref 181, .int (nI a), .ref 186, .ref 182, .ref 183, .ref 184, .ref 185, .ref 188] I L none I2 L2 := by
  obtain ⟨hB, hB0⟩ := pow_le32 n hn
  have hB2 : 2 ^ n < 2 ^ 31 := by omega
  have hbl : ∀ M : LM, KL_all l [.ref 188] I M (some (.int (nI (2 ^ n)))) I M := fun M => qL_all l hn hd M
  refine ru_pos1 (fun V hV => ?_) (fun I2 L2 h => wL_push l rfl (hz0 (by decide)) h)
  refine ru_go hV 2 [] rfl rfl trivial ?_
  refine loop0 (P := fun k => V 3 [(0, .ref 181), (1, .int (nI a)), (2, .ref 186), (3, .ref 182), (4, .ref 183), (5, .ref 184), (6, .ref 185), (7, .ref 188), (8, .int (nI k))] [] I (lay L 182 k (fun _ => 0))) 32 (fun h => by rw [lay_0] at h; exact h) (fun k hk ih => ?_) ?_
  · refine ru_go hV 9 [(0, 0), (k, 32)] rfl rfl ⟨⟨trivial, nI32_ge hk⟩, ⟨rfl, rfl, hk⟩⟩ ?_
    rw [nI_1, lay_up rfl]
    exact ih
  · refine ru_go hV 5 [(1, 0)] rfl rfl ⟨trivial, (by decide)⟩ ?_
    refine loop0 (P := fun i => ∀ Lx : LM, (∀ k, k < 32 → Lx 182 k = sumL (puA (mL I) n (fun q => L 181 (a + q)) k) i) → KpL [182, 183, 184, 185] L Lx → V 24 [(0, .ref 181), (1, .int (nI a)), (2, .ref 186), (3, .ref 182), (4, .ref 183), (5, .ref 184), (6, .ref 185), (7, .ref 188), (8, .int (nI i))] [] I Lx) (2 ^ n) (fun h => h _ (fun k hk => by rw [lay_in hk]; rfl) ((KpL.rf _ L).ly (by decide))) (fun i hi ih => ?_) ?_
    · intro Lx h1 h2
      have hi32 : i < 32 := by omega
      have e181 : Lx 181 = L 181 := h2 181 (by decide)
      have next : ∀ Ly : LM, (∀ k, k < 32 → Ly 182 k = sumL (puA (mL I) n (fun q => L 181 (a + q)) k) (i + 1)) → KpL [182, 183, 184, 185] L Ly → V 100 [(0, .ref 181), (1, .int (nI a)), (2, .ref 186), (3, .ref 182), (4, .ref 183), (5, .ref 184), (6, .ref 185), (7, .ref 188), (8, .int (nI i))] [] I Ly := fun Ly g1 g2 => by
        refine ru_go hV 2 [] rfl rfl trivial ?_
        rw [nI_1]
        exact ih Ly g1 g2
      refine ru_go hV 2 [] rfl rfl trivial ?_
      refine ru_S hV [.int (nI i)] sSL_8 (hbl _) rfl rfl rfl (Nat.le_of_ble_eq_true rfl) ?_
      by_cases h0 : L 181 (a + i) = 0
      · refine ru_go hV 10 [(0, 0), ((a+i), 64), (0, 0)] rfl rfl ⟨⟨⟨trivial, nI_nge hi hB2⟩, ⟨rfl, nI_add a i, by omega⟩⟩, (fun e => e (by rw [e181]; exact (lg_cmp0 _ _).mpr h0))⟩ ?_
        refine next Lx (fun k hk => ?_) h2
        rw [h1 k hk, sumL]
        unfold puA
        simp only [h0, Int64.zero_mul, ite_self, Int64.add_zero]
      · refine ru_go hV 15 [(0, 0), ((a+i), 64), (1, 0)] rfl rfl ⟨⟨⟨trivial, nI_nge hi hB2⟩, ⟨rfl, nI_add a i, by omega⟩⟩, (fun e => h0 (by rw [e181] at e; exact (lg_cmp0 _ _).mp e))⟩ ?_
        obtain ⟨I2, Ly, ⟨rfl, g1, g2⟩, hK⟩ := qL_grow l hi32 hn hd Lx
        refine ru_S hV [] sSL_26 hK rfl rfl rfl (Nat.le_of_ble_eq_true rfl) ?_
        have y2 : KpL [182, 183, 184, 185] L Ly := h2.tr (g2.up (by decide))
        have y1 : ∀ k, Ly 182 k = Lx 182 k := fun k => by rw [g2 182 (by decide)]
        have y181 : Ly 181 = L 181 := y2 181 (by decide)
        refine ru_go hV 2 [] rfl rfl trivial ?_
        refine loop0 (P := fun k => V 65 [(0, .ref 181), (1, .int (nI a)), (2, .ref 186), (3, .ref 182), (4, .ref 183), (5, .ref 184), (6, .ref 185), (7, .ref 188), (8, .int (nI i)), (9, .int (nI k))] [] I2 (lay Ly 182 k (fun k => sumL (puA (mL I2) n (fun q => L 181 (a + q)) k) (i + 1)))) (2 ^ n) (fun h => by rw [lay_0] at h; exact h) (fun k hk ihk => ?_) ?_
        · have hk32 : k < 32 := by omega
          refine ru_go hV 2 [] rfl rfl trivial ?_
          refine ru_S hV [.int (nI k)] sSL_8 (hbl _) rfl rfl rfl (Nat.le_of_ble_eq_true rfl) ?_
          refine ru_go hV 18 [(0, 0), (k, 32), ((a+i), 64), (k, 32), (k, 32)] rfl rfl ⟨⟨⟨⟨⟨trivial, nI_nge hk hB2⟩, ⟨rfl, rfl, hk32⟩⟩, ⟨rfl, nI_add a i, by omega⟩⟩, ⟨rfl, rfl, hk32⟩⟩, ⟨rfl, rfl, hk32⟩⟩ ?_
          rw [nI_1, lay_out (Nat.le_refl k), lay_ne (show 181 ≠ 182 by decide), lay_ne (show 183 ≠ 182 by decide), y181, y1 k, h1 k hk32, g1 k hk32, lay_up (by
            rw [sumL]
            congr 1
            unfold puA
            rw [if_pos hk])]
          exact ihk
        · refine ru_go hV 2 [] rfl rfl trivial ?_
          refine ru_S hV [.int (nI (2^n))] sSL_8 (hbl _) rfl rfl rfl (Nat.le_of_ble_eq_true rfl) ?_
          refine ru_go hV 1 [(1, 0)] rfl rfl ⟨trivial, nI_le (Nat.le_refl _) hB2⟩ ?_
          refine ru_sub hV [0, 1, 2, 3, 4, 5, 6, 7, 8] rfl (next _ (fun k hk => ?_) (y2.ly (by decide)))
          by_cases hkB : k < 2 ^ n
          · rw [lay_in hkB]
          · rw [lay_out (by omega), y1 k, h1 k hk, sumL]
            unfold puA
            simp only [hkB, if_false, Int64.add_zero]
    · intro Lx h1 h2
      refine ru_go hV 2 [] rfl rfl trivial ?_
      refine ru_S hV [.int (nI (2^n))] sSL_8 (hbl _) rfl rfl rfl (Nat.le_of_ble_eq_true rfl) ?_
      refine ru_fin hV 2 [(1, 0)] rfl rfl ⟨trivial, nI_le (Nat.le_refl _) hB2⟩ ?_
      exact ⟨rfl, rfl, h1, h2⟩
