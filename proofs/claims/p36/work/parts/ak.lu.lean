/-! THE LAW'S basis: the annihilator's vectors, each checked -/
/-- a question, and the law's own row of numbers -/
def SQ (I I2 : IM) : Prop := (∀ a, a ≠ 170 → a ≠ 171 → a ≠ 179 → a ≠ 180 → a ≠ 187 → I2 a = I a) ∧ (VZ I → VZ I2)
theorem SQ.rf (I : IM) : SQ I I := ⟨fun _ _ _ _ _ _ => rfl, id⟩
theorem SQ.tr {I J K : IM} (h1 : SQ I J) (h2 : SQ J K) : SQ I K := ⟨fun a a1 a2 a3 a4 a5 => (h2.1 a a1 a2 a3 a4 a5).trans (h1.1 a a1 a2 a3 a4 a5), fun h => h2.2 (h1.2 h)⟩
theorem SC.sq {I J : IM} (h : SC I J) : SQ I J := ⟨fun a a1 a2 a3 a4 _ => h.1 a a1 a2 a3 a4, h.2⟩
theorem SQ.li {I J : IM} (h : ∀ a, a ≠ 187 → J a = I a) : SQ I J := ⟨fun a _ _ _ _ h5 => h a h5, fun hz j hj hk => by rw [h 170 (by decide)]; exact hz j hj hk⟩
theorem SQ.lo {I J : IM} (h : SQ I J) {a : Nat} (ha : a < 170) : J a = I a := h.1 a (by omega) (by omega) (by omega) (by omega) (by omega)
theorem SQ.hi {I J : IM} (h : SQ I J) {a : Nat} (ha : 181 ≤ a) (h2 : a ≠ 187) : J a = I a := h.1 a (by omega) (by omega) (by omega) (by omega) h2
theorem Sm.sq {I I2 : IM} {L L2 : LM} {n o z : Nat} (h : Sm I L n o z) (hs : SQ I I2) (hL : L2 181 = L 181) : Sm I2 L2 n o z := by
  obtain ⟨h1, ⟨h2a, h2b, h2c⟩, h3, h4, h5, h6, h7, h8⟩ := h
  have lo : ∀ a, a < 170 → I2 a = I a := fun a ha => hs.lo ha
  refine ⟨h1, ⟨by rw [lo 1 (by decide)]; exact h2a, by rw [lo 19 (by decide)]; exact h2b, by rw [lo 19 (by decide)]; exact h2c⟩, hs.2 h3, fun s hs2 => ?_, by rw [hs.hi (by decide) (by decide)]; exact h5, fun k hk => ?_, fun r hr c hc => ?_, fun d hd => ?_⟩
  · rw [lo (3 + s) (by omega), hL]
    exact h4 s hs2
  · rw [hs.hi (a := 188) (by decide) (by decide), lo 11 (by decide)]
    exact h6 k hk
  · rw [hs.hi (a := 186) (by decide) (by decide), lo (13 + r) (by omega)]
    exact h7 r hr c hc
  · rw [hs.hi (a := 188) (by decide) (by decide), lo 18 (by decide)]
    exact h8 d hd
theorem tb_subL : ∀ k, k < 32 → ∀ i, i < 32 → ∀ r, r < 5 → (i &&& k = i ∧ i = 2 ^ r) → (k.testBit r = true ∧ k ^^^ i = k ^^^ 2 ^ r) := by decide +kernel
theorem tb_powL : ∀ k, k < 32 → ∀ r, r < 5 → k.testBit r = true → 2 ^ r &&& k = 2 ^ r := by decide +kernel
/-- the wedge with a vector, from the left -/
theorem wdg_vecL {f : Nat → Int32} {g u : Nat → Int64} {n k : Nat} (hn : n ≤ 5) (hg : ∀ q, q < 32 → g q = (f q).toInt64) (hk : k < 2 ^ n) : wdg (vcF u n) g (2 ^ n) k = vaA f k u n := by
  have h32 := pow_mono n hn k hk
  have hB := (pow_le32 n hn).1
  unfold wdg vaA
  rw [sumL_re (P := fun r => k.testBit r) (φ := fun r => 2 ^ r) n _ (fun r hr r' hr' _ _ e => pow2_inj e) (fun r hr hp => (tb_hi n hn k hk r hr hp).2) (fun i hi hq => ?_)]
  · refine sumL_cong (fun r hr => ?_)
    by_cases hp : k.testBit r = true
    · rw [if_pos hp, if_pos hp]
      unfold wJ
      rw [if_pos ⟨tb_powL k h32 r (by omega) hp, (tb_hi n hn k hk r hr hp).1⟩, vcF_at n hr, odI_sg, hg _ (tb_pow k h32 r (by omega) hp).2.2]
    · rw [if_neg hp, if_neg hp]
  · unfold wJ
    by_cases h : i &&& k = i ∧ k ^^^ i < 2 ^ n
    · rw [if_pos h, vcF_z n (fun r hr e => ?_), Int64.zero_mul, Int64.zero_mul]
      obtain ⟨a1, -⟩ := tb_subL k h32 i (by omega) r (by omega) ⟨h.1, e⟩
      exact hq r hr a1 e
    · rw [if_neg h]
/-- a number of the basis -/
theorem qL_bs (l : Launch) {s p d n : Nat} (hs : s < 8) (hp : p < 5) (hdn : d < n) (hn : n ≤ 5) {J : IM} (hd : J 1 0 = nI n) (Lx : LM) {y : Int32} (hy : (if nI p < anF (J (3 + s)) n then baF (J (3 + s)) n p d else NON) = y) : ∃ J2 L2, (SQ J J2 ∧ ∀ c, 181 ≤ c → L2 c = Lx c) ∧ CR l kdL 189 yX7_basis cX7_basis 5 (some .int) rmX7_basis [.ref 0, .int (nI s), .int (nI p), .int (nI d)] J Lx (some (.int y)) J2 L2 := by
  subst hy
  obtain ⟨I2, L2, hsc, h⟩ := qX7_basis l hs hp hdn hn hd Lx
  obtain ⟨L3, e3, hK⟩ := up_X h
  exact ⟨_, L3, ⟨(SC.mxS hsc).sq, e3⟩, hK⟩
theorem i32_V {x : Int64} (h : -1555200000 ≤ x.toInt ∧ x.toInt ≤ 1555200000) : x.toInt32.toInt64 = x ∧ x.toInt32.toInt = x.toInt := by
  have e := lg_i2l_l2i (x := x) (by omega) (by omega)
  exact ⟨e, by rw [← Int32.toInt_toInt64, e]⟩
def lsV (hd : Nat → Nat) (k : Nat) : Int32 := if k = 0 then -1 else nI (hd (k - 1))
theorem gcd_st {x y : Nat} : Nat.gcd x y = Nat.gcd y (x % y) := by rw [Nat.gcd_comm x y, Nat.gcd_rec y x, Nat.gcd_comm]
abbrev LVb (s z : Nat) : LV := [(0, .ref 0), (1, .int (nI s)), (2, .ref 181), (3, .ref 184), (4, .ref 185), (5, .ref 187), (6, .ref 188), (7, .int (nI (32 * s))), (8, .int (nI z))]
set_option maxRecDepth 100000 in
set_option maxHeartbeats 2000000 in
theorem qL_basis (l : Launch) {s : Nat} (hs : s < 2) {I : IM} {L : LM} {n o z0 : Nat} (hS : Sm I L n o z0) : ∃ I2 L2, (SQ I I2 ∧ L2 181 = L 181) ∧ KL_basis l [.ref 0, .int (nI s), .ref 181, .ref 184, .ref 185, .ref 187, .ref 188] I L (some (.int 1)) I2 L2 := by
  obtain ⟨⟨n2, n5, ho, hzz⟩, ⟨h2a, h2b, h2c⟩, h3, h4, h5, h6, h7, h8⟩ := id hS
  have hR := h4 s hs
  have hB := pow_le32 n n5
  have hFb : ∀ k, k < 32 → -100000000 ≤ (L 181 (32 * s + k)).toInt ∧ (L 181 (32 * s + k)).toInt ≤ 100000000 := fun k hk => by
    have e : L 181 (32 * s + k) = (I (3 + s) k).toInt64 := hR.1 k hk
    rw [e, Int32.toInt_toInt64]
    exact hR.2.1 k hk
  have fmx := r_most (f := I (3 + s)) 32 (Nat.le_refl 32) hR.1 hR.2.1
  generalize hf : I (3 + s) = f at *
  refine ru_pos1 (fun V hV => ?_) (fun I2 L2 h => wL_basis l rfl (fun _ x hx => by cases hx; exact Or.inr rfl) h)
  refine ru_go hV 4 [] rfl rfl trivial ?_
  rw [show (32 : Int32) * nI s = nI (32 * s) from pk_mul 32 s]
  obtain ⟨I1, L1, hsc1, hK1⟩ := qX7_annihilator l (s := s) (by omega) n5 h2a L
  obtain ⟨L2, e2, hK1⟩ := up_X hK1
  have sq1 := hsc1.mxS.sq
  generalize mx 181 I1 I = J1 at hK1 sq1
  have q1 : L2 181 = L 181 := e2 181 (by decide)
  rw [hf] at hK1
  refine ru_go hV 2 [] rfl rfl trivial ?_
  refine ru_V hV [] sVL_98 hK1 rfl rfl rfl rfl rfl (Nat.le_of_ble_eq_true rfl) ?_
  refine ru_go hV 3 [] rfl rfl trivial ?_
  have hmost := qL_most l (a := 32 * s) (by omega) J1 L2
  rw [q1, fmx.1] at hmost
  refine ru_S hV [] sSL_101 hmost rfl rfl rfl (Nat.le_of_ble_eq_true rfl) ?_
  by_cases hg : gmF f 32 ≤ 60
  · have h60 : f60 f n := fun k hk => gm_60 hR.2.1 hg k (by omega)
    obtain ⟨hd, hC⟩ := fiC_CI n5 h60 (2 ^ n - 1) (by omega)
    have hbd := fun p hp => (hC.bd n5 h60 (p := p) hp).1
    have ean : anF f n = nI (fiC f n (2 ^ n - 1)).1 := by unfold anF; rw [if_pos hg]
    have eba : ∀ p d, baF f n p d = ((fiC f n (2 ^ n - 1)).2.1 p d).toInt32 := fun p d => rfl
    rw [ean]
    have hgl : ¬ (60 : Int64) < (gmF f 32).toInt64 := fun z => by
      have z := Int64.lt_iff_toInt_lt.mp z
      rw [Int32.toInt_toInt64, show (60 : Int64).toInt = 60 from rfl] at z
      have := Int32.le_iff_toInt_le.mp hg
      rw [show (60 : Int32).toInt = 60 from rfl] at this
      omega
    generalize (fiC f n (2 ^ n - 1)).1 = z at *
    generalize (fiC f n (2 ^ n - 1)).2.1 = W at *
    obtain ⟨c1, c2, c3, c4, c5, c6, c7⟩ := id hC
    -- a question for a number of the basis
    have ask : ∀ (J : IM) (Lx : LM), SQ I J → Lx 181 = L 181 → ∀ p d, p < 5 → d < n → ∀ y, (if p < z then (W p d).toInt32 else NON) = y → ∃ J2 L2, (SQ I J2 ∧ L2 181 = L 181 ∧ ∀ c, 181 ≤ c → L2 c = Lx c) ∧ CR l kdL 189 yX7_basis cX7_basis 5 (some .int) rmX7_basis [.ref 0, .int (nI s), .int (nI p), .int (nI d)] J Lx (some (.int y)) J2 L2 := fun J Lx hJ hLx p d hp hdn y hy => by
      obtain ⟨J2, L2, ⟨a1, a2⟩, a3⟩ := qL_bs l (s := s) (p := p) (d := d) (n := n) (by omega) hp hdn n5 (J := J) (by rw [hJ.lo (by decide)]; exact h2a) Lx (y := y) (by
        rw [hJ.lo (a := 3 + s) (by omega), hf, ean, eba, ← hy]
        by_cases e : p < z
        · rw [if_pos e, if_pos (nI_lt e (by omega))]
        · rw [if_neg e, if_neg (nI_nlt (by omega) (by omega))])
      exact ⟨J2, L2, ⟨hJ.tr a1, (a2 181 (by decide)).trans hLx, a2⟩, a3⟩
    have c0 : ∀ J : IM, SQ I J → J 188 0 = nI n := fun J hJ => by rw [hJ.hi (by decide) (by decide)]; exact h5
    -- the vectors
    have c126 : ∀ (J : IM) (Lx : LM), SQ I J → Lx 181 = L 181 → V 126 (LVb s z) [] J Lx := by
      intro J Lx hJ hLx
      refine ru_go hV 4 [] rfl rfl trivial ?_
      refine loop0 (P := fun k => ∀ (J : IM) (Lx : LM), SQ I J → Lx 181 = L 181 → V 132 (LVb s z ++ [(11, .int (lsV hd k)), (12, .int (nI k))]) [] J Lx) z (fun h => h J Lx hJ hLx) (fun k hk ih => ?_) ?_
      · clear hJ hLx
        intro J Lx hJ hLx
        have hk5 : k < 5 := by omega
        have hhk := c1 k hk
        obtain ⟨p1, p2, p3⟩ := c3 k hk
        have bw := fun d (hdn : d < n) => i32_V (hbd k hk d hdn)
        refine ru_go hV 5 [(0, 0)] rfl rfl ⟨trivial, nI_nge hk (by omega)⟩ ?_
        -- the head
        refine loop0 (P := fun h => ∀ (J : IM) (Lx : LM), SQ I J → Lx 181 = L 181 → V 142 (LVb s z ++ [(11, .int (lsV hd k)), (12, .int (nI k)), (13, .int (nI h))]) [] J Lx) (hd k) (fun h => h J Lx hJ hLx) (fun h hh ihh => ?_) ?_
        · clear hJ hLx
          intro J Lx hJ hLx
          obtain ⟨J2, L2, ⟨a1, a2, a3⟩, hK⟩ := ask J Lx hJ hLx k h hk5 (by omega) 0 (by
            rw [if_pos hk]
            apply Int32.toInt_inj.mp
            rw [(bw h (by omega)).2, p2 h hh]
            rfl)
          refine ru_go hV 9 [(0, 15), (0, 0)] rfl rfl ⟨⟨trivial, (by first | exact rfl | assumption | exact ⟨rfl, rfl⟩ | exact ⟨rfl, rfl, by omega⟩ | exact ⟨by assumption, rfl, by omega⟩ | exact ⟨⟨_, rfl, rfl⟩, by decide, by decide, rfl, by omega⟩ | omega | decide)⟩, (by rw [c0 J hJ]; exact nI_nge (by omega) (by omega))⟩ ?_
          refine ru_V hV [] sVL_107 hK rfl rfl rfl rfl rfl (Nat.le_of_ble_eq_true rfl) ?_
          refine ru_go hV 3 [(0, 0)] rfl rfl ⟨trivial, (fun z => z rfl)⟩ ?_
          rw [nI_1]
          exact ihh J2 L2 a1 a2
        · clear hJ hLx
          intro J Lx hJ hLx
          have hpos : ∀ y, (W k (hd k)).toInt32 = y → 0 < y.toInt := fun y hy => by rw [← hy, (bw _ hhk).2]; exact p1
          generalize hyy : (W k (hd k)).toInt32 = yh at hpos
          have hpos := hpos _ rfl
          obtain ⟨J2, L2, ⟨a1, a2, a3⟩, hK⟩ := ask J Lx hJ hLx k (hd k) hk5 hhk yh (by rw [if_pos hk]; exact hyy)
          obtain ⟨J3, L3, ⟨b1, b2, b3⟩, hK3⟩ := ask J2 L2 a1 a2 k (hd k) hk5 hhk yh (by rw [if_pos hk]; exact hyy)
          have hlast : ¬ nI (hd k) ≤ lsV hd k := by
            unfold lsV
            by_cases e : k = 0
            · rw [if_pos e]
              exact fun z => absurd (Int32.le_iff_toInt_le.mp z) (by rw [nI_toInt (by omega), show (-1 : Int32).toInt = -1 from rfl]; omega)
            · rw [if_neg e]
              have := c2 (k - 1) k (by omega) hk
              exact nI_nge this (by omega)
          refine ru_go hV 9 [(0, 15), (0, 0)] rfl rfl ⟨⟨trivial, (by first | exact rfl | assumption | exact ⟨rfl, rfl⟩ | exact ⟨rfl, rfl, by omega⟩ | exact ⟨by assumption, rfl, by omega⟩ | exact ⟨⟨_, rfl, rfl⟩, by decide, by decide, rfl, by omega⟩ | omega | decide)⟩, (by rw [c0 J hJ]; exact nI_nge hhk (by omega))⟩ ?_
          refine ru_V hV [] sVL_107 hK rfl rfl rfl rfl rfl (Nat.le_of_ble_eq_true rfl) ?_
          refine ru_go hV 13 [(1, 0), (0, 0), (0, 15), (0, 0)] rfl rfl ⟨⟨⟨⟨trivial, (fun z => by rw [z] at hpos; exact absurd hpos (by decide))⟩, hlast⟩, (by first | exact rfl | assumption | exact ⟨rfl, rfl⟩ | exact ⟨rfl, rfl, by omega⟩ | exact ⟨by assumption, rfl, by omega⟩ | exact ⟨⟨_, rfl, rfl⟩, by decide, by decide, rfl, by omega⟩ | omega | decide)⟩, (fun z => by rw [c0 J2 a1] at z; have := (nI_eq (by omega) (by omega)).mp z; omega)⟩ ?_
          refine ru_V hV [] sVL_107 hK3 rfl rfl rfl rfl rfl (Nat.le_of_ble_eq_true rfl) ?_
          refine ru_go hV 3 [(1, 0)] rfl rfl ⟨trivial, Int32.le_iff_toInt_le.mpr (by rw [show (0 : Int32).toInt = 0 from rfl]; omega)⟩ ?_
          -- no other has a number there
          refine loop0 (P := fun e => ∀ (J : IM) (Lx : LM), SQ I J → Lx 181 = L 181 → V 202 (LVb s z ++ [(11, .int (lsV hd k)), (12, .int (nI k)), (13, .int (nI (hd k))), (14, .int (nI e))]) [] J Lx) z (fun h => h J3 L3 b1 b2) (fun e he ihe => ?_) ?_
          · clear hJ hLx hK hK3
            intro J Lx hJ hLx
            by_cases ek : e = k
            · subst ek
              refine ru_go hV 8 [(0, 0), (1, 0)] rfl rfl ⟨⟨trivial, nI_nge he (by omega)⟩, rfl⟩ ?_
              rw [nI_1]
              exact ihe J Lx hJ hLx
            · obtain ⟨J4, L4, ⟨d1, d2, d3⟩, hK4⟩ := ask J Lx hJ hLx e (hd k) (by omega) hhk 0 (by
                rw [if_pos he]
                apply Int32.toInt_inj.mp
                rw [(i32_V (hbd e he _ hhk)).2, (c3 e he).2.2 k hk (fun z => ek z.symm)]
                rfl)
              refine ru_go hV 10 [(0, 0), (0, 0)] rfl rfl ⟨⟨trivial, nI_nge he (by omega)⟩, (fun z => ek ((nI_eq (by omega) (by omega)).mp z))⟩ ?_
              refine ru_V hV [] sVL_107 hK4 rfl rfl rfl rfl rfl (Nat.le_of_ble_eq_true rfl) ?_
              refine ru_go hV 3 [(1, 0)] rfl rfl ⟨trivial, rfl⟩ ?_
              rw [nI_1]
              exact ihe J4 L4 d1 d2
          · clear hJ hLx hK hK3
            intro J Lx hJ hLx
            refine ru_go hV 7 [(1, 0)] rfl rfl ⟨trivial, nI_le (Nat.le_refl z) (by omega)⟩ ?_
            refine loop0 (P := fun i => V 242 (LVb s z ++ [(11, .int (lsV hd k)), (12, .int (nI k)), (13, .int (nI (hd k))), (14, .long 0), (16, .int (nI i))]) [] J (lay Lx 184 i (fun _ => 0))) 32 (fun h => by rw [lay_0] at h; exact h) (fun i hi ihi => ?_) ?_
            · refine ru_go hV 9 [(0, 0), (i, 32)] rfl rfl ⟨⟨trivial, nI32_ge hi⟩, ⟨rfl, rfl, hi⟩⟩ ?_
              rw [nI_1, lay_up rfl]
              exact ihi
            · refine ru_go hV 5 [(1, 0)] rfl rfl ⟨trivial, (by decide)⟩ ?_
              have gl : ∀ d, d ≤ n → gN (fun d => (W k d).toInt) d < 2 ^ 31 := fun d hdn => gN_lt (by decide) (fun j hj => by
                have := hbd k hk j (by omega)
                show (W k j).toInt.natAbs < _
                omega)
              refine loop0 (P := fun d => ∀ (J : IM) (Ly : LM), SQ I J → Ly 181 = L 181 → (∀ q, q < 32 → Ly 184 q = vcF (W k) d q) → V 263 (LVb s z ++ [(11, .int (lsV hd k)), (12, .int (nI k)), (13, .int (nI (hd k))), (14, .long (nL (gN (fun d => (W k d).toInt) d))), (16, .int (nI d))]) [] J Ly) n (fun h => h J _ hJ (by rw [lay_ne (by decide)]; exact hLx) (fun q hq => by rw [lay_in hq]; rfl)) (fun d hdn ihd => ?_) ?_
              · clear hJ hLx
                intro J Ly hJ hLy hv
                have hp := pow2_lt d (by omega)
                obtain ⟨J4, L4, ⟨d1, d2, d3⟩, hK4⟩ := ask J Ly hJ hLy k d hk5 hdn (W k d).toInt32 (by rw [if_pos hk])
                obtain ⟨w1, w2⟩ := bw d hdn
                have wb := hbd k hk d hdn
                have c309 : ∀ (Lz : LM), Lz 181 = L 181 → (∀ q, q < 32 → Lz 184 q = vcF (W k) (d + 1) q) → ∀ m x y : Nat, y ≤ m → x < 2 ^ 31 → y < 2 ^ 31 → Nat.gcd x y = gN (fun d => (W k d).toInt) (d + 1) → ∀ lv : LV, lv = LVb s z ++ [(11, .int (lsV hd k)), (12, .int (nI k)), (13, .int (nI (hd k))), (14, .long (nL x)), (16, .int (nI d)), (17, .long (nL y))] → V 309 lv [] J4 Lz := by
                  intro Lz z1 z2 m
                  induction m with
                  | zero =>
                    intro x y hy hx hy31 hgc lv elv
                    subst elv
                    have y0 : y = 0 := by omega
                    subst y0
                    rw [Nat.gcd_zero_right] at hgc
                    subst hgc
                    refine ru_go hV 6 [(1, 0)] rfl rfl ⟨trivial, (lg_cmp0 _ _).mpr rfl⟩ ?_
                    rw [nI_1]
                    exact ru_sub hV [0, 1, 2, 3, 4, 5, 6, 7, 8, 9, 10, 11, 12, 13] rfl (ihd J4 Lz d1 z1 z2)
                  | succ m ihm =>
                    intro x y hy hx hy31 hgc lv elv
                    subst elv
                    by_cases y0 : y = 0
                    · subst y0
                      rw [Nat.gcd_zero_right] at hgc
                      subst hgc
                      refine ru_go hV 6 [(1, 0)] rfl rfl ⟨trivial, (lg_cmp0 _ _).mpr rfl⟩ ?_
                      rw [nI_1]
                      exact ru_sub hV [0, 1, 2, 3, 4, 5, 6, 7, 8, 9, 10, 11, 12, 13] rfl (ihd J4 Lz d1 z1 z2)
                    · have yl : ¬ nL y = 0 := fun e => y0 (nL_inj (b := 0) (by omega) (by decide) e)
                      have hlt : x % y < y := Nat.mod_lt _ (by omega)
                      refine ru_go hV 13 [(0, 0)] rfl rfl ⟨⟨trivial, (fun z => yl ((lg_cmp0 _ _).mp z))⟩, yl⟩ ?_
                      rw [nL_rem (by omega) (by omega)]
                      refine ru_sub hV [0, 1, 2, 3, 4, 5, 6, 7, 8, 9, 10, 11, 12, 13, 14] rfl (ihm y (x % y) (by omega) hy31 (by omega) (by rw [← gcd_st]; exact hgc) _ rfl)
                have hgd := gl d (by omega)
                have hlay : ∀ q, q < 32 → mu L4 184 (2 ^ d) (W k d) 184 q = vcF (W k) (d + 1) q := fun q hq => by
                  rw [vcF]
                  by_cases e : q = 2 ^ d
                  · subst e; rw [mu_at, if_pos rfl]
                  · rw [if_neg e, show ∀ v, mu L4 184 (2 ^ d) v 184 q = L4 184 q from fun v => by simp [mu, e], d3 184 (by decide)]
                    exact hv q hq
                have esh := bl_sh d (by omega)
                have fin : ∀ u : Int64, u = nL (W k d).toInt.natAbs → ∀ lv : LV, lv = LVb s z ++ [(11, .int (lsV hd k)), (12, .int (nI k)), (13, .int (nI (hd k))), (14, .long (nL (gN (fun d => (W k d).toInt) d))), (16, .int (nI d)), (17, .long u)] → V 309 lv [] J4 (mu L4 184 (2 ^ d) (W k d)) := fun u hu lv elv => by
                  subst elv; subst hu
                  exact c309 _ (by rw [mu_ne _ _ (by decide)]; exact d2) hlay ((W k d).toInt.natAbs) (gN (fun d => (W k d).toInt) d) ((W k d).toInt.natAbs) (Nat.le_refl _) hgd (by omega) rfl _ rfl
                refine ru_go hV 9 [(0, 15), (0, 0)] rfl rfl ⟨⟨trivial, (by first | exact rfl | assumption | exact ⟨rfl, rfl⟩ | exact ⟨rfl, rfl, by omega⟩ | exact ⟨by assumption, rfl, by omega⟩ | exact ⟨⟨_, rfl, rfl⟩, by decide, by decide, rfl, by omega⟩ | omega | decide)⟩, (by rw [c0 J hJ]; exact nI_nge hdn (by omega))⟩ ?_
                refine ru_V hV [] sVL_107 hK4 rfl rfl rfl rfl rfl (Nat.le_of_ble_eq_true rfl) ?_
                by_cases hneg : W k d < 0
                · have ht := Int64.lt_iff_toInt_lt.mp hneg
                  rw [show (0 : Int64).toInt = 0 from rfl] at ht
                  refine ru_go hV 16 [((2^d), 32), (0, 0)] rfl rfl ⟨⟨trivial, ⟨rfl, esh, hp⟩⟩, (fun z => lgc_ge.mp z (by rw [w1]; exact hneg))⟩ ?_
                  rw [w1]
                  refine fin _ ?_ _ rfl
                  apply Int64.toInt_inj.mp
                  rw [neg_I ⟨by omega, by omega⟩, nL_toInt (by omega)]
                  omega
                · have ht : ¬ (W k d).toInt < 0 := fun z => hneg (Int64.lt_iff_toInt_lt.mpr (by rw [show (0 : Int64).toInt = 0 from rfl]; exact z))
                  refine ru_go hV 14 [((2^d), 32), (1, 0)] rfl rfl ⟨⟨trivial, ⟨rfl, esh, hp⟩⟩, lgc_ge.mpr (by rw [w1]; exact hneg)⟩ ?_
                  rw [w1]
                  refine fin _ ?_ _ rfl
                  apply Int64.toInt_inj.mp
                  rw [nL_toInt (by omega)]
                  omega
              · clear hJ hLx
                intro J Ly hJ hLy hv
                rw [c6 k hk]
                refine ru_go hV 11 [(0, 15), (1, 0)] rfl rfl ⟨⟨trivial, (by first | exact rfl | assumption | exact ⟨rfl, rfl⟩ | exact ⟨rfl, rfl, by omega⟩ | exact ⟨by assumption, rfl, by omega⟩ | exact ⟨⟨_, rfl, rfl⟩, by decide, by decide, rfl, by omega⟩ | omega | decide)⟩, (by rw [c0 J hJ]; exact nI_le (Nat.le_refl n) (by omega))⟩ ?_
                refine ru_S hV [] sSL_22 (qL_wedge l (cf := 184) (cg := 181) (cr := 185) (a := 0) (b := 32 * s) (nf := 32) (ng := 64) rfl (by decide) rfl (by omega) rfl (by decide) (by decide) n5 (c0 J hJ) Ly) rfl rfl rfl (Nat.le_of_ble_eq_true rfl) ?_
                have hw0 : ∀ q, q < 32 → wdg (fun q => Ly 184 (0 + q)) (fun q => Ly 181 (32 * s + q)) (2 ^ n) q = 0 := fun q hq => by
                  rw [wdg_cong (f' := vcF (W k) n) (g' := fun q => L 181 (32 * s + q)) hB.1 (fun q hq => by rw [Nat.zero_add]; exact hv q hq) (fun q hq => by rw [hLy])]
                  by_cases hqB : q < 2 ^ n
                  · rw [wdg_vecL n5 hR.1 hqB]
                    have key := vaA_I (f := f) (b := q) (v := W k) (X := 1555200000) n5 h60 hqB (by decide) (fun d hd => hbd k hk d hd)
                    have := Nu_all.mp (c4 k hk) q hq
                    apply Int64.toInt_inj.mp
                    rw [key.1, this]
                    rfl
                  · exact wdg_hi n5 hq (by omega)
                generalize hLz : lay Ly 185 32 _ = Lz
                have z181 : Lz 181 = L 181 := by rw [← hLz, lay_ne (by decide)]; exact hLy
                have zc : cnL (fun q => Lz 185 (0 + q)) 32 = 0 := (cnL_0 32).mpr (fun j hj => by
                  rw [← hLz, Nat.zero_add, lay_in hj]
                  exact hw0 j hj)
                refine ru_go hV 6 [(0, 0)] rfl rfl ⟨trivial, (fun z => z ((lg_cmp0 _ _).mpr rfl))⟩ ?_
                refine ru_S hV [] sSL_85 (qL_many l (c := 185) (a := 0) (N := 32) rfl (by decide) J Lz) rfl rfl rfl (Nat.le_of_ble_eq_true rfl) ?_
                rw [zc]
                refine ru_go hV 5 [(1, 0)] rfl rfl ⟨trivial, (by decide)⟩ ?_
                rw [nI_1]
                refine ru_sub hV [0, 1, 2, 3, 4, 5, 6, 7, 8, 9, 10] rfl ?_
                have := ih J Lz hJ z181
                rw [show lsV hd (k + 1) = nI (hd k) by unfold lsV; rw [if_neg (by omega), Nat.add_sub_cancel]] at this
                exact this
      · clear hJ hLx
        intro J Lx hJ hLx
        refine ru_fin hV 5 [(1, 0)] rfl rfl ⟨trivial, nI_le (Nat.le_refl z) (by omega)⟩ ?_
        exact ⟨rfl, hJ, hLx⟩
    -- the two ranks
    have hb1 : ∀ k, k < 32 → -100000000 ≤ (L2 181 (32 * s + k)).toInt ∧ (L2 181 (32 * s + k)).toInt ≤ 100000000 := fun k hk => by rw [q1]; exact hFb k hk
    obtain ⟨r1, I3, L3, ⟨ρ, E, hd1, b, er1, k1, g1, m1, eL3, bb1⟩, hK3⟩ := qL_rank l (a := 32 * s) (n := n) (q := 2147483647) (qv := 2147483647) (by omega) n5 prm_1 (by decide) (by decide) (c0 J1 sq1) L2 hb1
    subst er1
    have sq3 : SQ I I3 := sq1.tr (SQ.li m1)
    obtain ⟨r2, I4, L4, ⟨ρ', E', hd2, b', er2, k2, g2, m2, eL4, bb2⟩, hK4⟩ := qL_rank l (a := 32 * s) (n := n) (q := 2147483629) (qv := 2147483629) (by omega) n5 prm_2 (by decide) (by decide) (c0 I3 sq3) L3 (by rw [eL3]; exact hb1)
    subst er2
    have sq4 : SQ I I4 := sq3.tr (SQ.li m2)
    have q4 : L4 181 = L 181 := by rw [eL4, eL3]; exact q1
    rw [q1] at k1
    rw [eL3, q1] at k2
    obtain ⟨x1, x2, x3⟩ := rk_main n5 h60 hC (RK_uF n5 hR.1 bb1 k1) g1 (RK_uF n5 hR.1 bb2 k2) g2
    refine ru_go hV 8 [(1, 0)] rfl rfl ⟨trivial, lgc_le.mpr hgl⟩ ?_
    refine ru_S hV [] sSL_112 hK3 rfl rfl rfl (Nat.le_of_ble_eq_true rfl) ?_
    refine ru_go hV 6 [] rfl rfl trivial ?_
    refine ru_S hV [] sSL_112 hK4 rfl rfl rfl (Nat.le_of_ble_eq_true rfl) ?_
    have c105 : V 105 (LVb s z ++ [(9, .int (nI ρ)), (10, .int (nI ρ'))]) [] I4 L4 := by
      by_cases hz5 : z < 5
      · obtain ⟨J5, L5, ⟨a1, a2, a3⟩, hK5⟩ := ask I4 L4 sq4 q4 z 0 hz5 (by omega) NON (by rw [if_neg (Nat.lt_irrefl z)])
        refine ru_go hV 7 [(0, 0)] rfl rfl ⟨trivial, nI_nge (n := 5) hz5 (by omega)⟩ ?_
        refine ru_V hV [] sVL_107 hK5 rfl rfl rfl rfl rfl (Nat.le_of_ble_eq_true rfl) ?_
        refine ru_go hV 2 [(1, 0)] rfl rfl ⟨trivial, rfl⟩ ?_
        exact ru_sub hV [0, 1, 2, 3, 4, 5, 6, 7, 8] rfl (c126 J5 L5 a1 a2)
      · refine ru_go hV 3 [(1, 0)] rfl rfl ⟨trivial, nI_le (a := 5) (by omega) (by omega)⟩ ?_
        exact ru_sub hV [0, 1, 2, 3, 4, 5, 6, 7, 8] rfl (c126 I4 L4 sq4 q4)
    by_cases hle : ρ ≤ ρ'
    · refine ru_go hV 11 [(0, 15), (1, 0), (0, 0)] rfl rfl ⟨⟨⟨trivial, (by first | exact rfl | assumption | exact ⟨rfl, rfl⟩ | exact ⟨rfl, rfl, by omega⟩ | exact ⟨by assumption, rfl, by omega⟩ | exact ⟨⟨_, rfl, rfl⟩, by decide, by decide, rfl, by omega⟩ | omega | decide)⟩, nI_le hle (by omega)⟩, (fun y => y (by rw [c0 I4 sq4, nI_subN (by omega)]; congr 1; omega))⟩ ?_
      exact c105
    · refine ru_go hV 12 [(0, 15), (0, 0), (0, 0)] rfl rfl ⟨⟨⟨trivial, (by first | exact rfl | assumption | exact ⟨rfl, rfl⟩ | exact ⟨rfl, rfl, by omega⟩ | exact ⟨by assumption, rfl, by omega⟩ | exact ⟨⟨_, rfl, rfl⟩, by decide, by decide, rfl, by omega⟩ | omega | decide)⟩, nI_nge (by omega) (by omega)⟩, (fun y => y (by rw [c0 I4 sq4, nI_subN (by omega)]; congr 1; omega))⟩ ?_
      exact c105
  · have ean : anF f n = NON := by unfold anF; rw [if_neg hg]
    rw [ean]
    have hgl : (60 : Int64) < (gmF f 32).toInt64 := by
      rw [Int64.lt_iff_toInt_lt, Int32.toInt_toInt64, show (60 : Int64).toInt = 60 from rfl]
      have := Int32.lt_iff_toInt_lt.mp (Int32.not_le.mp hg)
      rw [show (60 : Int32).toInt = 60 from rfl] at this
      exact this
    obtain ⟨J2, L3, ⟨a1, a2⟩, hK⟩ := qL_bs l (s := s) (p := 0) (d := 0) (n := n) (by omega) (by decide) (by omega) n5 (J := J1) (by rw [sq1.lo (by decide)]; exact h2a) L2 (y := NON) (by
      rw [sq1.lo (a := 3 + s) (by omega), hf, ean, if_neg (by decide)])
    refine ru_go hV 10 [(0, 0), (0, 0)] rfl rfl ⟨⟨trivial, (fun y => lgc_le.mp y hgl)⟩, (fun y => y rfl)⟩ ?_
    refine ru_V hV [] sVL_107 hK rfl rfl rfl rfl rfl (Nat.le_of_ble_eq_true rfl) ?_
    refine ru_fin hV 5 [(0, 0)] rfl rfl ⟨trivial, (fun y => y rfl)⟩ ?_
    exact ⟨rfl, sq1.tr a1, (a2 181 (by decide)).trans q1⟩
