/-! the reference: pushed forms, all products -/
/-- the rows behind the columns below c -/
def grL (L : LM) (m : Nat → Nat → Int32) (n b : Nat) : Nat → LM
  | 0 => lay L 9 32 (fun k => if k = 0 then 1 else 0)
  | c + 1 => if b.testBit c then lay (lay (grL L m n b c) 7 (2 ^ n) (wcs m n c (grL L m n b c 9))) 9 (2 ^ n) (wcs m n c (grL L m n b c 9)) else grL L m n b c
theorem gr_ne {L : LM} {m : Nat → Nat → Int32} {n b a : Nat} (h7 : a ≠ 7) (h9 : a ≠ 9) : ∀ c, grL L m n b c a = L a
  | 0 => by rw [grL, lay_ne h9]
  | c + 1 => by
    rw [grL]
    split
    · rw [lay_ne h9, lay_ne h7, gr_ne h7 h9 c]
    · exact gr_ne h7 h9 c
theorem gr_9 {L : LM} {m : Nat → Nat → Int32} {n b : Nat} (hn : n ≤ 5) : ∀ c k, k < 2 ^ n → grL L m n b c 9 k = gw m n b c k
  | 0, k, hk => by
    rw [grL, lay_in (pow_mono n hn k hk)]
    rfl
  | c + 1, k, hk => by
    rw [grL, gw]
    by_cases h : b.testBit c = true
    · simp only [h, if_true]
      rw [lay_in hk]
      exact wcs_cong (fun _ _ => rfl) (fun r hr ht => gr_9 hn c _ (by have := (pc5_drop k (pow_mono n hn k hk) r (by omega) ht).2; omega))
    · simp only [h]
      exact gr_9 hn c k hk
theorem qX8_layGrown (l : Launch) {n b : Nat} (hn : n ≤ 5) (hb : b < 32) {I : IM} (hd : I 1 0 = nI n) (L : LM) : KX8_layGrown l [.ref 0, .int (nI b)] I L none I (grL L (mxR I) n b n) := by
  refine wX8_layGrown l rfl (hz0 (by decide)) (fun V hV => ?_)
  refine ru_go hV 2 [] rfl rfl trivial ?_
  refine loop0 (P := fun k => V 2 [(0, .ref 0), (1, .int (nI b)), (2, .int (nI k))] [] I (lay L 9 k (fun k => if k = 0 then 1 else 0))) 32 (fun h => by rw [lay_0] at h; exact h) (fun k hk ih => ?_) ?_
  · by_cases h : k = 0
    · refine ru_go hV 13 [(0, 0), (9, 0), (0, 0), (k, 32)] rfl rfl ⟨⟨⟨⟨trivial, nI32_ge hk⟩, (by first | exact rfl | assumption | exact ⟨rfl, rfl⟩ | exact ⟨rfl, rfl, by omega⟩ | exact ⟨by assumption, rfl, by omega⟩ | exact ⟨⟨_, rfl, rfl⟩, by decide, by decide, rfl, by omega⟩ | omega | decide)⟩, (fun e => e (by rw [h]; rfl))⟩, (by first | exact rfl | assumption | exact ⟨rfl, rfl⟩ | exact ⟨rfl, rfl, by omega⟩ | exact ⟨by assumption, rfl, by omega⟩ | exact ⟨⟨_, rfl, rfl⟩, by decide, by decide, rfl, by omega⟩ | omega | decide)⟩ ?_
      rw [nI_1, lay_up (by rw [if_pos h])]
      exact ih
    · refine ru_go hV 12 [(0, 0), (9, 0), (1, 0), (k, 32)] rfl rfl ⟨⟨⟨⟨trivial, nI32_ge hk⟩, (by first | exact rfl | assumption | exact ⟨rfl, rfl⟩ | exact ⟨rfl, rfl, by omega⟩ | exact ⟨by assumption, rfl, by omega⟩ | exact ⟨⟨_, rfl, rfl⟩, by decide, by decide, rfl, by omega⟩ | omega | decide)⟩, nI_ne0 (by omega) (by omega)⟩, (by first | exact rfl | assumption | exact ⟨rfl, rfl⟩ | exact ⟨rfl, rfl, by omega⟩ | exact ⟨by assumption, rfl, by omega⟩ | exact ⟨⟨_, rfl, rfl⟩, by decide, by decide, rfl, by omega⟩ | omega | decide)⟩ ?_
      rw [nI_1, lay_up (by rw [if_neg h])]
      exact ih
  · refine ru_go hV 5 [(1, 0)] rfl rfl ⟨trivial, (by first | exact rfl | assumption | exact ⟨rfl, rfl⟩ | exact ⟨rfl, rfl, by omega⟩ | exact ⟨by assumption, rfl, by omega⟩ | exact ⟨⟨_, rfl, rfl⟩, by decide, by decide, rfl, by omega⟩ | omega | decide)⟩ ?_
    refine loop0 (P := fun c => V 31 [(0, .ref 0), (1, .int (nI b)), (2, .int (nI c))] [] I (grL L (mxR I) n b c)) n (fun h => h) (fun c hc ih => ?_) ?_
    · by_cases h : b.testBit c = true
      · refine ru_go hV 15 [(1, 0), (0, 296), (0, 0), (0, 0)] rfl rfl ⟨⟨⟨⟨trivial, (by first | exact rfl | assumption | exact ⟨rfl, rfl⟩ | exact ⟨rfl, rfl, by omega⟩ | exact ⟨by assumption, rfl, by omega⟩ | exact ⟨⟨_, rfl, rfl⟩, by decide, by decide, rfl, by omega⟩ | omega | decide)⟩, (by first | exact rfl | assumption | exact ⟨rfl, rfl⟩ | exact ⟨rfl, rfl, by omega⟩ | exact ⟨by assumption, rfl, by omega⟩ | exact ⟨⟨_, rfl, rfl⟩, by decide, by decide, rfl, by omega⟩ | omega | decide)⟩, (by rw [hd]; exact nI_nge hc (by omega))⟩, (fun e => e (by rw [bt_01 b hb c (by omega), if_pos h]))⟩ ?_
        refine ru_V hV [] sVX8_97 (qX8_growBy l hn (by omega) hd _) rfl rfl rfl rfl rfl (Nat.le_of_ble_eq_true rfl) ?_
        refine ru_go hV 2 [] rfl rfl trivial ?_
        rw [nI_1]
        rw [show grL L (mxR I) n b (c + 1) = _ from if_pos h] at ih
        exact ih
      · refine ru_go hV 15 [(1, 0), (0, 296), (0, 0), (1, 0)] rfl rfl ⟨⟨⟨⟨trivial, (by first | exact rfl | assumption | exact ⟨rfl, rfl⟩ | exact ⟨rfl, rfl, by omega⟩ | exact ⟨by assumption, rfl, by omega⟩ | exact ⟨⟨_, rfl, rfl⟩, by decide, by decide, rfl, by omega⟩ | omega | decide)⟩, (by first | exact rfl | assumption | exact ⟨rfl, rfl⟩ | exact ⟨rfl, rfl, by omega⟩ | exact ⟨by assumption, rfl, by omega⟩ | exact ⟨⟨_, rfl, rfl⟩, by decide, by decide, rfl, by omega⟩ | omega | decide)⟩, (by rw [hd]; exact nI_nge hc (by omega))⟩, (by rw [bt_01 b hb c (by omega), if_neg h]; decide)⟩ ?_
        rw [nI_1]
        rw [show grL L (mxR I) n b (c + 1) = _ from if_neg h] at ih
        exact ih
    · refine ru_fin hV 7 [(1, 0), (0, 296), (1, 0)] rfl rfl ⟨⟨⟨trivial, (by first | exact rfl | assumption | exact ⟨rfl, rfl⟩ | exact ⟨rfl, rfl, by omega⟩ | exact ⟨by assumption, rfl, by omega⟩ | exact ⟨⟨_, rfl, rfl⟩, by decide, by decide, rfl, by omega⟩ | omega | decide)⟩, (by first | exact rfl | assumption | exact ⟨rfl, rfl⟩ | exact ⟨rfl, rfl, by omega⟩ | exact ⟨by assumption, rfl, by omega⟩ | exact ⟨⟨_, rfl, rfl⟩, by decide, by decide, rfl, by omega⟩ | omega | decide)⟩, (by rw [hd]; exact nI_le (Nat.le_refl n) (by omega))⟩ ?_
      exact ⟨rfl, rfl, rfl⟩
/-- the rows behind the blades below i -/
def psL (L : LM) (m : Nat → Nat → Int32) (n : Nat) : Nat → LM
  | 0 => L
  | i + 1 => if L 6 i = 0 then psL L m n i else lay (grL (psL L m n i) m n i n) 8 (2 ^ n) (fun k => psL L m n i 8 k + L 6 i * grL (psL L m n i) m n i n 9 k)
theorem ps_6 {L : LM} {m : Nat → Nat → Int32} {n : Nat} : ∀ i, psL L m n i 6 = L 6
  | 0 => rfl
  | i + 1 => by
    rw [psL]
    split
    · exact ps_6 i
    · rw [lay_ne (by decide), gr_ne (by decide) (by decide), ps_6 i]
theorem ps_8 {L : LM} {m : Nat → Nat → Int32} {n : Nat} (hn : n ≤ 5) {k : Nat} (hk : k < 2 ^ n) (h0 : L 8 k = 0) : ∀ i, psL L m n i 8 k = sumL (fun i => L 6 i * gw m n i n k) i
  | 0 => h0
  | i + 1 => by
    rw [psL, sumL]
    by_cases h : L 6 i = 0
    · rw [if_pos h, ps_8 hn hk h0 i, h, Int64.zero_mul, Int64.add_zero]
    · rw [if_neg h, lay_in hk, ps_8 hn hk h0 i, gr_9 hn n k hk]
theorem qX8_layPush (l : Launch) {n : Nat} (hn : n ≤ 5) {I : IM} (hd : I 1 0 = nI n) (L : LM) : KX8_layPush l [.ref 0] I L none I (psL L (mxR I) n (2 ^ n)) := by
  obtain ⟨hB, -⟩ := pow_le32 n hn
  have hbl : ∀ M : LM, KX8_blades l [.ref 0] I M (some (.int (nI (2 ^ n)))) I M := fun M => qX8_blades l hn hd M
  refine wX8_layPush l rfl (hz0 (by decide)) (fun V hV => ?_)
  refine ru_go hV 2 [] rfl rfl trivial ?_
  refine loop0 (P := fun i => V 2 [(0, .ref 0), (1, .int (nI i))] [] I (psL L (mxR I) n i)) (2 ^ n) (fun h => h) (fun i hi ih => ?_) ?_
  · have hi32 : i < 32 := by omega
    have e6 := ps_6 (L := L) (m := mxR I) (n := n) i
    rw [psL] at ih
    generalize psL L (mxR I) n i = M at e6 ih ⊢
    refine ru_go hV 2 [] rfl rfl trivial ?_
    refine ru_V hV [.int (nI i)] sVX8_58 (hbl _) rfl rfl rfl rfl rfl (Nat.le_of_ble_eq_true rfl) ?_
    by_cases h : L 6 i = 0
    · rw [if_pos h] at ih
      refine ru_go hV 10 [(0, 0), (6, 0), (i, 32), (1, 0)] rfl rfl ⟨⟨⟨⟨trivial, nI_nge hi (by omega)⟩, (by first | exact rfl | assumption | exact ⟨rfl, rfl⟩ | exact ⟨rfl, rfl, by omega⟩ | exact ⟨by assumption, rfl, by omega⟩ | exact ⟨⟨_, rfl, rfl⟩, by decide, by decide, rfl, by omega⟩ | omega | decide)⟩, (by first | exact rfl | assumption | exact ⟨rfl, rfl⟩ | exact ⟨rfl, rfl, by omega⟩ | exact ⟨by assumption, rfl, by omega⟩ | exact ⟨⟨_, rfl, rfl⟩, by decide, by decide, rfl, by omega⟩ | omega | decide)⟩, (by rw [e6]; exact (lg_cmp0 _ _).mpr h)⟩ ?_
      rw [nI_1]
      exact ih
    · rw [if_neg h] at ih
      refine ru_go hV 10 [(0, 0), (6, 0), (i, 32), (0, 0)] rfl rfl ⟨⟨⟨⟨trivial, nI_nge hi (by omega)⟩, (by first | exact rfl | assumption | exact ⟨rfl, rfl⟩ | exact ⟨rfl, rfl, by omega⟩ | exact ⟨by assumption, rfl, by omega⟩ | exact ⟨⟨_, rfl, rfl⟩, by decide, by decide, rfl, by omega⟩ | omega | decide)⟩, (by first | exact rfl | assumption | exact ⟨rfl, rfl⟩ | exact ⟨rfl, rfl, by omega⟩ | exact ⟨by assumption, rfl, by omega⟩ | exact ⟨⟨_, rfl, rfl⟩, by decide, by decide, rfl, by omega⟩ | omega | decide)⟩, (by rw [e6]; exact fun e => h ((lg_cmp0 _ _).mp e))⟩ ?_
      refine ru_V hV [] sVX8_101 (qX8_layGrown l hn hi32 hd _) rfl rfl rfl rfl rfl (Nat.le_of_ble_eq_true rfl) ?_
      have g6 := gr_ne (L := M) (m := mxR I) (n := n) (b := i) (a := 6) (by decide) (by decide) n
      have g8 := gr_ne (L := M) (m := mxR I) (n := n) (b := i) (a := 8) (by decide) (by decide) n
      generalize grL M (mxR I) n i n = G at g6 g8 ih ⊢
      rw [e6] at g6
      refine ru_go hV 2 [] rfl rfl trivial ?_
      refine loop0 (P := fun k => V 28 [(0, .ref 0), (1, .int (nI i)), (2, .int (nI k))] [] I (lay G 8 k (fun k => M 8 k + L 6 i * G 9 k))) (2 ^ n) (fun h => by rw [lay_0] at h; exact h) (fun k hk ih2 => ?_) ?_
      · have hk32 : k < 32 := by omega
        refine ru_go hV 2 [] rfl rfl trivial ?_
        refine ru_V hV [.int (nI k)] sVX8_58 (hbl _) rfl rfl rfl rfl rfl (Nat.le_of_ble_eq_true rfl) ?_
        refine ru_go hV 19 [(0, 0), (8, 0), (k, 32), (6, 0), (i, 32), (9, 0), (k, 32), (k, 32)] rfl rfl ⟨⟨⟨⟨⟨⟨⟨⟨trivial, nI_nge hk (by omega)⟩, (by first | exact rfl | assumption | exact ⟨rfl, rfl⟩ | exact ⟨rfl, rfl, by omega⟩ | exact ⟨by assumption, rfl, by omega⟩ | exact ⟨⟨_, rfl, rfl⟩, by decide, by decide, rfl, by omega⟩ | omega | decide)⟩, (by first | exact rfl | assumption | exact ⟨rfl, rfl⟩ | exact ⟨rfl, rfl, by omega⟩ | exact ⟨by assumption, rfl, by omega⟩ | exact ⟨⟨_, rfl, rfl⟩, by decide, by decide, rfl, by omega⟩ | omega | decide)⟩, (by first | exact rfl | assumption | exact ⟨rfl, rfl⟩ | exact ⟨rfl, rfl, by omega⟩ | exact ⟨by assumption, rfl, by omega⟩ | exact ⟨⟨_, rfl, rfl⟩, by decide, by decide, rfl, by omega⟩ | omega | decide)⟩, (by first | exact rfl | assumption | exact ⟨rfl, rfl⟩ | exact ⟨rfl, rfl, by omega⟩ | exact ⟨by assumption, rfl, by omega⟩ | exact ⟨⟨_, rfl, rfl⟩, by decide, by decide, rfl, by omega⟩ | omega | decide)⟩, (by first | exact rfl | assumption | exact ⟨rfl, rfl⟩ | exact ⟨rfl, rfl, by omega⟩ | exact ⟨by assumption, rfl, by omega⟩ | exact ⟨⟨_, rfl, rfl⟩, by decide, by decide, rfl, by omega⟩ | omega | decide)⟩, (by first | exact rfl | assumption | exact ⟨rfl, rfl⟩ | exact ⟨rfl, rfl, by omega⟩ | exact ⟨by assumption, rfl, by omega⟩ | exact ⟨⟨_, rfl, rfl⟩, by decide, by decide, rfl, by omega⟩ | omega | decide)⟩, (by first | exact rfl | assumption | exact ⟨rfl, rfl⟩ | exact ⟨rfl, rfl, by omega⟩ | exact ⟨by assumption, rfl, by omega⟩ | exact ⟨⟨_, rfl, rfl⟩, by decide, by decide, rfl, by omega⟩ | omega | decide)⟩ ?_
        rw [nI_1, lay_up (by rw [lay_ne (a := 6) (by decide), lay_ne (a := 9) (by decide), lay_out (Nat.le_refl k), g6, g8])]
        exact ih2
      · refine ru_go hV 2 [] rfl rfl trivial ?_
        refine ru_V hV [.int (nI (2 ^ n))] sVX8_58 (hbl _) rfl rfl rfl rfl rfl (Nat.le_of_ble_eq_true rfl) ?_
        refine ru_go hV 3 [(1, 0)] rfl rfl ⟨trivial, nI_le (Nat.le_refl _) (by omega)⟩ ?_
        rw [nI_1]
        exact ru_sub hV [0, 1] rfl ih
  · refine ru_go hV 2 [] rfl rfl trivial ?_
    refine ru_V hV [.int (nI (2 ^ n))] sVX8_58 (hbl _) rfl rfl rfl rfl rfl (Nat.le_of_ble_eq_true rfl) ?_
    refine ru_fin hV 2 [(1, 0)] rfl rfl ⟨trivial, nI_le (Nat.le_refl _) (by omega)⟩ ?_
    exact ⟨rfl, rfl, rfl⟩
theorem sumL_z : ∀ n, sumL (fun _ => 0) n = 0
  | 0 => rfl
  | n + 1 => by rw [sumL, sumL_z n]; rfl
/-- the numbers of another grade are 0 -/
theorem gw_0 {m : Nat → Nat → Int32} {n b : Nat} (hn : n ≤ 5) : ∀ c t, t < 32 → pc5 t ≠ pcl b c → gw m n b c t = 0
  | 0, t, ht, h => by
    show (if t = 0 then (1 : Int64) else 0) = 0
    rw [if_neg (fun e => h (by rw [e]; rfl))]
  | c + 1, t, ht, h => by
    rw [gw]
    by_cases hb : b.testBit c = true
    · simp only [hb, if_true]
      simp only [pcl, hb, if_true] at h
      refine Eq.trans (sumL_cong (g := fun _ => 0) (fun r hr => ?_)) (sumL_z n)
      by_cases h1 : t.testBit r = true
      · obtain ⟨d1, d2⟩ := pc5_drop t ht r (by omega) h1
        rw [if_pos h1, gw_0 hn c (t ^^^ 2 ^ r) (by omega) (by omega), Int64.zero_mul, sg_0]
      · rw [if_neg h1]
    · simp only [hb]
      simp only [pcl, hb] at h
      exact gw_0 hn c t ht h
/-- the number of a product of the reference -/
def rfR (I : IM) (n w a b : Nat) : Nat → Int64 := match w with
  | 0 => fun k => (frR I a k).toInt64 + (frR I b k).toInt64
  | 1 => wC (frR I a) (frR I b) (2 ^ n)
  | 2 => cC (sgR I) (frR I a) (frR I b) (2 ^ n)
  | _ => puC (mxR I) n (frR I a)
theorem xor_ltn : ∀ n, n ≤ 5 → ∀ k, k < 2 ^ n → ∀ i, i < 2 ^ n → k ^^^ i < 2 ^ n ∧ i ||| k < 2 ^ n := fun n hn k hk i hi => ⟨Nat.xor_lt_two_pow hk hi, Nat.or_lt_two_pow hi hk⟩
theorem wR_wC {f g : Nat → Int64} {a b : Nat → Int32} {n k : Nat} (hn : n ≤ 5) (hk : k < 2 ^ n) (hf : ∀ i, i < 2 ^ n → f i = (a i).toInt64) (hg : ∀ i, i < 2 ^ n → g i = (b i).toInt64) : wR f g (2 ^ n) k = wC a b (2 ^ n) k := sumL_cong (fun i hi => by
  have hx := (xor_ltn n hn k hk i hi).1
  unfold wRi wI
  by_cases h : i &&& k = i
  · rw [if_pos h, if_pos ⟨h, hx⟩, hf i hi, hg _ hx]
  · rw [if_neg h, if_neg (fun e => h e.1)])
theorem cR_cC {s : Nat → Int32} {f g : Nat → Int64} {a b : Nat → Int32} {n k : Nat} (hn : n ≤ 5) (hk : k < 2 ^ n) (hf : ∀ i, i < 2 ^ n → f i = (a i).toInt64) (hg : ∀ i, i < 2 ^ n → g i = (b i).toInt64) : cR s f g (2 ^ n) k = cC s a b (2 ^ n) k := sumL_cong (fun i hi => by
  have hx := (xor_ltn n hn k hk i hi).2
  unfold cRi cI
  by_cases h : i &&& k = 0
  · rw [if_pos h, if_pos ⟨hk, h⟩, hf i hi, hg _ hx]
  · rw [if_neg h, if_neg (fun e => h e.2)])
theorem ls_o {L : LM} {f g : Nat → Int64} {k a : Nat} (h : a < 6) : lsL L f g k a = L a := by
  funext j
  simp only [lsL]
  rw [if_neg (by omega)]
theorem ps_ne {L : LM} {m : Nat → Nat → Int32} {n a : Nat} (h : a < 6) : ∀ i, psL L m n i a = L a
  | 0 => rfl
  | i + 1 => by
    rw [psL]
    split
    · exact ps_ne h i
    · rw [lay_ne (by omega), gr_ne (by omega) (by omega), ps_ne h i]
theorem qX8_layByH (l : Launch) {w a b n : Nat} (hw : w < 4) (ha : a < 8) (hb : b < 8) (hn : n ≤ 5) {I : IM} (hd : I 1 0 = nI n) (L : LM) : ∃ L2, ((∀ k, k < 2 ^ n → L2 8 k = rfR I n w a b k) ∧ L2 0 23 = L 0 23) ∧ KX8_layBy l [.ref 0, .int (nI w), .int (nI a), .int (nI b)] I L none I L2 := by
  obtain ⟨hB, -⟩ := pow_le32 n hn
  have hls := qX8_laySlots l ha hb hn hd L
  have m6 : ∀ k, k < 2 ^ n → lsL L (fL (frR I a) n) (fL (frR I b) n) 32 6 k = (frR I a k).toInt64 := fun k hk => by rw [ls_6 (by omega), fL, if_pos hk]
  have m7 : ∀ k, k < 2 ^ n → lsL L (fL (frR I a) n) (fL (frR I b) n) 32 7 k = (frR I b k).toInt64 := fun k hk => by rw [ls_7 (by omega), fL, if_pos hk]
  have m8 : ∀ k, k < 32 → lsL L (fL (frR I a) n) (fL (frR I b) n) 32 8 k = 0 := fun k hk => ls_8 hk
  have m0 : lsL L (fL (frR I a) n) (fL (frR I b) n) 32 0 23 = L 0 23 := by rw [ls_o (by decide)]
  generalize lsL L (fL (frR I a) n) (fL (frR I b) n) 32 = M at hls m6 m7 m8 m0
  have hbl : ∀ M : LM, KX8_blades l [.ref 0] I M (some (.int (nI (2 ^ n)))) I M := fun M => qX8_blades l hn hd M
  match w, hw with
  | 0, _ =>
    refine ⟨lay M 8 (2 ^ n) (fun k => M 6 k + M 7 k), ⟨fun k hk => by rw [lay_in hk, m6 k hk, m7 k hk]; rfl, by rw [lay_ne (by decide)]; exact m0⟩, wX8_layBy l rfl (hz0 (by decide)) (fun V hV => ?_)⟩
    refine ru_go hV 3 [] rfl rfl trivial ?_
    refine ru_V hV [] sVX8_104 hls rfl rfl rfl rfl rfl (Nat.le_of_ble_eq_true rfl) ?_
    refine ru_go hV 4 [(0, 0)] rfl rfl ⟨trivial, (fun e => e rfl)⟩ ?_
    refine loop0 (P := fun k => V 13 [(0, .ref 0), (1, .int (nI 0)), (2, .int (nI a)), (3, .int (nI b)), (4, .int (nI k))] [] I (lay M 8 k (fun k => M 6 k + M 7 k))) (2 ^ n) (fun h => by rw [lay_0] at h; exact h) (fun k hk ih => ?_) ?_
    · refine ru_go hV 2 [] rfl rfl trivial ?_
      refine ru_V hV [.int (nI k)] sVX8_58 (hbl _) rfl rfl rfl rfl rfl (Nat.le_of_ble_eq_true rfl) ?_
      refine ru_go hV 16 [(0, 0), (8, 0), (6, 0), (k, 32), (7, 0), (k, 32), (k, 32)] rfl rfl ⟨⟨⟨⟨⟨⟨⟨trivial, nI_nge hk (by omega)⟩, (by first | exact rfl | assumption | exact ⟨rfl, rfl⟩ | exact ⟨rfl, rfl, by omega⟩ | exact ⟨by assumption, rfl, by omega⟩ | exact ⟨⟨_, rfl, rfl⟩, by decide, by decide, rfl, by omega⟩ | omega | decide)⟩, (by first | exact rfl | assumption | exact ⟨rfl, rfl⟩ | exact ⟨rfl, rfl, by omega⟩ | exact ⟨by assumption, rfl, by omega⟩ | exact ⟨⟨_, rfl, rfl⟩, by decide, by decide, rfl, by omega⟩ | omega | decide)⟩, (by first | exact rfl | assumption | exact ⟨rfl, rfl⟩ | exact ⟨rfl, rfl, by omega⟩ | exact ⟨by assumption, rfl, by omega⟩ | exact ⟨⟨_, rfl, rfl⟩, by decide, by decide, rfl, by omega⟩ | omega | decide)⟩, (by first | exact rfl | assumption | exact ⟨rfl, rfl⟩ | exact ⟨rfl, rfl, by omega⟩ | exact ⟨by assumption, rfl, by omega⟩ | exact ⟨⟨_, rfl, rfl⟩, by decide, by decide, rfl, by omega⟩ | omega | decide)⟩, (by first | exact rfl | assumption | exact ⟨rfl, rfl⟩ | exact ⟨rfl, rfl, by omega⟩ | exact ⟨by assumption, rfl, by omega⟩ | exact ⟨⟨_, rfl, rfl⟩, by decide, by decide, rfl, by omega⟩ | omega | decide)⟩, (by first | exact rfl | assumption | exact ⟨rfl, rfl⟩ | exact ⟨rfl, rfl, by omega⟩ | exact ⟨by assumption, rfl, by omega⟩ | exact ⟨⟨_, rfl, rfl⟩, by decide, by decide, rfl, by omega⟩ | omega | decide)⟩ ?_
      rw [nI_1, lay_up (by rw [lay_ne (a := 6) (by decide), lay_ne (a := 7) (by decide)])]
      exact ih
    · refine ru_go hV 2 [] rfl rfl trivial ?_
      refine ru_V hV [.int (nI (2 ^ n))] sVX8_58 (hbl _) rfl rfl rfl rfl rfl (Nat.le_of_ble_eq_true rfl) ?_
      refine ru_fin hV 3 [(1, 0)] rfl rfl ⟨trivial, nI_le (Nat.le_refl _) (by omega)⟩ ?_
      exact ⟨rfl, rfl, rfl⟩
  | 1, _ =>
    refine ⟨lay M 8 (2 ^ n) (wR (M 6) (M 7) (2 ^ n)), ⟨fun k hk => by rw [lay_in hk]; exact wR_wC hn hk m6 m7, by rw [lay_ne (by decide)]; exact m0⟩, wX8_layBy l rfl (hz0 (by decide)) (fun V hV => ?_)⟩
    refine ru_go hV 3 [] rfl rfl trivial ?_
    refine ru_V hV [] sVX8_104 hls rfl rfl rfl rfl rfl (Nat.le_of_ble_eq_true rfl) ?_
    refine ru_go hV 6 [(1, 0), (0, 0)] rfl rfl ⟨⟨trivial, (by decide)⟩, (fun e => e rfl)⟩ ?_
    refine ru_V hV [] sVX8_108 (qX8_layWedge l hn hd M) rfl rfl rfl rfl rfl (Nat.le_of_ble_eq_true rfl) ?_
    refine ru_fin hV 2 [] rfl rfl trivial ?_
    exact ⟨rfl, rfl, rfl⟩
  | 2, _ =>
    refine ⟨lay M 8 (2 ^ n) (cR (sgR I) (M 6) (M 7) (2 ^ n)), ⟨fun k hk => by rw [lay_in hk]; exact cR_cC hn hk m6 m7, by rw [lay_ne (by decide)]; exact m0⟩, wX8_layBy l rfl (hz0 (by decide)) (fun V hV => ?_)⟩
    refine ru_go hV 3 [] rfl rfl trivial ?_
    refine ru_V hV [] sVX8_104 hls rfl rfl rfl rfl rfl (Nat.le_of_ble_eq_true rfl) ?_
    refine ru_go hV 9 [(1, 0), (1, 0), (0, 0)] rfl rfl ⟨⟨⟨trivial, (by decide)⟩, (by decide)⟩, (fun e => e rfl)⟩ ?_
    refine ru_V hV [] sVX8_111 (qX8_layContraction l hn hd M) rfl rfl rfl rfl rfl (Nat.le_of_ble_eq_true rfl) ?_
    refine ru_fin hV 2 [] rfl rfl trivial ?_
    exact ⟨rfl, rfl, rfl⟩
  | 3, _ =>
    refine ⟨psL M (mxR I) n (2 ^ n), ⟨fun k hk => ?_, by rw [ps_ne (by decide)]; exact m0⟩, wX8_layBy l rfl (hz0 (by decide)) (fun V hV => ?_)⟩
    · rw [ps_8 hn hk (m8 k (by omega))]
      show _ = puC (mxR I) n (frR I a) k
      refine sumL_cong (fun i hi => ?_)
      rw [m6 i hi, puI]
      by_cases h : pc5 k = pc5 i
      · rw [if_pos ⟨hk, h⟩]
      · rw [if_neg (fun e => h e.2), gw_0 hn n k (by omega) (by rw [pcl_all n hn i hi]; exact h), Int64.mul_zero]
    · refine ru_go hV 3 [] rfl rfl trivial ?_
      refine ru_V hV [] sVX8_104 hls rfl rfl rfl rfl rfl (Nat.le_of_ble_eq_true rfl) ?_
      refine ru_go hV 9 [(1, 0), (1, 0), (1, 0)] rfl rfl ⟨⟨⟨trivial, (by decide)⟩, (by decide)⟩, (by decide)⟩ ?_
      refine ru_V hV [] sVX8_114 (qX8_layPush l hn hd M) rfl rfl rfl rfl rfl (Nat.le_of_ble_eq_true rfl) ?_
      refine ru_fin hV 1 [] rfl rfl trivial ?_
      exact ⟨rfl, rfl, rfl⟩
theorem qX8_layBy (l : Launch) {w a b n : Nat} (hw : w < 4) (ha : a < 8) (hb : b < 8) (hn : n ≤ 5) {I : IM} (hd : I 1 0 = nI n) (L : LM) : ∃ L2, (∀ k, k < 2 ^ n → L2 8 k = rfR I n w a b k) ∧ KX8_layBy l [.ref 0, .int (nI w), .int (nI a), .int (nI b)] I L none I L2 := by
  obtain ⟨L2, ⟨h1, -⟩, h2⟩ := qX8_layByH l hw ha hb hn hd L
  exact ⟨L2, h1, h2⟩
theorem qX8_beyond (l : Launch) {n : Nat} (hn : n ≤ 5) {I : IM} (hd : I 1 0 = nI n) (L : LM) : KX8_beyond l [.ref 0] I L (some (.int (fsI (ftO (L 8) (2 ^ n))))) I L := by
  obtain ⟨hB, -⟩ := pow_le32 n hn
  have hbl : ∀ M : LM, KX8_blades l [.ref 0] I M (some (.int (nI (2 ^ n)))) I M := fun M => qX8_blades l hn hd M
  generalize 2 ^ n = B at hB hbl ⊢
  refine wX8_beyond l rfl (hz0 (by decide)) (fun V hV => ?_)
  refine ru_go hV 2 [] rfl rfl trivial ?_
  refine loop0 (P := fun k => (∀ j, j < k → tooB (L 8 j) = false) → V 2 [(0, .ref 0), (1, .int (nI k))] [] I L) B (fun h => h (fun j hj => absurd hj (by omega))) (fun k hk ih hall => ?_) (fun hall => ?_)
  · refine ru_go hV 2 [] rfl rfl trivial ?_
    refine ru_V hV [.int (nI k)] sVX8_58 (hbl _) rfl rfl rfl rfl rfl (Nat.le_of_ble_eq_true rfl) ?_
    by_cases h1 : L 8 k < -100000000
    · have ht : tooB (L 8 k) = true := by simp [tooB, h1]
      refine ru_fin hV 10 [(0, 0), (8, 0), (k, 32), (1, 0)] rfl rfl ⟨⟨⟨⟨trivial, nI_nge hk (by omega)⟩, (by first | exact rfl | assumption | exact ⟨rfl, rfl⟩ | exact ⟨rfl, rfl, by omega⟩ | exact ⟨by assumption, rfl, by omega⟩ | exact ⟨⟨_, rfl, rfl⟩, by decide, by decide, rfl, by omega⟩ | omega | decide)⟩, (by first | exact rfl | assumption | exact ⟨rfl, rfl⟩ | exact ⟨rfl, rfl, by omega⟩ | exact ⟨by assumption, rfl, by omega⟩ | exact ⟨⟨_, rfl, rfl⟩, by decide, by decide, rfl, by omega⟩ | omega | decide)⟩, (lg_cmp_lt _ _).mpr h1⟩ ?_
      exact ⟨by rw [ftO, fsO_some ht hall B hk]; rfl, rfl, rfl⟩
    · by_cases h2 : 100000000 < L 8 k
      · have ht : tooB (L 8 k) = true := by simp [tooB, h2]
        refine ru_fin hV 17 [(0, 0), (8, 0), (k, 32), (0, 0), (8, 0), (k, 32), (0, 0)] rfl rfl ⟨⟨⟨⟨⟨⟨⟨trivial, nI_nge hk (by omega)⟩, (by first | exact rfl | assumption | exact ⟨rfl, rfl⟩ | exact ⟨rfl, rfl, by omega⟩ | exact ⟨by assumption, rfl, by omega⟩ | exact ⟨⟨_, rfl, rfl⟩, by decide, by decide, rfl, by omega⟩ | omega | decide)⟩, (by first | exact rfl | assumption | exact ⟨rfl, rfl⟩ | exact ⟨rfl, rfl, by omega⟩ | exact ⟨by assumption, rfl, by omega⟩ | exact ⟨⟨_, rfl, rfl⟩, by decide, by decide, rfl, by omega⟩ | omega | decide)⟩, (fun e => h1 ((lg_cmp_lt _ _).mp e))⟩, (by first | exact rfl | assumption | exact ⟨rfl, rfl⟩ | exact ⟨rfl, rfl, by omega⟩ | exact ⟨by assumption, rfl, by omega⟩ | exact ⟨⟨_, rfl, rfl⟩, by decide, by decide, rfl, by omega⟩ | omega | decide)⟩, (by first | exact rfl | assumption | exact ⟨rfl, rfl⟩ | exact ⟨rfl, rfl, by omega⟩ | exact ⟨by assumption, rfl, by omega⟩ | exact ⟨⟨_, rfl, rfl⟩, by decide, by decide, rfl, by omega⟩ | omega | decide)⟩, (fun e => absurd h2 (lg_le_not_lt ((lg_cmp_le _ _).mp e)))⟩ ?_
        exact ⟨by rw [ftO, fsO_some ht hall B hk]; rfl, rfl, rfl⟩
      · have ht : tooB (L 8 k) = false := by simp [tooB, Int64.not_lt.mp h1, Int64.not_lt.mp h2]
        refine ru_go hV 17 [(0, 0), (8, 0), (k, 32), (0, 0), (8, 0), (k, 32), (1, 0)] rfl rfl ⟨⟨⟨⟨⟨⟨⟨trivial, nI_nge hk (by omega)⟩, (by first | exact rfl | assumption | exact ⟨rfl, rfl⟩ | exact ⟨rfl, rfl, by omega⟩ | exact ⟨by assumption, rfl, by omega⟩ | exact ⟨⟨_, rfl, rfl⟩, by decide, by decide, rfl, by omega⟩ | omega | decide)⟩, (by first | exact rfl | assumption | exact ⟨rfl, rfl⟩ | exact ⟨rfl, rfl, by omega⟩ | exact ⟨by assumption, rfl, by omega⟩ | exact ⟨⟨_, rfl, rfl⟩, by decide, by decide, rfl, by omega⟩ | omega | decide)⟩, (fun e => h1 ((lg_cmp_lt _ _).mp e))⟩, (by first | exact rfl | assumption | exact ⟨rfl, rfl⟩ | exact ⟨rfl, rfl, by omega⟩ | exact ⟨by assumption, rfl, by omega⟩ | exact ⟨⟨_, rfl, rfl⟩, by decide, by decide, rfl, by omega⟩ | omega | decide)⟩, (by first | exact rfl | assumption | exact ⟨rfl, rfl⟩ | exact ⟨rfl, rfl, by omega⟩ | exact ⟨by assumption, rfl, by omega⟩ | exact ⟨⟨_, rfl, rfl⟩, by decide, by decide, rfl, by omega⟩ | omega | decide)⟩, ((lg_cmp_le _ _).mpr (Int64.not_lt.mp h2))⟩ ?_
        rw [nI_1]
        refine ih (fun j hj => ?_)
        by_cases e : j = k
        · rw [e]; exact ht
        · exact hall j (by omega)
  · refine ru_go hV 2 [] rfl rfl trivial ?_
    refine ru_V hV [.int (nI B)] sVX8_58 (hbl _) rfl rfl rfl rfl rfl (Nat.le_of_ble_eq_true rfl) ?_
    refine ru_fin hV 3 [(1, 0)] rfl rfl ⟨trivial, nI_le (Nat.le_refl B) (by omega)⟩ ?_
    exact ⟨by rw [ftO, fsO_none hall]; rfl, rfl, rfl⟩
theorem qX8_isResultEmpty (l : Launch) {n : Nat} (hn : n ≤ 5) {I : IM} (hd : I 1 0 = nI n) (L : LM) : KX8_isResultEmpty l [.ref 0] I L (some (.int (b2i (alz (L 8) (2 ^ n))))) I L := by
  obtain ⟨hB, -⟩ := pow_le32 n hn
  have hbl : ∀ M : LM, KX8_blades l [.ref 0] I M (some (.int (nI (2 ^ n)))) I M := fun M => qX8_blades l hn hd M
  generalize 2 ^ n = B at hB hbl ⊢
  refine wX8_isResultEmpty l rfl (fun _ x h => by cases h; exact b2i_01 _) (fun V hV => ?_)
  refine ru_go hV 2 [] rfl rfl trivial ?_
  refine loop0 (P := fun k => (∀ j, j < k → decide (L 8 j ≠ 0) = false) → V 2 [(0, .ref 0), (1, .int (nI k))] [] I L) B (fun h => h (fun j hj => absurd hj (by omega))) (fun k hk ih hall => ?_) (fun hall => ?_)
  · refine ru_go hV 2 [] rfl rfl trivial ?_
    refine ru_V hV [.int (nI k)] sVX8_58 (hbl _) rfl rfl rfl rfl rfl (Nat.le_of_ble_eq_true rfl) ?_
    by_cases h : L 8 k = 0
    · refine ru_go hV 10 [(0, 0), (8, 0), (k, 32), (1, 0)] rfl rfl ⟨⟨⟨⟨trivial, nI_nge hk (by omega)⟩, (by first | exact rfl | assumption | exact ⟨rfl, rfl⟩ | exact ⟨rfl, rfl, by omega⟩ | exact ⟨by assumption, rfl, by omega⟩ | exact ⟨⟨_, rfl, rfl⟩, by decide, by decide, rfl, by omega⟩ | omega | decide)⟩, (by first | exact rfl | assumption | exact ⟨rfl, rfl⟩ | exact ⟨rfl, rfl, by omega⟩ | exact ⟨by assumption, rfl, by omega⟩ | exact ⟨⟨_, rfl, rfl⟩, by decide, by decide, rfl, by omega⟩ | omega | decide)⟩, (lg_cmp0 _ _).mpr h⟩ ?_
      rw [nI_1]
      refine ih (fun j hj => ?_)
      by_cases e : j = k
      · rw [e]; exact decide_eq_false (fun z => z h)
      · exact hall j (by omega)
    · refine ru_fin hV 10 [(0, 0), (8, 0), (k, 32), (0, 0)] rfl rfl ⟨⟨⟨⟨trivial, nI_nge hk (by omega)⟩, (by first | exact rfl | assumption | exact ⟨rfl, rfl⟩ | exact ⟨rfl, rfl, by omega⟩ | exact ⟨by assumption, rfl, by omega⟩ | exact ⟨⟨_, rfl, rfl⟩, by decide, by decide, rfl, by omega⟩ | omega | decide)⟩, (by first | exact rfl | assumption | exact ⟨rfl, rfl⟩ | exact ⟨rfl, rfl, by omega⟩ | exact ⟨by assumption, rfl, by omega⟩ | exact ⟨⟨_, rfl, rfl⟩, by decide, by decide, rfl, by omega⟩ | omega | decide)⟩, (fun e => h ((lg_cmp0 _ _).mp e))⟩ ?_
      exact ⟨by rw [alz, fsO_some (decide_eq_true h) hall B hk]; rfl, rfl, rfl⟩
  · refine ru_go hV 2 [] rfl rfl trivial ?_
    refine ru_V hV [.int (nI B)] sVX8_58 (hbl _) rfl rfl rfl rfl rfl (Nat.le_of_ble_eq_true rfl) ?_
    refine ru_fin hV 3 [(1, 0)] rfl rfl ⟨trivial, nI_le (Nat.le_refl B) (by omega)⟩ ?_
    exact ⟨by rw [alz, fsO_none hall]; rfl, rfl, rfl⟩
