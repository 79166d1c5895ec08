/-! THE LAW'S told: all that is asked behind each action -/
theorem mul_I {a b : Int64} {A B : Int} (ha : -A ≤ a.toInt ∧ a.toInt ≤ A) (hb : -B ≤ b.toInt ∧ b.toInt ≤ B) (h : A * B ≤ 2 ^ 62) : (a * b).toInt = a.toInt * b.toInt ∧ -(A * B) ≤ a.toInt * b.toInt ∧ a.toInt * b.toInt ≤ A * B := by
  have hb2 := mulb ha hb
  refine ⟨?_, hb2⟩
  rw [Int64.toInt_mul, Int.bmod_eq_of_le (by omega) (by omega)]
theorem sg_I {o : Bool} {x : Int64} {T : Int} (h : -T ≤ x.toInt ∧ x.toInt ≤ T) (hT : T ≤ 2 ^ 62) : -T ≤ (sg o x).toInt ∧ (sg o x).toInt ≤ T := by
  unfold sg
  split
  · rw [neg_I ⟨by omega, by omega⟩]
    omega
  · exact h
def b15 : Nat → Int
  | 0 => 1
  | c + 1 => 15 * b15 c
theorem b15_le : ∀ c, c ≤ 5 → 1 ≤ b15 c ∧ b15 c ≤ 759375 := by decide
theorem gw_bd {m : Nat → Nat → Int32} {n b : Nat} (hn : n ≤ 5) (hm : ∀ r, r < 5 → ∀ c, c < 5 → -3 ≤ (m r c).toInt ∧ (m r c).toInt ≤ 3) : ∀ c, c ≤ 5 → ∀ t, -b15 c ≤ (gw m n b c t).toInt ∧ (gw m n b c t).toInt ≤ b15 c
  | 0, _, t => by
    show _ ≤ (if t = 0 then (1 : Int64) else 0).toInt ∧ _
    show _ ∧ (if t = 0 then (1 : Int64) else 0).toInt ≤ _
    split <;> decide
  | c + 1, hc, t => by
    have ih := gw_bd (b := b) hn hm c (by omega)
    have hb := b15_le c (by omega)
    have e15 : b15 (c + 1) = 15 * b15 c := rfl
    rw [gw, e15]
    split
    · have key := sumL_I (t := fun r => if t.testBit r = true then sg (odT (t ^^^ 2 ^ r) (2 ^ r)) (gw m n b c (t ^^^ 2 ^ r) * (m r c).toInt64) else 0) (T := b15 c * 3) (by omega) (by omega) (n := n) hn (fun r hr => by
        by_cases hp : t.testBit r = true
        · simp only [hp, if_true]
          have hmm := hm r (by omega) c (by omega)
          obtain ⟨m1, m2⟩ := mul_I (a := gw m n b c (t ^^^ 2 ^ r)) (b := (m r c).toInt64) (A := b15 c) (B := 3) (ih _) (by rw [Int32.toInt_toInt64]; exact hmm) (by omega)
          exact sg_I (by rw [m1]; exact m2) (by omega)
        · simp only [hp]
          rw [if_neg Bool.false_ne_true]
          show -_ ≤ (0 : Int64).toInt ∧ (0 : Int64).toInt ≤ _
          rw [show (0 : Int64).toInt = 0 from rfl]
          omega)
      have hn2 : (n : Int) * (b15 c * 3) ≤ 5 * (b15 c * 3) := Int.mul_le_mul_of_nonneg_right (by omega) (by omega)
      unfold wcs
      rw [key.1]
      omega
    · have := ih t
      omega
def sgQ (I : IM) (n : Nat) : Nat → Int32
  | 0 => 1
  | d + 1 => sgQ I n d * (if d < n then I 188 (d + 1) else 1)
theorem tb_all : ∀ n, n ≤ 5 → ∀ d, d < 5 → ((2 ^ n - 1).testBit d = decide (d < n)) := by decide
theorem r_sgQ {I : IM} {n : Nat} (hn : n ≤ 5) (h : ∀ k, k < 5 → I 188 (k + 1) = I 11 k) : ∀ d, d ≤ 5 → sgQ I n d = sgB (I 11) (2 ^ n - 1) d
  | 0, _ => rfl
  | d + 1, hd => by
    rw [sgQ, sgB, r_sgQ hn h d (by omega), tb_all n hn d (by omega)]
    by_cases e : d < n
    · rw [if_pos e, if_pos (decide_eq_true e), h d (by omega)]
    · rw [if_neg e, if_neg (by simp [e]), Int32.mul_one]
theorem qL_cnt (l : Launch) {k n : Nat} (hk : okC k) (hn : n ≤ 5) {I : IM} (hd : I 1 0 = nI n) (L : LM) {x y : Int32} (hx : nI k = x) (hy : coF I n k = y) : ∃ L2, (∀ c, 181 ≤ c → L2 c = L c) ∧ CR l kdL 189 yX7_count cX7_count 2 (some .int) rmX7_count [.ref 0, .int x] I L (some (.int y)) I L2 := by
  subst hx; subst hy
  obtain ⟨L2, h⟩ := qX7_count l hk hn hd L
  exact up_Y h
theorem qL_cf (l : Launch) {s b n : Nat} (hs : s < 8) (hb : b < 2 ^ n) (hn : n ≤ 5) {I : IM} (hd : I 1 0 = nI n) (L : LM) {x : Int32} (hx : nI s = x) : CR l kdL 189 yX7_coefficient cX7_coefficient 3 (some .int) rmX7_coefficient [.ref 0, .int x, .int (nI b)] I L (some (.int (I (3 + s) b))) I L := by
  subst hx
  exact up_0 (qX7_coefficient l hs hb hn hd L)
abbrev LVt (a : Int64) (b : Int32) (c : Nat) : LV := [(0, .ref 0), (1, .ref 181), (2, .ref 186), (3, .ref 183), (4, .ref 184), (5, .ref 185), (6, .ref 188), (7, .long a), (9, .int b), (10, .int (nI c))]
set_option maxRecDepth 100000 in
set_option maxHeartbeats 1000000 in
theorem qL_told (l : Launch) {I : IM} {L : LM} {n o z : Nat} (hS : Sm I L n o z) : ∃ I2 L2, (SC I I2 ∧ L2 181 = L 181) ∧ KL_told l [.ref 0, .ref 181, .ref 186, .ref 183, .ref 184, .ref 185, .ref 188] I L (some (.int 1)) I2 L2 := by
  obtain ⟨⟨n2, n5, ho, hzz⟩, ⟨h2a, h2b, h2c⟩, h3, h4, h5, h6, h7, h8⟩ := id hS
  obtain ⟨hB, hB0⟩ := pow_le32 n n5
  have hB2 : 2 ^ n < 2 ^ 31 := by omega
  have e0 : ∀ k, k < 32 → L 181 k = (I 3 k).toInt64 := fun k hk => by
    have : L 181 (32 * 0 + k) = (I 3 k).toInt64 := (h4 0 (by decide)).1 k hk
    rw [show 32 * 0 + k = k by omega] at this
    exact this
  have e1 : ∀ k, k < 32 → L 181 (32 + k) = (I 4 k).toInt64 := fun k hk => (h4 1 (by decide)).1 k hk
  have hbl : ∀ M : LM, KL_all l [.ref 188] I M (some (.int (nI (2 ^ n)))) I M := fun M => qL_all l n5 h5 M
  refine ru_pos1 (fun V hV => ?_) (fun I2 L2 h => wL_told l rfl (fun _ x hx => by cases hx; exact Or.inr rfl) h)
  have c248 : ∀ Lx : LM, Lx 181 = L 181 → ∀ lv, lv = LVt (inC (I 11) (I 3) (I 4) (2 ^ n)) (sgB (I 11) (2 ^ n - 1) 5) 5 → V 248 lv [] I Lx := by
    intro Lx hx lv elv
    subst elv
    refine ru_go hV 1 [] rfl rfl trivial ?_
    refine ru_S hV [] sSL_8 (hbl _) rfl rfl rfl (Nat.le_of_ble_eq_true rfl) ?_
    refine ru_go hV 2 [] rfl rfl trivial ?_
    rw [bB_sub hB0]
    obtain ⟨Ig, Lg, ⟨eg, g1, g2⟩, hK⟩ := qL_grow l (t := 2 ^ n - 1) (by omega) n5 h5 Lx
    subst eg
    have q181 : Lg 181 = L 181 := (g2 181 (by decide)).trans hx
    have edet : Lg 183 (2 ^ n - 1) = gw (fun q p => Ig (13 + q) p) n (2 ^ n - 1) n (2 ^ n - 1) := by
      rw [g1 _ (by omega)]
      exact gw_cong (fun r hr c hc => (h7 r (by omega) c (by omega)).1) n (Nat.le_refl n) _
    have bdet := gw_bd (m := fun q p => Ig (13 + q) p) (b := 2 ^ n - 1) n5 (fun r hr c hc => (h7 r hr c hc).2) n n5 (2 ^ n - 1)
    have b5 := b15_le n n5
    refine ru_go hV 5 [] rfl rfl trivial ?_
    refine ru_S hV [] sSL_26 hK rfl rfl rfl (Nat.le_of_ble_eq_true rfl) ?_
    refine ru_go hV 3 [] rfl rfl trivial ?_
    refine ru_V hV [] sVL_140 (up_0 (qX7_inner l (a := 0) (b := 1) (by decide) (by decide) n5 h2a Lg)) rfl rfl rfl rfl rfl (Nat.le_of_ble_eq_true rfl) ?_
    refine ru_go hV 5 [(0, 0)] rfl rfl ⟨trivial, (fun z => z ((lg_cmp0 _ _).mpr rfl))⟩ ?_
    obtain ⟨L1, l1, k1⟩ := qL_cnt l (k := 0) (x := 0) (y := nI n) (Or.inl (by decide)) n5 h2a Lg rfl rfl
    refine ru_V hV [] sVL_134 k1 rfl rfl rfl rfl rfl (Nat.le_of_ble_eq_true rfl) ?_
    refine ru_go hV 6 [(0, 15), (0, 0)] rfl rfl ⟨⟨trivial, (by first | exact rfl | assumption | exact ⟨rfl, rfl⟩ | exact ⟨rfl, rfl, by omega⟩ | exact ⟨by assumption, rfl, by omega⟩ | exact ⟨⟨_, rfl, rfl⟩, by decide, by decide, rfl, by omega⟩ | omega | decide)⟩, (fun z => z h5.symm)⟩ ?_
    obtain ⟨L2, l2, k2⟩ := qL_cnt l (k := 4) (x := 4) (y := sgB (Ig 11) (2 ^ n - 1) 5) (Or.inl (by decide)) n5 h2a L1 rfl rfl
    refine ru_V hV [] sVL_134 k2 rfl rfl rfl rfl rfl (Nat.le_of_ble_eq_true rfl) ?_
    refine ru_go hV 4 [(0, 0)] rfl rfl ⟨trivial, (fun z => z rfl)⟩ ?_
    obtain ⟨L3, l3, k3⟩ := qL_cnt l (k := 3) (x := 3) (y := (gw (fun q p => Ig (13 + q) p) n (2 ^ n - 1) n (2 ^ n - 1)).toInt32) (Or.inl (by decide)) n5 h2a L2 rfl rfl
    refine ru_V hV [] sVL_134 k3 rfl rfl rfl rfl rfl (Nat.le_of_ble_eq_true rfl) ?_
    have r183 : L3 183 = Lg 183 := ((l3 183 (by decide)).trans (l2 183 (by decide))).trans (l1 183 (by decide))
    have r181 : L3 181 = L 181 := (((l3 181 (by decide)).trans (l2 181 (by decide))).trans (l1 181 (by decide))).trans q181
    refine ru_go hV 3 [] rfl rfl trivial ?_
    refine ru_S hV [.ref 183, .long _] sSL_8 (hbl _) rfl rfl rfl (Nat.le_of_ble_eq_true rfl) ?_
    obtain ⟨I4, L4, ⟨sc4, y4⟩, k4⟩ := qL_form l (s := 0) (by decide) (hS.sc (SC.rf Ig) r181)
    obtain ⟨I5, L5, ⟨sc5, y5⟩, k5⟩ := qL_form l (s := 1) (by decide) (hS.sc sc4 (y4.trans r181))
    refine ru_go hV 11 [((2^n-1), 32), (0, 0)] rfl rfl ⟨⟨trivial, ⟨rfl, bB_sub hB0, by omega⟩⟩, (fun z => z ((lg_cmp0 _ _).mpr (by rw [r183, edet]; exact lg_i2l_l2i (by omega) (by omega))))⟩ ?_
    refine ru_S hV [] sSL_144 k4 rfl rfl rfl (Nat.le_of_ble_eq_true rfl) ?_
    refine ru_go hV 7 [(0, 0)] rfl rfl ⟨trivial, (by decide)⟩ ?_
    refine ru_S hV [] sSL_144 k5 rfl rfl rfl (Nat.le_of_ble_eq_true rfl) ?_
    refine ru_fin hV 4 [(0, 0)] rfl rfl ⟨trivial, (by decide)⟩ ?_
    exact ⟨rfl, sc4.tr sc5, (y5.trans y4).trans r181⟩
  have c128 : ∀ Lx : LM, Lx 181 = L 181 → V 128 (LVt (inC (I 11) (I 3) (I 4) (2 ^ n)) 1 0) [] I Lx := by
    refine loop0 (P := fun d => ∀ Lx : LM, Lx 181 = L 181 → V 128 (LVt (inC (I 11) (I 3) (I 4) (2 ^ n)) (sgQ I n d) d) [] I Lx) 5 (fun h => h) (fun d hd ih => ?_) ?_
    · intro Lx hx
      have c217 : ∀ Ly : LM, Ly 181 = L 181 → ∀ lv, lv = LVt (inC (I 11) (I 3) (I 4) (2 ^ n)) (sgQ I n d) d → V 217 lv [] I Ly := by
        intro Ly hy lv elv
        subst elv
        by_cases hdn : d < n
        · refine ru_go hV 16 [(0, 15), (0, 0), ((d+1), 15)] rfl rfl ⟨⟨⟨trivial, (by first | exact rfl | assumption | exact ⟨rfl, rfl⟩ | exact ⟨rfl, rfl, by omega⟩ | exact ⟨by assumption, rfl, by omega⟩ | exact ⟨⟨_, rfl, rfl⟩, by decide, by decide, rfl, by omega⟩ | omega | decide)⟩, (by rw [h5]; exact nI_nge hdn (by omega))⟩, ⟨rfl, by rw [Int32.add_comm, nI_1], by omega⟩⟩ ?_
          rw [nI_1]
          have := ih Ly hy
          simp only [sgQ, hdn, if_true] at this
          exact this
        · refine ru_go hV 11 [(0, 15), (1, 0)] rfl rfl ⟨⟨trivial, (by first | exact rfl | assumption | exact ⟨rfl, rfl⟩ | exact ⟨rfl, rfl, by omega⟩ | exact ⟨by assumption, rfl, by omega⟩ | exact ⟨⟨_, rfl, rfl⟩, by decide, by decide, rfl, by omega⟩ | omega | decide)⟩, (by rw [h5]; exact nI_le (by omega) (by omega))⟩ ?_
          rw [nI_1]
          have := ih Ly hy
          simp only [sgQ, hdn, if_false] at this
          exact this
      refine ru_go hV 5 [(0, 0)] rfl rfl ⟨trivial, nI5_ge hd⟩ ?_
      refine ru_go hV 2 [] rfl rfl trivial ?_
      rw [show (20 : Int32) + nI d = nI (20 + d) from nI_add 20 d]
      obtain ⟨Ly, ly, ky⟩ := qL_cnt l (k := 20 + d) (x := nI (20 + d)) (y := if d < n then I 11 d else 0) (Or.inr ⟨by omega, by omega⟩) n5 h2a Lx rfl (by
        unfold coF
        rw [if_neg (by omega), if_pos (by omega), show 20 + d - 20 = d by omega])
      refine ru_V hV [] sVL_134 ky rfl rfl rfl rfl rfl (Nat.le_of_ble_eq_true rfl) ?_
      have hy : Ly 181 = L 181 := (ly 181 (by decide)).trans hx
      by_cases hdn : d < n
      · rw [if_pos hdn]
        refine ru_go hV 14 [(0, 15), (0, 0), ((d+1), 15), (1, 0)] rfl rfl ⟨⟨⟨⟨trivial, (by first | exact rfl | assumption | exact ⟨rfl, rfl⟩ | exact ⟨rfl, rfl, by omega⟩ | exact ⟨by assumption, rfl, by omega⟩ | exact ⟨⟨_, rfl, rfl⟩, by decide, by decide, rfl, by omega⟩ | omega | decide)⟩, (by rw [h5]; exact nI_nge hdn (by omega))⟩, ⟨rfl, by rw [Int32.add_comm, nI_1], by omega⟩⟩, (h6 d hd).1.symm⟩ ?_
        refine loop0 (P := fun e => V 171 (LVt (inC (I 11) (I 3) (I 4) (2 ^ n)) (sgQ I n d) d ++ [(11, .int (nI e))]) [] I Ly) n (fun h => h) (fun e he ihe => ?_) ?_
        · refine ru_go hV 13 [(0, 15), (0, 0), (0, 15), (0, 0)] rfl rfl ⟨⟨⟨⟨trivial, (by first | exact rfl | assumption | exact ⟨rfl, rfl⟩ | exact ⟨rfl, rfl, by omega⟩ | exact ⟨by assumption, rfl, by omega⟩ | exact ⟨⟨_, rfl, rfl⟩, by decide, by decide, rfl, by omega⟩ | omega | decide)⟩, (by rw [h5]; exact nI_nge he (by omega))⟩, (by first | exact rfl | assumption | exact ⟨rfl, rfl⟩ | exact ⟨rfl, rfl, by omega⟩ | exact ⟨by assumption, rfl, by omega⟩ | exact ⟨⟨_, rfl, rfl⟩, by decide, by decide, rfl, by omega⟩ | omega | decide)⟩, (by rw [h5]; exact nI_nge hdn (by omega))⟩ ?_
          refine ru_V hV [] sVL_137 (up_0 (qX7_matrixAt l (r := d) (c := e) hdn he n5 h2a Ly)) rfl rfl rfl rfl rfl (Nat.le_of_ble_eq_true rfl) ?_
          refine ru_go hV 10 [((5*d+e), 25), (1, 0)] rfl rfl ⟨⟨trivial, ⟨rfl, by rw [show (5 : Int32) * nI d = nI (5 * d) from pk_mul 5 d]; exact nI_add _ _, by omega⟩⟩, (h7 d hd e (by omega)).1.symm⟩ ?_
          rw [nI_1]
          exact ihe
        · refine ru_go hV 5 [(0, 15), (1, 0)] rfl rfl ⟨⟨trivial, (by first | exact rfl | assumption | exact ⟨rfl, rfl⟩ | exact ⟨rfl, rfl, by omega⟩ | exact ⟨by assumption, rfl, by omega⟩ | exact ⟨⟨_, rfl, rfl⟩, by decide, by decide, rfl, by omega⟩ | omega | decide)⟩, (by rw [h5]; exact nI_le (Nat.le_refl n) (by omega))⟩ ?_
          exact ru_sub hV [0, 1, 2, 3, 4, 5, 6, 7, 8, 9] rfl (c217 Ly hy _ rfl)
      · rw [if_neg hdn]
        have hn0 : (0 : Nat) < n := by omega
        refine ru_go hV 19 [(0, 15), (1, 0), (1, 0), (0, 15), (0, 0), (0, 15), (1, 0)] rfl rfl ⟨⟨⟨⟨⟨⟨⟨trivial, (by first | exact rfl | assumption | exact ⟨rfl, rfl⟩ | exact ⟨rfl, rfl, by omega⟩ | exact ⟨by assumption, rfl, by omega⟩ | exact ⟨⟨_, rfl, rfl⟩, by decide, by decide, rfl, by omega⟩ | omega | decide)⟩, (by rw [h5]; exact nI_le (by omega) (by omega))⟩, rfl⟩, (by first | exact rfl | assumption | exact ⟨rfl, rfl⟩ | exact ⟨rfl, rfl, by omega⟩ | exact ⟨by assumption, rfl, by omega⟩ | exact ⟨⟨_, rfl, rfl⟩, by decide, by decide, rfl, by omega⟩ | omega | decide)⟩, (by rw [h5]; exact nI_nge hn0 (by omega))⟩, (by first | exact rfl | assumption | exact ⟨rfl, rfl⟩ | exact ⟨rfl, rfl, by omega⟩ | exact ⟨by assumption, rfl, by omega⟩ | exact ⟨⟨_, rfl, rfl⟩, by decide, by decide, rfl, by omega⟩ | omega | decide)⟩, (by rw [h5]; exact nI_le (by omega) (by omega))⟩ ?_
        exact ru_sub hV [0, 1, 2, 3, 4, 5, 6, 7, 8, 9] rfl (c217 Ly hy _ rfl)
    · intro Lx hx
      refine ru_go hV 3 [(1, 0)] rfl rfl ⟨trivial, (by decide)⟩ ?_
      refine c248 Lx hx _ ?_
      rw [r_sgQ n5 (fun k hk => (h6 k hk).1) 5 (by decide)]
  have c91 : ∀ lv, lv = LVt (inC (I 11) (I 3) (I 4) (2 ^ n)) 1 0 → V 91 lv [] I L := by
    intro lv elv
    subst elv
    refine loop0 (P := fun k => ∀ Lx : LM, Lx 181 = L 181 → V 91 (LVt (inC (I 11) (I 3) (I 4) (2 ^ n)) 1 k) [] I Lx) 9 (fun h => h L rfl) (fun k hk ih => ?_) ?_
    · intro Lx hx
      refine ru_go hV 5 [(0, 0)] rfl rfl ⟨trivial, nI_nge (n := 9) hk (by omega)⟩ ?_
      refine ru_go hV 2 [] rfl rfl trivial ?_
      rw [show (5 : Int32) + nI k = nI (5 + k) from nI_add 5 k]
      obtain ⟨Ly, ly, ky⟩ := qL_cnt l (k := 5 + k) (x := nI (5 + k)) (y := I 18 k) (Or.inl (by omega)) n5 h2a Lx rfl (by
        unfold coF
        rw [if_pos (by omega), show 5 + k - 5 = k by omega])
      refine ru_V hV [] sVL_134 ky rfl rfl rfl rfl rfl (Nat.le_of_ble_eq_true rfl) ?_
      refine ru_go hV 8 [((6+k), 15), (1, 0)] rfl rfl ⟨⟨trivial, ⟨rfl, nI_add 6 k, by omega⟩⟩, (h8 k hk).symm⟩ ?_
      rw [nI_1]
      exact ih Ly ((ly 181 (by decide)).trans hx)
    · intro Lx hx
      refine ru_go hV 5 [(1, 0)] rfl rfl ⟨trivial, (by decide)⟩ ?_
      exact c128 Lx hx
  refine ru_go hV 6 [] rfl rfl trivial ?_
  refine loop0 (P := fun k => V 9 (LVt (inC (I 11) (I 3) (I 4) k) 1 k) [] I L) (2 ^ n) (fun h => h) (fun k hk ih => ?_) ?_
  · have hk32 : k < 32 := by omega
    refine ru_go hV 2 [] rfl rfl trivial ?_
    refine ru_S hV [.int (nI k)] sSL_8 (hbl _) rfl rfl rfl (Nat.le_of_ble_eq_true rfl) ?_
    refine ru_go hV 4 [(0, 0)] rfl rfl ⟨trivial, nI_nge hk hB2⟩ ?_
    refine ru_V hV [] sVL_131 (qL_cf l (s := 0) (b := k) (by decide) hk n5 h2a L (x := 0) rfl) rfl rfl rfl rfl rfl (Nat.le_of_ble_eq_true rfl) ?_
    refine ru_go hV 9 [(k, 64), (0, 0)] rfl rfl ⟨⟨trivial, ⟨rfl, rfl, by omega⟩⟩, (fun z => z ((lg_cmp0 _ _).mpr (e0 k hk32).symm))⟩ ?_
    refine ru_V hV [] sVL_131 (qL_cf l (s := 1) (b := k) (by decide) hk n5 h2a L (x := 1) rfl) rfl rfl rfl rfl rfl (Nat.le_of_ble_eq_true rfl) ?_
    refine ru_go hV 20 [((32+k), 64), (1, 0), (k, 64), ((32+k), 64)] rfl rfl ⟨⟨⟨⟨trivial, ⟨rfl, nI_add 32 k, by omega⟩⟩, (lg_cmp0 _ _).mpr (e1 k hk32).symm⟩, ⟨rfl, rfl, by omega⟩⟩, ⟨rfl, nI_add 32 k, by omega⟩⟩ ?_
    refine ru_S hV [.long _, .long _] sSL_18 (qL_sign l hk32 I _) rfl rfl rfl (Nat.le_of_ble_eq_true rfl) ?_
    refine ru_go hV 6 [] rfl rfl trivial ?_
    rw [nI_1, e0 k hk32, e1 k hk32, sgn_cong (s' := I 11) (fun q hq => (h6 q hq).1)]
    exact ih
  · refine ru_go hV 2 [] rfl rfl trivial ?_
    refine ru_S hV [.int (nI (2^n))] sSL_8 (hbl _) rfl rfl rfl (Nat.le_of_ble_eq_true rfl) ?_
    refine ru_go hV 3 [(1, 0)] rfl rfl ⟨trivial, nI_le (Nat.le_refl _) hB2⟩ ?_
    exact c91 _ rfl
