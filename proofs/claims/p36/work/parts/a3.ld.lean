/-! THE LAW'S bring: what an operation brings -/
abbrev sL (I : IM) : Nat → Int32 := fun k => I 188 (k + 1)
def brF (I : IM) (L : LM) (n op a b : Nat) (w : Int32) (k : Nat) : Int64 := match op with
  | 0 => L 181 (a + k) + L 181 (b + k)
  | 1 => L 181 (a + k) * w.toInt64
  | 2 => wdg (fun q => L 181 (a + q)) (fun q => L 181 (b + q)) (2 ^ n) k
  | 3 => ctr (sL I) (fun q => L 181 (a + q)) (fun q => L 181 (b + q)) (2 ^ n) k
  | 4 => if k < 2 ^ n then L 181 (a + (2 ^ n - 1 - k)) * (sgn (sL I) (2 ^ n - 1 - k)).toInt64 * (odI (2 ^ n - 1 - k) k).toInt64 else 0
  | 5 => if nI (pc5 k) = w then L 181 (a + k) else 0
  | 6 => if pc5 k = 2 ∨ pc5 k = 3 then -L 181 (a + k) else L 181 (a + k)
  | _ => puL (mL I) n (fun q => L 181 (a + q)) k
theorem bB_sub {B : Nat} (h : 0 < B) : nI B - 1 = nI (B - 1) := by
  obtain ⟨q, rfl⟩ : ∃ q, B = q + 1 := ⟨B - 1, by omega⟩
  exact nI_pred q
theorem nI_subN {a b : Nat} (h : b ≤ a) : nI a - nI b = nI (a - b) := pk_sub h
/-- one more place of the row -/
theorem br_mu {L Lx : LM} {f : Nat → Int64} {k : Nat} {x : Int64} (h : ∀ q, q < k → Lx 182 q = f q) (hx : x = f k) : ∀ q, q < k + 1 → mu Lx 182 k x 182 q = f q := fun q hq => by
  by_cases e : q = k
  · subst e; rw [mu_at, hx]
  · rw [show mu Lx 182 k x 182 q = Lx 182 q by simp [mu, e]]
    exact h q (by omega)
set_option maxRecDepth 100000 in
theorem qL_bring0 (l : Launch) {a b n : Nat} {w : Int32} (ha : a + 32 ≤ 64) (hb : b + 32 ≤ 64) (hn : n ≤ 5) {I : IM} (hd : I 188 0 = nI n) (L : LM) : ∃ I2 L2, (I2 = I ∧ (∀ k, k < 32 → L2 182 k = brF I L n 0 a b w k) ∧ KpL [182, 183, 184, 185] L L2) ∧ KL_bring l [.int 0, .ref 181, .int (nI a), .int (nI b), .int w, .ref 186, .ref 182, .ref 183, .ref 184, .ref 185, .ref 188] I L none I2 L2 := by
  obtain ⟨hB, hB0⟩ := pow_le32 n hn
  have hB2 : 2 ^ n < 2 ^ 31 := by omega
  have hbl : ∀ M : LM, KL_all l [.ref 188] I M (some (.int (nI (2 ^ n)))) I M := fun M => qL_all l hn hd M
  refine ru_pos1 (fun V hV => ?_) (fun I2 L2 h => wL_bring l rfl (hz0 (by decide)) h)
  refine ru_go hV 11 [(1, 0), (1, 0), (1, 0)] rfl rfl ⟨⟨⟨trivial, (by decide)⟩, (by decide)⟩, (by decide)⟩ ?_
  refine loop0 (P := fun k => ∀ Lx : LM, (∀ q, q < k → Lx 182 q = brF I L n 0 a b w q) → KpL [182, 183, 184, 185] L Lx → V 57 [(0, .int 0), (1, .ref 181), (2, .int (nI a)), (3, .int (nI b)), (4, .int w), (5, .ref 186), (6, .ref 182), (7, .ref 183), (8, .ref 184), (9, .ref 185), (10, .ref 188), (11, .int (nI k))] [] I Lx) 32 (fun h => h L (fun q hq => absurd hq (Nat.not_lt_zero q)) (KpL.rf _ L)) (fun k hk ih => ?_) ?_
  · intro Lx x1 x2
    have e181 : Lx 181 = L 181 := x2 181 (by decide)
    have next : ∀ x : Int64, x = brF I L n 0 a b w k → ∀ lv, lv = [(0, .int 0), (1, .ref 181), (2, .int (nI a)), (3, .int (nI b)), (4, .int w), (5, .ref 186), (6, .ref 182), (7, .ref 183), (8, .ref 184), (9, .ref 185), (10, .ref 188), (11, .int (nI (k + 1)))] → V 57 lv [] I (mu Lx 182 k x) := fun x hx lv e => by
      subst e
      exact ih _ (br_mu (L := L) x1 hx) (x2.mu (by decide))
    refine ru_go hV 4 [(0, 0)] rfl rfl ⟨trivial, nI32_ge hk⟩ ?_
    refine ru_S hV [] sSL_8 (hbl _) rfl rfl rfl (Nat.le_of_ble_eq_true rfl) ?_
    refine ru_go hV 35 [(0, 0), ((a+k), 64), ((b+k), 64), (k, 32), (1, 0), (1, 0), (1, 0), (1, 0)] rfl rfl ⟨⟨⟨⟨⟨⟨⟨⟨trivial, (by decide)⟩, ⟨rfl, nI_add a k, by omega⟩⟩, ⟨rfl, nI_add b k, by omega⟩⟩, ⟨rfl, rfl, hk⟩⟩, (by decide)⟩, (by decide)⟩, (by decide)⟩, (by decide)⟩ ?_
    rw [nI_1, e181]
    exact ru_sub hV [0, 1, 2, 3, 4, 5, 6, 7, 8, 9, 10, 11] rfl (next _ rfl _ rfl)
  · intro Lx x1 x2
    refine ru_fin hV 4 [(1, 0)] rfl rfl ⟨trivial, (by decide)⟩ ?_
    exact ⟨rfl, rfl, x1, x2⟩
set_option maxRecDepth 100000 in
theorem qL_bring1 (l : Launch) {a b n : Nat} {w : Int32} (ha : a + 32 ≤ 64) (hb : b + 32 ≤ 64) (hn : n ≤ 5) {I : IM} (hd : I 188 0 = nI n) (L : LM) : ∃ I2 L2, (I2 = I ∧ (∀ k, k < 32 → L2 182 k = brF I L n 1 a b w k) ∧ KpL [182, 183, 184, 185] L L2) ∧ KL_bring l [.int 1, .ref 181, .int (nI a), .int (nI b), .int w, .ref 186, .ref 182, .ref 183, .ref 184, .ref 185, .ref 188] I L none I2 L2 := by
  obtain ⟨hB, hB0⟩ := pow_le32 n hn
  have hB2 : 2 ^ n < 2 ^ 31 := by omega
  have hbl : ∀ M : LM, KL_all l [.ref 188] I M (some (.int (nI (2 ^ n)))) I M := fun M => qL_all l hn hd M
  refine ru_pos1 (fun V hV => ?_) (fun I2 L2 h => wL_bring l rfl (hz0 (by decide)) h)
  refine ru_go hV 11 [(1, 0), (1, 0), (1, 0)] rfl rfl ⟨⟨⟨trivial, (by decide)⟩, (by decide)⟩, (by decide)⟩ ?_
  refine loop0 (P := fun k => ∀ Lx : LM, (∀ q, q < k → Lx 182 q = brF I L n 1 a b w q) → KpL [182, 183, 184, 185] L Lx → V 57 [(0, .int 1), (1, .ref 181), (2, .int (nI a)), (3, .int (nI b)), (4, .int w), (5, .ref 186), (6, .ref 182), (7, .ref 183), (8, .ref 184), (9, .ref 185), (10, .ref 188), (11, .int (nI k))] [] I Lx) 32 (fun h => h L (fun q hq => absurd hq (Nat.not_lt_zero q)) (KpL.rf _ L)) (fun k hk ih => ?_) ?_
  · intro Lx x1 x2
    have e181 : Lx 181 = L 181 := x2 181 (by decide)
    have next : ∀ x : Int64, x = brF I L n 1 a b w k → ∀ lv, lv = [(0, .int 1), (1, .ref 181), (2, .int (nI a)), (3, .int (nI b)), (4, .int w), (5, .ref 186), (6, .ref 182), (7, .ref 183), (8, .ref 184), (9, .ref 185), (10, .ref 188), (11, .int (nI (k + 1)))] → V 57 lv [] I (mu Lx 182 k x) := fun x hx lv e => by
      subst e
      exact ih _ (br_mu (L := L) x1 hx) (x2.mu (by decide))
    refine ru_go hV 4 [(0, 0)] rfl rfl ⟨trivial, nI32_ge hk⟩ ?_
    refine ru_S hV [] sSL_8 (hbl _) rfl rfl rfl (Nat.le_of_ble_eq_true rfl) ?_
    refine ru_go hV 32 [(1, 0), (0, 0), ((a+k), 64), (k, 32), (1, 0), (1, 0), (1, 0)] rfl rfl ⟨⟨⟨⟨⟨⟨⟨trivial, (by decide)⟩, (by decide)⟩, ⟨rfl, nI_add a k, by omega⟩⟩, ⟨rfl, rfl, hk⟩⟩, (by decide)⟩, (by decide)⟩, (by decide)⟩ ?_
    rw [nI_1, e181]
    exact ru_sub hV [0, 1, 2, 3, 4, 5, 6, 7, 8, 9, 10, 11] rfl (next _ rfl _ rfl)
  · intro Lx x1 x2
    refine ru_fin hV 4 [(1, 0)] rfl rfl ⟨trivial, (by decide)⟩ ?_
    exact ⟨rfl, rfl, x1, x2⟩
set_option maxRecDepth 100000 in
theorem qL_bring2 (l : Launch) {a b n : Nat} {w : Int32} (ha : a + 32 ≤ 64) (hb : b + 32 ≤ 64) (hn : n ≤ 5) {I : IM} (hd : I 188 0 = nI n) (L : LM) : ∃ I2 L2, (I2 = I ∧ (∀ k, k < 32 → L2 182 k = brF I L n 2 a b w k) ∧ KpL [182, 183, 184, 185] L L2) ∧ KL_bring l [.int 2, .ref 181, .int (nI a), .int (nI b), .int w, .ref 186, .ref 182, .ref 183, .ref 184, .ref 185, .ref 188] I L none I2 L2 := by
  obtain ⟨hB, hB0⟩ := pow_le32 n hn
  have hB2 : 2 ^ n < 2 ^ 31 := by omega
  have hbl : ∀ M : LM, KL_all l [.ref 188] I M (some (.int (nI (2 ^ n)))) I M := fun M => qL_all l hn hd M
  refine ru_pos1 (fun V hV => ?_) (fun I2 L2 h => wL_bring l rfl (hz0 (by decide)) h)
  refine ru_go hV 9 [(0, 0)] rfl rfl ⟨trivial, (by decide)⟩ ?_
  refine ru_S hV [] sSL_22 (qL_wedge l (cf := 181) (cg := 181) (cr := 182) (nf := 64) (ng := 64) rfl ha rfl hb rfl (by decide) (by decide) hn hd L) rfl rfl rfl (Nat.le_of_ble_eq_true rfl) ?_
  generalize hLx : lay L 182 32 _ = Lx
  have x1 : ∀ k, k < 32 → Lx 182 k = brF I L n 2 a b w k := fun k hk => by rw [← hLx, lay_in hk]; rfl
  have x2 : KpL [182, 183, 184, 185] L Lx := by rw [← hLx]; exact (KpL.rf _ L).ly (by decide)
  refine ru_go hV 8 [(1, 0), (1, 0)] rfl rfl ⟨⟨trivial, (by decide)⟩, (by decide)⟩ ?_
  refine loop0 (P := fun k => V 57 [(0, .int 2), (1, .ref 181), (2, .int (nI a)), (3, .int (nI b)), (4, .int w), (5, .ref 186), (6, .ref 182), (7, .ref 183), (8, .ref 184), (9, .ref 185), (10, .ref 188), (11, .int (nI k))] [] I Lx) 32 (fun h => h) (fun k hk ih => ?_) ?_
  · refine ru_go hV 4 [(0, 0)] rfl rfl ⟨trivial, nI32_ge hk⟩ ?_
    refine ru_S hV [] sSL_8 (hbl _) rfl rfl rfl (Nat.le_of_ble_eq_true rfl) ?_
    refine ru_go hV 21 [(1, 0), (1, 0), (1, 0), (1, 0), (1, 0)] rfl rfl ⟨⟨⟨⟨⟨trivial, (by decide)⟩, (by decide)⟩, (by decide)⟩, (by decide)⟩, (by decide)⟩ ?_
    rw [nI_1]
    exact ru_sub hV [0, 1, 2, 3, 4, 5, 6, 7, 8, 9, 10, 11] rfl ih
  · refine ru_fin hV 4 [(1, 0)] rfl rfl ⟨trivial, (by decide)⟩ ?_
    exact ⟨rfl, rfl, x1, x2⟩
set_option maxRecDepth 100000 in
theorem qL_bring3 (l : Launch) {a b n : Nat} {w : Int32} (ha : a + 32 ≤ 64) (hb : b + 32 ≤ 64) (hn : n ≤ 5) {I : IM} (hd : I 188 0 = nI n) (L : LM) : ∃ I2 L2, (I2 = I ∧ (∀ k, k < 32 → L2 182 k = brF I L n 3 a b w k) ∧ KpL [182, 183, 184, 185] L L2) ∧ KL_bring l [.int 3, .ref 181, .int (nI a), .int (nI b), .int w, .ref 186, .ref 182, .ref 183, .ref 184, .ref 185, .ref 188] I L none I2 L2 := by
  obtain ⟨hB, hB0⟩ := pow_le32 n hn
  have hB2 : 2 ^ n < 2 ^ 31 := by omega
  have hbl : ∀ M : LM, KL_all l [.ref 188] I M (some (.int (nI (2 ^ n)))) I M := fun M => qL_all l hn hd M
  refine ru_pos1 (fun V hV => ?_) (fun I2 L2 h => wL_bring l rfl (hz0 (by decide)) h)
  refine ru_go hV 11 [(1, 0), (0, 0)] rfl rfl ⟨⟨trivial, (by decide)⟩, (by decide)⟩ ?_
  refine ru_S hV [] sSL_30 (qL_contract l ha hb hn hd L) rfl rfl rfl (Nat.le_of_ble_eq_true rfl) ?_
  generalize hLx : lay L 182 32 _ = Lx
  have x1 : ∀ k, k < 32 → Lx 182 k = brF I L n 3 a b w k := fun k hk => by rw [← hLx, lay_in hk]; rfl
  have x2 : KpL [182, 183, 184, 185] L Lx := by rw [← hLx]; exact (KpL.rf _ L).ly (by decide)
  refine ru_go hV 5 [(1, 0)] rfl rfl ⟨trivial, (by decide)⟩ ?_
  refine loop0 (P := fun k => V 57 [(0, .int 3), (1, .ref 181), (2, .int (nI a)), (3, .int (nI b)), (4, .int w), (5, .ref 186), (6, .ref 182), (7, .ref 183), (8, .ref 184), (9, .ref 185), (10, .ref 188), (11, .int (nI k))] [] I Lx) 32 (fun h => h) (fun k hk ih => ?_) ?_
  · refine ru_go hV 4 [(0, 0)] rfl rfl ⟨trivial, nI32_ge hk⟩ ?_
    refine ru_S hV [] sSL_8 (hbl _) rfl rfl rfl (Nat.le_of_ble_eq_true rfl) ?_
    refine ru_go hV 21 [(1, 0), (1, 0), (1, 0), (1, 0), (1, 0)] rfl rfl ⟨⟨⟨⟨⟨trivial, (by decide)⟩, (by decide)⟩, (by decide)⟩, (by decide)⟩, (by decide)⟩ ?_
    rw [nI_1]
    exact ru_sub hV [0, 1, 2, 3, 4, 5, 6, 7, 8, 9, 10, 11] rfl ih
  · refine ru_fin hV 4 [(1, 0)] rfl rfl ⟨trivial, (by decide)⟩ ?_
    exact ⟨rfl, rfl, x1, x2⟩
set_option maxRecDepth 100000 in
theorem qL_bring4 (l : Launch) {a b n : Nat} {w : Int32} (ha : a + 32 ≤ 64) (hb : b + 32 ≤ 64) (hn : n ≤ 5) {I : IM} (hd : I 188 0 = nI n) (L : LM) : ∃ I2 L2, (I2 = I ∧ (∀ k, k < 32 → L2 182 k = brF I L n 4 a b w k) ∧ KpL [182, 183, 184, 185] L L2) ∧ KL_bring l [.int 4, .ref 181, .int (nI a), .int (nI b), .int w, .ref 186, .ref 182, .ref 183, .ref 184, .ref 185, .ref 188] I L none I2 L2 := by
  obtain ⟨hB, hB0⟩ := pow_le32 n hn
  have hB2 : 2 ^ n < 2 ^ 31 := by omega
  have hbl : ∀ M : LM, KL_all l [.ref 188] I M (some (.int (nI (2 ^ n)))) I M := fun M => qL_all l hn hd M
  refine ru_pos1 (fun V hV => ?_) (fun I2 L2 h => wL_bring l rfl (hz0 (by decide)) h)
  refine ru_go hV 11 [(1, 0), (1, 0), (1, 0)] rfl rfl ⟨⟨⟨trivial, (by decide)⟩, (by decide)⟩, (by decide)⟩ ?_
  refine loop0 (P := fun k => ∀ Lx : LM, (∀ q, q < k → Lx 182 q = brF I L n 4 a b w q) → KpL [182, 183, 184, 185] L Lx → V 57 [(0, .int 4), (1, .ref 181), (2, .int (nI a)), (3, .int (nI b)), (4, .int w), (5, .ref 186), (6, .ref 182), (7, .ref 183), (8, .ref 184), (9, .ref 185), (10, .ref 188), (11, .int (nI k))] [] I Lx) 32 (fun h => h L (fun q hq => absurd hq (Nat.not_lt_zero q)) (KpL.rf _ L)) (fun k hk ih => ?_) ?_
  · intro Lx x1 x2
    have e181 : Lx 181 = L 181 := x2 181 (by decide)
    have next : ∀ x : Int64, x = brF I L n 4 a b w k → ∀ lv, lv = [(0, .int 4), (1, .ref 181), (2, .int (nI a)), (3, .int (nI b)), (4, .int w), (5, .ref 186), (6, .ref 182), (7, .ref 183), (8, .ref 184), (9, .ref 185), (10, .ref 188), (11, .int (nI (k + 1)))] → V 57 lv [] I (mu Lx 182 k x) := fun x hx lv e => by
      subst e
      exact ih _ (br_mu (L := L) x1 hx) (x2.mu (by decide))
    refine ru_go hV 4 [(0, 0)] rfl rfl ⟨trivial, nI32_ge hk⟩ ?_
    refine ru_S hV [] sSL_8 (hbl _) rfl rfl rfl (Nat.le_of_ble_eq_true rfl) ?_
    by_cases hkB : k < 2 ^ n
    · have er : nI (2 ^ n) - 1 - nI k = nI (2 ^ n - 1 - k) := by rw [bB_sub hB0, nI_subN (by omega)]
      refine ru_go hV 5 [] rfl rfl trivial ?_
      rw [er]
      refine ru_go hV 19 [(1, 0), (1, 0), (0, 0), (1, 0), ((a+(2^n-1-k)), 64)] rfl rfl ⟨⟨⟨⟨⟨trivial, (by decide)⟩, (by decide)⟩, (by decide)⟩, nI_pos' (by omega)⟩, ⟨rfl, nI_add a _, by omega⟩⟩ ?_
      refine ru_S hV [.long _, .int _, .ref 182] sSL_18 (qL_sign l (b := 2 ^ n - 1 - k) (by omega) I _) rfl rfl rfl (Nat.le_of_ble_eq_true rfl) ?_
      refine ru_go hV 4 [] rfl rfl trivial ?_
      refine ru_S hV [.long _, .int _, .ref 182] sSL_14 (qL_order l (x := 2 ^ n - 1 - k) (y := k) (by omega) hk I _) rfl rfl rfl (Nat.le_of_ble_eq_true rfl) ?_
      refine ru_go hV 11 [(k, 32), (1, 0), (1, 0)] rfl rfl ⟨⟨⟨trivial, ⟨rfl, rfl, hk⟩⟩, (by decide)⟩, (by decide)⟩ ?_
      rw [nI_1, e181]
      exact ru_sub hV [0, 1, 2, 3, 4, 5, 6, 7, 8, 9, 10, 11] rfl (next _ (by simp only [brF, hkB, if_true]) _ rfl)
    · have er : nI (2 ^ n) - 1 - nI k < 0 := by rw [bB_sub hB0]; exact pk_sneg (by omega) (by omega)
      refine ru_go hV 28 [(1, 0), (1, 0), (0, 0), (0, 0), (k, 32), (1, 0), (1, 0)] rfl rfl ⟨⟨⟨⟨⟨⟨⟨trivial, (by decide)⟩, (by decide)⟩, (by decide)⟩, (fun e => absurd er (Int32.not_lt.mpr e))⟩, ⟨rfl, rfl, hk⟩⟩, (by decide)⟩, (by decide)⟩ ?_
      rw [nI_1]
      exact ru_sub hV [0, 1, 2, 3, 4, 5, 6, 7, 8, 9, 10, 11] rfl (next _ (by simp only [brF, hkB, if_false]) _ rfl)
  · intro Lx x1 x2
    refine ru_fin hV 4 [(1, 0)] rfl rfl ⟨trivial, (by decide)⟩ ?_
    exact ⟨rfl, rfl, x1, x2⟩
set_option maxRecDepth 100000 in
theorem qL_bring5 (l : Launch) {a b n : Nat} {w : Int32} (ha : a + 32 ≤ 64) (hb : b + 32 ≤ 64) (hn : n ≤ 5) {I : IM} (hd : I 188 0 = nI n) (L : LM) : ∃ I2 L2, (I2 = I ∧ (∀ k, k < 32 → L2 182 k = brF I L n 5 a b w k) ∧ KpL [182, 183, 184, 185] L L2) ∧ KL_bring l [.int 5, .ref 181, .int (nI a), .int (nI b), .int w, .ref 186, .ref 182, .ref 183, .ref 184, .ref 185, .ref 188] I L none I2 L2 := by
  obtain ⟨hB, hB0⟩ := pow_le32 n hn
  have hB2 : 2 ^ n < 2 ^ 31 := by omega
  have hbl : ∀ M : LM, KL_all l [.ref 188] I M (some (.int (nI (2 ^ n)))) I M := fun M => qL_all l hn hd M
  refine ru_pos1 (fun V hV => ?_) (fun I2 L2 h => wL_bring l rfl (hz0 (by decide)) h)
  refine ru_go hV 11 [(1, 0), (1, 0), (1, 0)] rfl rfl ⟨⟨⟨trivial, (by decide)⟩, (by decide)⟩, (by decide)⟩ ?_
  refine loop0 (P := fun k => ∀ Lx : LM, (∀ q, q < k → Lx 182 q = brF I L n 5 a b w q) → KpL [182, 183, 184, 185] L Lx → V 57 [(0, .int 5), (1, .ref 181), (2, .int (nI a)), (3, .int (nI b)), (4, .int w), (5, .ref 186), (6, .ref 182), (7, .ref 183), (8, .ref 184), (9, .ref 185), (10, .ref 188), (11, .int (nI k))] [] I Lx) 32 (fun h => h L (fun q hq => absurd hq (Nat.not_lt_zero q)) (KpL.rf _ L)) (fun k hk ih => ?_) ?_
  · intro Lx x1 x2
    have e181 : Lx 181 = L 181 := x2 181 (by decide)
    have next : ∀ x : Int64, x = brF I L n 5 a b w k → ∀ lv, lv = [(0, .int 5), (1, .ref 181), (2, .int (nI a)), (3, .int (nI b)), (4, .int w), (5, .ref 186), (6, .ref 182), (7, .ref 183), (8, .ref 184), (9, .ref 185), (10, .ref 188), (11, .int (nI (k + 1)))] → V 57 lv [] I (mu Lx 182 k x) := fun x hx lv e => by
      subst e
      exact ih _ (br_mu (L := L) x1 hx) (x2.mu (by decide))
    refine ru_go hV 4 [(0, 0)] rfl rfl ⟨trivial, nI32_ge hk⟩ ?_
    refine ru_S hV [] sSL_8 (hbl _) rfl rfl rfl (Nat.le_of_ble_eq_true rfl) ?_
    refine ru_go hV 19 [(1, 0), (1, 0), (1, 0), (0, 0)] rfl rfl ⟨⟨⟨⟨trivial, (by decide)⟩, (by decide)⟩, (by decide)⟩, (by decide)⟩ ?_
    refine ru_S hV [.int _, .ref 182] sSL_38 (qL_grade l hk I _) rfl rfl rfl (Nat.le_of_ble_eq_true rfl) ?_
    by_cases hg : nI (pc5 k) = w
    · refine ru_go hV 14 [(0, 0), ((a+k), 64), (k, 32), (1, 0)] rfl rfl ⟨⟨⟨⟨trivial, (fun e => e hg)⟩, ⟨rfl, nI_add a k, by omega⟩⟩, ⟨rfl, rfl, hk⟩⟩, (by decide)⟩ ?_
      rw [nI_1, e181]
      exact ru_sub hV [0, 1, 2, 3, 4, 5, 6, 7, 8, 9, 10, 11] rfl (next _ (by simp only [brF, hg, if_true]) _ rfl)
    · refine ru_go hV 9 [(1, 0), (k, 32), (1, 0)] rfl rfl ⟨⟨⟨trivial, hg⟩, ⟨rfl, rfl, hk⟩⟩, (by decide)⟩ ?_
      rw [nI_1]
      exact ru_sub hV [0, 1, 2, 3, 4, 5, 6, 7, 8, 9, 10, 11] rfl (next _ (by simp only [brF, hg, if_false]) _ rfl)
  · intro Lx x1 x2
    refine ru_fin hV 4 [(1, 0)] rfl rfl ⟨trivial, (by decide)⟩ ?_
    exact ⟨rfl, rfl, x1, x2⟩
set_option maxRecDepth 100000 in
theorem qL_bring6 (l : Launch) {a b n : Nat} {w : Int32} (ha : a + 32 ≤ 64) (hb : b + 32 ≤ 64) (hn : n ≤ 5) {I : IM} (hd : I 188 0 = nI n) (L : LM) : ∃ I2 L2, (I2 = I ∧ (∀ k, k < 32 → L2 182 k = brF I L n 6 a b w k) ∧ KpL [182, 183, 184, 185] L L2) ∧ KL_bring l [.int 6, .ref 181, .int (nI a), .int (nI b), .int w, .ref 186, .ref 182, .ref 183, .ref 184, .ref 185, .ref 188] I L none I2 L2 := by
  obtain ⟨hB, hB0⟩ := pow_le32 n hn
  have hB2 : 2 ^ n < 2 ^ 31 := by omega
  have hbl : ∀ M : LM, KL_all l [.ref 188] I M (some (.int (nI (2 ^ n)))) I M := fun M => qL_all l hn hd M
  refine ru_pos1 (fun V hV => ?_) (fun I2 L2 h => wL_bring l rfl (hz0 (by decide)) h)
  refine ru_go hV 11 [(1, 0), (1, 0), (1, 0)] rfl rfl ⟨⟨⟨trivial, (by decide)⟩, (by decide)⟩, (by decide)⟩ ?_
  refine loop0 (P := fun k => ∀ Lx : LM, (∀ q, q < k → Lx 182 q = brF I L n 6 a b w q) → KpL [182, 183, 184, 185] L Lx → V 57 [(0, .int 6), (1, .ref 181), (2, .int (nI a)), (3, .int (nI b)), (4, .int w), (5, .ref 186), (6, .ref 182), (7, .ref 183), (8, .ref 184), (9, .ref 185), (10, .ref 188), (11, .int (nI k))] [] I Lx) 32 (fun h => h L (fun q hq => absurd hq (Nat.not_lt_zero q)) (KpL.rf _ L)) (fun k hk ih => ?_) ?_
  · intro Lx x1 x2
    have e181 : Lx 181 = L 181 := x2 181 (by decide)
    have next : ∀ x : Int64, x = brF I L n 6 a b w k → ∀ lv, lv = [(0, .int 6), (1, .ref 181), (2, .int (nI a)), (3, .int (nI b)), (4, .int w), (5, .ref 186), (6, .ref 182), (7, .ref 183), (8, .ref 184), (9, .ref 185), (10, .ref 188), (11, .int (nI (k + 1)))] → V 57 lv [] I (mu Lx 182 k x) := fun x hx lv e => by
      subst e
      exact ih _ (br_mu (L := L) x1 hx) (x2.mu (by decide))
    refine ru_go hV 4 [(0, 0)] rfl rfl ⟨trivial, nI32_ge hk⟩ ?_
    refine ru_S hV [] sSL_8 (hbl _) rfl rfl rfl (Nat.le_of_ble_eq_true rfl) ?_
    refine ru_go hV 22 [(1, 0), (1, 0), (1, 0), (1, 0), (0, 0)] rfl rfl ⟨⟨⟨⟨⟨trivial, (by decide)⟩, (by decide)⟩, (by decide)⟩, (by decide)⟩, (by decide)⟩ ?_
    refine ru_S hV [.int _, .ref 182] sSL_38 (qL_grade l hk I _) rfl rfl rfl (Nat.le_of_ble_eq_true rfl) ?_
    have h5 := pc5_le k
    by_cases hg : pc5 k = 2
    · refine ru_go hV 12 [(1, 0), ((a+k), 64), (k, 32)] rfl rfl ⟨⟨⟨trivial, (by rw [hg]; rfl)⟩, ⟨rfl, nI_add a k, by omega⟩⟩, ⟨rfl, rfl, hk⟩⟩ ?_
      rw [nI_1, e181]
      exact ru_sub hV [0, 1, 2, 3, 4, 5, 6, 7, 8, 9, 10, 11] rfl (next _ (by simp [brF, hg]) _ rfl)
    · refine ru_go hV 3 [(0, 0)] rfl rfl ⟨trivial, (fun e => hg ((nI_eq (b := 2) (by omega) (by omega)).mp e))⟩ ?_
      refine ru_S hV [.int _, .ref 182] sSL_38 (qL_grade l hk I _) rfl rfl rfl (Nat.le_of_ble_eq_true rfl) ?_
      by_cases hg3 : pc5 k = 3
      · refine ru_go hV 12 [(0, 0), ((a+k), 64), (k, 32)] rfl rfl ⟨⟨⟨trivial, (fun e => e (by rw [hg3]; rfl))⟩, ⟨rfl, nI_add a k, by omega⟩⟩, ⟨rfl, rfl, hk⟩⟩ ?_
        rw [nI_1, e181]
        exact ru_sub hV [0, 1, 2, 3, 4, 5, 6, 7, 8, 9, 10, 11] rfl (next _ (by simp [brF, hg3]) _ rfl)
      · refine ru_go hV 10 [(1, 0), ((a+k), 64), (k, 32)] rfl rfl ⟨⟨⟨trivial, (fun e => hg3 ((nI_eq (b := 3) (by omega) (by omega)).mp e))⟩, ⟨rfl, nI_add a k, by omega⟩⟩, ⟨rfl, rfl, hk⟩⟩ ?_
        rw [nI_1, e181]
        exact ru_sub hV [0, 1, 2, 3, 4, 5, 6, 7, 8, 9, 10, 11] rfl (next _ (by simp [brF, hg, hg3]) _ rfl)
  · intro Lx x1 x2
    refine ru_fin hV 4 [(1, 0)] rfl rfl ⟨trivial, (by decide)⟩ ?_
    exact ⟨rfl, rfl, x1, x2⟩
set_option maxRecDepth 100000 in
theorem qL_bring7 (l : Launch) {a b n : Nat} {w : Int32} (ha : a + 32 ≤ 64) (hb : b + 32 ≤ 64) (hn : n ≤ 5) {I : IM} (hd : I 188 0 = nI n) (L : LM) : ∃ I2 L2, (I2 = I ∧ (∀ k, k < 32 → L2 182 k = brF I L n 7 a b w k) ∧ KpL [182, 183, 184, 185] L L2) ∧ KL_bring l [.int 7, .ref 181, .int (nI a), .int (nI b), .int w, .ref 186, .ref 182, .ref 183, .ref 184, .ref 185, .ref 188] I L none I2 L2 := by
  obtain ⟨hB, hB0⟩ := pow_le32 n hn
  have hB2 : 2 ^ n < 2 ^ 31 := by omega
  have hbl : ∀ M : LM, KL_all l [.ref 188] I M (some (.int (nI (2 ^ n)))) I M := fun M => qL_all l hn hd M
  refine ru_pos1 (fun V hV => ?_) (fun I2 L2 h => wL_bring l rfl (hz0 (by decide)) h)
  obtain ⟨I3, Lx, ⟨rfl, x1, x2⟩, hK⟩ := qL_push l ha hn hd L
  refine ru_go hV 17 [(1, 0), (1, 0), (0, 0)] rfl rfl ⟨⟨⟨trivial, (by decide)⟩, (by decide)⟩, (by decide)⟩ ?_
  refine ru_S hV [] sSL_34 hK rfl rfl rfl (Nat.le_of_ble_eq_true rfl) ?_
  refine ru_go hV 2 [] rfl rfl trivial ?_
  refine loop0 (P := fun k => V 57 [(0, .int 7), (1, .ref 181), (2, .int (nI a)), (3, .int (nI b)), (4, .int w), (5, .ref 186), (6, .ref 182), (7, .ref 183), (8, .ref 184), (9, .ref 185), (10, .ref 188), (11, .int (nI k))] [] I3 Lx) 32 (fun h => h) (fun k hk ih => ?_) ?_
  · refine ru_go hV 4 [(0, 0)] rfl rfl ⟨trivial, nI32_ge hk⟩ ?_
    refine ru_S hV [] sSL_8 (hbl _) rfl rfl rfl (Nat.le_of_ble_eq_true rfl) ?_
    refine ru_go hV 21 [(1, 0), (1, 0), (1, 0), (1, 0), (1, 0)] rfl rfl ⟨⟨⟨⟨⟨trivial, (by decide)⟩, (by decide)⟩, (by decide)⟩, (by decide)⟩, (by decide)⟩ ?_
    rw [nI_1]
    exact ru_sub hV [0, 1, 2, 3, 4, 5, 6, 7, 8, 9, 10, 11] rfl ih
  · refine ru_fin hV 4 [(1, 0)] rfl rfl ⟨trivial, (by decide)⟩ ?_
    exact ⟨rfl, rfl, x1, x2⟩
