/-! THE RANK by a prime number: the law's walk -/
def uL (F : Nat → Int64) (b d : Nat) : Int64 := if b.testBit d then F (b ^^^ 2 ^ d) * (odI (2 ^ d) (b ^^^ 2 ^ d)).toInt64 else 0
theorem lt_62 {a b q : Nat} (ha : a < q) (hb : b < q) (hq : q < 2 ^ 31) : a * b < 2 ^ 62 := by
  have h1 := Nat.mul_le_mul (show a ≤ 2 ^ 31 - 1 by omega) (show b ≤ 2 ^ 31 - 1 by omega)
  omega
theorem cl_bit : ∀ b, b < 32 → ∀ d, d < 5 → b.testBit d = true → nI b &&& (((1 : Int32) <<< (nI d &&& 31)) ^^^ (-1)) = nI (b ^^^ 2 ^ d) ∧ b ^^^ 2 ^ d < 32 := by decide +kernel
theorem hi_bit : ∀ n, n ≤ 5 → ∀ b, b < 2 ^ n → ∀ d, d < 5 → n ≤ d → b.testBit d = false := by decide +kernel
theorem nL_mul (a b : Nat) : nL a * nL b = nL (a * b) := by
  unfold nL
  rw [← Int64.ofInt_mul, Int.natCast_mul]
theorem i64_nL {x : Int32} {m : Nat} (h : x.toInt = m) : x.toInt64 = nL m := by
  have hx := Int32.toInt_lt x
  apply Int64.toInt_inj.mp
  rw [Int32.toInt_toInt64, nL_toInt (by omega), h]
theorem nL_lt0 {k : Nat} (h : k < 2 ^ 63) : ¬ 0 < nL k ↔ k = 0 := by
  rw [Int64.lt_iff_toInt_lt, nL_toInt h, show (0 : Int64).toInt = 0 from rfl]
  omega
theorem pw_step {iv bs q k : Nat} : (k % 2 = 1 → (iv * bs % q) * (bs * bs % q) ^ (k / 2) % q = iv * bs ^ k % q) ∧ (k % 2 = 0 → iv * (bs * bs % q) ^ (k / 2) % q = iv * bs ^ k % q) := by
  have e1 : (bs * bs % q) ^ (k / 2) % q = (bs * bs) ^ (k / 2) % q := (Nat.pow_mod (bs * bs) (k / 2) q).symm
  have e2 : (bs * bs) ^ (k / 2) = bs ^ (2 * (k / 2)) := by rw [Nat.pow_mul, Nat.pow_two]
  constructor
  · intro h
    have e3 : bs ^ k = bs * bs ^ (2 * (k / 2)) := by
      have : k = 2 * (k / 2) + 1 := by omega
      conv => lhs; rw [this]
      rw [Nat.pow_succ, Nat.mul_comm]
    rw [Nat.mul_mod, Nat.mod_mod, e1, ← Nat.mul_mod, e2, e3, Nat.mul_assoc]
  · intro h
    have e3 : bs ^ k = bs ^ (2 * (k / 2)) := by
      have : k = 2 * (k / 2) := by omega
      conv => lhs; rw [this]
    rw [Nat.mul_mod, e1, ← Nat.mul_mod, e2, e3]
theorem md_2 {x : Int64} {m q : Nat} (hx : x = nL m) (hm : m < 2 ^ 63) (h0 : 0 < q) (hq : q < 2 ^ 31) : (x - x / nL q * nL q).toInt32.toInt = ((m % q : Nat) : Int) := by
  rw [hx, nL_rem hm (by omega)]
  have : m % q < q := Nat.mod_lt _ h0
  rw [← Int32.toInt_toInt64, lg_i2l_l2i (by rw [nL_toInt (by omega)]; omega) (by rw [nL_toInt (by omega)]; omega), nL_toInt (by omega)]
theorem uL_bd {F : Nat → Int64} (hF : ∀ k, k < 32 → -100000000 ≤ (F k).toInt ∧ (F k).toInt ≤ 100000000) {b d : Nat} (hb : b < 32) (hd : d < 5) : -100000000 ≤ (uL F b d).toInt ∧ (uL F b d).toInt ≤ 100000000 := by
  unfold uL
  by_cases h : b.testBit d = true
  · rw [if_pos h, odI_sg]
    exact sg_I (hF _ (cl_bit b hb d hd h).2) (by decide)
  · rw [if_neg h]
    decide
abbrev LVr (a ρ b : Nat) (qv : Int64) : LV := [(0, .ref 181), (1, .int (nI a)), (2, .long qv), (4, .ref 187), (5, .ref 188), (6, .int (nI ρ)), (7, .int (nI b))]
set_option maxRecDepth 100000 in
set_option maxHeartbeats 2000000 in
theorem qL_rank (l : Launch) {a n q : Nat} {qv : Int64} (ha : a + 32 ≤ 64) (hn : n ≤ 5) (hq : Prm q) (hq31 : q < 2 ^ 31) (hqv : qv = nL q) {I : IM} (hdim : I 188 0 = nI n) (L : LM) (hF : ∀ k, k < 32 → -100000000 ≤ (L 181 (a + k)).toInt ∧ (L 181 (a + k)).toInt ≤ 100000000) : ∃ r I2 L2, (∃ (ρ : Nat) (E : Nat → Nat → Int) (hd : Nat → Nat) (b : Nat), r = some (.int (nI ρ)) ∧ RK q n (fun b d => (uL (fun k => L 181 (a + k)) b d).toInt) b ρ E hd ∧ (ρ = n ∨ b = 2 ^ n) ∧ (∀ c, c ≠ 187 → I2 c = I c) ∧ L2 = L ∧ b ≤ 2 ^ n) ∧ KL_rank l [.ref 181, .int (nI a), .long qv, .ref 187, .ref 188] I L r I2 L2 := by
  obtain ⟨hB, hB0⟩ := pow_le32 n hn
  have hB2 : 2 ^ n < 2 ^ 31 := by omega
  have q2 := hq.1
  have hqt : qv.toInt = q := by rw [hqv]; exact nL_toInt (by omega)
  have hq0 : ¬ qv = 0 := fun e => by rw [e] at hqt; rw [show (0 : Int64).toInt = 0 from rfl] at hqt; omega
  have hUb := fun b d hb hd => uL_bd (F := fun k => L 181 (a + k)) hF (b := b) (d := d) hb hd
  have hUz : ∀ b d, b < 2 ^ n → n ≤ d → d < 5 → uL (fun k => L 181 (a + k)) b d = 0 := fun b d h1 h2 h3 => by
    unfold uL
    rw [hi_bit n hn b h1 d h3 h2, if_neg Bool.false_ne_true]
  generalize hU : uL (fun k => L 181 (a + k)) = U at hUb hUz ⊢
  refine ru_post (fun V hV => ?_) (fun r I2 L2 _ h => wL_rank l rfl (hz0 (by decide)) h)
  refine ru_go hV 4 [] rfl rfl trivial ?_
  refine loop0 (P := fun i => ∀ (J : IM) (ρ : Nat) (hd : Nat → Nat), RK q n (fun b d => (U b d).toInt) (i + 1) ρ (fun k d => (J 187 (5 * k + d)).toInt) hd → (∀ k, k < ρ → J 187 (25 + k) = nI (hd k)) → (∀ c, c ≠ 187 → J c = I c) → V 6 (LVr a ρ (i + 1) qv) [] J L) (2 ^ n - 1) (fun h => h I 0 (fun _ => 0) RK.start (fun k hk => absurd hk (Nat.not_lt_zero k)) (fun _ _ => rfl)) (fun i hi ih => ?_) ?_
  · intro J ρ hd hK hH hJ
    have hi32 : i + 1 < 32 := by omega
    have hρn := hK.1
    have j188 : J 188 0 = nI n := by rw [hJ 188 (by decide)]; exact hdim
    refine ru_go hV 2 [] rfl rfl trivial ?_
    refine ru_S hV [.int (nI (i+1))] sSL_8 (qL_all l hn j188 L) rfl rfl rfl (Nat.le_of_ble_eq_true rfl) ?_
    refine ru_go hV 1 [(0, 0)] rfl rfl ⟨trivial, nI_nge (i := i + 1) (by omega) hB2⟩ ?_
    by_cases hρ : ρ = n
    · refine ru_fin hV 7 [(0, 15), (1, 0)] rfl rfl ⟨⟨trivial, (by first | exact rfl | assumption | exact ⟨rfl, rfl⟩ | exact ⟨rfl, rfl, by omega⟩ | exact ⟨by assumption, rfl, by omega⟩ | exact ⟨⟨_, rfl, rfl⟩, by decide, by decide, rfl, by omega⟩ | omega | decide)⟩, (by rw [j188]; exact nI_le (by omega) (by omega))⟩ ?_
      exact ⟨some (.int (nI ρ)), rfl, ρ, _, hd, i + 1, rfl, hK, Or.inl hρ, hJ, rfl, by omega⟩
    · have hρ5 : ρ < 5 := by omega
      have c361 : ∀ (J' : IM) (ρ' : Nat) (hd' : Nat → Nat), RK q n (fun b d => (U b d).toInt) (i + 1 + 1) ρ' (fun k d => (J' 187 (5 * k + d)).toInt) hd' → (∀ k, k < ρ' → J' 187 (25 + k) = nI (hd' k)) → (∀ c, c ≠ 187 → J' c = I c) → V 361 (LVr a ρ' (i + 1) qv) [] J' L := fun J' ρ' hd' g1 g2 g3 => by
        refine ru_go hV 2 [] rfl rfl trivial ?_
        rw [nI_1]
        exact ih J' ρ' hd' g1 g2 g3
      refine ru_go hV 11 [(0, 15), (0, 0)] rfl rfl ⟨⟨trivial, (by first | exact rfl | assumption | exact ⟨rfl, rfl⟩ | exact ⟨rfl, rfl, by omega⟩ | exact ⟨by assumption, rfl, by omega⟩ | exact ⟨⟨_, rfl, rfl⟩, by decide, by decide, rfl, by omega⟩ | omega | decide)⟩, (by rw [j188]; exact nI_nge (by omega) (by omega))⟩ ?_
      rw [show (5 : Int32) * nI ρ = nI (5 * ρ) from pk_mul 5 ρ]
      -- the new row as it comes
      refine loop0 (P := fun d => ∀ J1 : IM, (∀ c, c ≠ 187 → J1 c = J c) → (∀ p, (p < 5 * ρ ∨ 25 ≤ p) → J1 187 p = J 187 p) → (∀ j, j < d → (J1 187 (5 * ρ + j)).toInt = (U (i + 1) j).toInt % (q : Int)) → V 34 (LVr a ρ (i + 1) qv ++ [(8, .int (nI (5 * ρ))), (9, .int (nI d))]) [] J1 L) 5 (fun h => h J (fun _ _ => rfl) (fun _ _ => rfl) (fun j hj => absurd hj (Nat.not_lt_zero j))) (fun d hd5 ihd => ?_) ?_
      · intro J1 y1 y2 y3
        have c88 : ∀ lv, lv = LVr a ρ (i + 1) qv ++ [(8, .int (nI (5 * ρ))), (9, .int (nI d)), (10, .long (U (i + 1) d))] → V 88 lv [] J1 L := fun lv elv => by
          subst elv
          have hb := hUb (i + 1) d hi32 hd5
          have hv := md_64 (x := U (i + 1) d) (y := qv) (q := q) (by omega) hqt (by omega) hq31
          refine ru_go hV 15 [((5*ρ+d), 32)] rfl rfl ⟨⟨⟨trivial, hq0⟩, hq0⟩, ⟨rfl, nI_add _ _, by omega⟩⟩ ?_
          rw [nI_1]
          refine ru_sub hV [0, 1, 2, 3, 4, 5, 6, 7, 8] rfl (ihd _ (fun c hc => by rw [mu_ne _ _ hc]; exact y1 c hc) (fun p hp => ?_) (fun j hj => ?_))
          · rw [show ∀ v, mu J1 187 (5 * ρ + d) v 187 p = J1 187 p from fun v => by simp [mu, show ¬ p = 5 * ρ + d by omega]]
            exact y2 p hp
          · by_cases e : j = d
            · subst e; rw [mu_at]; exact hv
            · rw [show ∀ v, mu J1 187 (5 * ρ + d) v 187 (5 * ρ + j) = J1 187 (5 * ρ + j) from fun v => by simp [mu, e]]
              exact y3 j (by omega)
        by_cases hb : (i + 1).testBit d = true
        · obtain ⟨e1, e2⟩ := cl_bit (i + 1) hi32 d hd5 hb
          have esh := bl_sh d (by omega)
          have hp := pow2_lt d hd5
          refine ru_go hV 31 [(0, 0), (0, 0), ((a+((i+1)^^^2^d)), 64)] rfl rfl ⟨⟨⟨trivial, nI5_ge hd5⟩, (fun z => z ((bit_tst (i + 1) hi32 d hd5).mpr hb))⟩, ⟨rfl, by rw [e1]; exact nI_add a _, by omega⟩⟩ ?_
          rw [e1, esh]
          refine ru_S hV [.long _] sSL_14 (qL_order l hp e2 J1 L) rfl rfl rfl (Nat.le_of_ble_eq_true rfl) ?_
          refine ru_go hV 4 [] rfl rfl trivial ?_
          refine c88 _ ?_
          rw [← hU]
          unfold uL
          rw [if_pos hb]
          rfl
        · refine ru_go hV 12 [(0, 0), (1, 0)] rfl rfl ⟨⟨trivial, nI5_ge hd5⟩, (fun z => hb ((bit_tst (i + 1) hi32 d hd5).mp z))⟩ ?_
          refine c88 _ ?_
          rw [← hU]
          unfold uL
          rw [if_neg hb]
          rfl
      · intro J1 y1 y2 y3
        refine ru_go hV 5 [(1, 0)] rfl rfl ⟨trivial, (by decide)⟩ ?_
        have rw0 : RW q n (fun b d => (U b d).toInt) (i + 1) ρ (fun k d => (J 187 (5 * k + d)).toInt) hd 0 (fun d => (J1 187 (5 * ρ + d)).toInt) := RW.start (by omega) (by omega) (by omega) y3 (fun d d1 d2 => by
          show (U (i + 1) d).toInt = 0
          rw [hUz (i + 1) d (by omega) d1 d2]; rfl)
        refine loop0 (P := fun k => ∀ J2 : IM, (∀ c, c ≠ 187 → J2 c = J c) → (∀ p, (p < 5 * ρ ∨ 25 ≤ p) → J2 187 p = J 187 p) → RW q n (fun b d => (U b d).toInt) (i + 1) ρ (fun k d => (J 187 (5 * k + d)).toInt) hd k (fun d => (J2 187 (5 * ρ + d)).toInt) → V 114 (LVr a ρ (i + 1) qv ++ [(8, .int (nI (5 * ρ))), (9, .int (nI k))]) [] J2 L) ρ (fun h => h J1 y1 y2 rw0) (fun k hk ihk => ?_) ?_
        · intro J2 z1 z2 z3
          have hhk := (hK.2.2.1 k hk).1
          have eh : J2 187 (25 + k) = nI (hd k) := by rw [z2 _ (Or.inr (by omega))]; exact hH k hk
          have rb := z3.1
          have eb := hK.2.1 k hk
          refine ru_go hV 18 [(0, 0), ((25+k), 32), ((5*ρ+(hd k)), 32)] rfl rfl ⟨⟨⟨trivial, nI_nge hk (by omega)⟩, ⟨rfl, nI_add 25 k, by omega⟩⟩, ⟨rfl, by rw [eh]; exact nI_add _ _, by omega⟩⟩ ?_
          generalize hby : J2 187 (5 * ρ + hd k) = by0
          have hby2 := rb (hd k) (by omega)
          simp only [] at hby2
          rw [hby] at hby2
          refine loop0 (P := fun d => ∀ J3 : IM, (∀ c, c ≠ 187 → J3 c = J2 c) → (∀ p, (p < 5 * ρ + 0 ∨ 25 ≤ p) → J3 187 p = J2 187 p) → (∀ j, j < d → (J3 187 (5 * ρ + j)).toInt = ((J2 187 (5 * ρ + j)).toInt - by0.toInt * (J 187 (5 * k + j)).toInt) % (q : Int)) → (∀ j, d ≤ j → j < 5 → J3 187 (5 * ρ + j) = J2 187 (5 * ρ + j)) → V 145 (LVr a ρ (i + 1) qv ++ [(8, .int (nI (5 * ρ))), (9, .int (nI k)), (10, .int (J2 187 (25 + k))), (11, .long by0.toInt64), (13, .int (nI d))]) [] J3 L) 5 (fun h => h J2 (fun _ _ => rfl) (fun _ _ => rfl) (fun j hj => absurd hj (Nat.not_lt_zero j)) (fun _ _ _ => rfl)) (fun d hd5 ihd => ?_) ?_
          · intro J3 w1 w2 w3 w4
            have ek : J3 187 (5 * k + d) = J 187 (5 * k + d) := by rw [w2 _ (Or.inl (by omega)), z2 _ (Or.inl (by omega))]
            have er : J3 187 (5 * ρ + d) = J2 187 (5 * ρ + d) := w4 d (Nat.le_refl d) hd5
            have b1 := rb d hd5
            have b2 := eb d hd5
            simp only [] at b1 b2
            obtain ⟨m1, m2⟩ := mul_I (a := by0.toInt64) (b := (J3 187 (5 * k + d)).toInt64) (A := 2147483648) (B := 2147483648) (by rw [Int32.toInt_toInt64]; omega) (by rw [Int32.toInt_toInt64, ek]; omega) (by decide)
            rw [Int32.toInt_toInt64, Int32.toInt_toInt64, ek] at m1 m2
            have ex : ((J3 187 (5 * ρ + d)).toInt64 - by0.toInt64 * (J3 187 (5 * k + d)).toInt64).toInt = (J2 187 (5 * ρ + d)).toInt - by0.toInt * (J 187 (5 * k + d)).toInt := by
              rw [Int64.toInt_sub, ek, m1, Int32.toInt_toInt64, er]
              exact Int.bmod_eq_of_le (by omega) (by omega)
            have hv := md_64 (x := (J3 187 (5 * ρ + d)).toInt64 - by0.toInt64 * (J3 187 (5 * k + d)).toInt64) (y := qv) (q := q) (by rw [ex]; omega) hqt (by omega) hq31
            rw [ex] at hv
            refine ru_go hV 34 [(0, 0), ((5*ρ+d), 32), ((5*k+d), 32), ((5*ρ+d), 32)] rfl rfl ⟨⟨⟨⟨⟨⟨trivial, nI5_ge hd5⟩, ⟨rfl, nI_add _ _, by omega⟩⟩, ⟨rfl, by rw [show (5 : Int32) * nI k = nI (5 * k) from pk_mul 5 k]; exact nI_add _ _, by omega⟩⟩, hq0⟩, hq0⟩, ⟨rfl, nI_add _ _, by omega⟩⟩ ?_
            rw [nI_1]
            refine ihd _ (fun c hc => by rw [mu_ne _ _ hc]; exact w1 c hc) (fun p hp => ?_) (fun j hj => ?_) (fun j j1 j2 => ?_)
            · rw [show ∀ v, mu J3 187 (5 * ρ + d) v 187 p = J3 187 p from fun v => by simp [mu, show ¬ p = 5 * ρ + d by omega]]
              exact w2 p hp
            · by_cases e : j = d
              · subst e; rw [mu_at]; exact hv
              · rw [show ∀ v, mu J3 187 (5 * ρ + d) v 187 (5 * ρ + j) = J3 187 (5 * ρ + j) from fun v => by simp [mu, e]]
                exact w3 j (by omega)
            · rw [show ∀ v, mu J3 187 (5 * ρ + d) v 187 (5 * ρ + j) = J3 187 (5 * ρ + j) from fun v => by simp [mu, show ¬ j = d by omega]]
              exact w4 j (by omega) j2
          · intro J3 w1 w2 w3 w4
            refine ru_go hV 5 [(1, 0)] rfl rfl ⟨trivial, (by decide)⟩ ?_
            rw [nI_1]
            refine ru_sub hV [0, 1, 2, 3, 4, 5, 6, 7, 8] rfl (ihk J3 (fun c hc => by rw [w1 c hc]; exact z1 c hc) (fun p hp => by rw [w2 p hp]; exact z2 p hp) (RW.step (by omega) hn hK z3 hk (fun d hd5 => ?_)))
            show (J3 187 (5 * ρ + d)).toInt = _
            rw [w3 d hd5, ← hby]
        · intro J2 z1 z2 z3
          have rb := z3.1
          have hJ2 : ∀ c, c ≠ 187 → J2 c = I c := fun c hc => (z1 c hc).trans (hJ c hc)
          refine ru_go hV 5 [(1, 0)] rfl rfl ⟨trivial, nI_le (Nat.le_refl ρ) (by omega)⟩ ?_
          refine loop0 (P := fun h => (∀ j, j < h → (J2 187 (5 * ρ + j)).toInt = 0) → V 205 (LVr a ρ (i + 1) qv ++ [(8, .int (nI (5 * ρ))), (9, .int (nI h))]) [] J2 L) 5 (fun h => h (fun j hj => absurd hj (Nat.not_lt_zero j))) (fun h h5 ihh => ?_) ?_
          · intro hz
            by_cases h0 : J2 187 (5 * ρ + h) = 0
            · refine ru_go hV 11 [(0, 0), ((5*ρ+h), 32), (0, 0)] rfl rfl ⟨⟨⟨trivial, nI5_ge h5⟩, ⟨rfl, nI_add _ _, by omega⟩⟩, (fun z => z h0)⟩ ?_
              rw [nI_1]
              refine ihh (fun j hj => ?_)
              by_cases e : j = h
              · subst e; rw [h0]; rfl
              · exact hz j (by omega)
            · obtain ⟨a0, ea0⟩ : ∃ a0 : Nat, (J2 187 (5 * ρ + h)).toInt = a0 := ⟨(J2 187 (5 * ρ + h)).toInt.toNat, by have := (rb h h5).1; simp only [] at this; omega⟩
              have b0 := rb h h5
              simp only [] at b0
              have a0p : a0 ≠ 0 := fun z => h0 (Int32.toInt_inj.mp (by rw [ea0, z]; rfl))
              have a0q : ¬ q ∣ a0 := fun z => by have := Nat.le_of_dvd (by omega) z; omega
              have hinv := inv_pow hq a0q
              refine ru_go hV 12 [(0, 0), ((5*ρ+h), 32), (1, 0), (1, 0)] rfl rfl ⟨⟨⟨⟨trivial, nI5_ge h5⟩, ⟨rfl, nI_add _ _, by omega⟩⟩, h0⟩, (fun z => by have := (nI_eq (b := 5) (by omega) (by decide)).mp z; omega)⟩ ?_
              refine ru_go hV 13 [((5*ρ+h), 32)] rfl rfl ⟨trivial, ⟨rfl, nI_add _ _, by omega⟩⟩ ?_
              rw [i64_nL ea0, hqv, show nL q - 2 = nL (q - 2) from by
                apply Int64.toInt_inj.mp
                rw [Int64.toInt_sub, nL_toInt (by omega), nL_toInt (by omega), show (2 : Int64).toInt = 2 from rfl]
                rw [Int.bmod_eq_of_le (by omega) (by omega)]
                omega]
              rw [hqv] at hq0
              have fin : ∀ iv bs : Nat, iv < q → iv = a0 ^ (q - 2) % q → V 258 (LVr a ρ (i + 1) (nL q) ++ [(8, .int (nI (5 * ρ))), (9, .int (nI h)), (10, .long (nL iv)), (12, .long (nL bs)), (14, .long (nL 0))]) [] J2 L := by
                intro iv bs hiv hpw
                have hiv1 : a0 * iv % q = 1 := by rw [hpw, Nat.mul_mod, Nat.mod_mod, ← Nat.mul_mod, Nat.mul_comm]; exact hinv
                refine ru_go hV 6 [(1, 0)] rfl rfl ⟨trivial, lgc_le.mpr ((nL_lt0 (by decide)).mpr rfl)⟩ ?_
                refine loop0 (P := fun d => ∀ J3 : IM, (∀ c, c ≠ 187 → J3 c = J2 c) → (∀ p, (p < 5 * ρ ∨ 25 ≤ p) → J3 187 p = J2 187 p) → (∀ j, j < d → (J3 187 (5 * ρ + j)).toInt = ((J2 187 (5 * ρ + j)).toInt * (iv : Int)) % (q : Int)) → (∀ j, d ≤ j → j < 5 → J3 187 (5 * ρ + j) = J2 187 (5 * ρ + j)) → V 313 (LVr a ρ (i + 1) (nL q) ++ [(8, .int (nI (5 * ρ))), (9, .int (nI h)), (10, .long (nL iv)), (12, .long (nL bs)), (14, .int (nI d))]) [] J3 L) 5 (fun h => h J2 (fun _ _ => rfl) (fun _ _ => rfl) (fun j hj => absurd hj (Nat.not_lt_zero j)) (fun _ _ _ => rfl)) (fun d hd5 ihd => ?_) ?_
                · intro J3 w1 w2 w3 w4
                  have er : J3 187 (5 * ρ + d) = J2 187 (5 * ρ + d) := w4 d (Nat.le_refl d) hd5
                  have b1 := rb d hd5
                  simp only [] at b1
                  obtain ⟨m, em⟩ : ∃ m : Nat, (J2 187 (5 * ρ + d)).toInt = m := ⟨(J2 187 (5 * ρ + d)).toInt.toNat, by omega⟩
                  have hm : m < q := by omega
                  have hmi : m * iv < 2 ^ 62 := lt_62 hm hiv hq31
                  have hv := md_2 (x := (J3 187 (5 * ρ + d)).toInt64 * nL iv) (m := m * iv) (q := q) (by rw [er, i64_nL em, nL_mul]) (by omega) (by omega) hq31
                  have ev : ((m * iv % q : Nat) : Int) = ((J2 187 (5 * ρ + d)).toInt * (iv : Int)) % (q : Int) := by
                    rw [em, ← Int.natCast_mul]
                    rfl
                  rw [ev] at hv
                  refine ru_go hV 21 [(0, 0), ((5*ρ+d), 32), ((5*ρ+d), 32)] rfl rfl ⟨⟨⟨⟨trivial, nI5_ge hd5⟩, ⟨rfl, nI_add _ _, by omega⟩⟩, hq0⟩, ⟨rfl, nI_add _ _, by omega⟩⟩ ?_
                  rw [nI_1]
                  refine ihd _ (fun c hc => by rw [mu_ne _ _ hc]; exact w1 c hc) (fun p hp => ?_) (fun j hj => ?_) (fun j j1 j2 => ?_)
                  · rw [show ∀ v, mu J3 187 (5 * ρ + d) v 187 p = J3 187 p from fun v => by simp [mu, show ¬ p = 5 * ρ + d by omega]]
                    exact w2 p hp
                  · by_cases e : j = d
                    · subst e; rw [mu_at]; exact hv
                    · rw [show ∀ v, mu J3 187 (5 * ρ + d) v 187 (5 * ρ + j) = J3 187 (5 * ρ + j) from fun v => by simp [mu, e]]
                      exact w3 j (by omega)
                  · rw [show ∀ v, mu J3 187 (5 * ρ + d) v 187 (5 * ρ + j) = J3 187 (5 * ρ + j) from fun v => by simp [mu, show ¬ j = d by omega]]
                    exact w4 j (by omega) j2
                · intro J3 w1 w2 w3 w4
                  refine ru_go hV 10 [(1, 0), ((25+ρ), 32)] rfl rfl ⟨⟨trivial, (by decide)⟩, ⟨rfl, nI_add 25 ρ, by omega⟩⟩ ?_
                  rw [nI_1]
                  have m1 : ∀ p, p ≠ 25 + ρ → mu J3 187 (25 + ρ) (nI h) 187 p = J3 187 p := fun p hp => by simp [mu, hp]
                  have hqv2 : nL q = qv := hqv.symm
                  rw [hqv2]
                  refine ru_sub hV [0, 1, 2, 3, 4, 5, 6] rfl (c361 _ (ρ + 1) (fun k => if k = ρ then h else hd k) (RK.more (iv := (iv : Int)) (by omega) hn (by omega) hK z3 h5 (by show (J2 187 (5 * ρ + h)).toInt ≠ 0; omega) (fun d hd => hz d hd) (by show (J2 187 (5 * ρ + h)).toInt * (iv : Int) % (q : Int) = 1; rw [ea0, ← Int.natCast_mul]; exact congrArg (fun w : Nat => (w : Int)) hiv1) (fun k hk d hd => ?_) (fun d hd => ?_) (fun k hk => if_neg (by omega)) (if_pos rfl)) (fun k hk => ?_) (fun c hc => by rw [mu_ne _ _ hc, w1 c hc]; exact hJ2 c hc))
                  · show (mu J3 187 (25 + ρ) (nI h) 187 (5 * k + d)).toInt = (J 187 (5 * k + d)).toInt
                    rw [m1 _ (by omega), w2 _ (Or.inl (by omega)), z2 _ (Or.inl (by omega))]
                  · show (mu J3 187 (25 + ρ) (nI h) 187 (5 * ρ + d)).toInt = _
                    rw [m1 _ (by omega), w3 d hd]
                  · by_cases e : k = ρ
                    · subst e
                      rw [if_pos rfl, mu_at]
                    · rw [if_neg e, m1 _ (by omega), w2 _ (Or.inr (by omega)), z2 _ (Or.inr (by omega))]
                      exact hH k (by omega)
              have powl : ∀ K k iv bs : Nat, k ≤ K → k < 2 ^ 31 → iv < q → bs < q → iv * bs ^ k % q = a0 ^ (q - 2) % q → V 258 (LVr a ρ (i + 1) (nL q) ++ [(8, .int (nI (5 * ρ))), (9, .int (nI h)), (10, .long (nL iv)), (12, .long (nL bs)), (14, .long (nL k))]) [] J2 L := by
                intro K
                induction K with
                | zero =>
                  intro k iv bs hk hk31 hiv hbs hpw
                  have k0 : k = 0 := by omega
                  subst k0
                  rw [Nat.pow_zero, Nat.mul_one, Nat.mod_eq_of_lt hiv] at hpw
                  exact fin iv bs hiv hpw
                | succ K ihK =>
                  intro k iv bs hk hk31 hiv hbs hpw
                  by_cases k0 : k = 0
                  · subst k0
                    rw [Nat.pow_zero, Nat.mul_one, Nat.mod_eq_of_lt hiv] at hpw
                    exact fin iv bs hiv hpw
                  · have hk0 : 0 < nL k := Classical.byContradiction (fun z => k0 ((nL_lt0 (by omega)).mp z))
                    have hib : iv * bs < 2 ^ 62 := lt_62 hiv hbs hq31
                    have hbb : bs * bs < 2 ^ 62 := lt_62 hbs hbs hq31
                    have e2 : nL k - nL k / 2 * 2 = nL (k % 2) := nL_rem (y := 2) (by omega) (by decide)
                    have e3 : nL k / 2 = nL (k / 2) := nL_div (y := 2) (by omega) (by decide)
                    have e4 : nL bs * nL bs - nL bs * nL bs / nL q * nL q = nL (bs * bs % q) := by rw [nL_mul]; exact nL_rem (by omega) (by omega)
                    have e5 : nL iv * nL bs - nL iv * nL bs / nL q * nL q = nL (iv * bs % q) := by rw [nL_mul]; exact nL_rem (by omega) (by omega)
                    have q0 : 0 < q := by omega
                    obtain ⟨p1, p2⟩ := pw_step (iv := iv) (bs := bs) (q := q) (k := k)
                    by_cases hk2 : k % 2 = 1
                    · refine ru_go hV 28 [(0, 0), (0, 0)] rfl rfl ⟨⟨⟨⟨⟨⟨trivial, (fun z => lgc_le.mp z hk0)⟩, (by decide)⟩, (fun z => z ((lg_cmp0 _ _).mpr (by rw [e2, hk2]; rfl)))⟩, hq0⟩, hq0⟩, (by decide)⟩ ?_
                      rw [e3, e4, e5]
                      exact ihK (k / 2) (iv * bs % q) (bs * bs % q) (by omega) (by omega) (Nat.mod_lt _ q0) (Nat.mod_lt _ q0) ((p1 hk2).trans hpw)
                    · refine ru_go hV 23 [(0, 0), (1, 0)] rfl rfl ⟨⟨⟨⟨⟨trivial, (fun z => lgc_le.mp z hk0)⟩, (by decide)⟩, (fun z => by have e6 := (lg_cmp0 _ _).mp z; rw [e2] at e6; exact hk2 (nL_inj (b := 1) (by omega) (by decide) e6))⟩, hq0⟩, (by decide)⟩ ?_
                      rw [e3, e4]
                      exact ihK (k / 2) iv (bs * bs % q) (by omega) (by omega) hiv (Nat.mod_lt _ q0) ((p2 (by omega)).trans hpw)
              refine powl (q - 2) (q - 2) 1 a0 (Nat.le_refl _) (by omega) (by omega) (by omega) (by rw [Nat.one_mul])
          · intro hz
            refine ru_go hV 7 [(1, 0), (0, 0)] rfl rfl ⟨⟨trivial, (by decide)⟩, (fun z => z rfl)⟩ ?_
            exact ru_sub hV [0, 1, 2, 3, 4, 5, 6] rfl (c361 J2 ρ hd ((hK.zero z3 (fun d hd => hz d hd)).cong (fun k hk d hd => by rw [z2 _ (Or.inl (by omega))]) (fun _ _ => rfl) hn) (fun k hk => by rw [z2 _ (Or.inr (by omega))]; exact hH k hk) hJ2)
  · intro J ρ hd hK hH hJ
    have j188 : J 188 0 = nI n := by rw [hJ 188 (by decide)]; exact hdim
    rw [show 2 ^ n - 1 + 1 = 2 ^ n by omega] at hK ⊢
    refine ru_go hV 2 [] rfl rfl trivial ?_
    refine ru_S hV [.int (nI (2^n))] sSL_8 (qL_all l hn j188 L) rfl rfl rfl (Nat.le_of_ble_eq_true rfl) ?_
    refine ru_fin hV 3 [(1, 0)] rfl rfl ⟨trivial, nI_le (Nat.le_refl _) hB2⟩ ?_
    exact ⟨some (.int (nI ρ)), rfl, ρ, _, hd, 2 ^ n, rfl, hK, Or.inr rfl, hJ, rfl, Nat.le_refl _⟩
