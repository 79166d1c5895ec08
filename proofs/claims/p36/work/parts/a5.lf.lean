/-! THE LAW'S test for a decomposable form -/
theorem vcF_skip {u : Nat → Int64} {e q : Nat} (h : u e = 0) : vcF u (e + 1) q = vcF u e q := by
  rw [vcF]
  by_cases hq : q = 2 ^ e
  · subst hq
    rw [if_pos rfl, h, vcF_z e (fun r hr z => by have := pow2_inj z; omega)]
  · rw [if_neg hq]
def ptU (F : Nat → Int64) (i k : Nat) : Int64 := if i.testBit k then 0 else F (i ||| 2 ^ k) * (odI i (2 ^ k)).toInt64
def pnL (F : Nat → Int64) (n i : Nat) : Bool := decide (pc5 i + 1 = lwL F 32) && !(decide (cnL (wdg F (vcF (ptU F i) n) (2 ^ n)) 32 = 0))
theorem cnL_cong {f g : Nat → Int64} : ∀ {k : Nat}, (∀ j, j < k → f j = g j) → cnL f k = cnL g k
  | 0, _ => rfl
  | k + 1, h => by rw [cnL, cnL, cnL_cong (fun j hj => h j (Nat.lt_succ_of_lt hj)), h k (Nat.lt_succ_self k)]
theorem cnL_le (f : Nat → Int64) : ∀ k, cnL f k ≤ k
  | 0 => Nat.le_refl 0
  | k + 1 => by
    rw [cnL]
    have := cnL_le f k
    split <;> omega
theorem wdg_cong {f f' g g' : Nat → Int64} {B k : Nat} (hB : B ≤ 32) (hf : ∀ q, q < 32 → f q = f' q) (hg : ∀ q, q < 32 → g q = g' q) : wdg f g B k = wdg f' g' B k := sumL_cong (fun i hi => by
  unfold wJ
  by_cases h : i &&& k = i ∧ k ^^^ i < B
  · rw [if_pos h, if_pos h, hf i (by omega), hg _ (by omega)]
  · rw [if_neg h, if_neg h])
set_option maxRecDepth 100000 in
theorem qL_pure (l : Launch) {a n : Nat} (ha : a + 32 ≤ 64) (hn : n ≤ 5) {I : IM} (hd : I 188 0 = nI n) (L : LM) : ∃ I2 L2, (I2 = I ∧ KpL [184, 185] L L2) ∧ KL_pure l [.ref 181, .int (nI a), .ref 184, .ref 185, .ref 188] I L (some (.int (b2i (fsO (pnL (fun q => L 181 (a + q)) n) (2 ^ n)).isNone))) I2 L2 := by
  obtain ⟨hB, hB0⟩ := pow_le32 n hn
  have hB2 : 2 ^ n < 2 ^ 31 := by omega
  have hbl : ∀ M : LM, KL_all l [.ref 188] I M (some (.int (nI (2 ^ n)))) I M := fun M => qL_all l hn hd M
  have h9 := lwL_le (fun q => L 181 (a + q)) 32
  have hlow := qL_low l ha I L
  generalize hF : (fun q => L 181 (a + q)) = F at h9 hlow ⊢
  refine ru_pos1 (fun V hV => ?_) (fun I2 L2 h => wL_pure l rfl (fun _ x hx => by cases hx; exact b2i_01 _) h)
  refine ru_go hV 2 [] rfl rfl trivial ?_
  refine ru_S hV [] sSL_93 hlow rfl rfl rfl (Nat.le_of_ble_eq_true rfl) ?_
  generalize hg : lwL F 32 = g at h9
  refine ru_go hV 3 [] rfl rfl trivial ?_
  refine loop0 (P := fun i => ∀ Lx : LM, KpL [184, 185] L Lx → (∀ j, j < i → pnL F n j = false) → V 10 [(0, .ref 181), (1, .int (nI a)), (2, .ref 184), (3, .ref 185), (4, .ref 188), (5, .int (nI g)), (6, .int (nI i))] [] I Lx) (2 ^ n) (fun h => h L (KpL.rf _ L) (fun j hj => absurd hj (Nat.not_lt_zero j))) (fun i hi ih => ?_) ?_
  · intro Lx x1 x2
    have hi32 : i < 32 := by omega
    have h5 := pc5_le i
    have next : ∀ Ly : LM, KpL [184, 185] L Ly → pnL F n i = false → V 137 [(0, .ref 181), (1, .int (nI a)), (2, .ref 184), (3, .ref 185), (4, .ref 188), (5, .int (nI g)), (6, .int (nI i))] [] I Ly := fun Ly y1 y2 => by
      refine ru_go hV 2 [] rfl rfl trivial ?_
      rw [nI_1]
      refine ih Ly y1 (fun j hj => ?_)
      by_cases e : j = i
      · subst e; exact y2
      · exact x2 j (by omega)
    refine ru_go hV 2 [] rfl rfl trivial ?_
    refine ru_S hV [.int (nI i)] sSL_8 (hbl _) rfl rfl rfl (Nat.le_of_ble_eq_true rfl) ?_
    by_cases hg0 : g = 0
    · have none : fsO (pnL F n) (2 ^ n) = none := fsO_none (fun j _ => by unfold pnL; rw [hg, hg0]; simp)
      subst hg0
      refine ru_fin hV 5 [(0, 0), (1, 0)] rfl rfl ⟨⟨trivial, nI_nge hi hB2⟩, (by decide)⟩ ?_
      exact ⟨by rw [none]; rfl, rfl, x1⟩
    · refine ru_go hV 4 [(0, 0), (0, 0)] rfl rfl ⟨⟨trivial, nI_nge hi hB2⟩, nI_nle (by omega) (by omega)⟩ ?_
      refine ru_S hV [] sSL_38 (qL_grade l hi32 I _) rfl rfl rfl (Nat.le_of_ble_eq_true rfl) ?_
      have eg : nI g - 1 = nI (g - 1) := bB_sub (by omega)
      by_cases hgi : pc5 i = g - 1
      · refine ru_go hV 6 [(1, 0)] rfl rfl ⟨trivial, (by rw [eg, hgi])⟩ ?_
        refine loop0 (P := fun k => V 43 [(0, .ref 181), (1, .int (nI a)), (2, .ref 184), (3, .ref 185), (4, .ref 188), (5, .int (nI g)), (6, .int (nI i)), (7, .int (nI k))] [] I (lay Lx 184 k (fun _ => 0))) 32 (fun h => by rw [lay_0] at h; exact h) (fun k hk ihk => ?_) ?_
        · refine ru_go hV 9 [(0, 0), (k, 32)] rfl rfl ⟨⟨trivial, nI32_ge hk⟩, ⟨rfl, rfl, hk⟩⟩ ?_
          rw [nI_1, lay_up rfl]
          exact ihk
        · refine ru_go hV 5 [(1, 0)] rfl rfl ⟨trivial, (by decide)⟩ ?_
          have x181 : Lx 181 = L 181 := x1 181 (by decide)
          refine loop0 (P := fun e => V 64 [(0, .ref 181), (1, .int (nI a)), (2, .ref 184), (3, .ref 185), (4, .ref 188), (5, .int (nI g)), (6, .int (nI i)), (7, .int (nI e))] [] I (lay Lx 184 32 (vcF (ptU F i) e))) n (fun h => h) (fun e he ihe => ?_) ?_
          · have he4 : e < 5 := by omega
            have hp := pow2_lt e he4
            by_cases hb : i.testBit e = true
            · refine ru_go hV 13 [(0, 15), (0, 0), (1, 0)] rfl rfl ⟨⟨⟨trivial, (by first | exact rfl | assumption | exact ⟨rfl, rfl⟩ | exact ⟨rfl, rfl, by omega⟩ | exact ⟨by assumption, rfl, by omega⟩ | exact ⟨⟨_, rfl, rfl⟩, by decide, by decide, rfl, by omega⟩ | omega | decide)⟩, (by rw [hd]; exact nI_nge he (by omega))⟩, (fun z => by rw [(bit_ne0 i hi32 e he4).mp z] at hb; cases hb)⟩ ?_
              rw [nI_1]
              rw [show vcF (ptU F i) (e + 1) = vcF (ptU F i) e from funext (fun q => vcF_skip (by unfold ptU; rw [if_pos hb]))] at ihe
              exact ihe
            · have hor := or_lt i hi32 (2 ^ e) hp
              have esh := bl_sh e (by omega)
              refine ru_go hV 28 [(0, 15), (0, 0), (0, 0), ((a+(i|||2^e)), 64)] rfl rfl ⟨⟨⟨⟨trivial, (by first | exact rfl | assumption | exact ⟨rfl, rfl⟩ | exact ⟨rfl, rfl, by omega⟩ | exact ⟨by assumption, rfl, by omega⟩ | exact ⟨⟨_, rfl, rfl⟩, by decide, by decide, rfl, by omega⟩ | omega | decide)⟩, (by rw [hd]; exact nI_nge he (by omega))⟩, (fun z => z ((bit_ne0 i hi32 e he4).mpr (by simpa using hb)))⟩, ⟨rfl, by rw [esh, orI i hi32 _ hp]; exact nI_add a _, by omega⟩⟩ ?_
              rw [esh]
              refine ru_S hV [.long _, .int _, .ref 184] sSL_14 (qL_order l hi32 hp I _) rfl rfl rfl (Nat.le_of_ble_eq_true rfl) ?_
              refine ru_go hV 5 [((2^e), 32)] rfl rfl ⟨trivial, (by first | exact rfl | assumption | exact ⟨rfl, rfl⟩ | exact ⟨rfl, rfl, by omega⟩ | exact ⟨by assumption, rfl, by omega⟩ | exact ⟨⟨_, rfl, rfl⟩, by decide, by decide, rfl, by omega⟩ | omega | decide)⟩ ?_
              rw [nI_1, lay_ne (show 181 ≠ 184 by decide), x181, lay_mu hp]
              refine cast ?_ ihe
              refine congrArg (V 64 _ [] I) (lay_cong (fun q _ => ?_))
              rw [vcF]
              by_cases hq : q = 2 ^ e
              · rw [if_pos hq, if_pos hq]
                unfold ptU
                rw [if_neg hb, ← hF]
              · rw [if_neg hq, if_neg hq]
          · refine ru_go hV 11 [(0, 15), (1, 0)] rfl rfl ⟨⟨trivial, (by first | exact rfl | assumption | exact ⟨rfl, rfl⟩ | exact ⟨rfl, rfl, by omega⟩ | exact ⟨by assumption, rfl, by omega⟩ | exact ⟨⟨_, rfl, rfl⟩, by decide, by decide, rfl, by omega⟩ | omega | decide)⟩, (by rw [hd]; exact nI_le (Nat.le_refl n) (by omega))⟩ ?_
            refine ru_S hV [] sSL_22 (qL_wedge l (cf := 181) (cg := 184) (cr := 185) (a := a) (b := 0) (nf := 64) (ng := 32) rfl ha rfl (by decide) rfl (by decide) (by decide) hn hd _) rfl rfl rfl (Nat.le_of_ble_eq_true rfl) ?_
            generalize hLy : (lay (lay Lx 184 32 (vcF (ptU F i) n)) 185 32 _) = Ly
            have y1 : ∀ k, k < 32 → Ly 185 k = wdg F (vcF (ptU F i) n) (2 ^ n) k := fun k hk => by
              rw [← hLy, lay_in hk]
              refine wdg_cong hB (fun q hq => ?_) (fun q hq => ?_)
              · rw [lay_ne (show 181 ≠ 184 by decide), x181, ← hF]
              · rw [Nat.zero_add, lay_in hq]
            have y2 : KpL [184, 185] L Ly := by
              rw [← hLy]
              exact (x1.ly (by decide)).ly (by decide)
            have y3 : cnL (fun q => Ly 185 (0 + q)) 32 = cnL (wdg F (vcF (ptU F i) n) (2 ^ n)) 32 := cnL_cong (fun k hk => by rw [Nat.zero_add, y1 k hk])
            refine ru_go hV 2 [] rfl rfl trivial ?_
            refine ru_S hV [] sSL_85 (qL_many l (c := 185) (a := 0) (N := 32) rfl (by decide) I Ly) rfl rfl rfl (Nat.le_of_ble_eq_true rfl) ?_
            have c32 := cnL_le (fun q => Ly 185 (0 + q)) 32
            have epn : pnL F n i = !(decide (cnL (fun q => Ly 185 (0 + q)) 32 = 0)) := by
              unfold pnL
              rw [hg, y3, decide_eq_true (show pc5 i + 1 = g by omega), Bool.true_and]
            by_cases hc : cnL (fun q => Ly 185 (0 + q)) 32 = 0
            · refine ru_go hV 1 [(1, 0)] rfl rfl ⟨trivial, (by rw [hc]; decide)⟩ ?_
              exact ru_sub hV [0, 1, 2, 3, 4, 5, 6] rfl (next Ly y2 (by rw [epn, hc]; rfl))
            · have sm : fsO (pnL F n) (2 ^ n) = some i := fsO_some (by rw [epn, decide_eq_false hc]; rfl) x2 (2 ^ n) hi
              refine ru_fin hV 3 [(0, 0)] rfl rfl ⟨trivial, nI_nle (by omega) (by omega)⟩ ?_
              exact ⟨by rw [sm]; rfl, rfl, y2⟩
      · refine ru_go hV 5 [(0, 0)] rfl rfl ⟨trivial, (fun z => hgi (by rw [eg] at z; exact (nI_eq (by omega) (by omega)).mp z))⟩ ?_
        exact next Lx x1 (by unfold pnL; rw [hg, decide_eq_false (by omega)]; rfl)
  · intro Lx x1 x2
    have none : fsO (pnL F n) (2 ^ n) = none := fsO_none x2
    refine ru_go hV 2 [] rfl rfl trivial ?_
    refine ru_S hV [.int (nI (2^n))] sSL_8 (hbl _) rfl rfl rfl (Nat.le_of_ble_eq_true rfl) ?_
    refine ru_fin hV 3 [(1, 0)] rfl rfl ⟨trivial, nI_le (Nat.le_refl _) hB2⟩ ?_
    exact ⟨by rw [none]; rfl, rfl, x1⟩
