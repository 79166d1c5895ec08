/-! the reference: lines, solving -/
/-- the lines' numbers -/
def lnL (L : LM) (A : VM) : LM := fun a j => if a = 10 ∧ j < 160 then A (j / 5) (j % 5) else L a j
theorem ln_at {L : LM} {A : VM} {k d : Nat} (hk : k < 32) (hd : d < 5) : lnL L A 10 (5 * k + d) = A k d := by
  unfold lnL
  rw [if_pos ⟨rfl, by omega⟩, show (5 * k + d) / 5 = k by omega, show (5 * k + d) % 5 = d by omega]
theorem ln_o {L : LM} {A : VM} {a : Nat} (h : a ≠ 10) : lnL L A a = L a := by funext j; simp [lnL, h]
theorem ln_id {L : LM} : lnL L (fun k d => L 10 (5 * k + d)) = L := by
  funext a j
  unfold lnL
  by_cases h : a = 10 ∧ j < 160
  · rw [if_pos h]
    show L 10 (5 * (j / 5) + j % 5) = L a j
    rw [show 5 * (j / 5) + j % 5 = j by omega, h.1]
  · rw [if_neg h]
theorem ln_mu {L : LM} {A : VM} {k d : Nat} {x : Int64} (hk : k < 32) (hd : d < 5) : mu (lnL L A) 10 (5 * k + d) x = lnL L (mu A k d x) := by
  funext a j
  unfold lnL
  simp only [mu]
  by_cases h : a = 10 ∧ j = 5 * k + d
  · obtain ⟨rfl, rfl⟩ := h
    rw [if_pos ⟨rfl, rfl⟩, if_pos ⟨rfl, by omega⟩, if_pos (by omega)]
  · rw [if_neg h]
    by_cases h2 : a = 10 ∧ j < 160
    · rw [if_pos h2, if_pos h2, if_neg (by omega)]
    · rw [if_neg h2, if_neg h2]
theorem ln_cong {L : LM} {A B : VM} (h : ∀ k, k < 32 → ∀ d, d < 5 → A k d = B k d) : lnL L A = lnL L B := by
  funext a j
  unfold lnL
  by_cases h2 : a = 10 ∧ j < 160
  · rw [if_pos h2, if_pos h2, h _ (by omega) _ (by omega)]
  · rw [if_neg h2, if_neg h2]
theorem ln_mm {L : LM} {A : VM} {a j : Nat} {x : Int64} (h : a ≠ 10) : mu (lnL L A) a j x = lnL (mu L a j x) A := by
  funext b k
  unfold lnL
  simp only [mu]
  by_cases h1 : b = a ∧ k = j
  · rw [if_pos h1, if_neg (by omega), if_pos h1]
  · rw [if_neg h1]
    by_cases h2 : b = 10 ∧ k < 160
    · rw [if_pos h2, if_pos h2]
    · rw [if_neg h2, if_neg h2, if_neg h1]
/-- the lines of a form -/
def lnF (f : Nat → Int32) (n k d : Nat) : Int64 := if k < 2 ^ n ∧ k.testBit d = true then sg (odT (2 ^ d) (k ^^^ 2 ^ d)) (f (k ^^^ 2 ^ d)).toInt64 else 0
theorem qX8_layLines (l : Launch) {s n : Nat} (hs : s < 8) (hn : n ≤ 5) {I : IM} (hd : I 1 0 = nI n) (L : LM) : KX8_layLines l [.ref 0, .int (nI s)] I L none I (lnL L (lnF (frR I s) n)) := by
  obtain ⟨hB, -⟩ := pow_le32 n hn
  have hbl : ∀ M : LM, KX8_blades l [.ref 0] I M (some (.int (nI (2 ^ n)))) I M := fun M => qX8_blades l hn hd M
  refine wX8_layLines l rfl (hz0 (by decide)) (fun V hV => ?_)
  generalize hF : lnF (frR I s) n = F at hV
  refine ru_go hV 2 [] rfl rfl trivial ?_
  refine loop0 (P := fun k => V 2 [(0, .ref 0), (1, .int (nI s)), (2, .int (nI k))] [] I (lnL L (fun a d => if a < k then F a d else L 10 (5 * a + d)))) 32 (fun h => ?_) (fun k hk ih => ?_) ?_
  · rw [ln_cong (B := fun a d => L 10 (5 * a + d)) (fun a _ d _ => if_neg (by omega)), ln_id] at h
    exact h
  · refine ru_go hV 5 [(0, 0)] rfl rfl ⟨trivial, nI32_ge hk⟩ ?_
    refine loop0 (P := fun D => V 10 [(0, .ref 0), (1, .int (nI s)), (2, .int (nI k)), (3, .int (nI D))] [] I (lnL L (fun a d => if a < k ∨ (a = k ∧ d < D) then F a d else L 10 (5 * a + d)))) 5 (fun h => ?_) (fun D hD ih2 => ?_) ?_
    · rw [ln_cong (B := fun a d => if a < k then F a d else L 10 (5 * a + d)) (fun a _ d _ => ?_)] at h
      · exact h
      · by_cases e : a < k
        · rw [if_pos (Or.inl e), if_pos e]
        · rw [if_neg (by omega), if_neg e]
    · have up : ∀ M x, x = F k D → mu (lnL L (fun a d => if a < k ∨ (a = k ∧ d < D) then F a d else L 10 (5 * a + d))) 10 (5 * k + D) x = M → M = lnL L (fun a d => if a < k ∨ (a = k ∧ d < D + 1) then F a d else L 10 (5 * a + d)) := by
        intro M x hx hM
        rw [← hM, ln_mu hk hD]
        refine ln_cong (fun a _ d _ => ?_)
        simp only [mu]
        by_cases e : a = k ∧ d = D
        · obtain ⟨rfl, rfl⟩ := e
          rw [if_pos ⟨rfl, rfl⟩, if_pos (by omega), hx]
        · rw [if_neg e]
          by_cases e2 : a < k ∨ (a = k ∧ d < D)
          · rw [if_pos e2, if_pos (by omega)]
          · rw [if_neg e2, if_neg (by omega)]
      generalize lnL L (fun a d => if a < k ∨ (a = k ∧ d < D) then F a d else L 10 (5 * a + d)) = M at up ⊢
      have hp := pow2_lt D hD
      have esh := bl_sh D (by omega)
      have hb := bt_01 k hk D hD
      have zero : F k D = 0 → V 37 [(0, .ref 0), (1, .int (nI s)), (2, .int (nI k)), (3, .int (nI D))] [.int 0] I M := fun hz => by
        refine ru_go hV 22 [(10, 0), (1, 0), ((5*k+D), 160)] rfl rfl ⟨⟨⟨trivial, (by first | exact rfl | assumption | exact ⟨rfl, rfl⟩ | exact ⟨rfl, rfl, by omega⟩ | exact ⟨by assumption, rfl, by omega⟩ | exact ⟨⟨_, rfl, rfl⟩, by decide, by decide, rfl, by omega⟩ | omega | decide)⟩, rfl⟩, ⟨rfl, ix_ln k D, by omega⟩⟩ ?_
        rw [nI_1, up _ 0 hz.symm rfl]
        exact ru_sub hV [0, 1, 2, 3] rfl ih2
      refine ru_go hV 5 [(0, 0)] rfl rfl ⟨trivial, nI5_ge hD⟩ ?_
      refine ru_V hV [.int (nI k)] sVX8_58 (hbl _) rfl rfl rfl rfl rfl (Nat.le_of_ble_eq_true rfl) ?_
      by_cases h1 : k < 2 ^ n
      · by_cases h2 : k.testBit D = true
        · rw [if_pos h2] at hb
          have hx := xor_lt k hk (2 ^ D) hp
          refine ru_go hV 18 [(0, 0), (0, 0)] rfl rfl ⟨⟨trivial, nI_nge h1 (by omega)⟩, (fun e => e hb)⟩ ?_
          rw [bnot_2 D hD k hk h2]
          refine ru_go hV 13 [(10, 0), (0, 0)] rfl rfl ⟨⟨trivial, (by first | exact rfl | assumption | exact ⟨rfl, rfl⟩ | exact ⟨rfl, rfl, by omega⟩ | exact ⟨by assumption, rfl, by omega⟩ | exact ⟨⟨_, rfl, rfl⟩, by decide, by decide, rfl, by omega⟩ | omega | decide)⟩, (by decide)⟩ ?_
          refine ru_V hV [.int (5 * nI k + nI D), .ref 10] sVX8_88 (qX8_at l hs hx I _) rfl rfl rfl rfl rfl (Nat.le_of_ble_eq_true rfl) ?_
          refine ru_go hV 5 [] rfl rfl trivial ?_
          rw [esh]
          refine ru_S hV [.long _, .int (5 * nI k + nI D), .ref 10] sSX8_91 (qX8_way l hp hx I _) rfl rfl rfl (Nat.le_of_ble_eq_true rfl) ?_
          refine ru_go hV 6 [((5*k+D), 160)] rfl rfl ⟨trivial, ⟨rfl, ix_ln k D, by omega⟩⟩ ?_
          rw [nI_1, wy_sg, up _ _ (by rw [← hF, lnF, if_pos ⟨h1, h2⟩]) rfl]
          exact ru_sub hV [0, 1, 2, 3] rfl ih2
        · rw [if_neg h2] at hb
          refine ru_go hV 9 [(0, 0), (1, 0)] rfl rfl ⟨⟨trivial, nI_nge h1 (by omega)⟩, (by rw [hb]; decide)⟩ ?_
          exact zero (by rw [← hF, lnF, if_neg (fun e => h2 e.2)])
      · refine ru_go hV 2 [(1, 0)] rfl rfl ⟨trivial, nI_le (by omega) (by omega)⟩ ?_
        exact zero (by rw [← hF, lnF, if_neg (fun e => h1 e.1)])
    · rw [ln_cong (B := fun a d => if a < k + 1 then F a d else L 10 (5 * a + d)) (fun a _ d _ => ?_)]
      · refine ru_go hV 5 [(1, 0)] rfl rfl ⟨trivial, (by first | exact rfl | assumption | exact ⟨rfl, rfl⟩ | exact ⟨rfl, rfl, by omega⟩ | exact ⟨by assumption, rfl, by omega⟩ | exact ⟨⟨_, rfl, rfl⟩, by decide, by decide, rfl, by omega⟩ | omega | decide)⟩ ?_
        rw [nI_1]
        exact ru_sub hV [0, 1, 2] rfl ih
      · by_cases e : a < k + 1
        · rw [if_pos (by omega), if_pos e]
        · rw [if_neg (by omega), if_neg e]
  · refine ru_fin hV 4 [(1, 0)] rfl rfl ⟨trivial, (by first | exact rfl | assumption | exact ⟨rfl, rfl⟩ | exact ⟨rfl, rfl, by omega⟩ | exact ⟨by assumption, rfl, by omega⟩ | exact ⟨⟨_, rfl, rfl⟩, by decide, by decide, rfl, by omega⟩ | omega | decide)⟩ ?_
    refine ⟨rfl, rfl, ln_cong (fun a ha d _ => if_pos ha)⟩
/-- two lines exchanged -/
def xcA (A : VM) (a b : Nat) : VM := fun k d => if k = b then A a d else if k = a then A b d else A k d
theorem qX8_exchange (l : Launch) {a b : Nat} (ha : a < 32) (hb : b < 32) (I : IM) (L : LM) (A : VM) : KX8_exchange l [.ref 0, .int (nI a), .int (nI b)] I (lnL L A) none I (lnL L (xcA A a b)) := by
  refine wX8_exchange l rfl (hz0 (by decide)) (fun V hV => ?_)
  refine ru_go hV 2 [] rfl rfl trivial ?_
  refine loop0 (P := fun D => V 2 [(0, .ref 0), (1, .int (nI a)), (2, .int (nI b)), (3, .int (nI D))] [] I (lnL L (fun k d => if d < D then xcA A a b k d else A k d))) 5 (fun h => ?_) (fun D hD ih => ?_) ?_
  · rw [ln_cong (B := A) (fun k _ d _ => if_neg (by omega))] at h
    exact h
  · have r1 : lnL L (fun k d => if d < D then xcA A a b k d else A k d) 10 (5 * a + D) = A a D := by rw [ln_at ha hD, if_neg (by omega)]
    have r2 : lnL L (fun k d => if d < D then xcA A a b k d else A k d) 10 (5 * b + D) = A b D := by rw [ln_at hb hD, if_neg (by omega)]
    have up : mu (mu (lnL L (fun k d => if d < D then xcA A a b k d else A k d)) 10 (5 * a + D) (A b D)) 10 (5 * b + D) (A a D) = lnL L (fun k d => if d < D + 1 then xcA A a b k d else A k d) := by
      rw [ln_mu ha hD, ln_mu hb hD]
      refine ln_cong (fun k _ d _ => ?_)
      simp only [mu, xcA]
      by_cases e : d = D
      · subst e
        by_cases e1 : k = b
        · simp [e1]
        · by_cases e2 : k = a
          · simp [e1, e2]
          · simp [e1, e2]
      · by_cases e2 : d < D
        · simp [e, e2, show d < D + 1 by omega]
        · simp [e, e2, show ¬ d < D + 1 by omega]
    generalize lnL L (fun k d => if d < D then xcA A a b k d else A k d) = M at r1 r2 up ⊢
    refine ru_go hV 39 [(0, 0), (10, 0), ((5*a+D), 160), (10, 0), (10, 0), ((5*b+D), 160), ((5*a+D), 160), (10, 0), ((5*b+D), 160)] rfl rfl ⟨⟨⟨⟨⟨⟨⟨⟨⟨trivial, nI5_ge hD⟩, (by first | exact rfl | assumption | exact ⟨rfl, rfl⟩ | exact ⟨rfl, rfl, by omega⟩ | exact ⟨by assumption, rfl, by omega⟩ | exact ⟨⟨_, rfl, rfl⟩, by decide, by decide, rfl, by omega⟩ | omega | decide)⟩, ⟨rfl, ix_ln a D, by omega⟩⟩, (by first | exact rfl | assumption | exact ⟨rfl, rfl⟩ | exact ⟨rfl, rfl, by omega⟩ | exact ⟨by assumption, rfl, by omega⟩ | exact ⟨⟨_, rfl, rfl⟩, by decide, by decide, rfl, by omega⟩ | omega | decide)⟩, (by first | exact rfl | assumption | exact ⟨rfl, rfl⟩ | exact ⟨rfl, rfl, by omega⟩ | exact ⟨by assumption, rfl, by omega⟩ | exact ⟨⟨_, rfl, rfl⟩, by decide, by decide, rfl, by omega⟩ | omega | decide)⟩, ⟨rfl, ix_ln b D, by omega⟩⟩, ⟨rfl, ix_ln a D, by omega⟩⟩, (by first | exact rfl | assumption | exact ⟨rfl, rfl⟩ | exact ⟨rfl, rfl, by omega⟩ | exact ⟨by assumption, rfl, by omega⟩ | exact ⟨⟨_, rfl, rfl⟩, by decide, by decide, rfl, by omega⟩ | omega | decide)⟩, ⟨rfl, ix_ln b D, by omega⟩⟩ ?_
    rw [nI_1, r1, r2, up]
    exact ru_sub hV [0, 1, 2, 3] rfl ih
  · refine ru_fin hV 4 [(1, 0)] rfl rfl ⟨trivial, (by first | exact rfl | assumption | exact ⟨rfl, rfl⟩ | exact ⟨rfl, rfl, by omega⟩ | exact ⟨by assumption, rfl, by omega⟩ | exact ⟨⟨_, rfl, rfl⟩, by decide, by decide, rfl, by omega⟩ | omega | decide)⟩ ?_
    exact ⟨rfl, rfl, ln_cong (fun k _ d hd => if_pos hd)⟩
/-- a column cleared by the line pv -/
def ccA (A : VM) (pv c : Nat) (b : Int64) : VM := fun k d => if k = pv then A k d else (A pv c * A k d - A k c * A pv d) / b
theorem qX8_clearColumn (l : Launch) {c pv : Nat} {b : Int64} (hc : c < 5) (hpv : pv < 32) (hb : b ≠ 0) {I : IM} (hI : I 0 21 = nI pv) (L : LM) (A : VM) : KX8_clearColumn l [.ref 0, .int (nI c), .long b] I (lnL L A) none I (mu (lnL L (ccA A pv c b)) 0 22 (A pv c)) := by
  refine wX8_clearColumn l rfl (hz0 (by decide)) (fun V hV => ?_)
  refine ru_go hV 12 [(10, 0), ((5*pv+c), 160)] rfl rfl ⟨⟨⟨trivial, (by first | exact rfl | assumption | exact ⟨rfl, rfl⟩ | exact ⟨rfl, rfl, by omega⟩ | exact ⟨by assumption, rfl, by omega⟩ | exact ⟨⟨_, rfl, rfl⟩, by decide, by decide, rfl, by omega⟩ | omega | decide)⟩, (by first | exact rfl | assumption | exact ⟨rfl, rfl⟩ | exact ⟨rfl, rfl, by omega⟩ | exact ⟨by assumption, rfl, by omega⟩ | exact ⟨⟨_, rfl, rfl⟩, by decide, by decide, rfl, by omega⟩ | omega | decide)⟩, ⟨rfl, by rw [hI]; exact ix_ln pv c, by omega⟩⟩ ?_
  rw [ln_at hpv hc]
  refine loop0 (P := fun k => V 18 [(0, .ref 0), (1, .int (nI c)), (2, .long b), (4, .long (A pv c)), (6, .int (nI k))] [] I (lnL L (fun a d => if a < k then ccA A pv c b a d else A a d))) 32 (fun h => ?_) (fun k hk ih => ?_) ?_
  · rw [ln_cong (B := A) (fun k _ d _ => if_neg (by omega))] at h
    exact h
  · refine ru_go hV 14 [(0, 0), (10, 0), ((5*k+c), 160)] rfl rfl ⟨⟨⟨trivial, nI32_ge hk⟩, (by first | exact rfl | assumption | exact ⟨rfl, rfl⟩ | exact ⟨rfl, rfl, by omega⟩ | exact ⟨by assumption, rfl, by omega⟩ | exact ⟨⟨_, rfl, rfl⟩, by decide, by decide, rfl, by omega⟩ | omega | decide)⟩, ⟨rfl, ix_ln k c, by omega⟩⟩ ?_
    rw [ln_at hk hc, if_neg (Nat.lt_irrefl k)]
    by_cases e : k = pv
    · refine ru_go hV 9 [(0, 0), (1, 0)] rfl rfl ⟨⟨⟨trivial, (by decide)⟩, (by first | exact rfl | assumption | exact ⟨rfl, rfl⟩ | exact ⟨rfl, rfl, by omega⟩ | exact ⟨by assumption, rfl, by omega⟩ | exact ⟨⟨_, rfl, rfl⟩, by decide, by decide, rfl, by omega⟩ | omega | decide)⟩, (by rw [hI, e])⟩ ?_
      rw [nI_1]
      rw [ln_cong (B := fun a d => if a < k then ccA A pv c b a d else A a d) (fun a _ d _ => ?_)] at ih
      · exact ru_sub hV [0, 1, 2, 3, 4] rfl ih
      · by_cases e2 : a < k
        · rw [if_pos e2, if_pos (by omega)]
        · rw [if_neg e2]
          by_cases e3 : a < k + 1
          · rw [if_pos e3, ccA, if_pos (by omega)]
          · rw [if_neg e3]
    · refine loop0 (P := fun D => V 41 [(0, .ref 0), (1, .int (nI c)), (2, .long b), (4, .long (A pv c)), (6, .int (nI k)), (7, .long (A k c)), (9, .int (nI D))] [] I (lnL L (fun a d => if a < k ∨ (a = k ∧ d < D) then ccA A pv c b a d else A a d))) 5 (fun h => ?_) (fun D hD ih2 => ?_) ?_
      · rw [ln_cong (B := fun a d => if a < k then ccA A pv c b a d else A a d) (fun a _ d _ => ?_)] at h
        · exact h
        · by_cases e : a < k
          · rw [if_pos (Or.inl e), if_pos e]
          · rw [if_neg (by omega), if_neg e]
      · have r1 : lnL L (fun a d => if a < k ∨ (a = k ∧ d < D) then ccA A pv c b a d else A a d) 10 (5 * k + D) = A k D := by rw [ln_at hk hD, if_neg (by omega)]
        have r2 : lnL L (fun a d => if a < k ∨ (a = k ∧ d < D) then ccA A pv c b a d else A a d) 10 (5 * pv + D) = A pv D := by
          rw [ln_at hpv hD]
          by_cases e2 : pv < k ∨ (pv = k ∧ D < D)
          · rw [if_pos e2, ccA, if_pos rfl]
          · rw [if_neg e2]
        have up : mu (lnL L (fun a d => if a < k ∨ (a = k ∧ d < D) then ccA A pv c b a d else A a d)) 10 (5 * k + D) ((A pv c * A k D - A k c * A pv D) / b) = lnL L (fun a d => if a < k ∨ (a = k ∧ d < D + 1) then ccA A pv c b a d else A a d) := by
          rw [ln_mu hk hD]
          refine ln_cong (fun a _ d _ => ?_)
          simp only [mu]
          by_cases e3 : a = k ∧ d = D
          · obtain ⟨rfl, rfl⟩ := e3
            rw [if_pos ⟨rfl, rfl⟩, if_pos (by omega), ccA, if_neg e]
          · rw [if_neg e3]
            by_cases e2 : a < k ∨ (a = k ∧ d < D)
            · rw [if_pos e2, if_pos (by omega)]
            · rw [if_neg e2, if_neg (by omega)]
        generalize lnL L (fun a d => if a < k ∨ (a = k ∧ d < D) then ccA A pv c b a d else A a d) = M at r1 r2 up ⊢
        refine ru_go hV 41 [(0, 0), (0, 0), (10, 0), (10, 0), ((5*k+D), 160), (10, 0), ((5*pv+D), 160), ((5*k+D), 160)] rfl rfl ⟨⟨⟨⟨⟨⟨⟨⟨⟨⟨⟨trivial, nI5_ge hD⟩, (by first | exact rfl | assumption | exact ⟨rfl, rfl⟩ | exact ⟨rfl, rfl, by omega⟩ | exact ⟨by assumption, rfl, by omega⟩ | exact ⟨⟨_, rfl, rfl⟩, by decide, by decide, rfl, by omega⟩ | omega | decide)⟩, (by rw [hI]; exact fun z => e (nI_inj (by omega) (by omega) z))⟩, (by first | exact rfl | assumption | exact ⟨rfl, rfl⟩ | exact ⟨rfl, rfl, by omega⟩ | exact ⟨by assumption, rfl, by omega⟩ | exact ⟨⟨_, rfl, rfl⟩, by decide, by decide, rfl, by omega⟩ | omega | decide)⟩, (by first | exact rfl | assumption | exact ⟨rfl, rfl⟩ | exact ⟨rfl, rfl, by omega⟩ | exact ⟨by assumption, rfl, by omega⟩ | exact ⟨⟨_, rfl, rfl⟩, by decide, by decide, rfl, by omega⟩ | omega | decide)⟩, ⟨rfl, ix_ln k D, by omega⟩⟩, (by first | exact rfl | assumption | exact ⟨rfl, rfl⟩ | exact ⟨rfl, rfl, by omega⟩ | exact ⟨by assumption, rfl, by omega⟩ | exact ⟨⟨_, rfl, rfl⟩, by decide, by decide, rfl, by omega⟩ | omega | decide)⟩, (by first | exact rfl | assumption | exact ⟨rfl, rfl⟩ | exact ⟨rfl, rfl, by omega⟩ | exact ⟨by assumption, rfl, by omega⟩ | exact ⟨⟨_, rfl, rfl⟩, by decide, by decide, rfl, by omega⟩ | omega | decide)⟩, ⟨rfl, by rw [hI]; exact ix_ln pv D, by omega⟩⟩, hb⟩, ⟨rfl, ix_ln k D, by omega⟩⟩ ?_
        rw [nI_1, r1, r2, up]
        exact ih2
      · rw [ln_cong (B := fun a d => if a < k + 1 then ccA A pv c b a d else A a d) (fun a _ d _ => ?_)]
        · refine ru_go hV 5 [(1, 0)] rfl rfl ⟨trivial, (by first | exact rfl | assumption | exact ⟨rfl, rfl⟩ | exact ⟨rfl, rfl, by omega⟩ | exact ⟨by assumption, rfl, by omega⟩ | exact ⟨⟨_, rfl, rfl⟩, by decide, by decide, rfl, by omega⟩ | omega | decide)⟩ ?_
          rw [nI_1]
          exact ru_sub hV [0, 1, 2, 3, 4] rfl ih
        · by_cases e : a < k + 1
          · rw [if_pos (by omega), if_pos e]
          · rw [if_neg (by omega), if_neg e]
  · rw [ln_cong (B := ccA A pv c b) (fun a ha d _ => if_pos ha)]
    refine ru_fin hV 7 [(1, 0)] rfl rfl ⟨⟨trivial, (by first | exact rfl | assumption | exact ⟨rfl, rfl⟩ | exact ⟨rfl, rfl, by omega⟩ | exact ⟨by assumption, rfl, by omega⟩ | exact ⟨⟨_, rfl, rfl⟩, by decide, by decide, rfl, by omega⟩ | omega | decide)⟩, (by first | exact rfl | assumption | exact ⟨rfl, rfl⟩ | exact ⟨rfl, rfl, by omega⟩ | exact ⟨by assumption, rfl, by omega⟩ | exact ⟨⟨_, rfl, rfl⟩, by decide, by decide, rfl, by omega⟩ | omega | decide)⟩ ?_
    exact ⟨rfl, rfl, rfl⟩
