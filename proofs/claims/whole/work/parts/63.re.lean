/-! the reference: the annihilator -/
theorem fsO_nil {p : Nat → Bool} : ∀ {n : Nat}, fsO p n = none → ∀ j, j < n → p j = false
  | 0, _, _, hj => absurd hj (by omega)
  | n + 1, h, j, hj => by
    rw [show fsO p (n + 1) = (match fsO p n with
      | some q => some q
      | none => if p n = true then some n else none) from rfl] at h
    cases h2 : fsO p n with
    | some q => rw [h2] at h; cases h
    | none =>
      rw [h2] at h
      by_cases h3 : p n = true
      · simp [h3] at h
      · by_cases e : j = n
        · rw [e]; simpa using h3
        · exact fsO_nil h2 j (by omega)
theorem fsO_fst {p : Nat → Bool} : ∀ {n k : Nat}, fsO p n = some k → ∀ j, j < k → p j = false
  | 0, k, h, _, _ => by cases h
  | n + 1, k, h, j, hj => by
    rw [show fsO p (n + 1) = (match fsO p n with
      | some q => some q
      | none => if p n = true then some n else none) from rfl] at h
    cases h2 : fsO p n with
    | some q =>
      rw [h2] at h
      cases h
      exact fsO_fst h2 j hj
    | none =>
      rw [h2] at h
      by_cases h3 : p n = true
      · simp only [h3, if_true, Option.some.injEq] at h
        subst h
        exact fsO_nil h2 j hj
      · simp [h3] at h
/-- the state of the solving: lines, how many pivots, the last one, the line of each column's pivot -/
abbrev GS : Type := VM × Nat × Int64 × (Nat → Option Nat)
def rwF (A : VM) (c pv : Nat) : Option Nat := fsO (fun i => decide (A (pv + i) c ≠ 0)) (32 - pv)
def slC (c : Nat) (G : GS) : GS := match rwF G.1 c G.2.1 with
  | none => (G.1, G.2.1, G.2.2.1, fun j => if j = c then none else G.2.2.2 j)
  | some i => (ccA (xcA G.1 (G.2.1 + i) G.2.1) G.2.1 c G.2.2.1, G.2.1 + 1, xcA G.1 (G.2.1 + i) G.2.1 G.2.1 c, fun j => if j = c then some G.2.1 else G.2.2.2 j)
def slG (f : Nat → Int32) (n : Nat) : Nat → GS
  | 0 => (lnF f n, 0, 1, fun _ => none)
  | m + 1 => slC (n - 1 - m) (slG f n m)
theorem sl_ok {f : Nat → Int32} {n : Nat} : ∀ m, (slG f n m).2.1 ≤ m ∧ (slG f n m).2.2.1 ≠ 0
  | 0 => ⟨Nat.le_refl 0, by show (1 : Int64) ≠ 0; decide⟩
  | m + 1 => by
    obtain ⟨h1, h2⟩ := sl_ok (f := f) (n := n) m
    rw [slG]
    generalize slG f n m = G at h1 h2
    unfold slC
    cases h : rwF G.1 (n - 1 - m) G.2.1 with
    | none => exact ⟨Nat.le_succ_of_le h1, h2⟩
    | some i =>
      refine ⟨Nat.succ_le_succ h1, ?_⟩
      have := (fsO_lt h).2
      show xcA G.1 (G.2.1 + i) G.2.1 G.2.1 (n - 1 - m) ≠ 0
      rw [xcA, if_pos rfl]
      exact of_decide_eq_true this
/-- the memory tells the state; columns from n - m on are done -/
def GR (n m : Nat) (J : IM) (M : LM) (G : GS) : Prop := (∃ M0, M = lnL M0 G.1) ∧ J 0 21 = nI G.2.1 ∧ M 0 22 = G.2.2.1 ∧ ∀ c, n - m ≤ c → c < n → J 11 c = fsI (G.2.2.2 c)
def colV (n m : Nat) : Int32 := if m < n then nI (n - 1 - m) else -1
theorem col_dec : ∀ n, n ≤ 5 → ∀ m, m < n → colV n m + (-1) = colV n (m + 1) := by decide
theorem col_0 : ∀ n, n ≤ 5 → 0 < n → nI n - 1 = colV n 0 := by decide
theorem qX8_solve (l : Launch) {s n : Nat} (hs : s < 8) (hn : n ≤ 5) (hn0 : 0 < n) {I : IM} (hd : I 1 0 = nI n) (L : LM) : ∃ I2 L2, ((RQ I I2 ∧ GR n n I2 L2 (slG (frR I s) n n)) ∧ L2 0 23 = L 0 23) ∧ KX8_solve l [.ref 0, .int (nI s)] I L none I2 L2 := by
  refine ru_pos1 (r := none) (fun V hV => ?_) (fun I2 L2 h => wX8_solve l rfl (hz0 (by decide)) h)
  show V 0 [(0, .ref 0), (1, .int (nI s))] [] I L
  generalize hf : frR I s = f at hV ⊢
  have key : ∀ r m J (M : LM), M 0 23 = L 0 23 → m + r = n → RQ I J → GR n m J M (slG f n m) → V 24 [(0, .ref 0), (1, .int (nI s)), (2, .int (colV n m))] [] J M := by
    intro r
    induction r with
    | zero =>
      intro m J M hM0 hm hJ hG
      have hm : m = n := by omega
      subst hm
      rw [show colV m m = -1 from if_neg (Nat.lt_irrefl m)]
      refine ru_fin hV 3 [(1, 0)] rfl rfl ⟨trivial, (by decide)⟩ ?_
      exact ⟨rfl, ⟨hJ, hG⟩, hM0⟩
    | succ r ih =>
      intro m J M hM0 hm hJ hG
      have hmn : m < n := by omega
      obtain ⟨hk1, hk2⟩ := sl_ok (f := f) (n := n) m
      have hstep : slG f n (m + 1) = slC (n - 1 - m) (slG f n m) := rfl
      have ih := ih (m + 1)
      rw [hstep] at ih
      obtain ⟨⟨M0, rfl⟩, hG2, hG3, hG4⟩ := hG
      generalize slG f n m = G at hk1 hk2 hG2 hG3 hG4 ih ⊢
      obtain ⟨A, pv, p, po⟩ := G
      have hk1 : pv ≤ m := hk1
      have hk2 : p ≠ 0 := hk2
      have hG2 : J 0 21 = nI pv := hG2
      have hG3 : lnL M0 A 0 22 = p := hG3
      have hG4 : ∀ c, n - m ≤ c → c < n → J 11 c = fsI (po c) := hG4
      rw [← col_dec n hn m hmn] at ih
      rw [show colV n m = nI (n - 1 - m) from if_pos hmn] at ih ⊢
      have hc5 : n - 1 - m < 5 := by omega
      have hc1 : n - (m + 1) = n - 1 - m := by omega
      unfold slC at ih
      generalize n - 1 - m = c at hc5 hc1 ih ⊢
      have walk : ∀ E, E ≤ 32 - pv → (∀ j, j < E → A (pv + j) c = 0) → (E = 32 - pv ∨ A (pv + E) c ≠ 0) → V 60 [(0, .ref 0), (1, .int (nI s)), (2, .int (nI c)), (3, .int (nI (pv + E)))] [] J (lnL M0 A) → V 24 [(0, .ref 0), (1, .int (nI s)), (2, .int (nI c))] [] J (lnL M0 A) := by
        intro E hE hz hend h60
        refine ru_go hV 5 [(0, 0)] rfl rfl ⟨⟨trivial, nI_nn (by omega)⟩, (by first | exact rfl | assumption | exact ⟨rfl, rfl⟩ | exact ⟨rfl, rfl, by omega⟩ | exact ⟨by assumption, rfl, by omega⟩ | exact ⟨⟨_, rfl, rfl⟩, by decide, by decide, rfl, by omega⟩ | omega | decide)⟩ ?_
        rw [hG2]
        refine loop0 (P := fun i => V 33 [(0, .ref 0), (1, .int (nI s)), (2, .int (nI c)), (3, .int (nI (pv + i)))] [] J (lnL M0 A)) E (fun h => h) (fun i hi ih2 => ?_) ?_
        · have r1 : lnL M0 A 10 (5 * (pv + i) + c) = 0 := by rw [ln_at (by omega) hc5]; exact hz i hi
          refine ru_go hV 16 [(0, 0), (10, 0), ((5*(pv+i)+c), 160), (0, 0)] rfl rfl ⟨⟨⟨⟨trivial, nI_ge (b := 32) (by omega) (by decide)⟩, (by first | exact rfl | assumption | exact ⟨rfl, rfl⟩ | exact ⟨rfl, rfl, by omega⟩ | exact ⟨by assumption, rfl, by omega⟩ | exact ⟨⟨_, rfl, rfl⟩, by decide, by decide, rfl, by omega⟩ | omega | decide)⟩, ⟨rfl, ix_ln _ c, by omega⟩⟩, (fun e => e ((lg_cmp0 _ _).mpr r1))⟩ ?_
          rw [nI_1]
          exact ih2
        · by_cases e : E = 32 - pv
          · refine ru_go hV 3 [(1, 0)] rfl rfl ⟨trivial, nI_le (a := 32) (by omega) (by omega)⟩ ?_
            exact h60
          · have h2 := hend.resolve_left e
            have r1 : lnL M0 A 10 (5 * (pv + E) + c) ≠ 0 := by rw [ln_at (by omega) hc5]; exact h2
            refine ru_go hV 14 [(0, 0), (10, 0), ((5*(pv+E)+c), 160), (1, 0)] rfl rfl ⟨⟨⟨⟨trivial, nI_ge (b := 32) (by omega) (by decide)⟩, (by first | exact rfl | assumption | exact ⟨rfl, rfl⟩ | exact ⟨rfl, rfl, by omega⟩ | exact ⟨by assumption, rfl, by omega⟩ | exact ⟨⟨_, rfl, rfl⟩, by decide, by decide, rfl, by omega⟩ | omega | decide)⟩, ⟨rfl, ix_ln _ c, by omega⟩⟩, (fun e => r1 ((lg_cmp0 _ _).mp e))⟩ ?_
            exact h60
      cases hr : rwF A c pv with
      | none =>
        simp only [hr] at ih
        have hz := fsO_nil hr
        refine walk (32 - pv) (Nat.le_refl _) (fun j hj => by have := of_decide_eq_false (hz j hj); simpa using this) (Or.inl rfl) ?_
        rw [show pv + (32 - pv) = 32 by omega]
        refine ru_go hV 10 [(11, 0), (c, 5), (1, 0)] rfl rfl ⟨⟨⟨trivial, (by first | exact rfl | assumption | exact ⟨rfl, rfl⟩ | exact ⟨rfl, rfl, by omega⟩ | exact ⟨by assumption, rfl, by omega⟩ | exact ⟨⟨_, rfl, rfl⟩, by decide, by decide, rfl, by omega⟩ | omega | decide)⟩, ⟨rfl, rfl, hc5⟩⟩, (by decide)⟩ ?_
        refine ru_sub hV [0, 1, 2] rfl (ih _ _ hM0 (by omega) (hJ.tr ⟨fun a _ h2 => mu_ne _ _ h2, fun j _ _ => by rw [mu_ne _ _ (by decide)]⟩) ⟨⟨M0, rfl⟩, by rw [mu_ne _ _ (by decide)]; exact hG2, hG3, fun j h1 h2 => ?_⟩)
        show mu J 11 c NON 11 j = fsI (if j = c then none else po j)
        by_cases e : j = c
        · rw [if_pos e, e, mu_self]; rfl
        · rw [if_neg e, show mu J 11 c NON 11 j = J 11 j by simp [mu, e]]
          exact hG4 j (by omega) h2
      | some i =>
        simp only [hr] at ih
        obtain ⟨hi1, hi2⟩ := fsO_lt hr
        have hA : A (pv + i) c ≠ 0 := of_decide_eq_true hi2
        have hz := fsO_fst hr
        refine walk i (by omega) (fun j hj => by have := of_decide_eq_false (hz j hj); simpa using this) (Or.inr hA) ?_
        have j21 : mu J 11 c NON 0 21 = nI pv := by rw [mu_ne _ _ (by decide)]; exact hG2
        refine ru_go hV 12 [(11, 0), (c, 5), (0, 0)] rfl rfl ⟨⟨⟨⟨trivial, (by first | exact rfl | assumption | exact ⟨rfl, rfl⟩ | exact ⟨rfl, rfl, by omega⟩ | exact ⟨by assumption, rfl, by omega⟩ | exact ⟨⟨_, rfl, rfl⟩, by decide, by decide, rfl, by omega⟩ | omega | decide)⟩, ⟨rfl, rfl, hc5⟩⟩, nI_ge (b := 32) (by omega) (by decide)⟩, (by first | exact rfl | assumption | exact ⟨rfl, rfl⟩ | exact ⟨rfl, rfl, by omega⟩ | exact ⟨by assumption, rfl, by omega⟩ | exact ⟨⟨_, rfl, rfl⟩, by decide, by decide, rfl, by omega⟩ | omega | decide)⟩ ?_
        rw [j21]
        refine ru_V hV [] sVX8_228 (qX8_exchange l (a := pv + i) (b := pv) (by omega) (by omega) _ M0 A) rfl rfl rfl rfl rfl (Nat.le_of_ble_eq_true rfl) ?_
        refine ru_go hV 4 [] rfl rfl ⟨trivial, (by first | exact rfl | assumption | exact ⟨rfl, rfl⟩ | exact ⟨rfl, rfl, by omega⟩ | exact ⟨by assumption, rfl, by omega⟩ | exact ⟨⟨_, rfl, rfl⟩, by decide, by decide, rfl, by omega⟩ | omega | decide)⟩ ?_
        rw [show lnL M0 (xcA A (pv + i) pv) 0 22 = p from hG3]
        refine ru_V hV [] sVX8_231 (qX8_clearColumn l hc5 (by omega) hk2 j21 M0 _) rfl rfl rfl rfl rfl (Nat.le_of_ble_eq_true rfl) ?_
        rw [ln_mm (by decide)]
        refine ru_go hV 14 [(11, 0), (c, 5)] rfl rfl ⟨⟨⟨⟨⟨trivial, (by first | exact rfl | assumption | exact ⟨rfl, rfl⟩ | exact ⟨rfl, rfl, by omega⟩ | exact ⟨by assumption, rfl, by omega⟩ | exact ⟨⟨_, rfl, rfl⟩, by decide, by decide, rfl, by omega⟩ | omega | decide)⟩, (by first | exact rfl | assumption | exact ⟨rfl, rfl⟩ | exact ⟨rfl, rfl, by omega⟩ | exact ⟨by assumption, rfl, by omega⟩ | exact ⟨⟨_, rfl, rfl⟩, by decide, by decide, rfl, by omega⟩ | omega | decide)⟩, ⟨rfl, rfl, hc5⟩⟩, (by first | exact rfl | assumption | exact ⟨rfl, rfl⟩ | exact ⟨rfl, rfl, by omega⟩ | exact ⟨by assumption, rfl, by omega⟩ | exact ⟨⟨_, rfl, rfl⟩, by decide, by decide, rfl, by omega⟩ | omega | decide)⟩, (by first | exact rfl | assumption | exact ⟨rfl, rfl⟩ | exact ⟨rfl, rfl, by omega⟩ | exact ⟨by assumption, rfl, by omega⟩ | exact ⟨⟨_, rfl, rfl⟩, by decide, by decide, rfl, by omega⟩ | omega | decide)⟩ ?_
        have e21 : ∀ x, mu (mu J 11 c NON) 11 c x 0 21 = nI pv := fun x => by rw [mu_ne _ _ (by decide)]; exact j21
        rw [j21, e21, nI_1, mu_mu]
        refine ru_sub hV [0, 1, 2] rfl (ih _ _ (by rw [ln_o (by decide), show ∀ x, mu M0 0 22 x 0 23 = M0 0 23 from fun x => rfl]; rw [ln_o (by decide)] at hM0; exact hM0) (by omega) (hJ.tr ⟨fun a h1 h2 => by rw [mu_ne _ _ h1, mu_ne _ _ h2], fun j _ h2 => by rw [mu_0 h2, mu_ne _ _ (by decide)]⟩) ⟨⟨_, rfl⟩, mu_self _ _ _ _, ?_, fun j h1 h2 => ?_⟩)
        · show lnL (mu M0 0 22 _) _ 0 22 = _
          rw [ln_o (by decide), mu_self]
        · show mu (mu J 11 c (nI pv)) 0 21 (nI (pv + 1)) 11 j = fsI (if j = c then some pv else po j)
          rw [mu_ne _ _ (by decide)]
          by_cases e : j = c
          · rw [if_pos e, e, mu_self]; rfl
          · rw [if_neg e, show mu J 11 c (nI pv) 11 j = J 11 j by simp [mu, e]]
            exact hG4 j (by omega) h2
  refine ru_go hV 2 [] rfl rfl trivial ?_
  refine ru_V hV [] sVX8_225 (qX8_layLines l hs hn hd L) rfl rfl rfl rfl rfl (Nat.le_of_ble_eq_true rfl) ?_
  rw [hf]
  refine ru_go hV 13 [(1, 0), (0, 296)] rfl rfl ⟨⟨⟨⟨trivial, (by first | exact rfl | assumption | exact ⟨rfl, rfl⟩ | exact ⟨rfl, rfl, by omega⟩ | exact ⟨by assumption, rfl, by omega⟩ | exact ⟨⟨_, rfl, rfl⟩, by decide, by decide, rfl, by omega⟩ | omega | decide)⟩, (by first | exact rfl | assumption | exact ⟨rfl, rfl⟩ | exact ⟨rfl, rfl, by omega⟩ | exact ⟨by assumption, rfl, by omega⟩ | exact ⟨⟨_, rfl, rfl⟩, by decide, by decide, rfl, by omega⟩ | omega | decide)⟩, (by first | exact rfl | assumption | exact ⟨rfl, rfl⟩ | exact ⟨rfl, rfl, by omega⟩ | exact ⟨by assumption, rfl, by omega⟩ | exact ⟨⟨_, rfl, rfl⟩, by decide, by decide, rfl, by omega⟩ | omega | decide)⟩, (by first | exact rfl | assumption | exact ⟨rfl, rfl⟩ | exact ⟨rfl, rfl, by omega⟩ | exact ⟨by assumption, rfl, by omega⟩ | exact ⟨⟨_, rfl, rfl⟩, by decide, by decide, rfl, by omega⟩ | omega | decide)⟩ ?_
  rw [mu_ne _ _ (by decide), hd, col_0 n hn hn0, ln_mm (by decide)]
  refine key n 0 _ _ (by rw [ln_o (by decide)]; rfl) (Nat.zero_add n) ⟨fun a h _ => mu_ne _ _ h, fun j _ h2 => mu_0 h2⟩ ⟨⟨_, rfl⟩, mu_self _ _ _ _, ?_, fun c h1 h2 => absurd h2 (by omega)⟩
  rw [ln_o (by decide), mu_self]
  rfl
theorem qX8_isAnnihilatorTold (l : Launch) {s n : Nat} (hs : s < 8) (hn : n ≤ 5) {I : IM} (hd : I 1 0 = nI n) (L : LM) : KX8_isAnnihilatorTold l [.ref 0, .int (nI s)] I L (some (.int (b2i (decide (gmF (frR I s) (2 ^ n) ≤ 60))))) I L := by
  refine wX8_isAnnihilatorTold l rfl (fun _ x h => by cases h; exact b2i_01 _) (fun V hV => ?_)
  refine ru_go hV 2 [] rfl rfl trivial ?_
  refine ru_V hV [] sVX8_194 (qX8_greatest l hs hn hd L) rfl rfl rfl rfl rfl (Nat.le_of_ble_eq_true rfl) ?_
  by_cases h : gmF (frR I s) (2 ^ n) ≤ 60
  · refine ru_fin hV 5 [(0, 0)] rfl rfl ⟨trivial, Int32.not_lt.mpr h⟩ ?_
    rw [decide_eq_true h]
    exact ⟨rfl, rfl, rfl⟩
  · refine ru_fin hV 4 [(1, 0)] rfl rfl ⟨trivial, Int32.not_le.mp h⟩ ?_
    rw [decide_eq_false h]
    exact ⟨rfl, rfl, rfl⟩
/-- the dimension of the annihilator, as the reference finds it -/
def anR (f : Nat → Int32) (n : Nat) : Int32 := if gmF f (2 ^ n) ≤ 60 then nI (n - (slG f n n).2.1) else NON
theorem qX8_annihilatorOf (l : Launch) {s n : Nat} (hs : s < 8) (hn : n ≤ 5) (hn0 : 0 < n) {I : IM} (hd : I 1 0 = nI n) (L : LM) : ∃ I2 L2, ((RQ I I2 ∧ (gmF (frR I s) (2 ^ n) ≤ 60 → GR n n I2 L2 (slG (frR I s) n n))) ∧ L2 0 23 = L 0 23) ∧ KX8_annihilatorOf l [.ref 0, .int (nI s)] I L (some (.int (anR (frR I s) n))) I2 L2 := by
  have ht := qX8_isAnnihilatorTold l hs hn hd L
  by_cases h : gmF (frR I s) (2 ^ n) ≤ 60
  · obtain ⟨I2, L2, ⟨⟨h1, h2⟩, h0⟩, hK⟩ := qX8_solve l hs hn hn0 hd L
    refine ⟨I2, L2, ⟨⟨h1, fun _ => h2⟩, h0⟩, wX8_annihilatorOf l rfl (hz0 (by decide)) (fun V hV => ?_)⟩
    rw [anR, if_pos h] at hV
    rw [decide_eq_true h] at ht
    have hpv := (sl_ok (f := frR I s) (n := n) n).1
    refine ru_go hV 2 [] rfl rfl trivial ?_
    refine ru_V hV [] sVX8_235 ht rfl rfl rfl rfl rfl (Nat.le_of_ble_eq_true rfl) ?_
    refine ru_go hV 3 [(1, 0)] rfl rfl ⟨trivial, (by decide)⟩ ?_
    refine ru_V hV [] sVX8_238 hK rfl rfl rfl rfl rfl (Nat.le_of_ble_eq_true rfl) ?_
    refine ru_fin hV 8 [(1, 0), (0, 296)] rfl rfl ⟨⟨⟨trivial, (by first | exact rfl | assumption | exact ⟨rfl, rfl⟩ | exact ⟨rfl, rfl, by omega⟩ | exact ⟨by assumption, rfl, by omega⟩ | exact ⟨⟨_, rfl, rfl⟩, by decide, by decide, rfl, by omega⟩ | omega | decide)⟩, (by first | exact rfl | assumption | exact ⟨rfl, rfl⟩ | exact ⟨rfl, rfl, by omega⟩ | exact ⟨by assumption, rfl, by omega⟩ | exact ⟨⟨_, rfl, rfl⟩, by decide, by decide, rfl, by omega⟩ | omega | decide)⟩, (by first | exact rfl | assumption | exact ⟨rfl, rfl⟩ | exact ⟨rfl, rfl, by omega⟩ | exact ⟨by assumption, rfl, by omega⟩ | exact ⟨⟨_, rfl, rfl⟩, by decide, by decide, rfl, by omega⟩ | omega | decide)⟩ ?_
    rw [h1.1 1 (by decide) (by decide), hd, h2.2.1, nI_sub hpv]
    exact ⟨rfl, rfl, rfl⟩
  · refine ⟨I, L, ⟨⟨RQ.rf I, fun e => absurd e h⟩, rfl⟩, wX8_annihilatorOf l rfl (hz0 (by decide)) (fun V hV => ?_)⟩
    rw [anR, if_neg h] at hV
    rw [decide_eq_false h] at ht
    refine ru_go hV 2 [] rfl rfl trivial ?_
    refine ru_V hV [] sVX8_235 ht rfl rfl rfl rfl rfl (Nat.le_of_ble_eq_true rfl) ?_
    refine ru_fin hV 3 [(0, 0)] rfl rfl ⟨trivial, (fun e => e rfl)⟩ ?_
    exact ⟨rfl, rfl, rfl⟩
/-- the column of the place-th free one, from c on -/
def hdF (po : Nat → Option Nat) : Nat → Nat → Nat → Option Nat
  | 0, _, _ => none
  | k + 1, c, left => if (po c).isNone then (if left = 0 then some c else hdF po k (c + 1) (left - 1)) else hdF po k (c + 1) left
def hdO (G : GS) (n p : Nat) : Option Nat := hdF G.2.2.2 n 0 p
/-- a number of the vector with this head, without its divisor -/
def rawF (G : GS) (h d : Nat) : Int64 := if d = h then G.2.2.1 else match G.2.2.2 d with
  | none => 0
  | some r => -(G.1 r h)
/-- where the lines of pivots are -/
def poLt (po : Nat → Option Nat) (n : Nat) : Prop := ∀ c r, c < n → po c = some r → r < 32
theorem sl_po {f : Nat → Int32} {n : Nat} : ∀ m, m ≤ 32 → ∀ c r, (slG f n m).2.2.2 c = some r → r < m
  | 0, _, c, r, h => by cases h
  | m + 1, hm, c, r, h => by
    have ih := sl_po (f := f) (n := n) m (by omega)
    have hk := (sl_ok (f := f) (n := n) m).1
    rw [slG] at h
    generalize slG f n m = G at ih hk h
    unfold slC at h
    cases hr : rwF G.1 (n - 1 - m) G.2.1 with
    | none =>
      simp only [hr] at h
      split at h
      · cases h
      · exact Nat.lt_succ_of_lt (ih c r h)
    | some i =>
      simp only [hr] at h
      split at h
      · cases h; omega
      · exact Nat.lt_succ_of_lt (ih c r h)
theorem qX8_headOf (l : Launch) {p n : Nat} (hn : n ≤ 5) (hp : p < 2 ^ 30) {I : IM} {L : LM} {G : GS} (hd : I 1 0 = nI n) (hG : GR n n I L G) (hpo : poLt G.2.2.2 n) : KX8_headOf l [.ref 0, .int (nI p)] I L (some (.int (fsI (hdO G n p)))) I L := by
  obtain ⟨-, -, -, h4⟩ := hG
  refine wX8_headOf l rfl (hz0 (by decide)) (fun V hV => ?_)
  have key : ∀ k c left, c + k = n → left < 2 ^ 30 → hdF G.2.2.2 k c left = hdO G n p → V 4 [(0, .ref 0), (1, .int (nI p)), (2, .int (nI left)), (3, .int (nI c))] [] I L := by
    intro k
    induction k with
    | zero =>
      intro c left hc hl hh
      have : c = n := by omega
      subst this
      rw [← hh] at hV
      refine ru_fin hV 8 [(1, 0), (0, 296), (1, 0)] rfl rfl ⟨⟨⟨trivial, (by first | exact rfl | assumption | exact ⟨rfl, rfl⟩ | exact ⟨rfl, rfl, by omega⟩ | exact ⟨by assumption, rfl, by omega⟩ | exact ⟨⟨_, rfl, rfl⟩, by decide, by decide, rfl, by omega⟩ | omega | decide)⟩, (by first | exact rfl | assumption | exact ⟨rfl, rfl⟩ | exact ⟨rfl, rfl, by omega⟩ | exact ⟨by assumption, rfl, by omega⟩ | exact ⟨⟨_, rfl, rfl⟩, by decide, by decide, rfl, by omega⟩ | omega | decide)⟩, (by rw [hd]; exact nI_le (Nat.le_refl c) (by omega))⟩ ?_
      exact ⟨rfl, rfl, rfl⟩
    | succ k ih =>
      intro c left hc hl hh
      have hcn : c < n := by omega
      have h4c := h4 c (by omega) hcn
      rw [hdF] at hh
      cases hpc : G.2.2.2 c with
      | none =>
        rw [hpc] at hh h4c
        simp only [Option.isNone_none, if_true] at hh
        by_cases e : left = 0
        · rw [if_pos e] at hh
          rw [← hh] at hV
          refine ru_fin hV 16 [(1, 0), (0, 296), (0, 0), (11, 0), (c, 5), (0, 0), (0, 0)] rfl rfl ⟨⟨⟨⟨⟨⟨⟨trivial, (by first | exact rfl | assumption | exact ⟨rfl, rfl⟩ | exact ⟨rfl, rfl, by omega⟩ | exact ⟨by assumption, rfl, by omega⟩ | exact ⟨⟨_, rfl, rfl⟩, by decide, by decide, rfl, by omega⟩ | omega | decide)⟩, (by first | exact rfl | assumption | exact ⟨rfl, rfl⟩ | exact ⟨rfl, rfl, by omega⟩ | exact ⟨by assumption, rfl, by omega⟩ | exact ⟨⟨_, rfl, rfl⟩, by decide, by decide, rfl, by omega⟩ | omega | decide)⟩, (by rw [hd]; exact nI_nge hcn (by omega))⟩, (by first | exact rfl | assumption | exact ⟨rfl, rfl⟩ | exact ⟨rfl, rfl, by omega⟩ | exact ⟨by assumption, rfl, by omega⟩ | exact ⟨⟨_, rfl, rfl⟩, by decide, by decide, rfl, by omega⟩ | omega | decide)⟩, (by first | exact rfl | assumption | exact ⟨rfl, rfl⟩ | exact ⟨rfl, rfl, by omega⟩ | exact ⟨by assumption, rfl, by omega⟩ | exact ⟨⟨_, rfl, rfl⟩, by decide, by decide, rfl, by omega⟩ | omega | decide)⟩, (fun z => z h4c)⟩, (fun z => z (by rw [e]; rfl))⟩ ?_
          exact ⟨rfl, rfl, rfl⟩
        · rw [if_neg e] at hh
          refine ru_go hV 17 [(1, 0), (0, 296), (0, 0), (11, 0), (c, 5), (0, 0), (1, 0)] rfl rfl ⟨⟨⟨⟨⟨⟨⟨trivial, (by first | exact rfl | assumption | exact ⟨rfl, rfl⟩ | exact ⟨rfl, rfl, by omega⟩ | exact ⟨by assumption, rfl, by omega⟩ | exact ⟨⟨_, rfl, rfl⟩, by decide, by decide, rfl, by omega⟩ | omega | decide)⟩, (by first | exact rfl | assumption | exact ⟨rfl, rfl⟩ | exact ⟨rfl, rfl, by omega⟩ | exact ⟨by assumption, rfl, by omega⟩ | exact ⟨⟨_, rfl, rfl⟩, by decide, by decide, rfl, by omega⟩ | omega | decide)⟩, (by rw [hd]; exact nI_nge hcn (by omega))⟩, (by first | exact rfl | assumption | exact ⟨rfl, rfl⟩ | exact ⟨rfl, rfl, by omega⟩ | exact ⟨by assumption, rfl, by omega⟩ | exact ⟨⟨_, rfl, rfl⟩, by decide, by decide, rfl, by omega⟩ | omega | decide)⟩, (by first | exact rfl | assumption | exact ⟨rfl, rfl⟩ | exact ⟨rfl, rfl, by omega⟩ | exact ⟨by assumption, rfl, by omega⟩ | exact ⟨⟨_, rfl, rfl⟩, by decide, by decide, rfl, by omega⟩ | omega | decide)⟩, (fun z => z h4c)⟩, nI_ne0 (by omega) (by omega)⟩ ?_
          rw [nI_1, show nI left + -1 = nI (left - 1) by
            obtain ⟨q, rfl⟩ : ∃ q, left = q + 1 := ⟨left - 1, by omega⟩
            rw [pk_m1]
            rfl]
          exact ih (c + 1) (left - 1) (by omega) (by omega) hh
      | some r =>
        rw [hpc] at hh h4c
        simp only [Option.isNone_some] at hh
        have hr := hpo c r hcn hpc
        refine ru_go hV 14 [(1, 0), (0, 296), (0, 0), (11, 0), (c, 5), (1, 0)] rfl rfl ⟨⟨⟨⟨⟨⟨trivial, (by first | exact rfl | assumption | exact ⟨rfl, rfl⟩ | exact ⟨rfl, rfl, by omega⟩ | exact ⟨by assumption, rfl, by omega⟩ | exact ⟨⟨_, rfl, rfl⟩, by decide, by decide, rfl, by omega⟩ | omega | decide)⟩, (by first | exact rfl | assumption | exact ⟨rfl, rfl⟩ | exact ⟨rfl, rfl, by omega⟩ | exact ⟨by assumption, rfl, by omega⟩ | exact ⟨⟨_, rfl, rfl⟩, by decide, by decide, rfl, by omega⟩ | omega | decide)⟩, (by rw [hd]; exact nI_nge hcn (by omega))⟩, (by first | exact rfl | assumption | exact ⟨rfl, rfl⟩ | exact ⟨rfl, rfl, by omega⟩ | exact ⟨by assumption, rfl, by omega⟩ | exact ⟨⟨_, rfl, rfl⟩, by decide, by decide, rfl, by omega⟩ | omega | decide)⟩, (by first | exact rfl | assumption | exact ⟨rfl, rfl⟩ | exact ⟨rfl, rfl, by omega⟩ | exact ⟨by assumption, rfl, by omega⟩ | exact ⟨⟨_, rfl, rfl⟩, by decide, by decide, rfl, by omega⟩ | omega | decide)⟩, (by rw [h4c]; exact NON_ne (by omega))⟩ ?_
        rw [nI_1]
        exact ih (c + 1) left (by omega) hl hh
  refine ru_go hV 4 [] rfl rfl trivial ?_
  exact key n 0 p (Nat.zero_add n) hp rfl
theorem qX8_rawOf (l : Launch) {h d n : Nat} (hn : n ≤ 5) (hh : h < n) (hdn : d < n) {I : IM} {L : LM} {G : GS} (hG : GR n n I L G) (hpo : poLt G.2.2.2 n) : KX8_rawOf l [.ref 0, .int (nI h), .int (nI d)] I L (some (.long (rawF G h d))) I L := by
  obtain ⟨⟨M0, hM⟩, -, h3, h4⟩ := hG
  have h4d := h4 d (by omega) hdn
  refine wX8_rawOf l rfl (hz0 (by decide)) (fun V hV => ?_)
  unfold rawF at hV
  by_cases e : d = h
  · rw [if_pos e] at hV
    refine ru_fin hV 6 [(0, 0)] rfl rfl ⟨⟨trivial, (fun z => z (by rw [e]))⟩, (by first | exact rfl | assumption | exact ⟨rfl, rfl⟩ | exact ⟨rfl, rfl, by omega⟩ | exact ⟨by assumption, rfl, by omega⟩ | exact ⟨⟨_, rfl, rfl⟩, by decide, by decide, rfl, by omega⟩ | omega | decide)⟩ ?_
    exact ⟨by rw [h3]; rfl, rfl, rfl⟩
  · rw [if_neg e] at hV
    cases hpd : G.2.2.2 d with
    | none =>
      rw [hpd] at hV h4d
      refine ru_fin hV 12 [(1, 0), (11, 0), (d, 5), (0, 0)] rfl rfl ⟨⟨⟨⟨trivial, (fun z => e (nI_inj (by omega) (by omega) z))⟩, (by first | exact rfl | assumption | exact ⟨rfl, rfl⟩ | exact ⟨rfl, rfl, by omega⟩ | exact ⟨by assumption, rfl, by omega⟩ | exact ⟨⟨_, rfl, rfl⟩, by decide, by decide, rfl, by omega⟩ | omega | decide)⟩, (by first | exact rfl | assumption | exact ⟨rfl, rfl⟩ | exact ⟨rfl, rfl, by omega⟩ | exact ⟨by assumption, rfl, by omega⟩ | exact ⟨⟨_, rfl, rfl⟩, by decide, by decide, rfl, by omega⟩ | omega | decide)⟩, (fun z => z h4d)⟩ ?_
      exact ⟨rfl, rfl, rfl⟩
    | some r =>
      rw [hpd] at hV h4d
      have hr := hpo d r hdn hpd
      have h4e : I 11 d = nI r := h4d
      refine ru_fin hV 22 [(1, 0), (11, 0), (d, 5), (1, 0), (10, 0), (11, 0), (d, 5), ((5*r+h), 160)] rfl rfl ⟨⟨⟨⟨⟨⟨⟨⟨trivial, (fun z => e (nI_inj (by omega) (by omega) z))⟩, (by first | exact rfl | assumption | exact ⟨rfl, rfl⟩ | exact ⟨rfl, rfl, by omega⟩ | exact ⟨by assumption, rfl, by omega⟩ | exact ⟨⟨_, rfl, rfl⟩, by decide, by decide, rfl, by omega⟩ | omega | decide)⟩, (by first | exact rfl | assumption | exact ⟨rfl, rfl⟩ | exact ⟨rfl, rfl, by omega⟩ | exact ⟨by assumption, rfl, by omega⟩ | exact ⟨⟨_, rfl, rfl⟩, by decide, by decide, rfl, by omega⟩ | omega | decide)⟩, (by rw [h4e]; exact NON_ne (by omega))⟩, (by first | exact rfl | assumption | exact ⟨rfl, rfl⟩ | exact ⟨rfl, rfl, by omega⟩ | exact ⟨by assumption, rfl, by omega⟩ | exact ⟨⟨_, rfl, rfl⟩, by decide, by decide, rfl, by omega⟩ | omega | decide)⟩, (by first | exact rfl | assumption | exact ⟨rfl, rfl⟩ | exact ⟨rfl, rfl, by omega⟩ | exact ⟨by assumption, rfl, by omega⟩ | exact ⟨⟨_, rfl, rfl⟩, by decide, by decide, rfl, by omega⟩ | omega | decide)⟩, (by first | exact rfl | assumption | exact ⟨rfl, rfl⟩ | exact ⟨rfl, rfl, by omega⟩ | exact ⟨by assumption, rfl, by omega⟩ | exact ⟨⟨_, rfl, rfl⟩, by decide, by decide, rfl, by omega⟩ | omega | decide)⟩, ⟨rfl, by rw [h4e]; exact ix_ln r h, by omega⟩⟩ ?_
      rw [hM, ln_at hr (by omega)]
      exact ⟨rfl, rfl, rfl⟩
