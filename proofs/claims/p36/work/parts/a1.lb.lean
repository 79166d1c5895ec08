/-! THE LAW'S products: all pairs of blades -/
def wJ (f g : Nat → Int64) (i j k : Nat) : Int64 := if i &&& k = i ∧ (k ^^^ i) < j then f i * g (k ^^^ i) * (odI i (k ^^^ i)).toInt64 else 0
def wdg (f g : Nat → Int64) (B k : Nat) : Int64 := sumL (fun i => wJ f g i B k) B
theorem wJ_0 (f g : Nat → Int64) (i k : Nat) : wJ f g i 0 k = 0 := by simp [wJ]
theorem wJ_hit {f g : Nat → Int64} {i j : Nat} (hi : i < 32) (hj : j < 32) (h : i &&& j = 0) : wJ f g i j (i ||| j) = 0 ∧ wJ f g i (j + 1) (i ||| j) = f i * g j * (odI i j).toInt64 := by
  obtain ⟨h1, h2⟩ := bl_1 i hi j hj h
  constructor
  · simp [wJ, h1, h2]
  · simp [wJ, h1, h2]
theorem wJ_miss {f g : Nat → Int64} {i j k : Nat} (hi : i < 32) (hk : k < 32) (h : i &&& j = 0 → k ≠ i ||| j) : wJ f g i (j + 1) k = wJ f g i j k := by
  unfold wJ
  by_cases h1 : i &&& k = i
  · obtain ⟨h2, h3⟩ := bl_2 i hi k hk h1
    have hne : k ^^^ i ≠ j := fun e => by
      rw [e] at h2 h3
      exact h h2 h3
    have : (k ^^^ i < j + 1) ↔ (k ^^^ i < j) := by omega
    simp only [h1, this, true_and]
  · simp [h1]
theorem qL_wedge (l : Launch) {cf cg cr a b nf ng n : Nat} (hf : kdL cf = (2, nf, 0)) (ha : a + 32 ≤ nf) (hg : kdL cg = (2, ng, 0)) (hb : b + 32 ≤ ng) (hr : kdL cr = (2, 32, 0)) (h1 : cf ≠ cr) (h2 : cg ≠ cr) (hn : n ≤ 5) {I : IM} (hd : I 188 0 = nI n) (L : LM) : KL_wedge l [.ref cf, .int (nI a), .ref cg, .int (nI b), .ref cr, .ref 188] I L none I (lay L cr 32 (wdg (fun q => L cf (a + q)) (fun q => L cg (b + q)) (2 ^ n))) := by
  obtain ⟨hB, -⟩ := pow_le32 n hn
  have hbl : ∀ M : LM, KL_all l [.ref 188] I M (some (.int (nI (2 ^ n)))) I M := fun M => qL_all l hn hd M
  generalize 2 ^ n = B at hB hbl ⊢
  have hB2 : B < 2 ^ 31 := by omega
  generalize hF : (fun q => L cf (a + q)) = F
  generalize hG : (fun q => L cg (b + q)) = G
  refine wL_wedge l rfl (hz0 (by decide)) (fun V hV => ?_)
  refine ru_go hV 2 [] rfl rfl trivial ?_
  refine loop0 (P := fun k => V 3 [(0, .ref cf), (1, .int (nI a)), (2, .ref cg), (3, .int (nI b)), (4, .ref cr), (5, .ref 188), (6, .int (nI k))] [] I (lay L cr k (fun _ => 0))) 32 (fun h => by rw [lay_0] at h; exact h) (fun k hk ih => ?_) ?_
  · refine ru_go hV 9 [(0, 0), (k, 32)] rfl rfl ⟨⟨trivial, nI32_ge hk⟩, ⟨hr, rfl, hk⟩⟩ ?_
    rw [nI_1, lay_up rfl]
    exact ih
  · refine ru_go hV 5 [(1, 0)] rfl rfl ⟨trivial, (by decide)⟩ ?_
    refine loop0 (P := fun i => V 25 [(0, .ref cf), (1, .int (nI a)), (2, .ref cg), (3, .int (nI b)), (4, .ref cr), (5, .ref 188), (6, .int (nI i))] [] I (lay L cr 32 (fun k => sumL (fun q => wJ F G q B k) i))) B (fun h => h) (fun i hi ih => ?_) ?_
    · have hi32 : i < 32 := by omega
      refine ru_go hV 2 [] rfl rfl trivial ?_
      refine ru_S hV [.int (nI i)] sSL_8 (hbl _) rfl rfl rfl (Nat.le_of_ble_eq_true rfl) ?_
      refine ru_go hV 3 [(0, 0)] rfl rfl ⟨trivial, nI_nge hi hB2⟩ ?_
      refine loop0 (P := fun j => V 38 [(0, .ref cf), (1, .int (nI a)), (2, .ref cg), (3, .int (nI b)), (4, .ref cr), (5, .ref 188), (6, .int (nI i)), (7, .int (nI j))] [] I (lay L cr 32 (fun k => sumL (fun q => wJ F G q B k) i + wJ F G i j k))) B (fun h => by simp only [wJ_0, Int64.add_zero] at h; exact h) (fun j hj ih2 => ?_) ?_
      · have hj32 : j < 32 := by omega
        refine ru_go hV 2 [] rfl rfl trivial ?_
        refine ru_S hV [.int (nI j)] sSL_8 (hbl _) rfl rfl rfl (Nat.le_of_ble_eq_true rfl) ?_
        by_cases h3 : i &&& j = 0
        · have hor := or_lt i hi32 j hj32
          refine ru_go hV 24 [(0, 0), (0, 0), ((i|||j), 32), ((a+i), nf), ((b+j), ng)] rfl rfl ⟨⟨⟨⟨⟨trivial, nI_nge hj hB2⟩, (fun e => e ((andI0 hi32 hj32).mpr h3))⟩, ⟨hr, orI i hi32 j hj32, hor⟩⟩, ⟨hf, nI_add a i, by omega⟩⟩, ⟨hg, nI_add b j, by omega⟩⟩ ?_
          refine ru_S hV [.long _, .long _, .int _, .ref cr] sSL_14 (qL_order l hi32 hj32 I _) rfl rfl rfl (Nat.le_of_ble_eq_true rfl) ?_
          refine ru_go hV 6 [((i|||j), 32)] rfl rfl ⟨trivial, ⟨hr, orI i hi32 j hj32, hor⟩⟩ ?_
          rw [nI_1, lay_ne h1, lay_ne h2, show L cf (a + i) = F i by rw [← hF], show L cg (b + j) = G j by rw [← hG]]
          refine cast ?_ ih2
          refine congrArg (V 38 _ [] I) (Eq.symm ?_)
          obtain ⟨e1, e2⟩ := wJ_hit (f := F) (g := G) hi32 hj32 h3
          rw [lay_in hor, lay_mu hor]
          refine lay_cong (fun k hk => ?_)
          by_cases hkk : k = i ||| j
          · subst hkk
            rw [if_pos rfl, e1, e2, Int64.add_zero]
          · rw [if_neg hkk, wJ_miss hi32 hk (fun _ => hkk)]
        · refine ru_go hV 7 [(0, 0), (1, 0)] rfl rfl ⟨⟨trivial, nI_nge hj hB2⟩, (fun e => h3 ((andI0 hi32 hj32).mp e))⟩ ?_
          rw [nI_1]
          refine cast ?_ ih2
          refine congrArg (V 38 _ [] I) (Eq.symm ?_)
          exact lay_cong (fun k hk => by rw [wJ_miss hi32 hk (fun e => absurd e h3)])
      · refine ru_go hV 2 [] rfl rfl trivial ?_
        refine ru_S hV [.int (nI B)] sSL_8 (hbl _) rfl rfl rfl (Nat.le_of_ble_eq_true rfl) ?_
        refine ru_go hV 3 [(1, 0)] rfl rfl ⟨trivial, nI_le (Nat.le_refl B) hB2⟩ ?_
        rw [nI_1]
        exact ru_sub hV [0, 1, 2, 3, 4, 5, 6] rfl ih
    · refine ru_go hV 2 [] rfl rfl trivial ?_
      refine ru_S hV [.int (nI B)] sSL_8 (hbl _) rfl rfl rfl (Nat.le_of_ble_eq_true rfl) ?_
      refine ru_fin hV 2 [(1, 0)] rfl rfl ⟨trivial, nI_le (Nat.le_refl B) hB2⟩ ?_
      exact ⟨rfl, rfl, rfl⟩
def cJ (s : Nat → Int32) (f g : Nat → Int64) (i j k : Nat) : Int64 := if k < j ∧ i &&& k = 0 then f i * g (i ||| k) * (sgn s i).toInt64 * (odI i k).toInt64 else 0
def ctr (s : Nat → Int32) (f g : Nat → Int64) (B k : Nat) : Int64 := sumL (fun i => cJ s f g i B k) B
theorem cJ_0 (s : Nat → Int32) (f g : Nat → Int64) (i k : Nat) : cJ s f g i 0 k = 0 := by simp [cJ]
theorem cJ_hit {s : Nat → Int32} {f g : Nat → Int64} {i j : Nat} (h : i &&& j = 0) : cJ s f g i j j = 0 ∧ cJ s f g i (j + 1) j = f i * g (i ||| j) * (sgn s i).toInt64 * (odI i j).toInt64 := by simp [cJ, h]
theorem cJ_miss {s : Nat → Int32} {f g : Nat → Int64} {i j k : Nat} (h : i &&& j = 0 → k ≠ j) : cJ s f g i (j + 1) k = cJ s f g i j k := by
  unfold cJ
  by_cases h1 : i &&& k = 0
  · have hne : k ≠ j := fun e => h (by rw [← e]; exact h1) e
    have : (k < j + 1) ↔ (k < j) := by omega
    simp only [this]
  · simp [h1]
theorem qL_contract (l : Launch) {a b n : Nat} (ha : a + 32 ≤ 64) (hb : b + 32 ≤ 64) (hn : n ≤ 5) {I : IM} (hd : I 188 0 = nI n) (L : LM) : KL_contract l [.ref 181, .int (nI a), .int (nI b), .ref 182, .ref 188] I L none I (lay L 182 32 (ctr (fun k => I 188 (k + 1)) (fun q => L 181 (a + q)) (fun q => L 181 (b + q)) (2 ^ n))) := by
  obtain ⟨hB, -⟩ := pow_le32 n hn
  have hbl : ∀ M : LM, KL_all l [.ref 188] I M (some (.int (nI (2 ^ n)))) I M := fun M => qL_all l hn hd M
  generalize 2 ^ n = B at hB hbl ⊢
  have hB2 : B < 2 ^ 31 := by omega
  generalize hF : (fun q => L 181 (a + q)) = F
  generalize hG : (fun q => L 181 (b + q)) = G
  generalize hs : (fun k => I 188 (k + 1)) = s
  refine wL_contract l rfl (hz0 (by decide)) (fun V hV => ?_)
  refine ru_go hV 2 [] rfl rfl trivial ?_
  refine loop0 (P := fun k => V 3 [(0, .ref 181), (1, .int (nI a)), (2, .int (nI b)), (3, .ref 182), (4, .ref 188), (5, .int (nI k))] [] I (lay L 182 k (fun _ => 0))) 32 (fun h => by rw [lay_0] at h; exact h) (fun k hk ih => ?_) ?_
  · refine ru_go hV 9 [(0, 0), (k, 32)] rfl rfl ⟨⟨trivial, nI32_ge hk⟩, ⟨rfl, rfl, hk⟩⟩ ?_
    rw [nI_1, lay_up rfl]
    exact ih
  · refine ru_go hV 5 [(1, 0)] rfl rfl ⟨trivial, (by decide)⟩ ?_
    refine loop0 (P := fun i => V 24 [(0, .ref 181), (1, .int (nI a)), (2, .int (nI b)), (3, .ref 182), (4, .ref 188), (5, .int (nI i))] [] I (lay L 182 32 (fun k => sumL (fun q => cJ s F G q B k) i))) B (fun h => h) (fun i hi ih => ?_) ?_
    · have hi32 : i < 32 := by omega
      refine ru_go hV 2 [] rfl rfl trivial ?_
      refine ru_S hV [.int (nI i)] sSL_8 (hbl _) rfl rfl rfl (Nat.le_of_ble_eq_true rfl) ?_
      refine ru_go hV 3 [(0, 0)] rfl rfl ⟨trivial, nI_nge hi hB2⟩ ?_
      refine loop0 (P := fun j => V 37 [(0, .ref 181), (1, .int (nI a)), (2, .int (nI b)), (3, .ref 182), (4, .ref 188), (5, .int (nI i)), (6, .int (nI j))] [] I (lay L 182 32 (fun k => sumL (fun q => cJ s F G q B k) i + cJ s F G i j k))) B (fun h => by simp only [cJ_0, Int64.add_zero] at h; exact h) (fun j hj ih2 => ?_) ?_
      · have hj32 : j < 32 := by omega
        refine ru_go hV 2 [] rfl rfl trivial ?_
        refine ru_S hV [.int (nI j)] sSL_8 (hbl _) rfl rfl rfl (Nat.le_of_ble_eq_true rfl) ?_
        by_cases h3 : i &&& j = 0
        · have hor := or_lt i hi32 j hj32
          refine ru_go hV 24 [(0, 0), (0, 0), (j, 32), ((a+i), 64), ((b+(i|||j)), 64)] rfl rfl ⟨⟨⟨⟨⟨trivial, nI_nge hj hB2⟩, (fun e => e ((andI0 hi32 hj32).mpr h3))⟩, ⟨rfl, rfl, hj32⟩⟩, ⟨rfl, nI_add a i, by omega⟩⟩, ⟨rfl, by rw [orI i hi32 j hj32]; exact nI_add b _, by omega⟩⟩ ?_
          refine ru_S hV [.long _, .long _, .int _, .ref 182] sSL_18 (qL_sign l hi32 I _) rfl rfl rfl (Nat.le_of_ble_eq_true rfl) ?_
          refine ru_go hV 4 [] rfl rfl trivial ?_
          refine ru_S hV [.long _, .long _, .int _, .ref 182] sSL_14 (qL_order l hi32 hj32 I _) rfl rfl rfl (Nat.le_of_ble_eq_true rfl) ?_
          refine ru_go hV 6 [(j, 32)] rfl rfl ⟨trivial, ⟨rfl, rfl, hj32⟩⟩ ?_
          rw [nI_1, lay_ne (show 181 ≠ 182 by decide), show L 181 (a + i) = F i by rw [← hF], show L 181 (b + (i ||| j)) = G (i ||| j) by rw [← hG], hs]
          refine cast ?_ ih2
          refine congrArg (V 37 _ [] I) (Eq.symm ?_)
          obtain ⟨e1, e2⟩ := cJ_hit (s := s) (f := F) (g := G) h3
          rw [lay_in hj32, lay_mu hj32]
          refine lay_cong (fun k hk => ?_)
          by_cases hkk : k = j
          · subst hkk
            rw [if_pos rfl, e1, e2, Int64.add_zero]
          · rw [if_neg hkk, cJ_miss (fun _ => hkk)]
        · refine ru_go hV 7 [(0, 0), (1, 0)] rfl rfl ⟨⟨trivial, nI_nge hj hB2⟩, (fun e => h3 ((andI0 hi32 hj32).mp e))⟩ ?_
          rw [nI_1]
          refine cast ?_ ih2
          refine congrArg (V 37 _ [] I) (Eq.symm ?_)
          exact lay_cong (fun k hk => by rw [cJ_miss (fun e => absurd e h3)])
      · refine ru_go hV 2 [] rfl rfl trivial ?_
        refine ru_S hV [.int (nI B)] sSL_8 (hbl _) rfl rfl rfl (Nat.le_of_ble_eq_true rfl) ?_
        refine ru_go hV 3 [(1, 0)] rfl rfl ⟨trivial, nI_le (Nat.le_refl B) hB2⟩ ?_
        rw [nI_1]
        exact ru_sub hV [0, 1, 2, 3, 4, 5] rfl ih
    · refine ru_go hV 2 [] rfl rfl trivial ?_
      refine ru_S hV [.int (nI B)] sSL_8 (hbl _) rfl rfl rfl (Nat.le_of_ble_eq_true rfl) ?_
      refine ru_fin hV 2 [(1, 0)] rfl rfl ⟨trivial, nI_le (Nat.le_refl B) hB2⟩ ?_
      exact ⟨rfl, rfl, rfl⟩
