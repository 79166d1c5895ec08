/-! shares and densities -/
def btw (lo hi : Int32) : Nat → Nat
  | 0 => 0
  | k + 1 => if lo ≤ nI (pc5 k) ∧ nI (pc5 k) ≤ hi then btw lo hi k + 1 else btw lo hi k
theorem btw_le (lo hi : Int32) : ∀ k, btw lo hi k ≤ k
  | 0 => Nat.le_refl _
  | k + 1 => by
    have := btw_le lo hi k
    unfold btw
    split <;> omega
theorem cnz_le (f : Nat → Int32) : ∀ k, cnz f k ≤ k
  | 0 => Nat.le_refl _
  | k + 1 => by
    have := cnz_le f k
    unfold cnz
    split <;> omega
def deQ (a b : Nat) : UInt32 := if b = 0 then 0 else FP.fdiv (FP.i2f (nI a)) (FP.i2f (nI b))
def deF (f : Nat → Int32) (B : Nat) : UInt32 := deQ (cnz f 32) (btw (loF f 32) (hiF f 32) B)
theorem de_nan : ∀ a, a < 33 → ∀ b, b < 33 → b ≠ 0 → (FP.fdiv (FP.i2f (nI a)) (FP.i2f (nI b))) &&& 0x7fffffff ≤ 0x7f800000 := by decide +kernel
theorem qX2_densityOf (l : Launch) {c B : Nat} (hc : kdC c = (1, 32, 0)) (hB : B ≤ 32) (I : IM) (L : LM) : KX2_densityOf l [.ref c, .int (nI B)] I L (some (.float (deF (I c) B))) I L := by
  refine wX2_densityOf l rfl (hz0 (by decide)) (fun V hV => ?_)
  refine ru_go hV 1 [] rfl rfl trivial ?_
  refine ru_S hV [] sSX2_18 (qX2_lowestGrade l hc I L) rfl rfl rfl (Nat.le_of_ble_eq_true rfl) ?_
  refine ru_go hV 2 [] rfl rfl trivial ?_
  refine ru_S hV [] sSX2_21 (qX2_highestGrade l hc I L) rfl rfl rfl (Nat.le_of_ble_eq_true rfl) ?_
  refine ru_go hV 5 [] rfl rfl trivial ?_
  refine loop0 (P := fun k => V 16 [(0, .ref c), (1, .int (nI B)), (2, .int (loF (I c) 32)), (3, .int (hiF (I c) 32)), (4, .int (nI (btw (loF (I c) 32) (hiF (I c) 32) k))), (5, .int (nI k))] [] I L) B (fun h => h) (fun k hk ih => ?_) ?_
  · refine ru_go hV 4 [(0, 0)] rfl rfl ⟨trivial, nI_nge hk (by omega)⟩ ?_
    refine ru_S hV [] sSX2_37 (qJ6_bitCount l (by omega) I L) rfl rfl rfl (Nat.le_of_ble_eq_true rfl) ?_
    by_cases h1 : loF (I c) 32 ≤ nI (pc5 k)
    · by_cases h2 : nI (pc5 k) ≤ hiF (I c) 32
      · refine ru_go hV 10 [(0, 0), (0, 0)] rfl rfl ⟨⟨trivial, Int32.not_lt.mpr h1⟩, Int32.not_lt.mpr h2⟩ ?_
        rw [nI_1, nI_1, show btw (loF (I c) 32) (hiF (I c) 32) k + 1 = btw (loF (I c) 32) (hiF (I c) 32) (k + 1) from (if_pos ⟨h1, h2⟩).symm]
        exact ru_sub hV [0, 1, 2, 3, 4, 5] rfl ih
      · refine ru_go hV 9 [(0, 0), (1, 0)] rfl rfl ⟨⟨trivial, Int32.not_lt.mpr h1⟩, Int32.not_le.mp h2⟩ ?_
        rw [nI_1, show btw (loF (I c) 32) (hiF (I c) 32) k = btw (loF (I c) 32) (hiF (I c) 32) (k + 1) from (if_neg (fun e => h2 e.2)).symm]
        exact ru_sub hV [0, 1, 2, 3, 4, 5] rfl ih
    · refine ru_go hV 6 [(1, 0)] rfl rfl ⟨trivial, Int32.not_le.mp h1⟩ ?_
      rw [nI_1, show btw (loF (I c) 32) (hiF (I c) 32) k = btw (loF (I c) 32) (hiF (I c) 32) (k + 1) from (if_neg (fun e => h1 e.1)).symm]
      exact ru_sub hV [0, 1, 2, 3, 4, 5] rfl ih
  · refine ru_go hV 3 [(1, 0)] rfl rfl ⟨trivial, nI_le (Nat.le_refl B) (by omega)⟩ ?_
    have hbl := btw_le (loF (I c) 32) (hiF (I c) 32) B
    have hcl := cnz_le (I c) 32
    have hde : deF (I c) B = deQ (cnz (I c) 32) (btw (loF (I c) 32) (hiF (I c) 32) B) := rfl
    generalize btw (loF (I c) 32) (hiF (I c) 32) B = b at hbl hde ⊢
    by_cases h : b = 0
    · subst h
      refine ru_fin hV 5 [(0, 0)] rfl rfl ⟨trivial, (by first | exact rfl | assumption | exact ⟨rfl, rfl⟩ | exact ⟨rfl, rfl, by omega⟩ | exact ⟨by assumption, rfl, by omega⟩ | exact ⟨⟨_, rfl, rfl⟩, by decide, by decide, rfl, by omega⟩ | omega | decide)⟩ ?_
      exact ⟨by rw [hde]; rfl, rfl, rfl⟩
    · refine ru_go hV 3 [(1, 0)] rfl rfl ⟨trivial, nI_ne0 (by omega) (by omega)⟩ ?_
      refine ru_S hV [] sSX2_9 (qX2_countNonzero l hc I L) rfl rfl rfl (Nat.le_of_ble_eq_true rfl) ?_
      refine ru_fin hV 5 [] rfl rfl ⟨trivial, (by unfold vf_n32; exact de_nan _ (by omega) _ (by omega) h)⟩ ?_
      exact ⟨by rw [hde, deQ, if_neg h]; rfl, rfl, rfl⟩
def shB (f : Nat → Int32) (n : Nat) : Int64 := sumL (fun k => (iabs (f k)).toInt64) n
def shA (f : Nat → Int32) (g : Int32) (n : Nat) : Int64 := sumL (fun k => if nI (pc5 k) = g then (iabs (f k)).toInt64 else 0) n
def shQ (a b : Int64) : UInt64 := if b = 0 then 0 else FP.ddiv (FP.l2d a) (FP.l2d b)
theorem qX2_shareOf (l : Launch) {c : Nat} {g : Int32} (hc : kdC c = (1, 32, 0)) {I : IM} (hv : vf_n64 (shQ (shA (I c) g 32) (shB (I c) 32))) (L : LM) : KX2_shareOf l [.ref c, .int g] I L (some (.double (shQ (shA (I c) g 32) (shB (I c) 32)))) I L := by
  refine wX2_shareOf l rfl (hz0 (by decide)) (fun V hV => ?_)
  refine ru_go hV 6 [] rfl rfl trivial ?_
  refine loop0 (P := fun k => V 8 [(0, .ref c), (1, .int g), (2, .long (shA (I c) g k)), (4, .long (shB (I c) k)), (6, .int (nI k))] [] I L) 32 (fun h => h) (fun k hk ih => ?_) ?_
  · refine ru_go hV 6 [(0, 0), (k, 32)] rfl rfl ⟨⟨trivial, nI32_ge hk⟩, (by first | exact rfl | assumption | exact ⟨rfl, rfl⟩ | exact ⟨rfl, rfl, by omega⟩ | exact ⟨by assumption, rfl, by omega⟩ | exact ⟨⟨_, rfl, rfl⟩, by decide, by decide, rfl, by omega⟩ | omega | decide)⟩ ?_
    refine ru_S hV [] sSX2_43 (qJ9_abs l (I c k) I L) rfl rfl rfl (Nat.le_of_ble_eq_true rfl) ?_
    refine ru_go hV 7 [] rfl rfl trivial ?_
    refine ru_S hV [] sSX2_37 (qJ6_bitCount l hk I L) rfl rfl rfl (Nat.le_of_ble_eq_true rfl) ?_
    by_cases h : nI (pc5 k) = g
    · refine ru_go hV 8 [(0, 0)] rfl rfl ⟨trivial, (fun e => e h)⟩ ?_
      rw [nI_1]
      refine ru_sub hV [0, 1, 2, 3, 4] rfl ?_
      rw [show shA (I c) g (k + 1) = shA (I c) g k + (iabs (I c k)).toInt64 by simp only [shA, sumL, h, if_true]] at ih
      exact ih
    · refine ru_go hV 4 [(1, 0)] rfl rfl ⟨trivial, h⟩ ?_
      rw [nI_1]
      refine ru_sub hV [0, 1, 2, 3, 4] rfl ?_
      rw [show shA (I c) g (k + 1) = shA (I c) g k by simp only [shA, sumL, h, if_false]; exact Int64.add_zero _] at ih
      exact ih
  · refine ru_go hV 3 [(1, 0)] rfl rfl ⟨trivial, (by first | exact rfl | assumption | exact ⟨rfl, rfl⟩ | exact ⟨rfl, rfl, by omega⟩ | exact ⟨by assumption, rfl, by omega⟩ | exact ⟨⟨_, rfl, rfl⟩, by decide, by decide, rfl, by omega⟩ | omega | decide)⟩ ?_
    generalize shA (I c) g 32 = a at hv hV ⊢
    generalize shB (I c) 32 = b at hv hV ⊢
    by_cases h : b = 0
    · refine ru_fin hV 7 [(0, 0)] rfl rfl ⟨trivial, (fun e => e ((lg_cmp_eq _ _).mpr h))⟩ ?_
      exact ⟨by rw [shQ, if_pos h]; rfl, rfl, rfl⟩
    · rw [shQ, if_neg h] at hv
      refine ru_fin hV 10 [(1, 0)] rfl rfl ⟨⟨trivial, (fun e => h ((lg_cmp_eq _ _).mp e))⟩, hv⟩ ?_
      exact ⟨by rw [shQ, if_neg h]; rfl, rfl, rfl⟩
