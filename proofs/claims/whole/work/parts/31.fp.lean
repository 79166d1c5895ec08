/-! shares and densities -/
def btw (lo hi : Int32) : Nat → Nat
  | 0 => 0
  | k + 1 => if lo ≤ nI (pc5 k) ∧ nI (pc5 k) ≤ hi then btw lo hi k + 1 else btw lo hi k
theorem btw_le (lo hi : Int32) : ∀ k, btw lo hi k ≤ k
  | 0 => Nat.le_refl _
  | k + 1 => by
    have := btw_le lo hi k
    unfold btw
    split <;> omega
theorem cnz_le (f : Nat → Int32) : ∀ k, cnz f k ≤ k
  | 0 => Nat.le_refl _
  | k + 1 => by
    have := cnz_le f k
    unfold cnz
    split <;> omega
def deQ (a b : Nat) : UInt32 := if b = 0 then 0 else FP.fdiv (FP.i2f (nI a)) (FP.i2f (nI b))
def deF (f : Nat → Int32) (B : Nat) : UInt32 := deQ (cnz f 32) (btw (loF f 32) (hiF f 32) B)
theorem de_nan : ∀ a, a < 33 → ∀ b, b < 33 → b ≠ 0 → (FP.fdiv (FP.i2f (nI a)) (FP.i2f (nI b))) &&& 0x7fffffff ≤ 0x7f800000 := by decide +kernel
theorem qX2_densityOf (l : Launch) {c B : Nat} (hc : kdC c = (1, 32, 0)) (hB : B ≤ 32) (I : IM) (L : LM) : KX2_densityOf l [.ref c, .int (nI B)] I L (some (.float (deF (I c) B))) I L := by
  refine wX2_densityOf l rfl (hz0 (by decide)) (fun V hV => ?_)
  refine ru_go hV 1 [] rfl rfl trivial ?_
  refine ru_S hV [] sSX2_18 (qX2_lowestGrade l hc I L) rfl rfl rfl (Nat.le_of_ble_eq_true rfl) ?_
  refine ru_go hV 2 [] rfl rfl trivial ?_
  refine ru_S hV [] sSX2_21 (qX2_highestGrade l hc I L) rfl rfl rfl (Nat.le_of_ble_eq_true rfl) ?_
  refine ru_go hV 5 [] rfl rfl trivial ?_
  refine loop0 (P := fun k => V 16 [(0, .ref c), (1, .int (nI B)), (2, .int (loF (I c) 32)), (3, .int (hiF (I c) 32)), (4, .int (nI (btw (loF (I c) 32) (hiF (I c) 32) k))), (5, .int (nI k))] [] I L) B (fun h => h) (fun k hk ih => ?_) ?_
  · refine ru_go hV 4 [(0, 0)] rfl rfl ⟨trivial, nI_nge hk (by omega)⟩ ?_
    refine ru_S hV [] sSX2_37 (qJ6_bitCount l (by omega) I L) rfl rfl rfl (Nat.le_of_ble_eq_true rfl) ?_
    by_cases h1 : loF (I c) 32 ≤ nI (pc5 k)
    · by_cases h2 : nI (pc5 k) ≤ hiF (I c) 32
      · refine ru_go hV 10 [(0, 0), (0, 0)] rfl rfl ⟨⟨trivial, Int32.not_lt.mpr h1⟩, Int32.not_lt.mpr h2⟩ ?_
        rw [nI_1, nI_1, show btw (loF (I c) 32) (hiF (I c) 32) k + 1 = btw (loF (I c) 32) (hiF (I c) 32) (k + 1) from (if_pos ⟨h1, h2⟩).symm]
        exact ru_sub hV [0, 1, 2, 3, 4, 5] rfl ih
      · refine ru_go hV 9 [(0, 0), (1, 0)] rfl rfl ⟨⟨trivial, Int32.not_lt.mpr h1⟩, Int32.not_le.mp h2⟩ ?_
        rw [nI_1, show btw (loF (I c) 32) (hiF (I c) 32) k = btw (loF (I c) 32) (hiF (I c) 32) (k + 1) from (if_neg (fun e => h2 e.2)).symm]
        exact ru_sub hV [0, 1, 2, 3, 4, 5] rfl ih
    · refine ru_go hV 6 [(1, 0)] rfl rfl ⟨trivial, Int32.not_le.mp h1⟩ ?_
      rw [nI_1, show btw (loF (I c) 32) (hiF (I c) 32) k = btw (loF (I c) 32) (hiF (I c) 32) (k + 1) from (if_neg (fun e => h1 e.1)).symm]
      exact ru_sub hV [0, 1, 2, 3, 4, 5] rfl ih
  · refine ru_go hV 3 [(1, 0)] rfl rfl ⟨trivial, nI_le (Nat.le_refl B) (by omega)⟩ ?_
    have hbl := btw_le (loF (I c) 32) (hiF (I c) 32) B
    have hcl := cnz_le (I c) 32
    have hde : deF (I c) B = deQ (cnz (I c) 32) (btw (loF (I c) 32) (hiF (I c) 32) B) := rfl
    generalize btw (loF (I c) 32) (hiF (I c) 32) B = b at hbl hde ⊢
    by_cases h : b = 0
    · subst h
      refine ru_fin hV 5 [(0, 0)] rfl rfl ⟨trivial, (by first | exact rfl | assumption | exact ⟨rfl, rfl⟩ | exact ⟨rfl, rfl, by omega⟩ | exact ⟨by assumption, rfl, by omega⟩ | exact ⟨⟨_, rfl, rfl⟩, by decide, by decide, rfl, by omega⟩ | omega | decide)⟩ ?_
      exact ⟨by rw [hde]; rfl, rfl, rfl⟩
    · refine ru_go hV 3 [(1, 0)] rfl rfl ⟨trivial, nI_ne0 (by omega) (by omega)⟩ ?_
      refine ru_S hV [] sSX2_9 (qX2_countNonzero l hc I L) rfl rfl rfl (Nat.le_of_ble_eq_true rfl) ?_
      refine ru_fin hV 5 [] rfl rfl ⟨trivial, (by unfold vf_n32; exact de_nan _ (by omega) _ (by omega) h)⟩ ?_
      exact ⟨by rw [hde, deQ, if_neg h]; rfl, rfl, rfl⟩
def shB (f : Nat → Int32) (n : Nat) : Int64 := sumL (fun k => (iabs (f k)).toInt64) n
def shA (f : Nat → Int32) (g : Int32) (n : Nat) : Int64 := sumL (fun k => if nI (pc5 k) = g then (iabs (f k)).toInt64 else 0) n
def shQ (a b : Int64) : UInt64 := if b = 0 then 0 else FP.ddiv (FP.l2d a) (FP.l2d b)
theorem qX2_shareOf (l : Launch) {c : Nat} {g : Int32} (hc : kdC c = (1, 32, 0)) {I : IM} (hv : vf_n64 (shQ (shA (I c) g 32) (shB (I c) 32))) (L : LM) : KX2_shareOf l [.ref c, .int g] I L (some (.double (shQ (shA (I c) g 32) (shB (I c) 32)))) I L := by
  refine wX2_shareOf l rfl (hz0 (by decide)) (fun V hV => ?_)
  refine ru_go hV 6 [] rfl rfl trivial ?_
  refine loop0 (P := fun k => V 8 [(0, .ref c), (1, .int g), (2, .long (shA (I c) g k)), (4, .long (shB (I c) k)), (6, .int (nI k))] [] I L) 32 (fun h => h) (fun k hk ih => ?_) ?_
  · refine ru_go hV 6 [(0, 0), (k, 32)] rfl rfl ⟨⟨trivial, nI32_ge hk⟩, (by first | exact rfl | assumption | exact ⟨rfl, rfl⟩ | exact ⟨rfl, rfl, by omega⟩ | exact ⟨by assumption, rfl, by omega⟩ | exact ⟨⟨_, rfl, rfl⟩, by decide, by decide, rfl, by omega⟩ | omega | decide)⟩ ?_
    refine ru_S hV [] sSX2_43 (qJ9_abs l (I c k) I L) rfl rfl rfl (Nat.le_of_ble_eq_true rfl) ?_
    refine ru_go hV 7 [] rfl rfl trivial ?_
    refine ru_S hV [] sSX2_37 (qJ6_bitCount l hk I L) rfl rfl rfl (Nat.le_of_ble_eq_true rfl) ?_
    by_cases h : nI (pc5 k) = g
    · refine ru_go hV 8 [(0, 0)] rfl rfl ⟨trivial, (fun e => e h)⟩ ?_
      rw [nI_1]
      refine ru_sub hV [0, 1, 2, 3, 4] rfl ?_
      rw [show shA (I c) g (k + 1) = shA (I c) g k + (iabs (I c k)).toInt64 by simp only [shA, sumL, h, if_true]] at ih
      exact ih
    · refine ru_go hV 4 [(1, 0)] rfl rfl ⟨trivial, h⟩ ?_
      rw [nI_1]
      refine ru_sub hV [0, 1, 2, 3, 4] rfl ?_
      rw [show shA (I c) g (k + 1) = shA (I c) g k by simp only [shA, sumL, h, if_false]; exact Int64.add_zero _] at ih
      exact ih
  · refine ru_go hV 3 [(1, 0)] rfl rfl ⟨trivial, (by first | exact rfl | assumption | exact ⟨rfl, rfl⟩ | exact ⟨rfl, rfl, by omega⟩ | exact ⟨by assumption, rfl, by omega⟩ | exact ⟨⟨_, rfl, rfl⟩, by decide, by decide, rfl, by omega⟩ | omega | decide)⟩ ?_
    generalize shA (I c) g 32 = a at hv hV ⊢
    generalize shB (I c) 32 = b at hv hV ⊢
    by_cases h : b = 0
    · refine ru_fin hV 7 [(0, 0)] rfl rfl ⟨trivial, (fun e => e ((lg_cmp_eq _ _).mpr h))⟩ ?_
      exact ⟨by rw [shQ, if_pos h]; rfl, rfl, rfl⟩
    · rw [shQ, if_neg h] at hv
      refine ru_fin hV 10 [(1, 0)] rfl rfl ⟨⟨trivial, (fun e => h ((lg_cmp_eq _ _).mp e))⟩, hv⟩ ?_
      exact ⟨by rw [shQ, if_neg h]; rfl, rfl, rfl⟩
/-! the bits of shares and densities -/
def okf (r : UInt32) : Bool := decide (r &&& 0x7fffffff ≤ 0x7f800000)
def okd (r : UInt64) : Bool := decide (r &&& 0x7fffffffffffffff ≤ 0x7ff0000000000000)
theorem okf_n {r : UInt32} (h : okf r = true) : vf_n32 r := of_decide_eq_true (p := r &&& 0x7fffffff ≤ 0x7f800000) h
theorem okd_n {r : UInt64} (h : okd r = true) : vf_n64 r := of_decide_eq_true (p := r &&& 0x7fffffffffffffff ≤ 0x7ff0000000000000) h
def cmf (x y : UInt32) : Int32 := Op.cmpValue (FP.fcmp x y) .g
def cmd (x y : UInt64) : Int32 := Op.cmpValue (FP.dcmp x y) .g
def fbO : Nat → UInt32 → Int32 → Option (UInt32 × Int32)
  | 0, x, e => some (x, e)
  | k + 1, x, e => if 0 ≤ cmf x 1065353216 then some (x, e) else if okf (FP.fmul x 1073741824) then fbO k (FP.fmul x 1073741824) (e + -1) else none
def fbE : Option (UInt32 × Int32) → Option Int32
  | none => none
  | some (y, e) => if okf (FP.fsub y 1065353216) && okf (FP.fmul (FP.fsub y 1065353216) 1258291200) then some (e <<< (23 &&& 31) + FP.f2i (FP.fmul (FP.fsub y 1065353216) 1258291200)) else none
def fbR (x : UInt32) : Option Int32 := if 0 < cmf x 0 then fbE (fbO 126 x 127) else some 0
theorem qX0_ofFloat (l : Launch) {x : UInt32} {r : Int32} (h : fbR x = some r) (I : IM) (L : LM) : KX0_ofFloat l [.float x] I L (some (.int r)) I L := by
  refine wX0_ofFloat l rfl (hz0 (by decide)) (fun V hV => ?_)
  unfold fbR at h
  by_cases h0 : 0 < cmf x 0
  · rw [if_pos h0] at h
    refine ru_go hV 10 [(1, 0)] rfl rfl ⟨trivial, h0⟩ ?_
    have key : ∀ k i (y : UInt32) (e : Int32), i + k = 126 → fbE (fbO k y e) = some r → V 15 [(0, .float x), (1, .float y), (2, .int e), (3, .int (nI i))] [] I L := by
      have fin : ∀ i (y : UInt32) (e : Int32), fbE (some (y, e)) = some r → V 40 [(0, .float x), (1, .float y), (2, .int e), (3, .int (nI i))] [] I L := fun i y e he => by
        unfold fbE at he
        simp only [Bool.and_eq_true, okf, decide_eq_true_eq] at he
        split at he
        · rename_i hh
          cases he
          refine ru_fin hV 11 [] rfl rfl ⟨⟨trivial, hh.1⟩, hh.2⟩ ?_
          exact ⟨rfl, rfl, rfl⟩
        · cases he
      intro k
      induction k with
      | zero =>
        intro i y e hi he
        refine ru_go hV 3 [(1, 0)] rfl rfl ⟨trivial, nI_le (a := 126) (b := i) (by omega) (by omega)⟩ ?_
        exact fin i y e he
      | succ k ih =>
        intro i y e hi he
        unfold fbO at he
        by_cases h1 : 0 ≤ cmf y 1065353216
        · rw [if_pos h1] at he
          refine ru_go hV 7 [(0, 0), (1, 0)] rfl rfl ⟨⟨trivial, nI_nge (n := 126) (by omega) (by omega)⟩, h1⟩ ?_
          exact fin i y e he
        · rw [if_neg h1] at he
          by_cases h2 : okf (FP.fmul y 1073741824) = true
          · rw [if_pos h2] at he
            refine ru_go hV 14 [(0, 0), (0, 0)] rfl rfl ⟨⟨⟨trivial, nI_nge (n := 126) (by omega) (by omega)⟩, h1⟩, okf_n h2⟩ ?_
            rw [nI_1]
            exact ih (i + 1) _ _ (by omega) he
          · rw [if_neg h2] at he
            cases he
    exact key 126 0 x 127 rfl h
  · rw [if_neg h0] at h
    cases h
    refine ru_fin hV 6 [(0, 0)] rfl rfl ⟨trivial, h0⟩ ?_
    exact ⟨rfl, rfl, rfl⟩
def dbO : Nat → UInt64 → Int64 → Option (UInt64 × Int64)
  | 0, x, e => some (x, e)
  | k + 1, x, e => if 0 ≤ cmd x 4607182418800017408 then some (x, e) else if okd (FP.dmul x 4611686018427387904) then dbO k (FP.dmul x 4611686018427387904) (e - 1) else none
def dbE : Option (UInt64 × Int64) → Option Int64
  | none => none
  | some (y, e) => if okd (FP.dsub y 4607182418800017408) && okd (FP.dmul (FP.dsub y 4607182418800017408) 4841369599423283200) then some (e <<< ((52 : Int32).toInt64 &&& 63) + FP.d2l (FP.dmul (FP.dsub y 4607182418800017408) 4841369599423283200)) else none
def dbR (x : UInt64) : Option Int64 := if 0 < cmd x 0 then dbE (dbO 1022 x 1023) else some 0
theorem qX0_ofDouble (l : Launch) {x : UInt64} {r : Int64} (h : dbR x = some r) (I : IM) (L : LM) : KX0_ofDouble l [.double x] I L (some (.long r)) I L := by
  refine wX0_ofDouble l rfl (hz0 (by decide)) (fun V hV => ?_)
  unfold dbR at h
  by_cases h0 : 0 < cmd x 0
  · rw [if_pos h0] at h
    refine ru_go hV 10 [(1, 0)] rfl rfl ⟨trivial, h0⟩ ?_
    have key : ∀ k i (y : UInt64) (e : Int64), i + k = 1022 → dbE (dbO k y e) = some r → V 18 [(0, .double x), (2, .double y), (4, .long e), (6, .int (nI i))] [] I L := by
      have fin : ∀ i (y : UInt64) (e : Int64), dbE (some (y, e)) = some r → V 50 [(0, .double x), (2, .double y), (4, .long e), (6, .int (nI i))] [] I L := fun i y e he => by
        unfold dbE at he
        simp only [Bool.and_eq_true, okd, decide_eq_true_eq] at he
        split at he
        · rename_i hh
          cases he
          refine ru_fin hV 11 [] rfl rfl ⟨⟨trivial, hh.1⟩, hh.2⟩ ?_
          exact ⟨rfl, rfl, rfl⟩
        · cases he
      intro k
      induction k with
      | zero =>
        intro i y e hi he
        refine ru_go hV 3 [(1, 0)] rfl rfl ⟨trivial, nI_le (a := 1022) (b := i) (by omega) (by omega)⟩ ?_
        exact fin i y e he
      | succ k ih =>
        intro i y e hi he
        unfold dbO at he
        by_cases h1 : 0 ≤ cmd y 4607182418800017408
        · rw [if_pos h1] at he
          refine ru_go hV 7 [(0, 0), (1, 0)] rfl rfl ⟨⟨trivial, nI_nge (n := 1022) (by omega) (by omega)⟩, h1⟩ ?_
          exact fin i y e he
        · rw [if_neg h1] at he
          by_cases h2 : okd (FP.dmul y 4611686018427387904) = true
          · rw [if_pos h2] at he
            refine ru_go hV 17 [(0, 0), (0, 0)] rfl rfl ⟨⟨⟨trivial, nI_nge (n := 1022) (by omega) (by omega)⟩, h1⟩, okd_n h2⟩ ?_
            rw [nI_1]
            exact ih (i + 1) _ _ (by omega) he
          · rw [if_neg h2] at he
            cases he
    have h' : ∀ N, N = 1022 → dbE (dbO N x 1023) = some r := fun N hN => by rw [hN]; exact h
    exact key 1022 0 x 1023 rfl (h' 1022 rfl)
  · rw [if_neg h0] at h
    cases h
    refine ru_fin hV 6 [(0, 0)] rfl rfl ⟨trivial, h0⟩ ?_
    exact ⟨rfl, rfl, rfl⟩
