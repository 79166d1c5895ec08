/-! the reference: divisors, the basis, tests, factors -/
def nL (m : Nat) : Int64 := Int64.ofInt (m : Int)
theorem nL_toInt {m : Nat} (h : m < 2 ^ 63) : (nL m).toInt = (m : Int) := Int64.toInt_ofInt_of_le (by omega) (by omega)
theorem nL_inj {a b : Nat} (ha : a < 2 ^ 63) (hb : b < 2 ^ 63) (h : nL a = nL b) : a = b := by
  have := congrArg Int64.toInt h
  rw [nL_toInt ha, nL_toInt hb] at this
  omega
theorem bm64 {x : Int} (h1 : -2 ^ 63 ≤ x) (h2 : x < 2 ^ 63) : x.bmod (2 ^ 64) = x := by
  rw [← Int64.toInt_ofInt_of_le h1 h2, Int64.toInt_ofInt]
  exact Int.bmod_bmod
theorem nL_div {x y : Nat} (hx : x < 2 ^ 63) (hy : y < 2 ^ 63) : nL x / nL y = nL (x / y) := by
  have h3 : x / y < 2 ^ 63 := Nat.lt_of_le_of_lt (Nat.div_le_self x y) hx
  apply Int64.toInt_inj.mp
  rw [Int64.toInt_div, nL_toInt hx, nL_toInt hy, nL_toInt h3, ← Int.ofNat_tdiv]
  generalize x / y = z at h3
  exact bm64 (by omega) (by omega)
theorem nL_rem {x y : Nat} (hx : x < 2 ^ 63) (hy : y < 2 ^ 63) : nL x - nL x / nL y * nL y = nL (x % y) := by
  rw [nL_div hx hy]
  unfold nL
  rw [← Int64.ofInt_mul, ← Int64.ofInt_sub]
  congr 1
  have h := Nat.div_add_mod x y
  have h2 : (x : Int) = ((y * (x / y) + x % y : Nat) : Int) := by rw [h]
  rw [h2, Int.natCast_add, Int.natCast_mul]
  rw [Int.mul_comm, Int.add_comm, Int.add_sub_cancel]
theorem labs_n {x : Int64} (h : x ≠ Int64.minValue) : labs x = nL x.toInt.natAbs := by
  have hb := Int64.le_toInt x
  have hb2 := Int64.toInt_lt x
  have hm : x.toInt ≠ -2 ^ 63 := fun e => h (Int64.toInt_inj.mp (by rw [e]; rfl))
  unfold labs
  by_cases e : x < 0
  · rw [if_pos e]
    have e2 : x.toInt < 0 := Int64.lt_iff_toInt_lt.mp e
    apply Int64.toInt_inj.mp
    rw [Int64.toInt_neg, nL_toInt (by omega), bm64 (by omega) (by omega)]
    omega
  · rw [if_neg e]
    have e2 : ¬ x.toInt < 0 := fun z => e (Int64.lt_iff_toInt_lt.mpr z)
    apply Int64.toInt_inj.mp
    rw [nL_toInt (by omega)]
    omega
theorem natAbs_lt {x : Int64} (h : x ≠ Int64.minValue) : x.toInt.natAbs < 2 ^ 63 := by
  have hb := Int64.le_toInt x
  have hb2 := Int64.toInt_lt x
  have hm : x.toInt ≠ -2 ^ 63 := fun e => h (Int64.toInt_inj.mp (by rw [e]; rfl))
  omega
theorem qX8_divisor (l : Launch) {a b : Int64} (ha : a ≠ Int64.minValue) (hb : b ≠ Int64.minValue) (I : IM) (L : LM) : KX8_divisor l [.long a, .long b] I L (some (.long (nL (Nat.gcd a.toInt.natAbs b.toInt.natAbs)))) I L := by
  refine wX8_divisor l rfl (hz0 (by decide)) (fun V hV => ?_)
  have hx := natAbs_lt ha
  have hy := natAbs_lt hb
  have ex := labs_n ha
  have ey := labs_n hb
  generalize a.toInt.natAbs = x at hx ex hV
  generalize b.toInt.natAbs = y at hy ey hV
  have key : ∀ y x, x < 2 ^ 63 → y < 2 ^ 63 → (∀ V : Nat → LV → List Value → IM → LM → Prop, Ru l kdR 12 RX8 cX8_divisor rmX8_divisor FX8 tX8_divisor V (fun st J K => st = (some (Value.long (nL (Nat.gcd x y)))).toList ∧ J = I ∧ K = L) → V 28 [(0, .long a), (2, .long b), (4, .long (nL x)), (6, .long (nL y))] [] I L) := by
    intro y
    induction y using Nat.strongRecOn with
    | ind y ih =>
      intro x hx hy V hV
      by_cases e : y = 0
      · subst e
        rw [Nat.gcd_zero_right] at hV
        refine ru_fin hV 6 [(1, 0)] rfl rfl ⟨trivial, (lg_cmp0 _ _).mpr rfl⟩ ?_
        exact ⟨rfl, rfl, rfl⟩
      · have hne : nL y ≠ 0 := fun z => e (nL_inj (b := 0) hy (by decide) z)
        have hr : x % y < y := Nat.mod_lt _ (by omega)
        refine ru_go hV 13 [(0, 0)] rfl rfl ⟨⟨trivial, (fun z => hne ((lg_cmp0 _ _).mp z))⟩, hne⟩ ?_
        rw [nL_rem hx hy]
        refine ru_sub hV [0, 1, 2, 3] rfl (ih (x % y) hr y hy (by omega) V ?_)
        rw [show Nat.gcd y (x % y) = Nat.gcd x y by rw [Nat.gcd_comm y, ← Nat.gcd_rec, Nat.gcd_comm]]
        exact hV
  have tl : V 12 [(0, .long a), (2, .long b)] [.long (labs a)] I L := by
    have t2 : V 26 [(0, .long a), (2, .long b), (4, .long (labs a))] [.long (labs b)] I L := by
      rw [ex, ey]
      refine ru_go hV 1 [] rfl rfl trivial ?_
      exact key y x hx hy V hV
    by_cases e : b < 0
    · rw [show labs b = -b from if_pos e] at t2
      refine ru_go hV 8 [(0, 0)] rfl rfl ⟨trivial, (fun z => absurd ((lg_cmp_lt _ _).mpr e) (Int32.not_lt.mpr z))⟩ ?_
      exact t2
    · rw [show labs b = b from if_neg e] at t2
      refine ru_go hV 6 [(1, 0)] rfl rfl ⟨trivial, Int32.not_lt.mp (fun z => e ((lg_cmp_lt _ _).mp z))⟩ ?_
      exact t2
  by_cases e : a < 0
  · rw [show labs a = -a from if_pos e] at tl
    refine ru_go hV 7 [(0, 0)] rfl rfl ⟨trivial, (fun z => absurd ((lg_cmp_lt _ _).mpr e) (Int32.not_lt.mpr z))⟩ ?_
    exact tl
  · rw [show labs a = a from if_neg e] at tl
    refine ru_go hV 5 [(1, 0)] rfl rfl ⟨trivial, Int32.not_lt.mp (fun z => e ((lg_cmp_lt _ _).mp z))⟩ ?_
    exact tl
/-- the common divisor of a vector's numbers -/
def gF (G : GS) (h : Nat) : Nat → Nat
  | 0 => 0
  | d + 1 => Nat.gcd (gF G h d) (rawF G h d).toInt.natAbs
def bsR (G : GS) (n h d : Nat) : Int32 := (rawF G h d / (if G.2.2.1 < 0 then -(nL (gF G h n)) else nL (gF G h n))).toInt32
def baG (G : GS) (n p d : Nat) : Int32 := match hdO G n p with
  | none => NON
  | some h => bsR G n h d
/-- the numbers of the vectors are no least ones -/
def rwOK (G : GS) (n : Nat) : Prop := ∀ h, h < n → G.2.2.2 h = none → ∀ d, d < n → rawF G h d ≠ Int64.minValue
theorem gF_lt {G : GS} {n h : Nat} (hh : h < n) (hf : G.2.2.2 h = none) (hr : rwOK G n) : ∀ d, d ≤ n → gF G h d < 2 ^ 63
  | 0, _ => by show 0 < 2 ^ 63; decide
  | d + 1, hd => by
    have ih := gF_lt hh hf hr d (by omega)
    have h2 := natAbs_lt (hr h hh hf d (by omega))
    rw [gF]
    by_cases e : (rawF G h d).toInt.natAbs = 0
    · rw [e, Nat.gcd_zero_right]; exact ih
    · exact Nat.lt_of_le_of_lt (Nat.gcd_le_right _ (by omega)) h2
theorem gF_dvd {G : GS} {h : Nat} : ∀ d j, j < d → gF G h d ∣ (rawF G h j).toInt.natAbs
  | 0, _, hj => absurd hj (by omega)
  | d + 1, j, hj => by
    rw [gF]
    by_cases e : j = d
    · rw [e]; exact Nat.gcd_dvd_right _ _
    · exact Nat.dvd_trans (Nat.gcd_dvd_left _ _) (gF_dvd d j (by omega))
theorem hdF_lt {po : Nat → Option Nat} : ∀ {k c left h : Nat}, hdF po k c left = some h → c ≤ h ∧ h < c + k ∧ po h = none
  | 0, _, _, _, e => by cases e
  | k + 1, c, left, h, e => by
    rw [hdF] at e
    split at e
    · rename_i hn
      split at e
      · cases e
        exact ⟨Nat.le_refl _, by omega, by simpa using hn⟩
      · have := hdF_lt e
        exact ⟨by omega, by omega, this.2.2⟩
    · have := hdF_lt e
      exact ⟨by omega, by omega, this.2.2⟩
theorem qX8_basisOf (l : Launch) {p d n : Nat} (hn : n ≤ 5) (hp : p < 2 ^ 30) (hdn : d < n) {I : IM} {L : LM} {G : GS} (hd : I 1 0 = nI n) (hG : GR n n I L G) (hpo : poLt G.2.2.2 n) (hp0 : G.2.2.1 ≠ 0) (hr : rwOK G n) : KX8_basisOf l [.ref 0, .int (nI p), .int (nI d)] I L (some (.int (baG G n p d))) I L := by
  refine wX8_basisOf l rfl (hz0 (by decide)) (fun V hV => ?_)
  have hh := qX8_headOf l hn hp hd hG hpo
  refine ru_go hV 2 [] rfl rfl trivial ?_
  refine ru_V hV [] sVX8_241 hh rfl rfl rfl rfl rfl (Nat.le_of_ble_eq_true rfl) ?_
  cases ho : hdO G n p with
  | none =>
    rw [show baG G n p d = NON by unfold baG; rw [ho]] at hV
    refine ru_fin hV 6 [(0, 0)] rfl rfl ⟨trivial, (fun e => e rfl)⟩ ?_
    exact ⟨rfl, rfl, rfl⟩
  | some h =>
    rw [show baG G n p d = bsR G n h d by unfold baG; rw [ho]] at hV
    have hhn : h < n := by have := (hdF_lt ho).2.1; omega
    have hhf : G.2.2.2 h = none := (hdF_lt ho).2.2
    have hg0 : gF G h n ≠ 0 := fun e => by
      have h1 := gF_dvd (G := G) (h := h) n h hhn
      rw [e] at h1
      have h2 := Nat.eq_zero_of_zero_dvd h1
      rw [rawF, if_pos rfl] at h2
      exact hp0 (Int64.toInt_inj.mp (by have : G.2.2.1.toInt = 0 := by omega
                                        rw [this]; rfl))
    have hgl := gF_lt hhn hhf hr n (Nat.le_refl n)
    show V 5 [(0, .ref 0), (1, .int (nI p)), (2, .int (nI d))] [.int (nI h)] I L
    refine ru_go hV 8 [(1, 0)] rfl rfl ⟨trivial, NON_ne (by omega)⟩ ?_
    refine loop0 (P := fun k => V 21 [(0, .ref 0), (1, .int (nI p)), (2, .int (nI d)), (3, .int (nI h)), (4, .long (nL (gF G h k))), (6, .int (nI k))] [] I L) n (fun h => h) (fun k hk ih => ?_) ?_
    · refine ru_go hV 10 [(1, 0), (0, 296), (0, 0)] rfl rfl ⟨⟨⟨trivial, (by first | exact rfl | assumption | exact ⟨rfl, rfl⟩ | exact ⟨rfl, rfl, by omega⟩ | exact ⟨by assumption, rfl, by omega⟩ | exact ⟨⟨_, rfl, rfl⟩, by decide, by decide, rfl, by omega⟩ | omega | decide)⟩, (by first | exact rfl | assumption | exact ⟨rfl, rfl⟩ | exact ⟨rfl, rfl, by omega⟩ | exact ⟨by assumption, rfl, by omega⟩ | exact ⟨⟨_, rfl, rfl⟩, by decide, by decide, rfl, by omega⟩ | omega | decide)⟩, (by rw [hd]; exact nI_nge hk (by omega))⟩ ?_
      refine ru_V hV [.long _] sVX8_244 (qX8_rawOf l hn hhn hk hG hpo) rfl rfl rfl rfl rfl (Nat.le_of_ble_eq_true rfl) ?_
      have hgk := gF_lt hhn hhf hr k (by omega)
      have hdv := qX8_divisor l (a := nL (gF G h k)) (b := rawF G h k) (fun e => by
        have := congrArg Int64.toInt e
        rw [nL_toInt hgk] at this
        have h3 : (Int64.minValue).toInt = -2 ^ 63 := rfl
        omega) (hr h hhn hhf k hk) I L
      rw [nL_toInt hgk, Int.natAbs_natCast] at hdv
      refine ru_S hV [] sSX8_247 hdv rfl rfl rfl (Nat.le_of_ble_eq_true rfl) ?_
      refine ru_go hV 3 [] rfl rfl trivial ?_
      rw [nI_1]
      exact ru_sub hV [0, 1, 2, 3, 4, 5] rfl ih
    · have hne : nL (gF G h n) ≠ 0 := fun z => hg0 (nL_inj (b := 0) hgl (by decide) z)
      obtain ⟨-, -, h3, -⟩ := id hG
      unfold bsR at hV
      by_cases e : G.2.2.1 < 0
      · rw [if_pos e] at hV
        have hne2 : -(nL (gF G h n)) ≠ 0 := fun z => hne (by rw [show nL (gF G h n) = -(-(nL (gF G h n))) from Int64.neg_neg.symm, z]; rfl)
        refine ru_go hV 18 [(1, 0), (0, 296), (1, 0), (0, 0)] rfl rfl ⟨⟨⟨⟨⟨trivial, (by first | exact rfl | assumption | exact ⟨rfl, rfl⟩ | exact ⟨rfl, rfl, by omega⟩ | exact ⟨by assumption, rfl, by omega⟩ | exact ⟨⟨_, rfl, rfl⟩, by decide, by decide, rfl, by omega⟩ | omega | decide)⟩, (by first | exact rfl | assumption | exact ⟨rfl, rfl⟩ | exact ⟨rfl, rfl, by omega⟩ | exact ⟨by assumption, rfl, by omega⟩ | exact ⟨⟨_, rfl, rfl⟩, by decide, by decide, rfl, by omega⟩ | omega | decide)⟩, (by rw [hd]; exact nI_le (Nat.le_refl n) (by omega))⟩, (by first | exact rfl | assumption | exact ⟨rfl, rfl⟩ | exact ⟨rfl, rfl, by omega⟩ | exact ⟨by assumption, rfl, by omega⟩ | exact ⟨⟨_, rfl, rfl⟩, by decide, by decide, rfl, by omega⟩ | omega | decide)⟩, (fun z => absurd ((lg_cmp_lt _ _).mpr (by rw [h3]; exact e)) (Int32.not_lt.mpr z))⟩ ?_
        refine ru_V hV [] sVX8_244 (qX8_rawOf l hn hhn hdn hG hpo) rfl rfl rfl rfl rfl (Nat.le_of_ble_eq_true rfl) ?_
        refine ru_fin hV 4 [] rfl rfl ⟨trivial, hne2⟩ ?_
        exact ⟨rfl, rfl, rfl⟩
      · rw [if_neg e] at hV
        refine ru_go hV 16 [(1, 0), (0, 296), (1, 0), (1, 0)] rfl rfl ⟨⟨⟨⟨⟨trivial, (by first | exact rfl | assumption | exact ⟨rfl, rfl⟩ | exact ⟨rfl, rfl, by omega⟩ | exact ⟨by assumption, rfl, by omega⟩ | exact ⟨⟨_, rfl, rfl⟩, by decide, by decide, rfl, by omega⟩ | omega | decide)⟩, (by first | exact rfl | assumption | exact ⟨rfl, rfl⟩ | exact ⟨rfl, rfl, by omega⟩ | exact ⟨by assumption, rfl, by omega⟩ | exact ⟨⟨_, rfl, rfl⟩, by decide, by decide, rfl, by omega⟩ | omega | decide)⟩, (by rw [hd]; exact nI_le (Nat.le_refl n) (by omega))⟩, (by first | exact rfl | assumption | exact ⟨rfl, rfl⟩ | exact ⟨rfl, rfl, by omega⟩ | exact ⟨by assumption, rfl, by omega⟩ | exact ⟨⟨_, rfl, rfl⟩, by decide, by decide, rfl, by omega⟩ | omega | decide)⟩, Int32.not_lt.mp (fun z => e (by rw [← h3]; exact (lg_cmp_lt _ _).mp z))⟩ ?_
        refine ru_V hV [] sVX8_244 (qX8_rawOf l hn hhn hdn hG hpo) rfl rfl rfl rfl rfl (Nat.le_of_ble_eq_true rfl) ?_
        refine ru_fin hV 4 [] rfl rfl ⟨trivial, hne⟩ ?_
        exact ⟨rfl, rfl, rfl⟩
theorem grF_nat {f : Nat → Int32} {B : Nat} (hB : B ≤ 32) : grF f B = NON ∨ ∃ g, g ≤ 5 ∧ grF f B = nI g := by
  unfold grF
  split
  · exact loF_nat B hB
  · exact Or.inl rfl
/-- whether decomposable, the reference's answers -/
def grN (f : Nat → Int32) (n : Nat) : Nat := (grF f (2 ^ n)).toNatClampNeg
theorem grN_of {f : Nat → Int32} {n g : Nat} (hg : g ≤ 5) (h : grF f (2 ^ n) = nI g) : grN f n = g := by
  rw [grN, h]
  exact nI_clamp (by omega)
def dtR (f : Nat → Int32) (n : Nat) : Int32 := if grF f (2 ^ n) = NON then NON else b2i (puB f n (grN f n))
def dbR2 (f : Nat → Int32) (n : Nat) : Int32 := if grF f (2 ^ n) = NON ∨ anR f n = NON then NON else if anR f n = grF f (2 ^ n) then 1 else 0
def ctR (f : Nat → Int32) (n : Nat) : Int32 := if grF f (2 ^ n) = NON then 0 else if puB f n (grN f n) = true then grF f (2 ^ n) else 0
theorem qX8_decomposableOf (l : Launch) {s w n : Nat} (hs : s < 8) (hw : w < 2) (hn : n ≤ 5) (hn0 : 0 < n) {I : IM} (hd : I 1 0 = nI n) (hm : SM (frR I s)) (L : LM) : ∃ I2 L2, (RQ I I2 ∧ L2 0 23 = L 0 23) ∧ KX8_decomposableOf l [.ref 0, .int (nI s), .int (nI w)] I L (some (.int (if w = 0 then dtR (frR I s) n else dbR2 (frR I s) n))) I2 L2 := by
  have hB := pow_le32 n hn
  have hgr := qX8_gradeOf l hs hn hd L
  rcases grF_nat (f := frR I s) hB.1 with hg | ⟨g, hg5, hg⟩
  · refine ⟨I, L, ⟨RQ.rf I, rfl⟩, wX8_decomposableOf l rfl (hz0 (by decide)) (fun V hV => ?_)⟩
    rw [show (if w = 0 then dtR (frR I s) n else dbR2 (frR I s) n) = NON by unfold dtR dbR2; rw [if_pos hg, if_pos (Or.inl hg)]; split <;> rfl] at hV
    rw [hg] at hgr
    refine ru_go hV 2 [] rfl rfl trivial ?_
    refine ru_V hV [] sVX8_191 hgr rfl rfl rfl rfl rfl (Nat.le_of_ble_eq_true rfl) ?_
    refine ru_fin hV 6 [(0, 0)] rfl rfl ⟨trivial, (fun e => e rfl)⟩ ?_
    exact ⟨rfl, rfl, rfl⟩
  · have hgn := grN_of hg5 hg
    have hne : grF (frR I s) (2 ^ n) ≠ NON := by rw [hg]; exact NON_ne (by omega)
    rw [hg] at hgr
    match w, hw with
    | 0, _ =>
      obtain ⟨L2, h0, hK⟩ := qX8_isPureH l hs hg5 hn hd hm L
      refine ⟨I, L2, ⟨RQ.rf I, h0⟩, wX8_decomposableOf l rfl (hz0 (by decide)) (fun V hV => ?_)⟩
      rw [if_pos rfl, dtR, if_neg hne, hgn] at hV
      refine ru_go hV 2 [] rfl rfl trivial ?_
      refine ru_V hV [] sVX8_191 hgr rfl rfl rfl rfl rfl (Nat.le_of_ble_eq_true rfl) ?_
      refine ru_go hV 9 [(1, 0), (0, 0)] rfl rfl ⟨⟨trivial, NON_ne (by omega)⟩, (fun e => e rfl)⟩ ?_
      refine ru_V hV [] sVX8_251 hK rfl rfl rfl rfl rfl (Nat.le_of_ble_eq_true rfl) ?_
      cases hp : puB (frR I s) n g with
      | true =>
        rw [hp] at hV
        refine ru_fin hV 4 [(0, 0)] rfl rfl ⟨trivial, (by decide)⟩ ?_
        exact ⟨rfl, rfl, rfl⟩
      | false =>
        rw [hp] at hV
        refine ru_fin hV 3 [(1, 0)] rfl rfl ⟨trivial, rfl⟩ ?_
        exact ⟨rfl, rfl, rfl⟩
    | 1, _ =>
      obtain ⟨I2, L2, ⟨⟨h1, h2⟩, h0⟩, hK⟩ := qX8_annihilatorOf l hs hn hn0 hd L
      refine ⟨I2, L2, ⟨h1, h0⟩, wX8_decomposableOf l rfl (hz0 (by decide)) (fun V hV => ?_)⟩
      rw [if_neg (by decide), dbR2] at hV
      refine ru_go hV 2 [] rfl rfl trivial ?_
      refine ru_V hV [] sVX8_191 hgr rfl rfl rfl rfl rfl (Nat.le_of_ble_eq_true rfl) ?_
      refine ru_go hV 8 [(1, 0), (1, 0)] rfl rfl ⟨⟨trivial, NON_ne (by omega)⟩, (by decide)⟩ ?_
      refine ru_V hV [] sVX8_255 hK rfl rfl rfl rfl rfl (Nat.le_of_ble_eq_true rfl) ?_
      by_cases e1 : anR (frR I s) n = NON
      · rw [if_pos (Or.inr e1)] at hV
        refine ru_fin hV 7 [(0, 0)] rfl rfl ⟨trivial, (fun e => e e1)⟩ ?_
        exact ⟨rfl, rfl, rfl⟩
      · rw [if_neg (fun e => e.elim hne e1)] at hV
        by_cases e2 : anR (frR I s) n = grF (frR I s) (2 ^ n)
        · rw [if_pos e2] at hV
          refine ru_fin hV 10 [(1, 0), (0, 0)] rfl rfl ⟨⟨trivial, e1⟩, (fun e => e (by rw [e2, hg]))⟩ ?_
          exact ⟨rfl, rfl, rfl⟩
        · rw [if_neg e2] at hV
          refine ru_fin hV 9 [(1, 0), (1, 0)] rfl rfl ⟨⟨trivial, e1⟩, (by rw [← hg]; exact e2)⟩ ?_
          exact ⟨rfl, rfl, rfl⟩
theorem qX8_factors (l : Launch) {s n : Nat} (hs : s < 8) (hn : n ≤ 5) {I : IM} (hd : I 1 0 = nI n) (hm : SM (frR I s)) (L : LM) : ∃ L2, L2 0 23 = L 0 23 ∧ KX8_factors l [.ref 0, .int (nI s)] I L (some (.int (ctR (frR I s) n))) I L2 := by
  have hB := pow_le32 n hn
  have hgr := qX8_gradeOf l hs hn hd L
  rcases grF_nat (f := frR I s) hB.1 with hg | ⟨g, hg5, hg⟩
  · refine ⟨L, rfl, wX8_factors l rfl (hz0 (by decide)) (fun V hV => ?_)⟩
    rw [ctR, if_pos hg] at hV
    rw [hg] at hgr
    refine ru_go hV 2 [] rfl rfl trivial ?_
    refine ru_V hV [] sVX8_191 hgr rfl rfl rfl rfl rfl (Nat.le_of_ble_eq_true rfl) ?_
    refine ru_fin hV 7 [(1, 0)] rfl rfl ⟨trivial, rfl⟩ ?_
    exact ⟨rfl, rfl, rfl⟩
  · have hgn := grN_of hg5 hg
    have hne : grF (frR I s) (2 ^ n) ≠ NON := by rw [hg]; exact NON_ne (by omega)
    rw [hg] at hgr
    obtain ⟨L2, h0, hK⟩ := qX8_isPureH l hs hg5 hn hd hm L
    refine ⟨L2, h0, wX8_factors l rfl (hz0 (by decide)) (fun V hV => ?_)⟩
    rw [ctR, if_neg hne, hgn, hg] at hV
    refine ru_go hV 2 [] rfl rfl trivial ?_
    refine ru_V hV [] sVX8_191 hgr rfl rfl rfl rfl rfl (Nat.le_of_ble_eq_true rfl) ?_
    refine ru_go hV 7 [(0, 0)] rfl rfl ⟨trivial, NON_ne (by omega)⟩ ?_
    refine ru_V hV [] sVX8_251 hK rfl rfl rfl rfl rfl (Nat.le_of_ble_eq_true rfl) ?_
    cases hp : puB (frR I s) n g with
    | true =>
      rw [hp] at hV
      refine ru_fin hV 3 [(1, 0)] rfl rfl ⟨trivial, (by decide)⟩ ?_
      exact ⟨rfl, rfl, rfl⟩
    | false =>
      rw [hp] at hV
      refine ru_fin hV 4 [(0, 0)] rfl rfl ⟨trivial, (fun e => e rfl)⟩ ?_
      exact ⟨rfl, rfl, rfl⟩
theorem sh_lt : ∀ q, q < 32 → ∀ d, d < 6 → nI q >>> (nI d &&& 31) = nI (q >>> d) ∧ q >>> d < 32 := by decide +kernel
theorem pc5_sh : ∀ q, q < 32 → ∀ d, d < 5 → pc5 (q >>> d) = (if q.testBit d then 1 else 0) + pc5 (q >>> (d + 1)) := by decide +kernel
theorem od_sh : ∀ q, q < 32 → ∀ d, d < 5 → (pc5 (q >>> (d + 1)) % 2 = 1 ↔ odT q (2 ^ d) = true) := by decide +kernel
theorem sgI_n (o : Bool) (x : Int32) : (if o then -(x.toInt64) else x.toInt64).toInt32 = sgI o x := by
  cases o with
  | true =>
    show (-(x.toInt64)).toInt32 = -x
    rw [Int64.toInt32_neg, Int32.toInt32_toInt64]
  | false => exact Int32.toInt32_toInt64 x
theorem qX8_factorOf (l : Launch) {s p dir n q : Nat} (hs : s < 8) (hdir : dir < 5) (hn : n ≤ 5) {I : IM} (hd : I 1 0 = nI n) (hm : SM (frR I s)) (hq : ldO (frR I s) (2 ^ n) = some q) (hp : p < pc5 q) (L : LM) : KX8_factorOf l [.ref 0, .int (nI s), .int (nI p), .int (nI dir)] I L (some (.int (faF (frR I s) q dir 5 0 p))) I L := by
  have hB := pow_le32 n hn
  have hle := qX8_lead l hs hn hd L
  rw [show ldI (frR I s) (2 ^ n) = nI q by unfold ldI; rw [hq]] at hle
  have hq32 : q < 32 := by have := (ldO_some hq).1; omega
  have hp5 := pc5_le q
  refine wX8_factorOf l rfl (hz0 (by decide)) (fun V hV => ?_)
  have key : ∀ k d left, d + k = 5 → left < pc5 (q >>> d) → faF (frR I s) q dir k d left = faF (frR I s) q dir 5 0 p → V 13 [(0, .ref 0), (1, .int (nI s)), (2, .int (nI p)), (3, .int (nI dir)), (4, .int (nI q)), (5, .int (nI left)), (6, .int (nI d))] [] I L := by
    intro k
    induction k with
    | zero =>
      intro d left hd hl _
      have : d = 5 := by omega
      subst this
      have h0 : ∀ q, q < 32 → pc5 (q >>> 5) = 0 := by decide
      rw [h0 q hq32] at hl
      omega
    | succ k ih =>
      intro d left hd hl hf
      have hd5 : d < 5 := by omega
      have hb := bt_01 q hq32 d hd5
      have hsh := pc5_sh q hq32 d hd5
      have hl5 := pc5_le (q >>> d)
      rw [faF] at hf
      by_cases h : q.testBit d = true
      · rw [if_pos h] at hb hf hsh
        by_cases e : left = 0
        · subst e
          rw [if_pos rfl] at hf
          rw [← hf] at hV
          obtain ⟨s1, s2⟩ := sh_lt q hq32 (d + 1) (by omega)
          have hx := xor_lt q hq32 (2 ^ d) (pow2_lt d hd5)
          refine ru_go hV 13 [(0, 0), (1, 0)] rfl rfl ⟨⟨trivial, (by rw [hb]; decide)⟩, (by decide)⟩ ?_
          rw [nI_1, s1]
          refine ru_S hV [] sSX8_62 (qX8_grade l s2 I L) rfl rfl rfl (Nat.le_of_ble_eq_true rfl) ?_
          refine ru_go hV 11 [] rfl rfl trivial ?_
          rw [bnot_2 d hd5 q hq32 h]
          refine ru_V hV [] sVX8_210 (qX8_vector l hs hx hdir hm L) rfl rfl rfl rfl rfl (Nat.le_of_ble_eq_true rfl) ?_
          have hp2 := pc5_le (q >>> (d + 1))
          have hrm := rem2 (pc5 (q >>> (d + 1))) (by omega)
          have hod := od_sh q hq32 d hd5
          rw [← sgI_n] at hV
          cases ho : odT q (2 ^ d) with
          | true =>
            rw [ho] at hV hod
            rw [hod.mpr rfl] at hrm
            refine ru_fin hV 11 [(0, 0)] rfl rfl ⟨⟨trivial, (by decide)⟩, (fun z => z hrm)⟩ ?_
            exact ⟨rfl, rfl, rfl⟩
          | false =>
            rw [ho] at hV hod
            have h0 : pc5 (q >>> (d + 1)) % 2 = 0 := by
              have : ¬ pc5 (q >>> (d + 1)) % 2 = 1 := fun z => by cases hod.mp z
              omega
            rw [h0] at hrm
            refine ru_fin hV 9 [(1, 0)] rfl rfl ⟨⟨trivial, (by decide)⟩, (by rw [hrm]; decide)⟩ ?_
            exact ⟨rfl, rfl, rfl⟩
        · rw [if_neg e] at hf
          refine ru_go hV 18 [(0, 0), (0, 0)] rfl rfl ⟨⟨trivial, (by rw [hb]; decide)⟩, nI_nle0 (by omega) (by omega)⟩ ?_
          rw [hb, show (1 : Int32) = nI 1 from rfl, nI_sub (by omega), nI_add]
          exact ih (d + 1) (left - 1) (by omega) (by omega) hf
      · rw [if_neg h] at hb hf hsh
        refine ru_go hV 16 [(1, 0)] rfl rfl ⟨trivial, hb⟩ ?_
        rw [hb, Int32.sub_zero, nI_1]
        exact ih (d + 1) left (by omega) (by omega) hf
  refine ru_go hV 2 [] rfl rfl trivial ?_
  refine ru_V hV [] sVX8_197 hle rfl rfl rfl rfl rfl (Nat.le_of_ble_eq_true rfl) ?_
  refine ru_go hV 5 [] rfl rfl trivial ?_
  exact key 5 0 p rfl (by simpa using hp) rfl
