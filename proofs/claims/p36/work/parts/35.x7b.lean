/-! the desk: results -/
def fsO (p : Nat → Bool) : Nat → Option Nat
  | 0 => none
  | k + 1 => match fsO p k with
    | some q => some q
    | none => if p k then some k else none
theorem fsO_none {p : Nat → Bool} : ∀ {n : Nat}, (∀ j, j < n → p j = false) → fsO p n = none
  | 0, _ => rfl
  | k + 1, h => by
    unfold fsO
    rw [fsO_none (n := k) (fun j hj => h j (by omega)), h k (by omega)]
    rfl
theorem fsO_some {p : Nat → Bool} {k : Nat} (h : p k = true) (hz : ∀ j, j < k → p j = false) : ∀ n, k < n → fsO p n = some k
  | 0, hk => absurd hk (by omega)
  | n + 1, hk => by
    unfold fsO
    by_cases e : k = n
    · subst e
      rw [fsO_none hz]
      simp [h]
    · rw [fsO_some h hz n (by omega)]
theorem fsO_cong {p q : Nat → Bool} : ∀ {n : Nat}, (∀ j, j < n → p j = q j) → fsO p n = fsO q n
  | 0, _ => rfl
  | n + 1, h => by
    unfold fsO
    rw [fsO_cong (n := n) (fun j hj => h j (by omega)), h n (by omega)]
theorem fsO_lt {p : Nat → Bool} : ∀ {n k : Nat}, fsO p n = some k → k < n ∧ p k = true
  | 0, _, h => by cases h
  | n + 1, k, h => by
    unfold fsO at h
    cases e : fsO p n with
    | some q =>
      rw [e] at h
      cases h
      have := fsO_lt e
      exact ⟨by omega, this.2⟩
    | none =>
      rw [e] at h
      simp only at h
      split at h
      · cases h; exact ⟨by omega, by assumption⟩
      · cases h
def fsI : Option Nat → Int32
  | none => NON
  | some k => nI k
theorem fsI_non {p : Nat → Bool} {n : Nat} (hn : n ≤ 32) : fsI (fsO p n) = NON ↔ fsO p n = none := by
  cases h : fsO p n with
  | none => exact ⟨fun _ => rfl, fun _ => rfl⟩
  | some k =>
    have := fsO_lt h
    exact ⟨fun e => absurd e (NON_ne (by omega)), fun e => by cases e⟩
def tooB (x : Int64) : Bool := decide (x < -100000000) || decide (100000000 < x)
def ftO (f : Nat → Int64) (B : Nat) : Option Nat := fsO (fun k => tooB (f k)) B
def alz (f : Nat → Int64) (B : Nat) : Bool := (fsO (fun k => decide (f k ≠ 0)) B).isNone
theorem qX7_firstTooLarge (l : Launch) {n : Nat} (hn : n ≤ 5) {I : IM} (hd : I 1 0 = nI n) (L : LM) : KX7_firstTooLarge l [.ref 0] I L (some (.int (fsI (ftO (L 168) (2 ^ n))))) I L := by
  obtain ⟨hB, -⟩ := pow_le32 n hn
  have hbl := qX6_blades l hb1 hn hd L
  generalize 2 ^ n = B at hB hbl ⊢
  refine wX7_firstTooLarge l rfl (hz0 (by decide)) (fun V hV => ?_)
  refine ru_go hV 2 [] rfl rfl trivial ?_
  refine loop0 (P := fun i => (∀ j, j < i → tooB (L 168 j) = false) → V 2 [(0, .ref 0), (1, .int (nI i))] [] I L) B (fun h => h (fun j hj => absurd hj (by omega))) (fun i hi ih hall => ?_) (fun hall => ?_)
  · refine ru_go hV 3 [(1, 0)] rfl rfl ⟨trivial, (by first | exact rfl | assumption | exact ⟨rfl, rfl⟩ | exact ⟨rfl, rfl, by omega⟩ | exact ⟨by assumption, rfl, by omega⟩ | exact ⟨⟨_, rfl, rfl⟩, by decide, by decide, rfl, by omega⟩ | omega | decide)⟩ ?_
    refine ru_V hV [.int (nI i)] sVX7_127 hbl rfl rfl rfl rfl rfl (Nat.le_of_ble_eq_true rfl) ?_
    by_cases h1 : L 168 i < -100000000
    · have ht : tooB (L 168 i) = true := by simp [tooB, h1]
      have e : ftO (L 168) B = some i := fsO_some ht hall B hi
      refine ru_fin hV 10 [(0, 0), (168, 0), (i, 32), (1, 0)] rfl rfl ⟨⟨⟨⟨trivial, nI_nge hi (by omega)⟩, (by first | exact rfl | assumption | exact ⟨rfl, rfl⟩ | exact ⟨rfl, rfl, by omega⟩ | exact ⟨by assumption, rfl, by omega⟩ | exact ⟨⟨_, rfl, rfl⟩, by decide, by decide, rfl, by omega⟩ | omega | decide)⟩, ⟨rfl, rfl, by omega⟩⟩, (lg_cmp_lt _ _).mpr h1⟩ ?_
      exact ⟨by rw [e]; rfl, rfl, rfl⟩
    · by_cases h2 : 100000000 < L 168 i
      · have ht : tooB (L 168 i) = true := by simp [tooB, h2]
        have e : ftO (L 168) B = some i := fsO_some ht hall B hi
        refine ru_fin hV 17 [(0, 0), (168, 0), (i, 32), (0, 0), (168, 0), (i, 32), (0, 0)] rfl rfl ⟨⟨⟨⟨⟨⟨⟨trivial, nI_nge hi (by omega)⟩, (by first | exact rfl | assumption | exact ⟨rfl, rfl⟩ | exact ⟨rfl, rfl, by omega⟩ | exact ⟨by assumption, rfl, by omega⟩ | exact ⟨⟨_, rfl, rfl⟩, by decide, by decide, rfl, by omega⟩ | omega | decide)⟩, ⟨rfl, rfl, by omega⟩⟩, (fun e => h1 ((lg_cmp_lt _ _).mp e))⟩, (by first | exact rfl | assumption | exact ⟨rfl, rfl⟩ | exact ⟨rfl, rfl, by omega⟩ | exact ⟨by assumption, rfl, by omega⟩ | exact ⟨⟨_, rfl, rfl⟩, by decide, by decide, rfl, by omega⟩ | omega | decide)⟩, ⟨rfl, rfl, by omega⟩⟩, (fun e => absurd h2 (lg_le_not_lt ((lg_cmp_le _ _).mp e)))⟩ ?_
        exact ⟨by rw [e]; rfl, rfl, rfl⟩
      · have ht : tooB (L 168 i) = false := by simp [tooB, Int64.not_lt.mp h1, Int64.not_lt.mp h2]
        refine ru_go hV 17 [(0, 0), (168, 0), (i, 32), (0, 0), (168, 0), (i, 32), (1, 0)] rfl rfl ⟨⟨⟨⟨⟨⟨⟨trivial, nI_nge hi (by omega)⟩, (by first | exact rfl | assumption | exact ⟨rfl, rfl⟩ | exact ⟨rfl, rfl, by omega⟩ | exact ⟨by assumption, rfl, by omega⟩ | exact ⟨⟨_, rfl, rfl⟩, by decide, by decide, rfl, by omega⟩ | omega | decide)⟩, ⟨rfl, rfl, by omega⟩⟩, (fun e => h1 ((lg_cmp_lt _ _).mp e))⟩, (by first | exact rfl | assumption | exact ⟨rfl, rfl⟩ | exact ⟨rfl, rfl, by omega⟩ | exact ⟨by assumption, rfl, by omega⟩ | exact ⟨⟨_, rfl, rfl⟩, by decide, by decide, rfl, by omega⟩ | omega | decide)⟩, ⟨rfl, rfl, by omega⟩⟩, ((lg_cmp_le _ _).mpr (Int64.not_lt.mp h2))⟩ ?_
        rw [nI_1]
        refine ih (fun j hj => ?_)
        by_cases e : j = i
        · subst e; exact ht
        · exact hall j (by omega)
  · refine ru_go hV 3 [(1, 0)] rfl rfl ⟨trivial, (by first | exact rfl | assumption | exact ⟨rfl, rfl⟩ | exact ⟨rfl, rfl, by omega⟩ | exact ⟨by assumption, rfl, by omega⟩ | exact ⟨⟨_, rfl, rfl⟩, by decide, by decide, rfl, by omega⟩ | omega | decide)⟩ ?_
    refine ru_V hV [.int (nI B)] sVX7_127 hbl rfl rfl rfl rfl rfl (Nat.le_of_ble_eq_true rfl) ?_
    refine ru_fin hV 3 [(1, 0)] rfl rfl ⟨trivial, nI_le (Nat.le_refl B) (by omega)⟩ ?_
    exact ⟨by rw [show ftO (L 168) B = none from fsO_none hall]; rfl, rfl, rfl⟩
theorem qX7_requireFits (l : Launch) {n : Nat} (hn : n ≤ 5) {I : IM} (hd : I 1 0 = nI n) {L : LM} (h : ftO (L 168) (2 ^ n) = none) : KX7_requireFits l [.ref 0] I L none I L := by
  refine wX7_requireFits l rfl (hz0 (by decide)) (fun V hV => ?_)
  refine ru_go hV 1 [] rfl rfl trivial ?_
  refine ru_V hV [] sVX7_243 (qX7_firstTooLarge l hn hd L) rfl rfl rfl rfl rfl (Nat.le_of_ble_eq_true rfl) ?_
  rw [h]
  refine ru_fin hV 3 [(1, 0)] rfl rfl ⟨trivial, (by first | exact rfl | assumption | exact ⟨rfl, rfl⟩ | exact ⟨rfl, rfl, by omega⟩ | exact ⟨by assumption, rfl, by omega⟩ | exact ⟨⟨_, rfl, rfl⟩, by decide, by decide, rfl, by omega⟩ | omega | decide)⟩ ?_
  exact ⟨rfl, rfl, rfl⟩
theorem qX7_resultIsZero (l : Launch) {n : Nat} (hn : n ≤ 5) {I : IM} (hd : I 1 0 = nI n) (L : LM) : KX7_resultIsZero l [.ref 0] I L (some (.int (b2i (alz (L 168) (2 ^ n))))) I L := by
  obtain ⟨hB, -⟩ := pow_le32 n hn
  have hbl := qX6_blades l hb1 hn hd L
  generalize 2 ^ n = B at hB hbl ⊢
  refine wX7_resultIsZero l rfl (fun _ x h => by cases h; exact b2i_01 _) (fun V hV => ?_)
  refine ru_go hV 2 [] rfl rfl trivial ?_
  refine loop0 (P := fun i => (∀ j, j < i → decide (L 168 j ≠ 0) = false) → V 2 [(0, .ref 0), (1, .int (nI i))] [] I L) B (fun h => h (fun j hj => absurd hj (by omega))) (fun i hi ih hall => ?_) (fun hall => ?_)
  · refine ru_go hV 3 [(1, 0)] rfl rfl ⟨trivial, (by first | exact rfl | assumption | exact ⟨rfl, rfl⟩ | exact ⟨rfl, rfl, by omega⟩ | exact ⟨by assumption, rfl, by omega⟩ | exact ⟨⟨_, rfl, rfl⟩, by decide, by decide, rfl, by omega⟩ | omega | decide)⟩ ?_
    refine ru_V hV [.int (nI i)] sVX7_127 hbl rfl rfl rfl rfl rfl (Nat.le_of_ble_eq_true rfl) ?_
    by_cases h1 : L 168 i = 0
    · refine ru_go hV 10 [(0, 0), (168, 0), (i, 32), (1, 0)] rfl rfl ⟨⟨⟨⟨trivial, nI_nge hi (by omega)⟩, (by first | exact rfl | assumption | exact ⟨rfl, rfl⟩ | exact ⟨rfl, rfl, by omega⟩ | exact ⟨by assumption, rfl, by omega⟩ | exact ⟨⟨_, rfl, rfl⟩, by decide, by decide, rfl, by omega⟩ | omega | decide)⟩, ⟨rfl, rfl, by omega⟩⟩, (lg_cmp_eq _ _).mpr h1⟩ ?_
      rw [nI_1]
      refine ih (fun j hj => ?_)
      by_cases e : j = i
      · subst e; simp [h1]
      · exact hall j (by omega)
    · have e : fsO (fun k => decide (L 168 k ≠ 0)) B = some i := fsO_some (by simp [h1]) hall B hi
      refine ru_fin hV 10 [(0, 0), (168, 0), (i, 32), (0, 0)] rfl rfl ⟨⟨⟨⟨trivial, nI_nge hi (by omega)⟩, (by first | exact rfl | assumption | exact ⟨rfl, rfl⟩ | exact ⟨rfl, rfl, by omega⟩ | exact ⟨by assumption, rfl, by omega⟩ | exact ⟨⟨_, rfl, rfl⟩, by decide, by decide, rfl, by omega⟩ | omega | decide)⟩, ⟨rfl, rfl, by omega⟩⟩, (fun e => h1 ((lg_cmp_eq _ _).mp e))⟩ ?_
      exact ⟨by rw [alz, e]; rfl, rfl, rfl⟩
  · refine ru_go hV 3 [(1, 0)] rfl rfl ⟨trivial, (by first | exact rfl | assumption | exact ⟨rfl, rfl⟩ | exact ⟨rfl, rfl, by omega⟩ | exact ⟨by assumption, rfl, by omega⟩ | exact ⟨⟨_, rfl, rfl⟩, by decide, by decide, rfl, by omega⟩ | omega | decide)⟩ ?_
    refine ru_V hV [.int (nI B)] sVX7_127 hbl rfl rfl rfl rfl rfl (Nat.le_of_ble_eq_true rfl) ?_
    refine ru_fin hV 3 [(1, 0)] rfl rfl ⟨trivial, nI_le (Nat.le_refl B) (by omega)⟩ ?_
    exact ⟨by rw [alz, fsO_none hall]; rfl, rfl, rfl⟩
/-- what a save leaves alone -/
theorem svI_ne {I : IM} {o z a : Nat} (ho : o < 6) (ha : a < 19 ∨ 128 < a) : svI I o z a = I a := by
  have hf : ∀ (J : IM) (b : Nat), b < 6 → cpA J (hbk b) 1 a = J a := fun J b hb => by
    unfold cpA
    exact fb_ne (fun j => by unfold alP scP hbk; omega)
  unfold svI
  split
  · rw [mu_ne _ _ (by omega), hf _ _ ho, mu_ne _ _ (by omega), mu_ne _ _ (by omega)]
  · rw [mu_ne _ _ (by omega), hf _ _ (Nat.mod_lt _ (by decide))]
/-- the memory behind a result stored -/
noncomputable def stI1 (I : IM) (f : Nat → Int64) (o z B t : Nat) : IM := lay (svI I o z) (3 + t) B (fun k => (f k).toInt32)
noncomputable def stI (I : IM) (f : Nat → Int64) (o z B t d : Nat) : IM :=
  if cnz (stI1 I f o z B t (3 + t)) 32 = 0 then mu (mu (stI1 I f o z B t) 18 d (I 18 d + 1)) 18 8 (mu (stI1 I f o z B t) 18 d (I 18 d + 1) 18 8 + 1) else mu (stI1 I f o z B t) 18 d (I 18 d + 1)
theorem qX7_storeResult (l : Launch) {n o z t d : Nat} (hn : n ≤ 5) (ho : o < 6) (hz : z ≤ 6) (ht : t < 8) (hd9 : d < 9) {I : IM} (hd : I 1 0 = nI n) (h1 : I 19 1 = nI o) (h2 : I 19 2 = nI z) (L : LM) : KX7_storeResult l [.ref 0, .int (nI t), .int (nI d)] I L (some (.int (nI (cnz (stI1 I (L 168) o z (2 ^ n) t (3 + t)) 32)))) (stI I (L 168) o z (2 ^ n) t d) L := by
  obtain ⟨hB, -⟩ := pow_le32 n hn
  have hbl : ∀ k, KX6_blades l [.ref 1] (lay (svI I o z) (3 + t) k (fun k => (L 168 k).toInt32)) L (some (.int (nI (2 ^ n)))) (lay (svI I o z) (3 + t) k (fun k => (L 168 k).toInt32)) L := fun k => qX6_blades l hb1 hn (by rw [lay_ne (by omega), svI_ne ho (by omega)]; exact hd) L
  generalize 2 ^ n = B at hB hbl ⊢
  have kr : kdC (3 + t) = (1, 32, 0) := kd_row (b := 1) hb1 ht
  refine wX7_storeResult l rfl (hz0 (by decide)) (fun V hV => ?_)
  refine ru_go hV 4 [(19, 0), (1, 0)] rfl rfl ⟨⟨trivial, (by first | exact rfl | assumption | exact ⟨rfl, rfl⟩ | exact ⟨rfl, rfl, by omega⟩ | exact ⟨by assumption, rfl, by omega⟩ | exact ⟨⟨_, rfl, rfl⟩, by decide, by decide, rfl, by omega⟩ | omega | decide)⟩, (by first | exact rfl | assumption | exact ⟨rfl, rfl⟩ | exact ⟨rfl, rfl, by omega⟩ | exact ⟨by assumption, rfl, by omega⟩ | exact ⟨⟨_, rfl, rfl⟩, by decide, by decide, rfl, by omega⟩ | omega | decide)⟩ ?_
  refine ru_V hV [] sVX7_70 (qX3_save l ho hz h1 h2 L) rfl rfl rfl rfl rfl (Nat.le_of_ble_eq_true rfl) ?_
  refine ru_go hV 8 [(1, 0), (2, 0), (t, 8), ((3+t), 5)] rfl rfl ⟨⟨⟨trivial, (by first | exact rfl | assumption | exact ⟨rfl, rfl⟩ | exact ⟨rfl, rfl, by omega⟩ | exact ⟨by assumption, rfl, by omega⟩ | exact ⟨⟨_, rfl, rfl⟩, by decide, by decide, rfl, by omega⟩ | omega | decide)⟩, (by first | exact rfl | assumption | exact ⟨rfl, rfl⟩ | exact ⟨rfl, rfl, by omega⟩ | exact ⟨by assumption, rfl, by omega⟩ | exact ⟨⟨_, rfl, rfl⟩, by decide, by decide, rfl, by omega⟩ | omega | decide)⟩, kd_fr (b := 1) hb1 ht⟩ ?_
  refine loop0 (P := fun k => V 24 [(0, .ref 0), (1, .int (nI t)), (2, .int (nI d)), (3, .ref (3 + t)), (4, .int (nI k))] [] (lay (svI I o z) (3 + t) k (fun k => (L 168 k).toInt32)) L) B (fun h => by rw [lay_0] at h; exact h) (fun k hk ih => ?_) ?_
  · refine ru_go hV 3 [(1, 0)] rfl rfl ⟨trivial, (by first | exact rfl | assumption | exact ⟨rfl, rfl⟩ | exact ⟨rfl, rfl, by omega⟩ | exact ⟨by assumption, rfl, by omega⟩ | exact ⟨⟨_, rfl, rfl⟩, by decide, by decide, rfl, by omega⟩ | omega | decide)⟩ ?_
    refine ru_V hV [.int (nI k)] sVX7_127 (hbl k) rfl rfl rfl rfl rfl (Nat.le_of_ble_eq_true rfl) ?_
    refine ru_go hV 11 [(0, 0), (168, 0), (k, 32), (k, 32)] rfl rfl ⟨⟨⟨⟨trivial, nI_nge hk (by omega)⟩, (by first | exact rfl | assumption | exact ⟨rfl, rfl⟩ | exact ⟨rfl, rfl, by omega⟩ | exact ⟨by assumption, rfl, by omega⟩ | exact ⟨⟨_, rfl, rfl⟩, by decide, by decide, rfl, by omega⟩ | omega | decide)⟩, ⟨rfl, rfl, by omega⟩⟩, ⟨kr, rfl, by omega⟩⟩ ?_
    rw [nI_1, lay_up (f := fun k => (L 168 k).toInt32) rfl]
    exact ih
  · refine ru_go hV 3 [(1, 0)] rfl rfl ⟨trivial, (by first | exact rfl | assumption | exact ⟨rfl, rfl⟩ | exact ⟨rfl, rfl, by omega⟩ | exact ⟨by assumption, rfl, by omega⟩ | exact ⟨⟨_, rfl, rfl⟩, by decide, by decide, rfl, by omega⟩ | omega | decide)⟩ ?_
    refine ru_V hV [.int (nI B)] sVX7_127 (hbl B) rfl rfl rfl rfl rfl (Nat.le_of_ble_eq_true rfl) ?_
    refine ru_go hV 2 [(1, 0)] rfl rfl ⟨trivial, nI_le (Nat.le_refl B) (by omega)⟩ ?_
    refine ru_S hV [] sSX7_181 (qX2_countNonzero l kr _ L) rfl rfl rfl (Nat.le_of_ble_eq_true rfl) ?_
    have e18 : lay (svI I o z) (3 + t) B (fun k => (L 168 k).toInt32) 18 d = I 18 d := by rw [lay_ne (by omega), svI_ne ho (by omega)]
    have hc := cnz_le (lay (svI I o z) (3 + t) B (fun k => (L 168 k).toInt32) (3 + t)) 32
    by_cases h0 : cnz (lay (svI I o z) (3 + t) B (fun k => (L 168 k).toInt32) (3 + t)) 32 = 0
    · refine ru_fin hV 23 [(1, 0), (18, 0), (d, 9), (d, 9), (0, 0), (1, 0), (18, 0), (8, 9), (8, 9)] rfl rfl ⟨⟨⟨⟨⟨⟨⟨⟨⟨trivial, (by first | exact rfl | assumption | exact ⟨rfl, rfl⟩ | exact ⟨rfl, rfl, by omega⟩ | exact ⟨by assumption, rfl, by omega⟩ | exact ⟨⟨_, rfl, rfl⟩, by decide, by decide, rfl, by omega⟩ | omega | decide)⟩, (by first | exact rfl | assumption | exact ⟨rfl, rfl⟩ | exact ⟨rfl, rfl, by omega⟩ | exact ⟨by assumption, rfl, by omega⟩ | exact ⟨⟨_, rfl, rfl⟩, by decide, by decide, rfl, by omega⟩ | omega | decide)⟩, ⟨rfl, rfl, hd9⟩⟩, ⟨rfl, rfl, hd9⟩⟩, (fun e => e (by rw [h0]; rfl))⟩, (by first | exact rfl | assumption | exact ⟨rfl, rfl⟩ | exact ⟨rfl, rfl, by omega⟩ | exact ⟨by assumption, rfl, by omega⟩ | exact ⟨⟨_, rfl, rfl⟩, by decide, by decide, rfl, by omega⟩ | omega | decide)⟩, (by first | exact rfl | assumption | exact ⟨rfl, rfl⟩ | exact ⟨rfl, rfl, by omega⟩ | exact ⟨by assumption, rfl, by omega⟩ | exact ⟨⟨_, rfl, rfl⟩, by decide, by decide, rfl, by omega⟩ | omega | decide)⟩, (by first | exact rfl | assumption | exact ⟨rfl, rfl⟩ | exact ⟨rfl, rfl, by omega⟩ | exact ⟨by assumption, rfl, by omega⟩ | exact ⟨⟨_, rfl, rfl⟩, by decide, by decide, rfl, by omega⟩ | omega | decide)⟩, (by first | exact rfl | assumption | exact ⟨rfl, rfl⟩ | exact ⟨rfl, rfl, by omega⟩ | exact ⟨by assumption, rfl, by omega⟩ | exact ⟨⟨_, rfl, rfl⟩, by decide, by decide, rfl, by omega⟩ | omega | decide)⟩ ?_
      refine ⟨rfl, ?_, rfl⟩
      rw [e18, stI, stI1, if_pos h0]
    · refine ru_fin hV 14 [(1, 0), (18, 0), (d, 9), (d, 9), (1, 0)] rfl rfl ⟨⟨⟨⟨⟨trivial, (by first | exact rfl | assumption | exact ⟨rfl, rfl⟩ | exact ⟨rfl, rfl, by omega⟩ | exact ⟨by assumption, rfl, by omega⟩ | exact ⟨⟨_, rfl, rfl⟩, by decide, by decide, rfl, by omega⟩ | omega | decide)⟩, (by first | exact rfl | assumption | exact ⟨rfl, rfl⟩ | exact ⟨rfl, rfl, by omega⟩ | exact ⟨by assumption, rfl, by omega⟩ | exact ⟨⟨_, rfl, rfl⟩, by decide, by decide, rfl, by omega⟩ | omega | decide)⟩, ⟨rfl, rfl, hd9⟩⟩, ⟨rfl, rfl, hd9⟩⟩, nI_ne0 (by omega) (by omega)⟩ ?_
      refine ⟨rfl, ?_, rfl⟩
      rw [e18, stI, stI1, if_neg h0]
