/-! the kernel does not look at what it finds -/
def agV (n : Nat) (V V' : VM) : Prop := ∀ p, p < n → ∀ k, k < n → V p k = V' p k
theorem clD_cong {r r' : Nat → Int64} : ∀ {n : Nat}, (∀ k, k < n → r k = r' k) → clD r n = clD r' n
  | 0, _ => rfl
  | n + 1, h => by
    unfold clD
    rw [clD_cong (n := n) (fun k hk => h k (by omega)), h n (by omega)]
theorem clV_ag {n p q : Nat} {V V' : VM} {w w' : Nat → Int64} (hp : p < n) (hq : q < n) (hV : agV n V V') (hwp : w p = w' p) (hwq : w q = w' q) : agV n (clV V w p q n) (clV V' w' p q n) := by
  have hr : ∀ k, k < n → clR V w p q k = clR V' w' p q k := fun k hk => by
    unfold clR
    rw [hwp, hwq, hV p hp k hk, hV q hq k hk]
  intro a ha k hk
  unfold clV
  rw [hwp, clD_cong hr, hr k hk, hV a ha k hk]
theorem clA_ag {n q z : Nat} {V V' : VM} {w w' : Nat → Int64} (hz : z ≤ n) (hq : q < z) (hV : agV n V V') (hw : ∀ j, j < z → w j = w' j) : ∀ p, p ≤ q → agV n (clA V w q n p) (clA V' w' q n p)
  | 0, _ => hV
  | p + 1, hp => clV_ag (by omega) (by omega) (clA_ag hz hq hV hw p (by omega)) (hw p (by omega)) (hw q (by omega))
def agK (n : Nat) (s s' : Kn) : Prop := s.1 = s'.1 ∧ agV n s.2.1 s'.2.1
theorem cuS_ag {f : Nat → Int32} {b n : Nat} {s s' : Kn} (hz : s.1 ≤ n) (h : agK n s s') : agK n (cuS f b n s) (cuS f b n s') := by
  obtain ⟨z, V, w⟩ := s
  obtain ⟨z', V', w'⟩ := s'
  obtain ⟨h1, h2⟩ := h
  have h1 : z = z' := h1
  have hz : z ≤ n := hz
  subst h1
  have h2 : agV n V V' := h2
  have hw : ∀ j, j < z → cuW f b V w n z j = cuW f b V' w' n z j := fun j hj => by
    unfold cuW
    rw [if_pos hj, if_pos hj]
    exact vaA_cong (fun k hk => h2 j (by omega) k hk)
  have hl : laO (cuW f b V w n z) z = laO (cuW f b V' w' n z) z := laO_cong hw
  unfold cuS
  dsimp only
  rw [← hl]
  cases hq : laO (cuW f b V w n z) z with
  | none => exact ⟨rfl, h2⟩
  | some q =>
    have hqz := (laO_lt hq).1
    have hA := clA_ag hz hqz h2 hw q (Nat.le_refl q)
    refine ⟨rfl, ?_⟩
    intro a ha k hk
    show rmV _ q z n a k = rmV _ q z n a k
    unfold rmV
    by_cases hc : q ≤ a ∧ a + 1 < z ∧ k < n
    · rw [if_pos hc, if_pos hc, hA (a + 1) (by omega) k hk]
    · rw [if_neg hc, if_neg hc, hA a ha k hk]
def fiC (f : Nat → Int32) (n b : Nat) : Kn := fiS f n (fun _ _ => 0) (fun _ => 0) b
theorem fiS_ag {f : Nat → Int32} {n : Nat} {V : VM} {w : Nat → Int64} : ∀ b, agK n (fiS f n V w b) (fiC f n b)
  | 0 => ⟨rfl, fun p hp k hk => by
    show stV n V p k = stV n (fun _ _ => 0) p k
    have hh : p < n ∧ k < n := ⟨hp, hk⟩
    unfold stV
    exact (if_pos hh).trans (if_pos hh).symm⟩
  | b + 1 => cuS_ag (fiS_le f n V w b) (fiS_ag b)
theorem sgB_eq {f f' : Nat → Int32} {b n : Nat} (hb : b < 32) (hn : n ≤ 5) (h : ∀ j, j < 32 → f j = f' j) {v : Nat → Int64} : vaA f b v n = vaA f' b v n := sumL_cong (fun k hk => by
  rw [h _ (xor_lt b hb (2 ^ k) (pow2_lt k (by omega)))])
theorem cuS_f {f f' : Nat → Int32} {b n : Nat} {s : Kn} (hb : b < 32) (hn : n ≤ 5) (h : ∀ j, j < 32 → f j = f' j) : cuS f b n s = cuS f' b n s := by
  have e : cuW f b s.2.1 s.2.2 n s.1 = cuW f' b s.2.1 s.2.2 n s.1 := by
    funext j
    unfold cuW
    rw [sgB_eq hb hn h]
  unfold cuS
  rw [e]
theorem fiC_f {f f' : Nat → Int32} {n : Nat} (hn : n ≤ 5) (h : ∀ j, j < 32 → f j = f' j) : ∀ b, b < 32 → fiC f n b = fiC f' n b
  | 0, _ => rfl
  | b + 1, hb => by
    show cuS f (b + 1) n (fiC f n b) = cuS f' (b + 1) n (fiC f' n b)
    rw [fiC_f hn h b (by omega), cuS_f hb hn h]
/-- how many vectors the annihilator has, and its numbers -/
def anF (f : Nat → Int32) (n : Nat) : Int32 := if gmF f 32 ≤ 60 then nI (fiC f n (2 ^ n - 1)).1 else NON
def baF (f : Nat → Int32) (n p d : Nat) : Int32 := ((fiC f n (2 ^ n - 1)).2.1 p d).toInt32
/-- only rows to work in are changed -/
def VZ (I : IM) : Prop := ∀ j, j < 32 → (∀ k, k < 5 → j ≠ 2 ^ k) → I 170 j = 0
def SC (I I2 : IM) : Prop := (∀ a, a ≠ 170 → a ≠ 171 → a ≠ 179 → a ≠ 180 → I2 a = I a) ∧ (VZ I → VZ I2)
theorem SC.rf (I : IM) : SC I I := ⟨fun _ _ _ _ _ => rfl, id⟩
theorem SC.tr {I J K : IM} (h1 : SC I J) (h2 : SC J K) : SC I K := ⟨fun a a1 a2 a3 a4 => (h2.1 a a1 a2 a3 a4).trans (h1.1 a a1 a2 a3 a4), fun h => h2.2 (h1.2 h)⟩
theorem SC.lo {I I2 : IM} (h : SC I I2) {a : Nat} (ha : a < 170) : I2 a = I a := h.1 a (by omega) (by omega) (by omega) (by omega)
theorem SC.sz {I : IM} {x : Int32} : SC I (mu I 171 2 x) := ⟨fun a _ h _ _ => mu_ne _ _ h, fun h j hj hk => by rw [mu_ne _ _ (by decide)]; exact h j hj hk⟩
theorem qX4_fin (l : Launch) {c n : Nat} (hc : kdC c = (1, 32, 0)) (hn : n ≤ 5) (I : IM) (L : LM) : ∃ I2 L2, (SC I I2 ∧ (gmF (I c) 32 ≤ 60 → ∀ p, p < n → ∀ d, d < n → (L2 (173 + p) d).toInt32 = baF (I c) n p d)) ∧ KX4_find l [.ref 171, .ref c, .int (nI n)] I L (some (.int (anF (I c) n))) I2 L2 := by
  by_cases hg : gmF (I c) 32 ≤ 60
  · have h := qX4_find l hc hn hg L
    have ha := fiS_ag (f := I c) (n := n) (V := fun p j => L (173 + p) j) (w := L 178) (2 ^ n - 1)
    rw [show (fiE I L c n).1 = (fiC (I c) n (2 ^ n - 1)).1 from ha.1] at h
    rw [anF, if_pos hg]
    refine ⟨_, _, ⟨SC.sz, fun _ p hp d hd => ?_⟩, h⟩
    rw [kn_v (by omega) (by omega), baF]
    congr 1
    exact ha.2 p hp d hd
  · rw [anF, if_neg hg]
    exact ⟨I, L, ⟨SC.rf I, fun h => absurd h hg⟩, qX4_find_n l hc hg L⟩
/-! the test for decomposable forms -/
def pvI (I : IM) (f : Nat → Int32) (r : Nat) : Nat → IM
  | 0 => I
  | k + 1 => mu (pvI I f r k) 170 (2 ^ k) (paI f r k)
def pvF (f : Nat → Int32) (r : Nat) : Nat → Nat → Int32
  | 0 => fun _ => 0
  | k + 1 => fun j => if j = 2 ^ k then paI f r k else pvF f r k j
theorem pvI_ne {I : IM} {f : Nat → Int32} {r a : Nat} (h : a ≠ 170) : ∀ k, pvI I f r k a = I a
  | 0 => rfl
  | k + 1 => by
    show mu _ 170 _ _ a = _
    rw [mu_ne _ _ h, pvI_ne h k]
theorem pvI_at {I : IM} {f : Nat → Int32} {r j : Nat} : ∀ k, (∀ q, q < k → j ≠ 2 ^ q) → pvI I f r k 170 j = I 170 j
  | 0, _ => rfl
  | k + 1, h => by
    show mu _ 170 (2 ^ k) _ 170 j = _
    rw [mu, if_neg (fun e => h k (by omega) e.2), pvI_at k (fun q hq => h q (by omega))]
theorem pvI_SC {I : IM} {f : Nat → Int32} {r k : Nat} (hk : k ≤ 5) : SC I (pvI I f r k) := ⟨fun a h _ _ _ => pvI_ne h k, fun h j hj hq => by rw [pvI_at k (fun q hq' => hq q (by omega))]; exact h j hj hq⟩
theorem pvI_F {I : IM} {f : Nat → Int32} {r n : Nat} (hn : n ≤ 5) (hz : VZ I) {j : Nat} (hj : j < 2 ^ n) : pvI I f r n 170 j = pvF f r n j := by
  have key : ∀ k, k ≤ n → (∃ q, q < k ∧ j = 2 ^ q) → pvI I f r k 170 j = pvF f r k j := by
    intro k
    induction k with
    | zero => intro _ ⟨q, hq, _⟩; omega
    | succ k ih =>
      intro hk ⟨q, hq, hj2⟩
      show mu _ 170 (2 ^ k) _ 170 j = if j = 2 ^ k then _ else _
      by_cases e : j = 2 ^ k
      · rw [mu, if_pos ⟨rfl, e⟩, if_pos e]
      · rw [mu, if_neg (fun h => e h.2), if_neg e]
        refine ih (by omega) ⟨q, ?_, hj2⟩
        have : q ≠ k := fun h => e (by rw [hj2, h])
        omega
  by_cases h : ∃ q, q < n ∧ j = 2 ^ q
  · exact key n (Nat.le_refl n) h
  · have h' : ∀ q, q < n → j ≠ 2 ^ q := fun q hq e => h ⟨q, hq, e⟩
    rw [pvI_at n h']
    have hz0 : ∀ k, k ≤ n → pvF f r k j = 0 := by
      intro k
      induction k with
      | zero => intro _; rfl
      | succ k ih => intro hk; show (if j = 2 ^ k then _ else _) = _; rw [if_neg (h' k (by omega))]; exact ih (by omega)
    rw [hz0 n (Nat.le_refl n)]
    have hj32 : j < 32 := pow_mono n hn j hj
    refine hz j hj32 (fun k hk e => ?_)
    by_cases hkn : k < n
    · exact h' k hkn e
    · have : 2 ^ n ≤ 2 ^ k := Nat.pow_le_pow_right (by decide) (by omega)
      omega
theorem wI_cong {a a' b b' : Nat → Int32} {B i j k : Nat} (hi : i < B) (hj : j ≤ B) (ha : ∀ q, q < B → a q = a' q) (hb : ∀ q, q < B → b q = b' q) : wI a b i j k = wI a' b' i j k := by
  unfold wI
  split
  · rename_i h
    rw [ha i hi, hb _ (by omega)]
  · rfl
theorem wC_cong {a a' b b' : Nat → Int32} {B k : Nat} (ha : ∀ q, q < B → a q = a' q) (hb : ∀ q, q < B → b q = b' q) : wC a b B k = wC a' b' B k := sumL_cong (fun i hi => wI_cong hi (Nat.le_refl B) ha hb)
theorem alz_cong {f g : Nat → Int64} {B : Nat} (h : ∀ k, k < B → f k = g k) : alz f B = alz g B := by
  unfold alz
  rw [fsO_cong (fun k hk => by rw [h k hk])]
/-- whether the wedge with the vector that is told for r is zero -/
def pwz (f : Nat → Int32) (r n : Nat) : Bool := alz (wC f (pvF f r n) (2 ^ n)) (2 ^ n)
theorem qX7_wedgeWithPartnerIsZero (l : Launch) {c r n : Nat} (hc : kdC c = (1, 32, 0)) (hc2 : c ≠ 170) (hr : r < 32) (hn : n ≤ 5) {I : IM} (hd : I 1 0 = nI n) (hz : VZ I) (L : LM) : ∃ I2 L2, SC I I2 ∧ KX7_wedgeWithPartnerIsZero l [.ref 0, .ref c, .int (nI r)] I L (some (.int (b2i (pwz (I c) r n)))) I2 L2 := by
  refine ⟨pvI I (I c) r n, lay L 168 32 (fun k => wC (I c) (pvI I (I c) r n 170) (2 ^ n) k), pvI_SC hn, ?_⟩
  have hc1 : c ≠ 1 := fun e => by subst e; cases hc
  refine wX7_wedgeWithPartnerIsZero l rfl (fun _ x h => by cases h; exact b2i_01 _) (fun V hV => ?_)
  refine ru_go hV 2 [] rfl rfl trivial ?_
  refine loop0 (P := fun k => V 2 [(0, .ref 0), (1, .ref c), (2, .int (nI r)), (3, .int (nI k))] [] (pvI I (I c) r k) L) n (fun h => h) (fun k hk ih => ?_) ?_
  · have hp := pow2_lt k (by omega)
    have epa := qX2_partnerNumber l (k := k) hc hr (by omega) (pvI I (I c) r k) L
    rw [pvI_ne hc2 k] at epa
    refine ru_go hV 13 [(1, 0), (0, 0), (170, 0)] rfl rfl ⟨⟨⟨⟨trivial, (by first | exact rfl | assumption | exact ⟨rfl, rfl⟩ | exact ⟨rfl, rfl, by omega⟩ | exact ⟨by assumption, rfl, by omega⟩ | exact ⟨⟨_, rfl, rfl⟩, by decide, by decide, rfl, by omega⟩ | omega | decide)⟩, (by first | exact rfl | assumption | exact ⟨rfl, rfl⟩ | exact ⟨rfl, rfl, by omega⟩ | exact ⟨by assumption, rfl, by omega⟩ | exact ⟨⟨_, rfl, rfl⟩, by decide, by decide, rfl, by omega⟩ | omega | decide)⟩, (by rw [pvI_ne (by decide) k, hd]; exact nI_nge hk (by omega))⟩, (by first | exact rfl | assumption | exact ⟨rfl, rfl⟩ | exact ⟨rfl, rfl, by omega⟩ | exact ⟨by assumption, rfl, by omega⟩ | exact ⟨⟨_, rfl, rfl⟩, by decide, by decide, rfl, by omega⟩ | omega | decide)⟩ ?_
    rw [bl_sh k (by omega)]
    refine ru_S hV [.int _, .ref _] sSX7_336 epa rfl rfl rfl (Nat.le_of_ble_eq_true rfl) ?_
    refine ru_go hV 3 [((2^k), 32)] rfl rfl ⟨trivial, ⟨rfl, rfl, hp⟩⟩ ?_
    rw [nI_1]
    exact ih
  · have hd2 : pvI I (I c) r n 1 0 = nI n := by rw [pvI_ne (by decide) n]; exact hd
    have ewd := qX5_wedgeForms l (d := 170) (r := 168) (n := n) hc rfl rfl hn (pvI I (I c) r n) L
    rw [pvI_ne hc2 n] at ewd
    refine ru_go hV 10 [(1, 0), (1, 0), (170, 0), (1, 0)] rfl rfl ⟨⟨⟨⟨⟨trivial, (by first | exact rfl | assumption | exact ⟨rfl, rfl⟩ | exact ⟨rfl, rfl, by omega⟩ | exact ⟨by assumption, rfl, by omega⟩ | exact ⟨⟨_, rfl, rfl⟩, by decide, by decide, rfl, by omega⟩ | omega | decide)⟩, (by first | exact rfl | assumption | exact ⟨rfl, rfl⟩ | exact ⟨rfl, rfl, by omega⟩ | exact ⟨by assumption, rfl, by omega⟩ | exact ⟨⟨_, rfl, rfl⟩, by decide, by decide, rfl, by omega⟩ | omega | decide)⟩, (by rw [pvI_ne (by decide) n, hd]; exact nI_le (Nat.le_refl n) (by omega))⟩, (by first | exact rfl | assumption | exact ⟨rfl, rfl⟩ | exact ⟨rfl, rfl, by omega⟩ | exact ⟨by assumption, rfl, by omega⟩ | exact ⟨⟨_, rfl, rfl⟩, by decide, by decide, rfl, by omega⟩ | omega | decide)⟩, (by first | exact rfl | assumption | exact ⟨rfl, rfl⟩ | exact ⟨rfl, rfl, by omega⟩ | exact ⟨by assumption, rfl, by omega⟩ | exact ⟨⟨_, rfl, rfl⟩, by decide, by decide, rfl, by omega⟩ | omega | decide)⟩ ?_
    refine ru_V hV [.ref 170, .ref c] sVX7_127 (qX6_blades l hb1 hn hd2 L) rfl rfl rfl rfl rfl (Nat.le_of_ble_eq_true rfl) ?_
    refine ru_go hV 2 [(168, 0)] rfl rfl ⟨trivial, (by first | exact rfl | assumption | exact ⟨rfl, rfl⟩ | exact ⟨rfl, rfl, by omega⟩ | exact ⟨by assumption, rfl, by omega⟩ | exact ⟨⟨_, rfl, rfl⟩, by decide, by decide, rfl, by omega⟩ | omega | decide)⟩ ?_
    refine ru_S hV [] sSX7_131 ewd rfl rfl rfl (Nat.le_of_ble_eq_true rfl) ?_
    refine ru_go hV 1 [] rfl rfl trivial ?_
    refine ru_V hV [] sVX7_253 (qX7_resultIsZero l hn hd2 _) rfl rfl rfl rfl rfl (Nat.le_of_ble_eq_true rfl) ?_
    refine ru_fin hV 1 [] rfl rfl trivial ?_
    refine ⟨?_, rfl, rfl⟩
    have e : alz (lay L 168 32 (fun k => wC (I c) (pvI I (I c) r n 170) (2 ^ n) k) 168) (2 ^ n) = pwz (I c) r n := by
      refine alz_cong (fun k hk => ?_)
      rw [lay_in (pow_mono n hn k hk)]
      exact wC_cong (fun _ _ => rfl) (fun q hq => pvI_F hn hz hq)
    rw [e]
    rfl
