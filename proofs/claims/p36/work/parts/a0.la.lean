/-! THE LAW'S OWN METHODS: the class's contracts in the greater world; leaves -/
def mx {α : Type} (n : Nat) (f g : Nat → Nat → α) : Nat → Nat → α := fun a => if a < n then f a else g a
theorem mx_eq {α : Type} {n : Nat} {f g : Nat → Nat → α} (h : ∀ a, n ≤ a → f a = g a) : mx n f g = f := by
  funext a
  unfold mx
  by_cases e : a < n
  · rw [if_pos e]
  · rw [if_neg e, h a (by omega)]
theorem mx_lo {α : Type} {n : Nat} {f g : Nat → Nat → α} {a : Nat} (h : a < n) : mx n f g a = f a := if_pos h
theorem mx_hi {α : Type} {n : Nat} {f g : Nat → Nat → α} {a : Nat} (h : n ≤ a) : mx n f g a = g a := if_neg (by omega)
theorem mx_lay {α : Type} {n c k : Nat} {f : Nat → α} {L : Nat → Nat → α} (h : c < n) : mx n (lay L c k f) L = lay L c k f := mx_eq (fun a ha => lay_ne (by omega))
theorem mx_mu {α : Type} {n c k : Nat} {v : α} {L : Nat → Nat → α} (h : c < n) : mx n (mu L c k v) L = mu L c k v := mx_eq (fun a ha => mu_ne _ _ (by omega))
theorem mx_self {α : Type} {n : Nat} {L : Nat → Nat → α} : mx n L L = L := mx_eq (fun _ _ => rfl)
theorem ctn_kd {cy : Nat → ClassId} {kd kd' : KdT} {ad : Nat → Nat} {I I' : IM} {L L' : LM} {i : Nat} (hk : kd' i = kd i) (hI : I' i = I i) (hL : L' i = L i) : ctn cy kd' ad I' L' i = ctn cy kd ad I L i := by
  unfold ctn
  rw [hk, hI, hL, fdv_other ad I I' L L' i hI hL]
/-- a contract in a greater world: what lies beyond stays -/
theorem cr_lift {l : Launch} {kd kd' : KdT} {N N' : Nat} {y : MethodName} {bytes : ByteArray} {maxL : Nat} {ret : Option FieldType} {rm : Room} {av : List Value} {I I2 : IM} {L L2 : LM} {r : Option Value} (hN : N ≤ N') (hk : ∀ i, i < N → kd' i = kd i) (h : CR l kd N y bytes maxL ret rm av I L r I2 L2) : CR l kd' N' y bytes maxL ret rm av I L r (mx N I2 I) (mx N L2 L) := by
  intro D cy ad hinj p e ha hc hcl s m args below hf happ hP hK
  obtain ⟨hP1, hW, hKK⟩ := hP
  have hW0 : wd D cy kd ad N I L s.heap := fun i hi => by
    have := hW i (Nat.lt_of_lt_of_le hi hN)
    rw [ctn_kd (hk i hi) rfl rfl] at this
    exact this
  obtain ⟨n, o, h1, h2, h3, ⟨⟨h4, h5⟩, h6, h7⟩, Lx, h8, h9⟩ := h D cy ad (fun i j hi hj => hinj i j (Nat.lt_of_lt_of_le hi hN) (Nat.lt_of_lt_of_le hj hN)) p e ha hc hcl s m args below hf happ ⟨hP1, hW0, hKK⟩ hK
  refine ⟨n, o, h1, h2, h3, ⟨⟨h4, fun i hi => ?_⟩, h6, fun q hq hA => h7 q hq (fun ⟨i, hi, e⟩ => hA ⟨i, Nat.lt_of_lt_of_le hi hN, e⟩)⟩, Lx, h8, fun q hq => ?_⟩
  · by_cases hi0 : i < N
    · have := h5 i hi0
      rw [← ctn_kd (kd' := kd') (I' := mx N I2 I) (L' := mx N L2 L) (hk i hi0) (mx_lo hi0) (mx_lo hi0)] at this
      exact this
    · have h0 := hW i hi
      rw [← ctn_kd (I' := mx N I2 I) (L' := mx N L2 L) rfl (mx_hi (by omega)) (mx_hi (by omega))] at h0
      refine h0.kept (h7 (ad i) ?_ (fun ⟨j, hj, e⟩ => ?_))
      · exact h0.lt
      · exact absurd (hinj i j hi (Nat.lt_of_lt_of_le hj hN) e) (by omega)
  · obtain ⟨i, hi, e⟩ := h9 q hq
    exact ⟨i, Nat.lt_of_lt_of_le hi hN, e⟩
theorem up_K {l : Launch} {y : MethodName} {bytes : ByteArray} {maxL : Nat} {ret : Option FieldType} {rm : Room} {av : List Value} {I I2 : IM} {L L2 : LM} {r : Option Value} (h : CR l kdC 181 y bytes maxL ret rm av I L r I2 L2) : CR l kdL 189 y bytes maxL ret rm av I L r (mx 181 I2 I) (mx 181 L2 L) := cr_lift (by decide) (fun _ hi => kdL_lo hi) h
/-- one that changes nothing -/
theorem up_0 {l : Launch} {y : MethodName} {bytes : ByteArray} {maxL : Nat} {ret : Option FieldType} {rm : Room} {av : List Value} {I : IM} {L : LM} {r : Option Value} (h : CR l kdC 181 y bytes maxL ret rm av I L r I L) : CR l kdL 189 y bytes maxL ret rm av I L r I L := by
  have := up_K h
  rw [mx_self, mx_self] at this
  exact this
theorem qL_at (l : Launch) {x n : Nat} (hx : x < 2 ^ 31) (h0 : 0 < n) (hn : n < 2 ^ 31) (I : IM) (L : LM) : KL_at l [.int (nI x), .int (nI n)] I L (some (.int (nI (x / 2 % n)))) I L := by
  refine wL_at l rfl (hz0 (by decide)) (fun V hV => ?_)
  refine ru_fin hV 6 [] rfl rfl ⟨trivial, nI_ne0 h0 hn⟩ ?_
  refine ⟨?_, rfl, rfl⟩
  rw [pk_ushrN (n := x) (by omega) 1 1 (by decide), pk_rem (by omega) h0 hn]
  rfl
theorem gr_st : ∀ k, k < 32 → 0 < k → nI k &&& (nI k - 1) = nI (k &&& (k - 1)) ∧ k &&& (k - 1) < k ∧ pc5 (k &&& (k - 1)) + 1 = pc5 k := by decide +kernel
theorem qL_grade (l : Launch) {b : Nat} (hb : b < 32) (I : IM) (L : LM) : KL_grade l [.int (nI b)] I L (some (.int (nI (pc5 b)))) I L := by
  refine wL_grade l rfl (hz0 (by decide)) (fun V hV => ?_)
  refine ru_go hV 4 [] rfl rfl trivial ?_
  have key : ∀ m k c : Nat, k ≤ m → k < 32 → c + pc5 k = pc5 b → V 4 [(0, .int (nI b)), (1, .int (nI c)), (2, .int (nI k))] [] I L := by
    intro m
    induction m with
    | zero =>
      intro k c hk h32 hc
      have h0 : k = 0 := by omega
      subst h0
      have : c = pc5 b := by simpa [pc5] using hc
      subst this
      refine ru_fin hV 4 [(1, 0)] rfl rfl ⟨trivial, (by first | exact rfl | assumption | exact ⟨rfl, rfl⟩ | exact ⟨rfl, rfl, by omega⟩ | exact ⟨by assumption, rfl, by omega⟩ | exact ⟨⟨_, rfl, rfl⟩, by decide, by decide, rfl, by omega⟩ | omega | decide)⟩ ?_
      exact ⟨rfl, rfl, rfl⟩
    | succ m ih =>
      intro k c hk h32 hc
      by_cases h0 : k = 0
      · subst h0
        have : c = pc5 b := by simpa [pc5] using hc
        subst this
        refine ru_fin hV 4 [(1, 0)] rfl rfl ⟨trivial, (by first | exact rfl | assumption | exact ⟨rfl, rfl⟩ | exact ⟨rfl, rfl, by omega⟩ | exact ⟨by assumption, rfl, by omega⟩ | exact ⟨⟨_, rfl, rfl⟩, by decide, by decide, rfl, by omega⟩ | omega | decide)⟩ ?_
        exact ⟨rfl, rfl, rfl⟩
      · obtain ⟨e1, e2, e3⟩ := gr_st k h32 (by omega)
        refine ru_go hV 10 [(0, 0)] rfl rfl ⟨trivial, nI_nle (by omega) (by omega)⟩ ?_
        rw [e1, nI_1]
        exact ih _ _ (by omega) (by omega) (by omega)
  exact key b b 0 (Nat.le_refl b) hb (Nat.zero_add _)
/-- pairs of directions that stand the wrong way round: below j for the place i, and all below i -/
def orA (x y i : Nat) : Nat → Nat
  | 0 => 0
  | j + 1 => orA x y i j + (if x.testBit i then 1 else 0) * (if y.testBit j then 1 else 0)
def orB (x y : Nat) : Nat → Nat
  | 0 => 0
  | i + 1 => orB x y i + orA x y i i
theorem or_od : ∀ x, x < 32 → ∀ y, y < 32 → orB x y 5 < 100 ∧ (1 : Int32) - 2 * (nI (orB x y 5) - nI (orB x y 5) / 2 * 2) = (if odT x y then -1 else 1) := by decide +kernel
theorem or_bit : ∀ x, x < 32 → ∀ i, i < 5 → (nI x >>> (nI i &&& 31)) &&& 1 = nI (if x.testBit i then 1 else 0) := by decide +kernel
def odI (x y : Nat) : Int32 := if odT x y then -1 else 1
theorem qL_order (l : Launch) {x y : Nat} (hx : x < 32) (hy : y < 32) (I : IM) (L : LM) : KL_order l [.int (nI x), .int (nI y)] I L (some (.int (odI x y))) I L := by
  refine wL_order l rfl (hz0 (by decide)) (fun V hV => ?_)
  refine ru_go hV 4 [] rfl rfl trivial ?_
  refine loop0 (P := fun i => V 4 [(0, .int (nI x)), (1, .int (nI y)), (2, .int (nI (orB x y i))), (3, .int (nI i))] [] I L) 5 (fun h => h) (fun i hi ih => ?_) ?_
  · refine ru_go hV 5 [(0, 0)] rfl rfl ⟨trivial, nI5_ge hi⟩ ?_
    refine loop0 (P := fun j => V 12 [(0, .int (nI x)), (1, .int (nI y)), (2, .int (nI (orB x y i + orA x y i j))), (3, .int (nI i)), (4, .int (nI j))] [] I L) i (fun h => h) (fun j hj ih2 => ?_) ?_
    · refine ru_go hV 19 [(0, 0)] rfl rfl ⟨trivial, nI_nge hj (by omega)⟩ ?_
      rw [or_bit x hx i hi, or_bit y hy j (by omega), pk_mul, nI_add, nI_1]
      rw [orA, ← Nat.add_assoc] at ih2
      exact ih2
    · refine ru_go hV 5 [(1, 0)] rfl rfl ⟨trivial, nI_le (Nat.le_refl i) (by omega)⟩ ?_
      rw [nI_1]
      exact ru_sub hV [0, 1, 2, 3] rfl ih
  · refine ru_fin hV 11 [(1, 0)] rfl rfl ⟨⟨trivial, (by decide)⟩, (by first | exact rfl | assumption | exact ⟨rfl, rfl⟩ | exact ⟨rfl, rfl, by omega⟩ | exact ⟨by assumption, rfl, by omega⟩ | exact ⟨⟨_, rfl, rfl⟩, by decide, by decide, rfl, by omega⟩ | omega | decide)⟩ ?_
    refine ⟨?_, rfl, rfl⟩
    rw [(or_od x hx y hy).2]
    rfl
theorem qL_sign (l : Launch) {b : Nat} (hb : b < 32) (I : IM) (L : LM) : KL_sign l [.int (nI b), .ref 188] I L (some (.int (sgn (fun k => I 188 (k + 1)) b))) I L := by
  refine wL_sign l rfl (hz0 (by decide)) (fun V hV => ?_)
  refine ru_go hV 4 [] rfl rfl trivial ?_
  refine loop0 (P := fun k => V 4 [(0, .int (nI b)), (1, .ref 188), (2, .int (sgB (fun k => I 188 (k + 1)) b k)), (3, .int (nI k))] [] I L) 5 (fun h => h) (fun k hk ih => ?_) ?_
  · by_cases h : b.testBit k = true
    · refine ru_go hV 20 [(0, 0), (0, 0), ((k+1), 15)] rfl rfl ⟨⟨⟨trivial, nI5_ge hk⟩, (fun e => e ((bit_tst b hb k hk).mpr h))⟩, ⟨rfl, by rw [Int32.add_comm, nI_1], by omega⟩⟩ ?_
      rw [nI_1]
      simp only [sgB, h, if_true] at ih
      exact ih
    · refine ru_go hV 12 [(0, 0), (1, 0)] rfl rfl ⟨⟨trivial, nI5_ge hk⟩, (fun e => h ((bit_tst b hb k hk).mp e))⟩ ?_
      rw [nI_1]
      simp only [sgB, h] at ih
      exact ih
  · refine ru_fin hV 5 [(1, 0)] rfl rfl ⟨trivial, (by decide)⟩ ?_
    exact ⟨rfl, rfl, rfl⟩
theorem qL_all (l : Launch) {n : Nat} (hn : n ≤ 5) {I : IM} (hd : I 188 0 = nI n) (L : LM) : KL_all l [.ref 188] I L (some (.int (nI (2 ^ n)))) I L := by
  refine wL_all l rfl (hz0 (by decide)) (fun V hV => ?_)
  refine ru_fin hV 6 [(0, 15)] rfl rfl ⟨trivial, ⟨rfl, rfl, by decide⟩⟩ ?_
  refine ⟨?_, rfl, rfl⟩
  rw [hd, bl_sh n hn]
  rfl
