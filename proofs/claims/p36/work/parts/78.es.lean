/-! REDUCED ECHELONS of a null space, and that there is but one -/
def ES (n : Nat) (N : (Nat → Int) → Prop) (S : Nat → Prop) (w : Nat → Nat → Int) : Prop := (∀ h, S h → h < n ∧ N (w h) ∧ w h h ≠ 0 ∧ (∀ d, d < h → w h d = 0) ∧ ∀ h', S h' → h' ≠ h → w h h' = 0) ∧ ∀ v, N v → (∀ h, S h → v h = 0) → ∀ d, d < n → v d = 0
def LN (N : (Nat → Int) → Prop) : Prop := ∀ v w a b, N v → N w → N (fun d => a * v d - b * w d)
theorem ES.lead {n : Nat} {N : (Nat → Int) → Prop} {S : Nat → Prop} {w : Nat → Nat → Int} (hL : LN N) (h : ES n N S w) {v : Nat → Int} {l : Nat} (hv : N v) (hl : l < n) (hne : v l ≠ 0) (hz : ∀ d, d < l → v d = 0) : S l := by
  apply Classical.byContradiction
  intro hS
  have key : ∀ m, ∃ x, N x ∧ x l ≠ 0 ∧ (∀ d, d < l → x d = 0) ∧ ∀ h, S h → h < m → x h = 0 := by
    intro m
    induction m with
    | zero => exact ⟨v, hv, hne, hz, fun h _ hh => absurd hh (by omega)⟩
    | succ m ih =>
      obtain ⟨x, x1, x2, x3, x4⟩ := ih
      by_cases hm : S m
      · obtain ⟨-, w1, w2, w3, w4⟩ := h.1 m hm
        have hml : m ≠ l := fun e => hS (e ▸ hm)
        refine ⟨fun d => w m m * x d - x m * w m d, hL _ _ _ _ x1 w1, ?_, fun d hd => ?_, fun h' hh hlt => ?_⟩
        · show w m m * x l - x m * w m l ≠ 0
          have : x m * w m l = 0 := by
            by_cases e : m < l
            · rw [x3 m e, Int.zero_mul]
            · rw [w3 l (by omega), Int.mul_zero]
          rw [this, Int.sub_zero]
          exact Int.mul_ne_zero w2 x2
        · show w m m * x d - x m * w m d = 0
          have : x m * w m d = 0 := by
            by_cases e : m < l
            · rw [x3 m e, Int.zero_mul]
            · rw [w3 d (by omega), Int.mul_zero]
          rw [this, x3 d hd]
          simp
        · show w m m * x h' - x m * w m h' = 0
          by_cases e : h' = m
          · subst e
            rw [Int.mul_comm, Int.sub_self]
          · rw [x4 h' hh (by omega), w4 h' hh e]
            simp
      · exact ⟨x, x1, x2, x3, fun h' hh hlt => x4 h' hh (by have : h' ≠ m := fun e => hm (e ▸ hh); omega)⟩
  obtain ⟨x, x1, x2, -, x4⟩ := key n
  exact x2 (h.2 x x1 (fun h' hh => x4 h' hh (h.1 h' hh).1) l hl)
theorem ES.uniq {n : Nat} {N : (Nat → Int) → Prop} {S S' : Nat → Prop} {w w' : Nat → Nat → Int} (hL : LN N) (h : ES n N S w) (h' : ES n N S' w') : (∀ l, S l ↔ S' l) ∧ ∀ l, S l → ∀ d, d < n → w' l l * w l d = w l l * w' l d := by
  have hS : ∀ l, S l ↔ S' l := fun l => ⟨fun hl => by
    obtain ⟨a1, a2, a3, a4, -⟩ := h.1 l hl
    exact h'.lead hL a2 a1 a3 a4, fun hl => by
    obtain ⟨a1, a2, a3, a4, -⟩ := h'.1 l hl
    exact h.lead hL a2 a1 a3 a4⟩
  refine ⟨hS, fun l hl d hd => ?_⟩
  obtain ⟨-, a2, -, -, a5⟩ := h.1 l hl
  obtain ⟨-, b2, -, -, b5⟩ := h'.1 l ((hS l).mp hl)
  have := h.2 (fun d => w' l l * w l d - w l l * w' l d) (hL _ _ _ _ a2 b2) (fun q hq => ?_) d hd
  · have e : w' l l * w l d - w l l * w' l d = 0 := this
    omega
  · show w' l l * w l q - w l l * w' l q = 0
    by_cases e : q = l
    · rw [e, Int.mul_comm, Int.sub_self]
    · rw [a5 q hq e, b5 q ((hS q).mp hq) e]
      simp
/-! how many columns are free -/
def cF (po : Nat → Option Nat) (lo : Nat) : Nat → Nat
  | 0 => 0
  | k + 1 => cF po lo k + if (po (lo + k)).isNone then 1 else 0
theorem cF_cong {po po' : Nat → Option Nat} {lo : Nat} : ∀ k, (∀ j, j < k → po (lo + j) = po' (lo + j)) → cF po lo k = cF po' lo k
  | 0, _ => rfl
  | k + 1, h => by rw [cF, cF, cF_cong k (fun j hj => h j (by omega)), h k (by omega)]
theorem cF_front {po : Nat → Option Nat} {lo : Nat} : ∀ k, cF po lo (k + 1) = (if (po lo).isNone then 1 else 0) + cF po (lo + 1) k
  | 0 => by rw [cF, cF, cF, Nat.add_zero]; omega
  | k + 1 => by
    rw [cF, cF_front k, cF, show lo + 1 + k = lo + (k + 1) by omega]
    omega
theorem cF_0 {po : Nat → Option Nat} {lo : Nat} : ∀ k, cF po lo k = 0 → ∀ j, j < k → po (lo + j) ≠ none
  | 0, _, j, hj => absurd hj (by omega)
  | k + 1, h, j, hj => by
    rw [cF] at h
    by_cases e : j = k
    · subst e
      intro e2
      rw [e2] at h
      simp at h
    · exact cF_0 k (by omega) j (by omega)
theorem slM_cnt {A0 : VM} {n : Nat} : ∀ m, m ≤ n → (slM A0 n m).2.1 + cF (slM A0 n m).2.2.2 (n - m) m = m
  | 0, _ => rfl
  | m + 1, hm => by
    have ih := slM_cnt (A0 := A0) (n := n) m (by omega)
    rw [slM]
    generalize slM A0 n m = G at ih
    rw [show n - (m + 1) = n - 1 - m by omega, cF_front]
    have e1 : n - 1 - m + 1 = n - m := by omega
    unfold slC
    cases hr : rwF G.1 (n - 1 - m) G.2.1 with
    | none =>
      show G.2.1 + ((if (if n - 1 - m = n - 1 - m then (none : Option Nat) else _).isNone then 1 else 0) + _) = _
      rw [if_pos rfl, e1, cF_cong (po' := G.2.2.2) m (fun j hj => ?_)]
      · simp only [Option.isNone_none, if_true]
        omega
      · show (if n - m + j = n - 1 - m then none else G.2.2.2 (n - m + j)) = _
        rw [if_neg (by omega)]
    | some i =>
      show G.2.1 + 1 + ((if (if n - 1 - m = n - 1 - m then some G.2.1 else _).isNone then 1 else 0) + _) = _
      rw [if_pos rfl, e1, cF_cong (po' := G.2.2.2) m (fun j hj => ?_)]
      · simp only [Option.isNone_some]
        show G.2.1 + 1 + (0 + _) = _
        omega
      · show (if n - m + j = n - 1 - m then some G.2.1 else G.2.2.2 (n - m + j)) = _
        rw [if_neg (by omega)]
/-- rows in the columns of pivots -/
theorem gi_at {n m : Nat} {A0 A : VM} {P : Pvs} {po : Nat → Option Nat} (h : GI n m A0 A P po) (hn : n ≤ 5) {c k : Nat} (h1 : m ≤ c) (h2 : c < n) (hk : po c = some k) : k < P.length ∧ (∀ k', P.length ≤ k' → k' < 32 → (A k' c).toInt = 0) ∧ ∀ k', k' < P.length → (A k' c).toInt = if k' = k then DD P else 0 := by
  obtain ⟨⟨g1, g2, g3⟩, g4, g5, g6, g7, g8, g9⟩ := h
  obtain ⟨r, hr⟩ := g6 c h1 h2 k hk
  have hmem := mem_of_get hr
  refine ⟨(List.getElem?_eq_some_iff.mp hr).1, fun k' k1 k2 => ?_, fun k' hk' => ?_⟩
  · obtain ⟨v, -, hA⟩ := g4 k' k1 k2
    rw [hA c (by omega)]
    exact NN_col g1 hmem v
  · obtain ⟨⟨r', c'⟩, hx⟩ : ∃ x, P[k']? = some x := ⟨P[k'], List.getElem?_eq_getElem hk'⟩
    obtain ⟨-, -, a3, hA⟩ := g5 k' r' c' hx
    rw [hA c (by omega), NN_col g1 hmem, Int.sub_zero]
    by_cases e : k' = k
    · subst e
      rw [hr] at hx
      cases hx
      rw [if_pos rfl, if_pos rfl]
    · rw [if_neg e, if_neg (fun e2 => e (by rw [← e2, hk] at a3; cases a3; rfl))]
/-- what solving comes to: a state as above, or no column without a pivot and no vector -/
theorem slM_inv {A0 : VM} (hA : ∀ k, k < 32 → ∀ d, d < 5 → sb (A0 k d).toInt) {n : Nat} (hn : n ≤ 5) : ∀ m, m ≤ n → (∃ P, GI n (n - m) A0 (slM A0 n m).1 P (slM A0 n m).2.2.2 ∧ (slM A0 n m).2.1 = P.length ∧ (slM A0 n m).2.2.1.toInt = DD P) ∨ (m = n ∧ (∀ c, c < n → (slM A0 n m).2.2.2 c ≠ none) ∧ ∀ v, Nu A0 n v → ∀ d, d < n → v d = 0)
  | 0, _ => Or.inl ⟨[], ⟨⟨by decide, fun x hx => by simp at hx, by show (1 : Int) ≠ 0; decide⟩, fun k _ hk => ⟨fun d => (A0 k d).toInt, fun d hd => hA k hk d hd, fun _ _ => rfl⟩, fun k r c hx => by simp at hx, fun c h1 h2 => by omega, fun c h1 h2 => by omega, fun k r c hx => by simp at hx, fun v => Iff.rfl⟩, rfl, rfl⟩
  | m + 1, hm => by
    have hcnt := slM_cnt (A0 := A0) (n := n) m (by omega)
    rcases slM_inv hA hn m (by omega) with ⟨P, hG, hpv, hp⟩ | ⟨h, -⟩
    · rw [slM]
      generalize slM A0 n m = G at hG hpv hp hcnt
      obtain ⟨A, pv, p, po⟩ := G
      have hG : GI n (n - m) A0 A P po := hG
      have hpv : pv = P.length := hpv
      have hp : p.toInt = DD P := hp
      have hcnt : pv + cF po (n - m) m = m := hcnt
      subst hpv
      have ec : n - (m + 1) = n - 1 - m := by omega
      rw [ec]
      unfold slC
      cases hr : rwF A (n - 1 - m) P.length with
      | none =>
        simp only [hr]
        exact Or.inl ⟨P, hG.none (by omega) (by omega) hn hr, rfl, hp⟩
      | some i =>
        simp only [hr]
        by_cases h3 : P.length ≤ 3
        · obtain ⟨r, h1, h2⟩ := hG.some hp (by omega) (by omega) hn h3 hr
          exact Or.inl ⟨_, h2, by rw [List.length_append]; rfl, h1⟩
        · have hl4 : P.length = 4 := by have := hG.1.1; omega
          have hm4 : m = 4 := by omega
          have hn5 : n = 5 := by omega
          subst hm4 hn5
          have hc0 := cF_0 4 (by omega : cF po (5 - 4) 4 = 0)
          refine Or.inr ⟨rfl, fun c hc => ?_, fun v hv => ?_⟩
          · show (if c = 0 then some P.length else po c) ≠ none
            by_cases e : c = 0
            · rw [if_pos e]; simp
            · rw [if_neg e]
              have := hc0 (c - 1) (by omega)
              rw [show 5 - 4 + (c - 1) = c by omega] at this
              exact this
          · have hvA := (hG.2.2.2.2.2.2 v).mpr hv
            obtain ⟨hi1, hi2⟩ := fsO_lt hr
            have hA0 : A (P.length + i) 0 ≠ 0 := of_decide_eq_true hi2
            have piv : ∀ c, 1 ≤ c → c < 5 → ∃ k, po c = some k := fun c h1 h2 => by
              have := hc0 (c - 1) (by omega)
              rw [show 5 - 4 + (c - 1) = c by omega] at this
              cases hk : po c with
              | none => exact absurd hk this
              | some k => exact ⟨k, rfl⟩
            have v0 : v 0 = 0 := by
              have h := hvA (P.length + i) (by omega)
              rw [sumI_one (i := 0) (by decide) (fun d hd hd0 => ?_)] at h
              · exact (Int.mul_eq_zero.mp h).resolve_left (fun e => hA0 (Int64.toInt_inj.mp (by rw [e]; rfl)))
              · obtain ⟨k, hk⟩ := piv d (by omega) hd
                rw [(gi_at hG hn (by omega) hd hk).2.1 _ (by omega) (by omega), Int.zero_mul]
            intro d hd
            by_cases e : d = 0
            · rw [e]; exact v0
            · obtain ⟨k, hk⟩ := piv d (by omega) hd
              obtain ⟨k1, -, k3⟩ := gi_at hG hn (by omega) hd hk
              have h := hvA k (by omega)
              rw [sumI_one (i := d) hd (fun d' hd' hne => ?_)] at h
              · rw [k3 k k1, if_pos rfl] at h
                exact (Int.mul_eq_zero.mp h).resolve_left hG.1.2.2
              · by_cases e' : d' = 0
                · rw [e', v0, Int.mul_zero]
                · obtain ⟨k', hk'⟩ := piv d' (by omega) hd'
                  rw [(gi_at hG hn (by omega) hd' hk').2.2 k k1, if_neg (fun ek => ?_), Int.zero_mul]
                  subst ek
                  obtain ⟨r1, q1⟩ := hG.2.2.2.1 d (by omega) hd k hk
                  obtain ⟨r2, q2⟩ := hG.2.2.2.1 d' (by omega) hd' k hk'
                  rw [q1] at q2
                  cases q2
                  exact hne rfl
    · omega
/-- THE VECTORS of the reference -/
def Hd (G : GS) (n h : Nat) : Prop := h < n ∧ G.2.2.2 h = none
def uu (G : GS) (h d : Nat) : Int := (rawF G h d).toInt
theorem neg_I {x : Int64} (h : -2 ^ 62 ≤ x.toInt ∧ x.toInt ≤ 2 ^ 62) : (-x).toInt = -x.toInt := by
  rw [Int64.toInt_neg]
  exact bm64 (by omega) (by omega)
theorem slM_ES {A0 : VM} (hA : ∀ k, k < 32 → ∀ d, d < 5 → sb (A0 k d).toInt) {n : Nat} (hn : n ≤ 5) : ES n (Nu A0 n) (Hd (slM A0 n n) n) (uu (slM A0 n n)) ∧ ∀ h, Hd (slM A0 n n) n h → ∀ d, d < n → -UBn (slM A0 n n).2.1 ≤ uu (slM A0 n n) h d ∧ uu (slM A0 n n) h d ≤ UBn (slM A0 n n).2.1 := by
  rcases slM_inv hA hn n (Nat.le_refl n) with ⟨P, hG, hpv, hp⟩ | ⟨-, h1, h2⟩
  · rw [Nat.sub_self] at hG
    generalize slM A0 n n = G at hG hpv hp
    obtain ⟨A, pv, p, po⟩ := G
    have hp : p.toInt = DD P := hp
    have hpv : pv = P.length := hpv
    subst hpv
    have hG2 : GI n 0 A0 A P po := hG
    clear hG
    have hat := fun {c k : Nat} (h2 : c < n) (hk : po c = some k) => gi_at hG2 hn (Nat.zero_le c) h2 hk
    obtain ⟨⟨g1, g2, g3⟩, g4, g5, g6, g7, g8, g9⟩ := hG2
    have hdb := DDb g2 g1
    have inj : ∀ c c' k, c < n → c' < n → po c = some k → po c' = some k → c = c' := fun c c' k hc hc' e1 e2 => by
      obtain ⟨r1, q1⟩ := g6 c (Nat.zero_le _) hc k e1
      obtain ⟨r2, q2⟩ := g6 c' (Nat.zero_le _) hc' k e2
      rw [q1] at q2
      cases q2
      rfl
    -- the numbers of a vector
    have bA : ∀ k, k < P.length → ∀ h, h < n → po h = none → (A k h).toInt = 0 ∨ (-UBn P.length ≤ (A k h).toInt ∧ (A k h).toInt ≤ UBn P.length) := by
      intro k hk h hh hf
      obtain ⟨⟨r, c⟩, hx⟩ : ∃ x, P[k]? = some x := ⟨P[k], List.getElem?_eq_getElem hk⟩
      obtain ⟨-, -, a3, hA⟩ := g5 k r c hx
      have hne : h ≠ c := fun e => by rw [e, a3] at hf; cases hf
      have := NNu g2 g1 (un_UB c) (d := h) (by omega)
      right
      rw [hA h (by omega), if_neg hne]
      omega
    have hU : UBn P.length ≤ 1555200000 ∧ 0 ≤ UBn P.length := by unfold UBn; split <;> omega
    have raw : ∀ h, h < n → po h = none → ∀ d, d < n → uu (A, P.length, p, po) h d = if d = h then DD P else match po d with
      | none => 0
      | some k => -(A k h).toInt := by
      intro h hh hf d hd
      unfold uu rawF
      by_cases e : d = h
      · rw [if_pos e, if_pos e]; exact hp
      · rw [if_neg e, if_neg e]
        show (match po d with | none => (0 : Int64) | some r => -(A r h)).toInt = _
        cases hk : po d with
        | none => rfl
        | some k =>
          have hkl := (hat hd hk).1
          exact neg_I (by rcases bA k hkl h hh hf with e | e <;> omega)
    refine ⟨⟨fun h hh => ?_, fun v hv hz => ?_⟩, fun h hh d hd => ?_⟩
    · obtain ⟨hh, hf⟩ := hh
      have hf : po h = none := hf
      have rw1 := raw h hh hf
      refine ⟨hh, ?_, ?_, fun d hd => ?_, fun h' hh' hne => ?_⟩
      · refine (g9 _).mp (fun k hk => ?_)
        by_cases e : P.length ≤ k
        · -- a line without a pivot is 0
          rw [sumI_cong (t := fun _ => 0) (fun d hd => ?_), sumI_0]
          cases hk' : po d with
          | none => rw [g7 d (Nat.zero_le _) hd hk' k e hk, Int.zero_mul]
          | some k' => rw [(hat hd hk').2.1 k e hk, Int.zero_mul]
        · obtain ⟨⟨r, c⟩, hx⟩ : ∃ x, P[k]? = some x := ⟨P[k], List.getElem?_eq_getElem (by omega)⟩
          obtain ⟨-, hc, a3, -⟩ := g5 k r c hx
          have hne : h ≠ c := fun e => by rw [e, a3] at hf; cases hf
          rw [sumI_two (i := h) (j := c) hne hh hc (fun d hd d1 d2 => ?_)]
          · show (A k h).toInt * uu (A, P.length, p, po) h h + (A k c).toInt * uu (A, P.length, p, po) h c = 0
            rw [rw1 h hh, rw1 c hc, if_pos rfl, if_neg (Ne.symm hne), a3, (hat hc a3).2.2 k (by omega), if_pos rfl]
            grind
          · show (A k d).toInt * uu (A, P.length, p, po) h d = 0
            rw [rw1 d hd, if_neg d1]
            cases hk' : po d with
            | none => rw [Int.mul_zero]
            | some k' =>
              rw [(hat hd hk').2.2 k (by omega), if_neg (fun e2 => d2 (inj d c k hd hc (by rw [hk', e2]) a3)), Int.zero_mul]
      · rw [rw1 h hh, if_pos rfl]; exact g3
      · rw [rw1 d (by omega), if_neg (by omega)]
        cases hk : po d with
        | none => rfl
        | some k =>
          obtain ⟨r, hx⟩ := g6 d (Nat.zero_le _) (by omega) k hk
          show -(A k h).toInt = 0
          rw [g8 k r d hx h hd hh hf]
          rfl
      · obtain ⟨hh1, hh2⟩ := hh'
        rw [rw1 h' hh1, if_neg hne, show po h' = none from hh2]
    · have hvA := (g9 v).mpr hv
      intro d hd
      cases hk : po d with
      | none => exact hz d ⟨hd, hk⟩
      | some k =>
        obtain ⟨k1, -, k3⟩ := hat hd hk
        have h := hvA k (by omega)
        rw [sumI_one (i := d) hd (fun d' hd' hne => ?_)] at h
        · rw [k3 k k1, if_pos rfl] at h
          exact (Int.mul_eq_zero.mp h).resolve_left g3
        · cases hk' : po d' with
          | none => rw [hz d' ⟨hd', hk'⟩, Int.mul_zero]
          | some k' =>
            rw [(hat hd' hk').2.2 k k1, if_neg (fun ek => hne (inj d' d k hd' hd (by rw [hk', ek]) hk)), Int.zero_mul]
    · obtain ⟨hh, hf⟩ := hh
      rw [raw h hh hf d hd]
      show -UBn P.length ≤ _ ∧ _ ≤ UBn P.length
      split
      · unfold UBn
        split
        · rename_i h3; have := hdb.2.2 h3; omega
        · omega
      · cases hk : po d with
        | none => show -UBn P.length ≤ (0 : Int) ∧ (0 : Int) ≤ UBn P.length; omega
        | some k =>
          show -UBn P.length ≤ -(A k h).toInt ∧ -(A k h).toInt ≤ UBn P.length
          rcases bA k (hat hd hk).1 h hh hf with e | e <;> omega
  · exact ⟨⟨fun h hh => absurd hh.2 (h1 h hh.1), fun v hv _ => h2 v hv⟩, fun h hh => absurd hh.2 (h1 h hh.1)⟩
