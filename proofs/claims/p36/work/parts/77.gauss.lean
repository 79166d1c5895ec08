/-! the state of the elimination, in whole numbers -/
def un (c : Nat) : Nat → Int := fun d => if d = c then 1 else 0
theorem un_UB (c : Nat) : UBd (un c) := fun d _ => by unfold un; split <;> omega
theorem un_VB (c : Nat) : VB (un c) := fun d _ => by unfold un; split <;> omega
/-- as solving goes, from any lines -/
def slM (A0 : VM) (n : Nat) : Nat → GS
  | 0 => (A0, 0, 1, fun _ => none)
  | m + 1 => slC (n - 1 - m) (slM A0 n m)
theorem slG_M {f : Nat → Int32} {n : Nat} : ∀ m, slG f n m = slM (lnF f n) n m
  | 0 => rfl
  | m + 1 => by rw [slG, slM, slG_M m]
/-- what holds of lines A, pivots P, and the lines of columns po, where the columns from m on are done -/
def GI (n m : Nat) (A0 A : VM) (P : Pvs) (po : Nat → Option Nat) : Prop :=
  (P.length ≤ 4 ∧ PB P ∧ DD P ≠ 0) ∧
  (∀ k, P.length ≤ k → k < 32 → ∃ v, VB v ∧ ∀ d, d < 5 → (A k d).toInt = NN P v d) ∧
  (∀ k r c, P[k]? = some (r, c) → m ≤ c ∧ c < n ∧ po c = some k ∧ ∀ d, d < 5 → (A k d).toInt = (if d = c then DD P else 0) - NN P (un c) d) ∧
  (∀ c, m ≤ c → c < n → ∀ k, po c = some k → ∃ r, P[k]? = some (r, c)) ∧
  (∀ c, m ≤ c → c < n → po c = none → ∀ k, P.length ≤ k → k < 32 → (A k c).toInt = 0) ∧
  (∀ k r c, P[k]? = some (r, c) → ∀ h, c < h → h < n → po h = none → (A k h).toInt = 0) ∧
  (∀ v, Nu A n v ↔ Nu A0 n v)
theorem mem_of_get {P : Pvs} {k : Nat} {x : (Nat → Int) × Nat} (h : P[k]? = some x) : x ∈ P := List.mem_of_getElem? h
theorem get_of_mem {P : Pvs} {x : (Nat → Int) × Nat} (h : x ∈ P) : ∃ k, k < P.length ∧ P[k]? = some x := by
  obtain ⟨k, hk, he⟩ := List.getElem_of_mem h
  exact ⟨k, hk, by rw [List.getElem?_eq_getElem hk, he]⟩
/-- arithmetic that does not overflow -/
theorem subm_I {a b c d : Int64} (ha : -2 ^ 30 ≤ a.toInt ∧ a.toInt ≤ 2 ^ 30) (hb : -2 ^ 30 ≤ b.toInt ∧ b.toInt ≤ 2 ^ 30) (hc : -2 ^ 30 ≤ c.toInt ∧ c.toInt ≤ 2 ^ 30) (hd : -2 ^ 30 ≤ d.toInt ∧ d.toInt ≤ 2 ^ 30) : (a * b - c * d).toInt = a.toInt * b.toInt - c.toInt * d.toInt := by
  have h1 := mulb ha hb
  have h2 := mulb hc hd
  rw [Int64.toInt_sub, Int64.toInt_mul, Int64.toInt_mul, bm64 (x := a.toInt * b.toInt) (by omega) (by omega), bm64 (x := c.toInt * d.toInt) (by omega) (by omega), bm64 (by omega) (by omega)]
theorem div_I {x b : Int64} {z : Int} (hb : b.toInt ≠ 0) (h : x.toInt = b.toInt * z) (hz : -2 ^ 62 ≤ z ∧ z ≤ 2 ^ 62) : (x / b).toInt = z := by
  rw [Int64.toInt_div, h, Int.mul_tdiv_cancel_left _ hb]
  exact bm64 (by omega) (by omega)
theorem GI.rowb {n m : Nat} {A0 A : VM} {P : Pvs} {po : Nat → Option Nat} (h : GI n m A0 A P po) (h3 : P.length ≤ 3) {k d : Nat} (hk : k < 32) (hd : d < 5) : -2 ^ 30 ≤ (A k d).toInt ∧ (A k d).toInt ≤ 2 ^ 30 := by
  obtain ⟨⟨g1, g2, g3⟩, g4, g5, -⟩ := h
  by_cases e : P.length ≤ k
  · obtain ⟨v, hv, hA⟩ := g4 k e hk
    have := NNb g2 h3 hv hd
    rw [hA d hd]
    omega
  · obtain ⟨⟨r, c⟩, hx⟩ : ∃ x, P[k]? = some x := ⟨P[k], List.getElem?_eq_getElem (by omega)⟩
    obtain ⟨-, -, -, hA⟩ := g5 k r c hx
    have h1 := NNu g2 g1 (un_UB c) hd
    have h2 := (DDb g2 g1).2.2 h3
    rw [hA d hd]
    unfold UBn at h1
    rw [if_pos h3] at h1
    split <;> omega
/-- the same null space behind an exchange -/
theorem Nu_xc {A : VM} {n a b : Nat} (ha : a < 32) (hb : b < 32) {v : Nat → Int} : Nu (xcA A a b) n v ↔ Nu A n v := by
  have e : ∀ k, (fun d => (xcA A a b k d).toInt * v d) = (fun d => (A (if k = b then a else if k = a then b else k) d).toInt * v d) := fun k => by
    funext d
    unfold xcA
    by_cases h1 : k = b
    · rw [if_pos h1, if_pos h1]
    · rw [if_neg h1, if_neg h1]
      by_cases h2 : k = a
      · rw [if_pos h2, if_pos h2]
      · rw [if_neg h2, if_neg h2]
  constructor
  · intro h k hk
    have := h (if k = b then a else if k = a then b else k) (by split; exact ha; split; exact hb; exact hk)
    rw [e] at this
    rw [← this]
    refine sumI_cong (fun d _ => ?_)
    congr 2
    by_cases h1 : k = b
    · by_cases h2 : a = b
      · simp [h1, h2]
      · simp [h1, h2]
    · by_cases h2 : k = a
      · simp [h1, h2]
      · simp [h1, h2]
  · intro h k hk
    rw [e]
    exact h _ (by split; exact ha; split; exact hb; exact hk)
/-- one column without a pivot -/
theorem GI.none {n m c : Nat} {A0 A : VM} {P : Pvs} {po : Nat → Option Nat} (h : GI n m A0 A P po) (hc : c + 1 = m) (hm : m ≤ n) (hn : n ≤ 5) (hr : rwF A c P.length = none) : GI n c A0 A P (fun j => if j = c then none else po j) := by
  obtain ⟨g1, g4, g5, g6, g7, g8, g9⟩ := h
  have hz := fsO_nil hr
  have hcol : ∀ k r c', P[k]? = some (r, c') → c' ≠ c := fun k r c' hx e => by have := (g5 k r c' hx).1; omega
  refine ⟨g1, g4, fun k r c' hx => ?_, fun c' h1 h2 k hk => ?_, fun c' h1 h2 hk k k1 k2 => ?_, fun k r c' hx h' h1 h2 h3 => ?_, g9⟩
  · obtain ⟨a1, a2, a3, a4⟩ := g5 k r c' hx
    refine ⟨by omega, a2, ?_, a4⟩
    show (if c' = c then Option.none else po c') = some k
    rw [if_neg (hcol k r c' hx)]
    exact a3
  · by_cases e : c' = c
    · simp [e] at hk
    · simp only [e, if_false] at hk
      exact g6 c' (by omega) h2 k hk
  · by_cases e : c' = c
    · have := of_decide_eq_false (hz (k - P.length) (by omega))
      rw [show P.length + (k - P.length) = k by omega] at this
      rw [e, show A k c = 0 by simpa using this]
      rfl
    · simp only [e, if_false] at hk
      exact g7 c' (by omega) h2 hk k k1 k2
  · by_cases e : h' = c
    · have := (g5 k r c' hx).1
      omega
    · simp only [e, if_false] at h3
      exact g8 k r c' hx h' h1 h2 h3
/-- one column with a pivot, the fifth apart -/
theorem GI.some {n m c i : Nat} {A0 A : VM} {P : Pvs} {po : Nat → Option Nat} {p : Int64} (h : GI n m A0 A P po) (hp : p.toInt = DD P) (hc : c + 1 = m) (hm : m ≤ n) (hn : n ≤ 5) (h3 : P.length ≤ 3) (hr : rwF A c P.length = some i) : ∃ r, (xcA A (P.length + i) P.length P.length c).toInt = DD (P ++ [(r, c)]) ∧ GI n c A0 (ccA (xcA A (P.length + i) P.length) P.length c p) (P ++ [(r, c)]) (fun j => if j = c then some P.length else po j) := by
  obtain ⟨hi1, hi2⟩ := fsO_lt hr
  have hA0 : A (P.length + i) c ≠ 0 := of_decide_eq_true hi2
  have hb : ∀ {k d : Nat}, k < 32 → d < 5 → -2 ^ 30 ≤ (A k d).toInt ∧ (A k d).toInt ≤ 2 ^ 30 := fun hk hd => h.rowb h3 hk hd
  obtain ⟨⟨g1, g2, g3⟩, g4, g5, g6, g7, g8, g9⟩ := h
  generalize hs : P.length = s at *
  have hc5 : c < 5 := by omega
  obtain ⟨r, hr1, hr2⟩ := g4 (s + i) (by omega) (by omega)
  have hcol : ∀ x ∈ P, x.2 ≠ c := fun x hx e => by
    obtain ⟨k, -, hk⟩ := get_of_mem hx
    have := (g5 k x.1 x.2 hk).1
    omega
  have hl : (P ++ [(r, c)]).length = s + 1 := by rw [List.length_append, hs]; rfl
  have hP' : PB (P ++ [(r, c)]) := fun x hx => by
    rcases List.mem_append.mp hx with h | h
    · exact g2 x h
    · have : x = (r, c) := by simpa using h
      subst this
      exact ⟨hr1, hc5⟩
  have hD' : DD (P ++ [(r, c)]) = NN P r c := DD_add P (by omega) r c
  -- the lines behind the exchange
  have x1 : ∀ d, xcA A (s + i) s s d = A (s + i) d := fun d => if_pos rfl
  have x2 : ∀ k, s ≤ k → k < 32 → ∃ v, VB v ∧ ∀ d, d < 5 → (xcA A (s + i) s k d).toInt = NN P v d := by
    intro k k1 k2
    unfold xcA
    by_cases e1 : k = s
    · simp only [e1, if_true]
      exact ⟨r, hr1, hr2⟩
    · by_cases e2 : k = s + i
      · obtain ⟨v, hv, hA⟩ := g4 s (by omega) (by omega)
        exact ⟨v, hv, fun d hd => by rw [if_neg e1, if_pos e2]; exact hA d hd⟩
      · simp only [if_neg e1, if_neg e2]
        exact g4 k k1 k2
  have x3 : ∀ k, k < s → ∀ d, xcA A (s + i) s k d = A k d := fun k hk d => by
    unfold xcA
    rw [if_neg (by omega), if_neg (by omega)]
  have xb : ∀ k, k < 32 → ∀ d, d < 5 → -2 ^ 30 ≤ (xcA A (s + i) s k d).toInt ∧ (xcA A (s + i) s k d).toInt ≤ 2 ^ 30 := fun k hk d hd => by
    unfold xcA
    split
    · exact hb (by omega) hd
    · split
      · exact hb (by omega) hd
      · exact hb hk hd
  have hq : (xcA A (s + i) s s c).toInt = NN P r c := by rw [x1]; exact hr2 c hc5
  have hq0 : NN P r c ≠ 0 := fun e => hA0 (Int64.toInt_inj.mp (by rw [hr2 c hc5, e]; rfl))
  have hpz : p.toInt ≠ 0 := by rw [hp]; exact g3
  -- the step
  have step : ∀ k, k < 32 → k ≠ s → ∀ d, d < 5 → ∀ z, NN P r c * (xcA A (s + i) s k d).toInt - (xcA A (s + i) s k c).toInt * NN P r d = DD P * z → -2 ^ 62 ≤ z ∧ z ≤ 2 ^ 62 → (ccA (xcA A (s + i) s) s c p k d).toInt = z := by
    intro k hk hks d hd z hz hzb
    unfold ccA
    rw [if_neg hks]
    refine div_I hpz ?_ hzb
    rw [subm_I (xb s (by omega) c hc5) (xb k hk d hd) (xb k hk c hc5) (xb s (by omega) d hd), hq, x1 d, hr2 d (by omega), hp]
    exact hz
  have nb : ∀ v, (VB v ∨ UBd v) → ∀ d, d < 5 → -2 ^ 61 ≤ NN (P ++ [(r, c)]) v d ∧ NN (P ++ [(r, c)]) v d ≤ 2 ^ 61 := by
    intro v hv d hd
    have key : ∀ v, VB v → -2 ^ 61 ≤ NN (P ++ [(r, c)]) v d ∧ NN (P ++ [(r, c)]) v d ≤ 2 ^ 61 := by
      intro v hv
      by_cases e : s ≤ 2
      · have := NNb hP' (by omega) hv hd
        omega
      · have hs3 : P.length = 3 := by omega
        match P, hs3, hP' with
        | [(r1, c1), (r2, c2), (r3, c3)], _, hP' =>
          obtain ⟨p1, q1⟩ := hP'.get (r := r1) (c := c1) (by simp)
          obtain ⟨p2, q2⟩ := hP'.get (r := r2) (c := c2) (by simp)
          obtain ⟨p3, q3⟩ := hP'.get (r := r3) (c := c3) (by simp)
          have := m5b (p1 c1 q1) (p1 c2 q2) (p1 c3 q3) (p1 c hc5) (p1 d hd) (p2 c1 q1) (p2 c2 q2) (p2 c3 q3) (p2 c hc5) (p2 d hd) (p3 c1 q1) (p3 c2 q2) (p3 c3 q3) (p3 c hc5) (p3 d hd) (hr1 c1 q1) (hr1 c2 q2) (hr1 c3 q3) (hr1 c hc5) (hr1 d hd) (hv c1 q1) (hv c2 q2) (hv c3 q3) (hv c hc5) (hv d hd)
          show -2 ^ 61 ≤ m5 _ _ _ _ _ _ _ _ _ _ _ _ _ _ _ _ _ _ _ _ _ _ _ _ _ ∧ m5 _ _ _ _ _ _ _ _ _ _ _ _ _ _ _ _ _ _ _ _ _ _ _ _ _ ≤ 2 ^ 61
          omega
    rcases hv with hv | hv
    · exact key v hv
    · exact key v (fun d hd => by have := hv d hd; show -60 ≤ v d ∧ v d ≤ 60; omega)
  have sN : ∀ k, s + 1 ≤ k → k < 32 → ∃ v, VB v ∧ ∀ d, d < 5 → (ccA (xcA A (s + i) s) s c p k d).toInt = NN (P ++ [(r, c)]) v d := by
    intro k k1 k2
    obtain ⟨v, hv, hA⟩ := x2 k (by omega) k2
    refine ⟨v, hv, fun d hd => step k k2 (by omega) d hd _ ?_ (by have := nb v (Or.inl hv) d hd; omega)⟩
    rw [hA d hd, hA c hc5]
    exact NN_add P (by omega) r v c d
  have ddb := DDb hP' (by omega)
  have sP : ∀ k r' c', P[k]? = Option.some (r', c') → ∀ d, d < 5 → (ccA (xcA A (s + i) s) s c p k d).toInt = (if d = c' then DD (P ++ [(r, c)]) else 0) - NN (P ++ [(r, c)]) (un c') d := by
    intro k r' c' hx d hd
    have hks : k < s := by rw [← hs]; exact (List.getElem?_eq_some_iff.mp hx).1
    obtain ⟨-, -, -, hA⟩ := g5 k r' c' hx
    have hne : c ≠ c' := fun e => hcol _ (mem_of_get hx) e.symm
    have hadd := NN_add P (by omega) r (un c') c d
    have hnb := nb (un c') (Or.inr (un_UB c')) d hd
    refine step k (by omega) (by omega) d hd _ ?_ (by split <;> omega)
    rw [x3 k hks, x3 k hks, hA d hd, hA c hc5, if_neg hne, hD']
    split <;> grind
  have hun : NN P (un c) = fun d => DD P * un c d := funext fun d => NN_un (by omega) (fun x hx => by unfold un; rw [if_neg (hcol x hx)]) d
  have sS : ∀ d, d < 5 → (ccA (xcA A (s + i) s) s c p s d).toInt = (if d = c then DD (P ++ [(r, c)]) else 0) - NN (P ++ [(r, c)]) (un c) d := by
    intro d hd
    unfold ccA
    rw [if_pos rfl, x1, hr2 d hd, hD']
    have hadd := NN_add P (by omega) r (un c) c d
    rw [hun] at hadd
    have e1 : un c c = 1 := if_pos rfl
    simp only [e1] at hadd
    have : DD P * NN (P ++ [(r, c)]) (un c) d = DD P * ((if d = c then NN P r c else 0) - NN P r d) := by
      rw [← hadd]
      unfold un
      split <;> grind
    have := Int.eq_of_mul_eq_mul_left g3 this
    omega
  have hnu : ∀ v, Nu (ccA (xcA A (s + i) s) s c p) n v ↔ Nu A0 n v := by
    intro v
    refine Iff.trans ?_ ((Nu_xc (a := s + i) (b := s) (by omega) (by omega)).trans (g9 v))
    have lin : ∀ k, k < 32 → k ≠ s → DD P * sumI (fun d => (ccA (xcA A (s + i) s) s c p k d).toInt * v d) n = NN P r c * sumI (fun d => (xcA A (s + i) s k d).toInt * v d) n - (xcA A (s + i) s k c).toInt * sumI (fun d => (xcA A (s + i) s s d).toInt * v d) n := by
      intro k hk hks
      rw [← sumI_lin]
      have : DD P * sumI (fun d => (ccA (xcA A (s + i) s) s c p k d).toInt * v d) n = sumI (fun d => DD P * ((ccA (xcA A (s + i) s) s c p k d).toInt * v d) - 0 * v d) n := by rw [sumI_lin]; simp
      rw [this]
      refine sumI_cong (fun d hd => ?_)
      -- the numerator, exactly
      have num : NN P r c * (xcA A (s + i) s k d).toInt - (xcA A (s + i) s k c).toInt * (xcA A (s + i) s s d).toInt = DD P * (ccA (xcA A (s + i) s) s c p k d).toInt := by
        rw [x1 d, hr2 d (by omega)]
        by_cases e : s ≤ k
        · obtain ⟨v', hv', hA⟩ := x2 k e hk
          rw [hA d (by omega), hA c hc5, NN_add P (by omega) r v' c d]
          congr 1
          refine (step k hk hks d (by omega) _ ?_ (by have := nb v' (Or.inl hv') d (by omega); omega)).symm
          rw [hA d (by omega), hA c hc5]
          exact NN_add P (by omega) r v' c d
        · obtain ⟨⟨r', c'⟩, hx⟩ : ∃ x, P[k]? = Option.some x := ⟨P[k], List.getElem?_eq_getElem (by omega)⟩
          rw [sP k r' c' hx d (by omega)]
          obtain ⟨-, -, -, hA⟩ := g5 k r' c' hx
          have hne : c ≠ c' := fun e => hcol _ (mem_of_get hx) e.symm
          have hadd := NN_add P (by omega) r (un c') c d
          rw [x3 k (by omega), x3 k (by omega), hA d (by omega), hA c hc5, if_neg hne, hD']
          split <;> grind
      grind
    have own : sumI (fun d => (ccA (xcA A (s + i) s) s c p s d).toInt * v d) n = sumI (fun d => (xcA A (s + i) s s d).toInt * v d) n := sumI_cong (fun d _ => by unfold ccA; rw [if_pos rfl])
    constructor
    · intro h k hk
      have hs0 := h s (by omega)
      rw [own] at hs0
      by_cases e : k = s
      · rw [e]; exact hs0
      · have := lin k hk e
        rw [h k hk, hs0] at this
        have h0 : NN P r c * sumI (fun d => (xcA A (s + i) s k d).toInt * v d) n = 0 := by omega
        exact (Int.mul_eq_zero.mp h0).resolve_left hq0
    · intro h k hk
      by_cases e : k = s
      · rw [e, own]; exact h s (by omega)
      · have := lin k hk e
        rw [h k hk, h s (by omega)] at this
        have h0 : DD P * sumI (fun d => (ccA (xcA A (s + i) s) s c p k d).toInt * v d) n = 0 := by omega
        exact (Int.mul_eq_zero.mp h0).resolve_left g3
  -- free columns stay 0
  have fz : ∀ k, k < 32 → ∀ h', h' < n → (xcA A (s + i) s k h').toInt = 0 → (A (s + i) h').toInt = 0 → k ≠ s → (ccA (xcA A (s + i) s) s c p k h').toInt = 0 := by
    intro k hk h' hh e1 e2 hks
    refine step k hk hks h' (by omega) 0 ?_ (by omega)
    rw [← hr2 h' (by omega), e1, e2]
    simp
  have getP : ∀ k r' c', (P ++ [(r, c)])[k]? = Option.some (r', c') → (k < s ∧ P[k]? = Option.some (r', c')) ∨ (k = s ∧ r' = r ∧ c' = c) := by
    intro k r' c' hx
    by_cases e : k < s
    · rw [List.getElem?_append_left (by omega)] at hx
      exact Or.inl ⟨e, hx⟩
    · right
      rw [List.getElem?_append_right (by omega), hs] at hx
      by_cases e2 : k = s
      · rw [e2, Nat.sub_self] at hx
        simp at hx
        exact ⟨e2, hx.1.symm, hx.2.symm⟩
      · rw [List.getElem?_eq_none (by simp; omega)] at hx
        cases hx
  refine ⟨r, by rw [hD']; exact hq, ⟨by omega, hP', by rw [hD']; exact hq0⟩, fun k k1 k2 => sN k (by omega) k2, fun k r' c' hx => ?_, fun c' h1 h2 k hk => ?_, fun c' h1 h2 hk k k1 k2 => ?_, fun k r' c' hx h' h1 h2 h3' => ?_, hnu⟩
  · rcases getP k r' c' hx with ⟨hks, hx⟩ | ⟨rfl, rfl, rfl⟩
    · obtain ⟨a1, a2, a3, -⟩ := g5 k r' c' hx
      refine ⟨by omega, a2, ?_, sP k r' c' hx⟩
      show (if c' = c then Option.some s else po c') = Option.some k
      rw [if_neg (hcol _ (mem_of_get hx))]
      exact a3
    · exact ⟨Nat.le_refl _, by omega, if_pos rfl, sS⟩
  · by_cases e : c' = c
    · simp only [e, if_true, Option.some.injEq] at hk
      subst hk
      refine ⟨r, ?_⟩
      rw [List.getElem?_append_right (by omega), hs, Nat.sub_self, e]
      rfl
    · simp only [e, if_false] at hk
      obtain ⟨r', hr'⟩ := g6 c' (by omega) h2 k hk
      have hks : k < s := by rw [← hs]; exact (List.getElem?_eq_some_iff.mp hr').1
      exact ⟨r', by rw [List.getElem?_append_left (by omega)]; exact hr'⟩
  · by_cases e : c' = c
    · simp [e] at hk
    · simp only [e, if_false] at hk
      have h7 := g7 c' (by omega) h2 hk
      refine fz k k2 c' h2 ?_ (h7 (s + i) (by omega) (by omega)) (by omega)
      unfold xcA
      rw [if_neg (by omega)]
      split
      · exact h7 s (by omega) (by omega)
      · exact h7 k (by omega) k2
  · by_cases e : h' = c
    · simp [e] at h3'
    · simp only [e, if_false] at h3'
      have hmh : m ≤ h' := by
        rcases getP k r' c' hx with ⟨hks, hx⟩ | ⟨rfl, rfl, rfl⟩
        · have := (g5 k r' c' hx).1; omega
        · omega
      have h7 := g7 h' hmh h2 h3'
      rcases getP k r' c' hx with ⟨hks, hx⟩ | ⟨rfl, rfl, rfl⟩
      · refine fz k (by omega) h' h2 ?_ (h7 (s + i) (by omega) (by omega)) (by omega)
        rw [x3 k hks]
        exact g8 k r' c' hx h' h1 h2 h3'
      · unfold ccA
        rw [if_pos rfl, x1]
        exact h7 (k + i) (by omega) (by omega)
