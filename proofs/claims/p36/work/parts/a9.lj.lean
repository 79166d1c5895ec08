/-! THE LAW'S work: an operation on both desks -/
section EQ
variable {I : IM} {L : LM} {n a b k : Nat} {w : Int32}
theorem bE0 : brF I L n 0 a b w k = L 181 (a + k) + L 181 (b + k) := rfl
theorem bE1 : brF I L n 1 a b w k = L 181 (a + k) * w.toInt64 := rfl
theorem bE2 : brF I L n 2 a b w k = wdg (fun q => L 181 (a + q)) (fun q => L 181 (b + q)) (2 ^ n) k := rfl
theorem bE3 : brF I L n 3 a b w k = ctr (sL I) (fun q => L 181 (a + q)) (fun q => L 181 (b + q)) (2 ^ n) k := rfl
theorem bE4 : brF I L n 4 a b w k = if k < 2 ^ n then L 181 (a + (2 ^ n - 1 - k)) * (sgn (sL I) (2 ^ n - 1 - k)).toInt64 * (odI (2 ^ n - 1 - k) k).toInt64 else 0 := rfl
theorem bE5 : brF I L n 5 a b w k = if nI (pc5 k) = w then L 181 (a + k) else 0 := rfl
theorem bE6 : brF I L n 6 a b w k = if pc5 k = 2 ∨ pc5 k = 3 then -L 181 (a + k) else L 181 (a + k) := rfl
theorem bE7 : brF I L n 7 a b w k = puL (mL I) n (fun q => L 181 (a + q)) k := rfl
theorem gE0 : gC I n 0 a b w = fun k => (I (3 + a) k).toInt64 + (I (3 + b) k).toInt64 := rfl
theorem gE1 : gC I n 1 a b w = fun k => (I (3 + a) k).toInt64 * w.toInt64 := rfl
theorem gE2 : gC I n 2 a b w = wC (I (3 + a)) (I (3 + b)) (2 ^ n) := rfl
theorem gE3 : gC I n 3 a b w = cC (I 11) (I (3 + a)) (I (3 + b)) (2 ^ n) := rfl
theorem gE4 : gC I n 4 a b w = stC (I 11) (I (3 + a)) (2 ^ n) := rfl
theorem gE5 : gC I n 5 a b w = fun k => if nI (pc5 k) = w then (I (3 + a) k).toInt64 else 0 := rfl
theorem gE6 : gC I n 6 a b w = fun k => if 2 ≤ pc5 k % 4 then (-(I (3 + a) k)).toInt64 else (I (3 + a) k).toInt64 := rfl
theorem gE7 : gC I n 7 a b w = puC (fun q p => I (13 + q) p) n (I (3 + a)) := rfl
end EQ
theorem op8 {P : Nat → Prop} (h0 : P 0) (h1 : P 1) (h2 : P 2) (h3 : P 3) (h4 : P 4) (h5 : P 5) (h6 : P 6) (h7 : P 7) {op : Nat} (h : op < 8) : P op := by
  rcases (show op = 0 ∨ op = 1 ∨ op = 2 ∨ op = 3 ∨ op = 4 ∨ op = 5 ∨ op = 6 ∨ op = 7 by omega) with rfl | rfl | rfl | rfl | rfl | rfl | rfl | rfl
  · exact h0
  · exact h1
  · exact h2
  · exact h3
  · exact h4
  · exact h5
  · exact h6
  · exact h7
theorem br_gC {I : IM} {L : LM} {n o z a b op : Nat} {w : Int32} (h : Sm I L n o z) (ha : a < 2) (hb : b < 2) (hop : op < 8) : ∀ k, k < 32 → brF I L n op (32 * a) (32 * b) w k = gC I n op a b w k := by
  intro k hk
  obtain ⟨⟨n2, n5, ho, hzz⟩, ⟨h2a, h2b, h2c⟩, h3, h4, h5, h6, h7, h8⟩ := h
  have hB := (pow_le32 n n5).1
  have fa := h4 a ha
  have fb := h4 b hb
  have ea : L 181 (32 * a + k) = (I (3 + a) k).toInt64 := fa.1 k hk
  have eb : L 181 (32 * b + k) = (I (3 + b) k).toInt64 := fb.1 k hk
  have rs := r_star (k := k) n5 (fun q hq => (h6 q hq).1) fa.1
  have rr := r_rev fa hk
  refine op8 (P := fun op => brF I L n op (32 * a) (32 * b) w k = gC I n op a b w k) ?_ ?_ ?_ ?_ ?_ ?_ ?_ ?_ hop
  · rw [bE0, gE0, ea, eb]
  · rw [bE1, gE1, ea]
  · rw [bE2, gE2]; exact r_wdg hB fa.1 fb.1
  · rw [bE3, gE3]; exact r_ctr hB (fun q hq => (h6 q hq).1) fa.1 fb.1 hk
  · rw [bE4, gE4]; exact rs
  · rw [bE5, gE5, ea]
  · rw [bE6, gE6]; exact rr
  · rw [bE7, gE7]; exact r_push n5 (fun r hr c hc => (h7 r (by omega) c (by omega)).1) fa.1 hk
theorem gC_hi {I : IM} {L : LM} {n o z a b op : Nat} {w : Int32} (h : Sm I L n o z) (ha : a < 2) (hb : b < 2) (hop : op < 8) : ∀ k, k < 32 → 2 ^ n ≤ k → gC I n op a b w k = 0 := by
  intro k hk hB
  rw [← br_gC h ha hb hop k hk]
  obtain ⟨⟨n2, n5, ho, hzz⟩, ⟨h2a, h2b, h2c⟩, h3, h4, h5, h6, h7, h8⟩ := h
  have fa := h4 a ha
  have fb := h4 b hb
  have ea : L 181 (32 * a + k) = 0 := (fa.1 k hk).trans (by rw [fa.2.2 k hk hB]; rfl)
  have eb : L 181 (32 * b + k) = 0 := (fb.1 k hk).trans (by rw [fb.2.2 k hk hB]; rfl)
  refine op8 (P := fun op => brF I L n op (32 * a) (32 * b) w k = 0) ?_ ?_ ?_ ?_ ?_ ?_ ?_ ?_ hop
  · rw [bE0, ea, eb]; rfl
  · rw [bE1, ea, Int64.zero_mul]
  · rw [bE2]; exact wdg_hi n5 hk hB
  · rw [bE3]; exact sumL_z (fun i hi => by unfold cJ; rw [if_neg (fun z => by have := z.1; omega)])
  · rw [bE4, if_neg (by omega)]
  · rw [bE5, ea]; split <;> rfl
  · rw [bE6, ea]; split <;> rfl
  · rw [bE7]; exact sumL_z (fun i hi => by unfold puA; rw [if_neg (by omega)])
theorem gC_I {I I' : IM} {n op a b : Nat} {w : Int32} (h : ∀ c, c ≠ 188 → I' c = I c) (hn : n ≤ 5) (ha : a < 2) (hb : b < 2) (hop : op < 8) : gC I' n op a b w = gC I n op a b w := by
  have ea : I' (3 + a) = I (3 + a) := h _ (by omega)
  have eb : I' (3 + b) = I (3 + b) := h _ (by omega)
  have e11 : I' 11 = I 11 := h _ (by decide)
  refine op8 (P := fun op => gC I' n op a b w = gC I n op a b w) ?_ ?_ ?_ ?_ ?_ ?_ ?_ ?_ hop
  · rw [gE0, gE0, ea, eb]
  · rw [gE1, gE1, ea]
  · rw [gE2, gE2, ea, eb]
  · rw [gE3, gE3, ea, eb, e11]
  · rw [gE4, gE4, ea, e11]
  · rw [gE5, gE5, ea]
  · rw [gE6, gE6, ea]
  · rw [gE7, gE7, ea]
    funext k
    exact sumL_cong (fun i hi => puI_cong (fun r hr c hc => by rw [h (13 + r) (by omega)]) rfl)
theorem up_Y {l : Launch} {y : MethodName} {bytes : ByteArray} {maxL : Nat} {ret : Option FieldType} {rm : Room} {av : List Value} {I : IM} {L L2 : LM} {r : Option Value} (h : CR l kdC 181 y bytes maxL ret rm av I L r I L2) : ∃ L3, (∀ c, 181 ≤ c → L3 c = L c) ∧ CR l kdL 189 y bytes maxL ret rm av I L r I L3 := by
  obtain ⟨L3, e, hK⟩ := up_X h
  rw [mx_self] at hK
  exact ⟨L3, e, hK⟩
theorem rf0 {I : IM} {n a b : Nat} (w : Int32) : rfG I n 0 a b = gC I n 0 a b w := (show rfG I n 0 a b = fun k => (I (3 + a) k).toInt64 + (I (3 + b) k).toInt64 from rfl).trans gE0.symm
theorem rf1 {I : IM} {n a b : Nat} (w : Int32) : rfG I n 1 a b = gC I n 2 a b w := (show rfG I n 1 a b = wC (I (3 + a)) (I (3 + b)) (2 ^ n) from rfl).trans gE2.symm
theorem rf2 {I : IM} {n a b : Nat} (w : Int32) : rfG I n 2 a b = gC I n 3 a b w := (show rfG I n 2 a b = cC (I 11) (I (3 + a)) (I (3 + b)) (2 ^ n) from rfl).trans gE3.symm
theorem rf3 {I : IM} {n a b : Nat} (w : Int32) : rfG I n 3 a b = gC I n 7 a b w := (show rfG I n 3 a b = puC (fun q p => I (13 + q) p) n (I (3 + a)) from rfl).trans gE7.symm
theorem qL_ref (l : Launch) {w a b n : Nat} (hw : w < 4) (ha : a < 8) (hb : b < 8) (hn : n ≤ 5) {I : IM} (hd : I 1 0 = nI n) (L : LM) {x : Int32} {g : Nat → Int64} (hx : nI w = x) (hg : rfG I n w a b = g) : ∃ L3, (∀ c, 181 ≤ c → L3 c = L c) ∧ CR l kdL 189 yX7_refused cX7_refused 4 (some .int) rmX7_refused [.ref 0, .int x, .int (nI a), .int (nI b)] I L (some (.int (fsI (ftO g (2 ^ n))))) I L3 := by
  subst hx; subst hg
  obtain ⟨L2, h⟩ := qX7_refused l hw ha hb hn hd L
  exact up_Y h
theorem ft_bd {g : Nat → Int64} {B : Nat} (h : ftO g B = none) : ∀ k, k < B → -100000000 ≤ (g k).toInt ∧ (g k).toInt ≤ 100000000 := by
  intro k hk
  have hb : tooB (g k) = false := by
    cases e : tooB (g k) with
    | false => rfl
    | true =>
      exfalso
      have : ∀ N, k < N → fsO (fun k => tooB (g k)) N ≠ none := fun N hN z => by
        induction N with
        | zero => omega
        | succ N ih =>
          rw [fsO] at z
          cases q : fsO (fun k => tooB (g k)) N with
          | some w => rw [q] at z; cases z
          | none =>
            rw [q] at z
            by_cases ej : k = N
            · subst ej
              rw [e] at z
              cases z
            · exact ih (by omega) q
      exact this B hk h
  simp only [tooB, Bool.or_eq_false_iff, decide_eq_false_iff_not, Int64.lt_iff_toInt_lt] at hb
  rw [show (-100000000 : Int64).toInt = -100000000 from rfl, show (100000000 : Int64).toInt = 100000000 from rfl] at hb
  omega
theorem and1 {x : Nat} (h : x < 2 ^ 31) : nI x &&& 1 = nI (x % 2) := pk_andN (by omega) 1 (by decide)
theorem shr_and {x : Nat} (h : x < 2 ^ 31) : (nI x >>> ((1 : Int32) &&& 31)) &&& 1 = nI (x / 2 % 2) ∧ (nI x >>> ((2 : Int32) &&& 31)) &&& 1 = nI (x / 4 % 2) := by
  constructor
  · rw [pk_shrN h _ 1 (by decide), and1 (by omega)]
  · rw [pk_shrN h _ 2 (by decide), and1 (by omega)]
theorem ou_20 : ∀ q, q < 41 → ¬ ouS (nI q - 20) 1000 := by
  unfold ouS
  decide +kernel
