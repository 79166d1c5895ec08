def cnz (f : Nat → Int32) : Nat → Nat
  | 0 => 0
  | n + 1 => cnz f n + if f n = 0 then 0 else 1
theorem cX2_countNonzero_ok (l : Launch) {c : Nat} (hc : kdC c = (1, 32, 0)) (I : IM) (L : LM) : KX2_countNonzero l [.ref c] I L (some (.int (nI (cnz (I c) 32)))) I L := by
  refine wX2_countNonzero l rfl (hz0 (by decide)) (fun V hV => ?_)
  have loop : ∀ k i, i + k = 32 → V 4 [(0, .ref c), (1, .int (nI (cnz (I c) i))), (2, .int (nI i))] [] I L := by
    intro k
    induction k with
    | zero =>
      intro i hi
      have : i = 32 := by omega
      subst this
      refine ru_fin hV 5 [(1, 0)] rfl rfl ⟨trivial, ?_⟩ ⟨rfl, rfl, rfl⟩
      decide
    | succ k ih =>
      intro i hi
      have hi32 : i < 32 := by omega
      have hlt : ¬ (32 : Int32) ≤ nI i := nI_ge hi32 (by decide)
      by_cases h0 : I c i = 0
      · refine ru_go hV 9 [(0, 0), (i, 32), (1, 0)] rfl rfl ⟨⟨⟨trivial, hlt⟩, hc, rfl, hi32⟩, h0⟩ ?_
        rw [nI_1, show cnz (I c) i = cnz (I c) (i + 1) by simp [cnz, h0]]
        exact ih (i + 1) (by omega)
      · refine ru_go hV 10 [(0, 0), (i, 32), (0, 0)] rfl rfl ⟨⟨⟨trivial, hlt⟩, hc, rfl, hi32⟩, h0⟩ ?_
        rw [nI_1, nI_1, show cnz (I c) i + 1 = cnz (I c) (i + 1) by simp [cnz, h0]]
        exact ih (i + 1) (by omega)
  refine ru_go hV 4 [] rfl rfl trivial ?_
  exact loop 32 0 rfl
