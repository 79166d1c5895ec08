theorem lg_cmp0 (x y : Int64) : lg_cmp x y = 0 ↔ x = y := by
  constructor
  · intro e
    by_cases h : x = y
    · exact h
    · exfalso
      unfold lg_cmp at e
      rcases Int64.lt_or_lt_of_ne h with q | q
      · simp [q, lg_lt_not q, h] at e
      · simp [q, lg_lt_not q, h] at e
  · intro e
    subst e
    simp [lg_cmp, Int64.lt_irrefl]
theorem qX2_partnerNumber (l : Launch) {c i k : Nat} (hc : kdC c = (1, 32, 0)) (hi : i < 32) (hk : k < 5) (I : IM) (L : LM) : KX2_partnerNumber l [.ref c, .int (nI i), .int (nI k)] I L (some (.int (paI (I c) i k))) I L := by
  have hp := pow2_lt k hk
  have esh := bl_sh k (by omega)
  refine wX2_partnerNumber l rfl (hz0 (by decide)) (fun V hV => ?_)
  refine ru_go hV 4 [] rfl rfl trivial ?_
  rw [esh]
  by_cases h : i.testBit k = true
  · refine ru_fin hV 6 [(0, 0)] rfl rfl ⟨trivial, (fun e => by rw [(tb_and i hi k hk).mp e] at h; cases h)⟩ ?_
    exact ⟨by simp [paI, h], rfl, rfl⟩
  · have hor := or_lt i hi (2 ^ k) hp
    refine ru_go hV 12 [(1, 0), ((i|||2^k), 32)] rfl rfl ⟨⟨trivial, (tb_and i hi k hk).mpr (by simpa using h)⟩, ⟨hc, orI i hi _ hp, hor⟩⟩ ?_
    refine ru_S hV [] sSX2_52 (qX5_oddTurns l hi hp I L) rfl rfl rfl (Nat.le_of_ble_eq_true rfl) ?_
    cases ho : odT i (2 ^ k) with
    | false =>
      refine ru_fin hV 3 [(1, 0)] rfl rfl ⟨trivial, (by first | exact rfl | assumption | exact ⟨rfl, rfl⟩ | exact ⟨rfl, rfl, by omega⟩ | exact ⟨by assumption, rfl, by omega⟩ | exact ⟨⟨_, rfl, rfl⟩, by decide, by decide, rfl, by omega⟩ | omega | decide)⟩ ?_
      exact ⟨by simp [paI, h, sgI, ho], rfl, rfl⟩
    | true =>
      refine ru_fin hV 5 [(0, 0)] rfl rfl ⟨trivial, (by first | exact rfl | assumption | exact ⟨rfl, rfl⟩ | exact ⟨rfl, rfl, by omega⟩ | exact ⟨by assumption, rfl, by omega⟩ | exact ⟨⟨_, rfl, rfl⟩, by decide, by decide, rfl, by omega⟩ | omega | decide)⟩ ?_
      exact ⟨by simp [paI, h, sgI, ho], rfl, rfl⟩
