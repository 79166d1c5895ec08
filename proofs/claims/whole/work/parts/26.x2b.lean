theorem qX2_areSame_t (l : Launch) {c d : Nat} (hc : kdC c = (1, 32, 0)) (hd : kdC d = (1, 32, 0)) (I : IM) (L : LM) (h : sameF (I c) (I d) 32) : KX2_areSame l [.ref c, .ref d] I L (some (.int 1)) I L := by
  refine wX2_areSame l rfl (fun _ x h => by cases h; exact Or.inr rfl) (fun V hV => ?_)
  refine ru_go hV 2 [] rfl rfl trivial ?_
  refine loop0 (P := fun i => V 2 [(0, .ref c), (1, .ref d), (2, .int (nI i))] [] I L) 32 (fun h => h) (fun i hi ih => ?_) ?_
  · refine ru_go hV 12 [(0, 0), (i, 32), (i, 32), (1, 0)] rfl rfl ⟨⟨⟨⟨trivial, nI32_ge hi⟩, (by first | exact rfl | assumption | exact ⟨rfl, rfl⟩ | exact ⟨rfl, rfl, by omega⟩ | exact ⟨by assumption, rfl, by omega⟩ | exact ⟨⟨_, rfl, rfl⟩, by decide, by decide, rfl, by omega⟩ | omega | decide)⟩, (by first | exact rfl | assumption | exact ⟨rfl, rfl⟩ | exact ⟨rfl, rfl, by omega⟩ | exact ⟨by assumption, rfl, by omega⟩ | exact ⟨⟨_, rfl, rfl⟩, by decide, by decide, rfl, by omega⟩ | omega | decide)⟩, h i hi⟩ ?_
    rw [nI_1]
    exact ih
  · refine ru_fin hV 5 [(1, 0)] rfl rfl ⟨trivial, (by first | exact rfl | assumption | exact ⟨rfl, rfl⟩ | exact ⟨rfl, rfl, by omega⟩ | exact ⟨by assumption, rfl, by omega⟩ | exact ⟨⟨_, rfl, rfl⟩, by decide, by decide, rfl, by omega⟩ | omega | decide)⟩ ?_
    exact ⟨rfl, rfl, rfl⟩
theorem qX2_areSame_f (l : Launch) {c d : Nat} (hc : kdC c = (1, 32, 0)) (hd : kdC d = (1, 32, 0)) (I : IM) (L : LM) (h : ¬ sameF (I c) (I d) 32) : KX2_areSame l [.ref c, .ref d] I L (some (.int 0)) I L := by
  refine wX2_areSame l rfl (fun _ x h => by cases h; exact Or.inl rfl) (fun V hV => ?_)
  refine ru_go hV 2 [] rfl rfl trivial ?_
  refine loop0 (P := fun i => (∀ j, j < i → I c j = I d j) → V 2 [(0, .ref c), (1, .ref d), (2, .int (nI i))] [] I L) 32 (fun h => h (fun j hj => absurd hj (Nat.not_lt_zero j))) (fun i hi ih hz => ?_) (fun hz => absurd hz h)
  by_cases h0 : I c i = I d i
  · refine ru_go hV 12 [(0, 0), (i, 32), (i, 32), (1, 0)] rfl rfl ⟨⟨⟨⟨trivial, nI32_ge hi⟩, (by first | exact rfl | assumption | exact ⟨rfl, rfl⟩ | exact ⟨rfl, rfl, by omega⟩ | exact ⟨by assumption, rfl, by omega⟩ | exact ⟨⟨_, rfl, rfl⟩, by decide, by decide, rfl, by omega⟩ | omega | decide)⟩, (by first | exact rfl | assumption | exact ⟨rfl, rfl⟩ | exact ⟨rfl, rfl, by omega⟩ | exact ⟨by assumption, rfl, by omega⟩ | exact ⟨⟨_, rfl, rfl⟩, by decide, by decide, rfl, by omega⟩ | omega | decide)⟩, (by first | exact rfl | assumption | exact ⟨rfl, rfl⟩ | exact ⟨rfl, rfl, by omega⟩ | exact ⟨by assumption, rfl, by omega⟩ | exact ⟨⟨_, rfl, rfl⟩, by decide, by decide, rfl, by omega⟩ | omega | decide)⟩ ?_
    rw [nI_1]
    exact ih (fun j hj => by
      rcases Nat.lt_or_ge j i with q | q
      · exact hz j q
      · rw [show j = i by omega]; exact h0)
  · refine ru_fin hV 12 [(0, 0), (i, 32), (i, 32), (0, 0)] rfl rfl ⟨⟨⟨⟨trivial, nI32_ge hi⟩, (by first | exact rfl | assumption | exact ⟨rfl, rfl⟩ | exact ⟨rfl, rfl, by omega⟩ | exact ⟨by assumption, rfl, by omega⟩ | exact ⟨⟨_, rfl, rfl⟩, by decide, by decide, rfl, by omega⟩ | omega | decide)⟩, (by first | exact rfl | assumption | exact ⟨rfl, rfl⟩ | exact ⟨rfl, rfl, by omega⟩ | exact ⟨by assumption, rfl, by omega⟩ | exact ⟨⟨_, rfl, rfl⟩, by decide, by decide, rfl, by omega⟩ | omega | decide)⟩, (by first | exact rfl | assumption | exact ⟨rfl, rfl⟩ | exact ⟨rfl, rfl, by omega⟩ | exact ⟨by assumption, rfl, by omega⟩ | exact ⟨⟨_, rfl, rfl⟩, by decide, by decide, rfl, by omega⟩ | omega | decide)⟩ ?_
    exact ⟨rfl, rfl, rfl⟩
theorem lg_cmp0 (x y : Int64) : lg_cmp x y = 0 ↔ x = y := by
  constructor
  · intro e
    by_cases h : x = y
    · exact h
    · exfalso
      unfold lg_cmp at e
      rcases Int64.lt_or_lt_of_ne h with q | q
      · simp [q, lg_lt_not q, h] at e
      · simp [q, lg_lt_not q, h] at e
  · intro e
    subst e
    simp [lg_cmp, Int64.lt_irrefl]
theorem qX2_areProportional (l : Launch) {c d : Nat} (hc : kdC c = (1, 32, 0)) (hd : kdC d = (1, 32, 0)) (I : IM) (L : LM) : (likeF (I c) (I d) 32 → KX2_areProportional l [.ref c, .ref d] I L (some (.int 1)) I L) ∧ (¬ likeF (I c) (I d) 32 → KX2_areProportional l [.ref c, .ref d] I L (some (.int 0)) I L) := by
  constructor
  · intro hlk
    obtain ⟨q, hq, hq0, hall⟩ := hlk
    obtain ⟨q1, q2⟩ := ldO_some hq
    refine wX2_areProportional l rfl (fun _ x h => by cases h; exact Or.inr rfl) (fun V hV => ?_)
    refine ru_go hV 1 [] rfl rfl trivial ?_
    refine ru_S hV [] sSX2_27 (qX2_leadOf l hc I L) rfl rfl rfl (Nat.le_of_ble_eq_true rfl) ?_
    rw [show ldI (I c) 32 = nI q by simp [ldI, hq]]
    refine ru_go hV 9 [(0, 0), (q, 32), (1, 0)] rfl rfl ⟨⟨⟨trivial, nI_nn (by omega)⟩, (by first | exact rfl | assumption | exact ⟨rfl, rfl⟩ | exact ⟨rfl, rfl, by omega⟩ | exact ⟨by assumption, rfl, by omega⟩ | exact ⟨⟨_, rfl, rfl⟩, by decide, by decide, rfl, by omega⟩ | omega | decide)⟩, (by first | exact rfl | assumption | exact ⟨rfl, rfl⟩ | exact ⟨rfl, rfl, by omega⟩ | exact ⟨by assumption, rfl, by omega⟩ | exact ⟨⟨_, rfl, rfl⟩, by decide, by decide, rfl, by omega⟩ | omega | decide)⟩ ?_
    refine loop0 (P := fun i => V 19 [(0, .ref c), (1, .ref d), (2, .int (nI q)), (3, .int (nI i))] [] I L) 32 (fun h => h) (fun i hi ih => ?_) ?_
    · refine ru_go hV 25 [(0, 0), (i, 32), (q, 32), (i, 32), (q, 32), (1, 0)] rfl rfl ⟨⟨⟨⟨⟨⟨trivial, nI32_ge hi⟩, (by first | exact rfl | assumption | exact ⟨rfl, rfl⟩ | exact ⟨rfl, rfl, by omega⟩ | exact ⟨by assumption, rfl, by omega⟩ | exact ⟨⟨_, rfl, rfl⟩, by decide, by decide, rfl, by omega⟩ | omega | decide)⟩, (by first | exact rfl | assumption | exact ⟨rfl, rfl⟩ | exact ⟨rfl, rfl, by omega⟩ | exact ⟨by assumption, rfl, by omega⟩ | exact ⟨⟨_, rfl, rfl⟩, by decide, by decide, rfl, by omega⟩ | omega | decide)⟩, (by first | exact rfl | assumption | exact ⟨rfl, rfl⟩ | exact ⟨rfl, rfl, by omega⟩ | exact ⟨by assumption, rfl, by omega⟩ | exact ⟨⟨_, rfl, rfl⟩, by decide, by decide, rfl, by omega⟩ | omega | decide)⟩, (by first | exact rfl | assumption | exact ⟨rfl, rfl⟩ | exact ⟨rfl, rfl, by omega⟩ | exact ⟨by assumption, rfl, by omega⟩ | exact ⟨⟨_, rfl, rfl⟩, by decide, by decide, rfl, by omega⟩ | omega | decide)⟩, (lg_cmp0 _ _).mpr (hall i hi)⟩ ?_
      rw [nI_1]
      exact ih
    · refine ru_fin hV 5 [(1, 0)] rfl rfl ⟨trivial, (by first | exact rfl | assumption | exact ⟨rfl, rfl⟩ | exact ⟨rfl, rfl, by omega⟩ | exact ⟨by assumption, rfl, by omega⟩ | exact ⟨⟨_, rfl, rfl⟩, by decide, by decide, rfl, by omega⟩ | omega | decide)⟩ ?_
      exact ⟨rfl, rfl, rfl⟩
  · intro hlk
    refine wX2_areProportional l rfl (fun _ x h => by cases h; exact Or.inl rfl) (fun V hV => ?_)
    refine ru_go hV 1 [] rfl rfl trivial ?_
    refine ru_S hV [] sSX2_27 (qX2_leadOf l hc I L) rfl rfl rfl (Nat.le_of_ble_eq_true rfl) ?_
    cases hq : ldO (I c) 32 with
    | none =>
      rw [show ldI (I c) 32 = NON by simp [ldI, hq]]
      refine ru_fin hV 5 [(1, 0)] rfl rfl ⟨trivial, (by first | exact rfl | assumption | exact ⟨rfl, rfl⟩ | exact ⟨rfl, rfl, by omega⟩ | exact ⟨by assumption, rfl, by omega⟩ | exact ⟨⟨_, rfl, rfl⟩, by decide, by decide, rfl, by omega⟩ | omega | decide)⟩ ?_
      exact ⟨rfl, rfl, rfl⟩
    | some q =>
      obtain ⟨q1, q2⟩ := ldO_some hq
      rw [show ldI (I c) 32 = nI q by simp [ldI, hq]]
      by_cases hq0 : I d q = 0
      · refine ru_fin hV 9 [(0, 0), (q, 32), (0, 0)] rfl rfl ⟨⟨⟨trivial, nI_nn (by omega)⟩, (by first | exact rfl | assumption | exact ⟨rfl, rfl⟩ | exact ⟨rfl, rfl, by omega⟩ | exact ⟨by assumption, rfl, by omega⟩ | exact ⟨⟨_, rfl, rfl⟩, by decide, by decide, rfl, by omega⟩ | omega | decide)⟩, (fun e => e hq0)⟩ ?_
        exact ⟨rfl, rfl, rfl⟩
      · refine ru_go hV 9 [(0, 0), (q, 32), (1, 0)] rfl rfl ⟨⟨⟨trivial, nI_nn (by omega)⟩, (by first | exact rfl | assumption | exact ⟨rfl, rfl⟩ | exact ⟨rfl, rfl, by omega⟩ | exact ⟨by assumption, rfl, by omega⟩ | exact ⟨⟨_, rfl, rfl⟩, by decide, by decide, rfl, by omega⟩ | omega | decide)⟩, hq0⟩ ?_
        refine loop0 (P := fun i => (∀ j, j < i → (I c j).toInt64 * (I d q).toInt64 = (I d j).toInt64 * (I c q).toInt64) → V 19 [(0, .ref c), (1, .ref d), (2, .int (nI q)), (3, .int (nI i))] [] I L) 32 (fun h => h (fun j hj => absurd hj (Nat.not_lt_zero j))) (fun i hi ih hz => ?_) (fun hz => absurd ⟨q, hq, hq0, hz⟩ hlk)
        by_cases h0 : (I c i).toInt64 * (I d q).toInt64 = (I d i).toInt64 * (I c q).toInt64
        · refine ru_go hV 25 [(0, 0), (i, 32), (q, 32), (i, 32), (q, 32), (1, 0)] rfl rfl ⟨⟨⟨⟨⟨⟨trivial, nI32_ge hi⟩, (by first | exact rfl | assumption | exact ⟨rfl, rfl⟩ | exact ⟨rfl, rfl, by omega⟩ | exact ⟨by assumption, rfl, by omega⟩ | exact ⟨⟨_, rfl, rfl⟩, by decide, by decide, rfl, by omega⟩ | omega | decide)⟩, (by first | exact rfl | assumption | exact ⟨rfl, rfl⟩ | exact ⟨rfl, rfl, by omega⟩ | exact ⟨by assumption, rfl, by omega⟩ | exact ⟨⟨_, rfl, rfl⟩, by decide, by decide, rfl, by omega⟩ | omega | decide)⟩, (by first | exact rfl | assumption | exact ⟨rfl, rfl⟩ | exact ⟨rfl, rfl, by omega⟩ | exact ⟨by assumption, rfl, by omega⟩ | exact ⟨⟨_, rfl, rfl⟩, by decide, by decide, rfl, by omega⟩ | omega | decide)⟩, (by first | exact rfl | assumption | exact ⟨rfl, rfl⟩ | exact ⟨rfl, rfl, by omega⟩ | exact ⟨by assumption, rfl, by omega⟩ | exact ⟨⟨_, rfl, rfl⟩, by decide, by decide, rfl, by omega⟩ | omega | decide)⟩, (lg_cmp0 _ _).mpr h0⟩ ?_
          rw [nI_1]
          exact ih (fun j hj => by
            rcases Nat.lt_or_ge j i with z | z
            · exact hz j z
            · rw [show j = i by omega]; exact h0)
        · refine ru_fin hV 25 [(0, 0), (i, 32), (q, 32), (i, 32), (q, 32), (0, 0)] rfl rfl ⟨⟨⟨⟨⟨⟨trivial, nI32_ge hi⟩, (by first | exact rfl | assumption | exact ⟨rfl, rfl⟩ | exact ⟨rfl, rfl, by omega⟩ | exact ⟨by assumption, rfl, by omega⟩ | exact ⟨⟨_, rfl, rfl⟩, by decide, by decide, rfl, by omega⟩ | omega | decide)⟩, (by first | exact rfl | assumption | exact ⟨rfl, rfl⟩ | exact ⟨rfl, rfl, by omega⟩ | exact ⟨by assumption, rfl, by omega⟩ | exact ⟨⟨_, rfl, rfl⟩, by decide, by decide, rfl, by omega⟩ | omega | decide)⟩, (by first | exact rfl | assumption | exact ⟨rfl, rfl⟩ | exact ⟨rfl, rfl, by omega⟩ | exact ⟨by assumption, rfl, by omega⟩ | exact ⟨⟨_, rfl, rfl⟩, by decide, by decide, rfl, by omega⟩ | omega | decide)⟩, (by first | exact rfl | assumption | exact ⟨rfl, rfl⟩ | exact ⟨rfl, rfl, by omega⟩ | exact ⟨by assumption, rfl, by omega⟩ | exact ⟨⟨_, rfl, rfl⟩, by decide, by decide, rfl, by omega⟩ | omega | decide)⟩, (fun e => h0 ((lg_cmp0 _ _).mp e))⟩ ?_
          exact ⟨rfl, rfl, rfl⟩
theorem qX2_partnerNumber (l : Launch) {c i k : Nat} (hc : kdC c = (1, 32, 0)) (hi : i < 32) (hk : k < 5) (I : IM) (L : LM) : KX2_partnerNumber l [.ref c, .int (nI i), .int (nI k)] I L (some (.int (paI (I c) i k))) I L := by
  have hp := pow2_lt k hk
  have esh := bl_sh k (by omega)
  refine wX2_partnerNumber l rfl (hz0 (by decide)) (fun V hV => ?_)
  refine ru_go hV 4 [] rfl rfl trivial ?_
  rw [esh]
  by_cases h : i.testBit k = true
  · refine ru_fin hV 6 [(0, 0)] rfl rfl ⟨trivial, (fun e => by rw [(tb_and i hi k hk).mp e] at h; cases h)⟩ ?_
    exact ⟨by simp [paI, h], rfl, rfl⟩
  · have hor := or_lt i hi (2 ^ k) hp
    refine ru_go hV 12 [(1, 0), ((i|||2^k), 32)] rfl rfl ⟨⟨trivial, (tb_and i hi k hk).mpr (by simpa using h)⟩, ⟨hc, orI i hi _ hp, hor⟩⟩ ?_
    refine ru_S hV [] sSX2_52 (qX5_oddTurns l hi hp I L) rfl rfl rfl (Nat.le_of_ble_eq_true rfl) ?_
    cases ho : odT i (2 ^ k) with
    | false =>
      refine ru_fin hV 3 [(1, 0)] rfl rfl ⟨trivial, (by first | exact rfl | assumption | exact ⟨rfl, rfl⟩ | exact ⟨rfl, rfl, by omega⟩ | exact ⟨by assumption, rfl, by omega⟩ | exact ⟨⟨_, rfl, rfl⟩, by decide, by decide, rfl, by omega⟩ | omega | decide)⟩ ?_
      exact ⟨by simp [paI, h, sgI, ho], rfl, rfl⟩
    | true =>
      refine ru_fin hV 5 [(0, 0)] rfl rfl ⟨trivial, (by first | exact rfl | assumption | exact ⟨rfl, rfl⟩ | exact ⟨rfl, rfl, by omega⟩ | exact ⟨by assumption, rfl, by omega⟩ | exact ⟨⟨_, rfl, rfl⟩, by decide, by decide, rfl, by omega⟩ | omega | decide)⟩ ?_
      exact ⟨by simp [paI, h, sgI, ho], rfl, rfl⟩
theorem qX2_factorNumber (l : Launch) {c p dir : Nat} (hc : kdC c = (1, 32, 0)) (hp : p < 2 ^ 30) (hdir : dir < 5) (I : IM) (L : LM) : KX2_factorNumber l [.ref c, .int (nI p), .int (nI dir)] I L (some (.int (faI (I c) p dir))) I L := by
  refine wX2_factorNumber l rfl (hz0 (by decide)) (fun V hV => ?_)
  refine ru_go hV 1 [] rfl rfl trivial ?_
  refine ru_S hV [] sSX2_27 (qX2_leadOf l hc I L) rfl rfl rfl (Nat.le_of_ble_eq_true rfl) ?_
  cases hq : ldO (I c) 32 with
  | none =>
    rw [show ldI (I c) 32 = NON by simp [ldI, hq]]
    refine ru_fin hV 5 [(0, 0)] rfl rfl ⟨trivial, (by first | exact rfl | assumption | exact ⟨rfl, rfl⟩ | exact ⟨rfl, rfl, by omega⟩ | exact ⟨by assumption, rfl, by omega⟩ | exact ⟨⟨_, rfl, rfl⟩, by decide, by decide, rfl, by omega⟩ | omega | decide)⟩ ?_
    exact ⟨by rw [show faI (I c) p dir = NON by unfold faI; rw [hq]]; rfl, rfl, rfl⟩
  | some q =>
    obtain ⟨q1, q2⟩ := ldO_some hq
    rw [show ldI (I c) 32 = nI q by simp [ldI, hq]]
    refine ru_go hV 7 [(1, 0)] rfl rfl ⟨trivial, nI_pos' (by omega)⟩ ?_
    have key : ∀ k d left, d + k = 5 → left < 2 ^ 30 → faF (I c) q dir k d left = faI (I c) p dir → V 18 [(0, .ref c), (1, .int (nI p)), (2, .int (nI dir)), (3, .int (nI q)), (4, .int (nI left)), (5, .int (nI d))] [] I L := by
      intro k
      induction k with
      | zero =>
        intro d left hd hl hf
        have : d = 5 := by omega
        subst this
        refine ru_fin hV 5 [(1, 0)] rfl rfl ⟨trivial, (by first | exact rfl | assumption | exact ⟨rfl, rfl⟩ | exact ⟨rfl, rfl, by omega⟩ | exact ⟨by assumption, rfl, by omega⟩ | exact ⟨⟨_, rfl, rfl⟩, by decide, by decide, rfl, by omega⟩ | omega | decide)⟩ ?_
        exact ⟨by rw [← hf]; rfl, rfl, rfl⟩
      | succ k ih =>
        intro d left hd hl hf
        have hd5 : d < 5 := by omega
        have hp2 := pow2_lt d hd5
        have esh := bl_sh d (by omega)
        refine ru_go hV 7 [(0, 0)] rfl rfl ⟨trivial, nI5_ge hd5⟩ ?_
        rw [esh]
        by_cases hb : q.testBit d = true
        · cases left with
          | zero =>
            have hx := xor_lt q q1 _ hp2
            refine ru_go hV 11 [(1, 0), (0, 0)] rfl rfl ⟨⟨trivial, (fun e => by rw [(tb_and q q1 d hd5).mp e] at hb; cases hb)⟩, (by first | exact rfl | assumption | exact ⟨rfl, rfl⟩ | exact ⟨rfl, rfl, by omega⟩ | exact ⟨by assumption, rfl, by omega⟩ | exact ⟨⟨_, rfl, rfl⟩, by decide, by decide, rfl, by omega⟩ | omega | decide)⟩ ?_
            rw [xorI q q1 _ hp2]
            refine ru_S hV [] sSX2_58 (qX2_partnerNumber l hc hx hdir I L) rfl rfl rfl (Nat.le_of_ble_eq_true rfl) ?_
            refine ru_go hV 3 [] rfl rfl trivial ?_
            refine ru_S hV [] sSX2_52 (qX5_oddTurns l q1 hp2 I L) rfl rfl rfl (Nat.le_of_ble_eq_true rfl) ?_
            rw [faF, if_pos hb, if_pos rfl] at hf
            cases ho : odT q (2 ^ d) with
            | false =>
              refine ru_fin hV 3 [(1, 0)] rfl rfl ⟨trivial, (by first | exact rfl | assumption | exact ⟨rfl, rfl⟩ | exact ⟨rfl, rfl, by omega⟩ | exact ⟨by assumption, rfl, by omega⟩ | exact ⟨⟨_, rfl, rfl⟩, by decide, by decide, rfl, by omega⟩ | omega | decide)⟩ ?_
              refine ⟨?_, rfl, rfl⟩
              rw [← hf, ho]
              rfl
            | true =>
              refine ru_fin hV 5 [(0, 0)] rfl rfl ⟨trivial, (by first | exact rfl | assumption | exact ⟨rfl, rfl⟩ | exact ⟨rfl, rfl, by omega⟩ | exact ⟨by assumption, rfl, by omega⟩ | exact ⟨⟨_, rfl, rfl⟩, by decide, by decide, rfl, by omega⟩ | omega | decide)⟩ ?_
              refine ⟨?_, rfl, rfl⟩
              rw [← hf, ho]
              rfl
          | succ left =>
            rw [faF, if_pos hb, if_neg (Nat.succ_ne_zero left), Nat.add_sub_cancel] at hf
            refine ru_go hV 9 [(1, 0), (1, 0)] rfl rfl ⟨⟨trivial, (fun e => by rw [(tb_and q q1 d hd5).mp e] at hb; cases hb)⟩, nI_ne0 (by omega) (by omega)⟩ ?_
            rw [nI_1, pk_m1]
            exact ru_sub hV [0, 1, 2, 3, 4, 5] rfl (ih (d + 1) left (by omega) (by omega) hf)
        · rw [faF, if_neg hb] at hf
          refine ru_go hV 7 [(0, 0)] rfl rfl ⟨trivial, (fun e => e ((tb_and q q1 d hd5).mpr (by simpa using hb)))⟩ ?_
          rw [nI_1]
          exact ru_sub hV [0, 1, 2, 3, 4, 5] rfl (ih (d + 1) left (by omega) hl hf)
    exact key 5 0 p rfl hp (by unfold faI; rw [hq])
