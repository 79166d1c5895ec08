theorem qJ6_bitCount (l : Launch) {n : Nat} (hn : n < 32) (I : IM) (L : LM) : KJ6_bitCount_0f7a4 l [.int (nI n)] I L (some (.int (nI (pc5 n)))) I L := by
  refine wJ6_bitCount_0f7a4 l rfl (hz0 (by decide)) (fun V hV => ?_)
  refine ru_fin hV 42 [] rfl rfl trivial ?_
  refine ⟨?_, rfl, rfl⟩
  clear hV V
  revert n
  decide +kernel
theorem qX5_oddTurns (l : Launch) {i j : Nat} (hi : i < 32) (hj : j < 32) (I : IM) (L : LM) : KX5_oddTurns l [.int (nI i), .int (nI j)] I L (some (.int (b2i (odT i j)))) I L := by
  refine wX5_oddTurns l rfl (fun _ x h => by cases h; exact b2i_01 _) (fun V hV => ?_)
  refine ru_go hV 19 [] rfl rfl trivial ?_
  rw [ot_arg i hi j hj]
  have hm := ot_lt i hi j hj
  refine ru_S hV [] sSX5_9 (qJ6_bitCount l hm I L) rfl rfl rfl (by decide) ?_
  have hp := ot_par _ hm
  by_cases h : pc5 (abv i &&& j) % 2 = 1
  · refine ru_fin hV 7 [(0, 0)] rfl rfl ⟨trivial, (fun e => e (hp.mpr h))⟩ ?_
    exact ⟨by simp [b2i, odT, h], rfl, rfl⟩
  · refine ru_fin hV 6 [(1, 0)] rfl rfl ⟨trivial, (fun e => h (hp.mp e))⟩ ?_
    exact ⟨by simp [b2i, odT, h], rfl, rfl⟩
theorem qX5_signOfBlade (l : Launch) {c b : Nat} (hc : kdC c = (1, 5, 0)) (hb : b < 32) (I : IM) (L : LM) : KX5_signOfBlade l [.ref c, .int (nI b)] I L (some (.int (sgB (I c) b 5))) I L := by
  refine wX5_signOfBlade l rfl (hz0 (by decide)) (fun V hV => ?_)
  refine ru_go hV 4 [] rfl rfl trivial ?_
  refine loop0 (P := fun k => V 4 [(0, .ref c), (1, .int (nI b)), (2, .int (sgB (I c) b k)), (3, .int (nI k))] [] I L) 5 (fun h => h) (fun k hk ih => ?_) ?_
  · by_cases h : b.testBit k = true
    · refine ru_go hV 18 [(0, 0), (0, 0), (k, 5)] rfl rfl ⟨⟨⟨trivial, nI5_ge hk⟩, (fun e => e ((bit_tst b hb k hk).mpr h))⟩, (by first | exact rfl | assumption | exact ⟨rfl, rfl⟩ | exact ⟨rfl, rfl, by omega⟩ | exact ⟨by assumption, rfl, by omega⟩ | exact ⟨⟨_, rfl, rfl⟩, by decide, by decide, rfl, by omega⟩ | omega | decide)⟩ ?_
      rw [nI_1, show sgB (I c) b k * I c k = sgB (I c) b (k + 1) by simp [sgB, h]]
      exact ih
    · refine ru_go hV 12 [(0, 0), (1, 0)] rfl rfl ⟨⟨trivial, nI5_ge hk⟩, (fun e => h ((bit_tst b hb k hk).mp e))⟩ ?_
      rw [nI_1, show sgB (I c) b k = sgB (I c) b (k + 1) by simp [sgB, h]]
      exact ih
  · refine ru_fin hV 5 [(1, 0)] rfl rfl ⟨trivial, (by first | exact rfl | assumption | exact ⟨rfl, rfl⟩ | exact ⟨rfl, rfl, by omega⟩ | exact ⟨by assumption, rfl, by omega⟩ | exact ⟨⟨_, rfl, rfl⟩, by decide, by decide, rfl, by omega⟩ | omega | decide)⟩ ?_
    exact ⟨rfl, rfl, rfl⟩
theorem qX5_clear (l : Launch) {c : Nat} (hc : kdC c = (2, 32, 0)) (I : IM) (L : LM) : KX5_clear l [.ref c] I L none I (lay L c 32 (fun _ => 0)) := by
  refine wX5_clear l rfl (hz0 (by decide)) (fun V hV => ?_)
  refine ru_go hV 2 [] rfl rfl trivial ?_
  refine loop0 (P := fun k => V 2 [(0, .ref c), (1, .int (nI k))] [] I (lay L c k (fun _ => 0))) 32 (fun h => by rw [lay_0] at h; exact h) (fun k hk ih => ?_) ?_
  · refine ru_go hV 9 [(0, 0), (k, 32)] rfl rfl ⟨⟨trivial, nI32_ge hk⟩, (by first | exact rfl | assumption | exact ⟨rfl, rfl⟩ | exact ⟨rfl, rfl, by omega⟩ | exact ⟨by assumption, rfl, by omega⟩ | exact ⟨⟨_, rfl, rfl⟩, by decide, by decide, rfl, by omega⟩ | omega | decide)⟩ ?_
    rw [nI_1, lay_up (f := fun _ => 0) rfl]
    exact ih
  · refine ru_fin hV 4 [(1, 0)] rfl rfl ⟨trivial, (by first | exact rfl | assumption | exact ⟨rfl, rfl⟩ | exact ⟨rfl, rfl, by omega⟩ | exact ⟨by assumption, rfl, by omega⟩ | exact ⟨⟨_, rfl, rfl⟩, by decide, by decide, rfl, by omega⟩ | omega | decide)⟩ ?_
    exact ⟨rfl, rfl, rfl⟩
theorem bl_sh : ∀ n, n ≤ 5 → (1 : Int32) <<< (nI n &&& 31) = nI (2 ^ n) := by decide +kernel
theorem qX6_blades (l : Launch) {b n : Nat} (hb : isSt b) (hn : n ≤ 5) {I : IM} (hd : I b 0 = nI n) (L : LM) : KX6_blades l [.ref b] I L (some (.int (nI (2 ^ n)))) I L := by
  refine wX6_blades l rfl (hz0 (by decide)) (fun V hV => ?_)
  refine ru_fin hV 5 [] rfl rfl ⟨trivial, kd_st0 hb⟩ ?_
  exact ⟨by rw [hd, bl_sh n hn]; rfl, rfl, rfl⟩
theorem qX5_addForms (l : Launch) {b x y r : Nat} (hb : isSt b) (hx : x < 8) (hy : y < 8) (hr : kdC r = (2, 32, 0)) (I : IM) (L : LM) : KX5_addForms l [.ref b, .int (nI x), .int (nI y), .ref r] I L none I (lay L r 32 (fun k => (I (b + 2 + x) k).toInt64 + (I (b + 2 + y) k).toInt64)) := by
  have kx : kdC (b + 2 + x) = (1, 32, 0) := kd_row hb hx
  have ky : kdC (b + 2 + y) = (1, 32, 0) := kd_row hb hy
  refine wX5_addForms l rfl (hz0 (by decide)) (fun V hV => ?_)
  refine ru_go hV 12 [((b+1), 0), (x, 8), ((b+2+x), 5), ((b+1), 0), (y, 8), ((b+2+y), 5)] rfl rfl ⟨⟨⟨⟨trivial, ⟨kd_st0 hb, rfl⟩⟩, kd_fr hb hx⟩, ⟨kd_st0 hb, rfl⟩⟩, kd_fr hb hy⟩ ?_
  refine loop0 (P := fun k => V 19 [(0, .ref b), (1, .int (nI x)), (2, .int (nI y)), (3, .ref r), (4, .ref (b + 2 + x)), (5, .ref (b + 2 + y)), (6, .int (nI k))] [] I (lay L r k (fun k => (I (b + 2 + x) k).toInt64 + (I (b + 2 + y) k).toInt64))) 32 (fun h => by rw [lay_0] at h; exact h) (fun k hk ih => ?_) ?_
  · refine ru_go hV 17 [(0, 0), (k, 32), (k, 32), (k, 32)] rfl rfl ⟨⟨⟨⟨trivial, nI32_ge hk⟩, (by first | exact rfl | assumption | exact ⟨rfl, rfl⟩ | exact ⟨rfl, rfl, by omega⟩ | exact ⟨by assumption, rfl, by omega⟩ | exact ⟨⟨_, rfl, rfl⟩, by decide, by decide, rfl, by omega⟩ | omega | decide)⟩, (by first | exact rfl | assumption | exact ⟨rfl, rfl⟩ | exact ⟨rfl, rfl, by omega⟩ | exact ⟨by assumption, rfl, by omega⟩ | exact ⟨⟨_, rfl, rfl⟩, by decide, by decide, rfl, by omega⟩ | omega | decide)⟩, (by first | exact rfl | assumption | exact ⟨rfl, rfl⟩ | exact ⟨rfl, rfl, by omega⟩ | exact ⟨by assumption, rfl, by omega⟩ | exact ⟨⟨_, rfl, rfl⟩, by decide, by decide, rfl, by omega⟩ | omega | decide)⟩ ?_
    rw [nI_1, lay_up (f := fun k => (I (b + 2 + x) k).toInt64 + (I (b + 2 + y) k).toInt64) rfl]
    exact ih
  · refine ru_fin hV 4 [(1, 0)] rfl rfl ⟨trivial, (by first | exact rfl | assumption | exact ⟨rfl, rfl⟩ | exact ⟨rfl, rfl, by omega⟩ | exact ⟨by assumption, rfl, by omega⟩ | exact ⟨⟨_, rfl, rfl⟩, by decide, by decide, rfl, by omega⟩ | omega | decide)⟩ ?_
    exact ⟨rfl, rfl, rfl⟩
theorem qX5_multiplyForm (l : Launch) {b x r : Nat} {z : Int32} (hb : isSt b) (hx : x < 8) (hr : kdC r = (2, 32, 0)) (I : IM) (L : LM) : KX5_multiplyForm l [.ref b, .int (nI x), .int z, .ref r] I L none I (lay L r 32 (fun k => (I (b + 2 + x) k).toInt64 * z.toInt64)) := by
  have kx : kdC (b + 2 + x) = (1, 32, 0) := kd_row hb hx
  refine wX5_multiplyForm l rfl (hz0 (by decide)) (fun V hV => ?_)
  refine ru_go hV 7 [((b+1), 0), (x, 8), ((b+2+x), 5)] rfl rfl ⟨⟨trivial, ⟨kd_st0 hb, rfl⟩⟩, kd_fr hb hx⟩ ?_
  refine loop0 (P := fun k => V 11 [(0, .ref b), (1, .int (nI x)), (2, .int z), (3, .ref r), (4, .ref (b + 2 + x)), (5, .int (nI k))] [] I (lay L r k (fun k => (I (b + 2 + x) k).toInt64 * z.toInt64))) 32 (fun h => by rw [lay_0] at h; exact h) (fun k hk ih => ?_) ?_
  · refine ru_go hV 15 [(0, 0), (k, 32), (k, 32)] rfl rfl ⟨⟨⟨trivial, nI32_ge hk⟩, (by first | exact rfl | assumption | exact ⟨rfl, rfl⟩ | exact ⟨rfl, rfl, by omega⟩ | exact ⟨by assumption, rfl, by omega⟩ | exact ⟨⟨_, rfl, rfl⟩, by decide, by decide, rfl, by omega⟩ | omega | decide)⟩, (by first | exact rfl | assumption | exact ⟨rfl, rfl⟩ | exact ⟨rfl, rfl, by omega⟩ | exact ⟨by assumption, rfl, by omega⟩ | exact ⟨⟨_, rfl, rfl⟩, by decide, by decide, rfl, by omega⟩ | omega | decide)⟩ ?_
    rw [nI_1, lay_up (f := fun k => (I (b + 2 + x) k).toInt64 * z.toInt64) rfl]
    exact ih
  · refine ru_fin hV 4 [(1, 0)] rfl rfl ⟨trivial, (by first | exact rfl | assumption | exact ⟨rfl, rfl⟩ | exact ⟨rfl, rfl, by omega⟩ | exact ⟨by assumption, rfl, by omega⟩ | exact ⟨⟨_, rfl, rfl⟩, by decide, by decide, rfl, by omega⟩ | omega | decide)⟩ ?_
    exact ⟨rfl, rfl, rfl⟩
