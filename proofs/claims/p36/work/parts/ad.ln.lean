/-! THE LAW'S begin and act -/
theorem up_M {l : Launch} {y : MethodName} {bytes : ByteArray} {maxL : Nat} {ret : Option FieldType} {rm : Room} {av : List Value} {I I2 : IM} {L : LM} {r : Option Value} (h : CR l kdC 181 y bytes maxL ret rm av I L r I2 L) (hI : ∀ a, 181 ≤ a → I2 a = I a) : CR l kdL 189 y bytes maxL ret rm av I L r I2 L := by
  have := up_K h
  rw [mx_self, mx_eq (f := I2) (fun a ha => hI a ha)] at this
  exact this
section NW
variable {J : IM} {m : Int32}
theorem nw_1 : nwS J 1 m 1 0 = m := by
  unfold nwS
  rw [fb_in (Or.inl ⟨rfl, rfl⟩)]
  rfl
theorem nw_f {s k : Nat} (hs : s < 8) (hk : k < 32) : nwS J 1 m (3 + s) k = 0 := by
  unfold nwS
  rw [fb_in (Or.inr (Or.inl ⟨by omega, by omega, hk⟩))]
  unfold nwV
  rw [if_neg (by omega), if_pos (by omega)]
theorem nw_s {k : Nat} (hk : k < 5) : nwS J 1 m 11 k = 1 := by
  unfold nwS
  rw [fb_in (Or.inr (Or.inr (Or.inl ⟨rfl, hk⟩)))]
  unfold nwV
  rw [if_neg (by decide), if_neg (by decide), if_pos (by decide)]
theorem nw_m {r c : Nat} (hr : r < 5) (hc : c < 5) : nwS J 1 m (13 + r) c = if r = c then 1 else 0 := by
  unfold nwS
  rw [fb_in (Or.inr (Or.inr (Or.inr ⟨by omega, by omega, hc⟩)))]
  unfold nwV
  rw [if_neg (by omega), if_neg (by omega), if_neg (by omega), show 13 + r - (1 + 12) = r by omega]
theorem nw_o {a : Nat} (h : 18 ≤ a) : nwS J 1 m a = J a := by
  unfold nwS
  refine fb_ne (fun j hj => ?_)
  rcases hj with ⟨e, -⟩ | ⟨-, e, -⟩ | ⟨e, -⟩ | ⟨-, e, -⟩ <;> omega
end NW
theorem RF_0 {n : Nat} {f : Nat → Int32} {F : Nat → Int64} (h : ∀ k, k < 32 → f k = 0) (h2 : ∀ k, k < 32 → F k = 0) : RF n f F := ⟨fun k hk => by rw [h k hk, h2 k hk]; rfl, fun k hk => by rw [h k hk]; decide, fun k hk _ => h k hk⟩
theorem dm_5 : ∀ q, q < 25 → (nI q / 5 = nI q - nI q / 5 * 5 ↔ q / 5 = q % 5) := by decide +kernel
set_option maxRecDepth 100000 in
theorem qL_begin (l : Launch) {x : Nat} (hx : x < 2 ^ 31) {I : IM} {L : LM} {n o z : Nat} (hS : Sm I L n o z) : ∃ I2 L2, (∃ n2 o2 z2, Sm I2 L2 n2 o2 z2 ∧ 0 < z2) ∧ KL_begin l [.ref 0, .int (nI x), .ref 181, .ref 186, .ref 188] I L (some (.int 1)) I2 L2 := by
  obtain ⟨⟨n2, n5, ho, hzz⟩, ⟨h2a, h2b, h2c⟩, h3, h4, h5, h6, h7, h8⟩ := id hS
  have hm4 : x / 2 % 4 < 4 := Nat.mod_lt _ (by decide)
  refine ru_pos1 (fun V hV => ?_) (fun I2 L2 h => wL_begin l rfl (fun _ x hx => by cases hx; exact Or.inr rfl) h)
  refine ru_go hV 9 [(0, 15)] rfl rfl ⟨trivial, (by first | exact rfl | assumption | exact ⟨rfl, rfl⟩ | exact ⟨rfl, rfl, by omega⟩ | exact ⟨by assumption, rfl, by omega⟩ | exact ⟨⟨_, rfl, rfl⟩, by decide, by decide, rfl, by omega⟩ | omega | decide)⟩ ?_
  rw [h5]
  refine ru_S hV [.int 2, .int 0, .ref 188] sSL_71 (qL_at l (x := x) (n := 4) hx (by decide) (by decide) I L) rfl rfl rfl (Nat.le_of_ble_eq_true rfl) ?_
  generalize x / 2 % 4 = q at hm4 ⊢
  refine ru_go hV 4 [(0, 15)] rfl rfl ⟨trivial, (by first | exact rfl | assumption | exact ⟨rfl, rfl⟩ | exact ⟨rfl, rfl, by omega⟩ | exact ⟨by assumption, rfl, by omega⟩ | exact ⟨⟨_, rfl, rfl⟩, by decide, by decide, rfl, by omega⟩ | omega | decide)⟩ ?_
  rw [show (2 : Int32) + nI q = nI (2 + q) from nI_add 2 q]
  refine loop0 (P := fun k => ∀ J : IM, (∀ a, a ≠ 188 → J a = I a) → (∀ j, J 188 j = if j = 0 then nI (2 + q) else if 1 ≤ j ∧ j ≤ k then 1 else I 188 j) → V 20 [(0, .ref 0), (1, .int (nI x)), (2, .ref 181), (3, .ref 186), (4, .ref 188), (5, .int (nI n)), (6, .int (nI k))] [] J L) 5 (fun h => h _ (fun a ha => mu_ne _ _ ha) (fun j => by
    by_cases e : j = 0
    · subst e; rw [mu_at, if_pos rfl]
    · rw [if_neg e, if_neg (by omega)]
      simp [mu, e])) (fun k hk ih => ?_) ?_
  · intro J j1 j2
    refine ru_go hV 11 [(0, 0), ((k+1), 15)] rfl rfl ⟨⟨trivial, nI5_ge hk⟩, ⟨rfl, by rw [Int32.add_comm, nI_1], by omega⟩⟩ ?_
    rw [nI_1]
    refine ih _ (fun a ha => by rw [mu_ne _ _ ha]; exact j1 a ha) (fun j => ?_)
    by_cases e : j = k + 1
    · subst e
      rw [mu_at, if_neg (by omega), if_pos (by omega)]
    · rw [show ∀ v, mu J 188 (k + 1) v 188 j = J 188 j from fun v => by simp [mu, e], j2 j]
      by_cases e0 : j = 0
      · rw [if_pos e0, if_pos e0]
      · rw [if_neg e0, if_neg e0]
        by_cases e1 : 1 ≤ j ∧ j ≤ k
        · rw [if_pos e1, if_pos (by omega)]
        · rw [if_neg e1, if_neg (by omega)]
  · intro J j1 j2
    refine ru_go hV 5 [(1, 0)] rfl rfl ⟨trivial, (by decide)⟩ ?_
    refine loop0 (P := fun k => V 43 [(0, .ref 0), (1, .int (nI x)), (2, .ref 181), (3, .ref 186), (4, .ref 188), (5, .int (nI n)), (6, .int (nI k))] [] (lay J 186 k (fun p => if p / 5 = p % 5 then 1 else 0)) L) 25 (fun h => by rw [lay_0] at h; exact h) (fun k hk ih => ?_) ?_
    · by_cases hd : k / 5 = k % 5
      · refine ru_go hV 17 [(0, 0), (0, 0), (k, 25)] rfl rfl ⟨⟨⟨⟨⟨trivial, nI_nge (n := 25) hk (by omega)⟩, (by decide)⟩, (by decide)⟩, (fun z => z ((dm_5 k hk).mpr hd))⟩, ⟨rfl, rfl, hk⟩⟩ ?_
        rw [nI_1, lay_up (by rw [if_pos hd])]
        exact ih
      · refine ru_go hV 16 [(0, 0), (1, 0), (k, 25)] rfl rfl ⟨⟨⟨⟨⟨trivial, nI_nge (n := 25) hk (by omega)⟩, (by decide)⟩, (by decide)⟩, (fun z => hd ((dm_5 k hk).mp z))⟩, ⟨rfl, rfl, hk⟩⟩ ?_
        rw [nI_1, lay_up (by rw [if_neg hd])]
        exact ih
    · refine ru_go hV 5 [(1, 0)] rfl rfl ⟨trivial, (by decide)⟩ ?_
      generalize hJ : lay J 186 25 (fun p => if p / 5 = p % 5 then (1 : Int32) else 0) = K
      have k1 : ∀ a, a ≠ 188 → a ≠ 186 → K a = I a := fun a a1 a2 => by rw [← hJ, lay_ne a2, j1 a a1]
      have k2 : K 188 = J 188 := by rw [← hJ, lay_ne (by decide)]
      have k3 : ∀ p, p < 25 → K 186 p = if p / 5 = p % 5 then 1 else 0 := fun p hp => by rw [← hJ, lay_in hp]
      refine loop0 (P := fun k => V 79 [(0, .ref 0), (1, .int (nI x)), (2, .ref 181), (3, .ref 186), (4, .ref 188), (5, .int (nI n)), (6, .int (nI k))] [] K (lay L 181 k (fun _ => 0))) 64 (fun h => by rw [lay_0] at h; exact h) (fun k hk ih => ?_) ?_
      · refine ru_go hV 9 [(0, 0), (k, 64)] rfl rfl ⟨⟨trivial, nI_nge (n := 64) hk (by omega)⟩, ⟨rfl, rfl, hk⟩⟩ ?_
        rw [nI_1, lay_up rfl]
        exact ih
      · have ec : K 188 0 = nI (2 + q) := by rw [k2, j2, if_pos rfl]
        have K1 : K 1 0 = nI n := by rw [k1 1 (by decide) (by decide)]; exact h2a
        have K19 : K 19 = I 19 := k1 19 (by decide) (by decide)
        have hi : ∀ a, 181 ≤ a → nwS (svI K o z) 1 (nI (2 + q)) a = K a := fun a ha => by rw [nw_o (by omega), svI_ne ho (Or.inr (by omega))]
        have hK := up_M (qX7_begin l (m := 2 + q) (by omega) (by omega) ho hzz (I := K) (by rw [K19]; exact h2b) (by rw [K19]; exact h2c) (lay L 181 64 (fun _ => 0))) hi
        refine ru_go hV 7 [(1, 0), (0, 15)] rfl rfl ⟨⟨trivial, (by decide)⟩, (by first | exact rfl | assumption | exact ⟨rfl, rfl⟩ | exact ⟨rfl, rfl, by omega⟩ | exact ⟨by assumption, rfl, by omega⟩ | exact ⟨⟨_, rfl, rfl⟩, by decide, by decide, rfl, by omega⟩ | omega | decide)⟩ ?_
        rw [ec]
        refine ru_V hV [] sVL_147 hK rfl rfl rfl rfl rfl (Nat.le_of_ble_eq_true rfl) ?_
        rw [K1]
        refine ru_fin hV 5 [(0, 0)] rfl rfl ⟨trivial, (fun z => z rfl)⟩ ?_
        obtain ⟨s1, s2⟩ := svI_19 (I := K) ho hzz (by rw [K19]; exact h2b)
        refine ⟨rfl, 2 + q, oN o z, zN z, ⟨⟨by omega, by omega, oN_lt ho, (zN_le hzz).1⟩, ⟨nw_1, by rw [nw_o (by decide)]; exact s1, by rw [nw_o (by decide)]; exact s2⟩, ?_, fun s hs => RF_0 (fun k hk => nw_f (by omega) hk) (fun k hk => ?_), by rw [hi 188 (by decide)]; exact ec, fun k hk => ?_, fun r hr c hc => ?_, fun d hd => ?_⟩, (zN_le hzz).2⟩
        · intro j hj hk
          rw [nw_o (by decide), svI_ne ho (Or.inr (by decide)), k1 170 (by decide) (by decide)]
          exact h3 j hj hk
        · exact lay_in (by omega)
        · rw [hi 188 (by decide), k2, j2, if_neg (by omega), if_pos (by omega), nw_s hk]
          exact ⟨rfl, Or.inl rfl⟩
        · rw [hi 186 (by decide), k3 _ (by omega), nw_m hr hc, show (5 * r + c) / 5 = r by omega, show (5 * r + c) % 5 = c by omega]
          by_cases e : r = c
          · rw [if_pos e]; exact ⟨rfl, by decide, by decide⟩
          · rw [if_neg e]; exact ⟨rfl, by decide, by decide⟩
        · rw [hi 188 (by decide), k2, j2, if_neg (by omega), if_neg (by omega), nw_o (by decide), svI_ne ho (Or.inl (by decide)), k1 18 (by decide) (by decide)]
          exact h8 d hd
theorem qL_work (l : Launch) {op x y : Nat} (hop : op < 8) (hx : x < 2 ^ 31) (hy : y < 2 ^ 31) {I : IM} {L : LM} {n o z : Nat} (hS : Sm I L n o z) : ∃ I2 L2, (∃ o2 z2, Sm I2 L2 n o2 z2 ∧ (0 < z → 0 < z2)) ∧ KL_work l [.ref 0, .int (nI op), .int (nI x), .int (nI y), .ref 181, .ref 186, .ref 182, .ref 183, .ref 184, .ref 185, .ref 188] I L (some (.int 1)) I2 L2 :=
  op8 (P := fun op => ∃ I2 L2, (∃ o2 z2, Sm I2 L2 n o2 z2 ∧ (0 < z → 0 < z2)) ∧ KL_work l [.ref 0, .int (nI op), .int (nI x), .int (nI y), .ref 181, .ref 186, .ref 182, .ref 183, .ref 184, .ref 185, .ref 188] I L (some (.int 1)) I2 L2) (qL_work0 l hx hy hS) (qL_work1 l hx hy hS) (qL_work2 l hx hy hS) (qL_work3 l hx hy hS) (qL_work4 l hx hy hS) (qL_work5 l hx hy hS) (qL_work6 l hx hy hS) (qL_work7 l hx hy hS) hop
theorem ou_3 : ∀ q, q < 7 → ¬ ouS (nI q - 3) 9 ∧ -3 ≤ (nI q - 3).toInt ∧ (nI q - 3).toInt ≤ 3 := by
  unfold ouS
  decide +kernel
theorem ou_9 : ∀ q, q < 19 → ¬ ouS (nI q - 9) 100000000 ∧ -9 ≤ (nI q - 9).toInt ∧ (nI q - 9).toInt ≤ 9 := by
  unfold ouS
  decide +kernel
abbrev LVa (ac x y n d : Nat) : LV := [(0, .ref 0), (1, .int (nI ac)), (2, .int (nI x)), (3, .int (nI y)), (4, .ref 181), (5, .ref 186), (6, .ref 182), (7, .ref 183), (8, .ref 184), (9, .ref 185), (10, .ref 188), (11, .int (nI d))]
set_option maxRecDepth 100000 in
set_option maxHeartbeats 1000000 in
theorem qL_act (l : Launch) {ac x y : Nat} (hac : ac < 17) (hx : x < 2 ^ 31) (hy : y < 2 ^ 31) {I : IM} {L : LM} {n o z : Nat} (hS : Sm I L n o z) : ∃ I2 L2, (∃ n2 o2 z2, Sm I2 L2 n2 o2 z2 ∧ (0 < z → 0 < z2) ∧ (ac = 11 → 0 < z2)) ∧ KL_act l [.ref 0, .int (nI ac), .int (nI x), .int (nI y), .ref 181, .ref 186, .ref 182, .ref 183, .ref 184, .ref 185, .ref 188] I L (some (.int 1)) I2 L2 := by
  obtain ⟨⟨n2, n5, ho, hzz⟩, ⟨h2a, h2b, h2c⟩, h3, h4, h5, h6, h7, h8⟩ := id hS
  obtain ⟨hB, hB0⟩ := pow_le32 n n5
  have hz2 := (zN_le hzz).2
  refine ru_pos1 (fun V hV => ?_) (fun I2 L2 h => wL_act l rfl (fun _ x hx => by cases hx; exact Or.inr rfl) h)
  by_cases h8' : ac < 8
  · obtain ⟨I2, L2, ⟨o2, z2, hS2, hz⟩, hK⟩ := qL_work l h8' hx hy hS
    refine ru_go hV 14 [(0, 0)] rfl rfl ⟨trivial, nI_nge (n := 8) h8' (by omega)⟩ ?_
    refine ru_S hV [] sSL_150 hK rfl rfl rfl (Nat.le_of_ble_eq_true rfl) ?_
    refine ru_fin hV 1 [] rfl rfl trivial ?_
    exact ⟨rfl, n, o2, z2, hS2, hz, fun e => by omega⟩
  · refine ru_go hV 9 [(1, 0), (0, 15)] rfl rfl ⟨⟨trivial, nI_le (a := 8) (by omega) (by omega)⟩, (by first | exact rfl | assumption | exact ⟨rfl, rfl⟩ | exact ⟨rfl, rfl, by omega⟩ | exact ⟨by assumption, rfl, by omega⟩ | exact ⟨⟨_, rfl, rfl⟩, by decide, by decide, rfl, by omega⟩ | omega | decide)⟩ ?_
    rw [h5, pk_shrN hx _ 2 (by decide)]
    refine ru_S hV [] sSL_71 (qL_at l (x := x / 2 ^ 2) (n := n) (by omega) (by omega) (by omega) I L) rfl rfl rfl (Nat.le_of_ble_eq_true rfl) ?_
    have hdn : x / 2 ^ 2 / 2 % n < n := Nat.mod_lt _ (by omega)
    refine ru_go hV 1 [] rfl rfl trivial ?_
    generalize x / 2 ^ 2 / 2 % n = d at hdn ⊢
    have cset : ∀ lv, lv = LVa ac x y n d → V 196 lv [] I L := by
      intro lv elv
      subst elv
      have hs : x % 2 < 2 := Nat.mod_lt _ (by decide)
      refine ru_go hV 9 [] rfl rfl trivial ?_
      rw [and1 hx, show (32 : Int32) * nI (x % 2) = nI (32 * (x % 2)) from pk_mul 32 _, pk_shrN hx _ 9 (by decide)]
      refine ru_S hV [.int _, .int _] sSL_8 (qL_all l n5 h5 L) rfl rfl rfl (Nat.le_of_ble_eq_true rfl) ?_
      refine ru_S hV [.int _] sSL_71 (qL_at l (x := x / 2 ^ 9) (n := 2 ^ n) (by omega) (by omega) (by omega) I L) rfl rfl rfl (Nat.le_of_ble_eq_true rfl) ?_
      have hkb : x / 2 ^ 9 / 2 % 2 ^ n < 2 ^ n := Nat.mod_lt _ (by omega)
      generalize x / 2 ^ 9 / 2 % 2 ^ n = kb at hkb ⊢
      refine ru_go hV 2 [] rfl rfl trivial ?_
      rw [nI_add]
      generalize hsx : x % 2 = s at hs ⊢
      have sl : s = x % 2 := hsx.symm
      have ew : L 181 (32 * s + kb) = (I (3 + s) kb).toInt64 := (h4 s hs).1 kb (by omega)
      refine ru_go hV 8 [((32*s+kb), 64)] rfl rfl ⟨trivial, (by first | exact rfl | assumption | exact ⟨rfl, rfl⟩ | exact ⟨rfl, rfl, by omega⟩ | exact ⟨by assumption, rfl, by omega⟩ | exact ⟨⟨_, rfl, rfl⟩, by decide, by decide, rfl, by omega⟩ | omega | decide)⟩ ?_
      refine ru_S hV [.int _, .ref 181] sSL_71 (qL_at l (x := y) (n := 4) hy (by decide) (by decide) I L) rfl rfl rfl (Nat.le_of_ble_eq_true rfl) ?_
      have hy4 : y / 2 % 4 < 4 := Nat.mod_lt _ (by decide)
      have c253 : ∀ v : Int32, ¬ ouS v 100000000 → -9 ≤ v.toInt → v.toInt ≤ 9 → ∀ Lx : LM, Lx = mu L 181 (32 * s + kb) v.toInt64 → ∀ lv, lv = LVa ac x y n d ++ [(12, .int (nI (32 * s + kb))), (13, .long (L 181 (32 * s + kb)))] → V 253 lv [] I Lx := by
        intro v hv v1 v2 Lx eL lv elv
        subst eL; subst elv
        have hi : ∀ a, 181 ≤ a → mu (svI I o z) (3 + s) kb v a = I a := fun a ha => by rw [mu_ne _ _ (by omega), svI_ne ho (Or.inr (by omega))]
        have hK := up_M (qX7_set l (s := s) (b := kb) (by omega) hkb hv n5 ho hzz h2a h2b h2c (mu L 181 (32 * s + kb) v.toInt64)) hi
        refine ru_go hV 11 [((32*s+kb), 64)] rfl rfl ⟨⟨trivial, (by decide)⟩, ⟨rfl, rfl, by omega⟩⟩ ?_
        rw [and1 hx, hsx, mu_at, lg_l2i_i2l, show nI (32 * s + kb) - nI (32 * s + kb) / 32 * 32 = nI kb from (pk_rem (a := 32 * s + kb) (d := 32) (by omega) (by decide) (by decide)).trans (by rw [show (32 * s + kb) % 32 = kb by omega])]
        refine ru_V hV [] sVL_162 hK rfl rfl rfl rfl rfl (Nat.le_of_ble_eq_true rfl) ?_
        refine ru_fin hV 7 [(0, 0)] rfl rfl ⟨trivial, (fun z => z ((lg_cmp0 _ _).mpr ew.symm))⟩ ?_
        obtain ⟨s1, s2⟩ := svI_19 (I := I) ho hzz h2b
        have lo : ∀ a, a ≠ 3 + s → (a < 19 ∨ 128 < a) → mu (svI I o z) (3 + s) kb v a = I a := fun a a1 a2 => by rw [mu_ne _ _ a1, svI_ne ho a2]
        have r19 : mu (svI I o z) (3 + s) kb v 19 = svI I o z 19 := mu_ne _ _ (by omega)
        refine ⟨rfl, n, oN o z, zN z, ⟨⟨n2, n5, oN_lt ho, (zN_le hzz).1⟩, ⟨by rw [lo 1 (by omega) (Or.inl (by decide))]; exact h2a, by rw [r19]; exact s1, by rw [r19]; exact s2⟩, ?_, fun s' hs' => ?_, by rw [hi 188 (by decide)]; exact h5, fun k hk => ?_, fun r hr c hc => ?_, fun q hq => ?_⟩, fun _ => hz2, fun _ => hz2⟩
        · intro j hj hk
          rw [lo 170 (by omega) (Or.inr (by decide))]
          exact h3 j hj hk
        · obtain ⟨a1, a2, a3⟩ := h4 s' hs'
          by_cases e : s' = s
          · subst e
            have er : ∀ k, mu (svI I o z) (3 + s') kb v (3 + s') k = if k = kb then v else I (3 + s') k := fun k => by
              by_cases ek : k = kb
              · subst ek; rw [mu_at, if_pos rfl]
              · rw [if_neg ek, show ∀ J : IM, mu J (3 + s') kb v (3 + s') k = J (3 + s') k from fun J => by simp [mu, ek], svI_ne ho (Or.inl (by omega))]
            refine ⟨fun k hk => ?_, fun k hk => ?_, fun k hk hk2 => ?_⟩
            · show mu L 181 (32 * s' + kb) v.toInt64 181 (32 * s' + k) = _
              rw [er]
              by_cases ek : k = kb
              · subst ek; rw [mu_at, if_pos rfl]
              · rw [if_neg ek, show mu L 181 (32 * s' + kb) v.toInt64 181 (32 * s' + k) = L 181 (32 * s' + k) by simp [mu, ek]]
                exact a1 k hk
            · rw [er]
              by_cases ek : k = kb
              · rw [if_pos ek]; omega
              · rw [if_neg ek]; exact a2 k hk
            · rw [er, if_neg (by omega)]
              exact a3 k hk hk2
          · rw [lo (3 + s') (by omega) (Or.inl (by omega))]
            refine ⟨fun k hk => ?_, a2, a3⟩
            show mu L 181 (32 * s + kb) v.toInt64 181 (32 * s' + k) = _
            rw [show mu L 181 (32 * s + kb) v.toInt64 181 (32 * s' + k) = L 181 (32 * s' + k) by simp [mu, show ¬ 32 * s' + k = 32 * s + kb by omega]]
            exact a1 k hk
        · rw [hi 188 (by decide), lo 11 (by omega) (Or.inl (by decide))]
          exact h6 k hk
        · rw [hi 186 (by decide), lo (13 + r) (by omega) (Or.inl (by omega))]
          exact h7 r hr c hc
        · rw [hi 188 (by decide), lo 18 (by omega) (Or.inl (by decide))]
          exact h8 q hq
      by_cases h0 : y / 2 % 4 = 0
      · refine ru_go hV 4 [(0, 0), ((32*s+kb), 64)] rfl rfl ⟨⟨trivial, (by rw [h0]; decide)⟩, (by first | exact rfl | assumption | exact ⟨rfl, rfl⟩ | exact ⟨rfl, rfl, by omega⟩ | exact ⟨by assumption, rfl, by omega⟩ | exact ⟨⟨_, rfl, rfl⟩, by decide, by decide, rfl, by omega⟩ | omega | decide)⟩ ?_
        exact c253 0 (by unfold ouS; decide) (by decide) (by decide) _ rfl _ rfl
      · refine ru_go hV 5 [(1, 0)] rfl rfl ⟨trivial, nI_ne0 (by omega) (by omega)⟩ ?_
        rw [pk_shrN hy _ 2 (by decide)]
        refine ru_S hV [.int _, .ref 181] sSL_71 (qL_at l (x := y / 2 ^ 2) (n := 19) (by omega) (by decide) (by decide) I L) rfl rfl rfl (Nat.le_of_ble_eq_true rfl) ?_
        obtain ⟨v1, v2, v3⟩ := ou_9 (y / 2 ^ 2 / 2 % 19) (Nat.mod_lt _ (by decide))
        refine ru_go hV 4 [((32*s+kb), 64)] rfl rfl ⟨trivial, (by first | exact rfl | assumption | exact ⟨rfl, rfl⟩ | exact ⟨rfl, rfl, by omega⟩ | exact ⟨by assumption, rfl, by omega⟩ | exact ⟨⟨_, rfl, rfl⟩, by decide, by decide, rfl, by omega⟩ | omega | decide)⟩ ?_
        exact c253 _ v1 v2 v3 _ rfl _ rfl
    by_cases e8 : ac = 8
    · subst e8
      have eI := (h6 d (by omega)).1
      have c73 : ∀ v : Int32, (v = 1 ∨ v = -1) → ∀ J : IM, J = mu I 188 (d + 1) v → ∀ lv, lv = LVa 8 x y n d ++ [(12, .int (I 188 (d + 1)))] → V 73 lv [] J L := by
        intro v hv J eJ lv elv
        subst elv
        have j1 : ∀ a, a ≠ 188 → J a = I a := fun a ha => by rw [eJ, mu_ne _ _ ha]
        have jd : J 188 (d + 1) = v := by rw [eJ, mu_at]
        have jo : ∀ k, k ≠ d + 1 → J 188 k = I 188 k := fun k hk => by rw [eJ]; simp [mu, hk]
        have hi : ∀ a, 181 ≤ a → mu (svI J o z) 11 d v a = J a := fun a ha => by rw [mu_ne _ _ (by omega), svI_ne ho (Or.inr (by omega))]
        have hK := up_M (qX7_sign l (k := d) (v := v) hdn hv n5 ho hzz (I := J) (by rw [j1 1 (by decide)]; exact h2a) (by rw [j1 19 (by decide)]; exact h2b) (by rw [j1 19 (by decide)]; exact h2c) L) hi
        refine ru_go hV 7 [((d+1), 15)] rfl rfl ⟨trivial, ⟨rfl, by rw [Int32.add_comm, nI_1], by omega⟩⟩ ?_
        rw [jd]
        refine ru_V hV [] sVL_154 hK rfl rfl rfl rfl rfl (Nat.le_of_ble_eq_true rfl) ?_
        rw [j1 11 (by decide)]
        refine ru_fin hV 5 [(0, 0)] rfl rfl ⟨trivial, (fun z => z eI.symm)⟩ ?_
        obtain ⟨s1, s2⟩ := svI_19 (I := J) ho hzz (by rw [j1 19 (by decide)]; exact h2b)
        have lo : ∀ a, a ≠ 11 → a ≠ 188 → (a < 19 ∨ 128 < a) → mu (svI J o z) 11 d v a = I a := fun a a1 a2 a3 => by rw [mu_ne _ _ a1, svI_ne ho a3, j1 a a2]
        have r19 : mu (svI J o z) 11 d v 19 = svI J o z 19 := mu_ne _ _ (by decide)
        refine ⟨rfl, n, oN o z, zN z, ⟨⟨n2, n5, oN_lt ho, (zN_le hzz).1⟩, ⟨by rw [lo 1 (by decide) (by decide) (Or.inl (by decide))]; exact h2a, by rw [r19]; exact s1, by rw [r19]; exact s2⟩, ?_, fun s hs => ?_, by rw [hi 188 (by decide), jo 0 (by omega)]; exact h5, fun k hk => ?_, fun r hr c hc => ?_, fun q hq => ?_⟩, fun _ => hz2, fun _ => hz2⟩
        · intro j hj hk
          rw [lo 170 (by decide) (by decide) (Or.inr (by decide))]
          exact h3 j hj hk
        · rw [lo (3 + s) (by omega) (by omega) (Or.inl (by omega))]
          exact h4 s hs
        · rw [hi 188 (by decide)]
          by_cases e : k = d
          · subst e
            rw [jd, mu_at]
            exact ⟨rfl, hv⟩
          · rw [jo _ (by omega), show ∀ K : IM, mu K 11 d v 11 k = K 11 k from fun K => by simp [mu, e], svI_ne ho (Or.inl (by decide)), j1 11 (by decide)]
            exact h6 k hk
        · rw [lo 186 (by decide) (by decide) (Or.inr (by decide)), lo (13 + r) (by omega) (by omega) (Or.inl (by omega))]
          exact h7 r hr c hc
        · rw [hi 188 (by decide), jo _ (by omega), lo 18 (by decide) (by decide) (Or.inl (by decide))]
          exact h8 q hq
      have erem : nI y - nI y / 2 * 2 = nI (y % 2) := pk_rem (a := y) (d := 2) (by omega) (by decide) (by decide)
      by_cases hy2 : y % 2 = 0
      · refine ru_go hV 20 [(0, 0), ((d+1), 15), (0, 0), ((d+1), 15)] rfl rfl ⟨⟨⟨⟨⟨trivial, (fun z => z rfl)⟩, ⟨rfl, by rw [Int32.add_comm, nI_1], by omega⟩⟩, (by decide)⟩, (by rw [erem, hy2]; decide)⟩, ⟨rfl, by rw [Int32.add_comm, nI_1], by omega⟩⟩ ?_
        exact c73 1 (Or.inl rfl) _ rfl _ rfl
      · refine ru_go hV 19 [(0, 0), ((d+1), 15), (1, 0), ((d+1), 15)] rfl rfl ⟨⟨⟨⟨⟨trivial, (fun z => z rfl)⟩, ⟨rfl, by rw [Int32.add_comm, nI_1], by omega⟩⟩, (by decide)⟩, (by rw [erem]; exact nI_ne0 (by omega) (by omega))⟩, ⟨rfl, by rw [Int32.add_comm, nI_1], by omega⟩⟩ ?_
        exact c73 (-1) (Or.inr rfl) _ rfl _ rfl
    · by_cases e9 : ac = 9
      · subst e9
        refine ru_go hV 15 [(1, 0), (0, 0), (0, 15)] rfl rfl ⟨⟨⟨trivial, (by decide)⟩, (fun z => z rfl)⟩, (by first | exact rfl | assumption | exact ⟨rfl, rfl⟩ | exact ⟨rfl, rfl, by omega⟩ | exact ⟨by assumption, rfl, by omega⟩ | exact ⟨⟨_, rfl, rfl⟩, by decide, by decide, rfl, by omega⟩ | omega | decide)⟩ ?_
        rw [h5, show (5 : Int32) * nI d = nI (5 * d) from pk_mul 5 d, pk_shrN hx _ 7 (by decide)]
        refine ru_S hV [.int _] sSL_71 (qL_at l (x := x / 2 ^ 7) (n := n) (by omega) (by omega) (by omega) I L) rfl rfl rfl (Nat.le_of_ble_eq_true rfl) ?_
        have hcn : x / 2 ^ 7 / 2 % n < n := Nat.mod_lt _ (by omega)
        generalize x / 2 ^ 7 / 2 % n = cc at hcn ⊢
        refine ru_go hV 2 [] rfl rfl trivial ?_
        rw [nI_add]
        obtain ⟨em, em1, em2⟩ := h7 d (by omega) cc (by omega)
        refine ru_go hV 8 [((5*d+cc), 25)] rfl rfl ⟨trivial, (by first | exact rfl | assumption | exact ⟨rfl, rfl⟩ | exact ⟨rfl, rfl, by omega⟩ | exact ⟨by assumption, rfl, by omega⟩ | exact ⟨⟨_, rfl, rfl⟩, by decide, by decide, rfl, by omega⟩ | omega | decide)⟩ ?_
        refine ru_S hV [.int _, .ref 186] sSL_71 (qL_at l (x := y) (n := 7) hy (by decide) (by decide) I L) rfl rfl rfl (Nat.le_of_ble_eq_true rfl) ?_
        obtain ⟨v1, v2, v3⟩ := ou_3 (y / 2 % 7) (Nat.mod_lt _ (by decide))
        refine ru_go hV 3 [((5*d+cc), 25)] rfl rfl ⟨trivial, (by first | exact rfl | assumption | exact ⟨rfl, rfl⟩ | exact ⟨rfl, rfl, by omega⟩ | exact ⟨by assumption, rfl, by omega⟩ | exact ⟨⟨_, rfl, rfl⟩, by decide, by decide, rfl, by omega⟩ | omega | decide)⟩ ?_
        generalize nI (y / 2 % 7) - 3 = v at v1 v2 v3 ⊢
        generalize eJ : mu I 186 (5 * d + cc) v = J
        have j1 : ∀ a, a ≠ 186 → J a = I a := fun a ha => by rw [← eJ, mu_ne _ _ ha]
        have jd : J 186 (5 * d + cc) = v := by rw [← eJ, mu_at]
        have jo : ∀ k, k ≠ 5 * d + cc → J 186 k = I 186 k := fun k hk => by rw [← eJ]; simp [mu, hk]
        have hi : ∀ a, 181 ≤ a → mu (svI J o z) (13 + d) cc v a = J a := fun a ha => by rw [mu_ne _ _ (by omega), svI_ne ho (Or.inr (by omega))]
        have hK := up_M (qX7_matrix l (r := d) (c := cc) (v := v) hdn hcn v1 n5 ho hzz (I := J) (by rw [j1 1 (by decide)]; exact h2a) (by rw [j1 19 (by decide)]; exact h2b) (by rw [j1 19 (by decide)]; exact h2c) L) hi
        refine ru_go hV 10 [((5*d+cc), 25)] rfl rfl ⟨trivial, (by first | exact rfl | assumption | exact ⟨rfl, rfl⟩ | exact ⟨rfl, rfl, by omega⟩ | exact ⟨by assumption, rfl, by omega⟩ | exact ⟨⟨_, rfl, rfl⟩, by decide, by decide, rfl, by omega⟩ | omega | decide)⟩ ?_
        rw [jd, show (5 : Int32) * nI d = nI (5 * d) from pk_mul 5 d, nI_subN (show 5 * d ≤ 5 * d + cc by omega), show 5 * d + cc - 5 * d = cc by omega]
        refine ru_V hV [] sVL_156 hK rfl rfl rfl rfl rfl (Nat.le_of_ble_eq_true rfl) ?_
        rw [j1 (13 + d) (by omega)]
        refine ru_fin hV 5 [(0, 0)] rfl rfl ⟨trivial, (fun z => z em.symm)⟩ ?_
        obtain ⟨s1, s2⟩ := svI_19 (I := J) ho hzz (by rw [j1 19 (by decide)]; exact h2b)
        have lo : ∀ a, a ≠ 13 + d → a ≠ 186 → (a < 19 ∨ 128 < a) → mu (svI J o z) (13 + d) cc v a = I a := fun a a1 a2 a3 => by rw [mu_ne _ _ a1, svI_ne ho a3, j1 a a2]
        have r19 : mu (svI J o z) (13 + d) cc v 19 = svI J o z 19 := mu_ne _ _ (by omega)
        refine ⟨rfl, n, oN o z, zN z, ⟨⟨n2, n5, oN_lt ho, (zN_le hzz).1⟩, ⟨by rw [lo 1 (by omega) (by decide) (Or.inl (by decide))]; exact h2a, by rw [r19]; exact s1, by rw [r19]; exact s2⟩, ?_, fun s hs => ?_, by rw [lo 188 (by omega) (by decide) (Or.inr (by decide))]; exact h5, fun k hk => ?_, fun r hr c hc => ?_, fun q hq => ?_⟩, fun _ => hz2, fun _ => hz2⟩
        · intro j hj hk
          rw [lo 170 (by omega) (by decide) (Or.inr (by decide))]
          exact h3 j hj hk
        · rw [lo (3 + s) (by omega) (by omega) (Or.inl (by omega))]
          exact h4 s hs
        · rw [lo 188 (by omega) (by decide) (Or.inr (by decide)), lo 11 (by omega) (by decide) (Or.inl (by decide))]
          exact h6 k hk
        · rw [hi 186 (by decide)]
          by_cases e : r = d ∧ c = cc
          · obtain ⟨e1, e2⟩ := e
            subst e1; subst e2
            rw [jd, mu_at]
            exact ⟨rfl, v2, v3⟩
          · rw [jo _ (by omega)]
            have er : mu (svI J o z) (13 + d) cc v (13 + r) c = I (13 + r) c := by
              by_cases e1 : r = d
              · subst e1
                rw [show ∀ K : IM, mu K (13 + r) cc v (13 + r) c = K (13 + r) c from fun K => by simp [mu, show ¬ c = cc from fun z => e ⟨rfl, z⟩], svI_ne ho (Or.inl (by omega)), j1 _ (by omega)]
              · exact congrFun (lo (13 + r) (by omega) (by omega) (Or.inl (by omega))) c
            rw [er]
            exact h7 r hr c hc
        · rw [lo 188 (by omega) (by decide) (Or.inr (by decide)), lo 18 (by omega) (by decide) (Or.inl (by decide))]
          exact h8 q hq
      · have n8 : nI ac ≠ 8 := fun e => e8 ((nI_eq (b := 8) (by omega) (by omega)).mp e)
        have n9 : nI ac ≠ 9 := fun e => e9 ((nI_eq (b := 9) (by omega) (by omega)).mp e)
        by_cases e10 : ac = 10
        · subst e10
          refine ru_go hV 11 [(1, 0), (1, 0), (0, 0)] rfl rfl ⟨⟨⟨trivial, n8⟩, n9⟩, (fun z => z rfl)⟩ ?_
          refine ru_S hV [] sSL_71 (qL_at l (x := y) (n := 5) hy (by decide) (by decide) I L) rfl rfl rfl (Nat.le_of_ble_eq_true rfl) ?_
          have h5' : y / 2 % 5 < 5 := Nat.mod_lt _ (by decide)
          by_cases h0 : y / 2 % 5 = 0
          · obtain ⟨I2, L2, ⟨n', o2, z2, hS2, hz⟩, hK⟩ := qL_begin l hx hS
            refine ru_go hV 6 [(0, 0)] rfl rfl ⟨trivial, (by rw [h0]; decide)⟩ ?_
            refine ru_S hV [] sSL_159 hK rfl rfl rfl (Nat.le_of_ble_eq_true rfl) ?_
            refine ru_fin hV 1 [] rfl rfl trivial ?_
            exact ⟨rfl, n', o2, z2, hS2, fun _ => hz, fun _ => hz⟩
          · refine ru_go hV 1 [(1, 0)] rfl rfl ⟨trivial, nI_ne0 (by omega) (by omega)⟩ ?_
            exact cset _ rfl
        · refine ru_go hV 9 [(1, 0), (1, 0), (1, 0)] rfl rfl ⟨⟨⟨trivial, n8⟩, n9⟩, (fun e => e10 ((nI_eq (b := 10) (by omega) (by omega)).mp e))⟩ ?_
          exact cset _ rfl
