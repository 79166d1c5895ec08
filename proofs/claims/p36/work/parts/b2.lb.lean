/-! THE LAW: its walk -/
theorem IC_r {d j : Nat} (h : d < 18) (hs : scP 0 d j) : IC (1 + d) j = nwV 0 (nI 4) d j := by
  rw [IC_1 h]
  exact fb_in hs
theorem IC_o {d j : Nat} (h : d < 18) (hs : ¬ scP 0 d j) : IC (1 + d) j = 0 := by
  rw [IC_1 h]
  exact fb_out hs
/-- the two desks at the start -/
theorem sm_start {J : IM} {L : LM} (hJ : ∀ a, a ≠ 186 → a ≠ 188 → J a = IC a) (h0 : J 188 0 = nI 4) (h1 : ∀ k, k < 5 → J 188 (k + 1) = 1) (h6 : ∀ k, 6 ≤ k → J 188 k = 0) (hm : ∀ p, p < 25 → J 186 p = if p % 6 = 0 then 1 else 0) (hL : ∀ q, q < 64 → L 181 q = 0) : Sm J L 4 0 0 := by
  have h19 : ∀ j, J 19 j = 0 := fun j => by
    rw [hJ 19 (by decide) (by decide)]
    unfold IC
    rw [if_neg (by omega), if_neg (by omega), if_neg (by omega)]
  refine ⟨⟨by decide, by decide, by decide, by decide⟩, ⟨?_, by rw [h19]; rfl, by rw [h19]; rfl⟩, ?_, fun s hs => RF_0 (fun k hk => ?_) (fun k hk => hL _ (by omega)), h0, fun k hk => ?_, fun r hr c hc => ?_, fun d hd => ?_⟩
  · rw [hJ 1 (by decide) (by decide), IC_r (d := 0) (by decide) (Or.inl ⟨rfl, rfl⟩)]
    rfl
  · intro j _ _
    rw [hJ 170 (by decide) (by decide), IC_hi (by decide)]
  · rw [hJ (3 + s) (by omega) (by omega), show 3 + s = 1 + (2 + s) by omega, IC_r (by omega) (by unfold scP; omega)]
    unfold nwV
    rw [if_neg (by omega), if_pos (by omega)]
  · rw [h1 k hk, hJ 11 (by decide) (by decide), show 11 = 1 + 10 from rfl, IC_r (by decide) (by unfold scP; omega)]
    unfold nwV
    rw [if_neg (by decide), if_neg (by decide), if_pos (by decide)]
    exact ⟨rfl, Or.inl rfl⟩
  · have e2 : nwV 0 (nI 4) (12 + r) c = if r = c then 1 else 0 := by
      unfold nwV
      rw [if_neg (by omega), if_neg (by omega), if_neg (by omega), show 12 + r - (0 + 12) = r by omega]
    rw [hm _ (by omega), hJ (13 + r) (by omega) (by omega), show 13 + r = 1 + (12 + r) by omega, IC_r (by omega) (by unfold scP; omega), e2]
    by_cases e : r = c
    · rw [if_pos e, if_pos (by omega)]; exact ⟨rfl, by decide, by decide⟩
    · rw [if_neg e, if_neg (by omega)]; exact ⟨rfl, by decide, by decide⟩
  · rw [h6 _ (by omega), hJ 18 (by decide) (by decide), show 18 = 1 + 17 from rfl, IC_o (by decide) (by unfold scP; omega)]
abbrev LVl : LV := [(0, .ref 189), (1, .ref 0), (2, .ref 181), (3, .ref 182), (4, .ref 183), (5, .ref 184), (6, .ref 185), (7, .ref 186), (8, .ref 187), (9, .ref 188)]
theorem msk (v : Int32) : ∃ m : Nat, m < 2 ^ 31 ∧ v &&& 2147483647 = nI m := pk_andE v 31 (by decide)
set_option maxRecDepth 100000 in
set_option maxHeartbeats 2000000 in
theorem law_walk (l : Launch) {Ln : Nat} {xs : Nat → Int32} {V : Nat → LV → List Value → IM → LM → Prop} (hV : Ru l kdL 189 RL cL_law room_1 FL tL_law V (fun st _ _ => st = [.int 1])) (h141 : ∀ k lv I L, k < 100 → V 144 lv [.int (clF xs Ln k)] I L → V 141 lv [.int (nI k), .ref 189] I L) (h156 : ∀ k lv I L, k < 100 → V 159 lv [.int (clF xs Ln k)] I L → V 156 lv [.int (nI k), .ref 189] I L) : V 54 LVl [] IC L0 := by
  have hz : ∀ a j, 166 ≤ a → IC a j = 0 := fun a j h => by rw [IC_hi h]
  refine ru_go hV 6 [(0, 15)] rfl rfl ⟨trivial, (by first | exact rfl | assumption | exact ⟨rfl, rfl⟩ | exact ⟨rfl, rfl, by omega⟩ | exact ⟨by assumption, rfl, by omega⟩ | exact ⟨⟨_, rfl, rfl⟩, by decide, by decide, rfl, by omega⟩ | omega | decide)⟩ ?_
  refine loop0 (P := fun i => ∀ J : IM, (∀ a, a ≠ 188 → J a = IC a) → (∀ k, J 188 k = if k = 0 then nI 4 else if k ≤ i then 1 else 0) → V 62 (LVl ++ [(10, .int (nI i))]) [] J L0) 5 (fun h => h _ (fun a ha => mu_ne _ _ ha) (fun k => by
    by_cases e : k = 0
    · subst e; rw [mu_at, if_pos rfl]; rfl
    · rw [if_neg e, if_neg (by omega), show ∀ v, mu IC 188 0 v 188 k = IC 188 k from fun v => by simp [mu, e]]
      exact hz 188 k (by decide))) (fun i hi ih => ?_) ?_
  · intro J j1 j2
    refine ru_go hV 11 [(0, 0), ((i+1), 15)] rfl rfl ⟨⟨trivial, nI5_ge hi⟩, ⟨rfl, by rw [Int32.add_comm, nI_1], by omega⟩⟩ ?_
    rw [nI_1]
    refine ih _ (fun a ha => by rw [mu_ne _ _ ha]; exact j1 a ha) (fun k => ?_)
    by_cases e : k = i + 1
    · subst e; rw [mu_at, if_neg (by omega), if_pos (by omega)]
    · rw [show ∀ v, mu J 188 (i + 1) v 188 k = J 188 k from fun v => by simp [mu, e], j2 k]
      by_cases e0 : k = 0
      · rw [if_pos e0, if_pos e0]
      · rw [if_neg e0, if_neg e0]
        by_cases e1 : k ≤ i
        · rw [if_pos e1, if_pos (by omega)]
        · rw [if_neg e1, if_neg (by omega)]
  · intro J j1 j2
    refine ru_go hV 5 [(1, 0)] rfl rfl ⟨trivial, (by decide)⟩ ?_
    refine loop0 (P := fun i => ∀ K : IM, (∀ a, a ≠ 186 → K a = J a) → (∀ p, p < 25 → K 186 p = if p % 6 = 0 ∧ p < 6 * i then 1 else 0) → V 85 (LVl ++ [(10, .int (nI i))]) [] K L0) 5 (fun h => h J (fun _ _ => rfl) (fun p hp => by rw [if_neg (by omega), j1 186 (by decide)]; exact hz 186 p (by decide))) (fun i hi ih => ?_) ?_
    · intro K k1 k2
      refine ru_go hV 11 [(0, 0), ((6*i), 25)] rfl rfl ⟨⟨trivial, nI5_ge hi⟩, ⟨rfl, pk_mul 6 i, by omega⟩⟩ ?_
      rw [nI_1]
      refine ih _ (fun a ha => by rw [mu_ne _ _ ha]; exact k1 a ha) (fun p hp => ?_)
      by_cases e : p = 6 * i
      · subst e; rw [mu_at, if_pos (by omega)]
      · rw [show ∀ v, mu K 186 (6 * i) v 186 p = K 186 p from fun v => by simp [mu, e], k2 p hp]
        by_cases e1 : p % 6 = 0 ∧ p < 6 * i
        · rw [if_pos e1, if_pos (by omega)]
        · rw [if_neg e1, if_neg (by omega)]
    · intro K k1 k2
      have hS0 : Sm K L0 4 0 0 := sm_start (fun a a1 a2 => by rw [k1 a a1, j1 a a2]) (by rw [k1 188 (by decide), j2, if_pos rfl]) (fun k hk => by rw [k1 188 (by decide), j2, if_neg (by omega), if_pos (by omega)]) (fun k hk => by rw [k1 188 (by decide), j2, if_neg (by omega), if_neg (by omega)]) (fun p hp => by
        rw [k2 p hp]
        by_cases e : p % 6 = 0
        · rw [if_pos ⟨e, by omega⟩, if_pos e]
        · rw [if_neg (fun z => e z.1), if_neg e]) (fun _ _ => rfl)
      obtain ⟨It, Lt, ⟨sct, qt⟩, hKt⟩ := qL_told l hS0
      refine ru_go hV 10 [(1, 0)] rfl rfl ⟨trivial, (by decide)⟩ ?_
      refine ru_S hV [] sSL_166 hKt rfl rfl rfl (Nat.le_of_ble_eq_true rfl) ?_
      refine ru_go hV 3 [(1, 0)] rfl rfl ⟨trivial, (by decide)⟩ ?_
      refine loop0 (P := fun i => ∀ (J : IM) (L : LM) (n o z : Nat), Sm J L n o z → (0 < i → 0 < z) → V 129 (LVl ++ [(10, .int (nI i))]) [] J L) 36 (fun h => h It Lt 4 0 0 (hS0.sc sct qt) (fun z => absurd z (Nat.lt_irrefl 0))) (fun i hi ih => ?_) ?_
      · intro J L n o z hS hzp
        refine ru_go hV 7 [(0, 0)] rfl rfl ⟨trivial, nI_nge (n := 36) hi (by omega)⟩ ?_
        rw [show (2 : Int32) * nI i = nI (2 * i) from pk_mul 2 i]
        refine h141 (2 * i) _ J L (by omega) ?_
        obtain ⟨x, hx, ex⟩ := msk (clF xs Ln (2 * i))
        refine ru_go hV 3 [] rfl rfl trivial ?_
        rw [ex]
        refine ru_go hV 6 [] rfl rfl trivial ?_
        rw [show (2 : Int32) * nI i = nI (2 * i) from pk_mul 2 i, nI_1]
        refine h156 (2 * i + 1) _ J L (by omega) ?_
        obtain ⟨y, hy, ey⟩ := msk (clF xs Ln (2 * i + 1))
        refine ru_go hV 3 [] rfl rfl trivial ?_
        rw [ey]
        have c187 : ∀ ac : Nat, ac < 17 → (i < 4 → ac = 11) → V 187 (LVl ++ [(10, .int (nI i)), (11, .int (nI x)), (12, .int (nI y)), (13, .int (nI ac))]) [] J L := by
          intro ac hac h11
          obtain ⟨I1, L1, ⟨n1, o1, z1, hS1, hz1, hz11⟩, hK1⟩ := qL_act l hac hx hy hS
          obtain ⟨I2, L2, ⟨sc2, q2⟩, hK2⟩ := qL_told l hS1
          have hS2 := hS1.sc sc2 q2
          have hzz : 0 < z1 := by
            by_cases h4 : i < 4
            · exact hz11 (h11 h4)
            · exact hz1 (hzp (by omega))
          have c262 : ∀ (I3 : IM) (L3 : LM), Sm I3 L3 n1 o1 z1 → V 262 (LVl ++ [(10, .int (nI i)), (11, .int (nI x)), (12, .int (nI y)), (13, .int (nI ac))]) [] I3 L3 := fun I3 L3 hS3 => by
            refine ru_go hV 2 [] rfl rfl trivial ?_
            rw [nI_1]
            exact ru_sub hV [0, 1, 2, 3, 4, 5, 6, 7, 8, 9, 10] rfl (ih I3 L3 n1 o1 z1 hS3 (fun _ => hzz))
          have erem : nI i - nI i / 3 * 3 = nI (i % 3) := pk_rem (a := i) (d := 3) (by omega) (by decide) (by decide)
          refine ru_go hV 11 [] rfl rfl trivial ?_
          refine ru_S hV [] sSL_175 hK1 rfl rfl rfl (Nat.le_of_ble_eq_true rfl) ?_
          refine ru_go hV 8 [(0, 0)] rfl rfl ⟨trivial, (by decide)⟩ ?_
          refine ru_S hV [] sSL_166 hK2 rfl rfl rfl (Nat.le_of_ble_eq_true rfl) ?_
          refine ru_go hV 1 [(1, 0)] rfl rfl ⟨trivial, (by decide)⟩ ?_
          by_cases h3 : i % 3 = 2
          · obtain ⟨I3, L3, ⟨sq3, q3⟩, hK3⟩ := qL_basis l (s := i % 2) (Nat.mod_lt _ (by decide)) hS2
            refine ru_go hV 9 [(0, 0)] rfl rfl ⟨⟨trivial, (by decide)⟩, (fun z => z (by rw [erem, h3]; rfl))⟩ ?_
            rw [and1 (by omega)]
            refine ru_go hV 5 [] rfl rfl trivial ?_
            refine ru_S hV [] sSL_178 hK3 rfl rfl rfl (Nat.le_of_ble_eq_true rfl) ?_
            refine ru_go hV 1 [(1, 0)] rfl rfl ⟨trivial, (by decide)⟩ ?_
            exact c262 I3 L3 (hS2.sq sq3 q3)
          · refine ru_go hV 5 [(1, 0)] rfl rfl ⟨⟨trivial, (by decide)⟩, (fun z => by rw [erem] at z; exact h3 ((nI_eq (b := 2) (by omega) (by decide)).mp z))⟩ ?_
            exact c262 I2 L2 hS2
        by_cases h4 : i < 4
        · refine ru_go hV 6 [(0, 0)] rfl rfl ⟨trivial, nI_nge (n := 4) h4 (by omega)⟩ ?_
          exact c187 11 (by decide) (fun _ => rfl)
        · refine ru_go hV 7 [(1, 0)] rfl rfl ⟨trivial, nI_le (a := 4) (by omega) (by omega)⟩ ?_
          rw [pk_shrN hx _ 13 (by decide)]
          refine ru_S hV [] sSL_71 (qL_at l (x := x / 2 ^ 13) (n := 17) (by omega) (by decide) (by decide) J L) rfl rfl rfl (Nat.le_of_ble_eq_true rfl) ?_
          refine ru_go hV 1 [] rfl rfl trivial ?_
          exact c187 _ (Nat.mod_lt _ (by decide)) (fun z => absurd z h4)
      · intro J L n o z hS hzp
        obtain ⟨⟨n2, n5, ho, hzz⟩, ⟨h2a, h2b, h2c⟩, -⟩ := id hS
        obtain ⟨L1, l1, k1⟩ := qL_cnt l (k := 2) (x := 2) (y := nI z) (Or.inl (by decide)) n5 h2a L rfl (by
          rw [← h2c]; rfl)
        refine ru_go hV 5 [(1, 0)] rfl rfl ⟨trivial, (by decide)⟩ ?_
        refine ru_V hV [] sVL_134 k1 rfl rfl rfl rfl rfl (Nat.le_of_ble_eq_true rfl) ?_
        refine ru_fin hV 4 [(0, 0)] rfl rfl ⟨trivial, nI_nle (hzp (by decide)) (by omega)⟩ ?_
        rfl
