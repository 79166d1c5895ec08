/-! THE LAW work: an operation on both desks -/
set_option maxRecDepth 100000 in
set_option maxHeartbeats 1000000 in
theorem qL_work0 (l : Launch) {x y : Nat} (hx : x < 2 ^ 31) (hy : y < 2 ^ 31) {I : IM} {L : LM} {n o z : Nat} (hS : Sm I L n o z) : ∃ I2 L2, (∃ o2 z2, Sm I2 L2 n o2 z2 ∧ (0 < z → 0 < z2)) ∧ KL_work l [.ref 0, .int 0, .int (nI x), .int (nI y), .ref 181, .ref 186, .ref 182, .ref 183, .ref 184, .ref 185, .ref 188] I L (some (.int 1)) I2 L2 := by
  obtain ⟨⟨n2, n5, ho, hzz⟩, ⟨h2a, h2b, h2c⟩, h3, h4, h5, h6, h7, h8⟩ := id hS
  have hB := (pow_le32 n n5).1
  refine ru_pos1 (fun V hV => ?_) (fun I2 L2 h => wL_work l rfl (fun _ x hx => by cases hx; exact Or.inr rfl) h)
  refine ru_go hV 16 [] rfl rfl trivial ?_
  rw [and1 hx, (shr_and hx).1, (shr_and hx).2]
  have ha : x % 2 < 2 := Nat.mod_lt _ (by decide)
  have hb : x / 2 % 2 < 2 := Nat.mod_lt _ (by decide)
  have ht : x / 4 % 2 < 2 := Nat.mod_lt _ (by decide)
  generalize x % 2 = a at ha ⊢
  generalize x / 2 % 2 = b at hb ⊢
  generalize x / 4 % 2 = t at ht ⊢
  refine ru_go hV 9 [(1, 0), (0, 15)] rfl rfl ⟨⟨trivial, (by decide)⟩, (by first | exact rfl | assumption | exact ⟨rfl, rfl⟩ | exact ⟨rfl, rfl, by omega⟩ | exact ⟨by assumption, rfl, by omega⟩ | exact ⟨⟨_, rfl, rfl⟩, by decide, by decide, rfl, by omega⟩ | omega | decide)⟩ ?_
  rw [h5, nI_1]
  refine ru_S hV [] sSL_71 (qL_at l (x := y) (n := n + 1) hy (by omega) (by omega) I L) rfl rfl rfl (Nat.le_of_ble_eq_true rfl) ?_
  have hgr : y / 2 % (n + 1) ≤ n := Nat.le_of_lt_succ (Nat.mod_lt _ (by omega))
  refine ru_go hV 1 [] rfl rfl trivial ?_
  generalize hw : nI (y / 2 % (n + 1)) = w
  refine ru_go hV 15 [] rfl rfl trivial ?_
  rw [show (32 : Int32) * nI a = nI (32 * a) from pk_mul 32 a, show (32 : Int32) * nI b = nI (32 * b) from pk_mul 32 b]
  obtain ⟨I3, L1, ⟨e3, r1, r2⟩, hK⟩ := qL_bring0 l (a := 32 * a) (b := 32 * b) (w := w) (by omega) (by omega) n5 h5 L
  subst e3
  have r1 : ∀ k, k < 32 → L1 182 k = gC I3 n 0 a b w k := fun k hk => by rw [r1 k hk]; exact br_gC hS ha hb (by decide) k hk
  have ghi := gC_hi (w := w) hS ha hb (show 0 < 8 by decide)
  have efar : ftO (L1 182) 32 = ftO (gC I3 n 0 a b w) (2 ^ n) := r_far n5 r1 ghi
  refine ru_S hV [] sSL_74 hK rfl rfl rfl (Nat.le_of_ble_eq_true rfl) ?_
  refine ru_go hV 1 [] rfl rfl trivial ?_
  refine ru_S hV [] sSL_78 (qL_beyond l I3 L1) rfl rfl rfl (Nat.le_of_ble_eq_true rfl) ?_
  rw [efar]
  have at163 : ∀ L2 : LM, (∀ c, 181 ≤ c → L2 c = L1 c) → V 163 [(0, .ref 0), (1, .int 0), (2, .int (nI x)), (3, .int (nI y)), (4, .ref 181), (5, .ref 186), (6, .ref 182), (7, .ref 183), (8, .ref 184), (9, .ref 185), (10, .ref 188), (11, .int (nI a)), (12, .int (nI b)), (13, .int (nI t)), (14, .int w), (15, .int (fsI (ftO (gC I3 n 0 a b w) (2 ^ n))))] [] I3 L2 := fun L2 hL2 => by
    have q181 : L2 181 = L 181 := (hL2 181 (by decide)).trans (r2 181 (by decide))
    cases hf : ftO (gC I3 n 0 a b w) (2 ^ n) with
    | some q =>
      have hq : q < 2 ^ n := (fsO_lt hf).1
      refine ru_fin hV 4 [(0, 0)] rfl rfl ⟨trivial, nI_pos (by omega)⟩ ?_
      exact ⟨rfl, o, z, hS.sc (SC.rf _) q181, id⟩
    | none =>
      have gbd := ft_bd hf
      refine ru_go hV 4 [(1, 0)] rfl rfl ⟨trivial, (by decide)⟩ ?_
      refine loop0 (P := fun k => ∀ Lx : LM, (∀ s, s < 2 → ∀ q, q < 32 → Lx 181 (32 * s + q) = if s = t ∧ q < k then gC I3 n 0 a b w q else L 181 (32 * s + q)) → (∀ c, c ≠ 181 → Lx c = L2 c) → V 173 [(0, .ref 0), (1, .int 0), (2, .int (nI x)), (3, .int (nI y)), (4, .ref 181), (5, .ref 186), (6, .ref 182), (7, .ref 183), (8, .ref 184), (9, .ref 185), (10, .ref 188), (11, .int (nI a)), (12, .int (nI b)), (13, .int (nI t)), (14, .int w), (15, .int (fsI none)), (16, .int (nI k))] [] I3 Lx) 32 (fun h => h L2 (fun s hs q hq => by rw [q181, if_neg (fun z => Nat.not_lt_zero _ z.2)]) (fun _ _ => rfl)) (fun k hk ih => ?_) ?_
      · intro Lx x1 x2
        have hs : (32 : Int32) * nI t = nI (32 * t) := pk_mul 32 t
        refine ru_go hV 15 [(0, 0), (k, 32), ((32*t+k), 64)] rfl rfl ⟨⟨⟨trivial, nI32_ge hk⟩, ⟨rfl, rfl, hk⟩⟩, ⟨rfl, by rw [hs]; exact nI_add _ _, by omega⟩⟩ ?_
        rw [nI_1, x2 182 (by decide), hL2 182 (by decide), r1 k hk]
        refine ih _ (fun s hs q hq => ?_) (fun c hc => by rw [mu_ne _ _ hc]; exact x2 c hc)
        by_cases e : 32 * s + q = 32 * t + k
        · have e1 : s = t := by omega
          have e2 : q = k := by omega
          subst e1; subst e2
          rw [mu_at, if_pos ⟨rfl, Nat.lt_succ_self q⟩]
        · rw [show ∀ v, mu Lx 181 (32 * t + k) v 181 (32 * s + q) = Lx 181 (32 * s + q) from fun v => by simp [mu, e], x1 s hs q hq]
          by_cases e1 : s = t
          · subst e1
            have : q < k + 1 ↔ q < k := by omega
            simp only [this]
          · rw [if_neg (fun z => e1 z.1), if_neg (fun z => e1 z.1)]
      · intro Lx x1 x2
        have hs : (32 : Int32) * nI t = nI (32 * t) := pk_mul 32 t
        refine ru_go hV 20 [(1, 0), ((6+0), 15), ((6+0), 15), (14, 15)] rfl rfl ⟨⟨⟨⟨trivial, (by decide)⟩, (by first | exact rfl | assumption | exact ⟨rfl, rfl⟩ | exact ⟨rfl, rfl, by omega⟩ | exact ⟨by assumption, rfl, by omega⟩ | exact ⟨⟨_, rfl, rfl⟩, by decide, by decide, rfl, by omega⟩ | omega | decide)⟩, (by first | exact rfl | assumption | exact ⟨rfl, rfl⟩ | exact ⟨rfl, rfl, by omega⟩ | exact ⟨by assumption, rfl, by omega⟩ | exact ⟨⟨_, rfl, rfl⟩, by decide, by decide, rfl, by omega⟩ | omega | decide)⟩, (by first | exact rfl | assumption | exact ⟨rfl, rfl⟩ | exact ⟨rfl, rfl, by omega⟩ | exact ⟨by assumption, rfl, by omega⟩ | exact ⟨⟨_, rfl, rfl⟩, by decide, by decide, rfl, by omega⟩ | omega | decide)⟩ ?_
        rw [hs]
        have hmany := qL_many l (c := 181) (a := 32 * t) (N := 64) rfl (by omega)
        refine ru_S hV [.int _, .int _, .ref 188] sSL_85 (hmany _ Lx) rfl rfl rfl (Nat.le_of_ble_eq_true rfl) ?_
        have c32 := cnL_le (fun q => Lx 181 (32 * t + q)) 32
        have y1 : ∀ s, s < 2 → ∀ q, q < 32 → Lx 181 (32 * s + q) = if s = t then gC I3 n 0 a b w q else L 181 (32 * s + q) := fun s hs2 q hq => by
          rw [x1 s hs2 q hq]
          by_cases e1 : s = t
          · rw [if_pos ⟨e1, hq⟩, if_pos e1]
          · rw [if_neg (fun z => e1 z.1), if_neg e1]
        have fin : ∀ (I' : IM) (Ly : LM), (∀ c, c ≠ 188 → I' c = I3 c) → (∀ k, I' 188 k = if k = 6 + 0 then I3 188 (6 + 0) + 1 else if k = 14 then (if cnL (fun q => Lx 181 (32 * t + q)) 32 = 0 then I3 188 14 + 1 else I3 188 14) else I3 188 k) → Ly = Lx → ∀ lv, lv = [(0, .ref 0), (1, .int 0), (2, .int (nI x)), (3, .int (nI y)), (4, .ref 181), (5, .ref 186), (6, .ref 182), (7, .ref 183), (8, .ref 184), (9, .ref 185), (10, .ref 188), (11, .int (nI a)), (12, .int (nI b)), (13, .int (nI t)), (14, .int w), (15, .int (fsI none)), (16, .int 32)] → V 249 lv [.int (nI t), .int w, .int (nI b), .int (nI a), .int 0, .ref 0] I' Ly := fun I' Ly hI' hc eL lv elv => by
          subst eL; subst elv
          have eg : gC I' n 0 a b w = gC I3 n 0 a b w := gC_I hI' n5 ha hb (by decide)
          obtain ⟨L4, l4, hD⟩ := qL_done0 l (a := a) (b := b) (t := t) (w := w) (by omega) (by omega) (by omega) n5 ho hzz (I := I') (by rw [hI' 1 (by decide)]; exact h2a) (by rw [hI' 19 (by decide)]; exact h2b) (by rw [hI' 19 (by decide)]; exact h2c) Ly (by rw [eg]; exact hf)
          rw [eg] at hD
          have l181 : L4 181 = Ly 181 := l4 181 (by decide)
          obtain ⟨sm, cn⟩ := sm_st (d := 0) (L4 := L4) (g := gC I3 n 0 a b w) hS ht (by decide) hI' gbd ghi (fun s hs2 q hq => by rw [l181]; exact y1 s hs2 q hq) (fun k => by rw [l181]; exact hc k)
          refine ru_S hV [] sSL_89 hD rfl rfl rfl (Nat.le_of_ble_eq_true rfl) ?_
          refine ru_go hV 4 [] rfl rfl trivial ?_
          rw [hs]
          refine ru_S hV [.int _] sSL_85 (hmany _ L4) rfl rfl rfl (Nat.le_of_ble_eq_true rfl) ?_
          rw [cn]
          refine ru_fin hV 4 [(0, 0)] rfl rfl ⟨trivial, (fun z => z rfl)⟩ ?_
          exact ⟨rfl, oN o z, zN z, sm, fun _ => (zN_le hzz).2⟩
        by_cases hc : cnL (fun q => Lx 181 (32 * t + q)) 32 = 0
        · refine ru_go hV 11 [(0, 0), (14, 15)] rfl rfl ⟨⟨trivial, (by rw [hc]; decide)⟩, (by first | exact rfl | assumption | exact ⟨rfl, rfl⟩ | exact ⟨rfl, rfl, by omega⟩ | exact ⟨by assumption, rfl, by omega⟩ | exact ⟨⟨_, rfl, rfl⟩, by decide, by decide, rfl, by omega⟩ | omega | decide)⟩ ?_
          refine fin _ _ (fun c hc => by rw [mu_ne _ _ hc, mu_ne _ _ hc]) (fun k => ?_) rfl _ rfl
          by_cases e6 : k = 6 + 0
          · subst e6
            rw [if_pos rfl]
            simp [mu]
          · rw [if_neg e6]
            by_cases e14 : k = 14
            · subst e14
              rw [if_pos rfl, if_pos hc]
              simp [mu]
            · rw [if_neg e14]
              simp [mu, e14, e6]
        · refine ru_go hV 10 [(1, 0), (14, 15)] rfl rfl ⟨⟨trivial, nI_ne0 (by omega) (by omega)⟩, (by first | exact rfl | assumption | exact ⟨rfl, rfl⟩ | exact ⟨rfl, rfl, by omega⟩ | exact ⟨by assumption, rfl, by omega⟩ | exact ⟨⟨_, rfl, rfl⟩, by decide, by decide, rfl, by omega⟩ | omega | decide)⟩ ?_
          refine fin _ _ (fun c hc => by rw [mu_ne _ _ hc, mu_ne _ _ hc]) (fun k => ?_) rfl _ rfl
          by_cases e6 : k = 6 + 0
          · subst e6
            rw [if_pos rfl]
            simp [mu]
          · rw [if_neg e6]
            by_cases e14 : k = 14
            · subst e14
              rw [if_pos rfl, if_neg hc]
              simp [mu]
            · rw [if_neg e14]
              simp [mu, e14, e6]
  obtain ⟨L2, e2, hR⟩ := qL_ref l (w := 0) (a := a) (b := b) (n := n) (by decide) (by omega) (by omega) n5 h2a L1 (x := 0) rfl (rf0 w)
  refine ru_go hV 7 [(0, 0)] rfl rfl ⟨trivial, (by decide)⟩ ?_
  refine ru_V hV [] sVL_82 hR rfl rfl rfl rfl rfl (Nat.le_of_ble_eq_true rfl) ?_
  refine ru_go hV 11 [(0, 0), (1, 0), (1, 0), (1, 0)] rfl rfl ⟨⟨⟨⟨trivial, (fun z => z rfl)⟩, (by decide)⟩, (by decide)⟩, (by decide)⟩ ?_
  exact at163 L2 e2
set_option maxRecDepth 100000 in
set_option maxHeartbeats 1000000 in
theorem qL_work1 (l : Launch) {x y : Nat} (hx : x < 2 ^ 31) (hy : y < 2 ^ 31) {I : IM} {L : LM} {n o z : Nat} (hS : Sm I L n o z) : ∃ I2 L2, (∃ o2 z2, Sm I2 L2 n o2 z2 ∧ (0 < z → 0 < z2)) ∧ KL_work l [.ref 0, .int 1, .int (nI x), .int (nI y), .ref 181, .ref 186, .ref 182, .ref 183, .ref 184, .ref 185, .ref 188] I L (some (.int 1)) I2 L2 := by
  obtain ⟨⟨n2, n5, ho, hzz⟩, ⟨h2a, h2b, h2c⟩, h3, h4, h5, h6, h7, h8⟩ := id hS
  have hB := (pow_le32 n n5).1
  refine ru_pos1 (fun V hV => ?_) (fun I2 L2 h => wL_work l rfl (fun _ x hx => by cases hx; exact Or.inr rfl) h)
  refine ru_go hV 16 [] rfl rfl trivial ?_
  rw [and1 hx, (shr_and hx).1, (shr_and hx).2]
  have ha : x % 2 < 2 := Nat.mod_lt _ (by decide)
  have hb : x / 2 % 2 < 2 := Nat.mod_lt _ (by decide)
  have ht : x / 4 % 2 < 2 := Nat.mod_lt _ (by decide)
  generalize x % 2 = a at ha ⊢
  generalize x / 2 % 2 = b at hb ⊢
  generalize x / 4 % 2 = t at ht ⊢
  refine ru_go hV 5 [(0, 0)] rfl rfl ⟨trivial, (by decide)⟩ ?_
  refine ru_S hV [] sSL_71 (qL_at l (x := y) (n := 41) hy (by decide) (by decide) I L) rfl rfl rfl (Nat.le_of_ble_eq_true rfl) ?_
  have hv := ou_20 (y / 2 % 41) (Nat.mod_lt _ (by decide))
  refine ru_go hV 4 [] rfl rfl trivial ?_
  generalize nI (y / 2 % 41) - 20 = w at hv ⊢
  refine ru_go hV 15 [] rfl rfl trivial ?_
  rw [show (32 : Int32) * nI a = nI (32 * a) from pk_mul 32 a, show (32 : Int32) * nI b = nI (32 * b) from pk_mul 32 b]
  obtain ⟨I3, L1, ⟨e3, r1, r2⟩, hK⟩ := qL_bring1 l (a := 32 * a) (b := 32 * b) (w := w) (by omega) (by omega) n5 h5 L
  subst e3
  have r1 : ∀ k, k < 32 → L1 182 k = gC I3 n 1 a b w k := fun k hk => by rw [r1 k hk]; exact br_gC hS ha hb (by decide) k hk
  have ghi := gC_hi (w := w) hS ha hb (show 1 < 8 by decide)
  have efar : ftO (L1 182) 32 = ftO (gC I3 n 1 a b w) (2 ^ n) := r_far n5 r1 ghi
  refine ru_S hV [] sSL_74 hK rfl rfl rfl (Nat.le_of_ble_eq_true rfl) ?_
  refine ru_go hV 1 [] rfl rfl trivial ?_
  refine ru_S hV [] sSL_78 (qL_beyond l I3 L1) rfl rfl rfl (Nat.le_of_ble_eq_true rfl) ?_
  rw [efar]
  have at163 : ∀ L2 : LM, (∀ c, 181 ≤ c → L2 c = L1 c) → V 163 [(0, .ref 0), (1, .int 1), (2, .int (nI x)), (3, .int (nI y)), (4, .ref 181), (5, .ref 186), (6, .ref 182), (7, .ref 183), (8, .ref 184), (9, .ref 185), (10, .ref 188), (11, .int (nI a)), (12, .int (nI b)), (13, .int (nI t)), (14, .int w), (15, .int (fsI (ftO (gC I3 n 1 a b w) (2 ^ n))))] [] I3 L2 := fun L2 hL2 => by
    have q181 : L2 181 = L 181 := (hL2 181 (by decide)).trans (r2 181 (by decide))
    cases hf : ftO (gC I3 n 1 a b w) (2 ^ n) with
    | some q =>
      have hq : q < 2 ^ n := (fsO_lt hf).1
      refine ru_fin hV 4 [(0, 0)] rfl rfl ⟨trivial, nI_pos (by omega)⟩ ?_
      exact ⟨rfl, o, z, hS.sc (SC.rf _) q181, id⟩
    | none =>
      have gbd := ft_bd hf
      refine ru_go hV 4 [(1, 0)] rfl rfl ⟨trivial, (by decide)⟩ ?_
      refine loop0 (P := fun k => ∀ Lx : LM, (∀ s, s < 2 → ∀ q, q < 32 → Lx 181 (32 * s + q) = if s = t ∧ q < k then gC I3 n 1 a b w q else L 181 (32 * s + q)) → (∀ c, c ≠ 181 → Lx c = L2 c) → V 173 [(0, .ref 0), (1, .int 1), (2, .int (nI x)), (3, .int (nI y)), (4, .ref 181), (5, .ref 186), (6, .ref 182), (7, .ref 183), (8, .ref 184), (9, .ref 185), (10, .ref 188), (11, .int (nI a)), (12, .int (nI b)), (13, .int (nI t)), (14, .int w), (15, .int (fsI none)), (16, .int (nI k))] [] I3 Lx) 32 (fun h => h L2 (fun s hs q hq => by rw [q181, if_neg (fun z => Nat.not_lt_zero _ z.2)]) (fun _ _ => rfl)) (fun k hk ih => ?_) ?_
      · intro Lx x1 x2
        have hs : (32 : Int32) * nI t = nI (32 * t) := pk_mul 32 t
        refine ru_go hV 15 [(0, 0), (k, 32), ((32*t+k), 64)] rfl rfl ⟨⟨⟨trivial, nI32_ge hk⟩, ⟨rfl, rfl, hk⟩⟩, ⟨rfl, by rw [hs]; exact nI_add _ _, by omega⟩⟩ ?_
        rw [nI_1, x2 182 (by decide), hL2 182 (by decide), r1 k hk]
        refine ih _ (fun s hs q hq => ?_) (fun c hc => by rw [mu_ne _ _ hc]; exact x2 c hc)
        by_cases e : 32 * s + q = 32 * t + k
        · have e1 : s = t := by omega
          have e2 : q = k := by omega
          subst e1; subst e2
          rw [mu_at, if_pos ⟨rfl, Nat.lt_succ_self q⟩]
        · rw [show ∀ v, mu Lx 181 (32 * t + k) v 181 (32 * s + q) = Lx 181 (32 * s + q) from fun v => by simp [mu, e], x1 s hs q hq]
          by_cases e1 : s = t
          · subst e1
            have : q < k + 1 ↔ q < k := by omega
            simp only [this]
          · rw [if_neg (fun z => e1 z.1), if_neg (fun z => e1 z.1)]
      · intro Lx x1 x2
        have hs : (32 : Int32) * nI t = nI (32 * t) := pk_mul 32 t
        refine ru_go hV 20 [(1, 0), ((6+1), 15), ((6+1), 15), (14, 15)] rfl rfl ⟨⟨⟨⟨trivial, (by decide)⟩, (by first | exact rfl | assumption | exact ⟨rfl, rfl⟩ | exact ⟨rfl, rfl, by omega⟩ | exact ⟨by assumption, rfl, by omega⟩ | exact ⟨⟨_, rfl, rfl⟩, by decide, by decide, rfl, by omega⟩ | omega | decide)⟩, (by first | exact rfl | assumption | exact ⟨rfl, rfl⟩ | exact ⟨rfl, rfl, by omega⟩ | exact ⟨by assumption, rfl, by omega⟩ | exact ⟨⟨_, rfl, rfl⟩, by decide, by decide, rfl, by omega⟩ | omega | decide)⟩, (by first | exact rfl | assumption | exact ⟨rfl, rfl⟩ | exact ⟨rfl, rfl, by omega⟩ | exact ⟨by assumption, rfl, by omega⟩ | exact ⟨⟨_, rfl, rfl⟩, by decide, by decide, rfl, by omega⟩ | omega | decide)⟩ ?_
        rw [hs]
        have hmany := qL_many l (c := 181) (a := 32 * t) (N := 64) rfl (by omega)
        refine ru_S hV [.int _, .int _, .ref 188] sSL_85 (hmany _ Lx) rfl rfl rfl (Nat.le_of_ble_eq_true rfl) ?_
        have c32 := cnL_le (fun q => Lx 181 (32 * t + q)) 32
        have y1 : ∀ s, s < 2 → ∀ q, q < 32 → Lx 181 (32 * s + q) = if s = t then gC I3 n 1 a b w q else L 181 (32 * s + q) := fun s hs2 q hq => by
          rw [x1 s hs2 q hq]
          by_cases e1 : s = t
          · rw [if_pos ⟨e1, hq⟩, if_pos e1]
          · rw [if_neg (fun z => e1 z.1), if_neg e1]
        have fin : ∀ (I' : IM) (Ly : LM), (∀ c, c ≠ 188 → I' c = I3 c) → (∀ k, I' 188 k = if k = 6 + 1 then I3 188 (6 + 1) + 1 else if k = 14 then (if cnL (fun q => Lx 181 (32 * t + q)) 32 = 0 then I3 188 14 + 1 else I3 188 14) else I3 188 k) → Ly = Lx → ∀ lv, lv = [(0, .ref 0), (1, .int 1), (2, .int (nI x)), (3, .int (nI y)), (4, .ref 181), (5, .ref 186), (6, .ref 182), (7, .ref 183), (8, .ref 184), (9, .ref 185), (10, .ref 188), (11, .int (nI a)), (12, .int (nI b)), (13, .int (nI t)), (14, .int w), (15, .int (fsI none)), (16, .int 32)] → V 249 lv [.int (nI t), .int w, .int (nI b), .int (nI a), .int 1, .ref 0] I' Ly := fun I' Ly hI' hc eL lv elv => by
          subst eL; subst elv
          have eg : gC I' n 1 a b w = gC I3 n 1 a b w := gC_I hI' n5 ha hb (by decide)
          obtain ⟨L4, l4, hD⟩ := qL_done1 l (a := a) (b := b) (t := t) (w := w) (by omega) (by omega) (by omega) n5 ho hzz (I := I') (by rw [hI' 1 (by decide)]; exact h2a) (by rw [hI' 19 (by decide)]; exact h2b) (by rw [hI' 19 (by decide)]; exact h2c) Ly hv (by rw [eg]; exact hf)
          rw [eg] at hD
          have l181 : L4 181 = Ly 181 := l4 181 (by decide)
          obtain ⟨sm, cn⟩ := sm_st (d := 1) (L4 := L4) (g := gC I3 n 1 a b w) hS ht (by decide) hI' gbd ghi (fun s hs2 q hq => by rw [l181]; exact y1 s hs2 q hq) (fun k => by rw [l181]; exact hc k)
          refine ru_S hV [] sSL_89 hD rfl rfl rfl (Nat.le_of_ble_eq_true rfl) ?_
          refine ru_go hV 4 [] rfl rfl trivial ?_
          rw [hs]
          refine ru_S hV [.int _] sSL_85 (hmany _ L4) rfl rfl rfl (Nat.le_of_ble_eq_true rfl) ?_
          rw [cn]
          refine ru_fin hV 4 [(0, 0)] rfl rfl ⟨trivial, (fun z => z rfl)⟩ ?_
          exact ⟨rfl, oN o z, zN z, sm, fun _ => (zN_le hzz).2⟩
        by_cases hc : cnL (fun q => Lx 181 (32 * t + q)) 32 = 0
        · refine ru_go hV 11 [(0, 0), (14, 15)] rfl rfl ⟨⟨trivial, (by rw [hc]; decide)⟩, (by first | exact rfl | assumption | exact ⟨rfl, rfl⟩ | exact ⟨rfl, rfl, by omega⟩ | exact ⟨by assumption, rfl, by omega⟩ | exact ⟨⟨_, rfl, rfl⟩, by decide, by decide, rfl, by omega⟩ | omega | decide)⟩ ?_
          refine fin _ _ (fun c hc => by rw [mu_ne _ _ hc, mu_ne _ _ hc]) (fun k => ?_) rfl _ rfl
          by_cases e6 : k = 6 + 1
          · subst e6
            rw [if_pos rfl]
            simp [mu]
          · rw [if_neg e6]
            by_cases e14 : k = 14
            · subst e14
              rw [if_pos rfl, if_pos hc]
              simp [mu]
            · rw [if_neg e14]
              simp [mu, e14, e6]
        · refine ru_go hV 10 [(1, 0), (14, 15)] rfl rfl ⟨⟨trivial, nI_ne0 (by omega) (by omega)⟩, (by first | exact rfl | assumption | exact ⟨rfl, rfl⟩ | exact ⟨rfl, rfl, by omega⟩ | exact ⟨by assumption, rfl, by omega⟩ | exact ⟨⟨_, rfl, rfl⟩, by decide, by decide, rfl, by omega⟩ | omega | decide)⟩ ?_
          refine fin _ _ (fun c hc => by rw [mu_ne _ _ hc, mu_ne _ _ hc]) (fun k => ?_) rfl _ rfl
          by_cases e6 : k = 6 + 1
          · subst e6
            rw [if_pos rfl]
            simp [mu]
          · rw [if_neg e6]
            by_cases e14 : k = 14
            · subst e14
              rw [if_pos rfl, if_neg hc]
              simp [mu]
            · rw [if_neg e14]
              simp [mu, e14, e6]
  refine ru_go hV 12 [(1, 0), (1, 0), (1, 0), (1, 0)] rfl rfl ⟨⟨⟨⟨trivial, (by decide)⟩, (by decide)⟩, (by decide)⟩, (by decide)⟩ ?_
  exact at163 L1 (fun _ _ => rfl)
set_option maxRecDepth 100000 in
set_option maxHeartbeats 1000000 in
theorem qL_work2 (l : Launch) {x y : Nat} (hx : x < 2 ^ 31) (hy : y < 2 ^ 31) {I : IM} {L : LM} {n o z : Nat} (hS : Sm I L n o z) : ∃ I2 L2, (∃ o2 z2, Sm I2 L2 n o2 z2 ∧ (0 < z → 0 < z2)) ∧ KL_work l [.ref 0, .int 2, .int (nI x), .int (nI y), .ref 181, .ref 186, .ref 182, .ref 183, .ref 184, .ref 185, .ref 188] I L (some (.int 1)) I2 L2 := by
  obtain ⟨⟨n2, n5, ho, hzz⟩, ⟨h2a, h2b, h2c⟩, h3, h4, h5, h6, h7, h8⟩ := id hS
  have hB := (pow_le32 n n5).1
  refine ru_pos1 (fun V hV => ?_) (fun I2 L2 h => wL_work l rfl (fun _ x hx => by cases hx; exact Or.inr rfl) h)
  refine ru_go hV 16 [] rfl rfl trivial ?_
  rw [and1 hx, (shr_and hx).1, (shr_and hx).2]
  have ha : x % 2 < 2 := Nat.mod_lt _ (by decide)
  have hb : x / 2 % 2 < 2 := Nat.mod_lt _ (by decide)
  have ht : x / 4 % 2 < 2 := Nat.mod_lt _ (by decide)
  generalize x % 2 = a at ha ⊢
  generalize x / 2 % 2 = b at hb ⊢
  generalize x / 4 % 2 = t at ht ⊢
  refine ru_go hV 9 [(1, 0), (0, 15)] rfl rfl ⟨⟨trivial, (by decide)⟩, (by first | exact rfl | assumption | exact ⟨rfl, rfl⟩ | exact ⟨rfl, rfl, by omega⟩ | exact ⟨by assumption, rfl, by omega⟩ | exact ⟨⟨_, rfl, rfl⟩, by decide, by decide, rfl, by omega⟩ | omega | decide)⟩ ?_
  rw [h5, nI_1]
  refine ru_S hV [] sSL_71 (qL_at l (x := y) (n := n + 1) hy (by omega) (by omega) I L) rfl rfl rfl (Nat.le_of_ble_eq_true rfl) ?_
  have hgr : y / 2 % (n + 1) ≤ n := Nat.le_of_lt_succ (Nat.mod_lt _ (by omega))
  refine ru_go hV 1 [] rfl rfl trivial ?_
  generalize hw : nI (y / 2 % (n + 1)) = w
  refine ru_go hV 15 [] rfl rfl trivial ?_
  rw [show (32 : Int32) * nI a = nI (32 * a) from pk_mul 32 a, show (32 : Int32) * nI b = nI (32 * b) from pk_mul 32 b]
  obtain ⟨I3, L1, ⟨e3, r1, r2⟩, hK⟩ := qL_bring2 l (a := 32 * a) (b := 32 * b) (w := w) (by omega) (by omega) n5 h5 L
  subst e3
  have r1 : ∀ k, k < 32 → L1 182 k = gC I3 n 2 a b w k := fun k hk => by rw [r1 k hk]; exact br_gC hS ha hb (by decide) k hk
  have ghi := gC_hi (w := w) hS ha hb (show 2 < 8 by decide)
  have efar : ftO (L1 182) 32 = ftO (gC I3 n 2 a b w) (2 ^ n) := r_far n5 r1 ghi
  refine ru_S hV [] sSL_74 hK rfl rfl rfl (Nat.le_of_ble_eq_true rfl) ?_
  refine ru_go hV 1 [] rfl rfl trivial ?_
  refine ru_S hV [] sSL_78 (qL_beyond l I3 L1) rfl rfl rfl (Nat.le_of_ble_eq_true rfl) ?_
  rw [efar]
  have at163 : ∀ L2 : LM, (∀ c, 181 ≤ c → L2 c = L1 c) → V 163 [(0, .ref 0), (1, .int 2), (2, .int (nI x)), (3, .int (nI y)), (4, .ref 181), (5, .ref 186), (6, .ref 182), (7, .ref 183), (8, .ref 184), (9, .ref 185), (10, .ref 188), (11, .int (nI a)), (12, .int (nI b)), (13, .int (nI t)), (14, .int w), (15, .int (fsI (ftO (gC I3 n 2 a b w) (2 ^ n))))] [] I3 L2 := fun L2 hL2 => by
    have q181 : L2 181 = L 181 := (hL2 181 (by decide)).trans (r2 181 (by decide))
    cases hf : ftO (gC I3 n 2 a b w) (2 ^ n) with
    | some q =>
      have hq : q < 2 ^ n := (fsO_lt hf).1
      refine ru_fin hV 4 [(0, 0)] rfl rfl ⟨trivial, nI_pos (by omega)⟩ ?_
      exact ⟨rfl, o, z, hS.sc (SC.rf _) q181, id⟩
    | none =>
      have gbd := ft_bd hf
      refine ru_go hV 4 [(1, 0)] rfl rfl ⟨trivial, (by decide)⟩ ?_
      refine loop0 (P := fun k => ∀ Lx : LM, (∀ s, s < 2 → ∀ q, q < 32 → Lx 181 (32 * s + q) = if s = t ∧ q < k then gC I3 n 2 a b w q else L 181 (32 * s + q)) → (∀ c, c ≠ 181 → Lx c = L2 c) → V 173 [(0, .ref 0), (1, .int 2), (2, .int (nI x)), (3, .int (nI y)), (4, .ref 181), (5, .ref 186), (6, .ref 182), (7, .ref 183), (8, .ref 184), (9, .ref 185), (10, .ref 188), (11, .int (nI a)), (12, .int (nI b)), (13, .int (nI t)), (14, .int w), (15, .int (fsI none)), (16, .int (nI k))] [] I3 Lx) 32 (fun h => h L2 (fun s hs q hq => by rw [q181, if_neg (fun z => Nat.not_lt_zero _ z.2)]) (fun _ _ => rfl)) (fun k hk ih => ?_) ?_
      · intro Lx x1 x2
        have hs : (32 : Int32) * nI t = nI (32 * t) := pk_mul 32 t
        refine ru_go hV 15 [(0, 0), (k, 32), ((32*t+k), 64)] rfl rfl ⟨⟨⟨trivial, nI32_ge hk⟩, ⟨rfl, rfl, hk⟩⟩, ⟨rfl, by rw [hs]; exact nI_add _ _, by omega⟩⟩ ?_
        rw [nI_1, x2 182 (by decide), hL2 182 (by decide), r1 k hk]
        refine ih _ (fun s hs q hq => ?_) (fun c hc => by rw [mu_ne _ _ hc]; exact x2 c hc)
        by_cases e : 32 * s + q = 32 * t + k
        · have e1 : s = t := by omega
          have e2 : q = k := by omega
          subst e1; subst e2
          rw [mu_at, if_pos ⟨rfl, Nat.lt_succ_self q⟩]
        · rw [show ∀ v, mu Lx 181 (32 * t + k) v 181 (32 * s + q) = Lx 181 (32 * s + q) from fun v => by simp [mu, e], x1 s hs q hq]
          by_cases e1 : s = t
          · subst e1
            have : q < k + 1 ↔ q < k := by omega
            simp only [this]
          · rw [if_neg (fun z => e1 z.1), if_neg (fun z => e1 z.1)]
      · intro Lx x1 x2
        have hs : (32 : Int32) * nI t = nI (32 * t) := pk_mul 32 t
        refine ru_go hV 20 [(1, 0), ((6+2), 15), ((6+2), 15), (14, 15)] rfl rfl ⟨⟨⟨⟨trivial, (by decide)⟩, (by first | exact rfl | assumption | exact ⟨rfl, rfl⟩ | exact ⟨rfl, rfl, by omega⟩ | exact ⟨by assumption, rfl, by omega⟩ | exact ⟨⟨_, rfl, rfl⟩, by decide, by decide, rfl, by omega⟩ | omega | decide)⟩, (by first | exact rfl | assumption | exact ⟨rfl, rfl⟩ | exact ⟨rfl, rfl, by omega⟩ | exact ⟨by assumption, rfl, by omega⟩ | exact ⟨⟨_, rfl, rfl⟩, by decide, by decide, rfl, by omega⟩ | omega | decide)⟩, (by first | exact rfl | assumption | exact ⟨rfl, rfl⟩ | exact ⟨rfl, rfl, by omega⟩ | exact ⟨by assumption, rfl, by omega⟩ | exact ⟨⟨_, rfl, rfl⟩, by decide, by decide, rfl, by omega⟩ | omega | decide)⟩ ?_
        rw [hs]
        have hmany := qL_many l (c := 181) (a := 32 * t) (N := 64) rfl (by omega)
        refine ru_S hV [.int _, .int _, .ref 188] sSL_85 (hmany _ Lx) rfl rfl rfl (Nat.le_of_ble_eq_true rfl) ?_
        have c32 := cnL_le (fun q => Lx 181 (32 * t + q)) 32
        have y1 : ∀ s, s < 2 → ∀ q, q < 32 → Lx 181 (32 * s + q) = if s = t then gC I3 n 2 a b w q else L 181 (32 * s + q) := fun s hs2 q hq => by
          rw [x1 s hs2 q hq]
          by_cases e1 : s = t
          · rw [if_pos ⟨e1, hq⟩, if_pos e1]
          · rw [if_neg (fun z => e1 z.1), if_neg e1]
        have fin : ∀ (I' : IM) (Ly : LM), (∀ c, c ≠ 188 → I' c = I3 c) → (∀ k, I' 188 k = if k = 6 + 2 then I3 188 (6 + 2) + 1 else if k = 14 then (if cnL (fun q => Lx 181 (32 * t + q)) 32 = 0 then I3 188 14 + 1 else I3 188 14) else I3 188 k) → Ly = Lx → ∀ lv, lv = [(0, .ref 0), (1, .int 2), (2, .int (nI x)), (3, .int (nI y)), (4, .ref 181), (5, .ref 186), (6, .ref 182), (7, .ref 183), (8, .ref 184), (9, .ref 185), (10, .ref 188), (11, .int (nI a)), (12, .int (nI b)), (13, .int (nI t)), (14, .int w), (15, .int (fsI none)), (16, .int 32)] → V 249 lv [.int (nI t), .int w, .int (nI b), .int (nI a), .int 2, .ref 0] I' Ly := fun I' Ly hI' hc eL lv elv => by
          subst eL; subst elv
          have eg : gC I' n 2 a b w = gC I3 n 2 a b w := gC_I hI' n5 ha hb (by decide)
          obtain ⟨L4, l4, hD⟩ := qL_done2 l (a := a) (b := b) (t := t) (w := w) (by omega) (by omega) (by omega) n5 ho hzz (I := I') (by rw [hI' 1 (by decide)]; exact h2a) (by rw [hI' 19 (by decide)]; exact h2b) (by rw [hI' 19 (by decide)]; exact h2c) Ly (by rw [eg]; exact hf)
          rw [eg] at hD
          have l181 : L4 181 = Ly 181 := l4 181 (by decide)
          obtain ⟨sm, cn⟩ := sm_st (d := 2) (L4 := L4) (g := gC I3 n 2 a b w) hS ht (by decide) hI' gbd ghi (fun s hs2 q hq => by rw [l181]; exact y1 s hs2 q hq) (fun k => by rw [l181]; exact hc k)
          refine ru_S hV [] sSL_89 hD rfl rfl rfl (Nat.le_of_ble_eq_true rfl) ?_
          refine ru_go hV 4 [] rfl rfl trivial ?_
          rw [hs]
          refine ru_S hV [.int _] sSL_85 (hmany _ L4) rfl rfl rfl (Nat.le_of_ble_eq_true rfl) ?_
          rw [cn]
          refine ru_fin hV 4 [(0, 0)] rfl rfl ⟨trivial, (fun z => z rfl)⟩ ?_
          exact ⟨rfl, oN o z, zN z, sm, fun _ => (zN_le hzz).2⟩
        by_cases hc : cnL (fun q => Lx 181 (32 * t + q)) 32 = 0
        · refine ru_go hV 11 [(0, 0), (14, 15)] rfl rfl ⟨⟨trivial, (by rw [hc]; decide)⟩, (by first | exact rfl | assumption | exact ⟨rfl, rfl⟩ | exact ⟨rfl, rfl, by omega⟩ | exact ⟨by assumption, rfl, by omega⟩ | exact ⟨⟨_, rfl, rfl⟩, by decide, by decide, rfl, by omega⟩ | omega | decide)⟩ ?_
          refine fin _ _ (fun c hc => by rw [mu_ne _ _ hc, mu_ne _ _ hc]) (fun k => ?_) rfl _ rfl
          by_cases e6 : k = 6 + 2
          · subst e6
            rw [if_pos rfl]
            simp [mu]
          · rw [if_neg e6]
            by_cases e14 : k = 14
            · subst e14
              rw [if_pos rfl, if_pos hc]
              simp [mu]
            · rw [if_neg e14]
              simp [mu, e14, e6]
        · refine ru_go hV 10 [(1, 0), (14, 15)] rfl rfl ⟨⟨trivial, nI_ne0 (by omega) (by omega)⟩, (by first | exact rfl | assumption | exact ⟨rfl, rfl⟩ | exact ⟨rfl, rfl, by omega⟩ | exact ⟨by assumption, rfl, by omega⟩ | exact ⟨⟨_, rfl, rfl⟩, by decide, by decide, rfl, by omega⟩ | omega | decide)⟩ ?_
          refine fin _ _ (fun c hc => by rw [mu_ne _ _ hc, mu_ne _ _ hc]) (fun k => ?_) rfl _ rfl
          by_cases e6 : k = 6 + 2
          · subst e6
            rw [if_pos rfl]
            simp [mu]
          · rw [if_neg e6]
            by_cases e14 : k = 14
            · subst e14
              rw [if_pos rfl, if_neg hc]
              simp [mu]
            · rw [if_neg e14]
              simp [mu, e14, e6]
  obtain ⟨L2, e2, hR⟩ := qL_ref l (w := 1) (a := a) (b := b) (n := n) (by decide) (by omega) (by omega) n5 h2a L1 (x := 1) rfl (rf1 w)
  refine ru_go hV 10 [(1, 0), (0, 0)] rfl rfl ⟨⟨trivial, (by decide)⟩, (by decide)⟩ ?_
  refine ru_V hV [] sVL_82 hR rfl rfl rfl rfl rfl (Nat.le_of_ble_eq_true rfl) ?_
  refine ru_go hV 8 [(0, 0), (1, 0), (1, 0)] rfl rfl ⟨⟨⟨trivial, (fun z => z rfl)⟩, (by decide)⟩, (by decide)⟩ ?_
  exact at163 L2 e2
set_option maxRecDepth 100000 in
set_option maxHeartbeats 1000000 in
theorem qL_work3 (l : Launch) {x y : Nat} (hx : x < 2 ^ 31) (hy : y < 2 ^ 31) {I : IM} {L : LM} {n o z : Nat} (hS : Sm I L n o z) : ∃ I2 L2, (∃ o2 z2, Sm I2 L2 n o2 z2 ∧ (0 < z → 0 < z2)) ∧ KL_work l [.ref 0, .int 3, .int (nI x), .int (nI y), .ref 181, .ref 186, .ref 182, .ref 183, .ref 184, .ref 185, .ref 188] I L (some (.int 1)) I2 L2 := by
  obtain ⟨⟨n2, n5, ho, hzz⟩, ⟨h2a, h2b, h2c⟩, h3, h4, h5, h6, h7, h8⟩ := id hS
  have hB := (pow_le32 n n5).1
  refine ru_pos1 (fun V hV => ?_) (fun I2 L2 h => wL_work l rfl (fun _ x hx => by cases hx; exact Or.inr rfl) h)
  refine ru_go hV 16 [] rfl rfl trivial ?_
  rw [and1 hx, (shr_and hx).1, (shr_and hx).2]
  have ha : x % 2 < 2 := Nat.mod_lt _ (by decide)
  have hb : x / 2 % 2 < 2 := Nat.mod_lt _ (by decide)
  have ht : x / 4 % 2 < 2 := Nat.mod_lt _ (by decide)
  generalize x % 2 = a at ha ⊢
  generalize x / 2 % 2 = b at hb ⊢
  generalize x / 4 % 2 = t at ht ⊢
  refine ru_go hV 9 [(1, 0), (0, 15)] rfl rfl ⟨⟨trivial, (by decide)⟩, (by first | exact rfl | assumption | exact ⟨rfl, rfl⟩ | exact ⟨rfl, rfl, by omega⟩ | exact ⟨by assumption, rfl, by omega⟩ | exact ⟨⟨_, rfl, rfl⟩, by decide, by decide, rfl, by omega⟩ | omega | decide)⟩ ?_
  rw [h5, nI_1]
  refine ru_S hV [] sSL_71 (qL_at l (x := y) (n := n + 1) hy (by omega) (by omega) I L) rfl rfl rfl (Nat.le_of_ble_eq_true rfl) ?_
  have hgr : y / 2 % (n + 1) ≤ n := Nat.le_of_lt_succ (Nat.mod_lt _ (by omega))
  refine ru_go hV 1 [] rfl rfl trivial ?_
  generalize hw : nI (y / 2 % (n + 1)) = w
  refine ru_go hV 15 [] rfl rfl trivial ?_
  rw [show (32 : Int32) * nI a = nI (32 * a) from pk_mul 32 a, show (32 : Int32) * nI b = nI (32 * b) from pk_mul 32 b]
  obtain ⟨I3, L1, ⟨e3, r1, r2⟩, hK⟩ := qL_bring3 l (a := 32 * a) (b := 32 * b) (w := w) (by omega) (by omega) n5 h5 L
  subst e3
  have r1 : ∀ k, k < 32 → L1 182 k = gC I3 n 3 a b w k := fun k hk => by rw [r1 k hk]; exact br_gC hS ha hb (by decide) k hk
  have ghi := gC_hi (w := w) hS ha hb (show 3 < 8 by decide)
  have efar : ftO (L1 182) 32 = ftO (gC I3 n 3 a b w) (2 ^ n) := r_far n5 r1 ghi
  refine ru_S hV [] sSL_74 hK rfl rfl rfl (Nat.le_of_ble_eq_true rfl) ?_
  refine ru_go hV 1 [] rfl rfl trivial ?_
  refine ru_S hV [] sSL_78 (qL_beyond l I3 L1) rfl rfl rfl (Nat.le_of_ble_eq_true rfl) ?_
  rw [efar]
  have at163 : ∀ L2 : LM, (∀ c, 181 ≤ c → L2 c = L1 c) → V 163 [(0, .ref 0), (1, .int 3), (2, .int (nI x)), (3, .int (nI y)), (4, .ref 181), (5, .ref 186), (6, .ref 182), (7, .ref 183), (8, .ref 184), (9, .ref 185), (10, .ref 188), (11, .int (nI a)), (12, .int (nI b)), (13, .int (nI t)), (14, .int w), (15, .int (fsI (ftO (gC I3 n 3 a b w) (2 ^ n))))] [] I3 L2 := fun L2 hL2 => by
    have q181 : L2 181 = L 181 := (hL2 181 (by decide)).trans (r2 181 (by decide))
    cases hf : ftO (gC I3 n 3 a b w) (2 ^ n) with
    | some q =>
      have hq : q < 2 ^ n := (fsO_lt hf).1
      refine ru_fin hV 4 [(0, 0)] rfl rfl ⟨trivial, nI_pos (by omega)⟩ ?_
      exact ⟨rfl, o, z, hS.sc (SC.rf _) q181, id⟩
    | none =>
      have gbd := ft_bd hf
      refine ru_go hV 4 [(1, 0)] rfl rfl ⟨trivial, (by decide)⟩ ?_
      refine loop0 (P := fun k => ∀ Lx : LM, (∀ s, s < 2 → ∀ q, q < 32 → Lx 181 (32 * s + q) = if s = t ∧ q < k then gC I3 n 3 a b w q else L 181 (32 * s + q)) → (∀ c, c ≠ 181 → Lx c = L2 c) → V 173 [(0, .ref 0), (1, .int 3), (2, .int (nI x)), (3, .int (nI y)), (4, .ref 181), (5, .ref 186), (6, .ref 182), (7, .ref 183), (8, .ref 184), (9, .ref 185), (10, .ref 188), (11, .int (nI a)), (12, .int (nI b)), (13, .int (nI t)), (14, .int w), (15, .int (fsI none)), (16, .int (nI k))] [] I3 Lx) 32 (fun h => h L2 (fun s hs q hq => by rw [q181, if_neg (fun z => Nat.not_lt_zero _ z.2)]) (fun _ _ => rfl)) (fun k hk ih => ?_) ?_
      · intro Lx x1 x2
        have hs : (32 : Int32) * nI t = nI (32 * t) := pk_mul 32 t
        refine ru_go hV 15 [(0, 0), (k, 32), ((32*t+k), 64)] rfl rfl ⟨⟨⟨trivial, nI32_ge hk⟩, ⟨rfl, rfl, hk⟩⟩, ⟨rfl, by rw [hs]; exact nI_add _ _, by omega⟩⟩ ?_
        rw [nI_1, x2 182 (by decide), hL2 182 (by decide), r1 k hk]
        refine ih _ (fun s hs q hq => ?_) (fun c hc => by rw [mu_ne _ _ hc]; exact x2 c hc)
        by_cases e : 32 * s + q = 32 * t + k
        · have e1 : s = t := by omega
          have e2 : q = k := by omega
          subst e1; subst e2
          rw [mu_at, if_pos ⟨rfl, Nat.lt_succ_self q⟩]
        · rw [show ∀ v, mu Lx 181 (32 * t + k) v 181 (32 * s + q) = Lx 181 (32 * s + q) from fun v => by simp [mu, e], x1 s hs q hq]
          by_cases e1 : s = t
          · subst e1
            have : q < k + 1 ↔ q < k := by omega
            simp only [this]
          · rw [if_neg (fun z => e1 z.1), if_neg (fun z => e1 z.1)]
      · intro Lx x1 x2
        have hs : (32 : Int32) * nI t = nI (32 * t) := pk_mul 32 t
        refine ru_go hV 20 [(1, 0), ((6+3), 15), ((6+3), 15), (14, 15)] rfl rfl ⟨⟨⟨⟨trivial, (by decide)⟩, (by first | exact rfl | assumption | exact ⟨rfl, rfl⟩ | exact ⟨rfl, rfl, by omega⟩ | exact ⟨by assumption, rfl, by omega⟩ | exact ⟨⟨_, rfl, rfl⟩, by decide, by decide, rfl, by omega⟩ | omega | decide)⟩, (by first | exact rfl | assumption | exact ⟨rfl, rfl⟩ | exact ⟨rfl, rfl, by omega⟩ | exact ⟨by assumption, rfl, by omega⟩ | exact ⟨⟨_, rfl, rfl⟩, by decide, by decide, rfl, by omega⟩ | omega | decide)⟩, (by first | exact rfl | assumption | exact ⟨rfl, rfl⟩ | exact ⟨rfl, rfl, by omega⟩ | exact ⟨by assumption, rfl, by omega⟩ | exact ⟨⟨_, rfl, rfl⟩, by decide, by decide, rfl, by omega⟩ | omega | decide)⟩ ?_
        rw [hs]
        have hmany := qL_many l (c := 181) (a := 32 * t) (N := 64) rfl (by omega)
        refine ru_S hV [.int _, .int _, .ref 188] sSL_85 (hmany _ Lx) rfl rfl rfl (Nat.le_of_ble_eq_true rfl) ?_
        have c32 := cnL_le (fun q => Lx 181 (32 * t + q)) 32
        have y1 : ∀ s, s < 2 → ∀ q, q < 32 → Lx 181 (32 * s + q) = if s = t then gC I3 n 3 a b w q else L 181 (32 * s + q) := fun s hs2 q hq => by
          rw [x1 s hs2 q hq]
          by_cases e1 : s = t
          · rw [if_pos ⟨e1, hq⟩, if_pos e1]
          · rw [if_neg (fun z => e1 z.1), if_neg e1]
        have fin : ∀ (I' : IM) (Ly : LM), (∀ c, c ≠ 188 → I' c = I3 c) → (∀ k, I' 188 k = if k = 6 + 3 then I3 188 (6 + 3) + 1 else if k = 14 then (if cnL (fun q => Lx 181 (32 * t + q)) 32 = 0 then I3 188 14 + 1 else I3 188 14) else I3 188 k) → Ly = Lx → ∀ lv, lv = [(0, .ref 0), (1, .int 3), (2, .int (nI x)), (3, .int (nI y)), (4, .ref 181), (5, .ref 186), (6, .ref 182), (7, .ref 183), (8, .ref 184), (9, .ref 185), (10, .ref 188), (11, .int (nI a)), (12, .int (nI b)), (13, .int (nI t)), (14, .int w), (15, .int (fsI none)), (16, .int 32)] → V 249 lv [.int (nI t), .int w, .int (nI b), .int (nI a), .int 3, .ref 0] I' Ly := fun I' Ly hI' hc eL lv elv => by
          subst eL; subst elv
          have eg : gC I' n 3 a b w = gC I3 n 3 a b w := gC_I hI' n5 ha hb (by decide)
          obtain ⟨L4, l4, hD⟩ := qL_done3 l (a := a) (b := b) (t := t) (w := w) (by omega) (by omega) (by omega) n5 ho hzz (I := I') (by rw [hI' 1 (by decide)]; exact h2a) (by rw [hI' 19 (by decide)]; exact h2b) (by rw [hI' 19 (by decide)]; exact h2c) Ly (by rw [eg]; exact hf)
          rw [eg] at hD
          have l181 : L4 181 = Ly 181 := l4 181 (by decide)
          obtain ⟨sm, cn⟩ := sm_st (d := 3) (L4 := L4) (g := gC I3 n 3 a b w) hS ht (by decide) hI' gbd ghi (fun s hs2 q hq => by rw [l181]; exact y1 s hs2 q hq) (fun k => by rw [l181]; exact hc k)
          refine ru_S hV [] sSL_89 hD rfl rfl rfl (Nat.le_of_ble_eq_true rfl) ?_
          refine ru_go hV 4 [] rfl rfl trivial ?_
          rw [hs]
          refine ru_S hV [.int _] sSL_85 (hmany _ L4) rfl rfl rfl (Nat.le_of_ble_eq_true rfl) ?_
          rw [cn]
          refine ru_fin hV 4 [(0, 0)] rfl rfl ⟨trivial, (fun z => z rfl)⟩ ?_
          exact ⟨rfl, oN o z, zN z, sm, fun _ => (zN_le hzz).2⟩
        by_cases hc : cnL (fun q => Lx 181 (32 * t + q)) 32 = 0
        · refine ru_go hV 11 [(0, 0), (14, 15)] rfl rfl ⟨⟨trivial, (by rw [hc]; decide)⟩, (by first | exact rfl | assumption | exact ⟨rfl, rfl⟩ | exact ⟨rfl, rfl, by omega⟩ | exact ⟨by assumption, rfl, by omega⟩ | exact ⟨⟨_, rfl, rfl⟩, by decide, by decide, rfl, by omega⟩ | omega | decide)⟩ ?_
          refine fin _ _ (fun c hc => by rw [mu_ne _ _ hc, mu_ne _ _ hc]) (fun k => ?_) rfl _ rfl
          by_cases e6 : k = 6 + 3
          · subst e6
            rw [if_pos rfl]
            simp [mu]
          · rw [if_neg e6]
            by_cases e14 : k = 14
            · subst e14
              rw [if_pos rfl, if_pos hc]
              simp [mu]
            · rw [if_neg e14]
              simp [mu, e14, e6]
        · refine ru_go hV 10 [(1, 0), (14, 15)] rfl rfl ⟨⟨trivial, nI_ne0 (by omega) (by omega)⟩, (by first | exact rfl | assumption | exact ⟨rfl, rfl⟩ | exact ⟨rfl, rfl, by omega⟩ | exact ⟨by assumption, rfl, by omega⟩ | exact ⟨⟨_, rfl, rfl⟩, by decide, by decide, rfl, by omega⟩ | omega | decide)⟩ ?_
          refine fin _ _ (fun c hc => by rw [mu_ne _ _ hc, mu_ne _ _ hc]) (fun k => ?_) rfl _ rfl
          by_cases e6 : k = 6 + 3
          · subst e6
            rw [if_pos rfl]
            simp [mu]
          · rw [if_neg e6]
            by_cases e14 : k = 14
            · subst e14
              rw [if_pos rfl, if_neg hc]
              simp [mu]
            · rw [if_neg e14]
              simp [mu, e14, e6]
  obtain ⟨L2, e2, hR⟩ := qL_ref l (w := 2) (a := a) (b := b) (n := n) (by decide) (by omega) (by omega) n5 h2a L1 (x := 2) rfl (rf2 w)
  refine ru_go hV 13 [(1, 0), (1, 0), (0, 0)] rfl rfl ⟨⟨⟨trivial, (by decide)⟩, (by decide)⟩, (by decide)⟩ ?_
  refine ru_V hV [] sVL_82 hR rfl rfl rfl rfl rfl (Nat.le_of_ble_eq_true rfl) ?_
  refine ru_go hV 5 [(0, 0), (1, 0)] rfl rfl ⟨⟨trivial, (fun z => z rfl)⟩, (by decide)⟩ ?_
  exact at163 L2 e2
set_option maxRecDepth 100000 in
set_option maxHeartbeats 1000000 in
theorem qL_work4 (l : Launch) {x y : Nat} (hx : x < 2 ^ 31) (hy : y < 2 ^ 31) {I : IM} {L : LM} {n o z : Nat} (hS : Sm I L n o z) : ∃ I2 L2, (∃ o2 z2, Sm I2 L2 n o2 z2 ∧ (0 < z → 0 < z2)) ∧ KL_work l [.ref 0, .int 4, .int (nI x), .int (nI y), .ref 181, .ref 186, .ref 182, .ref 183, .ref 184, .ref 185, .ref 188] I L (some (.int 1)) I2 L2 := by
  obtain ⟨⟨n2, n5, ho, hzz⟩, ⟨h2a, h2b, h2c⟩, h3, h4, h5, h6, h7, h8⟩ := id hS
  have hB := (pow_le32 n n5).1
  refine ru_pos1 (fun V hV => ?_) (fun I2 L2 h => wL_work l rfl (fun _ x hx => by cases hx; exact Or.inr rfl) h)
  refine ru_go hV 16 [] rfl rfl trivial ?_
  rw [and1 hx, (shr_and hx).1, (shr_and hx).2]
  have ha : x % 2 < 2 := Nat.mod_lt _ (by decide)
  have hb : x / 2 % 2 < 2 := Nat.mod_lt _ (by decide)
  have ht : x / 4 % 2 < 2 := Nat.mod_lt _ (by decide)
  generalize x % 2 = a at ha ⊢
  generalize x / 2 % 2 = b at hb ⊢
  generalize x / 4 % 2 = t at ht ⊢
  refine ru_go hV 9 [(1, 0), (0, 15)] rfl rfl ⟨⟨trivial, (by decide)⟩, (by first | exact rfl | assumption | exact ⟨rfl, rfl⟩ | exact ⟨rfl, rfl, by omega⟩ | exact ⟨by assumption, rfl, by omega⟩ | exact ⟨⟨_, rfl, rfl⟩, by decide, by decide, rfl, by omega⟩ | omega | decide)⟩ ?_
  rw [h5, nI_1]
  refine ru_S hV [] sSL_71 (qL_at l (x := y) (n := n + 1) hy (by omega) (by omega) I L) rfl rfl rfl (Nat.le_of_ble_eq_true rfl) ?_
  have hgr : y / 2 % (n + 1) ≤ n := Nat.le_of_lt_succ (Nat.mod_lt _ (by omega))
  refine ru_go hV 1 [] rfl rfl trivial ?_
  generalize hw : nI (y / 2 % (n + 1)) = w
  refine ru_go hV 15 [] rfl rfl trivial ?_
  rw [show (32 : Int32) * nI a = nI (32 * a) from pk_mul 32 a, show (32 : Int32) * nI b = nI (32 * b) from pk_mul 32 b]
  obtain ⟨I3, L1, ⟨e3, r1, r2⟩, hK⟩ := qL_bring4 l (a := 32 * a) (b := 32 * b) (w := w) (by omega) (by omega) n5 h5 L
  subst e3
  have r1 : ∀ k, k < 32 → L1 182 k = gC I3 n 4 a b w k := fun k hk => by rw [r1 k hk]; exact br_gC hS ha hb (by decide) k hk
  have ghi := gC_hi (w := w) hS ha hb (show 4 < 8 by decide)
  have efar : ftO (L1 182) 32 = ftO (gC I3 n 4 a b w) (2 ^ n) := r_far n5 r1 ghi
  refine ru_S hV [] sSL_74 hK rfl rfl rfl (Nat.le_of_ble_eq_true rfl) ?_
  refine ru_go hV 1 [] rfl rfl trivial ?_
  refine ru_S hV [] sSL_78 (qL_beyond l I3 L1) rfl rfl rfl (Nat.le_of_ble_eq_true rfl) ?_
  rw [efar]
  have at163 : ∀ L2 : LM, (∀ c, 181 ≤ c → L2 c = L1 c) → V 163 [(0, .ref 0), (1, .int 4), (2, .int (nI x)), (3, .int (nI y)), (4, .ref 181), (5, .ref 186), (6, .ref 182), (7, .ref 183), (8, .ref 184), (9, .ref 185), (10, .ref 188), (11, .int (nI a)), (12, .int (nI b)), (13, .int (nI t)), (14, .int w), (15, .int (fsI (ftO (gC I3 n 4 a b w) (2 ^ n))))] [] I3 L2 := fun L2 hL2 => by
    have q181 : L2 181 = L 181 := (hL2 181 (by decide)).trans (r2 181 (by decide))
    cases hf : ftO (gC I3 n 4 a b w) (2 ^ n) with
    | some q =>
      have hq : q < 2 ^ n := (fsO_lt hf).1
      refine ru_fin hV 4 [(0, 0)] rfl rfl ⟨trivial, nI_pos (by omega)⟩ ?_
      exact ⟨rfl, o, z, hS.sc (SC.rf _) q181, id⟩
    | none =>
      have gbd := ft_bd hf
      refine ru_go hV 4 [(1, 0)] rfl rfl ⟨trivial, (by decide)⟩ ?_
      refine loop0 (P := fun k => ∀ Lx : LM, (∀ s, s < 2 → ∀ q, q < 32 → Lx 181 (32 * s + q) = if s = t ∧ q < k then gC I3 n 4 a b w q else L 181 (32 * s + q)) → (∀ c, c ≠ 181 → Lx c = L2 c) → V 173 [(0, .ref 0), (1, .int 4), (2, .int (nI x)), (3, .int (nI y)), (4, .ref 181), (5, .ref 186), (6, .ref 182), (7, .ref 183), (8, .ref 184), (9, .ref 185), (10, .ref 188), (11, .int (nI a)), (12, .int (nI b)), (13, .int (nI t)), (14, .int w), (15, .int (fsI none)), (16, .int (nI k))] [] I3 Lx) 32 (fun h => h L2 (fun s hs q hq => by rw [q181, if_neg (fun z => Nat.not_lt_zero _ z.2)]) (fun _ _ => rfl)) (fun k hk ih => ?_) ?_
      · intro Lx x1 x2
        have hs : (32 : Int32) * nI t = nI (32 * t) := pk_mul 32 t
        refine ru_go hV 15 [(0, 0), (k, 32), ((32*t+k), 64)] rfl rfl ⟨⟨⟨trivial, nI32_ge hk⟩, ⟨rfl, rfl, hk⟩⟩, ⟨rfl, by rw [hs]; exact nI_add _ _, by omega⟩⟩ ?_
        rw [nI_1, x2 182 (by decide), hL2 182 (by decide), r1 k hk]
        refine ih _ (fun s hs q hq => ?_) (fun c hc => by rw [mu_ne _ _ hc]; exact x2 c hc)
        by_cases e : 32 * s + q = 32 * t + k
        · have e1 : s = t := by omega
          have e2 : q = k := by omega
          subst e1; subst e2
          rw [mu_at, if_pos ⟨rfl, Nat.lt_succ_self q⟩]
        · rw [show ∀ v, mu Lx 181 (32 * t + k) v 181 (32 * s + q) = Lx 181 (32 * s + q) from fun v => by simp [mu, e], x1 s hs q hq]
          by_cases e1 : s = t
          · subst e1
            have : q < k + 1 ↔ q < k := by omega
            simp only [this]
          · rw [if_neg (fun z => e1 z.1), if_neg (fun z => e1 z.1)]
      · intro Lx x1 x2
        have hs : (32 : Int32) * nI t = nI (32 * t) := pk_mul 32 t
        refine ru_go hV 20 [(1, 0), ((6+4), 15), ((6+4), 15), (14, 15)] rfl rfl ⟨⟨⟨⟨trivial, (by decide)⟩, (by first | exact rfl | assumption | exact ⟨rfl, rfl⟩ | exact ⟨rfl, rfl, by omega⟩ | exact ⟨by assumption, rfl, by omega⟩ | exact ⟨⟨_, rfl, rfl⟩, by decide, by decide, rfl, by omega⟩ | omega | decide)⟩, (by first | exact rfl | assumption | exact ⟨rfl, rfl⟩ | exact ⟨rfl, rfl, by omega⟩ | exact ⟨by assumption, rfl, by omega⟩ | exact ⟨⟨_, rfl, rfl⟩, by decide, by decide, rfl, by omega⟩ | omega | decide)⟩, (by first | exact rfl | assumption | exact ⟨rfl, rfl⟩ | exact ⟨rfl, rfl, by omega⟩ | exact ⟨by assumption, rfl, by omega⟩ | exact ⟨⟨_, rfl, rfl⟩, by decide, by decide, rfl, by omega⟩ | omega | decide)⟩ ?_
        rw [hs]
        have hmany := qL_many l (c := 181) (a := 32 * t) (N := 64) rfl (by omega)
        refine ru_S hV [.int _, .int _, .ref 188] sSL_85 (hmany _ Lx) rfl rfl rfl (Nat.le_of_ble_eq_true rfl) ?_
        have c32 := cnL_le (fun q => Lx 181 (32 * t + q)) 32
        have y1 : ∀ s, s < 2 → ∀ q, q < 32 → Lx 181 (32 * s + q) = if s = t then gC I3 n 4 a b w q else L 181 (32 * s + q) := fun s hs2 q hq => by
          rw [x1 s hs2 q hq]
          by_cases e1 : s = t
          · rw [if_pos ⟨e1, hq⟩, if_pos e1]
          · rw [if_neg (fun z => e1 z.1), if_neg e1]
        have fin : ∀ (I' : IM) (Ly : LM), (∀ c, c ≠ 188 → I' c = I3 c) → (∀ k, I' 188 k = if k = 6 + 4 then I3 188 (6 + 4) + 1 else if k = 14 then (if cnL (fun q => Lx 181 (32 * t + q)) 32 = 0 then I3 188 14 + 1 else I3 188 14) else I3 188 k) → Ly = Lx → ∀ lv, lv = [(0, .ref 0), (1, .int 4), (2, .int (nI x)), (3, .int (nI y)), (4, .ref 181), (5, .ref 186), (6, .ref 182), (7, .ref 183), (8, .ref 184), (9, .ref 185), (10, .ref 188), (11, .int (nI a)), (12, .int (nI b)), (13, .int (nI t)), (14, .int w), (15, .int (fsI none)), (16, .int 32)] → V 249 lv [.int (nI t), .int w, .int (nI b), .int (nI a), .int 4, .ref 0] I' Ly := fun I' Ly hI' hc eL lv elv => by
          subst eL; subst elv
          have eg : gC I' n 4 a b w = gC I3 n 4 a b w := gC_I hI' n5 ha hb (by decide)
          obtain ⟨L4, l4, hD⟩ := qL_done4 l (a := a) (b := b) (t := t) (w := w) (by omega) (by omega) (by omega) n5 ho hzz (I := I') (by rw [hI' 1 (by decide)]; exact h2a) (by rw [hI' 19 (by decide)]; exact h2b) (by rw [hI' 19 (by decide)]; exact h2c) Ly 
          rw [eg] at hD
          have l181 : L4 181 = Ly 181 := l4 181 (by decide)
          obtain ⟨sm, cn⟩ := sm_st (d := 4) (L4 := L4) (g := gC I3 n 4 a b w) hS ht (by decide) hI' gbd ghi (fun s hs2 q hq => by rw [l181]; exact y1 s hs2 q hq) (fun k => by rw [l181]; exact hc k)
          refine ru_S hV [] sSL_89 hD rfl rfl rfl (Nat.le_of_ble_eq_true rfl) ?_
          refine ru_go hV 4 [] rfl rfl trivial ?_
          rw [hs]
          refine ru_S hV [.int _] sSL_85 (hmany _ L4) rfl rfl rfl (Nat.le_of_ble_eq_true rfl) ?_
          rw [cn]
          refine ru_fin hV 4 [(0, 0)] rfl rfl ⟨trivial, (fun z => z rfl)⟩ ?_
          exact ⟨rfl, oN o z, zN z, sm, fun _ => (zN_le hzz).2⟩
        by_cases hc : cnL (fun q => Lx 181 (32 * t + q)) 32 = 0
        · refine ru_go hV 11 [(0, 0), (14, 15)] rfl rfl ⟨⟨trivial, (by rw [hc]; decide)⟩, (by first | exact rfl | assumption | exact ⟨rfl, rfl⟩ | exact ⟨rfl, rfl, by omega⟩ | exact ⟨by assumption, rfl, by omega⟩ | exact ⟨⟨_, rfl, rfl⟩, by decide, by decide, rfl, by omega⟩ | omega | decide)⟩ ?_
          refine fin _ _ (fun c hc => by rw [mu_ne _ _ hc, mu_ne _ _ hc]) (fun k => ?_) rfl _ rfl
          by_cases e6 : k = 6 + 4
          · subst e6
            rw [if_pos rfl]
            simp [mu]
          · rw [if_neg e6]
            by_cases e14 : k = 14
            · subst e14
              rw [if_pos rfl, if_pos hc]
              simp [mu]
            · rw [if_neg e14]
              simp [mu, e14, e6]
        · refine ru_go hV 10 [(1, 0), (14, 15)] rfl rfl ⟨⟨trivial, nI_ne0 (by omega) (by omega)⟩, (by first | exact rfl | assumption | exact ⟨rfl, rfl⟩ | exact ⟨rfl, rfl, by omega⟩ | exact ⟨by assumption, rfl, by omega⟩ | exact ⟨⟨_, rfl, rfl⟩, by decide, by decide, rfl, by omega⟩ | omega | decide)⟩ ?_
          refine fin _ _ (fun c hc => by rw [mu_ne _ _ hc, mu_ne _ _ hc]) (fun k => ?_) rfl _ rfl
          by_cases e6 : k = 6 + 4
          · subst e6
            rw [if_pos rfl]
            simp [mu]
          · rw [if_neg e6]
            by_cases e14 : k = 14
            · subst e14
              rw [if_pos rfl, if_neg hc]
              simp [mu]
            · rw [if_neg e14]
              simp [mu, e14, e6]
  refine ru_go hV 12 [(1, 0), (1, 0), (1, 0), (1, 0)] rfl rfl ⟨⟨⟨⟨trivial, (by decide)⟩, (by decide)⟩, (by decide)⟩, (by decide)⟩ ?_
  exact at163 L1 (fun _ _ => rfl)
set_option maxRecDepth 100000 in
set_option maxHeartbeats 1000000 in
theorem qL_work5 (l : Launch) {x y : Nat} (hx : x < 2 ^ 31) (hy : y < 2 ^ 31) {I : IM} {L : LM} {n o z : Nat} (hS : Sm I L n o z) : ∃ I2 L2, (∃ o2 z2, Sm I2 L2 n o2 z2 ∧ (0 < z → 0 < z2)) ∧ KL_work l [.ref 0, .int 5, .int (nI x), .int (nI y), .ref 181, .ref 186, .ref 182, .ref 183, .ref 184, .ref 185, .ref 188] I L (some (.int 1)) I2 L2 := by
  obtain ⟨⟨n2, n5, ho, hzz⟩, ⟨h2a, h2b, h2c⟩, h3, h4, h5, h6, h7, h8⟩ := id hS
  have hB := (pow_le32 n n5).1
  refine ru_pos1 (fun V hV => ?_) (fun I2 L2 h => wL_work l rfl (fun _ x hx => by cases hx; exact Or.inr rfl) h)
  refine ru_go hV 16 [] rfl rfl trivial ?_
  rw [and1 hx, (shr_and hx).1, (shr_and hx).2]
  have ha : x % 2 < 2 := Nat.mod_lt _ (by decide)
  have hb : x / 2 % 2 < 2 := Nat.mod_lt _ (by decide)
  have ht : x / 4 % 2 < 2 := Nat.mod_lt _ (by decide)
  generalize x % 2 = a at ha ⊢
  generalize x / 2 % 2 = b at hb ⊢
  generalize x / 4 % 2 = t at ht ⊢
  refine ru_go hV 9 [(1, 0), (0, 15)] rfl rfl ⟨⟨trivial, (by decide)⟩, (by first | exact rfl | assumption | exact ⟨rfl, rfl⟩ | exact ⟨rfl, rfl, by omega⟩ | exact ⟨by assumption, rfl, by omega⟩ | exact ⟨⟨_, rfl, rfl⟩, by decide, by decide, rfl, by omega⟩ | omega | decide)⟩ ?_
  rw [h5, nI_1]
  refine ru_S hV [] sSL_71 (qL_at l (x := y) (n := n + 1) hy (by omega) (by omega) I L) rfl rfl rfl (Nat.le_of_ble_eq_true rfl) ?_
  have hgr : y / 2 % (n + 1) ≤ n := Nat.le_of_lt_succ (Nat.mod_lt _ (by omega))
  refine ru_go hV 1 [] rfl rfl trivial ?_
  generalize hw : nI (y / 2 % (n + 1)) = w
  refine ru_go hV 15 [] rfl rfl trivial ?_
  rw [show (32 : Int32) * nI a = nI (32 * a) from pk_mul 32 a, show (32 : Int32) * nI b = nI (32 * b) from pk_mul 32 b]
  obtain ⟨I3, L1, ⟨e3, r1, r2⟩, hK⟩ := qL_bring5 l (a := 32 * a) (b := 32 * b) (w := w) (by omega) (by omega) n5 h5 L
  subst e3
  have r1 : ∀ k, k < 32 → L1 182 k = gC I3 n 5 a b w k := fun k hk => by rw [r1 k hk]; exact br_gC hS ha hb (by decide) k hk
  have ghi := gC_hi (w := w) hS ha hb (show 5 < 8 by decide)
  have efar : ftO (L1 182) 32 = ftO (gC I3 n 5 a b w) (2 ^ n) := r_far n5 r1 ghi
  refine ru_S hV [] sSL_74 hK rfl rfl rfl (Nat.le_of_ble_eq_true rfl) ?_
  refine ru_go hV 1 [] rfl rfl trivial ?_
  refine ru_S hV [] sSL_78 (qL_beyond l I3 L1) rfl rfl rfl (Nat.le_of_ble_eq_true rfl) ?_
  rw [efar]
  have at163 : ∀ L2 : LM, (∀ c, 181 ≤ c → L2 c = L1 c) → V 163 [(0, .ref 0), (1, .int 5), (2, .int (nI x)), (3, .int (nI y)), (4, .ref 181), (5, .ref 186), (6, .ref 182), (7, .ref 183), (8, .ref 184), (9, .ref 185), (10, .ref 188), (11, .int (nI a)), (12, .int (nI b)), (13, .int (nI t)), (14, .int w), (15, .int (fsI (ftO (gC I3 n 5 a b w) (2 ^ n))))] [] I3 L2 := fun L2 hL2 => by
    have q181 : L2 181 = L 181 := (hL2 181 (by decide)).trans (r2 181 (by decide))
    cases hf : ftO (gC I3 n 5 a b w) (2 ^ n) with
    | some q =>
      have hq : q < 2 ^ n := (fsO_lt hf).1
      refine ru_fin hV 4 [(0, 0)] rfl rfl ⟨trivial, nI_pos (by omega)⟩ ?_
      exact ⟨rfl, o, z, hS.sc (SC.rf _) q181, id⟩
    | none =>
      have gbd := ft_bd hf
      refine ru_go hV 4 [(1, 0)] rfl rfl ⟨trivial, (by decide)⟩ ?_
      refine loop0 (P := fun k => ∀ Lx : LM, (∀ s, s < 2 → ∀ q, q < 32 → Lx 181 (32 * s + q) = if s = t ∧ q < k then gC I3 n 5 a b w q else L 181 (32 * s + q)) → (∀ c, c ≠ 181 → Lx c = L2 c) → V 173 [(0, .ref 0), (1, .int 5), (2, .int (nI x)), (3, .int (nI y)), (4, .ref 181), (5, .ref 186), (6, .ref 182), (7, .ref 183), (8, .ref 184), (9, .ref 185), (10, .ref 188), (11, .int (nI a)), (12, .int (nI b)), (13, .int (nI t)), (14, .int w), (15, .int (fsI none)), (16, .int (nI k))] [] I3 Lx) 32 (fun h => h L2 (fun s hs q hq => by rw [q181, if_neg (fun z => Nat.not_lt_zero _ z.2)]) (fun _ _ => rfl)) (fun k hk ih => ?_) ?_
      · intro Lx x1 x2
        have hs : (32 : Int32) * nI t = nI (32 * t) := pk_mul 32 t
        refine ru_go hV 15 [(0, 0), (k, 32), ((32*t+k), 64)] rfl rfl ⟨⟨⟨trivial, nI32_ge hk⟩, ⟨rfl, rfl, hk⟩⟩, ⟨rfl, by rw [hs]; exact nI_add _ _, by omega⟩⟩ ?_
        rw [nI_1, x2 182 (by decide), hL2 182 (by decide), r1 k hk]
        refine ih _ (fun s hs q hq => ?_) (fun c hc => by rw [mu_ne _ _ hc]; exact x2 c hc)
        by_cases e : 32 * s + q = 32 * t + k
        · have e1 : s = t := by omega
          have e2 : q = k := by omega
          subst e1; subst e2
          rw [mu_at, if_pos ⟨rfl, Nat.lt_succ_self q⟩]
        · rw [show ∀ v, mu Lx 181 (32 * t + k) v 181 (32 * s + q) = Lx 181 (32 * s + q) from fun v => by simp [mu, e], x1 s hs q hq]
          by_cases e1 : s = t
          · subst e1
            have : q < k + 1 ↔ q < k := by omega
            simp only [this]
          · rw [if_neg (fun z => e1 z.1), if_neg (fun z => e1 z.1)]
      · intro Lx x1 x2
        have hs : (32 : Int32) * nI t = nI (32 * t) := pk_mul 32 t
        refine ru_go hV 20 [(1, 0), ((6+5), 15), ((6+5), 15), (14, 15)] rfl rfl ⟨⟨⟨⟨trivial, (by decide)⟩, (by first | exact rfl | assumption | exact ⟨rfl, rfl⟩ | exact ⟨rfl, rfl, by omega⟩ | exact ⟨by assumption, rfl, by omega⟩ | exact ⟨⟨_, rfl, rfl⟩, by decide, by decide, rfl, by omega⟩ | omega | decide)⟩, (by first | exact rfl | assumption | exact ⟨rfl, rfl⟩ | exact ⟨rfl, rfl, by omega⟩ | exact ⟨by assumption, rfl, by omega⟩ | exact ⟨⟨_, rfl, rfl⟩, by decide, by decide, rfl, by omega⟩ | omega | decide)⟩, (by first | exact rfl | assumption | exact ⟨rfl, rfl⟩ | exact ⟨rfl, rfl, by omega⟩ | exact ⟨by assumption, rfl, by omega⟩ | exact ⟨⟨_, rfl, rfl⟩, by decide, by decide, rfl, by omega⟩ | omega | decide)⟩ ?_
        rw [hs]
        have hmany := qL_many l (c := 181) (a := 32 * t) (N := 64) rfl (by omega)
        refine ru_S hV [.int _, .int _, .ref 188] sSL_85 (hmany _ Lx) rfl rfl rfl (Nat.le_of_ble_eq_true rfl) ?_
        have c32 := cnL_le (fun q => Lx 181 (32 * t + q)) 32
        have y1 : ∀ s, s < 2 → ∀ q, q < 32 → Lx 181 (32 * s + q) = if s = t then gC I3 n 5 a b w q else L 181 (32 * s + q) := fun s hs2 q hq => by
          rw [x1 s hs2 q hq]
          by_cases e1 : s = t
          · rw [if_pos ⟨e1, hq⟩, if_pos e1]
          · rw [if_neg (fun z => e1 z.1), if_neg e1]
        have fin : ∀ (I' : IM) (Ly : LM), (∀ c, c ≠ 188 → I' c = I3 c) → (∀ k, I' 188 k = if k = 6 + 5 then I3 188 (6 + 5) + 1 else if k = 14 then (if cnL (fun q => Lx 181 (32 * t + q)) 32 = 0 then I3 188 14 + 1 else I3 188 14) else I3 188 k) → Ly = Lx → ∀ lv, lv = [(0, .ref 0), (1, .int 5), (2, .int (nI x)), (3, .int (nI y)), (4, .ref 181), (5, .ref 186), (6, .ref 182), (7, .ref 183), (8, .ref 184), (9, .ref 185), (10, .ref 188), (11, .int (nI a)), (12, .int (nI b)), (13, .int (nI t)), (14, .int w), (15, .int (fsI none)), (16, .int 32)] → V 249 lv [.int (nI t), .int w, .int (nI b), .int (nI a), .int 5, .ref 0] I' Ly := fun I' Ly hI' hc eL lv elv => by
          subst eL; subst elv
          have eg : gC I' n 5 a b w = gC I3 n 5 a b w := gC_I hI' n5 ha hb (by decide)
          obtain ⟨L4, l4, hD⟩ := qL_done5 l (a := a) (b := b) (t := t) (w := w) (by omega) (by omega) (by omega) n5 ho hzz (I := I') (by rw [hI' 1 (by decide)]; exact h2a) (by rw [hI' 19 (by decide)]; exact h2b) (by rw [hI' 19 (by decide)]; exact h2c) Ly hw.symm hgr
          rw [eg] at hD
          have l181 : L4 181 = Ly 181 := l4 181 (by decide)
          obtain ⟨sm, cn⟩ := sm_st (d := 5) (L4 := L4) (g := gC I3 n 5 a b w) hS ht (by decide) hI' gbd ghi (fun s hs2 q hq => by rw [l181]; exact y1 s hs2 q hq) (fun k => by rw [l181]; exact hc k)
          refine ru_S hV [] sSL_89 hD rfl rfl rfl (Nat.le_of_ble_eq_true rfl) ?_
          refine ru_go hV 4 [] rfl rfl trivial ?_
          rw [hs]
          refine ru_S hV [.int _] sSL_85 (hmany _ L4) rfl rfl rfl (Nat.le_of_ble_eq_true rfl) ?_
          rw [cn]
          refine ru_fin hV 4 [(0, 0)] rfl rfl ⟨trivial, (fun z => z rfl)⟩ ?_
          exact ⟨rfl, oN o z, zN z, sm, fun _ => (zN_le hzz).2⟩
        by_cases hc : cnL (fun q => Lx 181 (32 * t + q)) 32 = 0
        · refine ru_go hV 11 [(0, 0), (14, 15)] rfl rfl ⟨⟨trivial, (by rw [hc]; decide)⟩, (by first | exact rfl | assumption | exact ⟨rfl, rfl⟩ | exact ⟨rfl, rfl, by omega⟩ | exact ⟨by assumption, rfl, by omega⟩ | exact ⟨⟨_, rfl, rfl⟩, by decide, by decide, rfl, by omega⟩ | omega | decide)⟩ ?_
          refine fin _ _ (fun c hc => by rw [mu_ne _ _ hc, mu_ne _ _ hc]) (fun k => ?_) rfl _ rfl
          by_cases e6 : k = 6 + 5
          · subst e6
            rw [if_pos rfl]
            simp [mu]
          · rw [if_neg e6]
            by_cases e14 : k = 14
            · subst e14
              rw [if_pos rfl, if_pos hc]
              simp [mu]
            · rw [if_neg e14]
              simp [mu, e14, e6]
        · refine ru_go hV 10 [(1, 0), (14, 15)] rfl rfl ⟨⟨trivial, nI_ne0 (by omega) (by omega)⟩, (by first | exact rfl | assumption | exact ⟨rfl, rfl⟩ | exact ⟨rfl, rfl, by omega⟩ | exact ⟨by assumption, rfl, by omega⟩ | exact ⟨⟨_, rfl, rfl⟩, by decide, by decide, rfl, by omega⟩ | omega | decide)⟩ ?_
          refine fin _ _ (fun c hc => by rw [mu_ne _ _ hc, mu_ne _ _ hc]) (fun k => ?_) rfl _ rfl
          by_cases e6 : k = 6 + 5
          · subst e6
            rw [if_pos rfl]
            simp [mu]
          · rw [if_neg e6]
            by_cases e14 : k = 14
            · subst e14
              rw [if_pos rfl, if_neg hc]
              simp [mu]
            · rw [if_neg e14]
              simp [mu, e14, e6]
  refine ru_go hV 12 [(1, 0), (1, 0), (1, 0), (1, 0)] rfl rfl ⟨⟨⟨⟨trivial, (by decide)⟩, (by decide)⟩, (by decide)⟩, (by decide)⟩ ?_
  exact at163 L1 (fun _ _ => rfl)
set_option maxRecDepth 100000 in
set_option maxHeartbeats 1000000 in
theorem qL_work6 (l : Launch) {x y : Nat} (hx : x < 2 ^ 31) (hy : y < 2 ^ 31) {I : IM} {L : LM} {n o z : Nat} (hS : Sm I L n o z) : ∃ I2 L2, (∃ o2 z2, Sm I2 L2 n o2 z2 ∧ (0 < z → 0 < z2)) ∧ KL_work l [.ref 0, .int 6, .int (nI x), .int (nI y), .ref 181, .ref 186, .ref 182, .ref 183, .ref 184, .ref 185, .ref 188] I L (some (.int 1)) I2 L2 := by
  obtain ⟨⟨n2, n5, ho, hzz⟩, ⟨h2a, h2b, h2c⟩, h3, h4, h5, h6, h7, h8⟩ := id hS
  have hB := (pow_le32 n n5).1
  refine ru_pos1 (fun V hV => ?_) (fun I2 L2 h => wL_work l rfl (fun _ x hx => by cases hx; exact Or.inr rfl) h)
  refine ru_go hV 16 [] rfl rfl trivial ?_
  rw [and1 hx, (shr_and hx).1, (shr_and hx).2]
  have ha : x % 2 < 2 := Nat.mod_lt _ (by decide)
  have hb : x / 2 % 2 < 2 := Nat.mod_lt _ (by decide)
  have ht : x / 4 % 2 < 2 := Nat.mod_lt _ (by decide)
  generalize x % 2 = a at ha ⊢
  generalize x / 2 % 2 = b at hb ⊢
  generalize x / 4 % 2 = t at ht ⊢
  refine ru_go hV 9 [(1, 0), (0, 15)] rfl rfl ⟨⟨trivial, (by decide)⟩, (by first | exact rfl | assumption | exact ⟨rfl, rfl⟩ | exact ⟨rfl, rfl, by omega⟩ | exact ⟨by assumption, rfl, by omega⟩ | exact ⟨⟨_, rfl, rfl⟩, by decide, by decide, rfl, by omega⟩ | omega | decide)⟩ ?_
  rw [h5, nI_1]
  refine ru_S hV [] sSL_71 (qL_at l (x := y) (n := n + 1) hy (by omega) (by omega) I L) rfl rfl rfl (Nat.le_of_ble_eq_true rfl) ?_
  have hgr : y / 2 % (n + 1) ≤ n := Nat.le_of_lt_succ (Nat.mod_lt _ (by omega))
  refine ru_go hV 1 [] rfl rfl trivial ?_
  generalize hw : nI (y / 2 % (n + 1)) = w
  refine ru_go hV 15 [] rfl rfl trivial ?_
  rw [show (32 : Int32) * nI a = nI (32 * a) from pk_mul 32 a, show (32 : Int32) * nI b = nI (32 * b) from pk_mul 32 b]
  obtain ⟨I3, L1, ⟨e3, r1, r2⟩, hK⟩ := qL_bring6 l (a := 32 * a) (b := 32 * b) (w := w) (by omega) (by omega) n5 h5 L
  subst e3
  have r1 : ∀ k, k < 32 → L1 182 k = gC I3 n 6 a b w k := fun k hk => by rw [r1 k hk]; exact br_gC hS ha hb (by decide) k hk
  have ghi := gC_hi (w := w) hS ha hb (show 6 < 8 by decide)
  have efar : ftO (L1 182) 32 = ftO (gC I3 n 6 a b w) (2 ^ n) := r_far n5 r1 ghi
  refine ru_S hV [] sSL_74 hK rfl rfl rfl (Nat.le_of_ble_eq_true rfl) ?_
  refine ru_go hV 1 [] rfl rfl trivial ?_
  refine ru_S hV [] sSL_78 (qL_beyond l I3 L1) rfl rfl rfl (Nat.le_of_ble_eq_true rfl) ?_
  rw [efar]
  have at163 : ∀ L2 : LM, (∀ c, 181 ≤ c → L2 c = L1 c) → V 163 [(0, .ref 0), (1, .int 6), (2, .int (nI x)), (3, .int (nI y)), (4, .ref 181), (5, .ref 186), (6, .ref 182), (7, .ref 183), (8, .ref 184), (9, .ref 185), (10, .ref 188), (11, .int (nI a)), (12, .int (nI b)), (13, .int (nI t)), (14, .int w), (15, .int (fsI (ftO (gC I3 n 6 a b w) (2 ^ n))))] [] I3 L2 := fun L2 hL2 => by
    have q181 : L2 181 = L 181 := (hL2 181 (by decide)).trans (r2 181 (by decide))
    cases hf : ftO (gC I3 n 6 a b w) (2 ^ n) with
    | some q =>
      have hq : q < 2 ^ n := (fsO_lt hf).1
      refine ru_fin hV 4 [(0, 0)] rfl rfl ⟨trivial, nI_pos (by omega)⟩ ?_
      exact ⟨rfl, o, z, hS.sc (SC.rf _) q181, id⟩
    | none =>
      have gbd := ft_bd hf
      refine ru_go hV 4 [(1, 0)] rfl rfl ⟨trivial, (by decide)⟩ ?_
      refine loop0 (P := fun k => ∀ Lx : LM, (∀ s, s < 2 → ∀ q, q < 32 → Lx 181 (32 * s + q) = if s = t ∧ q < k then gC I3 n 6 a b w q else L 181 (32 * s + q)) → (∀ c, c ≠ 181 → Lx c = L2 c) → V 173 [(0, .ref 0), (1, .int 6), (2, .int (nI x)), (3, .int (nI y)), (4, .ref 181), (5, .ref 186), (6, .ref 182), (7, .ref 183), (8, .ref 184), (9, .ref 185), (10, .ref 188), (11, .int (nI a)), (12, .int (nI b)), (13, .int (nI t)), (14, .int w), (15, .int (fsI none)), (16, .int (nI k))] [] I3 Lx) 32 (fun h => h L2 (fun s hs q hq => by rw [q181, if_neg (fun z => Nat.not_lt_zero _ z.2)]) (fun _ _ => rfl)) (fun k hk ih => ?_) ?_
      · intro Lx x1 x2
        have hs : (32 : Int32) * nI t = nI (32 * t) := pk_mul 32 t
        refine ru_go hV 15 [(0, 0), (k, 32), ((32*t+k), 64)] rfl rfl ⟨⟨⟨trivial, nI32_ge hk⟩, ⟨rfl, rfl, hk⟩⟩, ⟨rfl, by rw [hs]; exact nI_add _ _, by omega⟩⟩ ?_
        rw [nI_1, x2 182 (by decide), hL2 182 (by decide), r1 k hk]
        refine ih _ (fun s hs q hq => ?_) (fun c hc => by rw [mu_ne _ _ hc]; exact x2 c hc)
        by_cases e : 32 * s + q = 32 * t + k
        · have e1 : s = t := by omega
          have e2 : q = k := by omega
          subst e1; subst e2
          rw [mu_at, if_pos ⟨rfl, Nat.lt_succ_self q⟩]
        · rw [show ∀ v, mu Lx 181 (32 * t + k) v 181 (32 * s + q) = Lx 181 (32 * s + q) from fun v => by simp [mu, e], x1 s hs q hq]
          by_cases e1 : s = t
          · subst e1
            have : q < k + 1 ↔ q < k := by omega
            simp only [this]
          · rw [if_neg (fun z => e1 z.1), if_neg (fun z => e1 z.1)]
      · intro Lx x1 x2
        have hs : (32 : Int32) * nI t = nI (32 * t) := pk_mul 32 t
        refine ru_go hV 20 [(1, 0), ((6+6), 15), ((6+6), 15), (14, 15)] rfl rfl ⟨⟨⟨⟨trivial, (by decide)⟩, (by first | exact rfl | assumption | exact ⟨rfl, rfl⟩ | exact ⟨rfl, rfl, by omega⟩ | exact ⟨by assumption, rfl, by omega⟩ | exact ⟨⟨_, rfl, rfl⟩, by decide, by decide, rfl, by omega⟩ | omega | decide)⟩, (by first | exact rfl | assumption | exact ⟨rfl, rfl⟩ | exact ⟨rfl, rfl, by omega⟩ | exact ⟨by assumption, rfl, by omega⟩ | exact ⟨⟨_, rfl, rfl⟩, by decide, by decide, rfl, by omega⟩ | omega | decide)⟩, (by first | exact rfl | assumption | exact ⟨rfl, rfl⟩ | exact ⟨rfl, rfl, by omega⟩ | exact ⟨by assumption, rfl, by omega⟩ | exact ⟨⟨_, rfl, rfl⟩, by decide, by decide, rfl, by omega⟩ | omega | decide)⟩ ?_
        rw [hs]
        have hmany := qL_many l (c := 181) (a := 32 * t) (N := 64) rfl (by omega)
        refine ru_S hV [.int _, .int _, .ref 188] sSL_85 (hmany _ Lx) rfl rfl rfl (Nat.le_of_ble_eq_true rfl) ?_
        have c32 := cnL_le (fun q => Lx 181 (32 * t + q)) 32
        have y1 : ∀ s, s < 2 → ∀ q, q < 32 → Lx 181 (32 * s + q) = if s = t then gC I3 n 6 a b w q else L 181 (32 * s + q) := fun s hs2 q hq => by
          rw [x1 s hs2 q hq]
          by_cases e1 : s = t
          · rw [if_pos ⟨e1, hq⟩, if_pos e1]
          · rw [if_neg (fun z => e1 z.1), if_neg e1]
        have fin : ∀ (I' : IM) (Ly : LM), (∀ c, c ≠ 188 → I' c = I3 c) → (∀ k, I' 188 k = if k = 6 + 6 then I3 188 (6 + 6) + 1 else if k = 14 then (if cnL (fun q => Lx 181 (32 * t + q)) 32 = 0 then I3 188 14 + 1 else I3 188 14) else I3 188 k) → Ly = Lx → ∀ lv, lv = [(0, .ref 0), (1, .int 6), (2, .int (nI x)), (3, .int (nI y)), (4, .ref 181), (5, .ref 186), (6, .ref 182), (7, .ref 183), (8, .ref 184), (9, .ref 185), (10, .ref 188), (11, .int (nI a)), (12, .int (nI b)), (13, .int (nI t)), (14, .int w), (15, .int (fsI none)), (16, .int 32)] → V 249 lv [.int (nI t), .int w, .int (nI b), .int (nI a), .int 6, .ref 0] I' Ly := fun I' Ly hI' hc eL lv elv => by
          subst eL; subst elv
          have eg : gC I' n 6 a b w = gC I3 n 6 a b w := gC_I hI' n5 ha hb (by decide)
          obtain ⟨L4, l4, hD⟩ := qL_done6 l (a := a) (b := b) (t := t) (w := w) (by omega) (by omega) (by omega) n5 ho hzz (I := I') (by rw [hI' 1 (by decide)]; exact h2a) (by rw [hI' 19 (by decide)]; exact h2b) (by rw [hI' 19 (by decide)]; exact h2c) Ly 
          rw [eg] at hD
          have l181 : L4 181 = Ly 181 := l4 181 (by decide)
          obtain ⟨sm, cn⟩ := sm_st (d := 6) (L4 := L4) (g := gC I3 n 6 a b w) hS ht (by decide) hI' gbd ghi (fun s hs2 q hq => by rw [l181]; exact y1 s hs2 q hq) (fun k => by rw [l181]; exact hc k)
          refine ru_S hV [] sSL_89 hD rfl rfl rfl (Nat.le_of_ble_eq_true rfl) ?_
          refine ru_go hV 4 [] rfl rfl trivial ?_
          rw [hs]
          refine ru_S hV [.int _] sSL_85 (hmany _ L4) rfl rfl rfl (Nat.le_of_ble_eq_true rfl) ?_
          rw [cn]
          refine ru_fin hV 4 [(0, 0)] rfl rfl ⟨trivial, (fun z => z rfl)⟩ ?_
          exact ⟨rfl, oN o z, zN z, sm, fun _ => (zN_le hzz).2⟩
        by_cases hc : cnL (fun q => Lx 181 (32 * t + q)) 32 = 0
        · refine ru_go hV 11 [(0, 0), (14, 15)] rfl rfl ⟨⟨trivial, (by rw [hc]; decide)⟩, (by first | exact rfl | assumption | exact ⟨rfl, rfl⟩ | exact ⟨rfl, rfl, by omega⟩ | exact ⟨by assumption, rfl, by omega⟩ | exact ⟨⟨_, rfl, rfl⟩, by decide, by decide, rfl, by omega⟩ | omega | decide)⟩ ?_
          refine fin _ _ (fun c hc => by rw [mu_ne _ _ hc, mu_ne _ _ hc]) (fun k => ?_) rfl _ rfl
          by_cases e6 : k = 6 + 6
          · subst e6
            rw [if_pos rfl]
            simp [mu]
          · rw [if_neg e6]
            by_cases e14 : k = 14
            · subst e14
              rw [if_pos rfl, if_pos hc]
              simp [mu]
            · rw [if_neg e14]
              simp [mu, e14, e6]
        · refine ru_go hV 10 [(1, 0), (14, 15)] rfl rfl ⟨⟨trivial, nI_ne0 (by omega) (by omega)⟩, (by first | exact rfl | assumption | exact ⟨rfl, rfl⟩ | exact ⟨rfl, rfl, by omega⟩ | exact ⟨by assumption, rfl, by omega⟩ | exact ⟨⟨_, rfl, rfl⟩, by decide, by decide, rfl, by omega⟩ | omega | decide)⟩ ?_
          refine fin _ _ (fun c hc => by rw [mu_ne _ _ hc, mu_ne _ _ hc]) (fun k => ?_) rfl _ rfl
          by_cases e6 : k = 6 + 6
          · subst e6
            rw [if_pos rfl]
            simp [mu]
          · rw [if_neg e6]
            by_cases e14 : k = 14
            · subst e14
              rw [if_pos rfl, if_neg hc]
              simp [mu]
            · rw [if_neg e14]
              simp [mu, e14, e6]
  refine ru_go hV 12 [(1, 0), (1, 0), (1, 0), (1, 0)] rfl rfl ⟨⟨⟨⟨trivial, (by decide)⟩, (by decide)⟩, (by decide)⟩, (by decide)⟩ ?_
  exact at163 L1 (fun _ _ => rfl)
set_option maxRecDepth 100000 in
set_option maxHeartbeats 1000000 in
theorem qL_work7 (l : Launch) {x y : Nat} (hx : x < 2 ^ 31) (hy : y < 2 ^ 31) {I : IM} {L : LM} {n o z : Nat} (hS : Sm I L n o z) : ∃ I2 L2, (∃ o2 z2, Sm I2 L2 n o2 z2 ∧ (0 < z → 0 < z2)) ∧ KL_work l [.ref 0, .int 7, .int (nI x), .int (nI y), .ref 181, .ref 186, .ref 182, .ref 183, .ref 184, .ref 185, .ref 188] I L (some (.int 1)) I2 L2 := by
  obtain ⟨⟨n2, n5, ho, hzz⟩, ⟨h2a, h2b, h2c⟩, h3, h4, h5, h6, h7, h8⟩ := id hS
  have hB := (pow_le32 n n5).1
  refine ru_pos1 (fun V hV => ?_) (fun I2 L2 h => wL_work l rfl (fun _ x hx => by cases hx; exact Or.inr rfl) h)
  refine ru_go hV 16 [] rfl rfl trivial ?_
  rw [and1 hx, (shr_and hx).1, (shr_and hx).2]
  have ha : x % 2 < 2 := Nat.mod_lt _ (by decide)
  have hb : x / 2 % 2 < 2 := Nat.mod_lt _ (by decide)
  have ht : x / 4 % 2 < 2 := Nat.mod_lt _ (by decide)
  generalize x % 2 = a at ha ⊢
  generalize x / 2 % 2 = b at hb ⊢
  generalize x / 4 % 2 = t at ht ⊢
  refine ru_go hV 9 [(1, 0), (0, 15)] rfl rfl ⟨⟨trivial, (by decide)⟩, (by first | exact rfl | assumption | exact ⟨rfl, rfl⟩ | exact ⟨rfl, rfl, by omega⟩ | exact ⟨by assumption, rfl, by omega⟩ | exact ⟨⟨_, rfl, rfl⟩, by decide, by decide, rfl, by omega⟩ | omega | decide)⟩ ?_
  rw [h5, nI_1]
  refine ru_S hV [] sSL_71 (qL_at l (x := y) (n := n + 1) hy (by omega) (by omega) I L) rfl rfl rfl (Nat.le_of_ble_eq_true rfl) ?_
  have hgr : y / 2 % (n + 1) ≤ n := Nat.le_of_lt_succ (Nat.mod_lt _ (by omega))
  refine ru_go hV 1 [] rfl rfl trivial ?_
  generalize hw : nI (y / 2 % (n + 1)) = w
  refine ru_go hV 15 [] rfl rfl trivial ?_
  rw [show (32 : Int32) * nI a = nI (32 * a) from pk_mul 32 a, show (32 : Int32) * nI b = nI (32 * b) from pk_mul 32 b]
  obtain ⟨I3, L1, ⟨e3, r1, r2⟩, hK⟩ := qL_bring7 l (a := 32 * a) (b := 32 * b) (w := w) (by omega) (by omega) n5 h5 L
  subst e3
  have r1 : ∀ k, k < 32 → L1 182 k = gC I3 n 7 a b w k := fun k hk => by rw [r1 k hk]; exact br_gC hS ha hb (by decide) k hk
  have ghi := gC_hi (w := w) hS ha hb (show 7 < 8 by decide)
  have efar : ftO (L1 182) 32 = ftO (gC I3 n 7 a b w) (2 ^ n) := r_far n5 r1 ghi
  refine ru_S hV [] sSL_74 hK rfl rfl rfl (Nat.le_of_ble_eq_true rfl) ?_
  refine ru_go hV 1 [] rfl rfl trivial ?_
  refine ru_S hV [] sSL_78 (qL_beyond l I3 L1) rfl rfl rfl (Nat.le_of_ble_eq_true rfl) ?_
  rw [efar]
  have at163 : ∀ L2 : LM, (∀ c, 181 ≤ c → L2 c = L1 c) → V 163 [(0, .ref 0), (1, .int 7), (2, .int (nI x)), (3, .int (nI y)), (4, .ref 181), (5, .ref 186), (6, .ref 182), (7, .ref 183), (8, .ref 184), (9, .ref 185), (10, .ref 188), (11, .int (nI a)), (12, .int (nI b)), (13, .int (nI t)), (14, .int w), (15, .int (fsI (ftO (gC I3 n 7 a b w) (2 ^ n))))] [] I3 L2 := fun L2 hL2 => by
    have q181 : L2 181 = L 181 := (hL2 181 (by decide)).trans (r2 181 (by decide))
    cases hf : ftO (gC I3 n 7 a b w) (2 ^ n) with
    | some q =>
      have hq : q < 2 ^ n := (fsO_lt hf).1
      refine ru_fin hV 4 [(0, 0)] rfl rfl ⟨trivial, nI_pos (by omega)⟩ ?_
      exact ⟨rfl, o, z, hS.sc (SC.rf _) q181, id⟩
    | none =>
      have gbd := ft_bd hf
      refine ru_go hV 4 [(1, 0)] rfl rfl ⟨trivial, (by decide)⟩ ?_
      refine loop0 (P := fun k => ∀ Lx : LM, (∀ s, s < 2 → ∀ q, q < 32 → Lx 181 (32 * s + q) = if s = t ∧ q < k then gC I3 n 7 a b w q else L 181 (32 * s + q)) → (∀ c, c ≠ 181 → Lx c = L2 c) → V 173 [(0, .ref 0), (1, .int 7), (2, .int (nI x)), (3, .int (nI y)), (4, .ref 181), (5, .ref 186), (6, .ref 182), (7, .ref 183), (8, .ref 184), (9, .ref 185), (10, .ref 188), (11, .int (nI a)), (12, .int (nI b)), (13, .int (nI t)), (14, .int w), (15, .int (fsI none)), (16, .int (nI k))] [] I3 Lx) 32 (fun h => h L2 (fun s hs q hq => by rw [q181, if_neg (fun z => Nat.not_lt_zero _ z.2)]) (fun _ _ => rfl)) (fun k hk ih => ?_) ?_
      · intro Lx x1 x2
        have hs : (32 : Int32) * nI t = nI (32 * t) := pk_mul 32 t
        refine ru_go hV 15 [(0, 0), (k, 32), ((32*t+k), 64)] rfl rfl ⟨⟨⟨trivial, nI32_ge hk⟩, ⟨rfl, rfl, hk⟩⟩, ⟨rfl, by rw [hs]; exact nI_add _ _, by omega⟩⟩ ?_
        rw [nI_1, x2 182 (by decide), hL2 182 (by decide), r1 k hk]
        refine ih _ (fun s hs q hq => ?_) (fun c hc => by rw [mu_ne _ _ hc]; exact x2 c hc)
        by_cases e : 32 * s + q = 32 * t + k
        · have e1 : s = t := by omega
          have e2 : q = k := by omega
          subst e1; subst e2
          rw [mu_at, if_pos ⟨rfl, Nat.lt_succ_self q⟩]
        · rw [show ∀ v, mu Lx 181 (32 * t + k) v 181 (32 * s + q) = Lx 181 (32 * s + q) from fun v => by simp [mu, e], x1 s hs q hq]
          by_cases e1 : s = t
          · subst e1
            have : q < k + 1 ↔ q < k := by omega
            simp only [this]
          · rw [if_neg (fun z => e1 z.1), if_neg (fun z => e1 z.1)]
      · intro Lx x1 x2
        have hs : (32 : Int32) * nI t = nI (32 * t) := pk_mul 32 t
        refine ru_go hV 20 [(1, 0), ((6+7), 15), ((6+7), 15), (14, 15)] rfl rfl ⟨⟨⟨⟨trivial, (by decide)⟩, (by first | exact rfl | assumption | exact ⟨rfl, rfl⟩ | exact ⟨rfl, rfl, by omega⟩ | exact ⟨by assumption, rfl, by omega⟩ | exact ⟨⟨_, rfl, rfl⟩, by decide, by decide, rfl, by omega⟩ | omega | decide)⟩, (by first | exact rfl | assumption | exact ⟨rfl, rfl⟩ | exact ⟨rfl, rfl, by omega⟩ | exact ⟨by assumption, rfl, by omega⟩ | exact ⟨⟨_, rfl, rfl⟩, by decide, by decide, rfl, by omega⟩ | omega | decide)⟩, (by first | exact rfl | assumption | exact ⟨rfl, rfl⟩ | exact ⟨rfl, rfl, by omega⟩ | exact ⟨by assumption, rfl, by omega⟩ | exact ⟨⟨_, rfl, rfl⟩, by decide, by decide, rfl, by omega⟩ | omega | decide)⟩ ?_
        rw [hs]
        have hmany := qL_many l (c := 181) (a := 32 * t) (N := 64) rfl (by omega)
        refine ru_S hV [.int _, .int _, .ref 188] sSL_85 (hmany _ Lx) rfl rfl rfl (Nat.le_of_ble_eq_true rfl) ?_
        have c32 := cnL_le (fun q => Lx 181 (32 * t + q)) 32
        have y1 : ∀ s, s < 2 → ∀ q, q < 32 → Lx 181 (32 * s + q) = if s = t then gC I3 n 7 a b w q else L 181 (32 * s + q) := fun s hs2 q hq => by
          rw [x1 s hs2 q hq]
          by_cases e1 : s = t
          · rw [if_pos ⟨e1, hq⟩, if_pos e1]
          · rw [if_neg (fun z => e1 z.1), if_neg e1]
        have fin : ∀ (I' : IM) (Ly : LM), (∀ c, c ≠ 188 → I' c = I3 c) → (∀ k, I' 188 k = if k = 6 + 7 then I3 188 (6 + 7) + 1 else if k = 14 then (if cnL (fun q => Lx 181 (32 * t + q)) 32 = 0 then I3 188 14 + 1 else I3 188 14) else I3 188 k) → Ly = Lx → ∀ lv, lv = [(0, .ref 0), (1, .int 7), (2, .int (nI x)), (3, .int (nI y)), (4, .ref 181), (5, .ref 186), (6, .ref 182), (7, .ref 183), (8, .ref 184), (9, .ref 185), (10, .ref 188), (11, .int (nI a)), (12, .int (nI b)), (13, .int (nI t)), (14, .int w), (15, .int (fsI none)), (16, .int 32)] → V 249 lv [.int (nI t), .int w, .int (nI b), .int (nI a), .int 7, .ref 0] I' Ly := fun I' Ly hI' hc eL lv elv => by
          subst eL; subst elv
          have eg : gC I' n 7 a b w = gC I3 n 7 a b w := gC_I hI' n5 ha hb (by decide)
          obtain ⟨L4, l4, hD⟩ := qL_done7 l (a := a) (b := b) (t := t) (w := w) (by omega) (by omega) (by omega) n5 ho hzz (I := I') (by rw [hI' 1 (by decide)]; exact h2a) (by rw [hI' 19 (by decide)]; exact h2b) (by rw [hI' 19 (by decide)]; exact h2c) Ly (by rw [eg]; exact hf)
          rw [eg] at hD
          have l181 : L4 181 = Ly 181 := l4 181 (by decide)
          obtain ⟨sm, cn⟩ := sm_st (d := 7) (L4 := L4) (g := gC I3 n 7 a b w) hS ht (by decide) hI' gbd ghi (fun s hs2 q hq => by rw [l181]; exact y1 s hs2 q hq) (fun k => by rw [l181]; exact hc k)
          refine ru_S hV [] sSL_89 hD rfl rfl rfl (Nat.le_of_ble_eq_true rfl) ?_
          refine ru_go hV 4 [] rfl rfl trivial ?_
          rw [hs]
          refine ru_S hV [.int _] sSL_85 (hmany _ L4) rfl rfl rfl (Nat.le_of_ble_eq_true rfl) ?_
          rw [cn]
          refine ru_fin hV 4 [(0, 0)] rfl rfl ⟨trivial, (fun z => z rfl)⟩ ?_
          exact ⟨rfl, oN o z, zN z, sm, fun _ => (zN_le hzz).2⟩
        by_cases hc : cnL (fun q => Lx 181 (32 * t + q)) 32 = 0
        · refine ru_go hV 11 [(0, 0), (14, 15)] rfl rfl ⟨⟨trivial, (by rw [hc]; decide)⟩, (by first | exact rfl | assumption | exact ⟨rfl, rfl⟩ | exact ⟨rfl, rfl, by omega⟩ | exact ⟨by assumption, rfl, by omega⟩ | exact ⟨⟨_, rfl, rfl⟩, by decide, by decide, rfl, by omega⟩ | omega | decide)⟩ ?_
          refine fin _ _ (fun c hc => by rw [mu_ne _ _ hc, mu_ne _ _ hc]) (fun k => ?_) rfl _ rfl
          by_cases e6 : k = 6 + 7
          · subst e6
            rw [if_pos rfl]
            simp [mu]
          · rw [if_neg e6]
            by_cases e14 : k = 14
            · subst e14
              rw [if_pos rfl, if_pos hc]
              simp [mu]
            · rw [if_neg e14]
              simp [mu, e14, e6]
        · refine ru_go hV 10 [(1, 0), (14, 15)] rfl rfl ⟨⟨trivial, nI_ne0 (by omega) (by omega)⟩, (by first | exact rfl | assumption | exact ⟨rfl, rfl⟩ | exact ⟨rfl, rfl, by omega⟩ | exact ⟨by assumption, rfl, by omega⟩ | exact ⟨⟨_, rfl, rfl⟩, by decide, by decide, rfl, by omega⟩ | omega | decide)⟩ ?_
          refine fin _ _ (fun c hc => by rw [mu_ne _ _ hc, mu_ne _ _ hc]) (fun k => ?_) rfl _ rfl
          by_cases e6 : k = 6 + 7
          · subst e6
            rw [if_pos rfl]
            simp [mu]
          · rw [if_neg e6]
            by_cases e14 : k = 14
            · subst e14
              rw [if_pos rfl, if_neg hc]
              simp [mu]
            · rw [if_neg e14]
              simp [mu, e14, e6]
  obtain ⟨L2, e2, hR⟩ := qL_ref l (w := 3) (a := a) (b := b) (n := n) (by decide) (by omega) (by omega) n5 h2a L1 (x := 3) rfl (rf3 w)
  refine ru_go hV 16 [(1, 0), (1, 0), (1, 0), (0, 0)] rfl rfl ⟨⟨⟨⟨trivial, (by decide)⟩, (by decide)⟩, (by decide)⟩, (by decide)⟩ ?_
  refine ru_V hV [] sVL_82 hR rfl rfl rfl rfl rfl (Nat.le_of_ble_eq_true rfl) ?_
  refine ru_go hV 2 [(1, 0)] rfl rfl ⟨trivial, rfl⟩ ?_
  exact at163 L2 e2
