theorem qX5_determinant (l : Launch) {b n r : Nat} (hb : isSt b) (hn : n ≤ 5) (hr : kdC r = (2, 32, 0)) {I : IM} (hdim : I b 0 = nI n) (L : LM) : ∃ f, KX5_determinant l [.ref b, .ref r] I L (some (.int (gw (fun q p => I (b + 12 + q) p) n (2 ^ n - 1) n (2 ^ n - 1)).toInt32)) I (lay L r 32 f) := by
  have k0 := kd_st0 hb
  obtain ⟨hB, hB0⟩ := pow_le32 n hn
  have eB : nI (2 ^ n) - 1 = nI (2 ^ n - 1) := by
    obtain ⟨q, hq⟩ : ∃ q, 2 ^ n = q + 1 := ⟨2 ^ n - 1, by omega⟩
    rw [hq]
    exact nI_pred q
  have h1 : 2 ^ n - 1 < 2 ^ n := by omega
  refine ⟨ig (fun q p => I (b + 12 + q) p) n (2 ^ n - 1) (L r) n, ?_⟩
  refine wX5_determinant l rfl (hz0 (by decide)) (fun V hV => ?_)
  refine ru_go hV 1 [] rfl rfl trivial ?_
  refine ru_V hV [] sVX5_31 (qX6_blades l hb hn hdim L) k0 rfl rfl rfl rfl (Nat.le_of_ble_eq_true rfl) ?_
  refine ru_go hV 3 [] rfl rfl trivial ?_
  rw [eB]
  refine ru_go hV 3 [] rfl rfl trivial ?_
  refine ru_S hV [] sSX5_43 (qX5_pushBlade l hb hn h1 hr hdim L) rfl rfl rfl (Nat.le_of_ble_eq_true rfl) ?_
  refine ru_fin hV 5 [((2^n-1), 32)] rfl rfl ⟨trivial, ⟨hr, rfl, by omega⟩⟩ ?_
  refine ⟨?_, rfl, rfl⟩
  rw [lay_in (by omega), ig_gw hn n _ h1 (by rw [pcl_all n hn _ h1])]
  rfl
theorem qX5_pushForm (l : Launch) {b x n im r : Nat} (hb : isSt b) (hx : x < 8) (hn : n ≤ 5) (him : kdC im = (2, 32, 0)) (hr : kdC r = (2, 32, 0)) (hne : im ≠ r) {I : IM} (hdim : I b 0 = nI n) (L : LM) : ∃ f, KX5_pushForm l [.ref b, .int (nI x), .ref im, .ref r] I L none I (lay (lay L im 32 f) r 32 (puC (fun q p => I (b + 12 + q) p) n (I (b + 2 + x)))) := by
  have kx : kdC (b + 2 + x) = (1, 32, 0) := kd_row hb hx
  have k0 := kd_st0 hb
  obtain ⟨hB, hB0⟩ := pow_le32 n hn
  have hB2 : 2 ^ n < 2 ^ 31 := by omega
  have hbl : ∀ M : LM, KX6_blades l [.ref b] I M (some (.int (nI (2 ^ n)))) I M := fun M => qX6_blades l hb hn hdim M
  generalize hm : (fun q p => I (b + 12 + q) p) = m
  refine ⟨igF m n (I (b + 2 + x)) (L im) (2 ^ n), ?_⟩
  refine wX5_pushForm l rfl (hz0 (by decide)) (fun V hV => ?_)
  refine ru_go hV 6 [((b+1), 0), (x, 8), ((b+2+x), 5)] rfl rfl ⟨⟨trivial, ⟨k0, rfl⟩⟩, kd_fr hb hx⟩ ?_
  refine ru_S hV [] sSX5_21 (qX5_clear l hr I L) rfl rfl rfl (Nat.le_of_ble_eq_true rfl) ?_
  refine ru_go hV 2 [] rfl rfl trivial ?_
  refine loop0 (P := fun i => V 15 [(0, .ref b), (1, .int (nI x)), (2, .ref im), (3, .ref r), (4, .ref (b + 2 + x)), (5, .int (nI i))] [] I (lay (lay L im 32 (igF m n (I (b + 2 + x)) (L im) i)) r 32 (fun k => sumL (puI m n (I (b + 2 + x)) k) i))) (2 ^ n) (fun h => by rw [igF, lay_self] at h; exact h) (fun i hi ih => ?_) ?_
  · have hi32 : i < 32 := by omega
    have next : ∀ lv Lx, lv = [(0, .ref b), (1, .int (nI x)), (2, .ref im), (3, .ref r), (4, .ref (b + 2 + x)), (5, .int (nI i))] → Lx = (lay (lay L im 32 (igF m n (I (b + 2 + x)) (L im) (i + 1))) r 32 (fun k => sumL (puI m n (I (b + 2 + x)) k) (i + 1))) → V 91 lv [] I Lx := fun lv Lx e1 e2 => by
      subst e1; subst e2
      refine ru_go hV 2 [] rfl rfl trivial ?_
      rw [nI_1]
      exact ih
    refine ru_go hV 2 [] rfl rfl trivial ?_
    refine ru_V hV [.int (nI i)] sVX5_31 (hbl _) k0 rfl rfl rfl rfl (Nat.le_of_ble_eq_true rfl) ?_
    by_cases h0 : I (b + 2 + x) i = 0
    · refine ru_go hV 6 [(0, 0), (i, 32), (0, 0)] rfl rfl ⟨⟨⟨trivial, nI_nge hi hB2⟩, (by first | exact rfl | assumption | exact ⟨rfl, rfl⟩ | exact ⟨rfl, rfl, by omega⟩ | exact ⟨by assumption, rfl, by omega⟩ | exact ⟨⟨_, rfl, rfl⟩, by decide, by decide, rfl, by omega⟩ | omega | decide)⟩, (fun e => e h0)⟩ ?_
      refine next _ _ rfl ?_
      rw [igF, if_pos h0]
      exact lay_cong (fun k _ => by rw [sumL, puI_a0 h0, Int64.add_zero])
    · refine ru_go hV 8 [(0, 0), (i, 32), (1, 0)] rfl rfl ⟨⟨⟨trivial, nI_nge hi hB2⟩, (by first | exact rfl | assumption | exact ⟨rfl, rfl⟩ | exact ⟨rfl, rfl, by omega⟩ | exact ⟨by assumption, rfl, by omega⟩ | exact ⟨⟨_, rfl, rfl⟩, by decide, by decide, rfl, by omega⟩ | omega | decide)⟩, h0⟩ ?_
      refine ru_S hV [] sSX5_43 (qX5_pushBlade l hb hn hi him hdim _) rfl rfl rfl (Nat.le_of_ble_eq_true rfl) ?_
      rw [hm]
      have eim : lay (lay (lay L im 32 (igF m n (I (b + 2 + x)) (L im) i)) r 32 (fun k => sumL (puI m n (I (b + 2 + x)) k) i)) im 32 (ig m n i ((lay (lay L im 32 (igF m n (I (b + 2 + x)) (L im) i)) r 32 (fun k => sumL (puI m n (I (b + 2 + x)) k) i)) im) n) = lay (lay L im 32 (igF m n (I (b + 2 + x)) (L im) (i + 1))) r 32 (fun k => sumL (puI m n (I (b + 2 + x)) k) i) := by
        rw [lay_comm hne, lay_lay, lay_ne hne, lay_at]
        congr 1
        rw [igF, if_neg h0]
        exact lay_cong (fun k hk => ig_cong (fun j hj => by simp [cp0, hj]) n (by omega) k hk)
      rw [eim]
      refine ru_go hV 2 [] rfl rfl trivial ?_
      refine loop0 (P := fun j => V 45 [(0, .ref b), (1, .int (nI x)), (2, .ref im), (3, .ref r), (4, .ref (b + 2 + x)), (5, .int (nI i)), (6, .int (nI j))] [] I (lay (lay L im 32 (igF m n (I (b + 2 + x)) (L im) (i + 1))) r 32 (fun k => if k < j then sumL (puI m n (I (b + 2 + x)) k) (i + 1) else sumL (puI m n (I (b + 2 + x)) k) i))) (2 ^ n) (fun h => by simp only [Nat.not_lt_zero, if_false] at h; exact h) (fun j hj ih2 => ?_) ?_
      · have hj32 : j < 32 := by omega
        have pj := pc5_le j
        have pi := pc5_le i
        have step : ∀ lv Lx, lv = [(0, .ref b), (1, .int (nI x)), (2, .ref im), (3, .ref r), (4, .ref (b + 2 + x)), (5, .int (nI i)), (6, .int (nI j))] → Lx = (lay (lay L im 32 (igF m n (I (b + 2 + x)) (L im) (i + 1))) r 32 (fun k => if k < j + 1 then sumL (puI m n (I (b + 2 + x)) k) (i + 1) else sumL (puI m n (I (b + 2 + x)) k) i)) → V 85 lv [] I Lx := fun lv Lx e1 e2 => by
          subst e1; subst e2
          refine ru_go hV 2 [] rfl rfl trivial ?_
          rw [nI_1]
          exact ih2
        refine ru_go hV 2 [] rfl rfl trivial ?_
        refine ru_V hV [.int (nI j)] sVX5_31 (hbl _) k0 rfl rfl rfl rfl (Nat.le_of_ble_eq_true rfl) ?_
        refine ru_go hV 2 [(0, 0)] rfl rfl ⟨trivial, nI_nge hj hB2⟩ ?_
        refine ru_S hV [] sSX5_9 (qJ6_bitCount l hj32 I _) rfl rfl rfl (Nat.le_of_ble_eq_true rfl) ?_
        refine ru_go hV 1 [] rfl rfl trivial ?_
        refine ru_S hV [.int _] sSX5_9 (qJ6_bitCount l hi32 I _) rfl rfl rfl (Nat.le_of_ble_eq_true rfl) ?_
        by_cases hg : pc5 j = pc5 i
        · refine ru_go hV 15 [(0, 0), (j, 32), (i, 32), (j, 32), (j, 32)] rfl rfl ⟨⟨⟨⟨⟨trivial, (fun e => e (by rw [hg]))⟩, (by first | exact rfl | assumption | exact ⟨rfl, rfl⟩ | exact ⟨rfl, rfl, by omega⟩ | exact ⟨by assumption, rfl, by omega⟩ | exact ⟨⟨_, rfl, rfl⟩, by decide, by decide, rfl, by omega⟩ | omega | decide)⟩, (by first | exact rfl | assumption | exact ⟨rfl, rfl⟩ | exact ⟨rfl, rfl, by omega⟩ | exact ⟨by assumption, rfl, by omega⟩ | exact ⟨⟨_, rfl, rfl⟩, by decide, by decide, rfl, by omega⟩ | omega | decide)⟩, (by first | exact rfl | assumption | exact ⟨rfl, rfl⟩ | exact ⟨rfl, rfl, by omega⟩ | exact ⟨by assumption, rfl, by omega⟩ | exact ⟨⟨_, rfl, rfl⟩, by decide, by decide, rfl, by omega⟩ | omega | decide)⟩, (by first | exact rfl | assumption | exact ⟨rfl, rfl⟩ | exact ⟨rfl, rfl, by omega⟩ | exact ⟨by assumption, rfl, by omega⟩ | exact ⟨⟨_, rfl, rfl⟩, by decide, by decide, rfl, by omega⟩ | omega | decide)⟩ ?_
          refine step _ _ rfl ?_
          rw [lay_in hj32, lay_mu hj32, lay_ne hne, lay_in hj32, if_neg (Nat.lt_irrefl j)]
          refine lay_cong (fun k _ => ?_)
          by_cases hkj : k = j
          · subst hkj
            rw [if_pos rfl, if_pos (Nat.lt_succ_self k), sumL, igF, if_neg h0]
            congr 1
            rw [puI, if_pos ⟨hj, hg⟩, ig_gw hn n k hj (by rw [pcl_all n hn i hi, hg])]
          · have : k < j + 1 ↔ k < j := by omega
            simp only [hkj, if_false, this]
        · refine ru_go hV 1 [(1, 0)] rfl rfl ⟨trivial, (fun e => hg ((nI_eq (by omega) (by omega)).mp e))⟩ ?_
          refine step _ _ rfl (lay_cong (fun k _ => ?_))
          by_cases hkj : k = j
          · subst hkj
            rw [if_neg (Nat.lt_irrefl k), if_pos (Nat.lt_succ_self k), sumL, puI, if_neg (fun z => hg z.2), Int64.add_zero]
          · have : k < j + 1 ↔ k < j := by omega
            simp only [this]
      · refine ru_go hV 2 [] rfl rfl trivial ?_
        refine ru_V hV [.int (nI (2^n))] sVX5_31 (hbl _) k0 rfl rfl rfl rfl (Nat.le_of_ble_eq_true rfl) ?_
        refine ru_go hV 1 [(1, 0)] rfl rfl ⟨trivial, nI_le (Nat.le_refl _) hB2⟩ ?_
        refine ru_sub hV [0, 1, 2, 3, 4, 5] rfl (next _ _ rfl (lay_cong (fun k _ => ?_)))
        by_cases hk : k < 2 ^ n
        · rw [if_pos hk]
        · rw [if_neg hk, sumL, puI, if_neg (fun z => hk z.1), Int64.add_zero]
  · refine ru_go hV 2 [] rfl rfl trivial ?_
    refine ru_V hV [.int (nI (2^n))] sVX5_31 (hbl _) k0 rfl rfl rfl rfl (Nat.le_of_ble_eq_true rfl) ?_
    refine ru_fin hV 2 [(1, 0)] rfl rfl ⟨trivial, nI_le (Nat.le_refl _) hB2⟩ ?_
    exact ⟨rfl, rfl, rfl⟩
