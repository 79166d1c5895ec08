theorem qX5_innerOfForms (l : Launch) {b x y n : Nat} (hb : isSt b) (hx : x < 8) (hy : y < 8) (hn : n ≤ 5) {I : IM} (hdim : I b 0 = nI n) (L : LM) : KX5_innerOfForms l [.ref b, .int (nI x), .int (nI y)] I L (some (.long (inC (I (b + 10)) (I (b + 2 + x)) (I (b + 2 + y)) (2 ^ n)))) I L := by
  have kx : kdC (b + 2 + x) = (1, 32, 0) := kd_row hb hx
  have ky : kdC (b + 2 + y) = (1, 32, 0) := kd_row hb hy
  have ks := kd_sg hb
  have k0 := kd_st0 hb
  obtain ⟨hB, -⟩ := pow_le32 n hn
  have hbl : ∀ M : LM, KX6_blades l [.ref b] I M (some (.int (nI (2 ^ n)))) I M := fun M => qX6_blades l hb hn hdim M
  generalize 2 ^ n = B at hB hbl ⊢
  have hB2 : B < 2 ^ 31 := by omega
  refine wX5_innerOfForms l rfl (hz0 (by decide)) (fun V hV => ?_)
  refine ru_go hV 4 [] rfl rfl trivial ?_
  refine loop0 (P := fun i => V 5 [(0, .ref b), (1, .int (nI x)), (2, .int (nI y)), (3, .long (inC (I (b + 10)) (I (b + 2 + x)) (I (b + 2 + y)) i)), (5, .int (nI i))] [] I L) B (fun h => h) (fun i hi ih => ?_) ?_
  · have hi32 : i < 32 := by omega
    refine ru_go hV 2 [] rfl rfl trivial ?_
    refine ru_V hV [.int (nI i)] sVX5_31 (hbl _) k0 rfl rfl rfl rfl (Nat.le_of_ble_eq_true rfl) ?_
    refine ru_go hV 22 [(0, 0), ((b+1), 0), (x, 8), ((b+2+x), 5), (i, 32), ((b+1), 0), (y, 8), ((b+2+y), 5), (i, 32), ((b+10), 0)] rfl rfl ⟨⟨⟨⟨⟨⟨⟨⟨trivial, nI_nge hi hB2⟩, ⟨k0, rfl⟩⟩, kd_fr hb hx⟩, (by first | exact rfl | assumption | exact ⟨rfl, rfl⟩ | exact ⟨rfl, rfl, by omega⟩ | exact ⟨by assumption, rfl, by omega⟩ | exact ⟨⟨_, rfl, rfl⟩, by decide, by decide, rfl, by omega⟩ | omega | decide)⟩, ⟨k0, rfl⟩⟩, kd_fr hb hy⟩, (by first | exact rfl | assumption | exact ⟨rfl, rfl⟩ | exact ⟨rfl, rfl, by omega⟩ | exact ⟨by assumption, rfl, by omega⟩ | exact ⟨⟨_, rfl, rfl⟩, by decide, by decide, rfl, by omega⟩ | omega | decide)⟩, ⟨k0, rfl⟩⟩ ?_
    refine ru_S hV [.long _, .long _] sSX5_39 (qX5_signOfBlade l ks hi32 I _) rfl rfl rfl (Nat.le_of_ble_eq_true rfl) ?_
    refine ru_go hV 6 [] rfl rfl trivial ?_
    rw [nI_1]
    exact ru_sub hV [0, 1, 2, 3, 4] rfl ih
  · refine ru_go hV 2 [] rfl rfl trivial ?_
    refine ru_V hV [.int (nI B)] sVX5_31 (hbl _) k0 rfl rfl rfl rfl (Nat.le_of_ble_eq_true rfl) ?_
    refine ru_fin hV 3 [(1, 0)] rfl rfl ⟨trivial, nI_le (Nat.le_refl B) hB2⟩ ?_
    exact ⟨rfl, rfl, rfl⟩
theorem qX5_wedgeWithColumn (l : Launch) {b t c n r : Nat} (hb : isSt b) (ht : t < 32) (hc : c < 5) (hr : kdC r = (2, 32, 0)) (hn : n ≤ 5) {I : IM} (hdim : I b 0 = nI n) (L : LM) : KX5_wedgeWithColumn l [.ref b, .int (nI t), .int (nI c), .ref r] I L (some (.long (wcs (fun q p => I (b + 12 + q) p) n c (L r) t))) I L := by
  have k0 := kd_st0 hb
  refine wX5_wedgeWithColumn l rfl (hz0 (by decide)) (fun V hV => ?_)
  refine ru_go hV 4 [] rfl rfl trivial ?_
  refine loop0 (P := fun q => V 6 [(0, .ref b), (1, .int (nI t)), (2, .int (nI c)), (3, .ref r), (4, .long (wcs (fun q p => I (b + 12 + q) p) q c (L r) t)), (6, .int (nI q))] [] I L) n (fun h => h) (fun q hq ih => ?_) ?_
  · have hq5 : q < 5 := by omega
    have hp := pow2_lt q hq5
    have esh := bl_sh q (by omega)
    have km := kd_mrow (x := q) hb hq5
    refine ru_go hV 8 [(0, 0)] rfl rfl ⟨⟨trivial, k0⟩, (by rw [hdim]; exact nI_nge hq (by omega))⟩ ?_
    rw [esh]
    by_cases h : t.testBit q = true
    · have hx := xor_lt t ht (2 ^ q) hp
      have ex := xorI t ht (2 ^ q) hp
      refine ru_go hV 4 [(0, 0)] rfl rfl ⟨trivial, (fun e => by rw [(tb_and t ht q hq5).mp e] at h; cases h)⟩ ?_
      refine ru_go hV 4 [] rfl rfl trivial ?_
      rw [ex]
      refine ru_go hV 15 [((t^^^2^q), 32), ((b+11), 0), (q, 5), ((b+12+q), 5), (c, 5)] rfl rfl ⟨⟨⟨⟨trivial, (by first | exact rfl | assumption | exact ⟨rfl, rfl⟩ | exact ⟨rfl, rfl, by omega⟩ | exact ⟨by assumption, rfl, by omega⟩ | exact ⟨⟨_, rfl, rfl⟩, by decide, by decide, rfl, by omega⟩ | omega | decide)⟩, ⟨k0, rfl⟩⟩, kd_mr hb hq5⟩, (by first | exact rfl | assumption | exact ⟨rfl, rfl⟩ | exact ⟨rfl, rfl, by omega⟩ | exact ⟨by assumption, rfl, by omega⟩ | exact ⟨⟨_, rfl, rfl⟩, by decide, by decide, rfl, by omega⟩ | omega | decide)⟩ ?_
      refine ru_S hV [.long _] sSX5_27 (qX5_oddTurns l hx hp I L) rfl rfl rfl (Nat.le_of_ble_eq_true rfl) ?_
      have fin : ∀ o : Bool, o = odT (t ^^^ 2 ^ q) (2 ^ q) → wcs (fun q p => I (b + 12 + q) p) q c (L r) t + sg o (L r (t ^^^ 2 ^ q) * (I (b + 12 + q) c).toInt64) = wcs (fun q p => I (b + 12 + q) p) (q + 1) c (L r) t := fun o ho => by
        simp only [wcs, sumL, h, if_true, ho]
      cases ho : odT (t ^^^ 2 ^ q) (2 ^ q) with
      | false =>
        refine ru_go hV 6 [(1, 0)] rfl rfl ⟨trivial, (by first | exact rfl | assumption | exact ⟨rfl, rfl⟩ | exact ⟨rfl, rfl, by omega⟩ | exact ⟨by assumption, rfl, by omega⟩ | exact ⟨⟨_, rfl, rfl⟩, by decide, by decide, rfl, by omega⟩ | omega | decide)⟩ ?_
        rw [nI_1]
        refine ru_sub hV [0, 1, 2, 3, 4, 5] rfl ?_
        rw [← fin false ho.symm] at ih
        exact ih
      | true =>
        refine ru_go hV 8 [(0, 0)] rfl rfl ⟨trivial, (by first | exact rfl | assumption | exact ⟨rfl, rfl⟩ | exact ⟨rfl, rfl, by omega⟩ | exact ⟨by assumption, rfl, by omega⟩ | exact ⟨⟨_, rfl, rfl⟩, by decide, by decide, rfl, by omega⟩ | omega | decide)⟩ ?_
        rw [nI_1]
        refine ru_sub hV [0, 1, 2, 3, 4, 5] rfl ?_
        rw [← fin true ho.symm] at ih
        exact ih
    · refine ru_go hV 6 [(1, 0)] rfl rfl ⟨trivial, (tb_and t ht q hq5).mpr (by simpa using h)⟩ ?_
      rw [nI_1]
      refine ru_sub hV [0, 1, 2, 3, 4, 5] rfl ?_
      have e : wcs (fun q p => I (b + 12 + q) p) (q + 1) c (L r) t = wcs (fun q p => I (b + 12 + q) p) q c (L r) t := by simp [wcs, sumL, h]
      rw [e] at ih
      exact ih
  · refine ru_fin hV 6 [(1, 0)] rfl rfl ⟨⟨trivial, k0⟩, (by rw [hdim]; exact nI_le (Nat.le_refl n) (by omega))⟩ ?_
    exact ⟨rfl, rfl, rfl⟩
theorem qX5_pushBlade (l : Launch) {b t n r : Nat} (hb : isSt b) (hn : n ≤ 5) (ht : t < 2 ^ n) (hr : kdC r = (2, 32, 0)) {I : IM} (hdim : I b 0 = nI n) (L : LM) : KX5_pushBlade l [.ref b, .int (nI t), .ref r] I L none I (lay L r 32 (ig (fun q p => I (b + 12 + q) p) n t (L r) n)) := by
  have k0 := kd_st0 hb
  have ht32 := pow_mono n hn t ht
  obtain ⟨hB, -⟩ := pow_le32 n hn
  have hbl : ∀ M : LM, KX6_blades l [.ref b] I M (some (.int (nI (2 ^ n)))) I M := fun M => qX6_blades l hb hn hdim M
  have hB2 : 2 ^ n < 2 ^ 31 := by omega
  refine wX5_pushBlade l rfl (hz0 (by decide)) (fun V hV => ?_)
  refine ru_go hV 8 [(0, 32)] rfl rfl ⟨trivial, ⟨hr, rfl, by decide⟩⟩ ?_
  have e0 : mu L r 0 1 = lay L r 32 (ig (fun q p => I (b + 12 + q) p) n t (L r) 0) := by
    have : mu (lay L r 32 (L r)) r 0 1 = lay L r 32 (fun q => if q = 0 then 1 else L r q) := lay_mu (by decide)
    rw [lay_self] at this
    exact this
  rw [e0]
  refine loop0 (P := fun c => V 9 [(0, .ref b), (1, .int (nI t)), (2, .ref r), (3, .int (nI (pcl t c))), (4, .int (nI c))] [] I (lay L r 32 (ig (fun q p => I (b + 12 + q) p) n t (L r) c))) n (fun h => h) (fun c hc ih => ?_) ?_
  · have hc5 : c < 5 := by omega
    have next : ∀ lv Lx, lv = [(0, .ref b), (1, .int (nI t)), (2, .ref r), (3, .int (nI (pcl t (c + 1)))), (4, .int (nI c))] → Lx = lay L r 32 (ig (fun q p => I (b + 12 + q) p) n t (L r) (c + 1)) → V 73 lv [] I Lx := fun lv Lx e1 e2 => by
      subst e1; subst e2
      refine ru_go hV 2 [] rfl rfl trivial ?_
      rw [nI_1]
      exact ih
    by_cases h : t.testBit c = true
    · have epcl : pcl t (c + 1) = pcl t c + 1 := by simp [pcl, h]
      refine ru_go hV 13 [(0, 0), (1, 0)] rfl rfl ⟨⟨⟨trivial, k0⟩, (by rw [hdim]; exact nI_nge hc (by omega))⟩, (fun e => by rw [(bit_tst0 t ht32 c hc5).mp e] at h; cases h)⟩ ?_
      rw [nI_1, ← epcl]
      have hg := pcl_le (c + 1) (by omega) t ht32
      refine loop0 (P := fun j => V 36 [(0, .ref b), (1, .int (nI t)), (2, .ref r), (3, .int (nI (pcl t (c + 1)))), (4, .int (nI c)), (5, .int (nI j))] [] I (lay L r 32 (fun k => if k < j ∧ pc5 k = pcl t (c + 1) then wcs (fun q p => I (b + 12 + q) p) n c (ig (fun q p => I (b + 12 + q) p) n t (L r) c) k else ig (fun q p => I (b + 12 + q) p) n t (L r) c k))) (2 ^ n) (fun h => by simp only [Nat.not_lt_zero, false_and, if_false] at h; exact h) (fun j hj ih2 => ?_) ?_
      · have hj32 : j < 32 := by omega
        refine ru_go hV 2 [] rfl rfl trivial ?_
        refine ru_V hV [.int (nI j)] sVX5_31 (hbl _) k0 rfl rfl rfl rfl (Nat.le_of_ble_eq_true rfl) ?_
        refine ru_go hV 2 [(0, 0)] rfl rfl ⟨trivial, nI_nge hj hB2⟩ ?_
        refine ru_S hV [] sSX5_9 (qJ6_bitCount l hj32 I _) rfl rfl rfl (Nat.le_of_ble_eq_true rfl) ?_
        have hj5 := pc5_le j
        by_cases hg1 : pc5 j = pcl t (c + 1)
        · refine ru_go hV 8 [(0, 0)] rfl rfl ⟨trivial, (fun e => e (by rw [hg1]))⟩ ?_
          refine ru_S hV [.int _, .ref r] sSX5_51 (qX5_wedgeWithColumn l hb hj32 hc5 hr hn hdim _) rfl rfl rfl (Nat.le_of_ble_eq_true rfl) ?_
          refine ru_go hV 3 [(j, 32)] rfl rfl ⟨trivial, (by first | exact rfl | assumption | exact ⟨rfl, rfl⟩ | exact ⟨rfl, rfl, by omega⟩ | exact ⟨by assumption, rfl, by omega⟩ | exact ⟨⟨_, rfl, rfl⟩, by decide, by decide, rfl, by omega⟩ | omega | decide)⟩ ?_
          rw [nI_1, lay_mu hj32]
          have e1 : ∀ f : Nat → Int64, (∀ q, q < n → j.testBit q = true → f (j ^^^ 2 ^ q) = ig (fun q p => I (b + 12 + q) p) n t (L r) c (j ^^^ 2 ^ q)) → wcs (fun q p => I (b + 12 + q) p) n c f j = wcs (fun q p => I (b + 12 + q) p) n c (ig (fun q p => I (b + 12 + q) p) n t (L r) c) j := fun f hf => by
            unfold wcs
            refine sumL_cong (fun q hq => ?_)
            by_cases hbq : j.testBit q = true
            · simp only [hbq, if_true]
              rw [hf q hq hbq]
            · simp only [hbq]
              rfl
          rw [e1 _ (fun q hq hbq => by
            obtain ⟨d1, d2⟩ := pc5_drop j hj32 q (by omega) hbq
            rw [lay_in (by omega), if_neg (fun z => by have := z.2; omega)])]
          refine ru_sub hV [0, 1, 2, 3, 4, 5] rfl ?_
          have e2 : ∀ k, k < 32 → (if k = j then wcs (fun q p => I (b + 12 + q) p) n c (ig (fun q p => I (b + 12 + q) p) n t (L r) c) j else if k < j ∧ pc5 k = pcl t (c + 1) then wcs (fun q p => I (b + 12 + q) p) n c (ig (fun q p => I (b + 12 + q) p) n t (L r) c) k else ig (fun q p => I (b + 12 + q) p) n t (L r) c k) = (if k < j + 1 ∧ pc5 k = pcl t (c + 1) then wcs (fun q p => I (b + 12 + q) p) n c (ig (fun q p => I (b + 12 + q) p) n t (L r) c) k else ig (fun q p => I (b + 12 + q) p) n t (L r) c k) := fun k _ => by
            by_cases hkj : k = j
            · subst hkj
              rw [if_pos rfl, if_pos ⟨Nat.lt_succ_self k, hg1⟩]
            · have : k < j + 1 ↔ k < j := by omega
              simp only [hkj, if_false, this]
          rw [lay_cong e2]
          exact ih2
        · refine ru_go hV 4 [(1, 0)] rfl rfl ⟨trivial, (fun e => hg1 ((nI_eq (by omega) (by omega)).mp e))⟩ ?_
          rw [nI_1]
          refine ru_sub hV [0, 1, 2, 3, 4, 5] rfl ?_
          have e2 : ∀ k, k < 32 → (if k < j + 1 ∧ pc5 k = pcl t (c + 1) then wcs (fun q p => I (b + 12 + q) p) n c (ig (fun q p => I (b + 12 + q) p) n t (L r) c) k else ig (fun q p => I (b + 12 + q) p) n t (L r) c k) = (if k < j ∧ pc5 k = pcl t (c + 1) then wcs (fun q p => I (b + 12 + q) p) n c (ig (fun q p => I (b + 12 + q) p) n t (L r) c) k else ig (fun q p => I (b + 12 + q) p) n t (L r) c k) := fun k _ => by
            by_cases hkj : k = j
            · subst hkj
              rw [if_neg (fun z => hg1 z.2), if_neg (fun z => hg1 z.2)]
            · have : k < j + 1 ↔ k < j := by omega
              simp only [this]
          rw [lay_cong e2] at ih2
          exact ih2
      · refine ru_go hV 2 [] rfl rfl trivial ?_
        refine ru_V hV [.int (nI (2^n))] sVX5_31 (hbl _) k0 rfl rfl rfl rfl (Nat.le_of_ble_eq_true rfl) ?_
        refine ru_go hV 1 [(1, 0)] rfl rfl ⟨trivial, nI_le (Nat.le_refl _) hB2⟩ ?_
        exact ru_sub hV [0, 1, 2, 3, 4] rfl (next _ _ rfl (by simp only [ig, h, if_true]))
    · refine ru_go hV 11 [(0, 0), (0, 0)] rfl rfl ⟨⟨⟨trivial, k0⟩, (by rw [hdim]; exact nI_nge hc (by omega))⟩, (fun e => e ((bit_tst0 t ht32 c hc5).mpr (by simpa using h)))⟩ ?_
      exact next _ _ (by simp [pcl, h]) (by simp [ig, h])
  · refine ru_fin hV 5 [(1, 0)] rfl rfl ⟨⟨trivial, k0⟩, (by rw [hdim]; exact nI_le (Nat.le_refl n) (by omega))⟩ ?_
    exact ⟨rfl, rfl, rfl⟩
