theorem qX5_wedgeForms (l : Launch) {c d r n : Nat} (hc : kdC c = (1, 32, 0)) (hd : kdC d = (1, 32, 0)) (hr : kdC r = (2, 32, 0)) (hn : n ≤ 5) (I : IM) (L : LM) : KX5_wedgeForms l [.ref c, .ref d, .int (nI (2 ^ n)), .ref r] I L none I (lay L r 32 (fun k => wC (I c) (I d) (2 ^ n) k)) := by
  obtain ⟨hB, -⟩ := pow_le32 n hn
  generalize 2 ^ n = B at hB ⊢
  have hB2 : B < 2 ^ 31 := by omega
  refine wX5_wedgeForms l rfl (hz0 (by decide)) (fun V hV => ?_)
  refine ru_go hV 1 [] rfl rfl trivial ?_
  refine ru_S hV [] sSX5_21 (qX5_clear l hr I L) rfl rfl rfl (by decide) ?_
  refine ru_go hV 2 [] rfl rfl trivial ?_
  refine loop0 (P := fun i => V 7 [(0, .ref c), (1, .ref d), (2, .int (nI B)), (3, .ref r), (4, .int (nI i))] [] I (lay L r 32 (fun k => sumL (fun q => wI (I c) (I d) q B k) i))) B (fun h => h) (fun i hi ih => ?_) ?_
  · have hi32 : i < 32 := by omega
    have next : ∀ Lx : LM, Lx = lay L r 32 (fun k => sumL (fun q => wI (I c) (I d) q B k) (i + 1)) → V 94 [(0, .ref c), (1, .ref d), (2, .int (nI B)), (3, .ref r), (4, .int (nI i))] [] I Lx := fun Lx e => by
      subst e
      refine ru_go hV 2 [] rfl rfl trivial ?_
      rw [nI_1]
      exact ih
    by_cases h0 : I c i = 0
    · refine ru_go hV 8 [(0, 0), (i, 32), (0, 0)] rfl rfl ⟨⟨⟨trivial, nI_nge hi hB2⟩, (by first | exact rfl | assumption | exact ⟨rfl, rfl⟩ | exact ⟨rfl, rfl, by omega⟩ | exact ⟨by assumption, rfl, by omega⟩ | exact ⟨⟨_, rfl, rfl⟩, by decide, by decide, rfl, by omega⟩ | omega | decide)⟩, (fun e => e h0)⟩ ?_
      exact next _ (lay_cong (fun k _ => by rw [sumL, wI_a0 h0, Int64.add_zero]))
    · refine ru_go hV 9 [(0, 0), (i, 32), (1, 0)] rfl rfl ⟨⟨⟨trivial, nI_nge hi hB2⟩, (by first | exact rfl | assumption | exact ⟨rfl, rfl⟩ | exact ⟨rfl, rfl, by omega⟩ | exact ⟨by assumption, rfl, by omega⟩ | exact ⟨⟨_, rfl, rfl⟩, by decide, by decide, rfl, by omega⟩ | omega | decide)⟩, h0⟩ ?_
      refine loop0 (P := fun j => V 26 [(0, .ref c), (1, .ref d), (2, .int (nI B)), (3, .ref r), (4, .int (nI i)), (5, .int (nI j))] [] I (lay L r 32 (fun k => sumL (fun q => wI (I c) (I d) q B k) i + wI (I c) (I d) i j k))) B (fun h => by simp only [wI_0, Int64.add_zero] at h; exact h) (fun j hj ih2 => ?_) ?_
      · have hj32 : j < 32 := by omega
        have step : ∀ lv Lx, lv = [(0, .ref c), (1, .ref d), (2, .int (nI B)), (3, .ref r), (4, .int (nI i)), (5, .int (nI j))] → Lx = lay L r 32 (fun k => sumL (fun q => wI (I c) (I d) q B k) i + wI (I c) (I d) i (j + 1) k) → V 88 lv [] I Lx := fun lv Lx e1 e2 => by
          subst e1; subst e2
          refine ru_go hV 2 [] rfl rfl trivial ?_
          rw [nI_1]
          exact ih2
        by_cases h1 : i &&& j = 0
        · by_cases h2 : I d j = 0
          · refine ru_go hV 11 [(0, 0), (0, 0), (j, 32), (1, 0)] rfl rfl ⟨⟨⟨⟨trivial, nI_nge hj hB2⟩, (fun e => e ((andI0 hi32 hj32).mpr h1))⟩, (by first | exact rfl | assumption | exact ⟨rfl, rfl⟩ | exact ⟨rfl, rfl, by omega⟩ | exact ⟨by assumption, rfl, by omega⟩ | exact ⟨⟨_, rfl, rfl⟩, by decide, by decide, rfl, by omega⟩ | omega | decide)⟩, h2⟩ ?_
            exact step _ _ rfl (lay_cong (fun k hk => by rw [wI_b0 hi32 hj32 hk h2]))
          · refine ru_go hV 29 [(0, 0), (0, 0), (j, 32), (0, 0), (i, 32), (j, 32), ((i|||j), 32)] rfl rfl ⟨⟨⟨⟨⟨⟨⟨trivial, nI_nge hj hB2⟩, (fun e => e ((andI0 hi32 hj32).mpr h1))⟩, (by first | exact rfl | assumption | exact ⟨rfl, rfl⟩ | exact ⟨rfl, rfl, by omega⟩ | exact ⟨by assumption, rfl, by omega⟩ | exact ⟨⟨_, rfl, rfl⟩, by decide, by decide, rfl, by omega⟩ | omega | decide)⟩, h2⟩, (by first | exact rfl | assumption | exact ⟨rfl, rfl⟩ | exact ⟨rfl, rfl, by omega⟩ | exact ⟨by assumption, rfl, by omega⟩ | exact ⟨⟨_, rfl, rfl⟩, by decide, by decide, rfl, by omega⟩ | omega | decide)⟩, (by first | exact rfl | assumption | exact ⟨rfl, rfl⟩ | exact ⟨rfl, rfl, by omega⟩ | exact ⟨by assumption, rfl, by omega⟩ | exact ⟨⟨_, rfl, rfl⟩, by decide, by decide, rfl, by omega⟩ | omega | decide)⟩, ⟨hr, orI i hi32 j hj32, or_lt i hi32 j hj32⟩⟩ ?_
            refine ru_S hV [.long _, .int _, .ref r] sSX5_27 (qX5_oddTurns l hi32 hj32 I _) rfl rfl rfl (Nat.le_of_ble_eq_true rfl) ?_
            have fin : ∀ o : Bool, o = odT i j → mu (lay L r 32 (fun k => sumL (fun q => wI (I c) (I d) q B k) i + wI (I c) (I d) i j k)) r (i ||| j) (lay L r 32 (fun k => sumL (fun q => wI (I c) (I d) q B k) i + wI (I c) (I d) i j k) r (i ||| j) + sg o ((I c i).toInt64 * (I d j).toInt64)) = lay L r 32 (fun k => sumL (fun q => wI (I c) (I d) q B k) i + wI (I c) (I d) i (j + 1) k) := fun o ho => by
              have hor := or_lt i hi32 j hj32
              obtain ⟨e1, e2⟩ := wI_hit (a := I c) (b := I d) hi32 hj32 h1
              rw [lay_in hor, lay_mu hor, ho]
              refine lay_cong (fun k hk => ?_)
              by_cases hkk : k = i ||| j
              · subst hkk
                rw [if_pos rfl, e1, e2, Int64.add_zero]
              · rw [if_neg hkk, wI_miss hi32 hk (fun _ => hkk)]
            cases ho : odT i j with
            | false =>
              refine ru_go hV 4 [(1, 0), ((i|||j), 32)] rfl rfl ⟨⟨trivial, (by first | exact rfl | assumption | exact ⟨rfl, rfl⟩ | exact ⟨rfl, rfl, by omega⟩ | exact ⟨by assumption, rfl, by omega⟩ | exact ⟨⟨_, rfl, rfl⟩, by decide, by decide, rfl, by omega⟩ | omega | decide)⟩, ⟨hr, orI i hi32 j hj32, or_lt i hi32 j hj32⟩⟩ ?_
              exact ru_sub hV [0, 1, 2, 3, 4, 5] rfl (step _ _ rfl (fin false ho.symm))
            | true =>
              refine ru_go hV 6 [(0, 0), ((i|||j), 32)] rfl rfl ⟨⟨trivial, (by first | exact rfl | assumption | exact ⟨rfl, rfl⟩ | exact ⟨rfl, rfl, by omega⟩ | exact ⟨by assumption, rfl, by omega⟩ | exact ⟨⟨_, rfl, rfl⟩, by decide, by decide, rfl, by omega⟩ | omega | decide)⟩, ⟨hr, orI i hi32 j hj32, or_lt i hi32 j hj32⟩⟩ ?_
              exact ru_sub hV [0, 1, 2, 3, 4, 5] rfl (step _ _ rfl (fin true ho.symm))
        · refine ru_go hV 7 [(0, 0), (1, 0)] rfl rfl ⟨⟨trivial, nI_nge hj hB2⟩, (fun e => h1 ((andI0 hi32 hj32).mp e))⟩ ?_
          exact step _ _ rfl (lay_cong (fun k hk => by rw [wI_miss hi32 hk (fun e => absurd e h1)]))
      · refine ru_go hV 3 [(1, 0)] rfl rfl ⟨trivial, nI_le (Nat.le_refl B) hB2⟩ ?_
        exact ru_sub hV [0, 1, 2, 3, 4] rfl (next _ rfl)
  · refine ru_fin hV 4 [(1, 0)] rfl rfl ⟨trivial, nI_le (Nat.le_refl B) hB2⟩ ?_
    exact ⟨rfl, rfl, rfl⟩
theorem qX5_contractForms (l : Launch) {b x y r n : Nat} (hb : isSt b) (hx : x < 8) (hy : y < 8) (hr : kdC r = (2, 32, 0)) (hn : n ≤ 5) {I : IM} (hdim : I b 0 = nI n) (L : LM) : KX5_contractForms l [.ref b, .int (nI x), .int (nI y), .ref r] I L none I (lay L r 32 (fun k => cC (I (b + 10)) (I (b + 2 + x)) (I (b + 2 + y)) (2 ^ n) k)) := by
  have kx : kdC (b + 2 + x) = (1, 32, 0) := kd_row hb hx
  have ky : kdC (b + 2 + y) = (1, 32, 0) := kd_row hb hy
  have ks := kd_sg hb
  have k0 := kd_st0 hb
  obtain ⟨hB, -⟩ := pow_le32 n hn
  have hbl : ∀ M : LM, KX6_blades l [.ref b] I M (some (.int (nI (2 ^ n)))) I M := fun M => qX6_blades l hb hn hdim M
  generalize 2 ^ n = B at hB hbl ⊢
  have hB2 : B < 2 ^ 31 := by omega
  refine wX5_contractForms l rfl (hz0 (by decide)) (fun V hV => ?_)
  refine ru_go hV 11 [((b+1), 0), (x, 8), ((b+2+x), 5), ((b+1), 0), (y, 8), ((b+2+y), 5)] rfl rfl ⟨⟨⟨⟨trivial, ⟨k0, rfl⟩⟩, kd_fr hb hx⟩, ⟨k0, rfl⟩⟩, kd_fr hb hy⟩ ?_
  refine ru_S hV [] sSX5_21 (qX5_clear l hr I L) rfl rfl rfl (Nat.le_of_ble_eq_true rfl) ?_
  refine ru_go hV 2 [] rfl rfl trivial ?_
  refine loop0 (P := fun i => V 23 [(0, .ref b), (1, .int (nI x)), (2, .int (nI y)), (3, .ref r), (4, .ref (b + 2 + x)), (5, .ref (b + 2 + y)), (6, .int (nI i))] [] I (lay L r 32 (fun k => sumL (fun q => cI (I (b + 10)) (I (b + 2 + x)) (I (b + 2 + y)) q B k) i))) B (fun h => h) (fun i hi ih => ?_) ?_
  · have hi32 : i < 32 := by omega
    have next : ∀ lv (Lx : LM), lv = [(0, .ref b), (1, .int (nI x)), (2, .int (nI y)), (3, .ref r), (4, .ref (b + 2 + x)), (5, .ref (b + 2 + y)), (6, .int (nI i))] → Lx = lay L r 32 (fun k => sumL (fun q => cI (I (b + 10)) (I (b + 2 + x)) (I (b + 2 + y)) q B k) (i + 1)) → V 138 lv [] I Lx := fun lv Lx e1 e => by
      subst e; subst e1
      refine ru_go hV 2 [] rfl rfl trivial ?_
      rw [nI_1]
      exact ih
    refine ru_go hV 2 [] rfl rfl trivial ?_
    refine ru_V hV [.int (nI i)] sVX5_31 (hbl _) k0 rfl rfl rfl rfl (Nat.le_of_ble_eq_true rfl) ?_
    by_cases h0 : I (b + 2 + x) i = 0
    · refine ru_go hV 6 [(0, 0), (i, 32), (0, 0)] rfl rfl ⟨⟨⟨trivial, nI_nge hi hB2⟩, (by first | exact rfl | assumption | exact ⟨rfl, rfl⟩ | exact ⟨rfl, rfl, by omega⟩ | exact ⟨by assumption, rfl, by omega⟩ | exact ⟨⟨_, rfl, rfl⟩, by decide, by decide, rfl, by omega⟩ | omega | decide)⟩, (fun e => e h0)⟩ ?_
      exact next _ _ rfl (lay_cong (fun k _ => by rw [sumL, cI_a0 h0, Int64.add_zero]))
    · refine ru_go hV 8 [(0, 0), (i, 32), (1, 0), ((b+10), 0)] rfl rfl ⟨⟨⟨⟨trivial, nI_nge hi hB2⟩, (by first | exact rfl | assumption | exact ⟨rfl, rfl⟩ | exact ⟨rfl, rfl, by omega⟩ | exact ⟨by assumption, rfl, by omega⟩ | exact ⟨⟨_, rfl, rfl⟩, by decide, by decide, rfl, by omega⟩ | omega | decide)⟩, h0⟩, ⟨k0, rfl⟩⟩ ?_
      refine ru_S hV [] sSX5_39 (qX5_signOfBlade l ks hi32 I _) rfl rfl rfl (Nat.le_of_ble_eq_true rfl) ?_
      refine ru_go hV 3 [] rfl rfl trivial ?_
      refine loop0 (P := fun j => V 57 [(0, .ref b), (1, .int (nI x)), (2, .int (nI y)), (3, .ref r), (4, .ref (b + 2 + x)), (5, .ref (b + 2 + y)), (6, .int (nI i)), (7, .int (sgn (I (b + 10)) i)), (8, .int (nI j))] [] I (lay L r 32 (fun k => sumL (fun q => cI (I (b + 10)) (I (b + 2 + x)) (I (b + 2 + y)) q B k) i + cI (I (b + 10)) (I (b + 2 + x)) (I (b + 2 + y)) i j k))) B (fun h => by simp only [cI_0, Int64.add_zero] at h; exact h) (fun j hj ih2 => ?_) ?_
      · have hj32 : j < 32 := by omega
        have step : ∀ lv Lx, lv = [(0, .ref b), (1, .int (nI x)), (2, .int (nI y)), (3, .ref r), (4, .ref (b + 2 + x)), (5, .ref (b + 2 + y)), (6, .int (nI i)), (7, .int (sgn (I (b + 10)) i)), (8, .int (nI j))] → Lx = lay L r 32 (fun k => sumL (fun q => cI (I (b + 10)) (I (b + 2 + x)) (I (b + 2 + y)) q B k) i + cI (I (b + 10)) (I (b + 2 + x)) (I (b + 2 + y)) i (j + 1) k) → V 132 lv [] I Lx := fun lv Lx e1 e2 => by
          subst e1; subst e2
          refine ru_go hV 2 [] rfl rfl trivial ?_
          rw [nI_1]
          exact ih2
        refine ru_go hV 2 [] rfl rfl trivial ?_
        refine ru_V hV [.int (nI j)] sVX5_31 (hbl _) k0 rfl rfl rfl rfl (Nat.le_of_ble_eq_true rfl) ?_
        by_cases h1 : i &&& j = 0
        · have hor := or_lt i hi32 j hj32
          have eor : nI i ||| nI j = nI (i ||| j) := orI i hi32 j hj32
          by_cases h2 : I (b + 2 + y) (i ||| j) = 0
          · refine ru_go hV 11 [(0, 0), (0, 0), ((i|||j), 32), (1, 0)] rfl rfl ⟨⟨⟨⟨trivial, nI_nge hj hB2⟩, (fun e => e ((andI0 hi32 hj32).mpr h1))⟩, ⟨ky, eor, hor⟩⟩, h2⟩ ?_
            exact step _ _ rfl (lay_cong (fun k hk => by rw [cI_b0 h2]))
          · refine ru_go hV 32 [(0, 0), (0, 0), ((i|||j), 32), (0, 0), (i, 32), ((i|||j), 32), (j, 32)] rfl rfl ⟨⟨⟨⟨⟨⟨⟨trivial, nI_nge hj hB2⟩, (fun e => e ((andI0 hi32 hj32).mpr h1))⟩, ⟨ky, eor, hor⟩⟩, h2⟩, (by first | exact rfl | assumption | exact ⟨rfl, rfl⟩ | exact ⟨rfl, rfl, by omega⟩ | exact ⟨by assumption, rfl, by omega⟩ | exact ⟨⟨_, rfl, rfl⟩, by decide, by decide, rfl, by omega⟩ | omega | decide)⟩, ⟨ky, eor, hor⟩⟩, (by first | exact rfl | assumption | exact ⟨rfl, rfl⟩ | exact ⟨rfl, rfl, by omega⟩ | exact ⟨by assumption, rfl, by omega⟩ | exact ⟨⟨_, rfl, rfl⟩, by decide, by decide, rfl, by omega⟩ | omega | decide)⟩ ?_
            refine ru_S hV [.long _, .int _, .ref r] sSX5_27 (qX5_oddTurns l hi32 hj32 I _) rfl rfl rfl (Nat.le_of_ble_eq_true rfl) ?_
            have fin : ∀ o : Bool, o = odT i j → mu (lay L r 32 (fun k => sumL (fun q => cI (I (b + 10)) (I (b + 2 + x)) (I (b + 2 + y)) q B k) i + cI (I (b + 10)) (I (b + 2 + x)) (I (b + 2 + y)) i j k)) r j (lay L r 32 (fun k => sumL (fun q => cI (I (b + 10)) (I (b + 2 + x)) (I (b + 2 + y)) q B k) i + cI (I (b + 10)) (I (b + 2 + x)) (I (b + 2 + y)) i j k) r j + sg o ((I (b + 2 + x) i).toInt64 * (I (b + 2 + y) (i ||| j)).toInt64 * (sgn (I (b + 10)) i).toInt64)) = lay L r 32 (fun k => sumL (fun q => cI (I (b + 10)) (I (b + 2 + x)) (I (b + 2 + y)) q B k) i + cI (I (b + 10)) (I (b + 2 + x)) (I (b + 2 + y)) i (j + 1) k) := fun o ho => by
              obtain ⟨e1, e2⟩ := cI_hit (s := I (b + 10)) (a := I (b + 2 + x)) (b := I (b + 2 + y)) h1
              rw [lay_in hj32, lay_mu hj32, ho]
              refine lay_cong (fun k hk => ?_)
              by_cases hkk : k = j
              · subst hkk
                rw [if_pos rfl, e1, e2, Int64.add_zero]
              · rw [if_neg hkk, cI_miss (fun _ => hkk)]
            cases ho : odT i j with
            | false =>
              refine ru_go hV 4 [(1, 0), (j, 32)] rfl rfl ⟨⟨trivial, (by first | exact rfl | assumption | exact ⟨rfl, rfl⟩ | exact ⟨rfl, rfl, by omega⟩ | exact ⟨by assumption, rfl, by omega⟩ | exact ⟨⟨_, rfl, rfl⟩, by decide, by decide, rfl, by omega⟩ | omega | decide)⟩, (by first | exact rfl | assumption | exact ⟨rfl, rfl⟩ | exact ⟨rfl, rfl, by omega⟩ | exact ⟨by assumption, rfl, by omega⟩ | exact ⟨⟨_, rfl, rfl⟩, by decide, by decide, rfl, by omega⟩ | omega | decide)⟩ ?_
              exact ru_sub hV [0, 1, 2, 3, 4, 5, 6, 7, 8] rfl (step _ _ rfl (fin false ho.symm))
            | true =>
              refine ru_go hV 6 [(0, 0), (j, 32)] rfl rfl ⟨⟨trivial, (by first | exact rfl | assumption | exact ⟨rfl, rfl⟩ | exact ⟨rfl, rfl, by omega⟩ | exact ⟨by assumption, rfl, by omega⟩ | exact ⟨⟨_, rfl, rfl⟩, by decide, by decide, rfl, by omega⟩ | omega | decide)⟩, (by first | exact rfl | assumption | exact ⟨rfl, rfl⟩ | exact ⟨rfl, rfl, by omega⟩ | exact ⟨by assumption, rfl, by omega⟩ | exact ⟨⟨_, rfl, rfl⟩, by decide, by decide, rfl, by omega⟩ | omega | decide)⟩ ?_
              exact ru_sub hV [0, 1, 2, 3, 4, 5, 6, 7, 8] rfl (step _ _ rfl (fin true ho.symm))
        · refine ru_go hV 5 [(0, 0), (1, 0)] rfl rfl ⟨⟨trivial, nI_nge hj hB2⟩, (fun e => h1 ((andI0 hi32 hj32).mp e))⟩ ?_
          exact step _ _ rfl (lay_cong (fun k hk => by rw [cI_miss (fun e => absurd e h1)]))
      · refine ru_go hV 2 [] rfl rfl trivial ?_
        refine ru_V hV [.int (nI B)] sVX5_31 (hbl _) k0 rfl rfl rfl rfl (Nat.le_of_ble_eq_true rfl) ?_
        refine ru_go hV 1 [(1, 0)] rfl rfl ⟨trivial, nI_le (Nat.le_refl B) hB2⟩ ?_
        exact ru_sub hV [0, 1, 2, 3, 4, 5, 6] rfl (next _ _ rfl rfl)
  · refine ru_go hV 2 [] rfl rfl trivial ?_
    refine ru_V hV [.int (nI B)] sVX5_31 (hbl _) k0 rfl rfl rfl rfl (Nat.le_of_ble_eq_true rfl) ?_
    refine ru_fin hV 2 [(1, 0)] rfl rfl ⟨trivial, nI_le (Nat.le_refl B) hB2⟩ ?_
    exact ⟨rfl, rfl, rfl⟩
theorem qX5_starForm (l : Launch) {b x r n : Nat} (hb : isSt b) (hx : x < 8) (hr : kdC r = (2, 32, 0)) (hn : n ≤ 5) {I : IM} (hdim : I b 0 = nI n) (L : LM) : KX5_starForm l [.ref b, .int (nI x), .ref r] I L none I (lay L r 32 (fun k => stC (I (b + 10)) (I (b + 2 + x)) (2 ^ n) k)) := by
  have kx : kdC (b + 2 + x) = (1, 32, 0) := kd_row hb hx
  have ks := kd_sg hb
  have k0 := kd_st0 hb
  obtain ⟨hB, hB0⟩ := pow_le32 n hn
  have hbl : ∀ M : LM, KX6_blades l [.ref b] I M (some (.int (nI (2 ^ n)))) I M := fun M => qX6_blades l hb hn hdim M
  generalize 2 ^ n = B at hB hB0 hbl ⊢
  have hB2 : B < 2 ^ 31 := by omega
  have eB : nI B - 1 = nI (B - 1) := by
    obtain ⟨q, rfl⟩ : ∃ q, B = q + 1 := ⟨B - 1, by omega⟩
    exact nI_pred q
  refine wX5_starForm l rfl (hz0 (by decide)) (fun V hV => ?_)
  refine ru_go hV 6 [((b+1), 0), (x, 8), ((b+2+x), 5)] rfl rfl ⟨⟨trivial, ⟨k0, rfl⟩⟩, kd_fr hb hx⟩ ?_
  refine ru_V hV [] sVX5_31 (hbl _) k0 rfl rfl rfl rfl (Nat.le_of_ble_eq_true rfl) ?_
  refine ru_go hV 4 [] rfl rfl trivial ?_
  rw [eB]
  refine ru_S hV [] sSX5_21 (qX5_clear l hr I L) rfl rfl rfl (Nat.le_of_ble_eq_true rfl) ?_
  refine ru_go hV 2 [] rfl rfl trivial ?_
  refine loop0 (P := fun i => V 22 [(0, .ref b), (1, .int (nI x)), (2, .ref r), (3, .ref (b + 2 + x)), (4, .int (nI (B - 1))), (5, .int (nI i))] [] I (lay L r 32 (fun k => if k < i then stC (I (b + 10)) (I (b + 2 + x)) B k else 0))) B (fun h => by simp only [Nat.not_lt_zero, if_false] at h; exact h) (fun j hj ih => ?_) ?_
  · have hj32 : j < 32 := by omega
    have hB1 : B - 1 < 32 := by omega
    have hi32 := xor_lt (B - 1) hB1 j hj32
    have exr : nI (B - 1) ^^^ nI j = nI ((B - 1) ^^^ j) := xorI (B - 1) hB1 j hj32
    refine ru_go hV 14 [(0, 0), (((B-1)^^^j), 32), ((b+10), 0)] rfl rfl ⟨⟨⟨trivial, (fun e => nI_nlt (show j ≤ B - 1 by omega) (by omega) e)⟩, ⟨kx, exr, hi32⟩⟩, ⟨k0, rfl⟩⟩ ?_
    rw [exr]
    refine ru_S hV [.long _] sSX5_39 (qX5_signOfBlade l ks hi32 I _) rfl rfl rfl (Nat.le_of_ble_eq_true rfl) ?_
    refine ru_go hV 7 [] rfl rfl trivial ?_
    refine ru_S hV [.int _, .ref r] sSX5_27 (qX5_oddTurns l hi32 hj32 I _) rfl rfl rfl (Nat.le_of_ble_eq_true rfl) ?_
    have fin : ∀ o : Bool, o = odT ((B - 1) ^^^ j) j → mu (lay L r 32 (fun k => if k < j then stC (I (b + 10)) (I (b + 2 + x)) B k else 0)) r j (sg o ((I (b + 2 + x) ((B - 1) ^^^ j)).toInt64 * (sgn (I (b + 10)) ((B - 1) ^^^ j)).toInt64)) = lay L r 32 (fun k => if k < j + 1 then stC (I (b + 10)) (I (b + 2 + x)) B k else 0) := fun o ho => by
      rw [lay_mu hj32, ho]
      refine lay_cong (fun k hk => ?_)
      by_cases hkk : k = j
      · subst hkk
        rw [if_pos rfl, if_pos (Nat.lt_succ_self k), stC, if_pos hj]
      · have : k < j + 1 ↔ k < j := by omega
        simp only [hkk, if_false, this]
    cases ho : odT ((B - 1) ^^^ j) j with
    | false =>
      refine ru_go hV 5 [(1, 0), (j, 32)] rfl rfl ⟨⟨trivial, (by first | exact rfl | assumption | exact ⟨rfl, rfl⟩ | exact ⟨rfl, rfl, by omega⟩ | exact ⟨by assumption, rfl, by omega⟩ | exact ⟨⟨_, rfl, rfl⟩, by decide, by decide, rfl, by omega⟩ | omega | decide)⟩, (by first | exact rfl | assumption | exact ⟨rfl, rfl⟩ | exact ⟨rfl, rfl, by omega⟩ | exact ⟨by assumption, rfl, by omega⟩ | exact ⟨⟨_, rfl, rfl⟩, by decide, by decide, rfl, by omega⟩ | omega | decide)⟩ ?_
      refine ru_sub hV [0, 1, 2, 3, 4, 5] rfl ?_
      rw [nI_1]
      rw [← fin false ho.symm] at ih
      exact ih
    | true =>
      refine ru_go hV 7 [(0, 0), (j, 32)] rfl rfl ⟨⟨trivial, (by first | exact rfl | assumption | exact ⟨rfl, rfl⟩ | exact ⟨rfl, rfl, by omega⟩ | exact ⟨by assumption, rfl, by omega⟩ | exact ⟨⟨_, rfl, rfl⟩, by decide, by decide, rfl, by omega⟩ | omega | decide)⟩, (by first | exact rfl | assumption | exact ⟨rfl, rfl⟩ | exact ⟨rfl, rfl, by omega⟩ | exact ⟨by assumption, rfl, by omega⟩ | exact ⟨⟨_, rfl, rfl⟩, by decide, by decide, rfl, by omega⟩ | omega | decide)⟩ ?_
      refine ru_sub hV [0, 1, 2, 3, 4, 5] rfl ?_
      rw [nI_1]
      rw [← fin true ho.symm] at ih
      exact ih
  · refine ru_fin hV 4 [(1, 0)] rfl rfl ⟨trivial, nI_lt (show B - 1 < B by omega) hB2⟩ ?_
    exact ⟨rfl, rfl, lay_cong (fun k _ => by unfold stC; split <;> rfl)⟩
theorem qX5_partOfForm (l : Launch) {b x r : Nat} {z : Int32} (hb : isSt b) (hx : x < 8) (hr : kdC r = (2, 32, 0)) (I : IM) (L : LM) : KX5_partOfForm l [.ref b, .int (nI x), .int z, .ref r] I L none I (lay L r 32 (fun k => if nI (pc5 k) = z then (I (b + 2 + x) k).toInt64 else 0)) := by
  have kx : kdC (b + 2 + x) = (1, 32, 0) := kd_row hb hx
  refine wX5_partOfForm l rfl (hz0 (by decide)) (fun V hV => ?_)
  refine ru_go hV 7 [((b+1), 0), (x, 8), ((b+2+x), 5)] rfl rfl ⟨⟨trivial, ⟨kd_st0 hb, rfl⟩⟩, kd_fr hb hx⟩ ?_
  refine loop0 (P := fun k => V 11 [(0, .ref b), (1, .int (nI x)), (2, .int z), (3, .ref r), (4, .ref (b + 2 + x)), (5, .int (nI k))] [] I (lay L r k (fun k => if nI (pc5 k) = z then (I (b + 2 + x) k).toInt64 else 0))) 32 (fun h => by rw [lay_0] at h; exact h) (fun k hk ih => ?_) ?_
  · refine ru_go hV 6 [(0, 0)] rfl rfl ⟨trivial, nI32_ge hk⟩ ?_
    refine ru_S hV [.int _, .ref r] sSX5_9 (qJ6_bitCount l hk I _) rfl rfl rfl (Nat.le_of_ble_eq_true rfl) ?_
    by_cases h : nI (pc5 k) = z
    · refine ru_go hV 10 [(0, 0), (k, 32), (k, 32)] rfl rfl ⟨⟨⟨trivial, (fun e => e h)⟩, (by first | exact rfl | assumption | exact ⟨rfl, rfl⟩ | exact ⟨rfl, rfl, by omega⟩ | exact ⟨by assumption, rfl, by omega⟩ | exact ⟨⟨_, rfl, rfl⟩, by decide, by decide, rfl, by omega⟩ | omega | decide)⟩, (by first | exact rfl | assumption | exact ⟨rfl, rfl⟩ | exact ⟨rfl, rfl, by omega⟩ | exact ⟨by assumption, rfl, by omega⟩ | exact ⟨⟨_, rfl, rfl⟩, by decide, by decide, rfl, by omega⟩ | omega | decide)⟩ ?_
      rw [nI_1, lay_up (f := fun k => if nI (pc5 k) = z then (I (b + 2 + x) k).toInt64 else 0) (by simp [h])]
      exact ih
    · refine ru_go hV 6 [(1, 0), (k, 32)] rfl rfl ⟨⟨trivial, (by first | exact rfl | assumption | exact ⟨rfl, rfl⟩ | exact ⟨rfl, rfl, by omega⟩ | exact ⟨by assumption, rfl, by omega⟩ | exact ⟨⟨_, rfl, rfl⟩, by decide, by decide, rfl, by omega⟩ | omega | decide)⟩, (by first | exact rfl | assumption | exact ⟨rfl, rfl⟩ | exact ⟨rfl, rfl, by omega⟩ | exact ⟨by assumption, rfl, by omega⟩ | exact ⟨⟨_, rfl, rfl⟩, by decide, by decide, rfl, by omega⟩ | omega | decide)⟩ ?_
      rw [nI_1, lay_up (f := fun k => if nI (pc5 k) = z then (I (b + 2 + x) k).toInt64 else 0) (by simp [h])]
      exact ih
  · refine ru_fin hV 4 [(1, 0)] rfl rfl ⟨trivial, (by first | exact rfl | assumption | exact ⟨rfl, rfl⟩ | exact ⟨rfl, rfl, by omega⟩ | exact ⟨by assumption, rfl, by omega⟩ | exact ⟨⟨_, rfl, rfl⟩, by decide, by decide, rfl, by omega⟩ | omega | decide)⟩ ?_
    exact ⟨rfl, rfl, rfl⟩
theorem qX5_reverseForm (l : Launch) {b x r : Nat} (hb : isSt b) (hx : x < 8) (hr : kdC r = (2, 32, 0)) (I : IM) (L : LM) : KX5_reverseForm l [.ref b, .int (nI x), .ref r] I L none I (lay L r 32 (fun k => if 2 ≤ pc5 k % 4 then (-(I (b + 2 + x) k)).toInt64 else (I (b + 2 + x) k).toInt64)) := by
  have kx : kdC (b + 2 + x) = (1, 32, 0) := kd_row hb hx
  refine wX5_reverseForm l rfl (hz0 (by decide)) (fun V hV => ?_)
  refine ru_go hV 7 [((b+1), 0), (x, 8), ((b+2+x), 5)] rfl rfl ⟨⟨trivial, ⟨kd_st0 hb, rfl⟩⟩, kd_fr hb hx⟩ ?_
  refine loop0 (P := fun k => V 10 [(0, .ref b), (1, .int (nI x)), (2, .ref r), (3, .ref (b + 2 + x)), (4, .int (nI k))] [] I (lay L r k (fun k => if 2 ≤ pc5 k % 4 then (-(I (b + 2 + x) k)).toInt64 else (I (b + 2 + x) k).toInt64))) 32 (fun h => by rw [lay_0] at h; exact h) (fun k hk ih => ?_) ?_
  · refine ru_go hV 4 [(0, 0)] rfl rfl ⟨trivial, nI32_ge hk⟩ ?_
    refine ru_S hV [] sSX5_9 (qJ6_bitCount l hk I _) rfl rfl rfl (Nat.le_of_ble_eq_true rfl) ?_
    have hrv : (nI (pc5 k) &&& 3 < 2) ↔ ¬ 2 ≤ pc5 k % 4 := (by decide +kernel : ∀ k, k < 32 → ((nI (pc5 k) &&& 3 < 2) ↔ ¬ 2 ≤ pc5 k % 4)) k hk
    by_cases h : 2 ≤ pc5 k % 4
    · refine ru_go hV 20 [(0, 0), (0, 0), (k, 32), (k, 32)] rfl rfl ⟨⟨⟨⟨trivial, (fun e => hrv.mp e h)⟩, (by first | exact rfl | assumption | exact ⟨rfl, rfl⟩ | exact ⟨rfl, rfl, by omega⟩ | exact ⟨by assumption, rfl, by omega⟩ | exact ⟨⟨_, rfl, rfl⟩, by decide, by decide, rfl, by omega⟩ | omega | decide)⟩, (by first | exact rfl | assumption | exact ⟨rfl, rfl⟩ | exact ⟨rfl, rfl, by omega⟩ | exact ⟨by assumption, rfl, by omega⟩ | exact ⟨⟨_, rfl, rfl⟩, by decide, by decide, rfl, by omega⟩ | omega | decide)⟩, (by first | exact rfl | assumption | exact ⟨rfl, rfl⟩ | exact ⟨rfl, rfl, by omega⟩ | exact ⟨by assumption, rfl, by omega⟩ | exact ⟨⟨_, rfl, rfl⟩, by decide, by decide, rfl, by omega⟩ | omega | decide)⟩ ?_
      refine ru_sub hV [0, 1, 2, 3, 4] rfl ?_
      rw [nI_1, lay_up (f := fun k => if 2 ≤ pc5 k % 4 then (-(I (b + 2 + x) k)).toInt64 else (I (b + 2 + x) k).toInt64) (by simp [h])]
      exact ih
    · refine ru_go hV 17 [(1, 0), (1, 0), (k, 32), (k, 32)] rfl rfl ⟨⟨⟨⟨trivial, hrv.mpr h⟩, (by first | exact rfl | assumption | exact ⟨rfl, rfl⟩ | exact ⟨rfl, rfl, by omega⟩ | exact ⟨by assumption, rfl, by omega⟩ | exact ⟨⟨_, rfl, rfl⟩, by decide, by decide, rfl, by omega⟩ | omega | decide)⟩, (by first | exact rfl | assumption | exact ⟨rfl, rfl⟩ | exact ⟨rfl, rfl, by omega⟩ | exact ⟨by assumption, rfl, by omega⟩ | exact ⟨⟨_, rfl, rfl⟩, by decide, by decide, rfl, by omega⟩ | omega | decide)⟩, (by first | exact rfl | assumption | exact ⟨rfl, rfl⟩ | exact ⟨rfl, rfl, by omega⟩ | exact ⟨by assumption, rfl, by omega⟩ | exact ⟨⟨_, rfl, rfl⟩, by decide, by decide, rfl, by omega⟩ | omega | decide)⟩ ?_
      refine ru_sub hV [0, 1, 2, 3, 4] rfl ?_
      rw [nI_1, lay_up (f := fun k => if 2 ≤ pc5 k % 4 then (-(I (b + 2 + x) k)).toInt64 else (I (b + 2 + x) k).toInt64) (by simp [h])]
      exact ih
  · refine ru_fin hV 4 [(1, 0)] rfl rfl ⟨trivial, (by first | exact rfl | assumption | exact ⟨rfl, rfl⟩ | exact ⟨rfl, rfl, by omega⟩ | exact ⟨by assumption, rfl, by omega⟩ | exact ⟨⟨_, rfl, rfl⟩, by decide, by decide, rfl, by omega⟩ | omega | decide)⟩ ?_
    exact ⟨rfl, rfl, rfl⟩
