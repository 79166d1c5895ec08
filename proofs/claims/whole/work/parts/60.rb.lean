/-! the reference: reading, texts, snapshots, undo -/
theorem RR.same {I J : IM} {L : LM} {s : Fs} (h : RR I L s) (e : ∀ j, 14 ≤ j → J 0 j = I 0 j) : RR J L s := by
  obtain ⟨m, g, u, b, c⟩ := s
  obtain ⟨h18, hc, h16, hu, hb0, h4, h5⟩ := h
  refine ⟨by rw [e 18 (by decide)]; exact h18, hc, by rw [e 16 (by decide)]; exact h16, by rw [e 14 (by decide), e 15 (by decide)]; exact hu, hb0, fun z => by rw [e 17 (by decide)]; exact h4 z, fun z => by rw [e 17 (by decide)]; exact h5 z⟩
theorem qX8_read (l : Launch) {n z : Nat} {f : Nat → Nat} (hn : n ≤ 5) (hn0 : 0 < n) (hz : z ≤ 60) {I : IM} (hd : I 1 0 = nI n) (hq : I 0 6 = nI z) (hf : ∀ j, j < z → I 5 j = nI (f j) ∧ f j < 128) (L : LM) : ∃ I2 L2, (RF I I2 ∧ I2 0 12 = nI (rdB n f z).1 ∧ (rdW n f z → I2 0 13 = 1 ∧ ∀ j, j < 32 → (L2 8 j).toInt32 = (rdB n f z).2.2.2.2.2 j) ∧ (¬ rdW n f z → I2 0 13 = 0)) ∧ KX8_read l [.ref 0] I L none I2 L2 := by
  refine ru_pos1 (r := none) (fun V hV => ?_) (fun I2 L2 h => wX8_read l rfl (hz0 (by decide)) h)
  show V 0 [(0, .ref 0)] [] I L
  have key : ∀ (r i : Nat) (s : Fs) (J : IM) (M : LM), i + r = z → VF n s → RF I J → RR J M s → rdR n f r i s = rdB n f z → V 47 [(0, .ref 0), (1, .int (nI (stx s.1))), (2, .int (nI i)), (3, .int 1)] [] J M := by
    intro r
    induction r with
    | zero =>
      intro i s J M hi hs hJ hR hr
      have hi : i = z := by omega
      subst hi
      obtain ⟨m, g, u, b, c⟩ := s
      have hm5 : m ≤ 5 := hs.1
      have hb32 : b < 32 := pow_mono n hn b hs.2.2
      have hJ6 : J 0 6 = nI i := by rw [hJ.2 6 (by decide)]; exact hq
      have term : ∀ lv, (∀ q ∈ [((0 : Nat), Value.ref 0)], q ∈ lv) → (m = 3 ∨ m = 5) → V 157 lv [.ref 0] (mu (mu J 0 12 (nI i)) 0 13 1) M := by
        intro lv hlv hm
        refine hV.2.2.2.1 157 lv [(0, .ref 0)] [.ref 0] _ M hlv ?_
        obtain ⟨I2, L2, ⟨f1, f2, f3, f4, f5, f6, f7⟩, hK⟩ := qX8_addTerm l (RR.same hR (J := mu (mu J 0 12 (nI i)) 0 13 1) (fun j hj => by rw [mu_0 (by omega), mu_0 (by omega)])) hb32
        have er : rdB n f i = (i, (m, g, u, b, adT g u b c)) := by rw [← hr, rdR]; simp only [if_pos hm]
        refine ru_V hV [] sVX8_157 hK rfl rfl rfl rfl rfl (Nat.le_of_ble_eq_true rfl) ?_
        refine ru_fin hV 1 [] rfl rfl trivial ?_
        refine ⟨rfl, (hJ.tr ((RFm J (by decide) _).tr (RFm _ (by decide) _))).tr f1, ?_, fun _ => ⟨?_, ?_⟩, fun hw => absurd ?_ hw⟩
        · rw [f3, er, mu_0 (by decide), mu_self]
        · rw [f4, mu_self]
        · rw [er]; exact f7
        · unfold rdW
          rw [er]
          exact ⟨rfl, by rcases hm with h | h; exact Or.inr (Or.inl h); exact Or.inr (Or.inr h)⟩
      have rest : ¬ (m = 3 ∨ m = 5) → rdB n f i = (i, (m, g, u, b, c)) := fun hm => by rw [← hr, rdR]; simp only [if_neg hm]
      have no : ¬ (m = 3 ∨ m = 5 ∨ m = 2) → ∀ hh : (∀ j, j < 32 → True), V 140 [(0, .ref 0), (1, .int (nI (stx m))), (2, .int (nI i)), (3, .int 1)] [.ref 0] (mu J 0 12 (nI i)) M := fun hm _ => by
        have er := rest (fun h => hm (by omega))
        refine ru_fin hV 6 [(1, 0)] rfl rfl ⟨⟨⟨trivial, (by first | exact rfl | assumption | exact ⟨rfl, rfl⟩ | exact ⟨rfl, rfl, by omega⟩ | exact ⟨by assumption, rfl, by omega⟩ | exact ⟨⟨_, rfl, rfl⟩, by decide, by decide, rfl, by omega⟩ | omega | decide)⟩, (by first | exact rfl | assumption | exact ⟨rfl, rfl⟩ | exact ⟨rfl, rfl, by omega⟩ | exact ⟨by assumption, rfl, by omega⟩ | exact ⟨⟨_, rfl, rfl⟩, by decide, by decide, rfl, by omega⟩ | omega | decide)⟩, mu_self _ _ _ _⟩ ?_
        refine ⟨rfl, hJ.tr ((RFm J (by decide) _).tr (RFm _ (by decide) _)), ?_, fun hw => ?_, fun _ => mu_self _ _ _ _⟩
        · rw [er, mu_0 (by decide), mu_self]
        · unfold rdW at hw
          rw [er] at hw
          have : m = 2 ∨ m = 3 ∨ m = 5 := hw.2
          exact absurd this (by omega)
      match m, hm5 with
      | 0, _ =>
        show V 47 [(0, .ref 0), (1, .int (nI 0)), (2, .int (nI i)), (3, .int 1)] [] J M
        refine ru_go hV 19 [(1, 0), (0, 0), (0, 0), (0, 0), (1, 0)] rfl rfl ⟨⟨⟨⟨⟨⟨⟨trivial, (by first | exact rfl | assumption | exact ⟨rfl, rfl⟩ | exact ⟨rfl, rfl, by omega⟩ | exact ⟨by assumption, rfl, by omega⟩ | exact ⟨⟨_, rfl, rfl⟩, by decide, by decide, rfl, by omega⟩ | omega | decide)⟩, (by rw [hJ6]; exact nI_le (Nat.le_refl i) (by omega))⟩, (by first | exact rfl | assumption | exact ⟨rfl, rfl⟩ | exact ⟨rfl, rfl, by omega⟩ | exact ⟨by assumption, rfl, by omega⟩ | exact ⟨⟨_, rfl, rfl⟩, by decide, by decide, rfl, by omega⟩ | omega | decide)⟩, (by decide)⟩, (by decide)⟩, (by decide)⟩, (by decide)⟩ ?_
        exact no (by decide) (fun _ _ => trivial)
      | 1, _ =>
        show V 47 [(0, .ref 0), (1, .int (nI 1)), (2, .int (nI i)), (3, .int 1)] [] J M
        refine ru_go hV 19 [(1, 0), (0, 0), (0, 0), (0, 0), (1, 0)] rfl rfl ⟨⟨⟨⟨⟨⟨⟨trivial, (by first | exact rfl | assumption | exact ⟨rfl, rfl⟩ | exact ⟨rfl, rfl, by omega⟩ | exact ⟨by assumption, rfl, by omega⟩ | exact ⟨⟨_, rfl, rfl⟩, by decide, by decide, rfl, by omega⟩ | omega | decide)⟩, (by rw [hJ6]; exact nI_le (Nat.le_refl i) (by omega))⟩, (by first | exact rfl | assumption | exact ⟨rfl, rfl⟩ | exact ⟨rfl, rfl, by omega⟩ | exact ⟨by assumption, rfl, by omega⟩ | exact ⟨⟨_, rfl, rfl⟩, by decide, by decide, rfl, by omega⟩ | omega | decide)⟩, (by decide)⟩, (by decide)⟩, (by decide)⟩, (by decide)⟩ ?_
        exact no (by decide) (fun _ _ => trivial)
      | 4, _ =>
        show V 47 [(0, .ref 0), (1, .int (nI 3)), (2, .int (nI i)), (3, .int 1)] [] J M
        refine ru_go hV 19 [(1, 0), (0, 0), (0, 0), (0, 0), (1, 0)] rfl rfl ⟨⟨⟨⟨⟨⟨⟨trivial, (by first | exact rfl | assumption | exact ⟨rfl, rfl⟩ | exact ⟨rfl, rfl, by omega⟩ | exact ⟨by assumption, rfl, by omega⟩ | exact ⟨⟨_, rfl, rfl⟩, by decide, by decide, rfl, by omega⟩ | omega | decide)⟩, (by rw [hJ6]; exact nI_le (Nat.le_refl i) (by omega))⟩, (by first | exact rfl | assumption | exact ⟨rfl, rfl⟩ | exact ⟨rfl, rfl, by omega⟩ | exact ⟨by assumption, rfl, by omega⟩ | exact ⟨⟨_, rfl, rfl⟩, by decide, by decide, rfl, by omega⟩ | omega | decide)⟩, (by decide)⟩, (by decide)⟩, (by decide)⟩, (by decide)⟩ ?_
        exact no (by decide) (fun _ _ => trivial)
      | 2, _ =>
        have er := rest (by decide)
        show V 47 [(0, .ref 0), (1, .int (nI 5)), (2, .int (nI i)), (3, .int 1)] [] J M
        refine ru_fin hV 29 [(1, 0), (0, 0), (0, 0), (0, 0), (0, 0), (0, 0), (1, 0)] rfl rfl ⟨⟨⟨⟨⟨⟨⟨⟨⟨⟨⟨trivial, (by first | exact rfl | assumption | exact ⟨rfl, rfl⟩ | exact ⟨rfl, rfl, by omega⟩ | exact ⟨by assumption, rfl, by omega⟩ | exact ⟨⟨_, rfl, rfl⟩, by decide, by decide, rfl, by omega⟩ | omega | decide)⟩, (by rw [hJ6]; exact nI_le (Nat.le_refl i) (by omega))⟩, (by first | exact rfl | assumption | exact ⟨rfl, rfl⟩ | exact ⟨rfl, rfl, by omega⟩ | exact ⟨by assumption, rfl, by omega⟩ | exact ⟨⟨_, rfl, rfl⟩, by decide, by decide, rfl, by omega⟩ | omega | decide)⟩, (by decide)⟩, (by decide)⟩, (by decide)⟩, (by decide)⟩, (by first | exact rfl | assumption | exact ⟨rfl, rfl⟩ | exact ⟨rfl, rfl, by omega⟩ | exact ⟨by assumption, rfl, by omega⟩ | exact ⟨⟨_, rfl, rfl⟩, by decide, by decide, rfl, by omega⟩ | omega | decide)⟩, (by first | exact rfl | assumption | exact ⟨rfl, rfl⟩ | exact ⟨rfl, rfl, by omega⟩ | exact ⟨by assumption, rfl, by omega⟩ | exact ⟨⟨_, rfl, rfl⟩, by decide, by decide, rfl, by omega⟩ | omega | decide)⟩, (by rw [mu_self]; decide)⟩, (by decide)⟩ ?_
        refine ⟨rfl, hJ.tr ((RFm J (by decide) _).tr (RFm _ (by decide) _)), ?_, fun hw => ⟨mu_self _ _ _ _, ?_⟩, fun hw => absurd ?_ hw⟩
        · rw [er, mu_0 (by decide), mu_self]
        · rw [er]; exact hR.2.1
        · unfold rdW
          rw [er]
          exact ⟨rfl, Or.inl rfl⟩
      | 3, _ =>
        show V 47 [(0, .ref 0), (1, .int (nI 2)), (2, .int (nI i)), (3, .int 1)] [] J M
        refine ru_go hV 23 [(1, 0), (0, 0), (1, 0), (0, 0), (0, 0)] rfl rfl ⟨⟨⟨⟨⟨⟨⟨⟨⟨trivial, (by first | exact rfl | assumption | exact ⟨rfl, rfl⟩ | exact ⟨rfl, rfl, by omega⟩ | exact ⟨by assumption, rfl, by omega⟩ | exact ⟨⟨_, rfl, rfl⟩, by decide, by decide, rfl, by omega⟩ | omega | decide)⟩, (by rw [hJ6]; exact nI_le (Nat.le_refl i) (by omega))⟩, (by first | exact rfl | assumption | exact ⟨rfl, rfl⟩ | exact ⟨rfl, rfl, by omega⟩ | exact ⟨by assumption, rfl, by omega⟩ | exact ⟨⟨_, rfl, rfl⟩, by decide, by decide, rfl, by omega⟩ | omega | decide)⟩, (by decide)⟩, rfl⟩, (by first | exact rfl | assumption | exact ⟨rfl, rfl⟩ | exact ⟨rfl, rfl, by omega⟩ | exact ⟨by assumption, rfl, by omega⟩ | exact ⟨⟨_, rfl, rfl⟩, by decide, by decide, rfl, by omega⟩ | omega | decide)⟩, (by first | exact rfl | assumption | exact ⟨rfl, rfl⟩ | exact ⟨rfl, rfl, by omega⟩ | exact ⟨by assumption, rfl, by omega⟩ | exact ⟨⟨_, rfl, rfl⟩, by decide, by decide, rfl, by omega⟩ | omega | decide)⟩, (by rw [mu_self]; decide)⟩, (by decide)⟩ ?_
        exact term _ (fun q hq => by simp at hq; simp [hq]) (Or.inl rfl)
      | 5, _ =>
        show V 47 [(0, .ref 0), (1, .int (nI 4)), (2, .int (nI i)), (3, .int 1)] [] J M
        refine ru_go hV 26 [(1, 0), (0, 0), (0, 0), (1, 0), (0, 0), (0, 0)] rfl rfl ⟨⟨⟨⟨⟨⟨⟨⟨⟨⟨trivial, (by first | exact rfl | assumption | exact ⟨rfl, rfl⟩ | exact ⟨rfl, rfl, by omega⟩ | exact ⟨by assumption, rfl, by omega⟩ | exact ⟨⟨_, rfl, rfl⟩, by decide, by decide, rfl, by omega⟩ | omega | decide)⟩, (by rw [hJ6]; exact nI_le (Nat.le_refl i) (by omega))⟩, (by first | exact rfl | assumption | exact ⟨rfl, rfl⟩ | exact ⟨rfl, rfl, by omega⟩ | exact ⟨by assumption, rfl, by omega⟩ | exact ⟨⟨_, rfl, rfl⟩, by decide, by decide, rfl, by omega⟩ | omega | decide)⟩, (by decide)⟩, (by decide)⟩, rfl⟩, (by first | exact rfl | assumption | exact ⟨rfl, rfl⟩ | exact ⟨rfl, rfl, by omega⟩ | exact ⟨by assumption, rfl, by omega⟩ | exact ⟨⟨_, rfl, rfl⟩, by decide, by decide, rfl, by omega⟩ | omega | decide)⟩, (by first | exact rfl | assumption | exact ⟨rfl, rfl⟩ | exact ⟨rfl, rfl, by omega⟩ | exact ⟨by assumption, rfl, by omega⟩ | exact ⟨⟨_, rfl, rfl⟩, by decide, by decide, rfl, by omega⟩ | omega | decide)⟩, (by rw [mu_self]; decide)⟩, (by decide)⟩ ?_
        exact term _ (fun q hq => by simp at hq; simp [hq]) (Or.inr rfl)
    | succ r ih =>
      intro i s J M hi hs hJ hR hr
      have hiz : i < z := by omega
      have hJ6 : J 0 6 = nI z := by rw [hJ.2 6 (by decide)]; exact hq
      obtain ⟨hf1, hf2⟩ := hf i hiz
      have hJ5 : J 5 i = nI (f i) := by rw [hJ.1 5 (by decide)]; exact hf1
      have hJd : J 1 0 = nI n := by rw [hJ.1 1 (by decide)]; exact hd
      obtain ⟨x, J2, M2, ⟨hJ2, hx⟩, hK⟩ := qX8_nextState l hs hn hn0 hJd hR hf2
      rw [rdR] at hr
      generalize nI (stx s.1) = y at hK ⊢
      refine ru_go hV 12 [(0, 0), (0, 0), (5, 0), (i, 60)] rfl rfl ⟨⟨⟨⟨⟨trivial, (by first | exact rfl | assumption | exact ⟨rfl, rfl⟩ | exact ⟨rfl, rfl, by omega⟩ | exact ⟨by assumption, rfl, by omega⟩ | exact ⟨⟨_, rfl, rfl⟩, by decide, by decide, rfl, by omega⟩ | omega | decide)⟩, (by rw [hJ6]; exact nI_nge hiz (by omega))⟩, (by decide)⟩, (by first | exact rfl | assumption | exact ⟨rfl, rfl⟩ | exact ⟨rfl, rfl, by omega⟩ | exact ⟨by assumption, rfl, by omega⟩ | exact ⟨⟨_, rfl, rfl⟩, by decide, by decide, rfl, by omega⟩ | omega | decide)⟩, (by first | exact rfl | assumption | exact ⟨rfl, rfl⟩ | exact ⟨rfl, rfl, by omega⟩ | exact ⟨by assumption, rfl, by omega⟩ | exact ⟨⟨_, rfl, rfl⟩, by decide, by decide, rfl, by omega⟩ | omega | decide)⟩ ?_
      rw [hJ5]
      refine ru_V hV [] sVX8_166 hK rfl rfl rfl rfl rfl (Nat.le_of_ble_eq_true rfl) ?_
      have hJ26 : J2 0 6 = nI z := by rw [hJ2.2 6 (by decide)]; exact hJ6
      cases ha : acc n s (f i) with
      | none =>
        rw [ha] at hr hx
        have hx : x = NON := hx
        subst hx
        have er : rdB n f z = (i, s) := hr.symm
        refine ru_fin hV 35 [(1, 0), (1, 0), (1, 0), (0, 0), (1, 0), (1, 0), (1, 0)] rfl rfl ⟨⟨⟨⟨⟨⟨⟨⟨⟨⟨⟨trivial, rfl⟩, rfl⟩, rfl⟩, (by first | exact rfl | assumption | exact ⟨rfl, rfl⟩ | exact ⟨rfl, rfl, by omega⟩ | exact ⟨by assumption, rfl, by omega⟩ | exact ⟨⟨_, rfl, rfl⟩, by decide, by decide, rfl, by omega⟩ | omega | decide)⟩, (by rw [hJ26, Int32.add_zero]; exact nI_nge hiz (by omega))⟩, rfl⟩, (by first | exact rfl | assumption | exact ⟨rfl, rfl⟩ | exact ⟨rfl, rfl, by omega⟩ | exact ⟨by assumption, rfl, by omega⟩ | exact ⟨⟨_, rfl, rfl⟩, by decide, by decide, rfl, by omega⟩ | omega | decide)⟩, rfl⟩, (by first | exact rfl | assumption | exact ⟨rfl, rfl⟩ | exact ⟨rfl, rfl, by omega⟩ | exact ⟨by assumption, rfl, by omega⟩ | exact ⟨⟨_, rfl, rfl⟩, by decide, by decide, rfl, by omega⟩ | omega | decide)⟩, (by first | exact rfl | assumption | exact ⟨rfl, rfl⟩ | exact ⟨rfl, rfl, by omega⟩ | exact ⟨by assumption, rfl, by omega⟩ | exact ⟨⟨_, rfl, rfl⟩, by decide, by decide, rfl, by omega⟩ | omega | decide)⟩, mu_self _ _ _ _⟩ ?_
        refine ⟨rfl, (hJ.tr hJ2).tr ((RFm J2 (by decide) _).tr (RFm _ (by decide) _)), ?_, fun hw => ?_, fun _ => mu_self _ _ _ _⟩
        · rw [er, mu_0 (by decide), mu_self, Int32.add_zero]
        · unfold rdW at hw
          rw [er] at hw
          exact absurd hw.1 (by show i ≠ z; omega)
      | some t =>
        rw [ha] at hr hx
        obtain ⟨hx1, hx2⟩ := hx
        subst hx1
        have ht := acc_VF hn hs ha
        have hst : stx t.1 < 6 := by
          have := ht.1
          generalize t.1 = m at this
          match m, this with
          | 0, _ => decide
          | 1, _ => decide
          | 2, _ => decide
          | 3, _ => decide
          | 4, _ => decide
          | 5, _ => decide
        refine ru_go hV 20 [(0, 0), (0, 0), (0, 0)] rfl rfl ⟨⟨⟨trivial, NON_ne (by omega)⟩, (by decide)⟩, (by decide)⟩ ?_
        rw [nI_1]
        exact ru_sub hV [0, 1, 2, 3] rfl (ih (i + 1) t J2 M2 (by omega) ht (hJ.tr hJ2) hx2 hr)
  refine ru_go hV 2 [] rfl rfl trivial ?_
  refine loop0 (P := fun k => V 2 [(0, .ref 0), (1, .int (nI k))] [] I (lay L 8 k (fun _ => 0))) 32 (fun h => by rw [lay_0] at h; exact h) (fun k hk ih => ?_) ?_
  · refine ru_go hV 10 [(0, 0), (8, 0), (k, 32)] rfl rfl ⟨⟨⟨trivial, nI32_ge hk⟩, (by first | exact rfl | assumption | exact ⟨rfl, rfl⟩ | exact ⟨rfl, rfl, by omega⟩ | exact ⟨by assumption, rfl, by omega⟩ | exact ⟨⟨_, rfl, rfl⟩, by decide, by decide, rfl, by omega⟩ | omega | decide)⟩, (by first | exact rfl | assumption | exact ⟨rfl, rfl⟩ | exact ⟨rfl, rfl, by omega⟩ | exact ⟨by assumption, rfl, by omega⟩ | exact ⟨⟨_, rfl, rfl⟩, by decide, by decide, rfl, by omega⟩ | omega | decide)⟩ ?_
    rw [nI_1, lay_up rfl]
    exact ih
  · refine ru_go hV 21 [(1, 0)] rfl rfl ⟨⟨⟨⟨⟨trivial, (by first | exact rfl | assumption | exact ⟨rfl, rfl⟩ | exact ⟨rfl, rfl, by omega⟩ | exact ⟨by assumption, rfl, by omega⟩ | exact ⟨⟨_, rfl, rfl⟩, by decide, by decide, rfl, by omega⟩ | omega | decide)⟩, (by first | exact rfl | assumption | exact ⟨rfl, rfl⟩ | exact ⟨rfl, rfl, by omega⟩ | exact ⟨by assumption, rfl, by omega⟩ | exact ⟨⟨_, rfl, rfl⟩, by decide, by decide, rfl, by omega⟩ | omega | decide)⟩, (by first | exact rfl | assumption | exact ⟨rfl, rfl⟩ | exact ⟨rfl, rfl, by omega⟩ | exact ⟨by assumption, rfl, by omega⟩ | exact ⟨⟨_, rfl, rfl⟩, by decide, by decide, rfl, by omega⟩ | omega | decide)⟩, (by first | exact rfl | assumption | exact ⟨rfl, rfl⟩ | exact ⟨rfl, rfl, by omega⟩ | exact ⟨by assumption, rfl, by omega⟩ | exact ⟨⟨_, rfl, rfl⟩, by decide, by decide, rfl, by omega⟩ | omega | decide)⟩, (by first | exact rfl | assumption | exact ⟨rfl, rfl⟩ | exact ⟨rfl, rfl, by omega⟩ | exact ⟨by assumption, rfl, by omega⟩ | exact ⟨⟨_, rfl, rfl⟩, by decide, by decide, rfl, by omega⟩ | omega | decide)⟩ ?_
    refine key z 0 (0, false, 1, 0, fun _ => 0) _ _ (Nat.zero_add z) ⟨(by decide : 0 ≤ 5), (by decide : 1 < 100000), Nat.two_pow_pos n⟩ ((((RFm I (by decide) _).tr (RFm _ (by decide) _)).tr (RFm _ (by decide) _)).tr (RFm _ (by decide) _)) ?_ rfl
    exact ⟨mu_self _ _ _ _, fun j hj => by rw [lay_in hj]; rfl, by rw [mu_0 (by decide), mu_self]; rfl, Or.inl ⟨by rw [mu_0 (by decide), mu_0 (by decide), mu_0 (by decide), mu_self], rfl, by decide⟩, fun _ => rfl, fun e => absurd e (by decide), fun e => absurd e (by decide)⟩
theorem qX8_firstError (l : Launch) {n z : Nat} {f : Nat → Nat} (hn : n ≤ 5) (hn0 : 0 < n) (hz : z ≤ 60) {I : IM} (hd : I 1 0 = nI n) (hq : I 0 6 = nI z) (hf : ∀ j, j < z → I 5 j = nI (f j) ∧ f j < 128) (L : LM) : ∃ I2 L2, RF (mu I 0 7 0) I2 ∧ KX8_firstError l [.ref 0] I L (some (.int (nI (rdB n f z).1))) I2 L2 := by
  obtain ⟨I2, L2, ⟨h1, h2, -⟩, hK⟩ := qX8_read l (I := mu I 0 7 0) hn hn0 hz (by rw [t7n (by decide)]; exact hd) (by rw [t7 (by decide)]; exact hq) (fun j hj => by rw [t7n (by decide)]; exact hf j hj) L
  refine ⟨I2, L2, h1, wX8_firstError l rfl (hz0 (by decide)) (fun V hV => ?_)⟩
  refine ru_go hV 4 [] rfl rfl ⟨trivial, (by first | exact rfl | assumption | exact ⟨rfl, rfl⟩ | exact ⟨rfl, rfl, by omega⟩ | exact ⟨by assumption, rfl, by omega⟩ | exact ⟨⟨_, rfl, rfl⟩, by decide, by decide, rfl, by omega⟩ | omega | decide)⟩ ?_
  refine ru_V hV [] sVX8_176 hK rfl rfl rfl rfl rfl (Nat.le_of_ble_eq_true rfl) ?_
  refine ru_fin hV 3 [] rfl rfl ⟨trivial, (by first | exact rfl | assumption | exact ⟨rfl, rfl⟩ | exact ⟨rfl, rfl, by omega⟩ | exact ⟨by assumption, rfl, by omega⟩ | exact ⟨⟨_, rfl, rfl⟩, by decide, by decide, rfl, by omega⟩ | omega | decide)⟩ ?_
  rw [h2]
  exact ⟨rfl, rfl, rfl⟩
theorem xX8_put (l : Launch) {x : Int32} (hx : ouR x 8) (I : IM) (L : LM) : KX8_put l [.ref 0, .int x] I L (some (.int 0)) (mu I 0 7 1) L := by
  refine wX8_put l rfl (hz0 (by decide)) (fun V hV => ?_)
  refine ru_go hV 4 [] rfl rfl ⟨trivial, (by first | exact rfl | assumption | exact ⟨rfl, rfl⟩ | exact ⟨rfl, rfl, by omega⟩ | exact ⟨by assumption, rfl, by omega⟩ | exact ⟨⟨_, rfl, rfl⟩, by decide, by decide, rfl, by omega⟩ | omega | decide)⟩ ?_
  refine ru_S hV [] sSX8_80 (xX8_isSlot l hx _ L) rfl rfl rfl (Nat.le_of_ble_eq_true rfl) ?_
  refine ru_go hV 3 [(0, 0)] rfl rfl ⟨trivial, (fun e => e rfl)⟩ ?_
  refine ru_V hV [] sVX8_70 (qX8_fails l 1 _ L) rfl rfl rfl rfl rfl (Nat.le_of_ble_eq_true rfl) ?_
  rw [mu_mu]
  refine ru_fin hV 1 [] rfl rfl trivial ?_
  exact ⟨rfl, rfl, rfl⟩
theorem vX8f_put (l : Launch) {n z s : Nat} {f : Nat → Nat} (hs : s < 8) (hn : n ≤ 5) (hn0 : 0 < n) (hz : z ≤ 60) {I : IM} (hd : I 1 0 = nI n) (hq : I 0 6 = nI z) (hf : ∀ j, j < z → I 5 j = nI (f j) ∧ f j < 128) (hw : ¬ rdW n f z) (L : LM) : ∃ J L2, RF (mu I 0 7 0) J ∧ KX8_put l [.ref 0, .int (nI s)] I L (some (.int 0)) (mu J 0 7 2) L2 := by
  obtain ⟨I2, L2, ⟨h1, h2, -, h3⟩, hK⟩ := qX8_read l (I := mu I 0 7 0) hn hn0 hz (by rw [t7n (by decide)]; exact hd) (by rw [t7 (by decide)]; exact hq) (fun j hj => by rw [t7n (by decide)]; exact hf j hj) L
  refine ⟨I2, L2, h1, wX8_put l rfl (hz0 (by decide)) (fun V hV => ?_)⟩
  refine ru_go hV 4 [] rfl rfl ⟨trivial, (by first | exact rfl | assumption | exact ⟨rfl, rfl⟩ | exact ⟨rfl, rfl, by omega⟩ | exact ⟨by assumption, rfl, by omega⟩ | exact ⟨⟨_, rfl, rfl⟩, by decide, by decide, rfl, by omega⟩ | omega | decide)⟩ ?_
  refine ru_S hV [] sSX8_80 (qX8_isSlot l hs _ L) rfl rfl rfl (Nat.le_of_ble_eq_true rfl) ?_
  refine ru_go hV 2 [(1, 0)] rfl rfl ⟨trivial, (by decide)⟩ ?_
  refine ru_V hV [] sVX8_176 hK rfl rfl rfl rfl rfl (Nat.le_of_ble_eq_true rfl) ?_
  refine ru_go hV 5 [(0, 0)] rfl rfl ⟨⟨trivial, (by first | exact rfl | assumption | exact ⟨rfl, rfl⟩ | exact ⟨rfl, rfl, by omega⟩ | exact ⟨by assumption, rfl, by omega⟩ | exact ⟨⟨_, rfl, rfl⟩, by decide, by decide, rfl, by omega⟩ | omega | decide)⟩, (fun e => e (h3 hw))⟩ ?_
  refine ru_V hV [] sVX8_70 (qX8_fails l 2 _ _) rfl rfl rfl rfl rfl (Nat.le_of_ble_eq_true rfl) ?_
  refine ru_fin hV 1 [] rfl rfl trivial ?_
  exact ⟨rfl, rfl, rfl⟩
theorem qX8_put (l : Launch) {n z s q : Nat} {f : Nat → Nat} (hs : s < 8) (hn : n ≤ 5) (hn0 : 0 < n) (hz : z ≤ 60) (hq6 : q ≤ 6) {I : IM} (hd : I 1 0 = nI n) (h2q : I 0 2 = nI q) (hq : I 0 6 = nI z) (hf : ∀ j, j < z → I 5 j = nI (f j) ∧ f j < 128) (hw : rdW n f z) (L : LM) : ∃ J L2, RF (mu I 0 7 0) J ∧ KX8_put l [.ref 0, .int (nI s)] I L (some (.int (nI (cnz (rdB n f z).2.2.2.2.2 (2 ^ n))))) (mu (rg (svR J q) 1 (40 + 32 * s) (2 ^ n) (rdB n f z).2.2.2.2.2) 0 6 0) L2 := by
  obtain ⟨J, L2, ⟨h1, h2, h3, -⟩, hK⟩ := qX8_read l (I := mu I 0 7 0) hn hn0 hz (by rw [t7n (by decide)]; exact hd) (by rw [t7 (by decide)]; exact hq) (fun j hj => by rw [t7n (by decide)]; exact hf j hj) L
  obtain ⟨h3, h4⟩ := h3 hw
  generalize (rdB n f z).2.2.2.2.2 = c at h4 ⊢
  obtain ⟨hB, -⟩ := pow_le32 n hn
  have hJd : J 1 0 = nI n := by rw [h1.1 1 (by decide), t7n (by decide)]; exact hd
  have hJ2 : J 0 2 = nI q := by rw [h1.2 2 (by decide), t7 (by decide)]; exact h2q
  have s10 : svR J q 1 0 = nI n := by rw [svR_ne (by decide) (by decide)]; exact hJd
  have hbl : ∀ M : IM, M 1 0 = nI n → KX8_blades l [.ref 0] M L2 (some (.int (nI (2 ^ n)))) M L2 := fun M hM => qX8_blades l hn hM L2
  have hmn : ∀ M : IM, M 1 0 = nI n → KX8_many l [.ref 0, .int (nI s)] M L2 (some (.int (nI (cnz (frR M s) (2 ^ n))))) M L2 := fun M hM => qX8_many l hs hn hM L2
  refine ⟨J, L2, h1, wX8_put l rfl (hz0 (by decide)) (fun V hV => ?_)⟩
  generalize 2 ^ n = B at hB hbl hmn hV ⊢
  refine ru_go hV 4 [] rfl rfl ⟨trivial, (by first | exact rfl | assumption | exact ⟨rfl, rfl⟩ | exact ⟨rfl, rfl, by omega⟩ | exact ⟨by assumption, rfl, by omega⟩ | exact ⟨⟨_, rfl, rfl⟩, by decide, by decide, rfl, by omega⟩ | omega | decide)⟩ ?_
  refine ru_S hV [] sSX8_80 (qX8_isSlot l hs _ L) rfl rfl rfl (Nat.le_of_ble_eq_true rfl) ?_
  refine ru_go hV 2 [(1, 0)] rfl rfl ⟨trivial, (by decide)⟩ ?_
  refine ru_V hV [] sVX8_176 hK rfl rfl rfl rfl rfl (Nat.le_of_ble_eq_true rfl) ?_
  refine ru_go hV 4 [(1, 0)] rfl rfl ⟨⟨trivial, (by first | exact rfl | assumption | exact ⟨rfl, rfl⟩ | exact ⟨rfl, rfl, by omega⟩ | exact ⟨by assumption, rfl, by omega⟩ | exact ⟨⟨_, rfl, rfl⟩, by decide, by decide, rfl, by omega⟩ | omega | decide)⟩, (by rw [h3]; decide)⟩ ?_
  refine ru_V hV [] sVX8_73 (qX8_save l hq6 hJ2 L2) rfl rfl rfl rfl rfl (Nat.le_of_ble_eq_true rfl) ?_
  generalize svR J q = K at s10 hV ⊢
  have z0 : ∀ k f, rg K 1 (40 + 32 * s) k f 1 0 = nI n := fun k f => by rw [rg_out (by omega)]; exact s10
  refine ru_go hV 2 [] rfl rfl trivial ?_
  refine loop0 (P := fun k => V 41 [(0, .ref 0), (1, .int (nI s)), (2, .int (nI k))] [] (rg K 1 (40 + 32 * s) k c) L2) B (fun h => by rw [rg_0] at h; exact h) (fun k hk ih => ?_) ?_
  · refine ru_go hV 2 [] rfl rfl trivial ?_
    refine ru_V hV [.int (nI k)] sVX8_58 (hbl _ (z0 _ _)) rfl rfl rfl rfl rfl (Nat.le_of_ble_eq_true rfl) ?_
    refine ru_go hV 18 [(0, 0), (1, 0), (8, 0), (k, 32), ((40+32*s+k), 296)] rfl rfl ⟨⟨⟨⟨⟨trivial, nI_nge hk (by omega)⟩, (by first | exact rfl | assumption | exact ⟨rfl, rfl⟩ | exact ⟨rfl, rfl, by omega⟩ | exact ⟨by assumption, rfl, by omega⟩ | exact ⟨⟨_, rfl, rfl⟩, by decide, by decide, rfl, by omega⟩ | omega | decide)⟩, (by first | exact rfl | assumption | exact ⟨rfl, rfl⟩ | exact ⟨rfl, rfl, by omega⟩ | exact ⟨by assumption, rfl, by omega⟩ | exact ⟨⟨_, rfl, rfl⟩, by decide, by decide, rfl, by omega⟩ | omega | decide)⟩, (by first | exact rfl | assumption | exact ⟨rfl, rfl⟩ | exact ⟨rfl, rfl, by omega⟩ | exact ⟨by assumption, rfl, by omega⟩ | exact ⟨⟨_, rfl, rfl⟩, by decide, by decide, rfl, by omega⟩ | omega | decide)⟩, ⟨rfl, ix_fr s k, by omega⟩⟩ ?_
    rw [nI_1, h4 k (by omega), rg_up rfl rfl]
    exact ih
  · have z1 := z0 B c
    have e3 : cnz (frR (mu (rg K 1 (40 + 32 * s) B c) 0 6 0) s) B = cnz c B := cnz_cong (fun k hk => by
      unfold frR
      rw [mu_ne _ _ (by decide)]
      exact rg_at hk)
    generalize rg K 1 (40 + 32 * s) B c = K at z1 e3 hV ⊢
    refine ru_go hV 2 [] rfl rfl trivial ?_
    refine ru_V hV [.int (nI B)] sVX8_58 (hbl _ z1) rfl rfl rfl rfl rfl (Nat.le_of_ble_eq_true rfl) ?_
    refine ru_go hV 6 [(1, 0)] rfl rfl ⟨⟨trivial, nI_le (Nat.le_refl B) (by omega)⟩, (by first | exact rfl | assumption | exact ⟨rfl, rfl⟩ | exact ⟨rfl, rfl, by omega⟩ | exact ⟨by assumption, rfl, by omega⟩ | exact ⟨⟨_, rfl, rfl⟩, by decide, by decide, rfl, by omega⟩ | omega | decide)⟩ ?_
    refine ru_V hV [] sVX8_122 (hmn _ (by rw [mu_ne _ _ (by decide)]; exact z1)) rfl rfl rfl rfl rfl (Nat.le_of_ble_eq_true rfl) ?_
    rw [e3]
    refine ru_fin hV 1 [] rfl rfl trivial ?_
    exact ⟨rfl, rfl, rfl⟩
theorem xX8_append (l : Launch) {x : Int32} (h : ¬ (33 ≤ x ∧ x ≤ 126)) (I : IM) (L : LM) : KX8_append l [.ref 0, .int x] I L (some (.int 0)) (mu I 0 7 1) L := by
  refine wX8_append l rfl (hz0 (by decide)) (fun V hV => ?_)
  refine ru_go hV 6 [] rfl rfl ⟨trivial, (by first | exact rfl | assumption | exact ⟨rfl, rfl⟩ | exact ⟨rfl, rfl, by omega⟩ | exact ⟨by assumption, rfl, by omega⟩ | exact ⟨⟨_, rfl, rfl⟩, by decide, by decide, rfl, by omega⟩ | omega | decide)⟩ ?_
  refine ru_S hV [] sSX8_54 (qX8_in l x 33 126 _ L) rfl rfl rfl (Nat.le_of_ble_eq_true rfl) ?_
  rw [decide_eq_false h]
  refine ru_go hV 3 [(0, 0)] rfl rfl ⟨trivial, (fun e => e rfl)⟩ ?_
  refine ru_V hV [] sVX8_70 (qX8_fails l 1 _ L) rfl rfl rfl rfl rfl (Nat.le_of_ble_eq_true rfl) ?_
  rw [mu_mu]
  refine ru_fin hV 1 [] rfl rfl trivial ?_
  exact ⟨rfl, rfl, rfl⟩
theorem vX8f_append (l : Launch) {x : Int32} (h : 33 ≤ x ∧ x ≤ 126) {I : IM} (hq : I 0 6 = 60) (L : LM) : KX8_append l [.ref 0, .int x] I L (some (.int 0)) (mu I 0 7 2) L := by
  refine wX8_append l rfl (hz0 (by decide)) (fun V hV => ?_)
  refine ru_go hV 6 [] rfl rfl ⟨trivial, (by first | exact rfl | assumption | exact ⟨rfl, rfl⟩ | exact ⟨rfl, rfl, by omega⟩ | exact ⟨by assumption, rfl, by omega⟩ | exact ⟨⟨_, rfl, rfl⟩, by decide, by decide, rfl, by omega⟩ | omega | decide)⟩ ?_
  refine ru_S hV [] sSX8_54 (qX8_in l x 33 126 _ L) rfl rfl rfl (Nat.le_of_ble_eq_true rfl) ?_
  rw [decide_eq_true h]
  refine ru_go hV 7 [(1, 0), (0, 0)] rfl rfl ⟨⟨⟨trivial, (by decide)⟩, (by first | exact rfl | assumption | exact ⟨rfl, rfl⟩ | exact ⟨rfl, rfl, by omega⟩ | exact ⟨by assumption, rfl, by omega⟩ | exact ⟨⟨_, rfl, rfl⟩, by decide, by decide, rfl, by omega⟩ | omega | decide)⟩, (fun e => e (by rw [t7 (by decide)]; exact hq))⟩ ?_
  refine ru_V hV [] sVX8_70 (qX8_fails l 2 _ L) rfl rfl rfl rfl rfl (Nat.le_of_ble_eq_true rfl) ?_
  rw [mu_mu]
  refine ru_fin hV 1 [] rfl rfl trivial ?_
  exact ⟨rfl, rfl, rfl⟩
theorem qX8_append (l : Launch) {x : Int32} {z : Nat} (h : 33 ≤ x ∧ x ≤ 126) (hz : z < 60) {I : IM} (hq : I 0 6 = nI z) (L : LM) : KX8_append l [.ref 0, .int x] I L (some (.int (nI (z + 1)))) (mu (mu (mu I 0 7 0) 5 z x) 0 6 (nI (z + 1))) L := by
  refine wX8_append l rfl (hz0 (by decide)) (fun V hV => ?_)
  have e6 : mu I 0 7 0 0 6 = nI z := by rw [t7 (by decide)]; exact hq
  refine ru_go hV 6 [] rfl rfl ⟨trivial, (by first | exact rfl | assumption | exact ⟨rfl, rfl⟩ | exact ⟨rfl, rfl, by omega⟩ | exact ⟨by assumption, rfl, by omega⟩ | exact ⟨⟨_, rfl, rfl⟩, by decide, by decide, rfl, by omega⟩ | omega | decide)⟩ ?_
  refine ru_S hV [] sSX8_54 (qX8_in l x 33 126 _ L) rfl rfl rfl (Nat.le_of_ble_eq_true rfl) ?_
  rw [decide_eq_true h]
  refine ru_fin hV 20 [(1, 0), (1, 0), (5, 0), (z, 60)] rfl rfl ⟨⟨⟨⟨⟨⟨⟨⟨⟨trivial, (by decide)⟩, (by first | exact rfl | assumption | exact ⟨rfl, rfl⟩ | exact ⟨rfl, rfl, by omega⟩ | exact ⟨by assumption, rfl, by omega⟩ | exact ⟨⟨_, rfl, rfl⟩, by decide, by decide, rfl, by omega⟩ | omega | decide)⟩, (by rw [e6]; exact fun e => absurd (nI_inj (b := 60) (by omega) (by decide) e) (by omega))⟩, (by first | exact rfl | assumption | exact ⟨rfl, rfl⟩ | exact ⟨rfl, rfl, by omega⟩ | exact ⟨by assumption, rfl, by omega⟩ | exact ⟨⟨_, rfl, rfl⟩, by decide, by decide, rfl, by omega⟩ | omega | decide)⟩, (by first | exact rfl | assumption | exact ⟨rfl, rfl⟩ | exact ⟨rfl, rfl, by omega⟩ | exact ⟨by assumption, rfl, by omega⟩ | exact ⟨⟨_, rfl, rfl⟩, by decide, by decide, rfl, by omega⟩ | omega | decide)⟩, ⟨rfl, e6, by omega⟩⟩, (by first | exact rfl | assumption | exact ⟨rfl, rfl⟩ | exact ⟨rfl, rfl, by omega⟩ | exact ⟨by assumption, rfl, by omega⟩ | exact ⟨⟨_, rfl, rfl⟩, by decide, by decide, rfl, by omega⟩ | omega | decide)⟩, (by first | exact rfl | assumption | exact ⟨rfl, rfl⟩ | exact ⟨rfl, rfl, by omega⟩ | exact ⟨by assumption, rfl, by omega⟩ | exact ⟨⟨_, rfl, rfl⟩, by decide, by decide, rfl, by omega⟩ | omega | decide)⟩, (by first | exact rfl | assumption | exact ⟨rfl, rfl⟩ | exact ⟨rfl, rfl, by omega⟩ | exact ⟨by assumption, rfl, by omega⟩ | exact ⟨⟨_, rfl, rfl⟩, by decide, by decide, rfl, by omega⟩ | omega | decide)⟩ ?_
  have e7 : mu (mu I 0 7 0) 5 z x 0 6 = nI z := by rw [mu_ne _ _ (by decide)]; exact e6
  rw [e7, nI_1, mu_self]
  exact ⟨rfl, rfl, rfl⟩
theorem qX8_clearBuffer (l : Launch) (I : IM) (L : LM) : KX8_clearBuffer l [.ref 0] I L (some (.int (I 0 6))) (mu (mu I 0 7 0) 0 6 0) L := by
  refine wX8_clearBuffer l rfl (hz0 (by decide)) (fun V hV => ?_)
  refine ru_fin hV 11 [] rfl rfl ⟨⟨⟨trivial, (by first | exact rfl | assumption | exact ⟨rfl, rfl⟩ | exact ⟨rfl, rfl, by omega⟩ | exact ⟨by assumption, rfl, by omega⟩ | exact ⟨⟨_, rfl, rfl⟩, by decide, by decide, rfl, by omega⟩ | omega | decide)⟩, (by first | exact rfl | assumption | exact ⟨rfl, rfl⟩ | exact ⟨rfl, rfl, by omega⟩ | exact ⟨by assumption, rfl, by omega⟩ | exact ⟨⟨_, rfl, rfl⟩, by decide, by decide, rfl, by omega⟩ | omega | decide)⟩, (by first | exact rfl | assumption | exact ⟨rfl, rfl⟩ | exact ⟨rfl, rfl, by omega⟩ | exact ⟨by assumption, rfl, by omega⟩ | exact ⟨⟨_, rfl, rfl⟩, by decide, by decide, rfl, by omega⟩ | omega | decide)⟩ ?_
  exact ⟨by rw [t7 (by decide)]; rfl, rfl, rfl⟩
def kp (k : Nat) : Nat := if k < 31 then k else k + 9
theorem qX8_kept (l : Launch) {k : Nat} (hk : k < 287) (I : IM) (L : LM) : KX8_kept l [.int (nI k)] I L (some (.int (nI (kp k)))) I L := by
  refine wX8_kept l rfl (hz0 (by decide)) (fun V hV => ?_)
  by_cases h : k < 31
  · refine ru_fin hV 6 [(0, 0)] rfl rfl ⟨trivial, nI_ge (b := 31) h (by decide)⟩ ?_
    exact ⟨by rw [kp, if_pos h]; rfl, rfl, rfl⟩
  · refine ru_fin hV 9 [(1, 0)] rfl rfl ⟨trivial, nI_le (a := 31) (by omega) (by omega)⟩ ?_
    refine ⟨?_, rfl, rfl⟩
    rw [kp, if_neg h, show (31 : Int32) = nI 31 from rfl, nI_sub (by omega), show (40 : Int32) = nI 40 from rfl, nI_add, show k - 31 + 40 = k + 9 by omega]
    rfl
theorem ix_sh (s k : Nat) : (287 : Int32) * nI s + nI k = nI (287 * s + k) := by
  rw [show (287 : Int32) = nI 287 from rfl, nI_mul, nI_add]
theorem in_01 {s : Nat} (hs : s < 2) : b2i (decide ((0 : Int32) ≤ nI s ∧ nI s ≤ 1)) = 1 := in_t (m := 2) hs (by decide)
theorem in_01f {x : Int32} (h : ouR x 2) : b2i (decide ((0 : Int32) ≤ x ∧ x ≤ 1)) = 0 := in_f (m := 2) h (by decide) (by decide)
theorem kp_lt {k : Nat} (hk : k < 287) : kp k < 296 := by unfold kp; split <;> omega
def tkR (I : IM) (s : Nat) : IM := mu (rg I 3 (287 * s) 287 (fun k => I 1 (kp k))) 4 s 1
theorem fmR_cong {I J : IM} {n : Nat} (h : I 1 = J 1) : ∀ k, fmR I n k = fmR J n k
  | 0 => rfl
  | k + 1 => by
    unfold fmR
    rw [fmR_cong h k, show frR I k = frR J k by unfold frR; rw [h]]
theorem xX8_take (l : Launch) {x : Int32} (h : ouR x 2) (I : IM) (L : LM) : KX8_take l [.ref 0, .int x] I L (some (.int 0)) (mu I 0 7 1) L := by
  refine wX8_take l rfl (hz0 (by decide)) (fun V hV => ?_)
  refine ru_go hV 6 [] rfl rfl ⟨trivial, (by first | exact rfl | assumption | exact ⟨rfl, rfl⟩ | exact ⟨rfl, rfl, by omega⟩ | exact ⟨by assumption, rfl, by omega⟩ | exact ⟨⟨_, rfl, rfl⟩, by decide, by decide, rfl, by omega⟩ | omega | decide)⟩ ?_
  refine ru_S hV [] sSX8_54 (qX8_in l x 0 1 _ L) rfl rfl rfl (Nat.le_of_ble_eq_true rfl) ?_
  rw [in_01f h]
  refine ru_go hV 3 [(0, 0)] rfl rfl ⟨trivial, (fun e => e rfl)⟩ ?_
  refine ru_V hV [] sVX8_70 (qX8_fails l 1 _ L) rfl rfl rfl rfl rfl (Nat.le_of_ble_eq_true rfl) ?_
  rw [mu_mu]
  refine ru_fin hV 1 [] rfl rfl trivial ?_
  exact ⟨rfl, rfl, rfl⟩
theorem qX8_take (l : Launch) {s n : Nat} (hs : s < 2) (hn : n ≤ 5) {I : IM} (hd : I 1 0 = nI n) (L : LM) : KX8_take l [.ref 0, .int (nI s)] I L (some (.int (nI (fmR I n 8)))) (tkR (mu I 0 7 0) s) L := by
  refine wX8_take l rfl (hz0 (by decide)) (fun V hV => ?_)
  unfold tkR at hV
  have e1 : mu I 0 7 0 1 = I 1 := t7n (by decide)
  refine ru_go hV 6 [] rfl rfl ⟨trivial, (by first | exact rfl | assumption | exact ⟨rfl, rfl⟩ | exact ⟨rfl, rfl, by omega⟩ | exact ⟨by assumption, rfl, by omega⟩ | exact ⟨⟨_, rfl, rfl⟩, by decide, by decide, rfl, by omega⟩ | omega | decide)⟩ ?_
  refine ru_S hV [] sSX8_54 (qX8_in l (nI s) 0 1 _ L) rfl rfl rfl (Nat.le_of_ble_eq_true rfl) ?_
  rw [in_01 hs]
  generalize mu I 0 7 0 = J at e1 hV ⊢
  refine ru_go hV 3 [(1, 0)] rfl rfl ⟨trivial, (by decide)⟩ ?_
  refine loop0 (P := fun k => V 22 [(0, .ref 0), (1, .int (nI s)), (2, .int (nI k))] [] (rg J 3 (287 * s) k (fun k => J 1 (kp k))) L) 287 (fun h => by rw [rg_0] at h; exact h) (fun k hk ih => ?_) ?_
  · refine ru_go hV 13 [(0, 0), (3, 0), (1, 0)] rfl rfl ⟨⟨⟨trivial, nI_ge (b := 287) hk (by decide)⟩, (by first | exact rfl | assumption | exact ⟨rfl, rfl⟩ | exact ⟨rfl, rfl, by omega⟩ | exact ⟨by assumption, rfl, by omega⟩ | exact ⟨⟨_, rfl, rfl⟩, by decide, by decide, rfl, by omega⟩ | omega | decide)⟩, (by first | exact rfl | assumption | exact ⟨rfl, rfl⟩ | exact ⟨rfl, rfl, by omega⟩ | exact ⟨by assumption, rfl, by omega⟩ | exact ⟨⟨_, rfl, rfl⟩, by decide, by decide, rfl, by omega⟩ | omega | decide)⟩ ?_
    refine ru_S hV [.ref 1, .int (287 * nI s + nI k), .ref 3] sSX8_179 (qX8_kept l hk _ L) rfl rfl rfl (Nat.le_of_ble_eq_true rfl) ?_
    rw [ix_sh]
    refine ru_go hV 4 [((kp k), 296), ((287*s+k), 574)] rfl rfl ⟨⟨trivial, ⟨rfl, rfl, kp_lt hk⟩⟩, (by first | exact rfl | assumption | exact ⟨rfl, rfl⟩ | exact ⟨rfl, rfl, by omega⟩ | exact ⟨by assumption, rfl, by omega⟩ | exact ⟨⟨_, rfl, rfl⟩, by decide, by decide, rfl, by omega⟩ | omega | decide)⟩ ?_
    rw [nI_1, rg_up (by rw [rg_ne (by decide)]) rfl]
    exact ih
  · have e2 : rg J 3 (287 * s) 287 (fun k => J 1 (kp k)) 1 = I 1 := by rw [rg_ne (by decide), e1]
    generalize rg J 3 (287 * s) 287 (fun k => J 1 (kp k)) = K at e2 hV ⊢
    refine ru_go hV 9 [(1, 0), (4, 0), (s, 2)] rfl rfl ⟨⟨⟨trivial, (by first | exact rfl | assumption | exact ⟨rfl, rfl⟩ | exact ⟨rfl, rfl, by omega⟩ | exact ⟨by assumption, rfl, by omega⟩ | exact ⟨⟨_, rfl, rfl⟩, by decide, by decide, rfl, by omega⟩ | omega | decide)⟩, (by first | exact rfl | assumption | exact ⟨rfl, rfl⟩ | exact ⟨rfl, rfl, by omega⟩ | exact ⟨by assumption, rfl, by omega⟩ | exact ⟨⟨_, rfl, rfl⟩, by decide, by decide, rfl, by omega⟩ | omega | decide)⟩, (by first | exact rfl | assumption | exact ⟨rfl, rfl⟩ | exact ⟨rfl, rfl, by omega⟩ | exact ⟨by assumption, rfl, by omega⟩ | exact ⟨⟨_, rfl, rfl⟩, by decide, by decide, rfl, by omega⟩ | omega | decide)⟩ ?_
    have e3 : mu K 4 s 1 1 = I 1 := by rw [mu_ne _ _ (by decide)]; exact e2
    have hK := qX8_forms l hn (I := mu K 4 s 1) (by rw [e3]; exact hd) L
    rw [fmR_cong e3] at hK
    refine ru_V hV [] sVX8_182 hK rfl rfl rfl rfl rfl (Nat.le_of_ble_eq_true rfl) ?_
    refine ru_fin hV 1 [] rfl rfl trivial ?_
    exact ⟨rfl, rfl, rfl⟩
/-- a snapshot brought back -/
def rsK (J : IM) (s K : Nat) : IM := fun a j => if a = 1 ∧ j < 31 ∧ j < K then J 3 (287 * s + j) else if a = 1 ∧ 40 ≤ j ∧ j < K + 9 then J 3 (287 * s + (j - 9)) else J a j
theorem rs_0 {J : IM} {s : Nat} : rsK J s 0 = J := by
  funext a j
  simp only [rsK]
  rw [if_neg (by omega), if_neg (by omega)]
theorem rs_up {J : IM} {s k : Nat} : mu (rsK J s k) 1 (kp k) (J 3 (287 * s + k)) = rsK J s (k + 1) := by
  funext a j
  by_cases hk : k < 31
  · rw [show kp k = k from if_pos hk]
    simp only [mu, rsK]
    by_cases e : a = 1 ∧ j = k
    · obtain ⟨rfl, rfl⟩ := e
      rw [if_pos ⟨rfl, rfl⟩, if_pos ⟨rfl, hk, by omega⟩]
    · rw [if_neg e]
      by_cases e2 : a = 1 ∧ j < 31 ∧ j < k
      · rw [if_pos e2, if_pos (show a = 1 ∧ j < 31 ∧ j < k + 1 by omega)]
      · rw [if_neg e2, if_neg (show ¬ (a = 1 ∧ j < 31 ∧ j < k + 1) by omega), if_neg (show ¬ (a = 1 ∧ 40 ≤ j ∧ j < k + 9) by omega), if_neg (show ¬ (a = 1 ∧ 40 ≤ j ∧ j < k + 1 + 9) by omega)]
  · rw [show kp k = k + 9 from if_neg hk]
    simp only [mu, rsK]
    by_cases e : a = 1 ∧ j = k + 9
    · obtain ⟨rfl, rfl⟩ := e
      rw [if_pos ⟨rfl, rfl⟩, if_neg (show ¬ (1 = 1 ∧ k + 9 < 31 ∧ k + 9 < k + 1) by omega), if_pos (show 1 = 1 ∧ 40 ≤ k + 9 ∧ k + 9 < k + 1 + 9 by omega), Nat.add_sub_cancel]
    · rw [if_neg e]
      by_cases e2 : a = 1 ∧ j < 31 ∧ j < k
      · rw [if_pos e2, if_pos (show a = 1 ∧ j < 31 ∧ j < k + 1 by omega)]
      · rw [if_neg e2, if_neg (show ¬ (a = 1 ∧ j < 31 ∧ j < k + 1) by omega)]
        by_cases e3 : a = 1 ∧ 40 ≤ j ∧ j < k + 9
        · rw [if_pos e3, if_pos (show a = 1 ∧ 40 ≤ j ∧ j < k + 1 + 9 by omega)]
        · rw [if_neg e3, if_neg (show ¬ (a = 1 ∧ 40 ≤ j ∧ j < k + 1 + 9) by omega)]
theorem rs_lo {J : IM} {s k j : Nat} (h : j < 31) (h2 : j < k) : rsK J s k 1 j = J 3 (287 * s + j) := by
  unfold rsK
  exact if_pos ⟨rfl, h, h2⟩
theorem rs_hi {J : IM} {s k j : Nat} (h : 40 ≤ j) (h2 : j < k + 9) : rsK J s k 1 j = J 3 (287 * s + (j - 9)) := by
  unfold rsK
  exact (if_neg (by omega)).trans (if_pos ⟨rfl, h, h2⟩)
theorem rs_mid {J : IM} {s k j : Nat} (h : 31 ≤ j) (h2 : j < 40) : rsK J s k 1 j = J 1 j := by
  unfold rsK
  exact (if_neg (by omega)).trans (if_neg (by omega))
theorem rs_ne {J : IM} {s k a : Nat} (h : a ≠ 1) : rsK J s k a = J a := by funext j; simp [rsK, h]
theorem xX8_restore (l : Launch) {x : Int32} (h : ouR x 2) (I : IM) (L : LM) : KX8_restore l [.ref 0, .int x] I L (some (.int 0)) (mu I 0 7 1) L := by
  refine wX8_restore l rfl (hz0 (by decide)) (fun V hV => ?_)
  refine ru_go hV 6 [] rfl rfl ⟨trivial, (by first | exact rfl | assumption | exact ⟨rfl, rfl⟩ | exact ⟨rfl, rfl, by omega⟩ | exact ⟨by assumption, rfl, by omega⟩ | exact ⟨⟨_, rfl, rfl⟩, by decide, by decide, rfl, by omega⟩ | omega | decide)⟩ ?_
  refine ru_S hV [] sSX8_54 (qX8_in l x 0 1 _ L) rfl rfl rfl (Nat.le_of_ble_eq_true rfl) ?_
  rw [in_01f h]
  refine ru_go hV 3 [(0, 0)] rfl rfl ⟨trivial, (fun e => e rfl)⟩ ?_
  refine ru_V hV [] sVX8_70 (qX8_fails l 1 _ L) rfl rfl rfl rfl rfl (Nat.le_of_ble_eq_true rfl) ?_
  rw [mu_mu]
  refine ru_fin hV 1 [] rfl rfl trivial ?_
  exact ⟨rfl, rfl, rfl⟩
theorem vX8f_restore (l : Launch) {s : Nat} (hs : s < 2) {I : IM} (ht : I 4 s = 0) (L : LM) : KX8_restore l [.ref 0, .int (nI s)] I L (some (.int 0)) (mu I 0 7 2) L := by
  refine wX8_restore l rfl (hz0 (by decide)) (fun V hV => ?_)
  refine ru_go hV 6 [] rfl rfl ⟨trivial, (by first | exact rfl | assumption | exact ⟨rfl, rfl⟩ | exact ⟨rfl, rfl, by omega⟩ | exact ⟨by assumption, rfl, by omega⟩ | exact ⟨⟨_, rfl, rfl⟩, by decide, by decide, rfl, by omega⟩ | omega | decide)⟩ ?_
  refine ru_S hV [] sSX8_54 (qX8_in l (nI s) 0 1 _ L) rfl rfl rfl (Nat.le_of_ble_eq_true rfl) ?_
  rw [in_01 hs]
  refine ru_go hV 8 [(1, 0), (4, 0), (s, 2), (0, 0)] rfl rfl ⟨⟨⟨⟨trivial, (by decide)⟩, (by first | exact rfl | assumption | exact ⟨rfl, rfl⟩ | exact ⟨rfl, rfl, by omega⟩ | exact ⟨by assumption, rfl, by omega⟩ | exact ⟨⟨_, rfl, rfl⟩, by decide, by decide, rfl, by omega⟩ | omega | decide)⟩, (by first | exact rfl | assumption | exact ⟨rfl, rfl⟩ | exact ⟨rfl, rfl, by omega⟩ | exact ⟨by assumption, rfl, by omega⟩ | exact ⟨⟨_, rfl, rfl⟩, by decide, by decide, rfl, by omega⟩ | omega | decide)⟩, (fun e => e (by rw [t7n (by decide)]; exact ht))⟩ ?_
  refine ru_V hV [] sVX8_70 (qX8_fails l 2 _ L) rfl rfl rfl rfl rfl (Nat.le_of_ble_eq_true rfl) ?_
  rw [mu_mu]
  refine ru_fin hV 1 [] rfl rfl trivial ?_
  exact ⟨rfl, rfl, rfl⟩
theorem qX8_restore (l : Launch) {s n q : Nat} (hs : s < 2) (hn : n ≤ 5) (hq : q ≤ 6) {I : IM} (ht : I 4 s ≠ 0) (h2 : I 0 2 = nI q) (hd : I 3 (287 * s) = nI n) (L : LM) : KX8_restore l [.ref 0, .int (nI s)] I L (some (.int (nI (fmR (rsK (svR (mu I 0 7 0) q) s 287) n 8)))) (rsK (svR (mu I 0 7 0) q) s 287) L := by
  refine wX8_restore l rfl (hz0 (by decide)) (fun V hV => ?_)
  refine ru_go hV 6 [] rfl rfl ⟨trivial, (by first | exact rfl | assumption | exact ⟨rfl, rfl⟩ | exact ⟨rfl, rfl, by omega⟩ | exact ⟨by assumption, rfl, by omega⟩ | exact ⟨⟨_, rfl, rfl⟩, by decide, by decide, rfl, by omega⟩ | omega | decide)⟩ ?_
  refine ru_S hV [] sSX8_54 (qX8_in l (nI s) 0 1 _ L) rfl rfl rfl (Nat.le_of_ble_eq_true rfl) ?_
  rw [in_01 hs]
  refine ru_go hV 7 [(1, 0), (4, 0), (s, 2), (1, 0)] rfl rfl ⟨⟨⟨⟨trivial, (by decide)⟩, (by first | exact rfl | assumption | exact ⟨rfl, rfl⟩ | exact ⟨rfl, rfl, by omega⟩ | exact ⟨by assumption, rfl, by omega⟩ | exact ⟨⟨_, rfl, rfl⟩, by decide, by decide, rfl, by omega⟩ | omega | decide)⟩, (by first | exact rfl | assumption | exact ⟨rfl, rfl⟩ | exact ⟨rfl, rfl, by omega⟩ | exact ⟨by assumption, rfl, by omega⟩ | exact ⟨⟨_, rfl, rfl⟩, by decide, by decide, rfl, by omega⟩ | omega | decide)⟩, (by rw [t7n (by decide)]; exact ht)⟩ ?_
  refine ru_V hV [] sVX8_73 (qX8_save l hq (I := mu I 0 7 0) (by rw [t7 (by decide)]; exact h2) L) rfl rfl rfl rfl rfl (Nat.le_of_ble_eq_true rfl) ?_
  have e3 : svR (mu I 0 7 0) q 3 (287 * s) = nI n := by rw [svR_ne (by decide) (by decide), t7n (by decide)]; exact hd
  generalize svR (mu I 0 7 0) q = J at e3 hV ⊢
  refine ru_go hV 2 [] rfl rfl trivial ?_
  refine loop0 (P := fun k => V 41 [(0, .ref 0), (1, .int (nI s)), (2, .int (nI k))] [] (rsK J s k) L) 287 (fun h => by rw [rs_0] at h; exact h) (fun k hk ih => ?_) ?_
  · refine ru_go hV 6 [(0, 0), (1, 0)] rfl rfl ⟨⟨trivial, nI_ge (b := 287) hk (by decide)⟩, (by first | exact rfl | assumption | exact ⟨rfl, rfl⟩ | exact ⟨rfl, rfl, by omega⟩ | exact ⟨by assumption, rfl, by omega⟩ | exact ⟨⟨_, rfl, rfl⟩, by decide, by decide, rfl, by omega⟩ | omega | decide)⟩ ?_
    refine ru_S hV [.ref 1] sSX8_179 (qX8_kept l hk _ L) rfl rfl rfl (Nat.le_of_ble_eq_true rfl) ?_
    refine ru_go hV 11 [(3, 0), ((287*s+k), 574), ((kp k), 296)] rfl rfl ⟨⟨⟨trivial, (by first | exact rfl | assumption | exact ⟨rfl, rfl⟩ | exact ⟨rfl, rfl, by omega⟩ | exact ⟨by assumption, rfl, by omega⟩ | exact ⟨⟨_, rfl, rfl⟩, by decide, by decide, rfl, by omega⟩ | omega | decide)⟩, ⟨rfl, ix_sh s k, by omega⟩⟩, ⟨rfl, rfl, kp_lt hk⟩⟩ ?_
    rw [nI_1, rs_ne (a := 3) (by decide), rs_up]
    exact ih
  · refine ru_go hV 4 [(1, 0)] rfl rfl ⟨trivial, (by first | exact rfl | assumption | exact ⟨rfl, rfl⟩ | exact ⟨rfl, rfl, by omega⟩ | exact ⟨by assumption, rfl, by omega⟩ | exact ⟨⟨_, rfl, rfl⟩, by decide, by decide, rfl, by omega⟩ | omega | decide)⟩ ?_
    refine ru_V hV [] sVX8_182 (qX8_forms l hn (I := rsK J s 287) (by rw [rs_lo (by decide) (by decide)]; exact e3) L) rfl rfl rfl rfl rfl (Nat.le_of_ble_eq_true rfl) ?_
    refine ru_fin hV 1 [] rfl rfl trivial ?_
    exact ⟨rfl, rfl, rfl⟩
theorem xX8_undo (l : Launch) {I : IM} (h2 : I 0 2 = 0) (L : LM) : KX8_undo l [.ref 0] I L (some (.int 0)) (mu I 0 7 1) L := by
  refine wX8_undo l rfl (hz0 (by decide)) (fun V hV => ?_)
  refine ru_go hV 8 [(0, 0)] rfl rfl ⟨⟨⟨trivial, (by first | exact rfl | assumption | exact ⟨rfl, rfl⟩ | exact ⟨rfl, rfl, by omega⟩ | exact ⟨by assumption, rfl, by omega⟩ | exact ⟨⟨_, rfl, rfl⟩, by decide, by decide, rfl, by omega⟩ | omega | decide)⟩, (by first | exact rfl | assumption | exact ⟨rfl, rfl⟩ | exact ⟨rfl, rfl, by omega⟩ | exact ⟨by assumption, rfl, by omega⟩ | exact ⟨⟨_, rfl, rfl⟩, by decide, by decide, rfl, by omega⟩ | omega | decide)⟩, (fun e => e (by rw [t7 (by decide)]; exact h2))⟩ ?_
  refine ru_V hV [] sVX8_70 (qX8_fails l 1 _ L) rfl rfl rfl rfl rfl (Nat.le_of_ble_eq_true rfl) ?_
  rw [mu_mu]
  refine ru_fin hV 1 [] rfl rfl trivial ?_
  exact ⟨rfl, rfl, rfl⟩
def unR (I : IM) (q : Nat) : IM := rg (mu I 0 2 (nI (q - 1))) 1 0 296 (fun k => I 2 (296 * (q - 1) + k))
theorem qX8_undo (l : Launch) {q : Nat} (hq : q ≤ 6) (hq0 : 0 < q) {I : IM} (h2 : I 0 2 = nI q) (L : LM) : KX8_undo l [.ref 0] I L (some (.int (nI (q - 1)))) (unR (mu I 0 7 0) q) L := by
  refine wX8_undo l rfl (hz0 (by decide)) (fun V hV => ?_)
  have e2 : mu I 0 7 0 0 2 = nI q := by rw [t7 (by decide)]; exact h2
  unfold unR at hV
  refine ru_go hV 14 [(1, 0)] rfl rfl ⟨⟨⟨⟨⟨trivial, (by first | exact rfl | assumption | exact ⟨rfl, rfl⟩ | exact ⟨rfl, rfl, by omega⟩ | exact ⟨by assumption, rfl, by omega⟩ | exact ⟨⟨_, rfl, rfl⟩, by decide, by decide, rfl, by omega⟩ | omega | decide)⟩, (by first | exact rfl | assumption | exact ⟨rfl, rfl⟩ | exact ⟨rfl, rfl, by omega⟩ | exact ⟨by assumption, rfl, by omega⟩ | exact ⟨⟨_, rfl, rfl⟩, by decide, by decide, rfl, by omega⟩ | omega | decide)⟩, (by rw [e2]; exact nI_ne0 hq0 (by omega))⟩, (by first | exact rfl | assumption | exact ⟨rfl, rfl⟩ | exact ⟨rfl, rfl, by omega⟩ | exact ⟨by assumption, rfl, by omega⟩ | exact ⟨⟨_, rfl, rfl⟩, by decide, by decide, rfl, by omega⟩ | omega | decide)⟩, (by first | exact rfl | assumption | exact ⟨rfl, rfl⟩ | exact ⟨rfl, rfl, by omega⟩ | exact ⟨by assumption, rfl, by omega⟩ | exact ⟨⟨_, rfl, rfl⟩, by decide, by decide, rfl, by omega⟩ | omega | decide)⟩ ?_
  rw [e2, show nI q - 1 = nI (q - 1) by rw [show (1 : Int32) = nI 1 from rfl, nI_sub hq0]]
  generalize mu I 0 7 0 = J at e2 hV ⊢
  refine loop0 (P := fun k => V 30 [(0, .ref 0), (1, .int (nI k))] [] (rg (mu J 0 2 (nI (q - 1))) 1 0 k (fun k => J 2 (296 * (q - 1) + k))) L) 296 (fun h => by rw [rg_0] at h; exact h) (fun k hk ih => ?_) ?_
  · have e3 : rg (mu J 0 2 (nI (q - 1))) 1 0 k (fun k => J 2 (296 * (q - 1) + k)) 0 2 = nI (q - 1) := by rw [rg_ne (by decide), mu_self]
    refine ru_go hV 18 [(0, 0), (1, 0), (2, 0), ((296*(q-1)+k), 1776), (k, 296)] rfl rfl ⟨⟨⟨⟨⟨⟨trivial, nI_ge (b := 296) hk (by decide)⟩, (by first | exact rfl | assumption | exact ⟨rfl, rfl⟩ | exact ⟨rfl, rfl, by omega⟩ | exact ⟨by assumption, rfl, by omega⟩ | exact ⟨⟨_, rfl, rfl⟩, by decide, by decide, rfl, by omega⟩ | omega | decide)⟩, (by first | exact rfl | assumption | exact ⟨rfl, rfl⟩ | exact ⟨rfl, rfl, by omega⟩ | exact ⟨by assumption, rfl, by omega⟩ | exact ⟨⟨_, rfl, rfl⟩, by decide, by decide, rfl, by omega⟩ | omega | decide)⟩, (by first | exact rfl | assumption | exact ⟨rfl, rfl⟩ | exact ⟨rfl, rfl, by omega⟩ | exact ⟨by assumption, rfl, by omega⟩ | exact ⟨⟨_, rfl, rfl⟩, by decide, by decide, rfl, by omega⟩ | omega | decide)⟩, ⟨rfl, by rw [e3]; exact ix_sv _ k, by omega⟩⟩, (by first | exact rfl | assumption | exact ⟨rfl, rfl⟩ | exact ⟨rfl, rfl, by omega⟩ | exact ⟨by assumption, rfl, by omega⟩ | exact ⟨⟨_, rfl, rfl⟩, by decide, by decide, rfl, by omega⟩ | omega | decide)⟩ ?_
    rw [nI_1, rg_up (f := fun k => J 2 (296 * (q - 1) + k)) (k := k) (q := k) (by rw [rg_ne (by decide), mu_ne _ _ (by decide)]) (by omega)]
    exact ih
  · refine ru_fin hV 6 [(1, 0)] rfl rfl ⟨⟨trivial, (by first | exact rfl | assumption | exact ⟨rfl, rfl⟩ | exact ⟨rfl, rfl, by omega⟩ | exact ⟨by assumption, rfl, by omega⟩ | exact ⟨⟨_, rfl, rfl⟩, by decide, by decide, rfl, by omega⟩ | omega | decide)⟩, (by first | exact rfl | assumption | exact ⟨rfl, rfl⟩ | exact ⟨rfl, rfl, by omega⟩ | exact ⟨by assumption, rfl, by omega⟩ | exact ⟨⟨_, rfl, rfl⟩, by decide, by decide, rfl, by omega⟩ | omega | decide)⟩ ?_
    exact ⟨by rw [rg_ne (by decide), mu_self]; rfl, rfl, rfl⟩
