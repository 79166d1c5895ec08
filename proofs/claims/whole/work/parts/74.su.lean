/-! BOTH SIDES: texts, snapshots, undo -/
theorem Sim.same {I I' J J' : IM} {n o z q : Nat} {f : Nat → Nat} (h : Sim I J n o z q f) (hI : ∀ a, 1 ≤ a → a ≤ 167 → I' a = I a) (h5 : I' 0 5 = I 0 5) (hz : VZ I → VZ I') (hJ : ∀ a, 1 ≤ a → a ≤ 5 → J' a = J a) (h2 : J' 0 2 = J 0 2) (h6 : J' 0 6 = J 0 6) : Sim I' J' n o z q f :=
  ⟨⟨h.1.1.of (fun d j hd => by rw [hI _ (by omega) (by unfold rlD at hd; omega)]) (fun k _ => by rw [hJ 1 (by decide) (by decide)]), h.1.2.of (fun j _ => by rw [hI _ (by decide) (by decide)]) (fun j _ => by rw [hJ 1 (by decide) (by decide)])⟩, h.2.of (fun a a1 a2 => hI a (by omega) a2) h5 hz (fun a a1 a2 => hJ a (by omega) a2) h2 h6⟩
theorem Sim.SC {I I' J : IM} {n o z q : Nat} {f : Nat → Nat} (h : Sim I J n o z q f) (hs : SC I I') : Sim I' J n o z q f :=
  h.same (fun a _ a2 => hs.1 a (by omega) (by omega) (by omega) (by omega)) (by rw [hs.1 0 (by decide) (by decide) (by decide) (by decide)]) hs.2 (fun _ _ _ => rfl) rfl rfl
theorem Sim.RQ {I J J' : IM} {n o z q : Nat} {f : Nat → Nat} (h : Sim I J n o z q f) (hs : RQ J J') : Sim I J' n o z q f :=
  h.same (fun _ _ _ => rfl) rfl id (fun a a1 a2 => hs.1 a (by omega) (by omega)) (hs.2 2 (by decide) (by decide)) (hs.2 6 (by decide) (by decide))
theorem Sim.RF {I J J' : IM} {n o z q : Nat} {f : Nat → Nat} (h : Sim I J n o z q f) (hs : RF J J') : Sim I J' n o z q f :=
  h.same (fun _ _ _ => rfl) rfl id (fun a a1 a2 => hs.1 a (by omega)) (hs.2 2 (by decide)) (hs.2 6 (by decide))
theorem Sim.saved0 {I J : IM} {n o z q : Nat} {f : Nat → Nat} (h : Sim I J n o z q f) : ∃ o' z', Sim (svI I o z) (svR J z) n o' z' q f := by
  obtain ⟨o', z', hr⟩ := h.save
  have a1 := h.2.1.1
  refine ⟨o', z', ⟨h.1.1.of (fun d j hd => ?_) (fun k _ => ?_), h.1.2.of (fun j hj => ?_) (fun j _ => ?_)⟩, hr⟩
  · rw [svI_ne a1 (by unfold rlD at hd; omega)]
  · rw [svR_ne (by decide) (by decide)]
  · rw [svI_ne a1 (by omega)]
  · rw [svR_ne (by decide) (by decide)]
/-- the reader's numbers are small, and lie within the dimension -/
def CB (n m : Nat) (c : Nat → Int32) : Prop := (∀ j, 2 ^ n ≤ j → c j = 0) ∧ ∀ j, -(100000 * (m : Int)) ≤ (c j).toInt ∧ (c j).toInt ≤ 100000 * (m : Int)
theorem CB.up {n m : Nat} {c : Nat → Int32} (h : CB n m c) : CB n (m + 1) c := ⟨h.1, fun j => by
  have := h.2 j
  omega⟩
theorem CB.ad {n m u b : Nat} {g : Bool} {c : Nat → Int32} (h : CB n m c) (hm : m ≤ 100) (hu : u < 100000) (hb : b < 2 ^ n) : CB n (m + 1) (adT g u b c) := by
  refine ⟨fun j hj => ?_, fun j => ?_⟩
  · unfold adT
    rw [if_neg (by omega)]
    exact h.1 j hj
  · have hj := h.2 j
    have hb := h.2 b
    unfold adT
    split
    · have e : (sgI g (nI u)).toInt = u ∨ (sgI g (nI u)).toInt = -(u : Int) := by
        cases g with
        | true =>
          right
          show (-(nI u)).toInt = _
          rw [Int32.toInt_neg, nI_toInt (by omega), Int.bmod_eq_of_le (by omega) (by omega)]
        | false =>
          left
          show (nI u).toInt = _
          exact nI_toInt (by omega)
      rw [Int32.toInt_add, Int.bmod_eq_of_le (by omega) (by omega)]
      omega
    · omega
theorem acc_CB {n k m : Nat} {s t : Fs} (hs : VF n s) (hm : m ≤ 100) (hc : CB n m s.2.2.2.2) (h : acc n s k = some t) : CB n (m + 1) t.2.2.2.2 := by
  obtain ⟨md, g, u, b, c⟩ := s
  obtain ⟨-, hu, hb⟩ := hs
  have hu : u < 100000 := hu
  have hb : b < 2 ^ n := hb
  have hc : CB n m c := hc
  unfold acc acS acE acD at h
  simp only at h
  split at h
  · split at h
    · cases h; exact hc.ad hm hu hb
    · split at h
      · cases h; exact hc.up
      · cases h
  · split at h
    · split at h
      · cases h; exact hc.up
      · cases h
    · split at h
      · split at h
        · cases h; exact hc.up
        · split at h
          · split at h
            · cases h
            · cases h; exact hc.up
          · split at h
            · split at h
              · cases h
              · cases h; exact hc.up
            · split at h
              · split at h
                · cases h
                · cases h; exact hc.up
              · cases h
      · cases h
theorem rdR_CB {n : Nat} {f : Nat → Nat} (hn : n ≤ 5) : ∀ (k i m : Nat) (s : Fs), m + k ≤ 99 → VF n s → CB n m s.2.2.2.2 → CB n (m + k + 1) (rdR n f k i s).2.2.2.2.2
  | 0, i, m, (md, g, u, b, c), hm, hs, hc => by
    unfold rdR
    dsimp only
    split
    · exact hc.ad (by omega) hs.2.1 hs.2.2
    · exact hc.up
  | k + 1, i, m, s, hm, hs, hc => by
    unfold rdR
    cases ha : acc n s (f i) with
    | none =>
      have : ∀ p, CB n (m + p) s.2.2.2.2 := fun p => by
        induction p with
        | zero => exact hc
        | succ p ih => exact ih.up
      exact this (k + 1 + 1)
    | some t =>
      have := rdR_CB (f := f) hn k (i + 1) (m + 1) t (by omega) (acc_VF hn hs ha) (acc_CB hs (by omega) hc ha)
      rw [show m + (k + 1) + 1 = m + 1 + k + 1 by omega]
      exact this
theorem rdB_FA {n q : Nat} {f : Nat → Nat} (hn : n ≤ 5) (hq : q ≤ 60) : (∀ k, 2 ^ n ≤ k → (rdB n f q).2.2.2.2.2 k = 0) ∧ ∀ k, -100000000 ≤ ((rdB n f q).2.2.2.2.2 k).toInt ∧ ((rdB n f q).2.2.2.2.2 k).toInt ≤ 100000000 := by
  have h := rdR_CB (f := f) hn q 0 0 (0, false, 1, 0, fun _ => 0) (by omega) ⟨(by decide : 0 ≤ 5), (by decide : 1 < 100000), Nat.two_pow_pos n⟩ ⟨fun _ _ => rfl, fun j => by
    show -(100000 * ((0 : Nat) : Int)) ≤ (0 : Int32).toInt ∧ (0 : Int32).toInt ≤ 100000 * ((0 : Nat) : Int)
    decide⟩
  refine ⟨h.1, fun k => ?_⟩
  have := h.2 k
  unfold rdB
  omega
theorem Sim.put {I J : IM} {n o z q s : Nat} {f : Nat → Nat} (h : Sim I J n o z q f) (hs : s < 8) {c : Nat → Int32} (c1 : ∀ k, 2 ^ n ≤ k → c k = 0) (c2 : ∀ k, -100000000 ≤ (c k).toInt ∧ (c k).toInt ≤ 100000000) : cnz c 32 = cnz c (2 ^ n) ∧ ∃ o' z', Sim (ptI I c o z s) (mu (rg (svR J z) 1 (40 + 32 * s) (2 ^ n) c) 0 6 0) n o' z' 0 f := by
  have hn := h.1.1.2.1
  have hB := (pow_le32 n hn).1
  obtain ⟨o', z', ⟨⟨h1, h2, h3, h4, h5, h6, h7⟩, hty⟩, hr⟩ := h.saved0
  refine ⟨z_up (cnz c) hB (fun k hk _ => by rw [cnz, c1 k hk]; rfl), o', z', ⟨⟨h1, h2, ?_, ?_, fun k hk => ?_, fun r hr c hc => ?_, fun t ht => ?_⟩, fun j hj => ?_⟩, ?_⟩
  · show mu _ 0 5 0 1 0 = _
    rw [mu_ne _ _ (by decide), lay_ne (by omega)]; exact h3
  · rw [mu_ne _ _ (by decide), rg_out (by omega)]; exact h4
  · rw [show ptI I c o z s (1 + 10) k = svI I o z (1 + 10) k from by
      show mu (lay (svI I o z) (3 + s) 32 c) 0 5 0 (1 + 10) k = _
      rw [mu_ne _ _ (by decide), lay_ne (by omega)], mu_ne _ _ (by decide), rg_out (by omega)]
    exact h5 k hk
  · show mu _ 0 5 0 (1 + 12 + r) c = _
    rw [mu_ne _ _ (by omega), lay_ne (by omega), mu_ne _ _ (by decide), rg_out (by omega)]; exact h6 r hr c hc
  · have hf := h7 t ht
    show FA (mu _ 0 5 0 (1 + 2 + t)) _ n
    rw [mu_ne _ _ (by omega), mu_ne _ _ (by decide)]
    by_cases e : t = s
    · subst e
      rw [show 1 + 2 + t = 3 + t by omega] at hf ⊢
      refine ⟨fun k hk => ?_, fun k hk hk2 => ?_, fun k hk => ?_⟩
      · rw [lay_in hk]
        by_cases ek : k < 2 ^ n
        · exact (rg_at ek).symm
        · exact (c1 k (by omega)).trans ((rg_out (j := 40 + 32 * t + k) (by omega)).trans (hf.2.1 k (by omega) hk)).symm
      · exact (rg_out (j := 40 + 32 * t + k) (by omega)).trans (hf.2.1 k hk hk2)
      · by_cases ek : k < 2 ^ n
        · show -100000000 ≤ (rg _ 1 (40 + 32 * t) (2 ^ n) c 1 (40 + 32 * t + k)).toInt ∧ (rg _ 1 (40 + 32 * t) (2 ^ n) c 1 (40 + 32 * t + k)).toInt ≤ 100000000
          rw [rg_at ek]
          exact c2 k
        · show -100000000 ≤ (rg _ 1 (40 + 32 * t) (2 ^ n) c 1 (40 + 32 * t + k)).toInt ∧ (rg _ 1 (40 + 32 * t) (2 ^ n) c 1 (40 + 32 * t + k)).toInt ≤ 100000000
          rw [rg_out (by omega)]
          exact hf.2.2 k hk
    · rw [lay_ne (by omega)]
      exact hf.of (fun k _ => rfl) (fun k hk => rg_out (by omega))
  · show mu _ 0 5 0 (1 + 17) j = _
    rw [mu_ne _ _ (by decide), lay_ne (by omega), mu_ne _ _ (by decide), rg_out (by omega)]; exact hty j hj
  · obtain ⟨r1, r2, r3, ⟨r4, r5, r6, r7⟩, r8⟩ := hr
    have hr' : SmR (lay (svI I o z) (3 + s) 32 c) (rg (svR J z) 1 (40 + 32 * s) (2 ^ n) c) o' z' q f := (show SmR (svI I o z) (svR J z) o' z' q f from ⟨r1, r2, r3, ⟨r4, r5, r6, r7⟩, r8⟩).of (fun a a1 a2 => lay_ne (by omega)) (by rw [lay_ne (by omega)]) (fun hz j j1 j2 => by rw [lay_ne (by omega)]; exact hz j j1 j2) (fun a a1 a2 => rg_ne (by omega)) (by rw [rg_ne (by decide)]) (by rw [rg_ne (by decide)])
    obtain ⟨t1, t2, t3, -, t8⟩ := hr'
    have e0 : ∀ a, a ≠ 0 → ptI I c o z s a = lay (svI I o z) (3 + s) 32 c a := fun a ha => mu_ne _ _ ha
    have base : SmR (lay (svI I o z) (3 + s) 32 c) (rg (svR J z) 1 (40 + 32 * s) (2 ^ n) c) o' z' q f := ⟨t1, t2, t3, ⟨r4, by rw [lay_ne (by omega)]; exact r5, by rw [rg_ne (by decide)]; exact r6, fun j hj => by rw [lay_ne (by omega), rg_ne (by decide)]; exact r7 j hj⟩, t8⟩
    clear t1 t2 t3 t8
    -- the buffer is empty again
    have fin : ∀ {I J : IM} {o z : Nat}, SmR I J o z q f → SmR (mu I 0 5 0) (mu J 0 6 0) o z 0 f := by
      intro I J o z hh
      obtain ⟨⟨a1, a2, a3, a4, a5⟩, b, c, -, e⟩ := hh
      refine ⟨⟨a1, a2, by rw [mu_ne _ _ (by decide)]; exact a3, by rw [mu_ne _ _ (by decide)]; exact a4, a5⟩, fun i hi => ?_, fun s hs => ?_, ⟨Nat.zero_le _, mu_self _ _ _ _, mu_self _ _ _ _, fun j hj => absurd hj (by omega)⟩, fun j j1 j2 => by rw [mu_ne _ _ (by decide)]; exact e j j1 j2⟩
      · obtain ⟨m, m1, m2⟩ := b i hi
        exact ⟨m, m1.of (fun d j _ => by rw [mu_ne _ _ (by unfold hbk; omega)]) (fun k _ => by unfold Row; rw [mu_ne _ _ (by decide)]), m2.of (fun j _ => by rw [mu_ne _ _ (by unfold hbk; omega)]) (fun j _ => by unfold Row; rw [mu_ne _ _ (by decide)])⟩
      · rw [mu_ne _ _ (by decide), mu_ne _ _ (by decide)]
        exact ⟨(c s hs).1, (c s hs).2.imp id (fun ⟨c3, m, c4⟩ => ⟨c3, m, c4.of (fun d j _ => by rw [mu_ne _ _ (by unfold sbk; omega)]) (fun k _ => by unfold Sht; rw [mu_ne _ _ (by decide)])⟩)⟩
    exact fin base
/-- how many forms are not 0, on both sides -/
theorem St_cf {I J : IM} {n : Nat} (h : StS I 1 n (J 1)) : cfS I 1 8 = fmR J n 8 := by
  have hn := h.2.1
  have key : ∀ s, s ≤ 8 → cfS I 1 s = fmR J n s := by
    intro s
    induction s with
    | zero => intro _; rfl
    | succ s ih =>
      intro hs
      have hf := h.fa (s := s) (by omega)
      rw [cfS, fmR, ih (by omega), show 1 + 2 + s = 3 + s by omega, fa_ld hf hn]
      have hc := cnz_ld (f := frR J s) (2 ^ n)
      cases hq : ldO (frR J s) (2 ^ n) with
      | none => rw [hq] at hc; rw [if_pos (hc.mpr rfl)]
      | some q => rw [hq] at hc; rw [if_neg (fun e => by cases hc.mp e)]
  exact key 8 (by decide)
theorem cfS_cong {I I' : IM} {b : Nat} : ∀ m, (∀ s, s < m → I' (b + 2 + s) = I (b + 2 + s)) → cfS I' b m = cfS I b m
  | 0, _ => rfl
  | m + 1, h => by rw [cfS, cfS, cfS_cong m (fun s hs => h s (by omega)), h m (by omega)]
theorem cpS_in {I : IM} {b o d j : Nat} (h : rlD d j) : cpS I b o (b + d) j = I (o + d) j := by
  unfold cpS
  rw [fb_in, Nat.add_sub_cancel_left]
  unfold scP
  unfold rlD at h
  omega
theorem cpS_out {I : IM} {b o a j : Nat} (h : a < b ∨ b + 17 ≤ a) : cpS I b o a j = I a j := by
  unfold cpS
  rw [fb_out]
  unfold scP
  omega
theorem Sim.take {I J : IM} {n o z q k : Nat} {f : Nat → Nat} (h : Sim I J n o z q f) (hk : k < 2) : cfS (mu (cpS I (sbk k) 1) 166 k 1) 1 8 = fmR J n 8 ∧ Sim (mu (cpS I (sbk k) 1) 166 k 1) (tkR (mu J 0 7 0) k) n o z q f := by
  have h' := h.t7 0
  have hj1 : mu J 0 7 0 1 = J 1 := mu_ne _ _ (by decide)
  have cI : ∀ a, a < 130 → mu (cpS I (sbk k) 1) 166 k 1 a = I a := fun a ha => by
    rw [mu_ne _ _ (by omega)]
    funext j
    exact cpS_out (by unfold sbk; omega)
  refine ⟨(cfS_cong 8 (fun s hs => cI _ (by omega))).trans (St_cf h.1.1), ?_⟩
  generalize hJ0 : mu J 0 7 0 = J0 at h' hj1
  have cJ : ∀ a, a ≠ 3 → a ≠ 4 → tkR J0 k a = J0 a := fun a a1 a2 => by
    unfold tkR
    rw [mu_ne _ _ a2, rg_ne a1]
  obtain ⟨⟨s1, s2⟩, ⟨a1, a2, a3, a4, a5⟩, b, c, ⟨d1, d2, d3, d4⟩, e⟩ := h'
  refine ⟨⟨s1.of (fun d j hd => by rw [cI _ (by unfold rlD at hd; omega)]) (fun k _ => by rw [cJ 1 (by decide) (by decide)]), s2.of (fun j _ => by rw [cI _ (by decide)]) (fun j _ => by rw [cJ 1 (by decide) (by decide)])⟩, ⟨a1, a2, by rw [cI _ (by decide)]; exact a3, by rw [cI _ (by decide)]; exact a4, by rw [cJ 0 (by decide) (by decide)]; exact a5⟩, fun i hi => ?_, fun s hs => ?_, ⟨d1, by rw [cI _ (by decide)]; exact d2, by rw [cJ 0 (by decide) (by decide)]; exact d3, fun j hj => ?_⟩, fun j j1 j2 => ?_⟩
  · obtain ⟨m, m1, m2⟩ := b i hi
    have hlt : (o + i) % 6 < 6 := Nat.mod_lt _ (by decide)
    exact ⟨m, m1.of (fun d j hd => by rw [cI _ (by unfold hbk; unfold rlD at hd; omega)]) (fun k _ => by unfold Row; rw [cJ 2 (by decide) (by decide)]), m2.of (fun j _ => by rw [cI _ (by unfold hbk; omega)]) (fun j _ => by unfold Row; rw [cJ 2 (by decide) (by decide)])⟩
  · have t3 : ∀ p, tkR J0 k 3 p = rg J0 3 (287 * k) 287 (fun i => J0 1 (kp i)) 3 p := fun p => by unfold tkR; rw [mu_ne _ _ (by decide)]
    by_cases es : s = k
    · subst es
      rw [mu_self, show tkR J0 s 4 s = 1 by unfold tkR; exact mu_self _ _ _ _]
      refine ⟨rfl, Or.inr ⟨rfl, n, s1.of (fun d j hd => ?_) (fun k hk => ?_)⟩⟩
      · rw [mu_ne _ _ (by unfold sbk; unfold rlD at hd; omega)]
        exact cpS_in hd
      · unfold Sht
        unfold rlK at hk
        split
        · rename_i hlt
          rw [t3, rg_at (by omega), kp, if_pos hlt]
        · rename_i hlt
          rw [t3, rg_at (by omega), kp, if_neg (by omega), show k - 9 + 9 = k by omega]
    · have e4 : tkR J0 k 4 s = J0 4 s := by unfold tkR; rw [mu_c (by omega), rg_ne (by decide)]
      rw [e4, mu_c (by omega), cpS_out (by unfold sbk; omega)]
      refine ⟨(c s hs).1, (c s hs).2.imp id (fun ⟨c3, m, c4⟩ => ⟨c3, m, c4.of (fun d j hd => ?_) (fun k' hk' => ?_)⟩)⟩
      · rw [mu_ne _ _ (by unfold sbk; unfold rlD at hd; omega)]
        refine cpS_out ?_
        unfold sbk
        unfold rlD at hd
        omega
      · unfold Sht
        unfold rlK at hk'
        split
        · rw [t3, rg_out (by omega)]
        · rw [t3, rg_out (by omega)]
  · rw [mu_ne _ _ (by decide), cJ 5 (by decide) (by decide)]
    rw [show cpS I (sbk k) 1 167 j = I 167 j from cpS_out (by unfold sbk; omega)]
    exact d4 j hj
  · rw [mu_ne _ _ (by decide), show cpS I (sbk k) 1 170 j = I 170 j from cpS_out (by unfold sbk; omega)]
    exact e j j1 j2
theorem Sim.restore {I J : IM} {n o z q k : Nat} {f : Nat → Nat} (h : Sim I J n o z q f) (hk : k < 2) (ht : J 4 k ≠ 0) : ∃ m o' z', m ≤ 5 ∧ J 3 (287 * k) = nI m ∧ cfS (cpS (svI I o z) 1 (sbk k)) 1 8 = fmR (rsK (svR (mu J 0 7 0) z) k 287) m 8 ∧ Sim (cpS (svI I o z) 1 (sbk k)) (rsK (svR (mu J 0 7 0) z) k 287) m o' z' q f := by
  obtain ⟨-, m, hm⟩ := ((h.2.2.2.1 k hk).2).resolve_left ht
  have hm0 : J 3 (287 * k) = nI m := hm.2.2.2.1
  obtain ⟨o', z', hS⟩ := h.saved
  obtain ⟨-, m2, hm2⟩ := ((hS.2.2.2.1 k hk).2).resolve_left (by rw [svR_ne (by decide) (by decide), mu_ne _ _ (by decide)]; exact ht)
  have em : m2 = m := by
    have e1 : svR (mu J 0 7 0) z 3 (287 * k) = nI m2 := hm2.2.2.2.1
    rw [svR_ne (by decide) (by decide), mu_ne _ _ (by decide), hm0] at e1
    exact (nI_inj (by have := hm.2.1; omega) (by have := hm2.2.1; omega) e1).symm
  subst em
  have hSim : Sim (cpS (svI I o z) 1 (sbk k)) (rsK (svR (mu J 0 7 0) z) k 287) m2 o' z' q f := by
    refine ⟨⟨hm2.of (fun d j hd => cpS_in hd) (fun p hp => ?_), hS.1.2.of (fun j _ => cpS_out (by decide)) (fun j hj => rs_mid (by omega) (by omega))⟩, hS.2.of (fun a a1 a2 => funext fun j => cpS_out (by omega)) (cpS_out (by decide)) (fun hz j j1 j2 => by rw [cpS_out (by decide)]; exact hz j j1 j2) (fun a a1 a2 => rs_ne (by omega)) (by rw [rs_ne (by decide)]) (by rw [rs_ne (by decide)])⟩
    unfold Sht
    unfold rlK at hp
    split
    · rename_i hlt
      exact rs_lo hlt (by omega)
    · exact rs_hi (by omega) (by omega)
  exact ⟨m2, o', z', hm.2.1, hm0, St_cf hSim.1.1, hSim⟩
theorem Sim.undo {I J : IM} {n o z q : Nat} {f : Nat → Nat} (h : Sim I J n o z q f) (hz : 0 < z) : ∃ m, Sim (drI I o z) (unR (mu J 0 7 0) z) m o (z - 1) q f := by
  have h' := h.t7 0
  generalize mu J 0 7 0 = J0 at h'
  obtain ⟨-, ⟨a1, a2, a3, a4, a5⟩, b, c, ⟨d1, d2, d3, d4⟩, e⟩ := h'
  obtain ⟨m, m1, m2⟩ := b (z - 1) (by omega)
  have hw : (o + (z - 1)) % 6 < 6 := Nat.mod_lt _ (by decide)
  have cI : ∀ a, 19 ≤ a → a ≠ 19 → drI I o z a = I a := fun a h1 h2 => by
    funext j
    unfold drI
    rw [cpA_out (by omega), mu_ne _ _ h2]
  have c0 : ∀ j, drI I o z 0 j = I 0 j := fun j => by
    unfold drI
    rw [cpA_out (by omega), mu_ne _ _ (by decide)]
  have cJ : ∀ a, a ≠ 1 → a ≠ 0 → unR J0 z a = J0 a := fun a h1 h2 => by
    unfold unR
    rw [rg_ne h1, mu_ne _ _ h2]
  have j1 : ∀ k, k < 296 → unR J0 z 1 k = Row J0 (z - 1) k := fun k hk => by
    unfold unR Row
    rw [rg_in (Nat.zero_le _) (by omega), Nat.sub_zero]
  refine ⟨m, ⟨m1.of (fun d j hd => ?_) (fun k hk => j1 k (by unfold rlK at hk; omega)), m2.of (fun j hj => ?_) (fun j hj => j1 _ (by omega))⟩, ⟨a1, by omega, ?_, ?_, ?_⟩, fun i hi => ?_, fun s hs => ?_, ⟨d1, by rw [c0]; exact d2, ?_, fun j hj => ?_⟩, fun j q1 q2 => ?_⟩
  · unfold drI
    rw [cpA_in (Or.inl hd), mu_ne _ _ (by unfold hbk; omega)]
  · unfold drI
    rw [cpA_in (Or.inr ⟨rfl, hj⟩), mu_ne _ _ (by unfold hbk; omega)]
  · unfold drI
    rw [cpA_out (by omega)]
    exact a3
  · unfold drI
    rw [cpA_out (by omega), mu_self]
  · unfold unR
    rw [rg_ne (by decide), mu_self]
  · obtain ⟨p, p1, p2⟩ := b i (by omega)
    have hlt : (o + i) % 6 < 6 := Nat.mod_lt _ (by decide)
    exact ⟨p, p1.of (fun d j hd => by rw [cI _ (by unfold hbk; omega) (by unfold hbk; omega)]) (fun k _ => by unfold Row; rw [cJ 2 (by decide) (by decide)]), p2.of (fun j _ => by rw [cI _ (by unfold hbk; omega) (by unfold hbk; omega)]) (fun j _ => by unfold Row; rw [cJ 2 (by decide) (by decide)])⟩
  · rw [cI 166 (by decide) (by decide), cJ 4 (by decide) (by decide)]
    exact ⟨(c s hs).1, (c s hs).2.imp id (fun ⟨c3, p, c4⟩ => ⟨c3, p, c4.of (fun d j _ => by rw [cI _ (by unfold sbk; omega) (by unfold sbk; omega)]) (fun k _ => by unfold Sht; rw [cJ 3 (by decide) (by decide)])⟩)⟩
  · unfold unR
    rw [rg_ne (by decide)]
    exact d3
  · rw [cI 167 (by decide) (by decide), cJ 5 (by decide) (by decide)]
    exact d4 j hj
  · rw [cI 170 (by decide) (by decide)]
    exact e j q1 q2
