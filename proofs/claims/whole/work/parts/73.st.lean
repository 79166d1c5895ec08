/-! BOTH SIDES: states changed -/
theorem StS.fa {I : IM} {n s : Nat} {J : IM} (h : StS I 1 n (J 1)) (hs : s < 8) : FA (I (3 + s)) (frR J s) n := by
  have := h.2.2.2.2.2.2 s hs
  rw [show 1 + 2 + s = 3 + s by omega] at this
  exact this
/-- behind a save the scene is as it was -/
theorem Sim.saved {I J : IM} {n o z q : Nat} {f : Nat → Nat} (h : Sim I J n o z q f) : ∃ o' z', Sim (svI I o z) (svR (mu J 0 7 0) z) n o' z' q f := by
  obtain ⟨o', z', hr⟩ := (h.t7 0).save
  have a1 := h.2.1.1
  refine ⟨o', z', ⟨h.1.1.of (fun d j hd => ?_) (fun k _ => ?_), h.1.2.of (fun j hj => ?_) (fun j _ => ?_)⟩, hr⟩
  · rw [svI_ne a1 (by unfold rlD at hd; omega)]
  · rw [svR_ne (by decide) (by decide), t7n (by decide)]
  · rw [svI_ne a1 (by omega)]
  · rw [svR_ne (by decide) (by decide), t7n (by decide)]
theorem mu_c {α : Type} {I : Nat → Nat → α} {a c j k : Nat} {v : α} (h : ¬ (a = c ∧ k = j)) : mu I c j v a k = I a k := by simp [mu, h]
theorem Sim.set {I J : IM} {n o z q : Nat} {f : Nat → Nat} (h : Sim I J n o z q f) {s b : Nat} {v : Int32} (hs : s < 8) (hb : b < 2 ^ n) (hv : -100000000 ≤ v ∧ v ≤ 100000000) : Sim (mu I (3 + s) b v) (mu J 1 (40 + 32 * s + b) v) n o z q f := by
  obtain ⟨⟨⟨h1, h2, h3, h4, h5, h6, h7⟩, ht⟩, hr⟩ := h
  have hb32 := pow_mono n h2 b hb
  refine ⟨⟨⟨h1, h2, ?_, ?_, fun k hk => ?_, fun r hr c hc => ?_, fun t ht => ?_⟩, fun j hj => ?_⟩, hr.of (fun a a1 a2 => mu_ne _ _ (by omega)) (mu_c (by omega)) (fun hz j h1 h2 => by rw [mu_ne _ _ (by omega)]; exact hz j h1 h2) (fun a a1 a2 => mu_ne _ _ (by omega)) rfl rfl⟩
  · rw [mu_ne _ _ (by omega)]; exact h3
  · rw [mu_c (by omega)]; exact h4
  · rw [mu_ne _ _ (by omega), mu_c (by omega)]; exact h5 k hk
  · rw [mu_ne _ _ (by omega), mu_c (by omega)]; exact h6 r hr c hc
  · have hf := h7 t ht
    by_cases e : t = s
    · subst e
      rw [show 1 + 2 + t = 3 + t by omega] at hf ⊢
      refine ⟨fun k hk => ?_, fun k hk hk2 => ?_, fun k hk => ?_⟩
      · by_cases ek : k = b
        · rw [ek, mu_self]
          exact (mu_self _ _ _ _).symm
        · rw [mu_c (by omega)]
          exact (hf.1 k hk).trans (mu_c (by omega)).symm
      · exact (mu_c (by omega)).trans (hf.2.1 k hk hk2)
      · by_cases ek : k = b
        · rw [ek]
          show -100000000 ≤ (mu J 1 (40 + 32 * t + b) v 1 (40 + 32 * t + b)).toInt ∧ (mu J 1 (40 + 32 * t + b) v 1 (40 + 32 * t + b)).toInt ≤ 100000000
          rw [mu_self]
          exact ⟨Int32.le_iff_toInt_le.mp hv.1, Int32.le_iff_toInt_le.mp hv.2⟩
        · show -100000000 ≤ (mu J 1 (40 + 32 * t + b) v 1 (40 + 32 * t + k)).toInt ∧ (mu J 1 (40 + 32 * t + b) v 1 (40 + 32 * t + k)).toInt ≤ 100000000
          rw [mu_c (by omega)]
          exact hf.2.2 k hk
    · exact hf.of (fun k hk => mu_c (by omega)) (fun k hk => mu_c (by omega))
  · rw [mu_ne _ _ (by omega), mu_c (by omega)]; exact ht j hj
theorem Sim.sign {I J : IM} {n o z q : Nat} {f : Nat → Nat} (h : Sim I J n o z q f) {d : Nat} {v : Int32} (hd : d < n) (hv : v = 1 ∨ v = -1) : Sim (mu I 11 d v) (mu J 1 (1 + d) v) n o z q f := by
  obtain ⟨⟨⟨h1, h2, h3, h4, h5, h6, h7⟩, ht⟩, hr⟩ := h
  refine ⟨⟨⟨h1, h2, ?_, ?_, fun k hk => ?_, fun r hr c hc => ?_, fun t ht => (h7 t ht).of (fun k hk => mu_c (by omega)) (fun k hk => mu_c (by omega))⟩, fun j hj => ?_⟩, hr.of (fun a a1 a2 => mu_ne _ _ (by omega)) (mu_c (by omega)) (fun hz j h1 h2 => by rw [mu_ne _ _ (by omega)]; exact hz j h1 h2) (fun a a1 a2 => mu_ne _ _ (by omega)) rfl rfl⟩
  · rw [mu_ne _ _ (by omega)]; exact h3
  · rw [mu_c (by omega)]; exact h4
  · by_cases e : k = d
    · subst e
      rw [show 1 + 10 = 11 from rfl, mu_self, show mu J 1 (1 + k) v 1 (1 + k) = v from mu_self _ _ _ _]
      exact ⟨rfl, hv⟩
    · rw [mu_c (by omega), mu_c (by omega)]; exact h5 k hk
  · rw [mu_ne _ _ (by omega), mu_c (by omega)]; exact h6 r hr c hc
  · rw [mu_ne _ _ (by omega), mu_c (by omega)]; exact ht j hj
theorem Sim.matrix {I J : IM} {n o z q : Nat} {f : Nat → Nat} (h : Sim I J n o z q f) {r c : Nat} {v : Int32} (hr : r < n) (hc : c < n) : Sim (mu I (13 + r) c v) (mu J 1 (6 + 5 * r + c) v) n o z q f := by
  obtain ⟨⟨⟨h1, h2, h3, h4, h5, h6, h7⟩, ht⟩, hrr⟩ := h
  refine ⟨⟨⟨h1, h2, ?_, ?_, fun k hk => ?_, fun r' hr' c' hc' => ?_, fun t ht => (h7 t ht).of (fun k hk => mu_c (by omega)) (fun k hk => mu_c (by omega))⟩, fun j hj => ?_⟩, hrr.of (fun a a1 a2 => mu_ne _ _ (by omega)) (mu_c (by omega)) (fun hz j h1 h2 => by rw [mu_ne _ _ (by omega)]; exact hz j h1 h2) (fun a a1 a2 => mu_ne _ _ (by omega)) rfl rfl⟩
  · rw [mu_ne _ _ (by omega)]; exact h3
  · rw [mu_c (by omega)]; exact h4
  · rw [mu_ne _ _ (by omega), mu_c (by omega)]; exact h5 k hk
  · by_cases e : r' = r ∧ c' = c
    · obtain ⟨rfl, rfl⟩ := e
      rw [show 1 + 12 + r' = 13 + r' by omega, mu_self]
      exact (mu_self _ _ _ _).symm
    · rw [mu_c (by omega), mu_c (by omega)]; exact h6 r' hr' c' hc'
  · rw [mu_ne _ _ (by omega), mu_c (by omega)]; exact ht j hj
theorem nw_in {I : IM} {n : Int32} {d j : Nat} (h : rlD d j) : nwS I 1 n (1 + d) j = if d = 0 then n else if d < 10 then 0 else if d = 10 then 1 else if d - 12 = j then 1 else 0 := by
  unfold nwS
  rw [fb_in (by unfold scP; unfold rlD at h; omega)]
  unfold nwV rlD at *
  by_cases e0 : d = 0
  · rw [if_pos (by omega), if_pos e0]
  · rw [if_neg (by omega), if_neg e0]
    by_cases e1 : d < 10
    · rw [if_pos (by omega), if_pos e1]
    · rw [if_neg (by omega), if_neg e1]
      by_cases e2 : d = 10
      · rw [if_pos (by omega), if_pos e2]
      · rw [if_neg (by omega), if_neg e2]
        by_cases e3 : d - 12 = j
        · rw [if_pos (by omega), if_pos e3]
        · rw [if_neg (by omega), if_neg e3]
theorem nw_out {I : IM} {n : Int32} {a j : Nat} (h : a < 1 ∨ 18 ≤ a) : nwS I 1 n a j = I a j := by
  unfold nwS
  rw [fb_out]
  unfold scP
  omega
theorem lp_0 {J : IM} : lpR J 1 0 = J 1 0 := by
  unfold lpR
  rw [rg_out (by omega), rg_out (by omega), rg_out (by omega)]
theorem lp_sg {J : IM} {k : Nat} (hk : k < 5) : lpR J 1 (1 + k) = 1 := by
  unfold lpR
  rw [rg_out (by omega), rg_out (by omega), rg_at hk]
theorem lp_mx {J : IM} {r c : Nat} (hr : r < 5) (hc : c < 5) : lpR J 1 (6 + 5 * r + c) = if r = c then 1 else 0 := by
  unfold lpR
  rw [rg_out (by omega), rg_in (by omega) (by omega), show 6 + 5 * r + c - 6 = 5 * r + c by omega, show (5 * r + c) / 5 = r by omega, show (5 * r + c) % 5 = c by omega]
theorem lp_fr {J : IM} {k : Nat} (h1 : 40 ≤ k) (h2 : k < 296) : lpR J 1 k = 0 := by
  unfold lpR
  rw [rg_in h1 (by omega)]
theorem lp_ty {J : IM} {k : Nat} (h1 : 31 ≤ k) (h2 : k < 40) : lpR J 1 k = J 1 k := by
  unfold lpR
  rw [rg_out (by omega), rg_out (by omega), rg_out (by omega)]
theorem lp_ne {J : IM} {a : Nat} (h : a ≠ 1) : lpR J a = J a := by
  unfold lpR
  rw [rg_ne h, rg_ne h, rg_ne h]
theorem fa_zero (n : Nat) {f g : Nat → Int32} (hf : ∀ k, k < 32 → f k = 0) (hg : ∀ k, k < 32 → g k = 0) : FA f g n :=
  ⟨fun k hk => by rw [hf k hk, hg k hk], fun k _ hk => hg k hk, fun k hk => by rw [hg k hk]; decide⟩
theorem Sim.begin {I J : IM} {n o z q : Nat} {f : Nat → Nat} (h : Sim I J n o z q f) {m : Nat} (hm2 : 2 ≤ m) (hm5 : m ≤ 5) : Sim (nwS I 1 (nI m)) (lpR (mu J 1 0 (nI m))) m o z q f := by
  obtain ⟨⟨⟨h1, h2, h3, h4, h5, h6, h7⟩, ht⟩, hr⟩ := h
  refine ⟨⟨⟨hm2, hm5, ?_, ?_, fun k hk => ?_, fun r hr c hc => ?_, fun t ht => fa_zero m (fun k hk => ?_) (fun k hk => lp_fr (by omega) (by omega))⟩, fun j hj => ?_⟩, hr.of (fun a a1 a2 => funext fun j => nw_out (by omega)) (nw_out (by omega)) (fun hz j h1 h2 => by rw [nw_out (by omega)]; exact hz j h1 h2) (fun a a1 a2 => by rw [lp_ne (by omega), mu_ne _ _ (by omega)]) (by rw [lp_ne (by omega), mu_ne _ _ (by omega)]) (by rw [lp_ne (by omega), mu_ne _ _ (by omega)])⟩
  · exact nw_in (d := 0) (j := 0) (Or.inl ⟨rfl, rfl⟩)
  · rw [lp_0, mu_self]
  · rw [nw_in (by unfold rlD; omega), lp_sg hk]; exact ⟨rfl, Or.inl rfl⟩
  · rw [show 1 + 12 + r = 1 + (12 + r) by omega, nw_in (by unfold rlD; omega), lp_mx hr hc, if_neg (by omega), if_neg (by omega), if_neg (by omega), Nat.add_sub_cancel_left]
  · rw [show 1 + 2 + t = 1 + (2 + t) by omega, nw_in (by unfold rlD; omega), if_neg (by omega), if_pos (by omega)]
  · rw [lp_ty (by omega) (by omega), mu_c (by omega), show 1 + 17 = 18 from rfl, nw_out (by omega)]
    exact ht j hj
/-! results kept -/
theorem i64_32 {x : Int64} (h : tooB x = false) : -100000000 ≤ x.toInt32.toInt ∧ x.toInt32.toInt ≤ 100000000 ∧ x.toInt32.toInt = x.toInt := by
  unfold tooB at h
  rw [Bool.or_eq_false_iff] at h
  have h1 := of_decide_eq_false h.1
  have h2 := of_decide_eq_false h.2
  rw [Int64.lt_iff_toInt_lt] at h1 h2
  have e1 : ((-100000000 : Int64)).toInt = -100000000 := by decide
  have e2 : ((100000000 : Int64)).toInt = 100000000 := by decide
  rw [e1] at h1
  rw [e2] at h2
  have e3 : x.toInt32.toInt = x.toInt := by
    rw [Int64.toInt_toInt32, Int.bmod_eq_of_le (by omega) (by omega)]
  omega
/-- the present state with a form laid into a slot, one count changed, and perhaps that of results that were 0 -/
theorem Sim.keep {I J : IM} {n o z q : Nat} {f : Nat → Nat} (h : Sim I J n o z q f) {t d : Nat} {g g' : Nat → Int64} (ht : t < 8) (hd : d < 8) (hg : ∀ k, k < 2 ^ n → g k = g' k) (hb : ∀ k, k < 2 ^ n → tooB (g' k) = false) : cnz (stI1 I g o z (2 ^ n) t (3 + t)) 32 = cnz (fun k => (g' k).toInt32) (2 ^ n) ∧ ∃ o' z', Sim (stI I g o z (2 ^ n) t d) (kpR (mu J 0 7 0) g' z t d (2 ^ n)) n o' z' q f := by
  obtain ⟨o', z', hS⟩ := h.saved
  have hn := h.1.1.2.1
  obtain ⟨hB, -⟩ := pow_le32 n hn
  have hfa : FA (lay (svI I o z) (3 + t) (2 ^ n) (fun k => (g k).toInt32) (3 + t)) (fun k => rg (svR (mu J 0 7 0) z) 1 (40 + 32 * t) (2 ^ n) (fun k => (g' k).toInt32) 1 (40 + 32 * t + k)) n := by
    have hf := hS.1.1.fa ht
    refine ⟨fun k hk => ?_, fun k hk hk2 => ?_, fun k hk => ?_⟩
    · by_cases e : k < 2 ^ n
      · rw [lay_in e, hg k e]
        exact (rg_at (f := fun k => (g' k).toInt32) e).symm
      · rw [lay_out (by omega)]
        exact (hf.1 k hk).trans (rg_out (j := 40 + 32 * t + k) (by omega)).symm
    · show rg _ 1 (40 + 32 * t) (2 ^ n) _ 1 (40 + 32 * t + k) = 0
      rw [rg_out (by omega)]
      exact hf.2.1 k hk hk2
    · by_cases e : k < 2 ^ n
      · show -100000000 ≤ (rg _ 1 (40 + 32 * t) (2 ^ n) (fun k => (g' k).toInt32) 1 (40 + 32 * t + k)).toInt ∧ (rg _ 1 (40 + 32 * t) (2 ^ n) (fun k => (g' k).toInt32) 1 (40 + 32 * t + k)).toInt ≤ 100000000
        rw [rg_at e]
        have := i64_32 (hb k e)
        exact ⟨this.1, this.2.1⟩
      · show -100000000 ≤ (rg _ 1 (40 + 32 * t) (2 ^ n) (fun k => (g' k).toInt32) 1 (40 + 32 * t + k)).toInt ∧ (rg _ 1 (40 + 32 * t) (2 ^ n) (fun k => (g' k).toInt32) 1 (40 + 32 * t + k)).toInt ≤ 100000000
        rw [rg_out (by omega)]
        exact hf.2.2 k hk
  have hcz : cnz (stI1 I g o z (2 ^ n) t (3 + t)) 32 = cnz (fun k => (g' k).toInt32) (2 ^ n) := by
    unfold stI1
    rw [fa_cnz hfa hn]
    exact cnz_cong (fun k hk => rg_at hk)
  refine ⟨hcz, o', z', ?_⟩
  obtain ⟨⟨⟨h1, h2, h3, h4, h5, h6, h7⟩, hty⟩, hr⟩ := hS
  have a1 := h.2.1.1
  have ht0 := h.1.2
  have ty0 : ∀ j, j < 9 → I 18 j = J 1 (31 + j) := fun j hj => ht0 j hj
  have jt : ∀ k, mu J 0 7 0 1 k = J 1 k := fun k => by rw [mu_ne _ _ (by decide)]
  -- cells of both memories
  have cI : ∀ a, a ≠ 18 → stI I g o z (2 ^ n) t d a = lay (svI I o z) (3 + t) (2 ^ n) (fun k => (g k).toInt32) a := fun a ha => by
    unfold stI stI1
    split
    · rw [mu_ne _ _ ha, mu_ne _ _ ha]
    · rw [mu_ne _ _ ha]
  have cJ : ∀ k, k ≠ 31 + d → k ≠ 39 → kpR (mu J 0 7 0) g' z t d (2 ^ n) 1 k = rg (svR (mu J 0 7 0) z) 1 (40 + 32 * t) (2 ^ n) (fun k => (g' k).toInt32) 1 k := fun k e1 e2 => by
    unfold kpR kpF
    rw [mu_c (by omega), mu_c (by omega)]
  have cJn : ∀ a, a ≠ 1 → kpR (mu J 0 7 0) g' z t d (2 ^ n) a = svR (mu J 0 7 0) z a := fun a ha => by
    unfold kpR kpF
    rw [mu_ne _ _ ha, mu_ne _ _ ha, rg_ne ha]
  have l18 : ∀ j, lay (svI I o z) (3 + t) (2 ^ n) (fun k => (g k).toInt32) 18 j = I 18 j := fun j => by
    rw [lay_ne (by omega), svI_ne a1 (by omega)]
  refine ⟨⟨⟨h1, h2, ?_, ?_, fun k hk => ?_, fun r hr c hc => ?_, fun s hs => ?_⟩, fun j hj => ?_⟩, hr.of (fun a e1 e2 => ?_) ?_ (fun hz j e1 e2 => ?_) (fun a e1 e2 => cJn a (by omega)) (by rw [cJn 0 (by decide)]) (by rw [cJn 0 (by decide)])⟩
  · rw [cI 1 (by decide), lay_ne (by omega)]; exact h3
  · rw [cJ 0 (by omega) (by omega), rg_out (by omega)]; exact h4
  · rw [cI _ (by omega), lay_ne (by omega), cJ _ (by omega) (by omega), rg_out (by omega)]; exact h5 k hk
  · rw [cI _ (by omega), lay_ne (by omega), cJ _ (by omega) (by omega), rg_out (by omega)]; exact h6 r hr c hc
  · by_cases e : s = t
    · subst e
      rw [show 1 + 2 + s = 3 + s by omega, cI _ (by omega)]
      exact hfa.of (fun k _ => rfl) (fun k hk => cJ _ (by omega) (by omega))
    · rw [cI _ (by omega), lay_ne (by omega)]
      exact (h7 s hs).of (fun k _ => rfl) (fun k hk => by rw [cJ _ (by omega) (by omega), rg_out (by omega)])
  · show stI I g o z (2 ^ n) t d 18 j = kpR (mu J 0 7 0) g' z t d (2 ^ n) 1 (31 + j)
    have key : ∀ j, j < 9 → stI I g o z (2 ^ n) t d 18 j = if j = 8 then I 18 8 + (if cnz (fun k => (g' k).toInt32) (2 ^ n) = 0 then 1 else 0) else if j = d then I 18 d + 1 else I 18 j := by
      intro j hj
      unfold stI
      rw [hcz]
      unfold stI1
      by_cases ez : cnz (fun k => (g' k).toInt32) (2 ^ n) = 0
      · rw [if_pos ez, if_pos ez]
        by_cases e8 : j = 8
        · rw [if_pos e8, e8, mu_self, mu_c (by omega), l18]
        · rw [if_neg e8, mu_c (by omega)]
          by_cases ed : j = d
          · rw [if_pos ed, ed, mu_self]
          · rw [if_neg ed, mu_c (by omega), l18]
      · rw [if_neg ez, if_neg ez, Int32.add_zero]
        by_cases e8 : j = 8
        · rw [if_pos e8, mu_c (by omega), e8, l18]
        · rw [if_neg e8]
          by_cases ed : j = d
          · rw [if_pos ed, ed, mu_self]
          · rw [if_neg ed, mu_c (by omega), l18]
    rw [key j hj]
    unfold kpR
    rw [jt, jt, ← ty0 d (by omega), show (39 : Nat) = 31 + 8 from rfl, ← ty0 8 (by decide)]
    by_cases e8 : j = 8
    · rw [if_pos e8, e8, mu_self]
    · rw [if_neg e8, mu_c (by omega)]
      by_cases ed : j = d
      · rw [if_pos ed, ed, mu_self]
      · rw [if_neg ed, mu_c (by omega)]
        unfold kpF
        rw [rg_out (by omega), svR_ne (by decide) (by decide), jt]
        exact ty0 j hj
  · rw [cI a (by omega), lay_ne (by omega)]
  · rw [cI 0 (by decide), lay_ne (by omega)]
  · rw [cI 170 (by decide), lay_ne (by omega)]; exact hz j e1 e2
