/-! BOTH SIDES: the states -/
def Row (J : IM) (i : Nat) : Nat → Int32 := fun k => J 2 (296 * i + k)
def Sht (J : IM) (s : Nat) : Nat → Int32 := fun j => if j < 31 then J 3 (287 * s + j) else J 3 (287 * s + (j - 9))
/-- what stands beside the present state -/
def SmR (I J : IM) (o z q : Nat) (f : Nat → Nat) : Prop :=
  (o < 6 ∧ z ≤ 6 ∧ I 19 1 = nI o ∧ I 19 2 = nI z ∧ J 0 2 = nI z) ∧
  (∀ i, i < z → ∃ m, StS I (hbk ((o + i) % 6)) m (Row J i) ∧ Ty I (hbk ((o + i) % 6)) (Row J i)) ∧
  (∀ s, s < 2 → I 166 s = J 4 s ∧ (J 4 s = 0 ∨ (J 4 s = 1 ∧ ∃ m, StS I (sbk s) m (Sht J s)))) ∧
  (q ≤ 60 ∧ I 0 5 = nI q ∧ J 0 6 = nI q ∧ ∀ j, j < q → I 167 j = nI (f j) ∧ J 5 j = nI (f j) ∧ 33 ≤ f j ∧ f j ≤ 126) ∧ VZ I
def Sim (I J : IM) (n o z q : Nat) (f : Nat → Nat) : Prop := (StS I 1 n (J 1) ∧ Ty I 1 (J 1)) ∧ SmR I J o z q f
def rlD (d j : Nat) : Prop := (d = 0 ∧ j = 0) ∨ (2 ≤ d ∧ d < 10 ∧ j < 32) ∨ (d = 10 ∧ j < 5) ∨ (12 ≤ d ∧ d < 17 ∧ j < 5)
def rlK (k : Nat) : Prop := k < 31 ∨ (40 ≤ k ∧ k < 296)
theorem FA.of {f g f' g' : Nat → Int32} {n : Nat} (h : FA f g n) (h1 : ∀ k, k < 32 → f' k = f k) (h2 : ∀ k, k < 32 → g' k = g k) : FA f' g' n :=
  ⟨fun k hk => by rw [h1 k hk, h2 k hk]; exact h.1 k hk, fun k hk hk2 => by rw [h2 k hk2]; exact h.2.1 k hk hk2, fun k hk => by rw [h2 k hk]; exact h.2.2 k hk⟩
theorem StS.of {I I' : IM} {b b' n : Nat} {g g' : Nat → Int32} (h : StS I b n g) (hI : ∀ d j, rlD d j → I' (b' + d) j = I (b + d) j) (hg : ∀ k, rlK k → g' k = g k) : StS I' b' n g' := by
  obtain ⟨h1, h2, h3, h4, h5, h6, h7⟩ := h
  refine ⟨h1, h2, ?_, ?_, fun k hk => ?_, fun r hr c hc => ?_, fun s hs => (h7 s hs).of (fun k hk => ?_) (fun k hk => hg _ (Or.inr (by omega)))⟩
  · exact (hI 0 0 (Or.inl ⟨rfl, rfl⟩)).trans h3
  · rw [hg 0 (Or.inl (by decide))]; exact h4
  · rw [hI 10 k (by unfold rlD; omega), hg _ (Or.inl (by omega))]; exact h5 k hk
  · rw [show b' + 12 + r = b' + (12 + r) by omega, hI (12 + r) c (by unfold rlD; omega), hg _ (Or.inl (by omega)), show b + (12 + r) = b + 12 + r by omega]
    exact h6 r hr c hc
  · rw [show b' + 2 + s = b' + (2 + s) by omega, hI (2 + s) k (by unfold rlD; omega), show b + (2 + s) = b + 2 + s by omega]
theorem Ty.of {I I' : IM} {b b' : Nat} {g g' : Nat → Int32} (h : Ty I b g) (hI : ∀ j, j < 9 → I' (b' + 17) j = I (b + 17) j) (hg : ∀ j, j < 9 → g' (31 + j) = g (31 + j)) : Ty I' b' g' := fun j hj => by
  rw [hI j hj, hg j hj]
  exact h j hj
theorem SmR.of {I I' J J' : IM} {o z q : Nat} {f : Nat → Nat} (h : SmR I J o z q f) (hI : ∀ a, 19 ≤ a → a ≤ 167 → I' a = I a) (h5 : I' 0 5 = I 0 5) (hz : VZ I → VZ I') (hJ : ∀ a, 2 ≤ a → a ≤ 5 → J' a = J a) (h2 : J' 0 2 = J 0 2) (h6 : J' 0 6 = J 0 6) : SmR I' J' o z q f := by
  obtain ⟨⟨a1, a2, a3, a4, a5⟩, b, c, ⟨d1, d2, d3, d4⟩, e⟩ := h
  refine ⟨⟨a1, a2, by rw [hI 19 (by decide) (by decide)]; exact a3, by rw [hI 19 (by decide) (by decide)]; exact a4, by rw [h2]; exact a5⟩, fun i hi => ?_, fun s hs => ?_, ⟨d1, by rw [h5]; exact d2, by rw [h6]; exact d3, fun j hj => ?_⟩, hz e⟩
  · obtain ⟨m, m1, m2⟩ := b i hi
    have hlt : (o + i) % 6 < 6 := Nat.mod_lt _ (by decide)
    refine ⟨m, m1.of (fun d j hd => ?_) (fun k _ => ?_), m2.of (fun j hj => ?_) (fun j hj => ?_)⟩
    · rw [hI _ (by unfold hbk; omega) (by unfold rlD at hd; unfold hbk; omega)]
    · unfold Row; rw [hJ 2 (by decide) (by decide)]
    · rw [hI _ (by unfold hbk; omega) (by unfold hbk; omega)]
    · unfold Row; rw [hJ 2 (by decide) (by decide)]
  · obtain ⟨c1, c2⟩ := c s hs
    rw [hI 166 (by decide) (by decide), hJ 4 (by decide) (by decide)]
    refine ⟨c1, c2.imp id (fun ⟨c3, m, c4⟩ => ⟨c3, m, c4.of (fun d j hd => ?_) (fun k _ => ?_)⟩)⟩
    · rw [hI _ (by unfold sbk; omega) (by unfold rlD at hd; unfold sbk; omega)]
    · unfold Sht; rw [hJ 3 (by decide) (by decide)]
  · rw [hI 167 (by decide) (by decide), hJ 5 (by decide) (by decide)]
    exact d4 j hj
/-! saving -/
def swN (o z : Nat) : Nat := if z = 6 then o else (o + z) % 6
theorem hbk_lo {w d : Nat} (hw : w < 6) (hd : d < 18) : 21 ≤ hbk w + d ∧ hbk w + d < 129 := by unfold hbk; omega
theorem hbk_ne {w w' d d' : Nat} (h : w ≠ w') (hd : d < 18) (hd' : d' < 18) : hbk w + d ≠ hbk w' + d' := by
  unfold hbk
  omega
theorem cpA_in {I : IM} {b o d j : Nat} (h : rlD d j ∨ (d = 17 ∧ j < 9)) : cpA I b o (b + d) j = I (o + d) j := by
  unfold cpA
  rw [fb_in, Nat.add_sub_cancel_left]
  unfold alP scP
  unfold rlD at h
  omega
theorem cpA_out {I : IM} {b o a j : Nat} (h : a < b ∨ b + 18 ≤ a) : cpA I b o a j = I a j := by
  unfold cpA
  rw [fb_out]
  unfold alP scP
  omega
theorem sv_at {I : IM} {o z d j : Nat} (ho : o < 6) (h : rlD d j ∨ (d = 17 ∧ j < 9)) : svI I o z (hbk (swN o z) + d) j = I (1 + d) j := by
  have hd : d < 18 := by unfold rlD at h; omega
  have hw : swN o z < 6 := by unfold swN; split; exact ho; exact Nat.mod_lt _ (by decide)
  have hlo := hbk_lo hw hd
  unfold svI swN at *
  by_cases e : z = 6
  · rw [if_pos e] at hlo ⊢
    rw [if_pos e, mu_ne _ _ (by omega), cpA_in h, mu_ne _ _ (by omega), mu_ne _ _ (by omega)]
  · rw [if_neg e] at hlo ⊢
    rw [if_neg e, mu_ne _ _ (by omega), cpA_in h]
theorem sv_oth {I : IM} {o z w d j : Nat} (ho : o < 6) (hw : w < 6) (hne : w ≠ swN o z) (hd : d < 18) : svI I o z (hbk w + d) j = I (hbk w + d) j := by
  have hlo := hbk_lo hw hd
  unfold svI swN at *
  by_cases e : z = 6
  · rw [if_pos e] at hne ⊢
    rw [mu_ne _ _ (by omega), cpA_out (by unfold hbk; omega), mu_ne _ _ (by omega), mu_ne _ _ (by omega)]
  · rw [if_neg e] at hne ⊢
    rw [mu_ne _ _ (by omega), cpA_out (by unfold hbk; omega)]
theorem sv_19 {I : IM} {o z : Nat} (ho : o < 6) (hz : z ≤ 6) (h1 : I 19 1 = nI o) (h2 : I 19 2 = nI z) : svI I o z 19 1 = nI (if z = 6 then (o + 1) % 6 else o) ∧ svI I o z 19 2 = nI (if z = 6 then 6 else z + 1) := by
  have c19 : ∀ (K : IM) w, w < 6 → ∀ j, cpA K (hbk w) 1 19 j = K 19 j := fun K w hw j => cpA_out (by unfold hbk; omega)
  unfold svI
  by_cases e : z = 6
  · rw [if_pos e, if_pos e, if_pos e]
    refine ⟨?_, mu_self _ _ _ _⟩
    rw [show ∀ K : IM, mu K 19 2 (nI 6) 19 1 = K 19 1 from fun K => rfl, c19 _ _ ho, show ∀ K : IM, mu K 19 2 (nI 5) 19 1 = K 19 1 from fun K => rfl, mu_self]
  · rw [if_neg e, if_neg e, if_neg e]
    refine ⟨?_, mu_self _ _ _ _⟩
    rw [show ∀ K : IM, mu K 19 2 (nI (z + 1)) 19 1 = K 19 1 from fun K => rfl, c19 _ _ (Nat.mod_lt _ (by decide))]
    exact h1
theorem svR_02 {J : IM} {z : Nat} : svR J z 0 2 = nI (if z = 6 then 6 else z + 1) := by
  unfold svR svQ
  rw [mu_self]
  split <;> rfl
theorem svR_new {J : IM} {z k : Nat} (hk : k < 296) : svR J z 2 (296 * svQ z + k) = J 1 k := by
  unfold svR
  rw [mu_ne _ _ (by decide), rg_at hk]
theorem svR_old {J : IM} {z i k : Nat} (hz : z ≤ 6) (hi : i < svQ z) (hk : k < 296) : svR J z 2 (296 * i + k) = J 2 (296 * (if z = 6 then i + 1 else i) + k) := by
  have h5 : svQ z ≤ 5 := by unfold svQ; split <;> omega
  unfold svR
  rw [mu_ne _ _ (by decide), rg_out (by omega)]
  unfold sv0
  by_cases e : z = 6
  · rw [if_pos e, if_pos e, mu_ne _ _ (by decide), rg_in (by omega) (by omega)]
    congr 1
    omega
  · rw [if_neg e, if_neg e]
/-- what a save leaves of both sides -/
theorem Sim.save {I J : IM} {n o z q : Nat} {f : Nat → Nat} (h : Sim I J n o z q f) : ∃ o' z', SmR (svI I o z) (svR J z) o' z' q f := by
  obtain ⟨⟨hs, ht⟩, ⟨a1, a2, a3, a4, a5⟩, b, c, d, e⟩ := h
  obtain ⟨s1, s2⟩ := sv_19 a1 a2 a3 a4
  have hw : swN o z < 6 := by unfold swN; split; exact a1; exact Nat.mod_lt _ (by decide)
  have new : ∃ m, StS (svI I o z) (hbk (swN o z)) m (Row (svR J z) (svQ z)) ∧ Ty (svI I o z) (hbk (swN o z)) (Row (svR J z) (svQ z)) :=
    ⟨n, hs.of (fun d j hd => sv_at a1 (Or.inl hd)) (fun k hk => svR_new (by unfold rlK at hk; omega)), ht.of (fun j hj => sv_at a1 (Or.inr ⟨rfl, hj⟩)) (fun j hj => svR_new (by omega))⟩
  have old : ∀ i, i < svQ z → (o + (if z = 6 then i + 1 else i)) % 6 ≠ swN o z → ∃ m, StS (svI I o z) (hbk ((o + (if z = 6 then i + 1 else i)) % 6)) m (Row (svR J z) i) ∧ Ty (svI I o z) (hbk ((o + (if z = 6 then i + 1 else i)) % 6)) (Row (svR J z) i) := by
    intro i hi hne
    obtain ⟨m, m1, m2⟩ := b (if z = 6 then i + 1 else i) (by unfold svQ at hi; split at hi <;> (split <;> omega))
    have hlt : (o + (if z = 6 then i + 1 else i)) % 6 < 6 := Nat.mod_lt _ (by decide)
    exact ⟨m, m1.of (fun d j hd => sv_oth a1 hlt hne (by unfold rlD at hd; omega)) (fun k hk => svR_old a2 hi (by unfold rlK at hk; omega)), m2.of (fun j hj => sv_oth a1 hlt hne (by decide)) (fun j hj => svR_old a2 hi (by omega))⟩
  refine ⟨if z = 6 then (o + 1) % 6 else o, if z = 6 then 6 else z + 1, ⟨?_, ?_, s1, s2, svR_02⟩, fun i hi => ?_, fun s hs => ?_, ?_, ?_⟩
  · split
    · exact Nat.mod_lt _ (by decide)
    · exact a1
  · split <;> omega
  · by_cases e6 : z = 6
    · rw [if_pos e6] at hi ⊢
      have hq : svQ z = 5 := if_pos e6
      by_cases ei : i = 5
      · rw [hq] at new
        rw [show ((o + 1) % 6 + i) % 6 = swN o z by unfold swN; rw [if_pos e6]; omega, ei]
        exact new
      · have hne : (o + (if z = 6 then i + 1 else i)) % 6 ≠ swN o z := by unfold swN; rw [if_pos e6, if_pos e6]; omega
        have := old i (by omega) hne
        rw [if_pos e6] at this
        rw [show ((o + 1) % 6 + i) % 6 = (o + (i + 1)) % 6 by omega]
        exact this
    · rw [if_neg e6] at hi ⊢
      have hq : svQ z = z := if_neg e6
      by_cases ei : i = z
      · rw [hq] at new
        rw [show (o + i) % 6 = swN o z by unfold swN; rw [if_neg e6, ei], ei]
        exact new
      · have hne : (o + (if z = 6 then i + 1 else i)) % 6 ≠ swN o z := by unfold swN; rw [if_neg e6, if_neg e6]; omega
        have := old i (by omega) hne
        rw [if_neg e6] at this
        exact this
  · have := c s hs
    rw [svI_ne a1 (a := 166) (by omega), svR_ne (a := 4) (by decide) (by decide)]
    refine ⟨this.1, this.2.imp id (fun ⟨c3, m, c4⟩ => ⟨c3, m, c4.of (fun d j hd => ?_) (fun k _ => ?_)⟩)⟩
    · rw [svI_ne a1 (by unfold sbk; omega)]
    · unfold Sht; rw [svR_ne (a := 3) (by decide) (by decide)]
  · obtain ⟨d1, d2, d3, d4⟩ := d
    refine ⟨d1, by rw [svI_ne a1 (by omega)]; exact d2, by rw [svR_0 (by decide)]; exact d3, fun j hj => ?_⟩
    rw [svI_ne a1 (a := 167) (by omega), svR_ne (a := 5) (by decide) (by decide)]
    exact d4 j hj
  · intro j hj hk
    rw [svI_ne a1 (by omega)]
    exact e j hj hk
theorem Sim.t7 {I J : IM} {n o z q : Nat} {f : Nat → Nat} (h : Sim I J n o z q f) (x : Int32) : Sim I (mu J 0 7 x) n o z q f := by
  refine ⟨⟨?_, ?_⟩, h.2.of (fun _ _ _ => rfl) rfl id (fun a h1 _ => mu_ne _ _ (by omega)) rfl rfl⟩
  · rw [mu_ne _ _ (by decide)]; exact h.1.1
  · rw [mu_ne _ _ (by decide)]; exact h.1.2
