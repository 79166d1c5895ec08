/-! THE RANK of the form's lines: by minors, by a prime number, by the kernel -/
theorem dt_sumI {α : Nat → Int} {M : Nat → Nat → Int} {D : Int} {r w : Nat → Int} : ∀ L, dt (fun d => sumI (fun i => α i * M i d) L + D * r d) w = sumI (fun i => α i * dt (M i) w) L + D * dt r w
  | 0 => by simp only [dt_5, sumI]; grind
  | L + 1 => by
    have ih := dt_sumI (α := α) (M := M) (D := D) (r := r) (w := w) L
    simp only [dt_5, sumI] at ih ⊢
    grind
theorem dvd_sumI {q : Int} {t : Nat → Int} : ∀ L, (∀ i, i < L → q ∣ t i) → q ∣ sumI t L
  | 0, _ => ⟨0, by simp [sumI]⟩
  | L + 1, h => Int.dvd_add (dvd_sumI L (fun i hi => h i (by omega))) (h L (by omega))
theorem cram {q : Int} {P : Pvs} (h4 : P.length ≤ 4) {r w : Nat → Int} {c : Nat} (hc : c < 5) (h1 : ∀ x ∈ P, q ∣ dt x.1 w) (h2 : q ∣ dt r w) (h3 : ∀ d, d < 5 → d ≠ c → (∀ x ∈ P, x.2 ≠ d) → w d = 0) : q ∣ NN P r c * w c := by
  obtain ⟨α, hα⟩ := NNe P h4 r
  have e1 : dt (fun d => NN P r d) w = NN P r c * w c := sumI_one hc (fun d hd hne => by
    by_cases hx : ∃ x, x ∈ P ∧ x.2 = d
    · obtain ⟨x, hx, e⟩ := hx
      rw [← e]
      show NN P r x.2 * w x.2 = 0
      rw [NN_col h4 hx, Int.zero_mul]
    · rw [h3 d hd hne (fun x hx' e => hx ⟨x, hx', e⟩), Int.mul_zero])
  have e2 : (fun d => NN P r d) = (fun d => sumI (fun i => α i * (P.getD i ((fun _ => 0), 0)).1 d) P.length + DD P * r d) := funext hα
  rw [← e1, e2, dt_sumI (M := fun i => (P.getD i ((fun _ => 0), 0)).1)]
  refine Int.dvd_add (dvd_sumI _ (fun i hi => dmr _ (h1 _ ?_))) (dmr _ h2)
  rw [List.getD_eq_getElem?_getD, List.getElem?_eq_getElem hi]
  exact List.getElem_mem hi
theorem cram2 {q : Int} {P : Pvs} (h4 : P.length ≤ 4) {r w : Nat → Int} {c : Nat} (hP5 : ∀ x ∈ P, x.2 < 5) (h1 : ∀ x ∈ P, q ∣ dt x.1 w) (h2 : q ∣ dt r w) (h3 : ∀ d, d < 5 → d ≠ c → (∀ x ∈ P, x.2 ≠ d) → w d = 0) {x : (Nat → Int) × Nat} (hx : x ∈ P) : q ∣ NN P r c * w x.2 := by
  obtain ⟨P2, p1, p2, p3, p4, p5, y0, hy0, ey0⟩ := NN_sw P h4 r c x hx
  have := cram (q := q) (P := P2) (r := r) (w := w) (c := x.2) (by omega) (hP5 x hx) (fun y hy => by
    obtain ⟨y', hy', e⟩ := p3 y hy
    rw [e]; exact h1 y' hy') h2 (fun d hd hne hn => h3 d hd (fun e => hn y0 hy0 (by rw [ey0, e])) (fun y' hy' e => by
    rcases p5 y' hy' with z | ⟨y, hy, z⟩
    · exact hne (by rw [← e, z])
    · exact hn y hy (by rw [z, e])))
  rw [p2] at this
  obtain ⟨t, ht⟩ := this
  exact ⟨-t, by grind⟩
section RNK
variable {q n b ρ z : Nat} {u : Nat → Nat → Int} {E : Nat → Nat → Int} {hd : Nat → Nat}
theorem hd_nd (h : RK q n u b ρ E hd) : ((List.range ρ).map hd).Nodup := by
  have inj : ∀ i j, i < j → j < ρ → hd i ≠ hd j := fun i j hij hj e => by
    obtain ⟨a1, a2, a3⟩ := h.2.2.1 j hj
    have := a3 i hij
    rw [e, a2] at this
    omega
  have gen : ∀ l : List Nat, l.Nodup → (∀ x ∈ l, x < ρ) → (l.map hd).Nodup := by
    intro l
    induction l with
    | nil => intro _ _; exact List.nodup_nil
    | cons x t ih =>
      intro hn hl
      rw [List.nodup_cons] at hn
      rw [List.map_cons, List.nodup_cons]
      refine ⟨fun hm => ?_, ih hn.2 (fun y hy => hl y (List.mem_cons_of_mem _ hy))⟩
      obtain ⟨y, hy, e⟩ := List.mem_map.mp hm
      have hyx : y ≠ x := fun e => hn.1 (by rw [← e]; exact hy)
      by_cases hlt : y < x
      · exact inj y x hlt (hl x List.mem_cons_self) e
      · exact inj x y (by omega) (hl y (List.mem_cons_of_mem _ hy)) e.symm
  exact gen _ List.nodup_range (fun x hx => List.mem_range.mp hx)
theorem rk_ge (hq : Prm q) (hn : n ≤ 5) (h : RK q n u (2 ^ n) ρ E hd) {P : Pvs} (h4 : P.length ≤ 4) {r : Nat → Int} {c : Nat} (hrow : ∀ x ∈ P, x.2 < n ∧ ∃ b, 1 ≤ b ∧ b < 2 ^ n ∧ x.1 = u b) (hr : ∃ b, 1 ≤ b ∧ b < 2 ^ n ∧ r = u b) (hc : c < n) (hnd : (c :: P.map (fun x => x.2)).Nodup) (hD : ¬ (q : Int) ∣ NN P r c) : P.length + 1 ≤ ρ := by
  refine Classical.byContradiction (fun hlt => ?_)
  have mem : ∀ j, j ∈ c :: P.map (fun x => x.2) → j < n := fun j hj => by
    rcases List.mem_cons.mp hj with e | hj
    · rw [e]; exact hc
    · obtain ⟨x, hx, e⟩ := List.mem_map.mp hj
      rw [← e]; exact (hrow x hx).1
  obtain ⟨t, ⟨j0, hj0, ht0⟩, htz, htR⟩ := PL ρ ((List.range ρ).map E) (c :: P.map (fun x => x.2)) (by rw [List.length_map, List.length_range]) hnd (fun j hj => by have := mem j hj; omega) (by rw [List.length_cons, List.length_map]; omega)
  obtain ⟨w, ⟨j1, hj1, hw1⟩, hwz, hwR⟩ := prim_q hq ⟨j0, by have := mem j0 hj0; omega, ht0⟩
  have hA := h.2.2.2.2.2 w (fun k hk => by
    rw [hwR _ (htR _ (List.mem_map.mpr ⟨k, List.mem_range.mpr hk, rfl⟩))]
    exact ⟨0, by omega⟩)
  have h1 : ∀ x ∈ P, (q : Int) ∣ dt x.1 w := fun x hx => by
    obtain ⟨-, b, b1, b2, e⟩ := hrow x hx
    rw [e]; exact hA b b1 b2
  have h2 : (q : Int) ∣ dt r w := by
    obtain ⟨b, b1, b2, e⟩ := hr
    rw [e]; exact hA b b1 b2
  have h3 : ∀ d, d < 5 → d ≠ c → (∀ x ∈ P, x.2 ≠ d) → w d = 0 := fun d _ hne hno => hwz d (htz d (fun hm => by
    rcases List.mem_cons.mp hm with e | hm
    · exact hne e
    · obtain ⟨x, hx, e⟩ := List.mem_map.mp hm
      exact hno x hx e))
  have hall : ∀ j, (q : Int) ∣ w j ∨ w j = 0 := fun j => by
    by_cases hj : j ∈ c :: P.map (fun x => x.2)
    · rcases List.mem_cons.mp hj with e | hj
      · subst e
        rcases hq.mulI (cram h4 (by omega) h1 h2 h3) with z | z
        · exact absurd z hD
        · exact Or.inl z
      · obtain ⟨x, hx, e⟩ := List.mem_map.mp hj
        rw [← e]
        rcases hq.mulI (cram2 h4 (fun x hx => by have := (hrow x hx).1; omega) h1 h2 h3 hx) with z | z
        · exact absurd z hD
        · exact Or.inl z
    · exact Or.inr (hwz j (htz j hj))
  rcases hall j1 with z | z
  · exact hw1 z
  · exact hw1 (by rw [z]; exact ⟨0, by omega⟩)
end RNK
def uF (f : Nat → Int32) (n b d : Nat) : Int := (lnF f n b d).toInt
section KER
variable {f : Nat → Int32} {n : Nat}
theorem uF_hi (hn : n ≤ 5) {b d : Nat} (hb : b < 2 ^ n) (h1 : n ≤ d) (h2 : d < 5) : uF f n b d = 0 := by
  unfold uF lnF
  rw [hi_bit n hn b hb d h2 h1, if_neg (fun z => by have := z.2; cases this)]
  rfl
theorem uF_out {b d : Nat} (h : b = 0 ∨ 2 ^ n ≤ b) : uF f n b d = 0 := by
  unfold uF lnF
  rw [if_neg (fun z => by
    rcases h with e | e
    · subst e; have := z.2; simp at this
    · have := z.1; omega)]
  rfl
theorem sum_5 (hn : n ≤ 5) {t : Nat → Int} (hz : ∀ d, n ≤ d → d < 5 → t d = 0) : sumI t n = sumI t 5 := by
  rcases (show n = 0 ∨ n = 1 ∨ n = 2 ∨ n = 3 ∨ n = 4 ∨ n = 5 by omega) with rfl | rfl | rfl | rfl | rfl | rfl
  · simp only [sumI, hz 0 (by decide) (by decide), hz 1 (by decide) (by decide), hz 2 (by decide) (by decide), hz 3 (by decide) (by decide), hz 4 (by decide) (by decide)]; omega
  · simp only [sumI, hz 1 (by decide) (by decide), hz 2 (by decide) (by decide), hz 3 (by decide) (by decide), hz 4 (by decide) (by decide)]; omega
  · simp only [sumI, hz 2 (by decide) (by decide), hz 3 (by decide) (by decide), hz 4 (by decide) (by decide)]; omega
  · simp only [sumI, hz 3 (by decide) (by decide), hz 4 (by decide) (by decide)]; omega
  · simp only [sumI, hz 4 (by decide) (by decide)]; omega
  · rfl
theorem nu_dt (hn : n ≤ 5) {v : Nat → Int} : Nu (lnF f n) n v ↔ ∀ b, 1 ≤ b → b < 2 ^ n → dt (uF f n b) v = 0 := by
  have e : ∀ b, b < 2 ^ n → sumI (fun d => (lnF f n b d).toInt * v d) n = dt (uF f n b) v := fun b hb => sum_5 hn (fun d d1 d2 => by
    show uF f n b d * v d = 0
    rw [uF_hi hn hb d1 d2, Int.zero_mul])
  have hB := (pow_le32 n hn).1
  constructor
  · intro h b _ b2
    rw [← e b b2]
    exact h b (by omega)
  · intro h b hb
    by_cases hbn : b < 2 ^ n
    · by_cases b0 : b = 0
      · rw [e b hbn, dt_5]
        simp only [uF_out (Or.inl b0), Int.zero_mul]
        rfl
      · rw [e b hbn]; exact h b (by omega) hbn
    · rw [sumI_cong (t := fun _ => 0) (fun d _ => by
        show uF f n b d * v d = 0
        rw [uF_out (Or.inr (by omega)), Int.zero_mul])]
      exact sumI_0 n
/-- a prime number's rank isn't too great -/
theorem rk_le {q b ρ z : Nat} {E : Nat → Nat → Int} {hd hd0 : Nat → Nat} {V : VM} (hq : Prm q) (hn : n ≤ 5) (hC : CI f n (2 ^ n - 1) z V hd0) (h : RK q n (uF f n) b ρ E hd) : ρ + z ≤ n := by
  refine Classical.byContradiction (fun hlt => ?_)
  obtain ⟨c1, c2, c3, c4, c5, c6, c7⟩ := id hC
  have hH := hd_nd h
  have hHn : ∀ x, x ∈ (List.range ρ).map hd → x < n := fun x hx => by
    obtain ⟨k, hk, e⟩ := List.mem_map.mp hx
    rw [← e]; exact (h.2.2.1 k (List.mem_range.mp hk)).1
  -- the columns that are no heads
  have hnl : ((List.range n).filter (fun d => decide (d ∉ (List.range ρ).map hd))).length + ρ ≤ n := by
    have h1 := len_nd ((List.range ρ).map hd ++ (List.range n).filter (fun d => decide (d ∉ (List.range ρ).map hd))) (List.range n) (by
      rw [List.nodup_append]
      refine ⟨hH, List.Pairwise.filter _ List.nodup_range, fun a ha b hb e => ?_⟩
      rw [List.mem_filter] at hb
      have := of_decide_eq_true hb.2
      exact this (e ▸ ha)) (fun x hx => by
      rcases List.mem_append.mp hx with hx | hx
      · exact List.mem_range.mpr (hHn x hx)
      · exact (List.mem_filter.mp hx).1)
    rw [List.length_append, List.length_map, List.length_range, List.length_range] at h1
    omega
  obtain ⟨t, ⟨p0, hp0, ht0⟩, htz, htR⟩ := PL _ (((List.range n).filter (fun d => decide (d ∉ (List.range ρ).map hd))).map (fun d => fun p => (V p d).toInt)) (List.range z) (List.length_map _) List.nodup_range (fun j hj => by have := List.mem_range.mp hj; omega) (by rw [List.length_range]; omega)
  have hp0z := List.mem_range.mp hp0
  have ev : ∀ d, d < n → (dt (fun p => (V p d).toInt) t = 0 ∨ d ∈ (List.range ρ).map hd) := fun d hdn => by
    by_cases hm : d ∈ (List.range ρ).map hd
    · exact Or.inr hm
    · exact Or.inl (htR _ (List.mem_map.mpr ⟨d, List.mem_filter.mpr ⟨List.mem_range.mpr hdn, decide_eq_true hm⟩, rfl⟩))
  -- the vector
  have hvN : ∀ b, 1 ≤ b → b < 2 ^ n → dt (uF f n b) (fun d => if d < n then dt (fun p => (V p d).toInt) t else 0) = 0 := fun b b1 b2 => by
    have e1 : dt (uF f n b) (fun d => if d < n then dt (fun p => (V p d).toInt) t else 0) = dt (uF f n b) (fun d => dt (fun p => (V p d).toInt) t) := by
      have : ∀ d, d < 5 → uF f n b d * (if d < n then dt (fun p => (V p d).toInt) t else 0) = uF f n b d * dt (fun p => (V p d).toInt) t := fun d hd5 => by
        by_cases e : d < n
        · rw [if_pos e]
        · rw [uF_hi hn b2 (by omega) hd5, Int.zero_mul, Int.zero_mul]
      exact sumI_cong this
    rw [e1, dt_sw]
    have : ∀ p, t p * dt (uF f n b) (fun d => (V p d).toInt) = 0 := fun p => by
      by_cases hp : p < z
      · rw [(nu_dt hn).mp (Nu_all.mp (c4 p hp)) b b1 b2, Int.mul_zero]
      · rw [htz p (fun hm => hp (List.mem_range.mp hm)), Int.zero_mul]
    rw [dt_5, this, this, this, this, this]
    rfl
  have hvne : ∃ j, j < 5 ∧ (fun d => if d < n then dt (fun p => (V p d).toInt) t else 0) j ≠ 0 := by
    have hh := c1 p0 hp0z
    refine ⟨hd0 p0, by omega, ?_⟩
    simp only [hh, if_true]
    have : dt (fun p => (V p (hd0 p0)).toInt) t = (V p0 (hd0 p0)).toInt * t p0 := sumI_one (by omega) (fun p _ hne => by
      show (V p (hd0 p0)).toInt * t p = 0
      by_cases hp : p < z
      · rw [(c3 p hp).2.2 p0 hp0z (fun e => hne e.symm), Int.zero_mul]
      · rw [htz p (fun hm => hp (List.mem_range.mp hm)), Int.mul_zero])
    rw [this]
    have := (c3 p0 hp0z).1
    exact Int.mul_ne_zero (by omega) ht0
  obtain ⟨w, ⟨j1, hj1, hw1⟩, hwz, hwR⟩ := prim_q hq hvne
  have hwA : AllA q n (uF f n) w := fun b b1 b2 => by
    rw [hwR _ (hvN b b1 b2)]
    exact ⟨0, by omega⟩
  have hE := h.2.2.2.2.1 w hwA
  have w0 : ∀ d, d ∉ (List.range ρ).map hd → w d = 0 := fun d hd' => hwz d (by
    show (if d < n then dt (fun p => (V p d).toInt) t else 0) = 0
    by_cases e : d < n
    · rw [if_pos e]
      rcases ev d e with z | z
      · exact z
      · exact absurd z hd'
    · rw [if_neg e])
  have hw : ∀ m k, k < ρ → ρ - k ≤ m → (q : Int) ∣ w (hd k) := by
    intro m
    induction m with
    | zero => intro k hk hm; omega
    | succ m ih =>
      intro k hk hm
      obtain ⟨a1, a2, a3⟩ := h.2.2.1 k hk
      refine (Int.dvd_iff_dvd_of_dvd_sub (dt_only (R := E k) (w := w) (h := hd k) (by omega) (fun d hd5 hne => ?_) a2)).mp (hE k hk)
      by_cases hm : d ∈ (List.range ρ).map hd
      · obtain ⟨j, hj, e⟩ := List.mem_map.mp hm
        have hj := List.mem_range.mp hj
        rw [← e]
        by_cases hjk : j < k
        · rw [a3 j hjk, Int.zero_mul]; exact ⟨0, by omega⟩
        · have : j ≠ k := fun z => hne (by rw [← e, z])
          exact dmr _ (ih j hj (by omega))
      · rw [w0 d hm, Int.mul_zero]; exact ⟨0, by omega⟩
  by_cases hm : j1 ∈ (List.range ρ).map hd
  · obtain ⟨k, hk, e⟩ := List.mem_map.mp hm
    exact hw1 (by rw [← e]; exact hw ρ k (List.mem_range.mp hk) (by omega))
  · exact hw1 (by rw [w0 j1 hm]; exact ⟨0, by omega⟩)
theorem NN_0 {P : Pvs} (h4 : P.length ≤ 4) (d : Nat) : NN P (fun _ => 0) d = 0 := by
  have := NN_un h4 (v := fun _ => 0) (fun _ _ => rfl) d
  rw [this, Int.mul_zero]
theorem NN_lin {P : Pvs} (h4 : P.length ≤ 4) (h5 : ∀ x ∈ P, x.2 < 5) {v : Nat → Int} {d : Nat} (hd : d < 5) : dt v (fun j => NN P (un j) d) = NN P v d := by
  have e1 : ∀ j, j < 5 → v j = v 0 * un 0 j + (v 1 * un 1 j + (v 2 * un 2 j + (v 3 * un 3 j + (v 4 * un 4 j + 0)))) := fun j hj => by
    unfold un
    rcases (show j = 0 ∨ j = 1 ∨ j = 2 ∨ j = 3 ∨ j = 4 by omega) with rfl | rfl | rfl | rfl | rfl <;> simp
  rw [NN_cong P h4 v (fun j => v 0 * un 0 j + (v 1 * un 1 j + (v 2 * un 2 j + (v 3 * un 3 j + (v 4 * un 4 j + 0))))) d (fun x hx => e1 _ (h5 x hx)) (e1 d hd)]
  rw [NN_add2 P h4, NN_add2 P h4, NN_add2 P h4, NN_add2 P h4, NN_add2 P h4, NN_0 h4, dt_5]
  omega
/-- the kernel is great enough -/
theorem kn_ge {z : Nat} {V : VM} {hd0 : Nat → Nat} (hn : n ≤ 5) (hC : CI f n (2 ^ n - 1) z V hd0) {P : Pvs} (h4 : P.length ≤ 4) (hD : DD P ≠ 0) (hcol : ∀ x ∈ P, x.2 < n) (hmax : ∀ b, 1 ≤ b → b < 2 ^ n → ∀ d, d < n → NN P (uF f n b) d = 0) : n ≤ P.length + z := by
  refine Classical.byContradiction (fun hlt => ?_)
  obtain ⟨c1, c2, c3, c4, c5, c6, c7⟩ := id hC
  have hnl : n ≤ ((List.range n).filter (fun d => decide (d ∉ P.map (fun x => x.2)))).length + P.length := by
    have h1 := len_nd (List.range n) ((List.range n).filter (fun d => decide (d ∉ P.map (fun x => x.2))) ++ P.map (fun x => x.2)) List.nodup_range (fun x hx => by
      by_cases hm : x ∈ P.map (fun x => x.2)
      · exact List.mem_append_right _ hm
      · exact List.mem_append_left _ (List.mem_filter.mpr ⟨hx, decide_eq_true hm⟩))
    rw [List.length_append, List.length_map, List.length_range] at h1
    exact h1
  obtain ⟨t, ⟨d0, hd0', ht0⟩, htz, htR⟩ := PL z ((List.range z).map (fun p => fun d => NN P (un (hd0 p)) d)) ((List.range n).filter (fun d => decide (d ∉ P.map (fun x => x.2)))) (by rw [List.length_map, List.length_range]) (List.Pairwise.filter _ List.nodup_range) (fun j hj => by have := List.mem_range.mp (List.mem_filter.mp hj).1; omega) (by omega)
  obtain ⟨m1, m2⟩ := List.mem_filter.mp hd0'
  have d0n := List.mem_range.mp m1
  have d0c := of_decide_eq_true m2
  have hvN : ∀ b, 1 ≤ b → b < 2 ^ n → dt (uF f n b) (fun j => dt (fun d => NN P (un j) d) t) = 0 := fun b b1 b2 => by
    rw [dt_sw (M := fun d j => NN P (un j) d)]
    have : ∀ d, d < 5 → t d * dt (uF f n b) (fun j => NN P (un j) d) = 0 := fun d hd5 => by
      by_cases hdn : d < n
      · rw [NN_lin h4 (fun x hx => by have := hcol x hx; omega) hd5, hmax b b1 b2 d hdn, Int.mul_zero]
      · rw [htz d (fun hm => hdn (List.mem_range.mp (List.mem_filter.mp hm).1)), Int.zero_mul]
    rw [dt_5, this 0 (by decide), this 1 (by decide), this 2 (by decide), this 3 (by decide), this 4 (by decide)]
    rfl
  have hv := c5 (fun j => dt (fun d => NN P (un j) d) t) (Nu_all.mpr ((nu_dt hn).mpr hvN)) (fun p hp => htR _ (List.mem_map.mpr ⟨p, List.mem_range.mpr hp, rfl⟩)) d0 d0n
  have e1 : dt (fun d => NN P (un d0) d) t = NN P (un d0) d0 * t d0 := sumI_one (by omega) (fun d _ hne => by
    show NN P (un d0) d * t d = 0
    rw [NN_un h4 (v := un d0) (fun x hx => by
      unfold un
      rw [if_neg (fun e => d0c (List.mem_map.mpr ⟨x, hx, e⟩))]) d]
    unfold un
    rw [if_neg hne, Int.mul_zero, Int.zero_mul])
  have e2 : NN P (un d0) d0 = DD P := by
    rw [NN_un h4 (v := un d0) (fun x hx => by
      unfold un
      rw [if_neg (fun e => d0c (List.mem_map.mpr ⟨x, hx, e⟩))]) d0]
    unfold un
    rw [if_pos rfl, Int.mul_one]
  have : dt (fun d => NN P (un d0) d) t = 0 := hv
  rw [e1, e2] at this
  rcases Int.mul_eq_zero.mp this with e | e
  · exact hD e
  · exact ht0 e
end KER
