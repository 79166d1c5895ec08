/-! BOTH SIDES: counts and digests -/
theorem hl_cong {g g' : Nat → Int64} {h : Int64} : ∀ {n : Nat}, (∀ k, k < n → g k = g' k) → hl g n h = hl g' n h
  | 0, _ => rfl
  | n + 1, hh => by rw [hl, hl, hl_cong (fun k hk => hh k (by omega)), hh n (by omega)]
theorem hm_cong {g g' : Nat → Nat → Int64} {n : Nat} {h : Int64} : ∀ {N : Nat}, (∀ r, r < N → ∀ c, c < n → g r c = g' r c) → hm g n N h = hm g' n N h
  | 0, _ => rfl
  | N + 1, hh => by rw [hm, hm, hm_cong (fun r hr => hh r (by omega)), hl_cong (hh N (by omega))]
theorem hl_add {g : Nat → Int64} {a : Nat} {h : Int64} : ∀ b, hl g (a + b) h = hl (fun k => g (a + k)) b (hl g a h)
  | 0 => rfl
  | b + 1 => by rw [show a + (b + 1) = a + b + 1 by omega, hl, hl, hl_add b]
theorem hl_hm {φ : Nat → Nat → Int64} {n : Nat} (hn : 0 < n) {h : Int64} : ∀ N, hl (fun k => φ (k / n) (k % n)) (N * n) h = hm φ n N h
  | 0 => by rw [Nat.zero_mul]; rfl
  | N + 1 => by
    rw [Nat.succ_mul, hl_add, hl_hm hn N, hm]
    refine hl_cong (fun k hk => ?_)
    rw [show (N * n + k) / n = N by rw [Nat.mul_comm, Nat.mul_add_div hn, Nat.div_eq_of_lt hk]; omega, show (N * n + k) % n = k by rw [Nat.mul_comm, Nat.mul_add_mod, Nat.mod_eq_of_lt hk]]
theorem Sim.co {I J : IM} {n o z q : Nat} {f : Nat → Nat} (h : Sim I J n o z q f) {k : Nat} (hk : okC k) : coF I n k = cnR J n k := by
  obtain ⟨⟨hs, ht⟩, ⟨a1, a2, a3, a4, a5⟩, b, c, -⟩ := h
  have hcf := St_cf hs
  obtain ⟨h1, h2, h3, h4, h5, h6, h7⟩ := hs
  unfold coF cnR
  by_cases e1 : 5 ≤ k ∧ k < 14
  · rw [if_pos e1, if_pos e1]
    exact ht (k - 5) (by omega)
  · rw [if_neg e1, if_neg e1]
    by_cases e2 : 20 ≤ k
    · rw [if_pos e2, if_pos e2]
      by_cases e3 : k - 20 < n
      · rw [if_pos e3, if_pos e3]
        exact (h5 (k - 20) (by omega)).1
      · rw [if_neg e3, if_neg e3]
    · rw [if_neg e2, if_neg e2]
      have hkk : k = 0 ∨ k = 1 ∨ k = 2 ∨ k = 3 ∨ k = 4 ∨ k = 14 := by unfold okC at hk; omega
      rcases hkk with rfl | rfl | rfl | rfl | rfl | rfl
      · rfl
      · show nI (cfS I 1 8) = nI (fmR J n 8)
        rw [hcf]
      · show I 19 2 = J 0 2
        rw [a4, a5]
      · show (gw (fun q p => I (13 + q) p) n (2 ^ n - 1) n (2 ^ n - 1)).toInt32 = (gw (mxR J) n (2 ^ n - 1) n (2 ^ n - 1)).toInt32
        rw [gw_cong (m' := mxR J) (fun r hr c hc => by rw [show 13 + r = 1 + 12 + r by omega, h6 r (by omega) c (by omega)]; rfl) n (Nat.le_refl n)]
      · exact sgB_cong (fun k hk => (h5 k hk).1)
      · show tkF I = J 4 0 + J 4 1
        have key : ∀ s, s < 2 → (if I 166 s = 0 then (0 : Int32) else 1) = J 4 s := fun s hs => by
          obtain ⟨c1, c2⟩ := c s hs
          rw [c1]
          rcases c2 with c2 | ⟨c2, -⟩
          · rw [c2]; rfl
          · rw [c2]; rfl
        unfold tkF
        rw [key 0 (by decide), key 1 (by decide)]
theorem fa_ok {f g : Nat → Int32} {n : Nat} (h : FA f g n) (hn : n ≤ 5) : dgOK g n := by
  have hs := fa_shG h (gr := nI 2) (pow_le32 n hn).1
  exact ⟨fa_SM h, fun hg => fa_rw h hn hg, ct_ld, btw_ne, shG_ok hs, (fa_deQ h hn).2, shG_self hs⟩
theorem fa_ha {f g : Nat → Int32} {n : Nat} (h : FA f g n) (hn : n ≤ 5) (hn0 : 0 < n) (x : Int64) : haF f n x = hl (fun k => (baG (slG g n n) n (k / n) (k % n)).toInt64) (anN2 g n * n) (31 * x + (anR g n).toInt64) := by
  unfold haF
  rw [hl_hm (φ := fun p d => (baG (slG g n n) n p d).toInt64) hn0, fa_an h hn]
  unfold anN anN2 baF
  rw [fa_gm h hn, fa_fi h hn]
  by_cases e : gmF g (2 ^ n) ≤ 60
  · obtain ⟨a1, a2, -, -⟩ := an_all hn (fa_60 h hn e)
    rw [if_pos e, if_pos e, ← a1]
    exact hm_cong (fun p hp d hd => by rw [a2 p hp d hd])
  · rw [if_neg e, if_neg e]
    rw [hm, hm]
theorem fa_hf {f g : Nat → Int32} {n : Nat} (h : FA f g n) (hn : n ≤ 5) (hn0 : 0 < n) (x : Int64) : (if dtF f n = 1 then hfF f n (grF f 32).toInt.toNat x else x) = hl (fun k => (faR g n (k / n) (k % n)).toInt64) (ctN g n * n) x := by
  have hB := (pow_le32 n hn).1
  rw [hl_hm (φ := fun p d => (faR g n p d).toInt64) hn0]
  have hct := fa_ct h hn
  unfold ctN
  rw [← hct]
  unfold ctF
  by_cases e : dtF f n = 1
  · rw [if_pos e, if_pos e]
    obtain ⟨gr, hg5, hg⟩ := dt_gr e
    rw [hg, nI_toInt (by omega), show (nI gr).toNatClampNeg = gr from nI_clamp (by omega)]
    exact hm_cong (fun p _ d hd => by rw [fa_fa h hn (by omega)])
  · rw [if_neg e, if_neg e]
    rfl
theorem Sim.hs {I J : IM} {n o z q : Nat} {f : Nat → Nat} (h : Sim I J n o z q f) {s : Nat} (hs : s < 8) (x : Int64) : hsF I n s x = hsR J n s x := by
  obtain ⟨h1, h2, h3, h4, h5, h6, h7⟩ := id h.1.1
  have fa := h.1.1.fa hs
  have f0 := h.1.1.fa (s := 0) (by decide)
  have f1 := h.1.1.fa (s := 1) (by decide)
  unfold hsF hsR F2 F3 F4 F5 F6 F7 F8 F9 F10 F11 hR1 hR2 hR6 hR7
  have e0 : hl (fun k => (I (3 + s) k).toInt64) (2 ^ n) x = hl (fun k => (frR J s k).toInt64) (2 ^ n) x := hl_cong (fun k hk => by rw [fa.1 k (pow_mono n h2 k hk)])
  have e1 : ∀ y, hl (fun k => (prF (I (3 + s)) 32 k).toInt64) 8 y = hl (fun k => (prF (frR J s) (2 ^ n) k).toInt64) 8 y := fun y => hl_cong (fun k hk => by rw [fa_pr fa h2 hk])
  have e2 : inC (I 11) (I (3 + s)) (I 3) (2 ^ n) = inC (sgR J) (frR J s) (frR J 0) (2 ^ n) := inC_cong (fun k hk => (h5 k hk).1) (fun q hq => fa.1 q (pow_mono n h2 q hq)) (fun q hq => f0.1 q (pow_mono n h2 q hq))
  rw [e0, e1, e2, fa_dt fa h2, fa_db fa h2, ← fa_dt fa h2, ← fa_hf fa h2 (by omega), ← fa_ha fa h2 (by omega), fa_cm fa f1 h2, fa_de fa h2, fa_sh fa h2]
theorem Sim.dg {I J : IM} {n o z q : Nat} {f : Nat → Nat} (h : Sim I J n o z q f) : dgF I n q = dgR J n q := by
  obtain ⟨h1, h2, h3, h4, h5, h6, h7⟩ := id h.1.1
  obtain ⟨-, -, -, ⟨d1, d2, d3, d4⟩, -⟩ := id h.2
  have hA : ∀ s, s ≤ 8 → ∀ x, hsA I n s x = hsRA J n s x := by
    intro s
    induction s with
    | zero => intro _ x; rfl
    | succ s ih => intro hs x; rw [hsA, hsRA, ih (by omega), h.hs (by omega)]
  have hc : hcF I n 2423 = cqR J n 25 2423 := by
    rw [cqR_hl]
    unfold hcF
    rw [hl_cong (g := fun k => (coF I n k).toInt64) (g' := fun k => (cnR J n k).toInt64) (fun k hk => by rw [h.co (by unfold okC; omega)])]
    exact hl_cong (fun k hk => by rw [h.co (by unfold okC; omega)])
  have hx : ∀ y, hxF I n y = hm (fun r c => (mxR J r c).toInt64) n n y := fun y => hm_cong (fun r hr c hc => by rw [show 13 + r = 1 + 12 + r by omega, h6 r (by omega) c (by omega)]; rfl)
  unfold dgF dgR
  rw [hc, hx, hA 8 (Nat.le_refl 8), hl_cong (n := q) (g' := fun i => (J 5 i).toInt64) (fun k hk => by rw [(d4 k hk).1, (d4 k hk).2.1])]
  have e3 : ∀ y, hl (fun w => (fsI (ftO (rfG I n (1 + w) 0 1) (2 ^ n))).toInt64) 3 y = hl (fun w => (fsI (ftO (rfR J n (1 + w) 0 1) (2 ^ n))).toInt64) 3 y := fun y => hl_cong (fun w _ => by
    rw [show ftO (rfG I n (1 + w) 0 1) (2 ^ n) = ftO (rfR J n (1 + w) 0 1) (2 ^ n) from fsO_cong (fun k hk => by rw [St_rf h.1.1 (by decide) (by decide) k hk])])
  rw [e3]
theorem Sim.shOK {I J : IM} {n o z q : Nat} {f : Nat → Nat} (h : Sim I J n o z q f) : shOK I n := fun s hs => by
  have fa := h.1.1.fa hs
  have hn := h.1.1.2.1
  have := fa_okF fa hn (gr := 2)
  exact ⟨this.1, this.2, (fa_deQ fa hn).1⟩
