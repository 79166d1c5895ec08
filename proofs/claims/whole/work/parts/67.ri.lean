/-! the reference: the digest -/
theorem qX8_mix (l : Launch) (v : Int64) (I : IM) (L : LM) : KX8_mix l [.ref 0, .long v] I L none I (mu L 0 23 (31 * L 0 23 + v)) := by
  refine wX8_mix l rfl (hz0 (by decide)) (fun V hV => ?_)
  refine ru_fin hV 9 [] rfl rfl ⟨⟨trivial, (by first | exact rfl | assumption | exact ⟨rfl, rfl⟩ | exact ⟨rfl, rfl, by omega⟩ | exact ⟨by assumption, rfl, by omega⟩ | exact ⟨⟨_, rfl, rfl⟩, by decide, by decide, rfl, by omega⟩ | omega | decide)⟩, (by first | exact rfl | assumption | exact ⟨rfl, rfl⟩ | exact ⟨rfl, rfl, by omega⟩ | exact ⟨by assumption, rfl, by omega⟩ | exact ⟨⟨_, rfl, rfl⟩, by decide, by decide, rfl, by omega⟩ | omega | decide)⟩ ?_
  exact ⟨rfl, rfl, rfl⟩
theorem GR.h {n m : Nat} {J : IM} {M : LM} {G : GS} (h : GR n m J M G) (x : Int64) : GR n m J (mu M 0 23 x) G := by
  obtain ⟨⟨M0, h1⟩, h2, h3, h4⟩ := h
  refine ⟨⟨mu M0 0 23 x, by rw [h1, ln_mm (by decide)]⟩, h2, ?_, h4⟩
  rw [← h3]
  rfl
theorem dmn : ∀ n, n < 6 → 0 < n → ∀ k, k < 26 → nI k / nI n = nI (k / n) ∧ nI k - nI k / nI n * nI n = nI (k % n) := by decide +kernel
/-- what the digest asks of a form -/
def dgOK (f : Nat → Int32) (n : Nat) : Prop := SM f ∧ (gmF f (2 ^ n) ≤ 60 → rwOK (slG f n n) n) ∧ (∀ g, g ≤ 5 → ctR f n = nI g → 0 < g → ∃ q, ldO f (2 ^ n) = some q ∧ pc5 q = g) ∧ (ldI f (2 ^ n) ≠ NON → btw (loF f (2 ^ n)) (hiF f (2 ^ n)) (2 ^ n) ≠ 0) ∧ vf_n64 (shQ (shA f (nI 2) (2 ^ n)) (shB f (2 ^ n))) ∧ nn32 (deR f (2 ^ n)) ∧ nn64 (shQ (shA f (nI 2) (2 ^ n)) (shB f (2 ^ n)))
/-- how many vectors, how many factors -/
def anN2 (f : Nat → Int32) (n : Nat) : Nat := if gmF f (2 ^ n) ≤ 60 then n - (slG f n n).2.1 else 0
def ctN (f : Nat → Int32) (n : Nat) : Nat := (ctR f n).toNatClampNeg
def faR (f : Nat → Int32) (n p d : Nat) : Int32 := match ldO f (2 ^ n) with
  | some q => faF f q d 5 0 p
  | none => NON
section HS
variable (I : IM) (n s : Nat) (h : Int64)
def hR1 : Int64 := hl (fun k => (frR I s k).toInt64) (2 ^ n) h
def hR2 : Int64 := hl (fun k => (prF (frR I s) (2 ^ n) k).toInt64) 8 h
def hR6 : Int64 := hl (fun k => (baG (slG (frR I s) n n) n (k / n) (k % n)).toInt64) (anN2 (frR I s) n * n) h
def hR7 : Int64 := hl (fun k => (faR (frR I s) n (k / n) (k % n)).toInt64) (ctN (frR I s) n * n) h
def F11 : Int64 := 31 * h + (shQ (shA (frR I s) (nI 2) (2 ^ n)) (shB (frR I s) (2 ^ n))).toInt64
def F10 : Int64 := F11 I n s (31 * h + (deR (frR I s) (2 ^ n)).toInt32.toInt64)
def F9 : Int64 := F10 I n s (31 * h + (cmR (frR I s) (frR I 1) n).toInt64)
def F8 : Int64 := F9 I n s (31 * h + inC (sgR I) (frR I s) (frR I 0) (2 ^ n))
def F7 : Int64 := F8 I n s (hR7 I n s h)
def F6 : Int64 := F7 I n s (hR6 I n s h)
def F5 : Int64 := F6 I n s (31 * h + (anR (frR I s) n).toInt64)
def F4 : Int64 := F5 I n s (31 * h + (dbR2 (frR I s) n).toInt64)
def F3 : Int64 := F4 I n s (31 * h + (dtR (frR I s) n).toInt64)
def F2 : Int64 := F3 I n s (hR2 I n s h)
def hsR : Int64 := F2 I n s (hR1 I n s h)
end HS
theorem RV.n {I J : IM} (h : RV I J) : J 1 = I 1 := h.1 1 (by decide) (by decide)
theorem RV.sg {I J : IM} (h : RV I J) : sgR J = sgR I := by
  unfold sgR
  rw [h.n]
theorem RV.mx {I J : IM} (h : RV I J) : mxR J = mxR I := by
  unfold mxR
  rw [h.n]
theorem RQ.sg {I J : IM} (h : RQ I J) : sgR J = sgR I := by
  unfold sgR
  rw [h.n]
theorem RQ.mx {I J : IM} (h : RQ I J) : mxR J = mxR I := by
  unfold mxR
  rw [h.n]
theorem ctR_nat {f : Nat → Int32} {n : Nat} (hn : n ≤ 5) : ∃ g, g ≤ 5 ∧ ctR f n = nI g := by
  have hB := pow_le32 n hn
  unfold ctR
  rcases grF_nat (f := f) hB.1 with hg | ⟨g, hg5, hg⟩
  · rw [if_pos hg]; exact ⟨0, by decide, rfl⟩
  · split
    · exact ⟨0, by decide, rfl⟩
    · split
      · exact ⟨g, hg5, hg⟩
      · exact ⟨0, by decide, rfl⟩
theorem qX8_mixSlot (l : Launch) {s n : Nat} (hs : s < 8) (hn : n ≤ 5) (hn2 : 2 ≤ n) {I : IM} (hd : I 1 0 = nI n) (hok : dgOK (frR I s) n) (L : LM) : ∃ I2 L2, (RQ I I2 ∧ L2 0 23 = hsR I n s (L 0 23)) ∧ KX8_mixSlot l [.ref 0, .int (nI s)] I L none I2 L2 := by
  refine ru_pos1 (r := none) (fun V hV => ?_) (fun I2 L2 h => wX8_mixSlot l rfl (hz0 (by decide)) h)
  show V 0 [(0, .ref 0), (1, .int (nI s))] [] I L
  obtain ⟨hm, hr, hld, hb0, hv, hnn1, hnn2⟩ := hok
  obtain ⟨hB, -⟩ := pow_le32 n hn
  generalize hH : hsR I n s (L 0 23) = H at hV
  have d1 : ∀ {J}, RQ I J → J 1 0 = nI n := fun hJ => by rw [hJ.n]; exact hd
  have s11 : ∀ J (M : LM), RQ I J → F11 I n s (M 0 23) = H → V 225 [(0, .ref 0), (1, .int (nI s))] [] J M := by
    intro J M hJ hM
    have hK := qX8_shareOf l (s := s) (g := nI 2) hs hn (d1 hJ) (by rw [hJ.fr]; exact hv) M
    rw [hJ.fr] at hK
    refine ru_go hV 4 [] rfl rfl trivial ?_
    refine ru_V hV [.ref 0] sVX8_283 hK rfl rfl rfl rfl rfl (Nat.le_of_ble_eq_true rfl) ?_
    refine ru_S hV [.ref 0] sSX8_302 (qJd_bits l hnn2 J M) rfl rfl rfl (Nat.le_of_ble_eq_true rfl) ?_
    refine ru_V hV [] sVX8_292 (qX8_mix l _ J M) rfl rfl rfl rfl rfl (Nat.le_of_ble_eq_true rfl) ?_
    refine ru_fin hV 1 [] rfl rfl trivial ?_
    exact ⟨rfl, hJ, by rw [mu_self]; exact hM⟩
  have s10 : ∀ J (M : LM), RQ I J → F10 I n s (M 0 23) = H → V 212 [(0, .ref 0), (1, .int (nI s))] [] J M := by
    intro J M hJ hM
    have hK := qX8_densityOf l (s := s) hs hn (d1 hJ) (by rw [hJ.fr]; exact hb0) M
    rw [hJ.fr] at hK
    refine ru_go hV 3 [] rfl rfl trivial ?_
    refine ru_V hV [.ref 0] sVX8_279 hK rfl rfl rfl rfl rfl (Nat.le_of_ble_eq_true rfl) ?_
    refine ru_S hV [.ref 0] sSX8_296 (qJf_bits l hnn1 J M) rfl rfl rfl (Nat.le_of_ble_eq_true rfl) ?_
    refine ru_go hV 1 [] rfl rfl trivial ?_
    refine ru_V hV [] sVX8_292 (qX8_mix l _ J M) rfl rfl rfl rfl rfl (Nat.le_of_ble_eq_true rfl) ?_
    exact s11 J _ hJ (by rw [mu_self]; exact hM)
  have s9 : ∀ J (M : LM), RQ I J → F9 I n s (M 0 23) = H → V 201 [(0, .ref 0), (1, .int (nI s))] [] J M := by
    intro J M hJ hM
    obtain ⟨M2, h0, hK⟩ := qX8_compareOf l (a := s) (b := 1) hs (by decide) hn (d1 hJ) M
    rw [hJ.fr, hJ.fr] at hK
    refine ru_go hV 4 [] rfl rfl trivial ?_
    refine ru_V hV [.ref 0] sVX8_273 hK rfl rfl rfl rfl rfl (Nat.le_of_ble_eq_true rfl) ?_
    refine ru_go hV 1 [] rfl rfl trivial ?_
    refine ru_V hV [] sVX8_292 (qX8_mix l _ J M2) rfl rfl rfl rfl rfl (Nat.le_of_ble_eq_true rfl) ?_
    exact s10 J _ hJ (by rw [mu_self, h0]; exact hM)
  have s8 : ∀ J (M : LM), RQ I J → F8 I n s (M 0 23) = H → V 191 [(0, .ref 0), (1, .int (nI s))] [] J M := by
    intro J M hJ hM
    have hK := qX8_innerOf l (a := s) (b := 0) hs (by decide) hn (d1 hJ) M
    rw [hJ.fr, hJ.fr, hJ.sg] at hK
    refine ru_go hV 4 [] rfl rfl trivial ?_
    refine ru_V hV [.ref 0] sVX8_206 hK rfl rfl rfl rfl rfl (Nat.le_of_ble_eq_true rfl) ?_
    refine ru_V hV [] sVX8_292 (qX8_mix l _ J M) rfl rfl rfl rfl rfl (Nat.le_of_ble_eq_true rfl) ?_
    exact s9 J _ hJ (by rw [mu_self]; exact hM)
  have s7 : ∀ J (M : LM), RQ I J → F7 I n s (M 0 23) = H → V 135 [(0, .ref 0), (1, .int (nI s))] [] J M := by
    intro J M hJ hM
    obtain ⟨M2, h0, hK⟩ := qX8_factors l hs hn (d1 hJ) (by rw [hJ.fr]; exact hm) M
    rw [hJ.fr] at hK
    obtain ⟨g, hg5, hg⟩ := ctR_nat (f := frR I s) (n := n) hn
    have hgn : ctN (frR I s) n = g := by rw [ctN, hg]; exact nI_clamp (by omega)
    rw [hg] at hK
    unfold F7 hR7 at hM
    rw [hgn, ← h0] at hM
    have hgn25 : g * n ≤ 25 := Nat.le_trans (Nat.mul_le_mul hg5 hn) (by decide)
    refine ru_go hV 2 [] rfl rfl trivial ?_
    refine ru_V hV [] sVX8_261 hK rfl rfl rfl rfl rfl (Nat.le_of_ble_eq_true rfl) ?_
    refine ru_go hV 3 [] rfl rfl trivial ?_
    refine loop0 (P := fun k => ∀ M3 : LM, M3 0 23 = hl (fun k => (faR (frR I s) n (k / n) (k % n)).toInt64) k (M2 0 23) → V 144 [(0, .ref 0), (1, .int (nI s)), (3, .int (nI g)), (4, .int (nI k))] [] J M3) (g * n) (fun h => h M2 rfl) (fun k hk ih M3 hM3 => ?_) (fun M3 hM3 => ?_)
    · obtain ⟨e1, e2⟩ := dmn n (by omega) (by omega) k (by omega)
      have hkg : k / n < g := (Nat.div_lt_iff_lt_mul (by omega)).mpr hk
      have hkn : k % n < n := Nat.mod_lt k (by omega)
      obtain ⟨q, hq1, hq2⟩ := hld g hg5 hg (Nat.lt_of_le_of_lt (Nat.zero_le _) hkg)
      have hf := qX8_factorOf l (p := k / n) (dir := k % n) (q := q) hs (by omega) hn (d1 hJ) (by rw [hJ.fr]; exact hm) (by rw [hJ.fr]; exact hq1) (by omega) M3
      rw [hJ.fr] at hf
      have hfa : faR (frR I s) n (k / n) (k % n) = faF (frR I s) q (k % n) 5 0 (k / n) := by unfold faR; rw [hq1]
      refine ru_go hV 23 [(1, 0), (0, 296), (0, 0), (1, 0), (0, 296), (1, 0), (0, 296)] rfl rfl ⟨⟨⟨⟨⟨⟨⟨⟨⟨trivial, (by first | exact rfl | assumption | exact ⟨rfl, rfl⟩ | exact ⟨rfl, rfl, by omega⟩ | exact ⟨by assumption, rfl, by omega⟩ | exact ⟨⟨_, rfl, rfl⟩, by decide, by decide, rfl, by omega⟩ | omega | decide)⟩, (by first | exact rfl | assumption | exact ⟨rfl, rfl⟩ | exact ⟨rfl, rfl, by omega⟩ | exact ⟨by assumption, rfl, by omega⟩ | exact ⟨⟨_, rfl, rfl⟩, by decide, by decide, rfl, by omega⟩ | omega | decide)⟩, (by rw [d1 hJ, nI_mul]; exact nI_nge hk (by omega))⟩, (by first | exact rfl | assumption | exact ⟨rfl, rfl⟩ | exact ⟨rfl, rfl, by omega⟩ | exact ⟨by assumption, rfl, by omega⟩ | exact ⟨⟨_, rfl, rfl⟩, by decide, by decide, rfl, by omega⟩ | omega | decide)⟩, (by first | exact rfl | assumption | exact ⟨rfl, rfl⟩ | exact ⟨rfl, rfl, by omega⟩ | exact ⟨by assumption, rfl, by omega⟩ | exact ⟨⟨_, rfl, rfl⟩, by decide, by decide, rfl, by omega⟩ | omega | decide)⟩, (by rw [d1 hJ]; exact nI_ne0 (by omega) (by omega))⟩, (by first | exact rfl | assumption | exact ⟨rfl, rfl⟩ | exact ⟨rfl, rfl, by omega⟩ | exact ⟨by assumption, rfl, by omega⟩ | exact ⟨⟨_, rfl, rfl⟩, by decide, by decide, rfl, by omega⟩ | omega | decide)⟩, (by first | exact rfl | assumption | exact ⟨rfl, rfl⟩ | exact ⟨rfl, rfl, by omega⟩ | exact ⟨by assumption, rfl, by omega⟩ | exact ⟨⟨_, rfl, rfl⟩, by decide, by decide, rfl, by omega⟩ | omega | decide)⟩, (by rw [d1 hJ]; exact nI_ne0 (by omega) (by omega))⟩ ?_
      rw [d1 hJ, e2, e1]
      refine ru_V hV [.ref 0] sVX8_264 hf rfl rfl rfl rfl rfl (Nat.le_of_ble_eq_true rfl) ?_
      refine ru_go hV 1 [] rfl rfl trivial ?_
      refine ru_V hV [] sVX8_292 (qX8_mix l _ J M3) rfl rfl rfl rfl rfl (Nat.le_of_ble_eq_true rfl) ?_
      refine ru_go hV 2 [] rfl rfl trivial ?_
      rw [nI_1]
      exact ih _ (by rw [mu_self, hM3, hl, hfa])
    · refine ru_go hV 8 [(1, 0), (0, 296), (1, 0)] rfl rfl ⟨⟨⟨trivial, (by first | exact rfl | assumption | exact ⟨rfl, rfl⟩ | exact ⟨rfl, rfl, by omega⟩ | exact ⟨by assumption, rfl, by omega⟩ | exact ⟨⟨_, rfl, rfl⟩, by decide, by decide, rfl, by omega⟩ | omega | decide)⟩, (by first | exact rfl | assumption | exact ⟨rfl, rfl⟩ | exact ⟨rfl, rfl, by omega⟩ | exact ⟨by assumption, rfl, by omega⟩ | exact ⟨⟨_, rfl, rfl⟩, by decide, by decide, rfl, by omega⟩ | omega | decide)⟩, (by rw [d1 hJ, nI_mul]; exact nI_le (Nat.le_refl _) (by omega))⟩ ?_
      refine ru_sub hV [0, 1] rfl (s8 J M3 hJ (by rw [hM3]; exact hM))
  have s6 : ∀ J (M : LM) lv, (∀ q ∈ [((0 : Nat), Value.ref 0), (1, Value.int (nI s))], q ∈ lv) → RQ I J → F7 I n s (M 0 23) = H → V 135 lv [] J M := fun J M lv hlv hJ hM => hV.2.2.2.1 135 lv _ [] J M hlv (s7 J M hJ hM)
  have s5 : ∀ J (M : LM), RQ I J → F5 I n s (M 0 23) = H → V 74 [(0, .ref 0), (1, .int (nI s))] [] J M := by
    intro J M hJ hM
    obtain ⟨J2, M2, ⟨⟨hJ2, hG⟩, h0⟩, hK⟩ := qX8_annihilatorOf l hs hn (by omega) (d1 hJ) M
    rw [hJ.fr] at hK hG
    have hJ3 := hJ.tr hJ2
    unfold F5 F6 hR6 at hM
    rw [← h0] at hM
    refine ru_go hV 2 [] rfl rfl trivial ?_
    refine ru_V hV [] sVX8_255 hK rfl rfl rfl rfl rfl (Nat.le_of_ble_eq_true rfl) ?_
    refine ru_go hV 4 [] rfl rfl trivial ?_
    refine ru_V hV [] sVX8_292 (qX8_mix l _ J2 M2) rfl rfl rfl rfl rfl (Nat.le_of_ble_eq_true rfl) ?_
    have hmu : (mu M2 0 23 (31 * M2 0 23 + (anR (frR I s) n).toInt64)) 0 23 = 31 * M2 0 23 + (anR (frR I s) n).toInt64 := mu_self _ _ _ _
    rw [← hmu] at hM
    unfold anN2 at hM
    by_cases hg : gmF (frR I s) (2 ^ n) ≤ 60
    · have hG2 := (hG hg).h (31 * M2 0 23 + (anR (frR I s) n).toInt64)
      have han : anR (frR I s) n = nI (n - (slG (frR I s) n n).2.1) := by unfold anR; rw [if_pos hg]
      rw [if_pos hg] at hM
      generalize mu M2 0 23 (31 * M2 0 23 + (anR (frR I s) n).toInt64) = M at hG2 hM ⊢
      rw [han]
      have hpv := (sl_ok (f := frR I s) (n := n) n).1
      have hp0 := (sl_ok (f := frR I s) (n := n) n).2
      have hpo := slG_po (f := frR I s) hn
      have hr := hr hg
      generalize slG (frR I s) n n = G at hG2 hM hpv hp0 hpo hr ⊢
      have hN : n - G.2.1 ≤ 5 := by omega
      generalize n - G.2.1 = N at hM hN ⊢
      have hN25 : N * n ≤ 25 := Nat.le_trans (Nat.mul_le_mul hN hn) (by decide)
      by_cases hN0 : N = 0
      · subst hN0
        rw [Nat.zero_mul] at hM
        refine ru_go hV 4 [(1, 0)] rfl rfl ⟨trivial, (by decide)⟩ ?_
        exact s6 J2 M _ (fun q hq => by simp at hq; rcases hq with rfl | rfl <;> simp) hJ3 hM
      · refine ru_go hV 2 [] rfl rfl trivial ?_
        refine loop0 (P := fun k => ∀ M3 : LM, GR n n J2 M3 G → M3 0 23 = hl (fun k => (baG G n (k / n) (k % n)).toInt64) k (M 0 23) → V 88 [(0, .ref 0), (1, .int (nI s)), (2, .int (nI N)), (3, .int (nI k))] [] J2 M3) (N * n) (fun h => h M hG2 rfl) (fun k hk ih M3 hG3 hM3 => ?_) (fun M3 hG3 hM3 => ?_)
        · obtain ⟨e1, e2⟩ := dmn n (by omega) (by omega) k (by omega)
          have hkn : k % n < n := Nat.mod_lt k (by omega)
          have hkp : k / n < 2 ^ 30 := Nat.lt_of_le_of_lt (Nat.div_le_self k n) (by omega)
          have hb := qX8_basisOf l (p := k / n) (d := k % n) hn hkp hkn (d1 hJ3) hG3 hpo hp0 hr
          refine ru_go hV 24 [(0, 0), (1, 0), (0, 296), (0, 0), (1, 0), (0, 296), (1, 0), (0, 296)] rfl rfl ⟨⟨⟨⟨⟨⟨⟨⟨⟨⟨trivial, nI_nle0 (by omega) (by omega)⟩, (by first | exact rfl | assumption | exact ⟨rfl, rfl⟩ | exact ⟨rfl, rfl, by omega⟩ | exact ⟨by assumption, rfl, by omega⟩ | exact ⟨⟨_, rfl, rfl⟩, by decide, by decide, rfl, by omega⟩ | omega | decide)⟩, (by first | exact rfl | assumption | exact ⟨rfl, rfl⟩ | exact ⟨rfl, rfl, by omega⟩ | exact ⟨by assumption, rfl, by omega⟩ | exact ⟨⟨_, rfl, rfl⟩, by decide, by decide, rfl, by omega⟩ | omega | decide)⟩, (by rw [d1 hJ3, nI_mul]; exact nI_nge hk (by omega))⟩, (by first | exact rfl | assumption | exact ⟨rfl, rfl⟩ | exact ⟨rfl, rfl, by omega⟩ | exact ⟨by assumption, rfl, by omega⟩ | exact ⟨⟨_, rfl, rfl⟩, by decide, by decide, rfl, by omega⟩ | omega | decide)⟩, (by first | exact rfl | assumption | exact ⟨rfl, rfl⟩ | exact ⟨rfl, rfl, by omega⟩ | exact ⟨by assumption, rfl, by omega⟩ | exact ⟨⟨_, rfl, rfl⟩, by decide, by decide, rfl, by omega⟩ | omega | decide)⟩, (by rw [d1 hJ3]; exact nI_ne0 (by omega) (by omega))⟩, (by first | exact rfl | assumption | exact ⟨rfl, rfl⟩ | exact ⟨rfl, rfl, by omega⟩ | exact ⟨by assumption, rfl, by omega⟩ | exact ⟨⟨_, rfl, rfl⟩, by decide, by decide, rfl, by omega⟩ | omega | decide)⟩, (by first | exact rfl | assumption | exact ⟨rfl, rfl⟩ | exact ⟨rfl, rfl, by omega⟩ | exact ⟨by assumption, rfl, by omega⟩ | exact ⟨⟨_, rfl, rfl⟩, by decide, by decide, rfl, by omega⟩ | omega | decide)⟩, (by rw [d1 hJ3]; exact nI_ne0 (by omega) (by omega))⟩ ?_
          rw [d1 hJ3, e2, e1]
          refine ru_V hV [.ref 0] sVX8_267 hb rfl rfl rfl rfl rfl (Nat.le_of_ble_eq_true rfl) ?_
          refine ru_go hV 1 [] rfl rfl trivial ?_
          refine ru_V hV [] sVX8_292 (qX8_mix l _ J2 M3) rfl rfl rfl rfl rfl (Nat.le_of_ble_eq_true rfl) ?_
          refine ru_go hV 2 [] rfl rfl trivial ?_
          rw [nI_1]
          exact ih _ (hG3.h _) (by rw [mu_self, hM3, hl])
        · refine ru_go hV 10 [(0, 0), (1, 0), (0, 296), (1, 0)] rfl rfl ⟨⟨⟨⟨trivial, nI_nle0 (by omega) (by omega)⟩, (by first | exact rfl | assumption | exact ⟨rfl, rfl⟩ | exact ⟨rfl, rfl, by omega⟩ | exact ⟨by assumption, rfl, by omega⟩ | exact ⟨⟨_, rfl, rfl⟩, by decide, by decide, rfl, by omega⟩ | omega | decide)⟩, (by first | exact rfl | assumption | exact ⟨rfl, rfl⟩ | exact ⟨rfl, rfl, by omega⟩ | exact ⟨by assumption, rfl, by omega⟩ | exact ⟨⟨_, rfl, rfl⟩, by decide, by decide, rfl, by omega⟩ | omega | decide)⟩, (by rw [d1 hJ3, nI_mul]; exact nI_le (Nat.le_refl _) (by omega))⟩ ?_
          exact s6 J2 M3 _ (fun q hq => by simp at hq; rcases hq with rfl | rfl <;> simp) hJ3 (by rw [hM3]; exact hM)
    · have han : anR (frR I s) n = NON := by unfold anR; rw [if_neg hg]
      rw [if_neg hg, Nat.zero_mul] at hM
      generalize mu M2 0 23 (31 * M2 0 23 + (anR (frR I s) n).toInt64) = M at hM ⊢
      rw [han]
      refine ru_go hV 4 [(1, 0)] rfl rfl ⟨trivial, (by decide)⟩ ?_
      exact s6 J2 M _ (fun q hq => by simp at hq; rcases hq with rfl | rfl <;> simp) hJ3 hM
  have s4 : ∀ J (M : LM), RQ I J → F4 I n s (M 0 23) = H → V 63 [(0, .ref 0), (1, .int (nI s))] [] J M := by
    intro J M hJ hM
    obtain ⟨J2, M2, ⟨hJ2, h0⟩, hK⟩ := qX8_decomposableOf l (w := 1) hs (by decide) hn (by omega) (d1 hJ) (by rw [hJ.fr]; exact hm) M
    rw [hJ.fr, if_neg (by decide)] at hK
    refine ru_go hV 4 [] rfl rfl trivial ?_
    refine ru_V hV [.ref 0] sVX8_258 hK rfl rfl rfl rfl rfl (Nat.le_of_ble_eq_true rfl) ?_
    refine ru_go hV 1 [] rfl rfl trivial ?_
    refine ru_V hV [] sVX8_292 (qX8_mix l _ J2 M2) rfl rfl rfl rfl rfl (Nat.le_of_ble_eq_true rfl) ?_
    exact s5 J2 _ (hJ.tr hJ2) (by rw [mu_self, h0]; exact hM)
  have s3 : ∀ J (M : LM), RQ I J → F3 I n s (M 0 23) = H → V 52 [(0, .ref 0), (1, .int (nI s))] [] J M := by
    intro J M hJ hM
    obtain ⟨J2, M2, ⟨hJ2, h0⟩, hK⟩ := qX8_decomposableOf l (w := 0) hs (by decide) hn (by omega) (d1 hJ) (by rw [hJ.fr]; exact hm) M
    rw [hJ.fr, if_pos rfl] at hK
    refine ru_go hV 4 [] rfl rfl trivial ?_
    refine ru_V hV [.ref 0] sVX8_258 hK rfl rfl rfl rfl rfl (Nat.le_of_ble_eq_true rfl) ?_
    refine ru_go hV 1 [] rfl rfl trivial ?_
    refine ru_V hV [] sVX8_292 (qX8_mix l _ J2 M2) rfl rfl rfl rfl rfl (Nat.le_of_ble_eq_true rfl) ?_
    exact s4 J2 _ (hJ.tr hJ2) (by rw [mu_self, h0]; exact hM)
  have s2 : ∀ (M : LM), F2 I n s (M 0 23) = H → V 27 [(0, .ref 0), (1, .int (nI s))] [] I M := by
    intro M hM
    unfold F2 hR2 at hM
    refine ru_go hV 2 [] rfl rfl trivial ?_
    refine loop0 (P := fun k => ∀ M3 : LM, M3 0 23 = hl (fun k => (prF (frR I s) (2 ^ n) k).toInt64) k (M 0 23) → V 29 [(0, .ref 0), (1, .int (nI s)), (2, .int (nI k))] [] I M3) 8 (fun h => h M rfl) (fun k hk ih M3 hM3 => ?_) (fun M3 hM3 => ?_)
    · refine ru_go hV 7 [(0, 0)] rfl rfl ⟨trivial, nI8_ge hk⟩ ?_
      refine ru_V hV [.ref 0] sVX8_203 (qX8_formOf l hs hk hn hd M3) rfl rfl rfl rfl rfl (Nat.le_of_ble_eq_true rfl) ?_
      refine ru_go hV 1 [] rfl rfl trivial ?_
      refine ru_V hV [] sVX8_292 (qX8_mix l _ I M3) rfl rfl rfl rfl rfl (Nat.le_of_ble_eq_true rfl) ?_
      refine ru_go hV 2 [] rfl rfl trivial ?_
      rw [nI_1]
      exact ih _ (by rw [mu_self, hM3, hl])
    · refine ru_go hV 3 [(1, 0)] rfl rfl ⟨trivial, (by first | exact rfl | assumption | exact ⟨rfl, rfl⟩ | exact ⟨rfl, rfl, by omega⟩ | exact ⟨by assumption, rfl, by omega⟩ | exact ⟨⟨_, rfl, rfl⟩, by decide, by decide, rfl, by omega⟩ | omega | decide)⟩ ?_
      exact ru_sub hV [0, 1] rfl (s3 I M3 (RQ.rf I) (by rw [hM3]; exact hM))
  unfold hsR hR1 at hH
  have hbl : ∀ M : LM, KX8_blades l [.ref 0] I M (some (.int (nI (2 ^ n)))) I M := fun M => qX8_blades l hn hd M
  generalize hB2 : 2 ^ n = B at hB hbl hH
  refine ru_go hV 2 [] rfl rfl trivial ?_
  refine loop0 (P := fun k => ∀ M3 : LM, M3 0 23 = hl (fun k => (frR I s k).toInt64) k (L 0 23) → V 2 [(0, .ref 0), (1, .int (nI s)), (2, .int (nI k))] [] I M3) B (fun h => h L rfl) (fun k hk ih M3 hM3 => ?_) (fun M3 hM3 => ?_)
  · refine ru_go hV 2 [] rfl rfl trivial ?_
    refine ru_V hV [.int (nI k)] sVX8_58 (hbl M3) rfl rfl rfl rfl rfl (Nat.le_of_ble_eq_true rfl) ?_
    refine ru_go hV 5 [(0, 0)] rfl rfl ⟨trivial, nI_nge hk (by omega)⟩ ?_
    refine ru_V hV [.ref 0] sVX8_88 (qX8_at l hs (k := k) (by omega) I M3) rfl rfl rfl rfl rfl (Nat.le_of_ble_eq_true rfl) ?_
    refine ru_go hV 1 [] rfl rfl trivial ?_
    refine ru_V hV [] sVX8_292 (qX8_mix l _ I M3) rfl rfl rfl rfl rfl (Nat.le_of_ble_eq_true rfl) ?_
    refine ru_go hV 2 [] rfl rfl trivial ?_
    rw [nI_1]
    exact ih _ (by rw [mu_self, hM3, hl])
  · refine ru_go hV 2 [] rfl rfl trivial ?_
    refine ru_V hV [.int (nI B)] sVX8_58 (hbl M3) rfl rfl rfl rfl rfl (Nat.le_of_ble_eq_true rfl) ?_
    refine ru_go hV 1 [(1, 0)] rfl rfl ⟨trivial, nI_le (Nat.le_refl B) (by omega)⟩ ?_
    exact ru_sub hV [0, 1] rfl (s2 M3 (by rw [hM3]; exact hH))
def cqR (I : IM) (n : Nat) : Nat → Int64 → Int64
  | 0, h => h
  | k + 1, h => if k < 15 ∨ 19 < k then 31 * cqR I n k h + (cnR I n k).toInt64 else cqR I n k h
theorem cqR_hl {I : IM} {n : Nat} {h : Int64} : cqR I n 25 h = hl (fun k => (cnR I n (20 + k)).toInt64) 5 (hl (fun k => (cnR I n k).toInt64) 15 h) := rfl
def hsRA (I : IM) (n : Nat) : Nat → Int64 → Int64
  | 0, h => h
  | s + 1, h => hsR I n s (hsRA I n s h)
def dgR (I : IM) (n q : Nat) : Int64 := hl (fun i => (I 5 i).toInt64) q (31 * hl (fun w => (fsI (ftO (rfR I n (1 + w) 0 1) (2 ^ n))).toInt64) 3 (hsRA I n 8 (hm (fun r c => (mxR I r c).toInt64) n n (cqR I n 25 2423))) + (nI q).toInt64)
theorem RV.cn {I J : IM} (h : RV I J) {n k : Nat} : cnR J n k = cnR I n k := by
  unfold cnR
  rw [h.mx, h.sg, h.n, h.1 4 (by decide) (by decide), h.2 2 (by decide) (by decide), fmR_cong h.n 8]
theorem RV.hs {I J : IM} (h : RV I J) {n s : Nat} {x : Int64} : hsR J n s x = hsR I n s x := by
  unfold hsR F2 F3 F4 F5 F6 F7 F8 F9 F10 F11 hR1 hR2 hR6 hR7
  rw [h.fr, h.fr, h.fr, h.sg]
theorem RV.rf2 {I J : IM} (h : RV I J) {n w a b : Nat} : rfR J n w a b = rfR I n w a b := by
  unfold rfR
  rw [h.fr, h.fr, h.sg, h.mx]
theorem qX8_digest (l : Launch) {n q : Nat} (hn : n ≤ 5) (hn2 : 2 ≤ n) (hq : q ≤ 60) {I : IM} (hd : I 1 0 = nI n) (h6 : I 0 6 = nI q) (hok : ∀ s, s < 8 → dgOK (frR I s) n) (L : LM) : ∃ I2 L2, RQ (mu I 0 7 0) I2 ∧ KX8_digest l [.ref 0] I L (some (.long (dgR I n q))) I2 L2 := by
  have hrq0 := RQ7 I 0
  refine ru_pos1 (r := some (.long (dgR I n q))) (Q := fun J _ => RQ (mu I 0 7 0) J) (fun V hV => ?_) (fun I2 L2 h => wX8_digest l rfl (hz0 (by decide)) h)
  show V 0 [(0, .ref 0)] [] I L
  have hnn : ∀ {J}, RQ (mu I 0 7 0) J → RV I J := fun hJ => hrq0.tr hJ.v
  have d1 : ∀ {J}, RQ (mu I 0 7 0) J → J 1 0 = nI n := fun hJ => by rw [(hnn hJ).n]; exact hd
  unfold dgR at hV
  have s5 : ∀ J (M : LM), RQ (mu I 0 7 0) J → M 0 23 = 31 * hl (fun w => (fsI (ftO (rfR I n (1 + w) 0 1) (2 ^ n))).toInt64) 3 (hsRA I n 8 (hm (fun r c => (mxR I r c).toInt64) n n (cqR I n 25 2423))) + (nI q).toInt64 → V 155 [(0, .ref 0)] [] J M := by
    intro J M hJ hM
    have j6 : J 0 6 = nI q := by rw [(hnn hJ).2 6 (by decide) (by decide)]; exact h6
    have j5 : ∀ i, J 5 i = I 5 i := fun i => by rw [(hnn hJ).1 5 (by decide) (by decide)]
    rw [← hM] at hV
    refine ru_go hV 2 [] rfl rfl trivial ?_
    refine loop0 (P := fun k => ∀ M3 : LM, M3 0 23 = hl (fun i => (I 5 i).toInt64) k (M 0 23) → V 157 [(0, .ref 0), (1, .int (nI k))] [] J M3) q (fun h => h M rfl) (fun k hk ih M3 hM3 => ?_) (fun M3 hM3 => ?_)
    · refine ru_go hV 10 [(0, 0), (5, 0), (k, 60)] rfl rfl ⟨⟨⟨⟨trivial, (by first | exact rfl | assumption | exact ⟨rfl, rfl⟩ | exact ⟨rfl, rfl, by omega⟩ | exact ⟨by assumption, rfl, by omega⟩ | exact ⟨⟨_, rfl, rfl⟩, by decide, by decide, rfl, by omega⟩ | omega | decide)⟩, (by rw [j6]; exact nI_nge hk (by omega))⟩, (by first | exact rfl | assumption | exact ⟨rfl, rfl⟩ | exact ⟨rfl, rfl, by omega⟩ | exact ⟨by assumption, rfl, by omega⟩ | exact ⟨⟨_, rfl, rfl⟩, by decide, by decide, rfl, by omega⟩ | omega | decide)⟩, (by first | exact rfl | assumption | exact ⟨rfl, rfl⟩ | exact ⟨rfl, rfl, by omega⟩ | exact ⟨by assumption, rfl, by omega⟩ | exact ⟨⟨_, rfl, rfl⟩, by decide, by decide, rfl, by omega⟩ | omega | decide)⟩ ?_
      refine ru_V hV [] sVX8_292 (qX8_mix l _ J M3) rfl rfl rfl rfl rfl (Nat.le_of_ble_eq_true rfl) ?_
      refine ru_go hV 2 [] rfl rfl trivial ?_
      rw [nI_1]
      exact ih _ (by rw [mu_self, hM3, hl, j5])
    · refine ru_fin hV 7 [(1, 0)] rfl rfl ⟨⟨⟨trivial, (by first | exact rfl | assumption | exact ⟨rfl, rfl⟩ | exact ⟨rfl, rfl, by omega⟩ | exact ⟨by assumption, rfl, by omega⟩ | exact ⟨⟨_, rfl, rfl⟩, by decide, by decide, rfl, by omega⟩ | omega | decide)⟩, (by rw [j6]; exact nI_le (Nat.le_refl q) (by omega))⟩, (by first | exact rfl | assumption | exact ⟨rfl, rfl⟩ | exact ⟨rfl, rfl, by omega⟩ | exact ⟨by assumption, rfl, by omega⟩ | exact ⟨⟨_, rfl, rfl⟩, by decide, by decide, rfl, by omega⟩ | omega | decide)⟩ ?_
      exact ⟨by rw [hM3]; rfl, hJ⟩
  have s4 : ∀ J (M : LM), RQ (mu I 0 7 0) J → M 0 23 = hsRA I n 8 (hm (fun r c => (mxR I r c).toInt64) n n (cqR I n 25 2423)) → V 121 [(0, .ref 0)] [] J M := by
    intro J M hJ hM
    have j6 : J 0 6 = nI q := by rw [(hnn hJ).2 6 (by decide) (by decide)]; exact h6
    rw [← hM] at s5
    refine ru_go hV 2 [] rfl rfl trivial ?_
    refine loop0 (P := fun w => ∀ M3 : LM, M3 0 23 = hl (fun w => (fsI (ftO (rfR I n (1 + w) 0 1) (2 ^ n))).toInt64) w (M 0 23) → V 123 [(0, .ref 0), (1, .int (nI (1 + w)))] [] J M3) 3 (fun h => h M rfl) (fun w hw ih M3 hM3 => ?_) (fun M3 hM3 => ?_)
    · obtain ⟨M4, h0, hK⟩ := qX8_refusedOf l (w := 1 + w) (a := 0) (b := 1) (by omega) (by decide) (by decide) hn (d1 hJ) M3
      rw [(hnn hJ).rf2] at hK
      refine ru_go hV 8 [(0, 0)] rfl rfl ⟨trivial, nI_ge (b := 4) (by omega) (by decide)⟩ ?_
      refine ru_V hV [.ref 0] sVX8_270 hK rfl rfl rfl rfl rfl (Nat.le_of_ble_eq_true rfl) ?_
      refine ru_go hV 1 [] rfl rfl trivial ?_
      refine ru_V hV [] sVX8_292 (qX8_mix l _ J M4) rfl rfl rfl rfl rfl (Nat.le_of_ble_eq_true rfl) ?_
      refine ru_go hV 2 [] rfl rfl trivial ?_
      rw [nI_1]
      exact ih _ (by rw [mu_self, h0, hM3, hl])
    · refine ru_go hV 7 [(1, 0)] rfl rfl ⟨⟨trivial, (by first | exact rfl | assumption | exact ⟨rfl, rfl⟩ | exact ⟨rfl, rfl, by omega⟩ | exact ⟨by assumption, rfl, by omega⟩ | exact ⟨⟨_, rfl, rfl⟩, by decide, by decide, rfl, by omega⟩ | omega | decide)⟩, (by first | exact rfl | assumption | exact ⟨rfl, rfl⟩ | exact ⟨rfl, rfl, by omega⟩ | exact ⟨by assumption, rfl, by omega⟩ | exact ⟨⟨_, rfl, rfl⟩, by decide, by decide, rfl, by omega⟩ | omega | decide)⟩ ?_
      rw [j6]
      refine ru_V hV [] sVX8_292 (qX8_mix l _ J M3) rfl rfl rfl rfl rfl (Nat.le_of_ble_eq_true rfl) ?_
      exact ru_sub hV [0] rfl (s5 J _ hJ (by rw [mu_self, hM3]))
  have s3 : ∀ (M : LM), M 0 23 = hm (fun r c => (mxR I r c).toInt64) n n (cqR I n 25 2423) → V 102 [(0, .ref 0)] [] (mu I 0 7 0) M := by
    intro M hM
    rw [← hM] at s4
    refine ru_go hV 2 [] rfl rfl trivial ?_
    refine loop0 (P := fun s => ∀ J (M3 : LM), RQ (mu I 0 7 0) J → M3 0 23 = hsRA I n s (M 0 23) → V 104 [(0, .ref 0), (1, .int (nI s))] [] J M3) 8 (fun h => h _ M (RQ.rf _) rfl) (fun s hs ih J M3 hJ hM3 => ?_) (fun J M3 hJ hM3 => ?_)
    · obtain ⟨J2, M4, ⟨hJ2, h0⟩, hK⟩ := qX8_mixSlot l hs hn hn2 (d1 hJ) (by rw [(hnn hJ).fr]; exact hok s hs) M3
      refine ru_go hV 5 [(0, 0)] rfl rfl ⟨trivial, nI8_ge hs⟩ ?_
      refine ru_V hV [] sVX8_310 hK rfl rfl rfl rfl rfl (Nat.le_of_ble_eq_true rfl) ?_
      refine ru_go hV 2 [] rfl rfl trivial ?_
      rw [nI_1]
      exact ih _ _ (hJ.tr hJ2) (by rw [h0, hM3, (hnn hJ).hs, hsRA])
    · refine ru_go hV 3 [(1, 0)] rfl rfl ⟨trivial, (by first | exact rfl | assumption | exact ⟨rfl, rfl⟩ | exact ⟨rfl, rfl, by omega⟩ | exact ⟨by assumption, rfl, by omega⟩ | exact ⟨⟨_, rfl, rfl⟩, by decide, by decide, rfl, by omega⟩ | omega | decide)⟩ ?_
      exact ru_sub hV [0] rfl (s4 J _ hJ hM3)
  have hd' : mu I 0 7 0 1 0 = nI n := d1 (RQ.rf _)
  have s2 : ∀ (M : LM), M 0 23 = cqR I n 25 2423 → V 48 [(0, .ref 0)] [] (mu I 0 7 0) M := by
    intro M hM
    rw [← hM] at s3
    refine ru_go hV 2 [] rfl rfl trivial ?_
    refine loop0 (P := fun r => ∀ (M3 : LM), M3 0 23 = hm (fun r c => (mxR I r c).toInt64) n r (M 0 23) → V 50 [(0, .ref 0), (1, .int (nI r))] [] (mu I 0 7 0) M3) n (fun h => h M rfl) (fun r hr ih M3 hM3 => ?_) (fun M3 hM3 => ?_)
    · refine ru_go hV 8 [(1, 0), (0, 296), (0, 0)] rfl rfl ⟨⟨⟨trivial, (by first | exact rfl | assumption | exact ⟨rfl, rfl⟩ | exact ⟨rfl, rfl, by omega⟩ | exact ⟨by assumption, rfl, by omega⟩ | exact ⟨⟨_, rfl, rfl⟩, by decide, by decide, rfl, by omega⟩ | omega | decide)⟩, (by first | exact rfl | assumption | exact ⟨rfl, rfl⟩ | exact ⟨rfl, rfl, by omega⟩ | exact ⟨by assumption, rfl, by omega⟩ | exact ⟨⟨_, rfl, rfl⟩, by decide, by decide, rfl, by omega⟩ | omega | decide)⟩, (by rw [hd']; exact nI_nge hr (by omega))⟩ ?_
      refine loop0 (P := fun c => ∀ (M4 : LM), M4 0 23 = hl (fun c => (mxR I r c).toInt64) c (M3 0 23) → V 62 [(0, .ref 0), (1, .int (nI r)), (2, .int (nI c))] [] (mu I 0 7 0) M4) n (fun h => h M3 rfl) (fun c hc ih2 M4 hM4 => ?_) (fun M4 hM4 => ?_)
      · refine ru_go hV 18 [(1, 0), (0, 296), (0, 0), (1, 0), ((6+5*r+c), 296)] rfl rfl ⟨⟨⟨⟨⟨trivial, (by first | exact rfl | assumption | exact ⟨rfl, rfl⟩ | exact ⟨rfl, rfl, by omega⟩ | exact ⟨by assumption, rfl, by omega⟩ | exact ⟨⟨_, rfl, rfl⟩, by decide, by decide, rfl, by omega⟩ | omega | decide)⟩, (by first | exact rfl | assumption | exact ⟨rfl, rfl⟩ | exact ⟨rfl, rfl, by omega⟩ | exact ⟨by assumption, rfl, by omega⟩ | exact ⟨⟨_, rfl, rfl⟩, by decide, by decide, rfl, by omega⟩ | omega | decide)⟩, (by rw [hd']; exact nI_nge hc (by omega))⟩, (by first | exact rfl | assumption | exact ⟨rfl, rfl⟩ | exact ⟨rfl, rfl, by omega⟩ | exact ⟨by assumption, rfl, by omega⟩ | exact ⟨⟨_, rfl, rfl⟩, by decide, by decide, rfl, by omega⟩ | omega | decide)⟩, ⟨rfl, ix_mx r c, by omega⟩⟩ ?_
        refine ru_V hV [] sVX8_292 (qX8_mix l _ _ M4) rfl rfl rfl rfl rfl (Nat.le_of_ble_eq_true rfl) ?_
        refine ru_go hV 2 [] rfl rfl trivial ?_
        rw [nI_1]
        exact ih2 _ (by rw [mu_self, hM4, hl, mxR, t7n (by decide)])
      · refine ru_go hV 8 [(1, 0), (0, 296), (1, 0)] rfl rfl ⟨⟨⟨trivial, (by first | exact rfl | assumption | exact ⟨rfl, rfl⟩ | exact ⟨rfl, rfl, by omega⟩ | exact ⟨by assumption, rfl, by omega⟩ | exact ⟨⟨_, rfl, rfl⟩, by decide, by decide, rfl, by omega⟩ | omega | decide)⟩, (by first | exact rfl | assumption | exact ⟨rfl, rfl⟩ | exact ⟨rfl, rfl, by omega⟩ | exact ⟨by assumption, rfl, by omega⟩ | exact ⟨⟨_, rfl, rfl⟩, by decide, by decide, rfl, by omega⟩ | omega | decide)⟩, (by rw [hd']; exact nI_le (Nat.le_refl n) (by omega))⟩ ?_
        rw [nI_1]
        exact ru_sub hV [0, 1] rfl (ih _ (by rw [hM4, hM3, hm]))
    · refine ru_go hV 6 [(1, 0), (0, 296), (1, 0)] rfl rfl ⟨⟨⟨trivial, (by first | exact rfl | assumption | exact ⟨rfl, rfl⟩ | exact ⟨rfl, rfl, by omega⟩ | exact ⟨by assumption, rfl, by omega⟩ | exact ⟨⟨_, rfl, rfl⟩, by decide, by decide, rfl, by omega⟩ | omega | decide)⟩, (by first | exact rfl | assumption | exact ⟨rfl, rfl⟩ | exact ⟨rfl, rfl, by omega⟩ | exact ⟨by assumption, rfl, by omega⟩ | exact ⟨⟨_, rfl, rfl⟩, by decide, by decide, rfl, by omega⟩ | omega | decide)⟩, (by rw [hd']; exact nI_le (Nat.le_refl n) (by omega))⟩ ?_
      exact ru_sub hV [0] rfl (s3 M3 hM3)
  refine ru_go hV 8 [] rfl rfl ⟨⟨trivial, (by first | exact rfl | assumption | exact ⟨rfl, rfl⟩ | exact ⟨rfl, rfl, by omega⟩ | exact ⟨by assumption, rfl, by omega⟩ | exact ⟨⟨_, rfl, rfl⟩, by decide, by decide, rfl, by omega⟩ | omega | decide)⟩, (by first | exact rfl | assumption | exact ⟨rfl, rfl⟩ | exact ⟨rfl, rfl, by omega⟩ | exact ⟨by assumption, rfl, by omega⟩ | exact ⟨⟨_, rfl, rfl⟩, by decide, by decide, rfl, by omega⟩ | omega | decide)⟩ ?_
  refine loop0 (P := fun k => ∀ (M3 : LM), M3 0 23 = cqR I n k 2423 → V 14 [(0, .ref 0), (1, .int (nI k))] [] (mu I 0 7 0) M3) 25 (fun h => h _ (by rw [mu_self]; rfl)) (fun k hk ih M3 hM3 => ?_) (fun M3 hM3 => ?_)
  · by_cases h : k < 15 ∨ 19 < k
    · obtain ⟨M4, h0, hK⟩ := qX8_counted l (k := k) (n := n) (by unfold okC; omega) hn (by omega) hd' M3
      rw [cnR_t7] at hK
      have t : V 35 [(0, .ref 0), (1, .int (nI k))] [.int (nI k), .ref 0, .ref 0] (mu I 0 7 0) M3 := by
        refine ru_V hV [.ref 0] sVX8_276 hK rfl rfl rfl rfl rfl (Nat.le_of_ble_eq_true rfl) ?_
        refine ru_go hV 1 [] rfl rfl trivial ?_
        refine ru_V hV [] sVX8_292 (qX8_mix l _ _ M4) rfl rfl rfl rfl rfl (Nat.le_of_ble_eq_true rfl) ?_
        refine ru_go hV 2 [] rfl rfl trivial ?_
        rw [nI_1]
        exact ih _ (by rw [mu_self, h0, hM3, cqR, if_pos h])
      by_cases h2 : k < 15
      · refine ru_go hV 9 [(0, 0), (1, 0)] rfl rfl ⟨⟨trivial, nI_ge (b := 25) hk (by decide)⟩, nI_lt (b := 15) h2 (by decide)⟩ ?_
        exact t
      · refine ru_go hV 12 [(0, 0), (0, 0), (0, 0)] rfl rfl ⟨⟨⟨trivial, nI_ge (b := 25) hk (by decide)⟩, nI_nlt (b := 15) (by omega) (by omega)⟩, nI_ge (a := 19) (by omega) (by omega)⟩ ?_
        exact t
    · refine ru_go hV 11 [(0, 0), (0, 0), (1, 0)] rfl rfl ⟨⟨⟨trivial, nI_ge (b := 25) hk (by decide)⟩, nI_nlt (b := 15) (by omega) (by omega)⟩, nI_le (b := 19) (by omega) (by decide)⟩ ?_
      rw [nI_1]
      exact ih _ (by rw [hM3, cqR, if_neg h])
  · refine ru_go hV 3 [(1, 0)] rfl rfl ⟨trivial, (by first | exact rfl | assumption | exact ⟨rfl, rfl⟩ | exact ⟨rfl, rfl, by omega⟩ | exact ⟨by assumption, rfl, by omega⟩ | exact ⟨⟨_, rfl, rfl⟩, by decide, by decide, rfl, by omega⟩ | omega | decide)⟩ ?_
    exact ru_sub hV [0] rfl (s2 M3 hM3)
