/-! THE LAW'S form: what is told of a form -/
def ldM (F : Nat → Int64) : Nat → Nat
  | 0 => 0
  | m + 1 => if F (31 - m) ≠ 0 then 31 - m else ldM F m
def snM (F : Nat → Int64) : Nat → Nat
  | 0 => 0
  | m + 1 => if F (31 - m) ≠ 0 then snM F m ||| (31 - m) else snM F m
theorem ldM_at {F : Nat → Int64} {q : Nat} (hq : q < 32) (h : F q ≠ 0) (hz : ∀ j, j < q → F j = 0) : ∀ m, m ≤ 32 → 32 - m ≤ q → ldM F m = q
  | 0, _, h2 => by omega
  | m + 1, h1, h2 => by
    rw [ldM]
    by_cases e : 31 - m = q
    · rw [e, if_pos h]
    · by_cases e2 : 32 - m ≤ q
      · rw [ldM_at hq h hz m (by omega) e2, if_neg (fun z => z (hz _ (by omega)))]
      · omega
theorem ldM_lt {F : Nat → Int64} : ∀ m, ldM F m < 32
  | 0 => (by decide : 0 < 32)
  | m + 1 => by
    rw [ldM]
    have := ldM_lt (F := F) m
    split <;> omega
theorem snM_lt {F : Nat → Int64} : ∀ m, snM F m < 32
  | 0 => (by decide : 0 < 32)
  | m + 1 => by
    rw [snM]
    split
    · exact or_lt _ (snM_lt m) _ (by omega)
    · exact snM_lt m
theorem snM_bit {F : Nat → Int64} {i : Nat} : ∀ m, m ≤ 32 → ((snM F m).testBit i = true ↔ ∃ k, 32 - m ≤ k ∧ k < 32 ∧ F k ≠ 0 ∧ k.testBit i = true)
  | 0, _ => by simp [snM]; intro k h1 h2; omega
  | m + 1, hm => by
    rw [snM]
    by_cases h : F (31 - m) ≠ 0
    · rw [if_pos h, Nat.testBit_or, Bool.or_eq_true, snM_bit m (by omega)]
      constructor
      · rintro (⟨k, a1, a2, a3, a4⟩ | a)
        · exact ⟨k, by omega, a2, a3, a4⟩
        · exact ⟨31 - m, by omega, by omega, h, a⟩
      · rintro ⟨k, a1, a2, a3, a4⟩
        by_cases e : k = 31 - m
        · subst e; exact Or.inr a4
        · exact Or.inl ⟨k, by omega, a2, a3, a4⟩
    · rw [if_neg h, snM_bit m (by omega)]
      constructor
      · rintro ⟨k, a1, a2, a3, a4⟩
        exact ⟨k, by omega, a2, a3, a4⟩
      · rintro ⟨k, a1, a2, a3, a4⟩
        by_cases e : k = 31 - m
        · subst e; exact absurd a3 h
        · exact ⟨k, by omega, a2, a3, a4⟩
theorem drF_bit {f : Nat → Int32} {i : Nat} : ∀ n, ((drF f n).testBit i = true ↔ ∃ k, k < n ∧ f k ≠ 0 ∧ k.testBit i = true)
  | 0 => by simp [drF]
  | n + 1 => by
    rw [drF]
    by_cases h : f n = 0
    · rw [if_pos h, drF_bit n]
      constructor
      · rintro ⟨k, a1, a2, a3⟩
        exact ⟨k, by omega, a2, a3⟩
      · rintro ⟨k, a1, a2, a3⟩
        by_cases e : k = n
        · subst e; exact absurd h a2
        · exact ⟨k, by omega, a2, a3⟩
    · rw [if_neg h, Nat.testBit_or, Bool.or_eq_true, drF_bit n]
      constructor
      · rintro (⟨k, a1, a2, a3⟩ | a)
        · exact ⟨k, by omega, a2, a3⟩
        · exact ⟨n, by omega, h, a⟩
      · rintro ⟨k, a1, a2, a3⟩
        by_cases e : k = n
        · subst e; exact Or.inr a3
        · exact Or.inl ⟨k, by omega, a2, a3⟩
/-- what is told of a form, twice -/
theorem r_form {f : Nat → Int32} {F : Nat → Int64} {n : Nat} (h : RF n f F) : cnL F 32 = cnz f 32 ∧ (cnL F 32 = 0 → loF f 32 = NON ∧ hiF f 32 = NON ∧ ldI f 32 = NON ∧ lcI f 32 = NON) ∧ (cnL F 32 ≠ 0 → loF f 32 = nI (lwL F 32) ∧ hiF f 32 = nI (hgL F 32) - 1 ∧ ldI f 32 = nI (ldM F 32) ∧ (lcI f 32).toInt64 = F (ldM F 32)) ∧ grF f 32 = (if nI (lwL F 32) = nI (hgL F 32) - 1 then nI (lwL F 32) else NON) ∧ drF f 32 = snM F 32 := by
  have h1 := r_low (f := f) 32 (Nat.le_refl 32) h.1
  have h2 := r_high (f := f) 32 (Nat.le_refl 32) h.1
  have h3 := lw_hg (F := F) 32 (Nat.le_refl 32)
  have ez : ∀ k, k < 32 → (F k = 0 ↔ f k = 0) := fun k hk => by rw [h.1 k hk, i64_0]
  have e9 : cnL F 32 = 0 ↔ loF f 32 = NON := by
    rw [cnL_0]
    constructor
    · intro hz
      have : ∀ k, k ≤ 32 → loF f k = NON := fun k => by
        induction k with
        | zero => intro _; rfl
        | succ k ih =>
          intro hk
          rw [loF, if_neg (fun z => z.1 ((ez k (by omega)).mp (hz k (by omega))))]
          exact ih (by omega)
      exact this 32 (Nat.le_refl 32)
    · intro hl
      have : ∀ k, k ≤ 32 → loF f k = NON → ∀ j, j < k → F j = 0 := fun k => by
        induction k with
        | zero => intro _ _ j hj; omega
        | succ k ih =>
          intro hk hl j hj
          rw [loF] at hl
          have h5 := pc5_le k
          split at hl
          · exact absurd hl (nI_NON (by omega))
          · rename_i h2
            have hl2 := hl
            by_cases e : j = k
            · subst e
              exact Classical.byContradiction (fun z => h2 ⟨fun y => z ((ez j (by omega)).mpr y), Or.inl hl2⟩)
            · exact ih (by omega) hl2 j (by omega)
      exact this 32 (Nat.le_refl 32) hl
  have eb : ∀ i, (drF f 32).testBit i = (snM F 32).testBit i := fun i => by
    rw [Bool.eq_iff_iff, drF_bit, snM_bit 32 (Nat.le_refl 32)]
    constructor
    · rintro ⟨k, a1, a2, a3⟩
      exact ⟨k, by omega, a1, fun z => a2 ((ez k a1).mp z), a3⟩
    · rintro ⟨k, a0, a1, a2, a3⟩
      exact ⟨k, a1, fun z => a2 ((ez k a1).mpr z), a3⟩
  refine ⟨r_cnt 32 (Nat.le_refl 32) h.1, fun hc => ?_, fun hc => ?_, ?_, Nat.eq_of_testBit_eq eb⟩
  · have z := (cnL_0 32).mp hc
    have hl := e9.mp hc
    have el : ldO f 32 = none := ldO_of_none 32 (fun j hj => (ez j hj).mp (z j hj))
    refine ⟨hl, ?_, by unfold ldI; rw [el], by unfold lcI; rw [el]⟩
    rcases h1 with ⟨a1, a2⟩ | ⟨a1, a2⟩
    · rcases h2 with ⟨b1, b2⟩ | ⟨b0, b1, b2⟩
      · exact b2
      · omega
    · rw [a2] at hl; exact absurd hl (nI_NON (by omega))
  · have hl : ¬ loF f 32 = NON := fun z => hc (e9.mpr z)
    have hex : ∃ q, ldO f 32 = some q := by
      cases e : ldO f 32 with
      | some q => exact ⟨q, rfl⟩
      | none =>
        exfalso
        have : ∀ k, k ≤ 32 → ldO f k = none → ∀ j, j < k → f j = 0 := fun k => by
          induction k with
          | zero => intro _ _ j hj; omega
          | succ k ih =>
            intro hk hn j hj
            rw [ldO] at hn
            cases e2 : ldO f k with
            | some w => rw [e2] at hn; cases hn
            | none =>
              rw [e2] at hn
              by_cases ej : j = k
              · subst ej
                by_cases hf : f j = 0
                · exact hf
                · simp [hf] at hn
              · exact ih (by omega) e2 j (by omega)
        exact hc ((cnL_0 32).mpr (fun j hj => (ez j hj).mpr (this 32 (Nat.le_refl 32) e j hj)))
    obtain ⟨q, hq⟩ := hex
    obtain ⟨q1, q2, q3⟩ := ldO_some hq
    have eq : ldM F 32 = q := ldM_at q1 (fun z => q2 ((ez q q1).mp z)) (fun j hj => (ez j (by omega)).mpr (q3 j hj)) 32 (Nat.le_refl 32) (by omega)
    rcases h1 with ⟨a1, a2⟩ | ⟨a1, a2⟩
    · exact absurd a2 hl
    · rcases h2 with ⟨b1, b2⟩ | ⟨b0, b1, b2⟩
      · omega
      · refine ⟨a2, ?_, ?_, ?_⟩
        · rw [b2, bB_sub b0]
        · unfold ldI; rw [hq, eq]
        · unfold lcI; rw [hq, eq]; exact (h.1 q q1).symm
  · unfold grF
    rcases h1 with ⟨a1, a2⟩ | ⟨a1, a2⟩
    · rcases h2 with ⟨b1, b2⟩ | ⟨b0, b1, b2⟩
      · rw [a2, b2, a1, b1, if_pos rfl, if_neg (by decide)]
      · omega
    · rcases h2 with ⟨b1, b2⟩ | ⟨b0, b1, b2⟩
      · omega
      · rw [a2, b2, bB_sub b0]
theorem qL_fm (l : Launch) {s k : Nat} (hs : s < 8) (hk : k < 8) (I : IM) (L : LM) {x y : Int32} (hx : nI k = x) (hy : prF (I (3 + s)) 32 k = y) : CR l kdL 189 yX7_form cX7_form 3 (some .int) rmX7_form [.ref 0, .int (nI s), .int x] I L (some (.int y)) I L := by
  subst hx; subst hy
  exact up_0 (qX7_form l hs hk I L)
set_option maxRecDepth 100000 in
set_option maxHeartbeats 1000000 in
theorem qL_form (l : Launch) {s : Nat} (hs : s < 2) {I : IM} {L : LM} {n o z : Nat} (hS : Sm I L n o z) : ∃ I2 L2, (SC I I2 ∧ L2 181 = L 181) ∧ KL_form l [.ref 0, .int (nI s), .ref 181, .ref 184, .ref 185, .ref 188] I L (some (.int 1)) I2 L2 := by
  obtain ⟨⟨n2, n5, ho, hzz⟩, ⟨h2a, h2b, h2c⟩, h3, h4, h5, h6, h7, h8⟩ := id hS
  have hR := h4 s hs
  have hlow := qL_low l (a := 32 * s) (by omega) I L
  have hhigh := qL_high l (a := 32 * s) (by omega) I L
  have hmost := qL_most l (a := 32 * s) (by omega) I L
  have hmany := qL_many l (c := 181) (a := 32 * s) (N := 64) rfl (by omega) I L
  obtain ⟨Ip, Lp, ⟨ep, kp⟩, hpure⟩ := qL_pure l (a := 32 * s) (by omega) n5 h5 L
  subst ep
  have hF : ∀ k, L 181 (32 * s + k) = (fun q => L 181 (32 * s + q)) k := fun _ => rfl
  generalize hFF : (fun q => L 181 (32 * s + q)) = F at *
  obtain ⟨f1, f2, f3, f4, f5⟩ := r_form hR
  have fdt := r_dt n5 hR.1 hR.2.1
  have fmx := r_most (f := Ip (3 + s)) 32 (Nat.le_refl 32) hR.1 hR.2.1
  have l9 := lwL_le F 32
  have c32 := cnL_le F 32
  refine ru_pos1 (fun V hV => ?_) (fun I2 L2 h => wL_form l rfl (fun _ x hx => by cases hx; exact Or.inr rfl) h)
  refine ru_go hV 4 [] rfl rfl trivial ?_
  rw [show (32 : Int32) * nI s = nI (32 * s) from pk_mul 32 s]
  refine ru_go hV 4 [] rfl rfl trivial ?_
  refine ru_S hV [] sSL_93 hlow rfl rfl rfl (Nat.le_of_ble_eq_true rfl) ?_
  refine ru_go hV 3 [] rfl rfl trivial ?_
  refine ru_S hV [] sSL_118 hhigh rfl rfl rfl (Nat.le_of_ble_eq_true rfl) ?_
  refine ru_go hV 7 [] rfl rfl trivial ?_
  refine loop0 (P := fun m => V 36 [(0, .ref 0), (1, .int (nI s)), (2, .ref 181), (3, .ref 184), (4, .ref 185), (5, .ref 188), (6, .int (nI (32 * s))), (7, .int NON), (8, .int (nI (lwL F 32))), (9, .int (nI (hgL F 32) - 1)), (10, .int (nI (ldM F m))), (11, .int (nI (snM F m))), (12, .int (nI (32 - m) - 1))] [] Ip L) 32 (fun h => by rw [show nI (32 - 0) - 1 = (31 : Int32) from by decide] at h; exact h) (fun m hm ih => ?_) ?_
  · have ek : nI (32 - m) - 1 = nI (31 - m) := (bB_sub (by omega)).trans (by rw [show 32 - m - 1 = 31 - m by omega])
    have ek2 : nI (31 - m) + (-1) = nI (32 - (m + 1)) - 1 := by
      rw [show 32 - (m + 1) = 31 - m by omega, Int32.sub_eq_add_neg]
    have sl := snM_lt (F := F) m
    rw [ek]
    by_cases h : F (31 - m) = 0
    · refine ru_go hV 26 [(0, 0), ((32*s+(31-m)), 64), (1, 0), ((32*s+(31-m)), 64), (1, 0)] rfl rfl ⟨⟨⟨⟨⟨trivial, nI_pos (by omega)⟩, ⟨rfl, nI_add _ _, by omega⟩⟩, (by rw [hF, h]; exact (lg_cmp0 _ _).mpr rfl)⟩, ⟨rfl, nI_add _ _, by omega⟩⟩, (by rw [hF, h]; exact (lg_cmp0 _ _).mpr rfl)⟩ ?_
      rw [ek2, Int32.or_zero]
      simp only [ldM, snM, h, ne_eq, not_true_eq_false, if_false] at ih
      exact ih
    · refine ru_go hV 28 [(0, 0), ((32*s+(31-m)), 64), (0, 0), ((32*s+(31-m)), 64), (0, 0)] rfl rfl ⟨⟨⟨⟨⟨trivial, nI_pos (by omega)⟩, ⟨rfl, nI_add _ _, by omega⟩⟩, (fun z => h (by rw [hF] at z; exact (lg_cmp0 _ _).mp z))⟩, ⟨rfl, nI_add _ _, by omega⟩⟩, (fun z => h (by rw [hF] at z; exact (lg_cmp0 _ _).mp z))⟩ ?_
      rw [ek2, orI _ sl _ (by omega)]
      simp only [ldM, snM, h, ne_eq, not_false_eq_true, if_true] at ih
      exact ih
  · have hl32 := ldM_lt (F := F) 32
    generalize ldM F 32 = ld at *
    generalize snM F 32 = sn at *
    refine ru_go hV 4 [(1, 0)] rfl rfl ⟨trivial, (by decide)⟩ ?_
    refine ru_S hV [] sSL_85 hmany rfl rfl rfl (Nat.le_of_ble_eq_true rfl) ?_
    have key : ∀ em : Int32, (cnL F 32 = 0 → em = 1) → (cnL F 32 ≠ 0 → em = 0) → V 107 [(0, .ref 0), (1, .int (nI s)), (2, .ref 181), (3, .ref 184), (4, .ref 185), (5, .ref 188), (6, .int (nI (32 * s))), (7, .int NON), (8, .int (nI (lwL F 32))), (9, .int (nI (hgL F 32) - 1)), (10, .int (nI ld)), (11, .int (nI sn)), (12, .int em)] [] Ip L := by
      intro em em1 em0
      generalize hlv : ([(0, .ref 0), (1, .int (nI s)), (2, .ref 181), (3, .ref 184), (4, .ref 185), (5, .ref 188), (6, .int (nI (32 * s))), (7, .int NON), (8, .int (nI (lwL F 32))), (9, .int (nI (hgL F 32) - 1)), (10, .int (nI ld)), (11, .int (nI sn)), (12, .int em)] : LV) = lv
      have c271 : V 271 lv [] Ip L := by
        subst hlv
        obtain ⟨Id, Ld, hsc, hK⟩ := qX7_decomposable l (s := s) (w := 0) (by omega) (by decide) n5 h2a h3 L
        obtain ⟨Ld2, e2, hK⟩ := up_X hK
        rw [if_pos rfl, fdt] at hK
        have hsc2 := hsc.mxS
        have q181 : Ld2 181 = L 181 := e2 181 (by decide)
        refine ru_go hV 3 [] rfl rfl trivial ?_
        refine ru_V hV [] sVL_124 hK rfl rfl rfl rfl rfl (Nat.le_of_ble_eq_true rfl) ?_
        by_cases hg : nI (lwL F 32) = nI (hgL F 32) - 1
        · rw [if_pos hg]
          have i188 : mx 181 Id Ip 188 0 = nI n := by rw [mx_hi (by decide)]; exact h5
          obtain ⟨Iq, Lq, ⟨eq, kq⟩, hpure2⟩ := qL_pure l (a := 32 * s) (by omega) n5 i188 Ld2
          subst eq
          rw [q181, hFF] at hpure2
          refine ru_go hV 8 [(1, 0)] rfl rfl ⟨trivial, hg⟩ ?_
          refine ru_S hV [.int _] sSL_127 hpure2 rfl rfl rfl (Nat.le_of_ble_eq_true rfl) ?_
          have q2 : Lq 181 = L 181 := (kq 181 (by decide)).trans q181
          cases hb : (fsO (pnL F n) (2 ^ n)).isNone with
          | true =>
            refine ru_fin hV 7 [(0, 0), (0, 0)] rfl rfl ⟨⟨trivial, (by decide)⟩, (fun z => z rfl)⟩ ?_
            exact ⟨rfl, hsc2, q2⟩
          | false =>
            refine ru_fin hV 6 [(1, 0), (0, 0)] rfl rfl ⟨⟨trivial, (by decide)⟩, (fun z => z rfl)⟩ ?_
            exact ⟨rfl, hsc2, q2⟩
        · rw [if_neg hg]
          refine ru_fin hV 9 [(0, 0), (0, 0)] rfl rfl ⟨⟨trivial, hg⟩, (fun z => z rfl)⟩ ?_
          exact ⟨rfl, hsc2, q181⟩
      have c257 : V 257 lv [] Ip L := by
        subst hlv
        refine ru_go hV 3 [] rfl rfl trivial ?_
        refine ru_V hV [] sVL_121 (qL_fm l (s := s) (k := 7) (by omega) (by decide) Ip L (x := 7) (y := nI sn) rfl (by rw [← f5]; rfl)) rfl rfl rfl rfl rfl (Nat.le_of_ble_eq_true rfl) ?_
        refine ru_go hV 2 [(1, 0)] rfl rfl ⟨trivial, (by first | exact rfl | assumption | exact ⟨rfl, rfl⟩ | exact ⟨rfl, rfl, by omega⟩ | exact ⟨by assumption, rfl, by omega⟩ | exact ⟨⟨_, rfl, rfl⟩, by decide, by decide, rfl, by omega⟩ | omega | decide)⟩ ?_
        exact c271
      have c227 : V 227 lv [] Ip L := by
        subst hlv
        refine ru_go hV 3 [] rfl rfl trivial ?_
        refine ru_V hV [] sVL_121 (qL_fm l (s := s) (k := 6) (by omega) (by decide) Ip L (x := 6) (y := lcI (Ip (3 + s)) 32) rfl rfl) rfl rfl rfl rfl rfl (Nat.le_of_ble_eq_true rfl) ?_
        by_cases hc : cnL F 32 = 0
        · refine ru_go hV 8 [(0, 0), (0, 0)] rfl rfl ⟨⟨trivial, (by rw [em1 hc]; decide)⟩, (fun z => z ((lg_cmp0 _ _).mpr (by rw [(f2 hc).2.2.2])))⟩ ?_
          exact c257
        · refine ru_go hV 10 [(1, 0), ((32*s+ld), 64), (0, 0)] rfl rfl ⟨⟨⟨trivial, em0 hc⟩, ⟨rfl, nI_add _ _, by omega⟩⟩, (fun z => z ((lg_cmp0 _ _).mpr (by rw [hF, (f3 hc).2.2.2])))⟩ ?_
          exact c257
      have c206 : V 206 lv [] Ip L := by
        subst hlv
        refine ru_go hV 3 [] rfl rfl trivial ?_
        refine ru_V hV [] sVL_121 (qL_fm l (s := s) (k := 5) (by omega) (by decide) Ip L (x := 5) (y := ldI (Ip (3 + s)) 32) rfl rfl) rfl rfl rfl rfl rfl (Nat.le_of_ble_eq_true rfl) ?_
        by_cases hc : cnL F 32 = 0
        · refine ru_go hV 5 [(0, 0), (0, 0)] rfl rfl ⟨⟨trivial, (by rw [em1 hc]; decide)⟩, (fun z => z (f2 hc).2.2.1)⟩ ?_
          exact c227
        · refine ru_go hV 4 [(1, 0), (0, 0)] rfl rfl ⟨⟨trivial, em0 hc⟩, (fun z => z (f3 hc).2.2.1)⟩ ?_
          exact c227
      have c189 : V 189 lv [] Ip L := by
        subst hlv
        refine ru_go hV 3 [] rfl rfl trivial ?_
        refine ru_V hV [] sVL_121 (qL_fm l (s := s) (k := 4) (by omega) (by decide) Ip L (x := 4) (y := gmF (Ip (3 + s)) 32) rfl rfl) rfl rfl rfl rfl rfl (Nat.le_of_ble_eq_true rfl) ?_
        refine ru_go hV 3 [] rfl rfl trivial ?_
        refine ru_S hV [.long _] sSL_101 hmost rfl rfl rfl (Nat.le_of_ble_eq_true rfl) ?_
        refine ru_go hV 2 [(0, 0)] rfl rfl ⟨trivial, (fun z => z ((lg_cmp0 _ _).mpr fmx.1.symm))⟩ ?_
        exact c206
      have c166 : V 166 lv [] Ip L := by
        subst hlv
        refine ru_go hV 3 [] rfl rfl trivial ?_
        refine ru_V hV [] sVL_121 (qL_fm l (s := s) (k := 3) (by omega) (by decide) Ip L (x := 3) (y := hiF (Ip (3 + s)) 32) rfl rfl) rfl rfl rfl rfl rfl (Nat.le_of_ble_eq_true rfl) ?_
        by_cases hc : cnL F 32 = 0
        · refine ru_go hV 5 [(0, 0), (1, 0)] rfl rfl ⟨⟨trivial, (by rw [em1 hc]; decide)⟩, (f2 hc).2.1⟩ ?_
          exact c189
        · refine ru_go hV 4 [(1, 0), (1, 0)] rfl rfl ⟨⟨trivial, em0 hc⟩, (f3 hc).2.1⟩ ?_
          exact c189
      have c145 : V 145 lv [] Ip L := by
        subst hlv
        refine ru_go hV 3 [] rfl rfl trivial ?_
        refine ru_V hV [] sVL_121 (qL_fm l (s := s) (k := 2) (by omega) (by decide) Ip L (x := 2) (y := loF (Ip (3 + s)) 32) rfl rfl) rfl rfl rfl rfl rfl (Nat.le_of_ble_eq_true rfl) ?_
        by_cases hc : cnL F 32 = 0
        · refine ru_go hV 5 [(0, 0), (0, 0)] rfl rfl ⟨⟨trivial, (by rw [em1 hc]; decide)⟩, (fun z => z (f2 hc).1)⟩ ?_
          exact c166
        · refine ru_go hV 4 [(1, 0), (0, 0)] rfl rfl ⟨⟨trivial, em0 hc⟩, (fun z => z (f3 hc).1)⟩ ?_
          exact c166
      have c122 : V 122 lv [] Ip L := by
        subst hlv
        refine ru_go hV 3 [] rfl rfl trivial ?_
        refine ru_V hV [] sVL_121 (qL_fm l (s := s) (k := 1) (by omega) (by decide) Ip L (x := 1) (y := grF (Ip (3 + s)) 32) rfl rfl) rfl rfl rfl rfl rfl (Nat.le_of_ble_eq_true rfl) ?_
        by_cases hg : nI (lwL F 32) = nI (hgL F 32) - 1
        · refine ru_go hV 6 [(0, 0), (0, 0)] rfl rfl ⟨⟨trivial, (fun z => z hg)⟩, (fun z => z (by rw [f4, if_pos hg]))⟩ ?_
          exact c145
        · refine ru_go hV 5 [(1, 0), (0, 0)] rfl rfl ⟨⟨trivial, hg⟩, (fun z => z (by rw [f4, if_neg hg]))⟩ ?_
          exact c145
      subst hlv
      refine ru_go hV 3 [] rfl rfl trivial ?_
      refine ru_V hV [] sVL_121 (qL_fm l (s := s) (k := 0) (by omega) (by decide) Ip L (x := 0) (y := nI (cnL F 32)) rfl (by rw [f1]; rfl)) rfl rfl rfl rfl rfl (Nat.le_of_ble_eq_true rfl) ?_
      refine ru_go hV 2 [] rfl rfl trivial ?_
      refine ru_S hV [.int _] sSL_85 hmany rfl rfl rfl (Nat.le_of_ble_eq_true rfl) ?_
      refine ru_go hV 1 [(0, 0)] rfl rfl ⟨trivial, (fun z => z rfl)⟩ ?_
      exact c122
    by_cases hc : cnL F 32 = 0
    · refine ru_go hV 4 [(0, 0)] rfl rfl ⟨trivial, (by rw [hc]; decide)⟩ ?_
      exact key 1 (fun _ => rfl) (fun z => absurd hc z)
    · refine ru_go hV 3 [(1, 0)] rfl rfl ⟨trivial, nI_ne0 (by omega) (by omega)⟩ ?_
      exact key 0 (fun z => absurd z hc) (fun _ => rfl)
