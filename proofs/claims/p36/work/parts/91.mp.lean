/-! CONSTRUCTORS: the reference, the history, the desk -/
theorem h_X1 : ∀ j, j < 6 → defaultValue (tyX1 j) = vp_V [.null, .int 0, .int 0, .int 0, .int 0, .int 0] j := fun j hj => match j, hj with | 0, _ => rfl | 1, _ => rfl | 2, _ => rfl | 3, _ => rfl | 4, _ => rfl | 5, _ => rfl
theorem h_X3 : ∀ j, j < 3 → defaultValue (tyX3 j) = vp_V [.null, .int 0, .int 0] j := fun j hj => match j, hj with | 0, _ => rfl | 1, _ => rfl | 2, _ => rfl
theorem h_X4 : ∀ j, j < 3 → defaultValue (tyX4 j) = vp_V [.null, .null, .int 0] j := fun j hj => match j, hj with | 0, _ => rfl | 1, _ => rfl | 2, _ => rfl
theorem h_X6 : ∀ j, j < 5 → defaultValue (tyX6 j) = vp_V [.int 0, .null, .null, .null, .null] j := fun j hj => match j, hj with | 0, _ => rfl | 1, _ => rfl | 2, _ => rfl | 3, _ => rfl | 4, _ => rfl
def kdH (i : Nat) : Nat × Nat × Nat := if i = 0 then (0, 1, 0) else if i = 1 then (4, 6, 18) else if i < 110 then kdS ((i - 2) % 18) else (9, 0, 0)
noncomputable def IH : IM := fun a => if a < 2 then fun _ => 0 else nwS I0 0 (nI 4) ((a - 2) % 18)
theorem kdH_at {k i : Nat} (hk : k < 6) (hi : i < 18) : kdH (2 + 18 * k + i) = kdT i := by
  unfold kdH kdT
  rw [if_neg (by omega), if_neg (by omega), if_pos (by omega), if_pos hi, show (2 + 18 * k + i - 2) % 18 = i by omega]
theorem IH_at {k i : Nat} (hi : i < 18) : IH (2 + 18 * k + i) = nwS I0 0 (nI 4) i := by
  unfold IH
  rw [if_neg (by omega), show (2 + 18 * k + i - 2) % 18 = i by omega]
set_option maxRecDepth 100000 in
theorem mkX3 (l : Launch) : MkC l yX3_init cX3_init 2 ({ frames := 2, cells := 109, slots := 1884, locals := 43 }) kdH 110 1 [.null, .int 0, .int 0] (IH) 109 1884 := by
  refine mk_of (own := RX3) (by decide +kernel) rfl rfl rfl (fun D cy h p e s m below meth c ls hB hin hr hlocks hM hA hl => ?_)
  obtain ⟨hx, hb, hml, hown, hts, hK⟩ := id hB
  have hsz := hM.1
  refine mk_ob (ix := 3) (x := h) (lv := []) hB hl (by decide +kernel) (Nat.le_of_ble_eq_true rfl) (Nat.le_of_ble_eq_true rfl) (by decide +kernel) (by decide +kernel) ?_
  replace hM : MkI D cy kdH IH L0 h 1 1 [.null, .int 0, .int 0] s.heap s.heap [] := hM.ct (fun i h1 h2 => absurd h2 (by omega))
  refine lv_aload_n hx hb (show decode cX3_init 4 = .ok (.aload_n 0, 1) by decide +kernel) rfl (lv_at hl 0 rfl) ?_
  refine lv_bipush (v := nI 6) hx hb (show decode cX3_init 5 = .ok (.bipush 6, 2) by decide +kernel) (by decide) ?_
  refine mk_q (len := 6) (w := 18) hB hM (by decide) rfl (by decide +kernel) hA (by decide) (Nat.le_of_ble_eq_true rfl) (Nat.le_of_ble_eq_true rfl) (show decode cX3_init 7 = .ok (.anewarray 9, 3) by decide +kernel) (fun H hM => ?_)
  refine mk_p (ix := 11) (j := 0) (t := 2) (off := 1) (C := RX3) (T := TX3) (NF := 3) (ty := tyX3 0) hB hin fokX3 rfl rfl rfl (tyX3_ok 0 (by decide)) rfl rfl (Nat.le_of_ble_eq_true rfl) hM (show decode cX3_init 10 = .ok (.putfield 11, 3) by decide +kernel) (fun H locs hM => ?_)
  refine lv_iconst (v := nI 0) hx hb (show decode cX3_init 13 = .ok (.iconst 0, 1) by decide +kernel) (by decide) ?_
  refine lv_istore_n (lv' := [(1, .int (nI 0)), (0, .ref h)]) hx hb (show decode cX3_init 14 = .ok (.istore_n 1, 1) by decide +kernel) rfl hl (by decide) rfl (fun ls hl => ?_)
  have loop : ∀ d k, k + d = 6 → ∀ (H : Heap) (locs : List Loc) (ls : Array Slot), MkG D (ctP cy kdH h IH L0 1 k) h (2 + 18 * k) 1 [.ref (h + 1), .int 0, .int 0] s.heap H locs → lv_has ls 2 [(1, .int (nI k)), (0, .ref h)] → W p l e { frames := 2, cells := 109, slots := 1884, locals := 43 } s m #[.ref h] below meth c H locs (1 + 18 * k) (6 + 313 * k) (MQ below (MkQ D cy kdH h 110 IH) #[.ref h] s 109 1884 (fun q => h ≤ q)) (F0 m 15 ls []) := by
    intro d
    induction d with
    | zero =>
      intro k hkd H locs ls hM hl
      have hk6 : k = 6 := by omega
      subst hk6
      refine lv_iload_n hx hb (show decode cX3_init 15 = .ok (.iload_n 1, 1) by decide +kernel) rfl (lv_at hl 0 rfl) ?_
      refine lv_bipush (v := nI 6) hx hb (show decode cX3_init 16 = .ok (.bipush 6, 2) by decide +kernel) (by decide) ?_
      refine lv_icmp_ge (tgt := 40) hx hb (show decode cX3_init 18 = .ok (.if_icmp .ge 22, 3) by decide +kernel) (by decide) (fun _ => ?_) (fun hf => absurd (nI_le (Nat.le_refl 6) (by decide)) hf)
      replace hM := hM.ct (fun i _ _ => ctP_full (kd := kdH) (w := 18) rfl i)
      replace hl := lv_sub hl [1] (l' := [(0, .ref h)]) rfl
      refine lv_aload_n hx hb (show decode cX3_init 40 = .ok (.aload_n 0, 1) by decide +kernel) rfl (lv_at hl 0 rfl) ?_
      refine lv_iconst (v := nI 0) hx hb (show decode cX3_init 41 = .ok (.iconst 0, 1) by decide +kernel) (by decide) ?_
      refine mk_p (ix := 18) (j := 1) (t := 0) (off := 0) (C := RX3) (T := TX3) (NF := 3) (ty := tyX3 1) hB hin fokX3 rfl rfl rfl (tyX3_ok 1 (by decide)) rfl rfl (Nat.le_of_ble_eq_true rfl) hM (show decode cX3_init 42 = .ok (.putfield 18, 3) by decide +kernel) (fun H locs hM => ?_)
      refine lv_aload_n hx hb (show decode cX3_init 45 = .ok (.aload_n 0, 1) by decide +kernel) rfl (lv_at hl 0 rfl) ?_
      refine lv_iconst (v := nI 0) hx hb (show decode cX3_init 46 = .ok (.iconst 0, 1) by decide +kernel) (by decide) ?_
      refine mk_p (ix := 22) (j := 2) (t := 0) (off := 0) (C := RX3) (T := TX3) (NF := 3) (ty := tyX3 2) hB hin fokX3 rfl rfl rfl (tyX3_ok 2 (by decide)) rfl rfl (Nat.le_of_ble_eq_true rfl) hM (show decode cX3_init 47 = .ok (.putfield 22, 3) by decide +kernel) (fun H locs hM => ?_)
      exact mk_end hB hr hlocks hM ⟨rfl, rfl⟩ rfl (Nat.le_of_ble_eq_true rfl) (Nat.le_of_ble_eq_true rfl) (show decode cX3_init 50 = .ok (.return_, 1) by decide +kernel)
    | succ d ih =>
      intro k hkd H locs ls hM hl
      have hk6 : k < 6 := by omega
      refine lv_iload_n hx hb (show decode cX3_init 15 = .ok (.iload_n 1, 1) by decide +kernel) rfl (lv_at hl 0 rfl) ?_
      refine lv_bipush (v := nI 6) hx hb (show decode cX3_init 16 = .ok (.bipush 6, 2) by decide +kernel) (by decide) ?_
      refine lv_icmp_ge (tgt := 40) hx hb (show decode cX3_init 18 = .ok (.if_icmp .ge 22, 3) by decide +kernel) (by decide) (fun hf => absurd hf (nI_nge hk6 (by decide))) (fun _ => ?_)
      refine lv_aload_n hx hb (show decode cX3_init 21 = .ok (.aload_n 0, 1) by decide +kernel) rfl (lv_at hl 1 rfl) ?_
      refine mk_g (ix := 11) (j := 0) (t := 2) (off := 1) (v := .ref (h + 1)) hB fokX3 rfl hM rfl (show decode cX3_init 22 = .ok (.getfield 11, 3) by decide +kernel) ?_
      refine lv_iload_n hx hb (show decode cX3_init 25 = .ok (.iload_n 1, 1) by decide +kernel) rfl (lv_at hl 0 rfl) ?_
      refine mk_new (index := 9) (ic := 17) (C := RX6) (T := TX6) (NF := 5) tyX6 hB (mkX6 l) hM (by omega) hA rfl clsX6.2.1 tyX6_ok h_X6 (by decide +kernel) (by decide +kernel) (by decide +kernel) rfl (by decide +kernel) (by decide +kernel) (by decide +kernel) rfl (by decide +kernel) ⟨rfl, rfl⟩ ⟨Nat.le_of_ble_eq_true rfl, Nat.le_of_ble_eq_true rfl⟩ (show 1 + 18 * k + 1 + 17 ≤ 109 by omega) (show 6 + 313 * k + 5 + 308 ≤ 1884 by omega) (Nat.le_of_ble_eq_true rfl) (fun i hi => by unfold ctP; rw [if_neg (by omega)]; exact ctn_shift (kdH_at hk6 hi) (IH_at hi) rfl) (show decode cX3_init 26 = .ok (.new 9, 3) by decide +kernel) (show decode cX3_init 29 = .ok (.dup, 1) by decide +kernel) (show decode cX3_init 30 = .ok (.invokespecial 17, 3) by decide +kernel) (fun H locs hM => ?_) hl.1
      refine mk_as (a := 1) (k := k) (w := 18) (len := 6) (v := 2 + 18 * k) hB hM (by decide) (by omega) rfl hk6 (by omega) (by omega) (kdH_at (i := 0) hk6 (by decide)) (by decide) (show decode cX3_init 33 = .ok (.aastore, 1) by decide +kernel) (fun H locs hM => ?_)
      refine lv_iinc (k := 0) (v := nI (k + 1)) (lv' := [(1, .int (nI (k + 1))), (0, .ref h)]) hx hb (show decode cX3_init 34 = .ok (.iinc 1 1, 3) by decide +kernel) hl rfl (nI_1 k) (by decide) rfl (fun ls hl => ?_)
      refine lv_goto (tgt := 15) hx hb (show decode cX3_init 37 = .ok (.goto (-22), 3) by decide +kernel) (by decide) ?_
      refine W.widen (k := 1 + 18 * (k + 1)) (n := 6 + 313 * (k + 1)) (by omega) (by omega) ?_
      rw [show 2 + 18 * k + 18 = 2 + 18 * (k + 1) by omega] at hM
      exact ih (k + 1) (by omega) H locs ls hM hl
  exact loop 6 0 (by decide) H locs ls hM hl
noncomputable def IC : IM := fun a => if 1 ≤ a ∧ a < 19 then nwS I0 0 (nI 4) (a - 1) else if 21 ≤ a ∧ a < 129 then nwS I0 0 (nI 4) ((a - 21) % 18) else if 130 ≤ a ∧ a < 166 then nwS I0 0 (nI 4) ((a - 130) % 18) else fun _ => 0
theorem kdC_1 {i : Nat} (hi : i < 18) : kdC (1 + i) = kdT i := by
  unfold kdC kdT
  rw [if_neg (by omega), if_pos (by omega), if_pos hi, show 1 + i - 1 = i by omega]
theorem IC_1 {i : Nat} (hi : i < 18) : IC (1 + i) = nwS I0 0 (nI 4) i := by
  unfold IC
  rw [if_pos (by omega), show 1 + i - 1 = i by omega]
theorem kdC_19 {i : Nat} (hi : i < 110) : kdC (19 + i) = kdH i := by
  unfold kdC kdH
  rw [if_neg (by omega), if_neg (by omega)]
  by_cases e0 : i = 0
  · rw [if_pos (by omega), if_pos e0]
  · rw [if_neg (by omega), if_neg e0]
    by_cases e1 : i = 1
    · rw [if_pos (by omega), if_pos e1]
    · rw [if_neg (by omega), if_neg e1, if_pos (by omega), if_pos hi, show 19 + i - 21 = i - 2 by omega]
theorem IC_19 {i : Nat} (hi : i < 110) : IC (19 + i) = IH i := by
  unfold IC IH
  rw [if_neg (by omega)]
  by_cases e : i < 2
  · rw [if_neg (by omega), if_neg (by omega), if_pos e]
  · rw [if_pos (by omega), if_neg e, show 19 + i - 21 = i - 2 by omega]
theorem kdC_130 {k i : Nat} (hk : k < 2) (hi : i < 18) : kdC (130 + 18 * k + i) = kdT i := by
  unfold kdC kdT
  rw [if_neg (by omega), if_neg (by omega), if_neg (by omega), if_neg (by omega), if_neg (by omega), if_neg (by omega), if_pos (by omega), if_pos hi, show (130 + 18 * k + i - 130) % 18 = i by omega]
theorem IC_130 {k i : Nat} (hk : k < 2) (hi : i < 18) : IC (130 + 18 * k + i) = nwS I0 0 (nI 4) i := by
  unfold IC
  rw [if_neg (by omega), if_neg (by omega), if_pos (by omega), show (130 + 18 * k + i - 130) % 18 = i by omega]
theorem IC_hi {a : Nat} (h : 166 ≤ a) : IC a = fun _ => 0 := by
  unfold IC
  rw [if_neg (by omega), if_neg (by omega), if_neg (by omega)]
theorem kdC_171 : ∀ i, i < 8 → kdC (171 + i) = kdK i := by decide
theorem kdC_179 : ∀ i, i < 2 → kdC (179 + i) = kdQ i := by decide
theorem h_X7 : ∀ j, j < 11 → defaultValue (tyX7 j) = vp_V [.null, .null, .null, .null, .null, .int 0, .null, .null, .null, .null, .null] j := fun j hj => match j, hj with | 0, _ => rfl | 1, _ => rfl | 2, _ => rfl | 3, _ => rfl | 4, _ => rfl | 5, _ => rfl | 6, _ => rfl | 7, _ => rfl | 8, _ => rfl | 9, _ => rfl | 10, _ => rfl | k + 11, hj => absurd hj (by omega)
set_option maxRecDepth 100000 in
theorem mkX7 (l : Launch) : MkC l yX7_init cX7_init 2 ({ frames := 3, cells := 180, slots := 3062, locals := 64 }) kdC 181 4 [.null, .null, .null, .null, .null, .int 0, .null, .null, .null, .null, .null] (IC) 180 3062 := by
  refine mk_of (own := RX7) (by decide +kernel) rfl rfl rfl (fun D cy h p e s m below meth c ls hB hin hr hlocks hM hA hl => ?_)
  obtain ⟨hx, hb, hml, hown, hts, hK⟩ := id hB
  have hsz := hM.1
  refine mk_ob (ix := 1) (x := h) (lv := []) hB hl (by decide +kernel) (Nat.le_of_ble_eq_true rfl) (Nat.le_of_ble_eq_true rfl) (by decide +kernel) (by decide +kernel) ?_
  replace hM : MkI D cy kdC IC L0 h 1 4 [.null, .null, .null, .null, .null, .int 0, .null, .null, .null, .null, .null] s.heap s.heap [] := hM.ct (fun i h1 h2 => absurd h2 (by omega))
  refine lv_aload_n hx hb (show decode cX7_init 4 = .ok (.aload_n 0, 1) by decide +kernel) rfl (lv_at hl 0 rfl) ?_
  refine mk_new (index := 7) (ic := 9) (C := RX6) (T := TX6) (NF := 5) tyX6 hB (mkX6 l) hM (by decide) hA rfl clsX6.2.1 tyX6_ok h_X6 (by decide +kernel) (by decide +kernel) (by decide +kernel) rfl (by decide +kernel) (by decide +kernel) (by decide +kernel) rfl (by decide +kernel) ⟨rfl, rfl⟩ ⟨Nat.le_of_ble_eq_true rfl, Nat.le_of_ble_eq_true rfl⟩ (Nat.le_of_ble_eq_true rfl) (Nat.le_of_ble_eq_true rfl) (Nat.le_of_ble_eq_true rfl) (fun i hi => ctn_shift (kdC_1 hi) (IC_1 hi) rfl) (show decode cX7_init 5 = .ok (.new 7, 3) by decide +kernel) (show decode cX7_init 8 = .ok (.dup, 1) by decide +kernel) (show decode cX7_init 9 = .ok (.invokespecial 9, 3) by decide +kernel) (fun H locs hM => ?_) hl.1
  refine mk_p (ix := 10) (j := 0) (t := 2) (off := 1) (C := RX7) (T := TX7) (NF := 11) (ty := tyX7 0) hB hin fokX7 rfl rfl rfl (tyX7_ok 0 (by decide)) rfl rfl (Nat.le_of_ble_eq_true rfl) hM (show decode cX7_init 12 = .ok (.putfield 10, 3) by decide +kernel) (fun H locs hM => ?_)
  refine lv_aload_n hx hb (show decode cX7_init 15 = .ok (.aload_n 0, 1) by decide +kernel) rfl (lv_at hl 0 rfl) ?_
  refine mk_new (index := 16) (ic := 18) (C := RX3) (T := TX3) (NF := 3) tyX3 hB (mkX3 l) hM (by decide) hA rfl clsX3.2.1 tyX3_ok h_X3 (by decide +kernel) (by decide +kernel) (by decide +kernel) rfl (by decide +kernel) (by decide +kernel) (by decide +kernel) rfl (by decide +kernel) ⟨rfl, rfl⟩ ⟨Nat.le_of_ble_eq_true rfl, Nat.le_of_ble_eq_true rfl⟩ (Nat.le_of_ble_eq_true rfl) (Nat.le_of_ble_eq_true rfl) (Nat.le_of_ble_eq_true rfl) (fun i hi => ctn_shift (kdC_19 hi) (IC_19 hi) rfl) (show decode cX7_init 16 = .ok (.new 16, 3) by decide +kernel) (show decode cX7_init 19 = .ok (.dup, 1) by decide +kernel) (show decode cX7_init 20 = .ok (.invokespecial 18, 3) by decide +kernel) (fun H locs hM => ?_) hl.1
  refine mk_p (ix := 19) (j := 1) (t := 2) (off := 19) (C := RX7) (T := TX7) (NF := 11) (ty := tyX7 1) hB hin fokX7 rfl rfl rfl (tyX7_ok 1 (by decide)) rfl rfl (Nat.le_of_ble_eq_true rfl) hM (show decode cX7_init 23 = .ok (.putfield 19, 3) by decide +kernel) (fun H locs hM => ?_)
  refine lv_aload_n hx hb (show decode cX7_init 26 = .ok (.aload_n 0, 1) by decide +kernel) rfl (lv_at hl 0 rfl) ?_
  refine lv_iconst (v := nI 2) hx hb (show decode cX7_init 27 = .ok (.iconst 2, 1) by decide +kernel) (by decide) ?_
  refine mk_q (len := 2) (w := 18) hB hM (by decide) rfl (by decide +kernel) hA (by decide) (Nat.le_of_ble_eq_true rfl) (Nat.le_of_ble_eq_true rfl) (show decode cX7_init 28 = .ok (.anewarray 7, 3) by decide +kernel) (fun H hM => ?_)
  refine mk_p (ix := 23) (j := 2) (t := 2) (off := 129) (C := RX7) (T := TX7) (NF := 11) (ty := tyX7 2) hB hin fokX7 rfl rfl rfl (tyX7_ok 2 (by decide)) rfl rfl (Nat.le_of_ble_eq_true rfl) hM (show decode cX7_init 31 = .ok (.putfield 23, 3) by decide +kernel) (fun H locs hM => ?_)
  refine lv_iconst (v := nI 0) hx hb (show decode cX7_init 34 = .ok (.iconst 0, 1) by decide +kernel) (by decide) ?_
  refine lv_istore_n (lv' := [(1, .int (nI 0)), (0, .ref h)]) hx hb (show decode cX7_init 35 = .ok (.istore_n 1, 1) by decide +kernel) rfl hl (by decide) rfl (fun ls hl => ?_)
  have loop : ∀ d k, k + d = 2 → ∀ (H : Heap) (locs : List Loc) (ls : Array Slot), MkG D (ctP cy kdC h IC L0 129 k) h (130 + 18 * k) 4 [.ref (h + 1), .ref (h + 19), .ref (h + 129), .null, .null, .int 0, .null, .null, .null, .null, .null] s.heap H locs → lv_has ls 2 [(1, .int (nI k)), (0, .ref h)] → W p l e { frames := 3, cells := 180, slots := 3062, locals := 64 } s m #[.ref h] below meth c H locs (129 + 18 * k) (2202 + 313 * k) (MQ below (MkQ D cy kdC h 181 IC) #[.ref h] s 180 3062 (fun q => h ≤ q)) (F0 m 36 ls []) := by
    intro d
    induction d with
    | zero =>
      intro k hkd H locs ls hM hl
      have hk6 : k = 2 := by omega
      subst hk6
      refine lv_iload_n hx hb (show decode cX7_init 36 = .ok (.iload_n 1, 1) by decide +kernel) rfl (lv_at hl 0 rfl) ?_
      refine lv_iconst (v := nI 2) hx hb (show decode cX7_init 37 = .ok (.iconst 2, 1) by decide +kernel) (by decide) ?_
      refine lv_icmp_ge (tgt := 60) hx hb (show decode cX7_init 38 = .ok (.if_icmp .ge 22, 3) by decide +kernel) (by decide) (fun _ => ?_) (fun hf => absurd (nI_le (Nat.le_refl 2) (by decide)) hf)
      replace hM := hM.ct (fun i _ _ => ctP_full (kd := kdC) (w := 18) rfl i)
      replace hl := lv_sub hl [1] (l' := [(0, .ref h)]) rfl
      refine lv_aload_n hx hb (show decode cX7_init 60 = .ok (.aload_n 0, 1) by decide +kernel) rfl (lv_at hl 0 rfl) ?_
      refine lv_iconst (v := nI 2) hx hb (show decode cX7_init 61 = .ok (.iconst 2, 1) by decide +kernel) (by decide) ?_
      refine mk_a (len := 2) 2 hB hM (by decide) rfl (IC_hi (by decide)) rfl (Or.inr (Or.inr ⟨rfl, rfl⟩)) a_boolean (by decide) (Nat.le_of_ble_eq_true rfl) (Nat.le_of_ble_eq_true rfl) (show decode cX7_init 62 = .ok (.newarray .boolean, 2) by decide +kernel) (fun H hM => ?_)
      refine mk_p (ix := 27) (j := 3) (t := 2) (off := 166) (C := RX7) (T := TX7) (NF := 11) (ty := tyX7 3) hB hin fokX7 rfl rfl rfl (tyX7_ok 3 (by decide)) rfl rfl (Nat.le_of_ble_eq_true rfl) hM (show decode cX7_init 64 = .ok (.putfield 27, 3) by decide +kernel) (fun H locs hM => ?_)
      refine lv_aload_n hx hb (show decode cX7_init 67 = .ok (.aload_n 0, 1) by decide +kernel) rfl (lv_at hl 0 rfl) ?_
      refine lv_bipush (v := nI 60) hx hb (show decode cX7_init 68 = .ok (.bipush 60, 2) by decide +kernel) (by decide) ?_
      refine mk_a (len := 60) 0 hB hM (by decide) rfl (IC_hi (by decide)) rfl (Or.inl ⟨rfl, rfl⟩) a_int (by decide) (Nat.le_of_ble_eq_true rfl) (Nat.le_of_ble_eq_true rfl) (show decode cX7_init 70 = .ok (.newarray .int, 2) by decide +kernel) (fun H hM => ?_)
      refine mk_p (ix := 31) (j := 4) (t := 2) (off := 167) (C := RX7) (T := TX7) (NF := 11) (ty := tyX7 4) hB hin fokX7 rfl rfl rfl (tyX7_ok 4 (by decide)) rfl rfl (Nat.le_of_ble_eq_true rfl) hM (show decode cX7_init 72 = .ok (.putfield 31, 3) by decide +kernel) (fun H locs hM => ?_)
      refine lv_aload_n hx hb (show decode cX7_init 75 = .ok (.aload_n 0, 1) by decide +kernel) rfl (lv_at hl 0 rfl) ?_
      refine lv_iconst (v := nI 0) hx hb (show decode cX7_init 76 = .ok (.iconst 0, 1) by decide +kernel) (by decide) ?_
      refine mk_p (ix := 35) (j := 5) (t := 0) (off := 0) (C := RX7) (T := TX7) (NF := 11) (ty := tyX7 5) hB hin fokX7 rfl rfl rfl (tyX7_ok 5 (by decide)) rfl rfl (Nat.le_of_ble_eq_true rfl) hM (show decode cX7_init 77 = .ok (.putfield 35, 3) by decide +kernel) (fun H locs hM => ?_)
      refine lv_aload_n hx hb (show decode cX7_init 80 = .ok (.aload_n 0, 1) by decide +kernel) rfl (lv_at hl 0 rfl) ?_
      refine lv_bipush (v := nI 32) hx hb (show decode cX7_init 81 = .ok (.bipush 32, 2) by decide +kernel) (by decide) ?_
      refine mk_a (len := 32) 1 hB hM (by decide) rfl (IC_hi (by decide)) rfl (Or.inr (Or.inl ⟨rfl, rfl⟩)) a_long (by decide) (Nat.le_of_ble_eq_true rfl) (Nat.le_of_ble_eq_true rfl) (show decode cX7_init 83 = .ok (.newarray .long, 2) by decide +kernel) (fun H hM => ?_)
      refine mk_p (ix := 39) (j := 6) (t := 2) (off := 168) (C := RX7) (T := TX7) (NF := 11) (ty := tyX7 6) hB hin fokX7 rfl rfl rfl (tyX7_ok 6 (by decide)) rfl rfl (Nat.le_of_ble_eq_true rfl) hM (show decode cX7_init 85 = .ok (.putfield 39, 3) by decide +kernel) (fun H locs hM => ?_)
      refine lv_aload_n hx hb (show decode cX7_init 88 = .ok (.aload_n 0, 1) by decide +kernel) rfl (lv_at hl 0 rfl) ?_
      refine lv_bipush (v := nI 32) hx hb (show decode cX7_init 89 = .ok (.bipush 32, 2) by decide +kernel) (by decide) ?_
      refine mk_a (len := 32) 1 hB hM (by decide) rfl (IC_hi (by decide)) rfl (Or.inr (Or.inl ⟨rfl, rfl⟩)) a_long (by decide) (Nat.le_of_ble_eq_true rfl) (Nat.le_of_ble_eq_true rfl) (show decode cX7_init 91 = .ok (.newarray .long, 2) by decide +kernel) (fun H hM => ?_)
      refine mk_p (ix := 43) (j := 7) (t := 2) (off := 169) (C := RX7) (T := TX7) (NF := 11) (ty := tyX7 7) hB hin fokX7 rfl rfl rfl (tyX7_ok 7 (by decide)) rfl rfl (Nat.le_of_ble_eq_true rfl) hM (show decode cX7_init 93 = .ok (.putfield 43, 3) by decide +kernel) (fun H locs hM => ?_)
      refine lv_aload_n hx hb (show decode cX7_init 96 = .ok (.aload_n 0, 1) by decide +kernel) rfl (lv_at hl 0 rfl) ?_
      refine lv_bipush (v := nI 32) hx hb (show decode cX7_init 97 = .ok (.bipush 32, 2) by decide +kernel) (by decide) ?_
      refine mk_a (len := 32) 0 hB hM (by decide) rfl (IC_hi (by decide)) rfl (Or.inl ⟨rfl, rfl⟩) a_int (by decide) (Nat.le_of_ble_eq_true rfl) (Nat.le_of_ble_eq_true rfl) (show decode cX7_init 99 = .ok (.newarray .int, 2) by decide +kernel) (fun H hM => ?_)
      refine mk_p (ix := 46) (j := 8) (t := 2) (off := 170) (C := RX7) (T := TX7) (NF := 11) (ty := tyX7 8) hB hin fokX7 rfl rfl rfl (tyX7_ok 8 (by decide)) rfl rfl (Nat.le_of_ble_eq_true rfl) hM (show decode cX7_init 101 = .ok (.putfield 46, 3) by decide +kernel) (fun H locs hM => ?_)
      refine lv_aload_n hx hb (show decode cX7_init 104 = .ok (.aload_n 0, 1) by decide +kernel) rfl (lv_at hl 0 rfl) ?_
      refine mk_new (index := 49) (ic := 51) (C := RX4) (T := TX4) (NF := 3) tyX4 hB (mkX4 l) hM (by decide) hA rfl clsX4.2.1 tyX4_ok h_X4 (by decide +kernel) (by decide +kernel) (by decide +kernel) rfl (by decide +kernel) (by decide +kernel) (by decide +kernel) rfl (by decide +kernel) ⟨rfl, rfl⟩ ⟨Nat.le_of_ble_eq_true rfl, Nat.le_of_ble_eq_true rfl⟩ (Nat.le_of_ble_eq_true rfl) (Nat.le_of_ble_eq_true rfl) (Nat.le_of_ble_eq_true rfl) (fun i hi => ctn_shift (kdC_171 i hi) (IC_hi (by omega)) rfl) (show decode cX7_init 105 = .ok (.new 49, 3) by decide +kernel) (show decode cX7_init 108 = .ok (.dup, 1) by decide +kernel) (show decode cX7_init 109 = .ok (.invokespecial 51, 3) by decide +kernel) (fun H locs hM => ?_) hl.1
      refine mk_p (ix := 52) (j := 9) (t := 2) (off := 171) (C := RX7) (T := TX7) (NF := 11) (ty := tyX7 9) hB hin fokX7 rfl rfl rfl (tyX7_ok 9 (by decide)) rfl rfl (Nat.le_of_ble_eq_true rfl) hM (show decode cX7_init 112 = .ok (.putfield 52, 3) by decide +kernel) (fun H locs hM => ?_)
      refine lv_aload_n hx hb (show decode cX7_init 115 = .ok (.aload_n 0, 1) by decide +kernel) rfl (lv_at hl 0 rfl) ?_
      refine mk_new (index := 56) (ic := 58) (C := RX1) (T := TX1) (NF := 6) tyX1 hB (mkX1 l) hM (by decide) hA rfl clsX1.2.1 tyX1_ok h_X1 (by decide +kernel) (by decide +kernel) (by decide +kernel) rfl (by decide +kernel) (by decide +kernel) (by decide +kernel) rfl (by decide +kernel) ⟨rfl, rfl⟩ ⟨Nat.le_of_ble_eq_true rfl, Nat.le_of_ble_eq_true rfl⟩ (Nat.le_of_ble_eq_true rfl) (Nat.le_of_ble_eq_true rfl) (Nat.le_of_ble_eq_true rfl) (fun i hi => ctn_shift (kdC_179 i hi) (IC_hi (by omega)) rfl) (show decode cX7_init 116 = .ok (.new 56, 3) by decide +kernel) (show decode cX7_init 119 = .ok (.dup, 1) by decide +kernel) (show decode cX7_init 120 = .ok (.invokespecial 58, 3) by decide +kernel) (fun H locs hM => ?_) hl.1
      refine mk_p (ix := 59) (j := 10) (t := 2) (off := 179) (C := RX7) (T := TX7) (NF := 11) (ty := tyX7 10) hB hin fokX7 rfl rfl rfl (tyX7_ok 10 (by decide)) rfl rfl (Nat.le_of_ble_eq_true rfl) hM (show decode cX7_init 123 = .ok (.putfield 59, 3) by decide +kernel) (fun H locs hM => ?_)
      exact mk_end hB hr hlocks hM ⟨rfl, rfl⟩ rfl (Nat.le_of_ble_eq_true rfl) (Nat.le_of_ble_eq_true rfl) (show decode cX7_init 126 = .ok (.return_, 1) by decide +kernel)
    | succ d ih =>
      intro k hkd H locs ls hM hl
      have hk6 : k < 2 := by omega
      refine lv_iload_n hx hb (show decode cX7_init 36 = .ok (.iload_n 1, 1) by decide +kernel) rfl (lv_at hl 0 rfl) ?_
      refine lv_iconst (v := nI 2) hx hb (show decode cX7_init 37 = .ok (.iconst 2, 1) by decide +kernel) (by decide) ?_
      refine lv_icmp_ge (tgt := 60) hx hb (show decode cX7_init 38 = .ok (.if_icmp .ge 22, 3) by decide +kernel) (by decide) (fun hf => absurd hf (nI_nge hk6 (by decide))) (fun _ => ?_)
      refine lv_aload_n hx hb (show decode cX7_init 41 = .ok (.aload_n 0, 1) by decide +kernel) rfl (lv_at hl 1 rfl) ?_
      refine mk_g (ix := 23) (j := 2) (t := 2) (off := 129) (v := .ref (h + 129)) hB fokX7 rfl hM rfl (show decode cX7_init 42 = .ok (.getfield 23, 3) by decide +kernel) ?_
      refine lv_iload_n hx hb (show decode cX7_init 45 = .ok (.iload_n 1, 1) by decide +kernel) rfl (lv_at hl 0 rfl) ?_
      refine mk_new (index := 7) (ic := 9) (C := RX6) (T := TX6) (NF := 5) tyX6 hB (mkX6 l) hM (by omega) hA rfl clsX6.2.1 tyX6_ok h_X6 (by decide +kernel) (by decide +kernel) (by decide +kernel) rfl (by decide +kernel) (by decide +kernel) (by decide +kernel) rfl (by decide +kernel) ⟨rfl, rfl⟩ ⟨Nat.le_of_ble_eq_true rfl, Nat.le_of_ble_eq_true rfl⟩ (show 129 + 18 * k + 1 + 17 ≤ 180 by omega) (show 2202 + 313 * k + 5 + 308 ≤ 3062 by omega) (Nat.le_of_ble_eq_true rfl) (fun i hi => by unfold ctP; rw [if_neg (by omega)]; exact ctn_shift (kdC_130 hk6 hi) (IC_130 hk6 hi) rfl) (show decode cX7_init 46 = .ok (.new 7, 3) by decide +kernel) (show decode cX7_init 49 = .ok (.dup, 1) by decide +kernel) (show decode cX7_init 50 = .ok (.invokespecial 9, 3) by decide +kernel) (fun H locs hM => ?_) hl.1
      refine mk_as (a := 129) (k := k) (w := 18) (len := 2) (v := 130 + 18 * k) hB hM (by decide) (by omega) rfl hk6 (by omega) (by omega) (kdC_130 (i := 0) hk6 (by decide)) (by decide) (show decode cX7_init 53 = .ok (.aastore, 1) by decide +kernel) (fun H locs hM => ?_)
      refine lv_iinc (k := 0) (v := nI (k + 1)) (lv' := [(1, .int (nI (k + 1))), (0, .ref h)]) hx hb (show decode cX7_init 54 = .ok (.iinc 1 1, 3) by decide +kernel) hl rfl (nI_1 k) (by decide) rfl (fun ls hl => ?_)
      refine lv_goto (tgt := 36) hx hb (show decode cX7_init 57 = .ok (.goto (-21), 3) by decide +kernel) (by decide) ?_
      refine W.widen (k := 129 + 18 * (k + 1)) (n := 2202 + 313 * (k + 1)) (by omega) (by omega) ?_
      rw [show 130 + 18 * k + 18 = 130 + 18 * (k + 1) by omega] at hM
      exact ih (k + 1) (by omega) H locs ls hM hl
  exact loop 2 0 (by decide) H locs ls hM hl
