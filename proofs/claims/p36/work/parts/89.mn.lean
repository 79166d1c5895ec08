/-! CONSTRUCTORS: the walks -/
section CRS
variable {p : Program} {l : Launch} {e : Env} {R : Room} {s : State} {m : MethodId} {args : Array Value} {below : List Frame} {meth : Method} {c : Code} {Q : State → Prop} {cc : ByteArray} {nL : Nat} {own : String} {D : va_G} {cy : Nat → ClassId} {kd : KdT} {I I2 : IM} {h N ci : Nat} {fs : List Value} {H : Heap} {locs : List Loc} {cells slots pc : Nat} {ls : Array Slot} {rest : List Value}
/-- a call on the object itself, once all its cells stand -/
theorem mk_cr {y : MethodName} {bytes : ByteArray} {maxL : Nat} {rm : Room} {av : List Value} {T : u_T} {NF ix : Nat} (hB : Bx p s m args c cc nL own D cy) (hM : MkI D cy kd I L0 h N ci fs s.heap H locs) (hN : 0 < N) (hk : kd 0 = (0, ci, 0)) (hf : fs = fdv (adH h) I L0 0 0 (FD ci)) (hcl : vwCl[ci]? = some (y.cls, T, NF)) (hs : SitV own ix y bytes maxL none av.length) (hC : CR l kd N y bytes maxL none rm (.ref 0 :: av) I L0 none I2 L0) (hrm : rm.cells = 0 ∧ rm.slots = 0 ∧ rm.frames + 1 ≤ R.frames ∧ 8 + (maxL + 11) + rm.locals ≤ R.locals) (hsz : s.heap.size = h + 1) (hce : cells + 1 = N) (hcR : cells ≤ R.cells ∧ slots ≤ R.slots) (hls : ls.size = nL) (hcat : (rest.map fun v => v.category).sum ≤ 8) (hdg : decode cc pc = .ok (.invokevirtual ix, 3))
    (kk : ∀ (H1 : Heap) (locs1 : List Loc), MkI D cy kd I2 L0 h N ci (fdv (adH h) I2 L0 0 0 (FD ci)) s.heap H1 locs1 → W p l e R s m args below meth c H1 locs1 cells slots Q (F0 m (pc + 3) ls rest)) : W p l e R s m args below meth c H locs cells slots Q (F0 m pc ls ((av.map (cz (adH h))).reverse ++ .ref h :: rest)) := by
  obtain ⟨hx, hb, hml, hown, hts, hK⟩ := hB
  obtain ⟨⟨h1, h2, h3, h4, h5⟩, hd⟩ := hs
  obtain ⟨r1, r2, r3, r4⟩ := hrm
  have hW := hM.wd (by rw [hk]; exact ⟨rfl, rfl⟩) hf
  have hP : va_P D vwCl [(h, .inr (ci, fs))] H := fun k q hq => by
    cases k with
    | zero => cases hq; exact hM.2.1
    | succ k => simp at hq
  refine mkback (Qc := fun _ st oc t => (oc = .returned (Option.map (cz (adH h)) none) ∧ wd D cy kd (adH h) N I2 L0 t.heap) ∧ va_F (AA (adH h) N) st t) (a := (Value.ref h :: av.map (cz (adH h))).toArray) (va_runV (n := av.length) (b := h) (C := y.cls) (As := av.map (cz (adH h))) (rest := rest) ⟨hx, hb, hml, hown, hts⟩ (hC D cy (adH h) (adH_inj h N)) (cwV av.length hts (gIn (fun w hw => ?_)) rfl r1 r2 hd ⟨r3, r4⟩) ⟨fun a U g mk q => ?_, va_recv hK hP (ci := ci) (q0 := 0) hcl rfl, fun U hU hWm => ⟨rfl, by rw [hU]; exact hW, va_K.moved hWm.alike hK⟩⟩ rfl (by simp) hls rfl (lv_room hcat) hdg ⟨by omega, by omega⟩) (fun v st t Lx g0 gL hq => ?_)
  · rcases List.mem_append.mp hw with h | h
    · simp only [List.mem_cons, List.not_mem_nil, or_false] at h
      rcases h with rfl | rfl | rfl | rfl
      · exact h1
      · exact h2
      · exact h3
      · exact h4
    · rcases List.mem_cons.mp h with rfl | h
      · exact h5
      · exact h
  · obtain ⟨q0, qW, qK⟩ := q
    exact ⟨q0, qW, va_K.moved (u := U) (U := U.calling g mk a) (Vm.Alike.refl U.vm) qK⟩
  · obtain ⟨⟨q1, q2⟩, q3, q4⟩ := hq
    have hv : v = none := by cases q1; rfl
    subst hv
    intro T hT X
    have hz := X.heapSize
    rw [hT, hsz] at hz
    rw [g0, hM.1] at q3
    refine kk t.heap (locs ++ Lx) ⟨by omega, ?_, fun i i1 i2 => q2 i i2, fun q hq => ?_, fun z hz => ?_⟩ T hT X
    · have := q2 0 hN
      unfold ctn at this
      rw [hk] at this
      exact this
    · rw [q4 q (by rw [g0, hM.1]; omega) (fun ⟨i, _, e⟩ => by unfold adH at e; omega), g0]
      exact hM.2.2.2.1 q hq
    · rcases List.mem_append.mp hz with e | e
      · exact hM.2.2.2.2 z e
      · obtain ⟨i, _, e2⟩ := gL z e
        unfold adH at e2
        omega
end CRS
theorem a_int : Cond.arrayClass .int ∈ WB := by decide +kernel
theorem a_long : Cond.arrayClass .long ∈ WB := by decide +kernel
theorem a_boolean : Cond.arrayClass .boolean ∈ WB := by decide +kernel
def kdQ (i : Nat) : Nat × Nat × Nat := if i = 0 then (0, 0, 0) else if i = 1 then (1, 32, 0) else (9, 0, 0)
set_option maxRecDepth 100000 in
theorem mkX1 (l : Launch) : MkC l yX1_init cX1_init 1 ({ frames := 1, cells := 1, slots := 32, locals := 12 }) kdQ 2 0 [.null, .int 0, .int 0, .int 0, .int 0, .int 0] (I0) 1 32 := by
  refine mk_of (own := RX1) (by decide +kernel) rfl rfl rfl (fun D cy h p e s m below meth c ls hB hin hr hlocks hM hA hl => ?_)
  obtain ⟨hx, hb, hml, hown, hts, hK⟩ := id hB
  have hsz := hM.1
  refine mk_ob (ix := 3) (x := h) (lv := []) hB hl (by decide +kernel) (Nat.le_of_ble_eq_true rfl) (Nat.le_of_ble_eq_true rfl) (by decide +kernel) (by decide +kernel) ?_
  refine lv_aload_n hx hb (show decode cX1_init 4 = .ok (.aload_n 0, 1) by decide +kernel) rfl (lv_at hl 0 rfl) ?_
  refine lv_bipush (v := nI 32) hx hb (show decode cX1_init 5 = .ok (.bipush 32, 2) by decide +kernel) (by decide) ?_
  refine mk_a (len := 32) 0 hB hM (by decide) rfl rfl rfl (Or.inl ⟨rfl, rfl⟩) a_int (by decide) (Nat.le_of_ble_eq_true rfl) (Nat.le_of_ble_eq_true rfl) (show decode cX1_init 7 = .ok (.newarray .int, 2) by decide +kernel) (fun H hM => ?_)
  refine mk_p (ix := 9) (j := 0) (t := 2) (off := 1) (C := RX1) (T := TX1) (NF := 6) (ty := tyX1 0) hB hin fokX1 rfl rfl rfl (tyX1_ok 0 (by decide)) rfl rfl (Nat.le_of_ble_eq_true rfl) hM (show decode cX1_init 9 = .ok (.putfield 9, 3) by decide +kernel) (fun H locs hM => ?_)
  refine lv_aload_n hx hb (show decode cX1_init 12 = .ok (.aload_n 0, 1) by decide +kernel) rfl (lv_at hl 0 rfl) ?_
  refine lv_iconst (v := nI 0) hx hb (show decode cX1_init 13 = .ok (.iconst 0, 1) by decide +kernel) (by decide) ?_
  refine mk_p (ix := 15) (j := 2) (t := 0) (off := 0) (C := RX1) (T := TX1) (NF := 6) (ty := tyX1 2) hB hin fokX1 rfl rfl rfl (tyX1_ok 2 (by decide)) rfl rfl (Nat.le_of_ble_eq_true rfl) hM (show decode cX1_init 14 = .ok (.putfield 15, 3) by decide +kernel) (fun H locs hM => ?_)
  exact mk_end hB hr hlocks hM ⟨rfl, rfl⟩ rfl (Nat.le_of_ble_eq_true rfl) (Nat.le_of_ble_eq_true rfl) (show decode cX1_init 17 = .ok (.return_, 1) by decide +kernel)
def kdK (i : Nat) : Nat × Nat × Nat := if i = 0 then (0, 2, 0) else if i = 1 then (6, 5, 1) else if i ≤ 7 then (2, 5, 0) else (9, 0, 0)
set_option maxRecDepth 100000 in
theorem mkX4 (l : Launch) : MkC l yX4_init cX4_init 1 ({ frames := 1, cells := 7, slots := 35, locals := 12 }) kdK 8 2 [.null, .null, .int 0] (I0) 7 35 := by
  refine mk_of (own := RX4) (by decide +kernel) rfl rfl rfl (fun D cy h p e s m below meth c ls hB hin hr hlocks hM hA hl => ?_)
  obtain ⟨hx, hb, hml, hown, hts, hK⟩ := id hB
  have hsz := hM.1
  refine mk_ob (ix := 3) (x := h) (lv := []) hB hl (by decide +kernel) (Nat.le_of_ble_eq_true rfl) (Nat.le_of_ble_eq_true rfl) (by decide +kernel) (by decide +kernel) ?_
  refine lv_aload_n hx hb (show decode cX4_init 4 = .ok (.aload_n 0, 1) by decide +kernel) rfl (lv_at hl 0 rfl) ?_
  refine lv_iconst (v := nI 5) hx hb (show decode cX4_init 5 = .ok (.iconst 5, 1) by decide +kernel) (by decide) ?_
  refine lv_iconst (v := nI 5) hx hb (show decode cX4_init 6 = .ok (.iconst 5, 1) by decide +kernel) (by decide) ?_
  refine mk_m (len := 5) (wid := 5) (ty := .long) (kt := 5) (kr := 1) hB hM (by decide) (Or.inr ⟨rfl, rfl, rfl⟩) rfl (by decide) (fun _ _ => rfl) (fun _ _ => rfl) (by decide +kernel) hA.2.1 a_long (by decide) (by decide) (Nat.le_of_ble_eq_true rfl) (Nat.le_of_ble_eq_true rfl) (show decode cX4_init 7 = .ok (.multianewarray 9 2, 4) by decide +kernel) (fun H hM => ?_)
  refine mk_p (ix := 11) (j := 0) (t := 2) (off := 1) (C := RX4) (T := TX4) (NF := 3) (ty := tyX4 0) hB hin fokX4 rfl rfl rfl (tyX4_ok 0 (by decide)) rfl rfl (Nat.le_of_ble_eq_true rfl) hM (show decode cX4_init 11 = .ok (.putfield 11, 3) by decide +kernel) (fun H locs hM => ?_)
  refine lv_aload_n hx hb (show decode cX4_init 14 = .ok (.aload_n 0, 1) by decide +kernel) rfl (lv_at hl 0 rfl) ?_
  refine lv_iconst (v := nI 5) hx hb (show decode cX4_init 15 = .ok (.iconst 5, 1) by decide +kernel) (by decide) ?_
  refine mk_a (len := 5) 1 hB hM (by decide) rfl rfl rfl (Or.inr (Or.inl ⟨rfl, rfl⟩)) a_long (by decide) (Nat.le_of_ble_eq_true rfl) (Nat.le_of_ble_eq_true rfl) (show decode cX4_init 16 = .ok (.newarray .long, 2) by decide +kernel) (fun H hM => ?_)
  refine mk_p (ix := 16) (j := 1) (t := 2) (off := 7) (C := RX4) (T := TX4) (NF := 3) (ty := tyX4 1) hB hin fokX4 rfl rfl rfl (tyX4_ok 1 (by decide)) rfl rfl (Nat.le_of_ble_eq_true rfl) hM (show decode cX4_init 18 = .ok (.putfield 16, 3) by decide +kernel) (fun H locs hM => ?_)
  refine lv_aload_n hx hb (show decode cX4_init 21 = .ok (.aload_n 0, 1) by decide +kernel) rfl (lv_at hl 0 rfl) ?_
  refine lv_iconst (v := nI 0) hx hb (show decode cX4_init 22 = .ok (.iconst 0, 1) by decide +kernel) (by decide) ?_
  refine mk_p (ix := 20) (j := 2) (t := 0) (off := 0) (C := RX4) (T := TX4) (NF := 3) (ty := tyX4 2) hB hin fokX4 rfl rfl rfl (tyX4_ok 2 (by decide)) rfl rfl (Nat.le_of_ble_eq_true rfl) hM (show decode cX4_init 23 = .ok (.putfield 20, 3) by decide +kernel) (fun H locs hM => ?_)
  exact mk_end hB hr hlocks hM ⟨rfl, rfl⟩ rfl (Nat.le_of_ble_eq_true rfl) (Nat.le_of_ble_eq_true rfl) (show decode cX4_init 26 = .ok (.return_, 1) by decide +kernel)
set_option maxRecDepth 100000 in
theorem mkX6 (l : Launch) : MkC l yX6_init cX6_init 1 ({ frames := 1, cells := 17, slots := 308, locals := 23 }) kdT 18 3 [.int 0, .null, .null, .null, .null] (nwS I0 0 (nI 4)) 17 308 := by
  refine mk_of (own := RX6) (by decide +kernel) rfl rfl rfl (fun D cy h p e s m below meth c ls hB hin hr hlocks hM hA hl => ?_)
  obtain ⟨hx, hb, hml, hown, hts, hK⟩ := id hB
  have hsz := hM.1
  refine mk_ob (ix := 3) (x := h) (lv := []) hB hl (by decide +kernel) (Nat.le_of_ble_eq_true rfl) (Nat.le_of_ble_eq_true rfl) (by decide +kernel) (by decide +kernel) ?_
  refine lv_aload_n hx hb (show decode cX6_init 4 = .ok (.aload_n 0, 1) by decide +kernel) rfl (lv_at hl 0 rfl) ?_
  refine lv_bipush (v := nI 8) hx hb (show decode cX6_init 5 = .ok (.bipush 8, 2) by decide +kernel) (by decide) ?_
  refine lv_bipush (v := nI 32) hx hb (show decode cX6_init 7 = .ok (.bipush 32, 2) by decide +kernel) (by decide) ?_
  refine mk_m (len := 8) (wid := 32) (ty := .int) (kt := 4) (kr := 0) hB hM (by decide) (Or.inl ⟨rfl, rfl, rfl⟩) rfl (by decide) (fun _ _ => rfl) (fun _ _ => rfl) (by decide +kernel) hA.1 a_int (by decide) (by decide) (Nat.le_of_ble_eq_true rfl) (Nat.le_of_ble_eq_true rfl) (show decode cX6_init 9 = .ok (.multianewarray 9 2, 4) by decide +kernel) (fun H hM => ?_)
  refine mk_p (ix := 11) (j := 1) (t := 2) (off := 1) (C := RX6) (T := TX6) (NF := 5) (ty := tyX6 1) hB hin fokX6 rfl rfl rfl (tyX6_ok 1 (by decide)) rfl rfl (Nat.le_of_ble_eq_true rfl) hM (show decode cX6_init 13 = .ok (.putfield 11, 3) by decide +kernel) (fun H locs hM => ?_)
  refine lv_aload_n hx hb (show decode cX6_init 16 = .ok (.aload_n 0, 1) by decide +kernel) rfl (lv_at hl 0 rfl) ?_
  refine lv_iconst (v := nI 5) hx hb (show decode cX6_init 17 = .ok (.iconst 5, 1) by decide +kernel) (by decide) ?_
  refine mk_a (len := 5) 0 hB hM (by decide) rfl rfl rfl (Or.inl ⟨rfl, rfl⟩) a_int (by decide) (Nat.le_of_ble_eq_true rfl) (Nat.le_of_ble_eq_true rfl) (show decode cX6_init 18 = .ok (.newarray .int, 2) by decide +kernel) (fun H hM => ?_)
  refine mk_p (ix := 16) (j := 2) (t := 2) (off := 10) (C := RX6) (T := TX6) (NF := 5) (ty := tyX6 2) hB hin fokX6 rfl rfl rfl (tyX6_ok 2 (by decide)) rfl rfl (Nat.le_of_ble_eq_true rfl) hM (show decode cX6_init 20 = .ok (.putfield 16, 3) by decide +kernel) (fun H locs hM => ?_)
  refine lv_aload_n hx hb (show decode cX6_init 23 = .ok (.aload_n 0, 1) by decide +kernel) rfl (lv_at hl 0 rfl) ?_
  refine lv_iconst (v := nI 5) hx hb (show decode cX6_init 24 = .ok (.iconst 5, 1) by decide +kernel) (by decide) ?_
  refine lv_iconst (v := nI 5) hx hb (show decode cX6_init 25 = .ok (.iconst 5, 1) by decide +kernel) (by decide) ?_
  refine mk_m (len := 5) (wid := 5) (ty := .int) (kt := 4) (kr := 0) hB hM (by decide) (Or.inl ⟨rfl, rfl, rfl⟩) rfl (by decide) (fun _ _ => rfl) (fun _ _ => rfl) (by decide +kernel) hA.1 a_int (by decide) (by decide) (Nat.le_of_ble_eq_true rfl) (Nat.le_of_ble_eq_true rfl) (show decode cX6_init 26 = .ok (.multianewarray 9 2, 4) by decide +kernel) (fun H hM => ?_)
  refine mk_p (ix := 20) (j := 3) (t := 2) (off := 11) (C := RX6) (T := TX6) (NF := 5) (ty := tyX6 3) hB hin fokX6 rfl rfl rfl (tyX6_ok 3 (by decide)) rfl rfl (Nat.le_of_ble_eq_true rfl) hM (show decode cX6_init 30 = .ok (.putfield 20, 3) by decide +kernel) (fun H locs hM => ?_)
  refine lv_aload_n hx hb (show decode cX6_init 33 = .ok (.aload_n 0, 1) by decide +kernel) rfl (lv_at hl 0 rfl) ?_
  refine lv_bipush (v := nI 9) hx hb (show decode cX6_init 34 = .ok (.bipush 9, 2) by decide +kernel) (by decide) ?_
  refine mk_a (len := 9) 0 hB hM (by decide) rfl rfl rfl (Or.inl ⟨rfl, rfl⟩) a_int (by decide) (Nat.le_of_ble_eq_true rfl) (Nat.le_of_ble_eq_true rfl) (show decode cX6_init 36 = .ok (.newarray .int, 2) by decide +kernel) (fun H hM => ?_)
  refine mk_p (ix := 23) (j := 4) (t := 2) (off := 17) (C := RX6) (T := TX6) (NF := 5) (ty := tyX6 4) hB hin fokX6 rfl rfl rfl (tyX6_ok 4 (by decide)) rfl rfl (Nat.le_of_ble_eq_true rfl) hM (show decode cX6_init 38 = .ok (.putfield 23, 3) by decide +kernel) (fun H locs hM => ?_)
  refine lv_aload_n hx hb (show decode cX6_init 41 = .ok (.aload_n 0, 1) by decide +kernel) rfl (lv_at hl 0 rfl) ?_
  refine lv_iconst (v := nI 4) hx hb (show decode cX6_init 42 = .ok (.iconst 4, 1) by decide +kernel) (by decide) ?_
  refine mk_cr (av := [.int (nI 4)]) (rest := []) (T := TX6) (NF := 5) hB hM (by decide) rfl rfl rfl sVX6_26 (qY6_startWith l rfl I0 L0) ⟨rfl, rfl, Nat.le_of_ble_eq_true rfl, Nat.le_of_ble_eq_true rfl⟩ hsz rfl ⟨Nat.le_of_ble_eq_true rfl, Nat.le_of_ble_eq_true rfl⟩ hl.1 (Nat.le_of_ble_eq_true rfl) (show decode cX6_init 43 = .ok (.invokevirtual 26, 3) by decide +kernel) (fun H locs hM => ?_)
  exact mk_end hB hr hlocks hM ⟨rfl, rfl⟩ rfl (Nat.le_of_ble_eq_true rfl) (Nat.le_of_ble_eq_true rfl) (show decode cX6_init 46 = .ok (.return_, 1) by decide +kernel)
