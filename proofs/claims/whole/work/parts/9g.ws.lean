/-! THE LAW: what the start gives -/
theorem ar_p {args : Array Value} {s : State} {ty : FieldType} (h : (Cond.arrayClass ty).before args s = true) : ∃ cA, ArrOfT s cA ty ∧ s.vm.findClass ("[" ++ ty.toString) = some cA := by
  obtain ⟨cA, kA, comp, h1, h2, h3⟩ := Cond.arrayClass_spec h
  exact ⟨cA, fun n z => ⟨(fun k h => by cases h), kA, h2, comp, h3⟩, h1⟩
theorem ar_o {s : State} {C : String} (h : va_AO C s) : ∃ cA, ArrOfT s cA (.object C) ∧ va_RA s cA (.object C) := by
  obtain ⟨comp, cA, kA, h1, h2, h3, h4, h5⟩ := Cond.arrayOver_spec h
  exact ⟨cA, fun n z => ⟨(fun k h => by cases h), kA, h3, comp, h4⟩, kA, comp, h3, h4, h1, h5⟩
theorem ar_a {s : State} {ty : FieldType} (h : va_AOA ty s) : ∃ cA, ArrOfT s cA (.array ty) ∧ va_RA s cA (.array ty) := by
  obtain ⟨comp, cA, kA, h1, h2, h3, h4, h5⟩ := arrayOverA_spec h
  exact ⟨cA, fun n z => ⟨(fun k h => by cases h), kA, h3, comp, h4⟩, h5⟩
theorem st_AOs {args : Array Value} {s : State} (hts : ∀ w ∈ lw_tbl, w.before args s = true) : AOs s := ⟨va_AOA.of (hts (.arrayOver (.array .int)) (by decide +kernel)), va_AOA.of (hts (.arrayOver (.array .long)) (by decide +kernel)), va_AO.of (hts (.arrayOver (.object "BladeDesk$State")) (by decide +kernel))⟩
theorem st_K {args : Array Value} {s : State} (htl : ∀ w ∈ lw_tbl, w.before args s = true) (hts : ∀ w ∈ WB, w.before args s = true) : ∃ (D : va_G) (cy : Nat → ClassId), va_K D vwCl (tysC cy) s := by
  obtain ⟨c0, i0, k0⟩ := u_known (C := RX1) (T := TX1) (N := 6) (n := 6) hts clsX1.2.1 (hts (.instantiable RX1 6) (by decide +kernel))
  obtain ⟨c1, i1, k1⟩ := u_known (C := RX3) (T := TX3) (N := 3) (n := 3) hts clsX3.2.1 (hts (.instantiable RX3 3) (by decide +kernel))
  obtain ⟨c2, i2, k2⟩ := u_known (C := RX4) (T := TX4) (N := 3) (n := 3) hts clsX4.2.1 (hts (.instantiable RX4 3) (by decide +kernel))
  obtain ⟨c3, i3, k3⟩ := u_known (C := RX6) (T := TX6) (N := 5) (n := 5) hts clsX6.2.1 (hts (.instantiable RX6 5) (by decide +kernel))
  obtain ⟨c4, i4, k4⟩ := u_known (C := RX7) (T := TX7) (N := 11) (n := 11) hts clsX7.2.1 (hts (.instantiable RX7 11) (by decide +kernel))
  obtain ⟨c5, i5, k5⟩ := u_known (C := RX8) (T := TX8) (N := 24) (n := 24) hts clsX8.2.1 (hts (.instantiable RX8 24) (by decide +kernel))
  obtain ⟨a0, p0, q0⟩ := ar_p (hts (.arrayClass .int) (by decide +kernel))
  obtain ⟨a1, p1, q1⟩ := ar_p (hts (.arrayClass .long) (by decide +kernel))
  obtain ⟨a2, p2, q2⟩ := ar_p (hts (.arrayClass .boolean) (by decide +kernel))
  obtain ⟨a6, p6, q6⟩ := ar_p (hts (.arrayClass .double) (by decide +kernel))
  obtain ⟨o1, o2, o3⟩ := st_AOs htl
  obtain ⟨a3, p3, q3⟩ := ar_o o3
  obtain ⟨a4, p4, q4⟩ := ar_a o1
  obtain ⟨a5, p5, q5⟩ := ar_a o2
  refine ⟨(fun k => match k with | 0 => c0 | 1 => c1 | 2 => c2 | 3 => c3 | 4 => c4 | _ => c5, fun k => match k with | 0 => i0 | 1 => i1 | 2 => i2 | 3 => i3 | 4 => i4 | _ => i5), (fun k => match k with | 0 => a0 | 1 => a1 | 2 => a2 | 3 => a3 | 4 => a4 | 5 => a5 | _ => a6), fun k q hq => ?_, fun k q hq => ?_⟩
  · match k, hq with
    | 0, hq => cases hq; exact k0
    | 1, hq => cases hq; exact k1
    | 2, hq => cases hq; exact k2
    | 3, hq => cases hq; exact k3
    | 4, hq => cases hq; exact k4
    | 5, hq => cases hq; exact k5
    | k + 6, hq => simp [vwCl] at hq
  · match k, hq with
    | 0, hq => cases hq; exact ⟨p0, q0⟩
    | 1, hq => cases hq; exact ⟨p1, q1⟩
    | 2, hq => cases hq; exact ⟨p2, q2⟩
    | 3, hq => cases hq; exact ⟨p3, q3⟩
    | 4, hq => cases hq; exact ⟨p4, q4⟩
    | 5, hq => cases hq; exact ⟨p5, q5⟩
    | 6, hq => cases hq; exact ⟨p6, q6⟩
    | k + 7, hq => simp [tysC] at hq
theorem st_tx1 : ∀ q ∈ txts, Cond.stringRef "BladeDesk" q.1 q.2 ∈ lw_tbl := by decide +kernel
theorem st_tx2 : ∀ q ∈ txts, Cond.exactly (.string "BladeDesk" q.1) "java/lang/String" ∈ flatC (Jvm.Cond.and given_1 narrow_1) := by decide +kernel
theorem st_nw1 : ∀ x ∈ nwD, Cond.declares x ∈ lw_tbl := by decide +kernel
theorem st_nw2 : ∀ C ∈ nwC, Cond.castable C C ∈ lw_tbl := by decide +kernel
theorem st_LEX {b : Nat} {s : State} (hts : ∀ w ∈ lw_tbl, w.before #[Value.ref b] s = true) (hgv : (Jvm.Cond.and given_1 narrow_1).before #[Value.ref b] s = true) : LEX s.heap.size s := by
  have hs := flat_of_before _ hgv
  have hi : (Cond.initialized Bundle.tN).before #[Value.ref b] s = true := hts _ (by decide +kernel)
  have hA : ∀ a : Nat, a < s.heap.size → ¬ (fun q => s.heap.size ≤ q) a := fun a h => Nat.not_le.mpr h
  refine ⟨⟨vx_Zqof (hts (.laysStatic Bundle.tN "UNASSIGNED_STACK" Bundle.steD) (by decide +kernel)) hi (hs _ (by decide +kernel)) hA, vx_Zqof (hts (.laysStatic Bundle.tN "SUPPRESSED_SENTINEL" Bundle.listD) (by decide +kernel)) hi (hs _ (by decide +kernel)) hA, fun q hq => ?_, fun x hx => va_Nw.of rfl (hts _ (st_nw1 x hx)), fun C hC => va_Nw.of rfl (hts _ (st_nw2 C hC))⟩, va_Nc.of (hs (.not (.castable exA exB)) (by decide +kernel)), va_Nc.of (hs (.not (.castable exS exB)) (by decide +kernel)), va_Nc.of (hs (.not (.castable exS exA)) (by decide +kernel))⟩
  obtain ⟨a, _, _, _, ha, -⟩ := Cond.exactly_spec (hs _ (st_tx2 q hq))
  exact ⟨a, vk_R.of (hts _ (st_tx1 q hq)) ha⟩
section ST
variable {p : Program} {l : Launch} {e : Env} {R : Room} {s : State} {m : MethodId} {args : Array Value} {below : List Frame} {meth : Method} {c : Code} {Q : State → Prop} {cc : ByteArray} {nL : Nat} {own : String} {D : va_G} {cy : Nat → ClassId} {H : Heap} {locs : List Loc} {cells slots pc : Nat} {ls : Array Slot} {rest : List Value}
/-- new, dup, and the constructor, beside what is there -/
theorem mk_new0 {y : MethodName} {bytes : ByteArray} {maxL : Nat} {rm : Room} {kd' : KdT} {N' ci' mc ms index ic : Nat} {fs' : List Value} {I' : IM} {C : String} {T : u_T} {NF : Nat} (ty : Nat → FieldType) (hB : Bx p s m args c cc nL own D cy) (hC : MkC l y bytes maxL rm kd' N' ci' fs' I' mc ms) (hAO : AOs s)
    (hc : vwCl[ci']? = some (C, T, NF)) (hin : ∀ w ∈ u_ws C T NF, w ∈ WB) (hty : ∀ k, k < NF → parseFieldDescriptor (T k).2.2.1 = some (ty k)) (hfs : ∀ j, j < NF → defaultValue (ty j) = vp_V fs' j) (w1 : Cond.classLink own index C ∈ WB) (w2 : Cond.instantiable C NF ∈ WB) (w3 : Cond.initialized C ∈ WB)
    (hyc : y.cls = C) (v1 : Cond.methodLink own ic y ∈ WB) (v2 : Cond.instanceMethod y ∈ WB) (v3 : Cond.code y bytes maxL none ∈ WB) (hyn : y.name = "<init>") (hdd : y.cls ≠ "java/lang/invoke/MethodHandle" ∧ y.cls ≠ "java/lang/invoke/VarHandle" ∧ (parseMethodDescriptor y.desc).map (fun d => d.parameters.length) = some 0)
    (hrm : rm.cells = mc ∧ rm.slots = ms) (hR : rm.frames + 1 ≤ R.frames ∧ 8 + (maxL + 11) + rm.locals ≤ R.locals) (hcells : cells + 1 + mc ≤ R.cells) (hslots : slots + NF + ms ≤ R.slots) (hcat : (rest.map fun v => v.category).sum ≤ 7)
    (d0 : decode cc pc = .ok (.new index, 3)) (d1 : decode cc (pc + 3) = .ok (.dup, 1)) (d2 : decode cc (pc + 4) = .ok (.invokespecial ic, 3))
    (kk : ∀ (H1 : Heap) (locs1 : List Loc), H1.size = H.size + N' → wd D cy kd' (adH H.size) N' I' L0 H1 → (∀ q : Nat, q < H.size → H1[q]? = H[q]?) → (∀ z ∈ locs1, z ∈ locs ∨ H.size ≤ z.base) → W p l e R s m args below meth c H1 locs1 (cells + 1 + mc) (slots + NF + ms) Q (F0 m (pc + 7) ls (.ref H.size :: rest))) (hls : ls.size = nL) : W p l e R s m args below meth c H locs cells slots Q (F0 m pc ls rest) := by
  refine mknew ty hB hc hin hty hfs w1 w2 w3 (by omega) (by omega) d0 fun H1 e1 z1 o1 => ?_
  obtain ⟨hx, hb, hml, hown, hts, hK⟩ := hB
  refine lv_dup hx hb d1 rfl ?_
  refine mkback (Qc := MkQ D cy kd' H.size N' I') (a := (Value.ref H.size :: []).toArray) (va_runI (n := 0) (b := H.size) (As := []) (rest := .ref H.size :: rest) ⟨hx, hb, hml, hown, hts⟩ (hC D cy H.size) (cwI 0 hts (gIn (fun w hw => ?_)) rfl hrm.1 hrm.2 (hts _ (by rw [hyc]; exact w3)) (hts _ v1) (hts _ v2) hyn hdd hR) ⟨fun a U g mk q => ⟨q.1, q.2.1, q.2.2.1, va_K.moved (u := U) (U := U.calling g mk a) (Vm.Alike.refl U.vm) q.2.2.2.1, q.2.2.2.2.moved (U := U.calling g mk a) (Vm.Alike.refl U.vm)⟩, fun U hU hWm => ⟨rfl, by rw [hU, z1], by rw [hU]; exact e1, va_K.moved hWm.alike hK, hAO.moved hWm.alike⟩⟩ rfl rfl hls rfl (lv_room (by simp only [List.map_cons, List.sum_cons]; show 1 + _ ≤ 8; omega)) d2 ⟨by omega, by omega⟩) (fun v st t Lx g0 gL hq => ?_)
  · rcases List.mem_cons.mp hw with rfl | h
    · exact v3
    · exact h
  · obtain ⟨q1, q2, q3, q4⟩ := hq
    have hv : v = none := by cases q1; rfl
    subst hv
    refine kk t.heap _ q2 q3 (fun q hq => by rw [q4 q hq, g0]; exact o1 q hq) (fun z hz => ?_)
    rcases List.mem_append.mp hz with e | e
    · exact Or.inl e
    · exact Or.inr (gL z e)
end ST
set_option maxHeartbeats 4000000 in
theorem whole_start {p : Program} {e : Env} {s : State} {m : MethodId} {below : List Frame} {meth : Method} {c : Code} (l : Launch) (hflags : l.flags = flags0) {b L : Nat} {xs : Nat → Int32} (hL : L ≤ 2048) (C0 : lw_At p s m meth c b L xs) : W p l e room_1 s m #[Value.ref b] below meth c s.heap [] 0 0 (lw_Z below #[Value.ref b] s) (entryFrame m ([Value.ref b] : List Value).toArray 9) := by
  obtain ⟨hx, hb, hr, hml, hown, hts, hXs, hbl, hlocks, hgv⟩ := id C0
  have hlt : l.stackTraces = false := by
    unfold Launch.stackTraces
    rw [hflags]
    first | rfl | decide +kernel | simp [flags0]
  have htW : ∀ w ∈ WB, w.before #[Value.ref b] s = true := fun w hw => hts w (List.mem_filter.mp hw).1
  obtain ⟨D, cy, hK⟩ := st_K hts htW
  have hAO := st_AOs hts
  have hE := st_LEX hts hgv
  have hB : Bx p s m #[Value.ref b] c code 9 RL D cy := ⟨hx, hb, hml, hown, htW, hK⟩
  have hl := lv_entry ([.ref b]) (n := 9) (Nat.le_of_ble_eq_true rfl)
  rw [lg_entry_eq]
  generalize (lg_sl ([.ref b]) ++ List.replicate (9 - (lg_sl ([.ref b])).length) Slot.unset).toArray = ls at hl ⊢
  have hl : lv_has ls 9 [(0, .ref b)] := hl
  refine mk_new0 (index := 8) (ic := 112) (C := RX7) (T := TX7) (NF := 11) tyX7 hB (mkX7 l) hAO rfl clsX7.2.1 tyX7_ok h_X7 (by decide +kernel) (by decide +kernel) (by decide +kernel) rfl (by decide +kernel) (by decide +kernel) (by decide +kernel) rfl (by decide +kernel) ⟨rfl, rfl⟩ ⟨Nat.le_of_ble_eq_true rfl, Nat.le_of_ble_eq_true rfl⟩ (Nat.le_of_ble_eq_true rfl) (Nat.le_of_ble_eq_true rfl) (Nat.le_of_ble_eq_true rfl) (show decode code 0 = .ok (.new 8, 3) by decide +kernel) (show decode code 3 = .ok (.dup, 1) by decide +kernel) (show decode code 4 = .ok (.invokespecial 112, 3) by decide +kernel) (fun H1 locs1 z1 w1 o1 g1 => ?_) hl.1
  refine lv_astore_n (lv' := [(1, .ref s.heap.size), (0, .ref b)]) hx hb (show decode code 7 = .ok (.astore_n 1, 1) by decide +kernel) rfl hl (by decide) rfl (fun ls hl => ?_)
  refine mk_new0 (index := 113) (ic := 115) (C := RX8) (T := TX8) (NF := 24) tyX8 hB (mkX8 l) hAO rfl clsX8.2.1 tyX8_ok h_X8 (by decide +kernel) (by decide +kernel) (by decide +kernel) rfl (by decide +kernel) (by decide +kernel) (by decide +kernel) rfl (by decide +kernel) ⟨rfl, rfl⟩ ⟨Nat.le_of_ble_eq_true rfl, Nat.le_of_ble_eq_true rfl⟩ (Nat.le_of_ble_eq_true rfl) (Nat.le_of_ble_eq_true rfl) (Nat.le_of_ble_eq_true rfl) (show decode code 8 = .ok (.new 113, 3) by decide +kernel) (show decode code 11 = .ok (.dup, 1) by decide +kernel) (show decode code 12 = .ok (.invokespecial 115, 3) by decide +kernel) (fun H2 locs2 z2 w2 o2 g2 => ?_) hl.1
  rw [z1] at z2 w2 o2 g2 ⊢
  refine lv_astore_n (lv' := [(2, .ref (s.heap.size + 181)), (1, .ref s.heap.size), (0, .ref b)]) hx hb (show decode code 15 = .ok (.astore_n 2, 1) by decide +kernel) rfl hl (by decide) rfl (fun ls hl => ?_)
  refine lv_iconst (v := nI 1) hx hb (show decode code 16 = .ok (.iconst 1, 1) by decide +kernel) (by decide) ?_
  refine mknewa (k := 1) hB rfl (by decide +kernel) (by decide) (by decide) (Nat.le_of_ble_eq_true rfl) (Nat.le_of_ble_eq_true rfl) (show decode code 17 = .ok (.newarray .long, 2) by decide +kernel) (fun H3 e3 z3 o3 => ?_)
  rw [z2] at e3 z3 o3 ⊢
  refine lv_astore_n (lv' := [(3, .ref (s.heap.size + 193)), (2, .ref (s.heap.size + 181)), (1, .ref s.heap.size), (0, .ref b)]) hx hb (show decode code 19 = .ok (.astore_n 3, 1) by decide +kernel) rfl hl (by decide) rfl (fun ls hl => ?_)
  refine lv_iconst (v := nI 1) hx hb (show decode code 20 = .ok (.iconst 1, 1) by decide +kernel) (by decide) ?_
  refine mknewa (k := 6) hB rfl (by decide +kernel) (by decide) (by decide) (Nat.le_of_ble_eq_true rfl) (Nat.le_of_ble_eq_true rfl) (show decode code 21 = .ok (.newarray .double, 2) by decide +kernel) (fun H4 e4 z4 o4 => ?_)
  rw [z3] at e4 z4 o4 ⊢
  refine lv_astore (lv' := [(4, .ref (s.heap.size + 194)), (3, .ref (s.heap.size + 193)), (2, .ref (s.heap.size + 181)), (1, .ref s.heap.size), (0, .ref b)]) hx hb (show decode code 23 = .ok (.astore 4, 2) by decide +kernel) hl (by decide) rfl (fun ls hl => ?_)
  refine lv_iconst (v := nI 0) hx hb (show decode code 25 = .ok (.iconst 0, 1) by decide +kernel) (by decide) ?_
  refine lv_istore (lv' := LVs b s.heap.size 0) hx hb (show decode code 26 = .ok (.istore 5, 2) by decide +kernel) hl (by decide) rfl (fun ls hl => ?_)
  have hX : LX p s m c D cy b L xs := ⟨hB, hE, hXs, hbl, hL⟩
  have oA : ∀ q : Nat, q < s.heap.size + 193 → H4[q]? = H2[q]? := fun q hq => (o4 q (by omega)).trans (o3 q hq)
  refine law_loop hlt hX hr hlocks 512 0 IC (lpR (mu I0 1 0 (nI 4))) L0 L0 0 0 H4 locs2 ls _ _ (by omega) (Nat.zero_le L) (Nat.le_of_ble_eq_true rfl) (Nat.le_of_ble_eq_true rfl) sim0 ⟨wd_kept w1 (fun i hi => ?_), wd_kept w2 (fun i hi => oA _ (by unfold adH; omega)), ?_, ?_, by omega, fun q h1 h2 => ?_, fun z hz => ?_⟩ hl
  · exact (oA _ (by unfold adH; omega)).trans (o2 _ (by unfold adH; omega))
  · exact (o4 _ (by omega)).trans e3
  · exact e4
  · exact ((oA q (by omega)).trans (o2 q (by omega))).trans (o1 q h1)
  · rcases g2 z hz with e | e
    · rcases g1 z e with e | e
      · cases e
      · exact e
    · show s.heap.size ≤ z.base
      omega
