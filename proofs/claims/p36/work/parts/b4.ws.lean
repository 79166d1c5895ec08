/-! THE LAW: what the start gives -/
theorem ar_p {args : Array Value} {s : State} {ty : FieldType} (h : (Cond.arrayClass ty).before args s = true) : ∃ cA, ArrOfT s cA ty ∧ s.vm.findClass ("[" ++ ty.toString) = some cA := by
  obtain ⟨cA, kA, comp, h1, h2, h3⟩ := Cond.arrayClass_spec h
  exact ⟨cA, fun n z => ⟨(fun k h => by cases h), kA, h2, comp, h3⟩, h1⟩
theorem ar_o {s : State} {C : String} (h : va_AO C s) : ∃ cA, ArrOfT s cA (.object C) ∧ va_RA s cA (.object C) := by
  obtain ⟨comp, cA, kA, h1, h2, h3, h4, h5⟩ := Cond.arrayOver_spec h
  exact ⟨cA, fun n z => ⟨(fun k h => by cases h), kA, h3, comp, h4⟩, kA, comp, h3, h4, h1, h5⟩
theorem ar_a {s : State} {ty : FieldType} (h : va_AOA ty s) : ∃ cA, ArrOfT s cA (.array ty) ∧ va_RA s cA (.array ty) := by
  obtain ⟨comp, cA, kA, h1, h2, h3, h4, h5⟩ := arrayOverA_spec h
  exact ⟨cA, fun n z => ⟨(fun k h => by cases h), kA, h3, comp, h4⟩, h5⟩
theorem st_AOs {args : Array Value} {s : State} (hts : ∀ w ∈ lw_tbl, w.before args s = true) : AOs s := ⟨va_AOA.of (hts (.arrayOver (.array .int)) (by decide +kernel)), va_AOA.of (hts (.arrayOver (.array .long)) (by decide +kernel)), va_AO.of (hts (.arrayOver (.object "BladeDesk$State")) (by decide +kernel))⟩
theorem st_K {args : Array Value} {s : State} (htl : ∀ w ∈ lw_tbl, w.before args s = true) (hts : ∀ w ∈ WB, w.before args s = true) : ∃ (D : va_G) (cy : Nat → ClassId), va_K D vwCl (tysC cy) s := by
  obtain ⟨c0, i0, k0⟩ := u_known (C := RX1) (T := TX1) (N := 6) (n := 6) hts clsX1.2.1 (hts (.instantiable RX1 6) (by decide +kernel))
  obtain ⟨c1, i1, k1⟩ := u_known (C := RX3) (T := TX3) (N := 3) (n := 3) hts clsX3.2.1 (hts (.instantiable RX3 3) (by decide +kernel))
  obtain ⟨c2, i2, k2⟩ := u_known (C := RX4) (T := TX4) (N := 3) (n := 3) hts clsX4.2.1 (hts (.instantiable RX4 3) (by decide +kernel))
  obtain ⟨c3, i3, k3⟩ := u_known (C := RX6) (T := TX6) (N := 5) (n := 5) hts clsX6.2.1 (hts (.instantiable RX6 5) (by decide +kernel))
  obtain ⟨c4, i4, k4⟩ := u_known (C := RX7) (T := TX7) (N := 11) (n := 11) hts clsX7.2.1 (hts (.instantiable RX7 11) (by decide +kernel))
  obtain ⟨a0, p0, q0⟩ := ar_p (hts (.arrayClass .int) (by decide +kernel))
  obtain ⟨a1, p1, q1⟩ := ar_p (hts (.arrayClass .long) (by decide +kernel))
  obtain ⟨a2, p2, q2⟩ := ar_p (hts (.arrayClass .boolean) (by decide +kernel))
  obtain ⟨o1, o2, o3⟩ := st_AOs htl
  obtain ⟨a3, p3, q3⟩ := ar_o o3
  obtain ⟨a4, p4, q4⟩ := ar_a o1
  obtain ⟨a5, p5, q5⟩ := ar_a o2
  refine ⟨(fun k => match k with | 0 => c0 | 1 => c1 | 2 => c2 | 3 => c3 | _ => c4, fun k => match k with | 0 => i0 | 1 => i1 | 2 => i2 | 3 => i3 | _ => i4), (fun k => match k with | 0 => a0 | 1 => a1 | 2 => a2 | 3 => a3 | 4 => a4 | _ => a5), fun k q hq => ?_, fun k q hq => ?_⟩
  · match k, hq with
    | 0, hq => cases hq; exact k0
    | 1, hq => cases hq; exact k1
    | 2, hq => cases hq; exact k2
    | 3, hq => cases hq; exact k3
    | 4, hq => cases hq; exact k4
    | k + 5, hq => simp [vwCl] at hq
  · match k, hq with
    | 0, hq => cases hq; exact ⟨p0, q0⟩
    | 1, hq => cases hq; exact ⟨p1, q1⟩
    | 2, hq => cases hq; exact ⟨p2, q2⟩
    | 3, hq => cases hq; exact ⟨p3, q3⟩
    | 4, hq => cases hq; exact ⟨p4, q4⟩
    | 5, hq => cases hq; exact ⟨p5, q5⟩
    | k + 6, hq => simp [tysC] at hq
section ST
variable {p : Program} {l : Launch} {e : Env} {R : Room} {s : State} {m : MethodId} {args : Array Value} {below : List Frame} {meth : Method} {c : Code} {Q : State → Prop} {cc : ByteArray} {nL : Nat} {own : String} {D : va_G} {cy : Nat → ClassId} {H : Heap} {locs : List Loc} {cells slots pc : Nat} {ls : Array Slot} {rest : List Value}
/-- new, dup, and the constructor, beside what is there -/
theorem mk_new0 {y : MethodName} {bytes : ByteArray} {maxL : Nat} {rm : Room} {kd' : KdT} {N' ci' mc ms index ic : Nat} {fs' : List Value} {I' : IM} {C : String} {T : u_T} {NF : Nat} (ty : Nat → FieldType) (hB : Bx p s m args c cc nL own D cy) (hC : MkC l y bytes maxL rm kd' N' ci' fs' I' mc ms) (hAO : AOs s)
    (hc : vwCl[ci']? = some (C, T, NF)) (hin : ∀ w ∈ u_ws C T NF, w ∈ WB) (hty : ∀ k, k < NF → parseFieldDescriptor (T k).2.2.1 = some (ty k)) (hfs : ∀ j, j < NF → defaultValue (ty j) = vp_V fs' j) (w1 : Cond.classLink own index C ∈ WB) (w2 : Cond.instantiable C NF ∈ WB) (w3 : Cond.initialized C ∈ WB)
    (hyc : y.cls = C) (v1 : Cond.methodLink own ic y ∈ WB) (v2 : Cond.instanceMethod y ∈ WB) (v3 : Cond.code y bytes maxL none ∈ WB) (hyn : y.name = "<init>") (hdd : y.cls ≠ "java/lang/invoke/MethodHandle" ∧ y.cls ≠ "java/lang/invoke/VarHandle" ∧ (parseMethodDescriptor y.desc).map (fun d => d.parameters.length) = some 0)
    (hrm : rm.cells = mc ∧ rm.slots = ms) (hR : rm.frames + 1 ≤ R.frames ∧ 8 + (maxL + 11) + rm.locals ≤ R.locals) (hcells : cells + 1 + mc ≤ R.cells) (hslots : slots + NF + ms ≤ R.slots) (hcat : (rest.map fun v => v.category).sum ≤ 7)
    (d0 : decode cc pc = .ok (.new index, 3)) (d1 : decode cc (pc + 3) = .ok (.dup, 1)) (d2 : decode cc (pc + 4) = .ok (.invokespecial ic, 3))
    (kk : ∀ (H1 : Heap) (locs1 : List Loc), H1.size = H.size + N' → wd D cy kd' (adH H.size) N' I' L0 H1 → (∀ q : Nat, q < H.size → H1[q]? = H[q]?) → (∀ z ∈ locs1, z ∈ locs ∨ H.size ≤ z.base) → W p l e R s m args below meth c H1 locs1 (cells + 1 + mc) (slots + NF + ms) Q (F0 m (pc + 7) ls (.ref H.size :: rest))) (hls : ls.size = nL) : W p l e R s m args below meth c H locs cells slots Q (F0 m pc ls rest) := by
  refine mknew ty hB hc hin hty hfs w1 w2 w3 (by omega) (by omega) d0 fun H1 e1 z1 o1 => ?_
  obtain ⟨hx, hb, hml, hown, hts, hK⟩ := hB
  refine lv_dup hx hb d1 rfl ?_
  refine mkback (Qc := MkQ D cy kd' H.size N' I') (a := (Value.ref H.size :: []).toArray) (va_runI (n := 0) (b := H.size) (As := []) (rest := .ref H.size :: rest) ⟨hx, hb, hml, hown, hts⟩ (hC D cy H.size) (cwI 0 hts (gIn (fun w hw => ?_)) rfl hrm.1 hrm.2 (hts _ (by rw [hyc]; exact w3)) (hts _ v1) (hts _ v2) hyn hdd hR) ⟨fun a U g mk q => ⟨q.1, q.2.1, q.2.2.1, va_K.moved (u := U) (U := U.calling g mk a) (Vm.Alike.refl U.vm) q.2.2.2.1, q.2.2.2.2.moved (U := U.calling g mk a) (Vm.Alike.refl U.vm)⟩, fun U hU hWm => ⟨rfl, by rw [hU, z1], by rw [hU]; exact e1, va_K.moved hWm.alike hK, hAO.moved hWm.alike⟩⟩ rfl rfl hls rfl (lv_room (by simp only [List.map_cons, List.sum_cons]; show 1 + _ ≤ 8; omega)) d2 ⟨by omega, by omega⟩) (fun v st t Lx g0 gL hq => ?_)
  · rcases List.mem_cons.mp hw with rfl | h
    · exact v3
    · exact h
  · obtain ⟨q1, q2, q3, q4⟩ := hq
    have hv : v = none := by cases q1; rfl
    subst hv
    refine kk t.heap _ q2 q3 (fun q hq => by rw [q4 q hq, g0]; exact o1 q hq) (fun z hz => ?_)
    rcases List.mem_append.mp hz with e | e
    · exact Or.inl e
    · exact Or.inr (gL z e)
end ST
theorem kdL_181 : ∀ i, i < 189 → 181 ≤ i → kdL i = if i = 181 then (2, 64, 0) else if i ≤ 185 then (2, 32, 0) else if i = 186 then (1, 25, 0) else if i = 187 then (1, 32, 0) else (1, 15, 0) := fun i h1 h2 => by
  unfold kdL
  rw [if_neg (by omega)]
  repeat' split
  all_goals first | rfl | omega
def adB (h b : Nat) : Nat → Nat := fun i => if i < 189 then h + i else b
theorem adB_lo {h b i : Nat} (hi : i < 189) : adB h b i = h + i := if_pos hi
theorem ctn_ad {cy : Nat → ClassId} {h b i : Nat} {I : IM} {L : LM} (hi : i < 181) : ctn cy kdL (adB h b) I L i = ctn cy kdC (adH h) I L i := by
  have e : ∀ (k ci : Nat) (l : List (Nat × Nat)), (∀ x ∈ l, i + x.2 < 189) → fdv (adB h b) I L i k l = fdv (adH h) I L i k l := by
    intro k ci l
    induction l generalizing k with
    | nil => intro _; rfl
    | cons x t ih =>
      obtain ⟨a, o⟩ := x
      intro hx
      simp only [fdv, ih (k + 1) (fun y hy => hx y (List.mem_cons_of_mem _ hy)), adB_lo (hx (a, o) List.mem_cons_self)]
      rfl
  have hf : ∀ i, i < 181 → (kdC i).1 = 0 → ∀ x ∈ FD (kdC i).2.1, i + x.2 < 189 := by decide +kernel
  have hq : ∀ i, i < 181 → 4 ≤ (kdC i).1 → ∀ j, j < (kdC i).2.1 → i + 1 + j * (kdC i).2.2 < 189 := by decide +kernel
  unfold ctn
  rw [kdL_lo hi]
  by_cases h0 : (kdC i).1 = 0
  · rw [if_pos h0, if_pos h0, e 0 0 _ (hf i hi h0)]
  · rw [if_neg h0, if_neg h0]
    by_cases h1 : (kdC i).1 = 1
    · rw [if_pos h1, if_pos h1]
    · rw [if_neg h1, if_neg h1]
      by_cases h2 : (kdC i).1 = 2
      · rw [if_pos h2, if_pos h2]
      · rw [if_neg h2, if_neg h2]
        by_cases h3 : (kdC i).1 = 3
        · rw [if_pos h3, if_pos h3]
        · rw [if_neg h3, if_neg h3]
          have : (fun j => if j < (kdC i).2.1 then some (adB h b (i + 1 + j * (kdC i).2.2)) else none) = (fun j => if j < (kdC i).2.1 then some (adH h (i + 1 + j * (kdC i).2.2)) else none) := by
            funext j
            by_cases hj : j < (kdC i).2.1
            · rw [if_pos hj, if_pos hj, adB_lo (hq i hi (by omega) j hj)]
              rfl
            · rw [if_neg hj, if_neg hj]
          rw [this]
set_option maxHeartbeats 4000000 in
theorem whole_start {p : Program} {e : Env} {s : State} {m : MethodId} {below : List Frame} {meth : Method} {c : Code} (l : Launch) (hflags : l.flags = flags0) {b L : Nat} {xs : Nat → Int32} (hL : L ≤ 260) (C0 : lw_At p s m meth c b L xs) : W p l e room_1 s m #[Value.ref b] below meth c s.heap [] 0 0 (lw_Z below #[Value.ref b] s) (entryFrame m ([Value.ref b] : List Value).toArray 14) := by
  obtain ⟨hx, hb, hr, hml, hown, hts, hXs, hbl, hlocks, hgv⟩ := id C0
  have htW : ∀ w ∈ WB, w.before #[Value.ref b] s = true := fun w hw => hts w (List.mem_filter.mp hw).1
  obtain ⟨D, cy, hK⟩ := st_K hts htW
  have hAO := st_AOs hts
  have hB : Bx p s m #[Value.ref b] c cL_law 14 RL D cy := ⟨hx, hb, hml, hown, htW, hK⟩
  have hb : c.code = cL_law := hb
  have hl := lv_entry ([.ref b]) (n := 14) (Nat.le_of_ble_eq_true rfl)
  rw [lg_entry_eq]
  generalize (lg_sl ([.ref b]) ++ List.replicate (14 - (lg_sl ([.ref b])).length) Slot.unset).toArray = ls at hl ⊢
  have hl : lv_has ls 14 [(0, .ref b)] := hl
  have wI : Cond.arrayClass (newarray.typeOf .int) ∈ WB := by decide +kernel
  have wL : Cond.arrayClass (newarray.typeOf .long) ∈ WB := by decide +kernel
  refine mk_new0 (index := 48) (ic := 165) (C := RX7) (T := TX7) (NF := 11) tyX7 hB (mkX7 l) hAO rfl clsX7.2.1 tyX7_ok h_X7 (by decide +kernel) (by decide +kernel) (by decide +kernel) rfl (by decide +kernel) (by decide +kernel) (by decide +kernel) rfl (by decide +kernel) ⟨rfl, rfl⟩ ⟨Nat.le_of_ble_eq_true rfl, Nat.le_of_ble_eq_true rfl⟩ (Nat.le_of_ble_eq_true rfl) (Nat.le_of_ble_eq_true rfl) (Nat.le_of_ble_eq_true rfl) (show decode cL_law 0 = .ok (.new 48, 3) by decide +kernel) (show decode cL_law 3 = .ok (.dup, 1) by decide +kernel) (show decode cL_law 4 = .ok (.invokespecial 165, 3) by decide +kernel) (fun H1 locs1 z1 w1 o1 g1 => ?_) hl.1
  refine lv_astore_n (lv' := [(1, .ref s.heap.size), (0, .ref b)]) hx hb (show decode cL_law 7 = .ok (.astore_n 1, 1) by decide +kernel) rfl hl (by decide) rfl (fun ls hl => ?_)
  refine lv_bipush (v := nI 64) hx hb (show decode cL_law 8 = .ok (.bipush 64, 2) by decide +kernel) (by decide) ?_
  refine mknewa (k := 1) hB rfl wL (by decide) (by decide) (Nat.le_of_ble_eq_true rfl) (Nat.le_of_ble_eq_true rfl) (show decode cL_law 10 = .ok (.newarray .long, 2) by decide +kernel) (fun H2 e2 z2 o2 => ?_)
  rw [z1] at e2 z2 o2 ⊢
  refine lv_astore_n (lv' := [(2, .ref (s.heap.size + 181)), (1, .ref s.heap.size), (0, .ref b)]) hx hb (show decode cL_law 12 = .ok (.astore_n 2, 1) by decide +kernel) rfl hl (by decide) rfl (fun ls hl => ?_)
  refine lv_bipush (v := nI 32) hx hb (show decode cL_law 13 = .ok (.bipush 32, 2) by decide +kernel) (by decide) ?_
  refine mknewa (k := 1) hB rfl wL (by decide) (by decide) (Nat.le_of_ble_eq_true rfl) (Nat.le_of_ble_eq_true rfl) (show decode cL_law 15 = .ok (.newarray .long, 2) by decide +kernel) (fun H3 e3 z3 o3 => ?_)
  rw [z2] at e3 z3 o3 ⊢
  refine lv_astore_n (lv' := [(3, .ref (s.heap.size + 182)), (2, .ref (s.heap.size + 181)), (1, .ref s.heap.size), (0, .ref b)]) hx hb (show decode cL_law 17 = .ok (.astore_n 3, 1) by decide +kernel) rfl hl (by decide) rfl (fun ls hl => ?_)
  refine lv_bipush (v := nI 32) hx hb (show decode cL_law 18 = .ok (.bipush 32, 2) by decide +kernel) (by decide) ?_
  refine mknewa (k := 1) hB rfl wL (by decide) (by decide) (Nat.le_of_ble_eq_true rfl) (Nat.le_of_ble_eq_true rfl) (show decode cL_law 20 = .ok (.newarray .long, 2) by decide +kernel) (fun H4 e4 z4 o4 => ?_)
  rw [z3] at e4 z4 o4 ⊢
  refine lv_astore (lv' := [(4, .ref (s.heap.size + 183)), (3, .ref (s.heap.size + 182)), (2, .ref (s.heap.size + 181)), (1, .ref s.heap.size), (0, .ref b)]) hx hb (show decode cL_law 22 = .ok (.astore 4, 2) by decide +kernel) hl (by decide) rfl (fun ls hl => ?_)
  refine lv_bipush (v := nI 32) hx hb (show decode cL_law 24 = .ok (.bipush 32, 2) by decide +kernel) (by decide) ?_
  refine mknewa (k := 1) hB rfl wL (by decide) (by decide) (Nat.le_of_ble_eq_true rfl) (Nat.le_of_ble_eq_true rfl) (show decode cL_law 26 = .ok (.newarray .long, 2) by decide +kernel) (fun H5 e5 z5 o5 => ?_)
  rw [z4] at e5 z5 o5 ⊢
  refine lv_astore (lv' := [(5, .ref (s.heap.size + 184)), (4, .ref (s.heap.size + 183)), (3, .ref (s.heap.size + 182)), (2, .ref (s.heap.size + 181)), (1, .ref s.heap.size), (0, .ref b)]) hx hb (show decode cL_law 28 = .ok (.astore 5, 2) by decide +kernel) hl (by decide) rfl (fun ls hl => ?_)
  refine lv_bipush (v := nI 32) hx hb (show decode cL_law 30 = .ok (.bipush 32, 2) by decide +kernel) (by decide) ?_
  refine mknewa (k := 1) hB rfl wL (by decide) (by decide) (Nat.le_of_ble_eq_true rfl) (Nat.le_of_ble_eq_true rfl) (show decode cL_law 32 = .ok (.newarray .long, 2) by decide +kernel) (fun H6 e6 z6 o6 => ?_)
  rw [z5] at e6 z6 o6 ⊢
  refine lv_astore (lv' := [(6, .ref (s.heap.size + 185)), (5, .ref (s.heap.size + 184)), (4, .ref (s.heap.size + 183)), (3, .ref (s.heap.size + 182)), (2, .ref (s.heap.size + 181)), (1, .ref s.heap.size), (0, .ref b)]) hx hb (show decode cL_law 34 = .ok (.astore 6, 2) by decide +kernel) hl (by decide) rfl (fun ls hl => ?_)
  refine lv_bipush (v := nI 25) hx hb (show decode cL_law 36 = .ok (.bipush 25, 2) by decide +kernel) (by decide) ?_
  refine mknewa (k := 0) hB rfl wI (by decide) (by decide) (Nat.le_of_ble_eq_true rfl) (Nat.le_of_ble_eq_true rfl) (show decode cL_law 38 = .ok (.newarray .int, 2) by decide +kernel) (fun H7 e7 z7 o7 => ?_)
  rw [z6] at e7 z7 o7 ⊢
  refine lv_astore (lv' := [(7, .ref (s.heap.size + 186)), (6, .ref (s.heap.size + 185)), (5, .ref (s.heap.size + 184)), (4, .ref (s.heap.size + 183)), (3, .ref (s.heap.size + 182)), (2, .ref (s.heap.size + 181)), (1, .ref s.heap.size), (0, .ref b)]) hx hb (show decode cL_law 40 = .ok (.astore 7, 2) by decide +kernel) hl (by decide) rfl (fun ls hl => ?_)
  refine lv_bipush (v := nI 32) hx hb (show decode cL_law 42 = .ok (.bipush 32, 2) by decide +kernel) (by decide) ?_
  refine mknewa (k := 0) hB rfl wI (by decide) (by decide) (Nat.le_of_ble_eq_true rfl) (Nat.le_of_ble_eq_true rfl) (show decode cL_law 44 = .ok (.newarray .int, 2) by decide +kernel) (fun H8 e8 z8 o8 => ?_)
  rw [z7] at e8 z8 o8 ⊢
  refine lv_astore (lv' := [(8, .ref (s.heap.size + 187)), (7, .ref (s.heap.size + 186)), (6, .ref (s.heap.size + 185)), (5, .ref (s.heap.size + 184)), (4, .ref (s.heap.size + 183)), (3, .ref (s.heap.size + 182)), (2, .ref (s.heap.size + 181)), (1, .ref s.heap.size), (0, .ref b)]) hx hb (show decode cL_law 46 = .ok (.astore 8, 2) by decide +kernel) hl (by decide) rfl (fun ls hl => ?_)
  refine lv_bipush (v := nI 15) hx hb (show decode cL_law 48 = .ok (.bipush 15, 2) by decide +kernel) (by decide) ?_
  refine mknewa (k := 0) hB rfl wI (by decide) (by decide) (Nat.le_of_ble_eq_true rfl) (Nat.le_of_ble_eq_true rfl) (show decode cL_law 50 = .ok (.newarray .int, 2) by decide +kernel) (fun H9 e9 z9 o9 => ?_)
  rw [z8] at e9 z9 o9 ⊢
  refine lv_astore (lv' := [(9, .ref (s.heap.size + 188)), (8, .ref (s.heap.size + 187)), (7, .ref (s.heap.size + 186)), (6, .ref (s.heap.size + 185)), (5, .ref (s.heap.size + 184)), (4, .ref (s.heap.size + 183)), (3, .ref (s.heap.size + 182)), (2, .ref (s.heap.size + 181)), (1, .ref s.heap.size), (0, .ref b)]) hx hb (show decode cL_law 52 = .ok (.astore 9, 2) by decide +kernel) hl (by decide) rfl (fun ls hl => ?_)
  have keep : ∀ q : Nat, q < s.heap.size + 181 → H9[q]? = H1[q]? := fun q hq => by
    rw [o9 q (by omega), o8 q (by omega), o7 q (by omega), o6 q (by omega), o5 q (by omega), o4 q (by omega), o3 q (by omega), o2 q (by omega)]
  have hinj : inj (adB s.heap.size b) 189 := fun i j hi hj e => by rw [adB_lo hi, adB_lo hj] at e; omega
  have hC : Cx p s m #[Value.ref b] c cL_law 14 RL D cy kdL (adB s.heap.size b) 189 := ⟨hx, hb, hml, hown, htW, hK, hinj, kdL_ok⟩
  have hW : wd D cy kdL (adB s.heap.size b) 189 IC L0 H9 := by
    have hIC : ∀ i, 166 ≤ i → IC i = fun _ => 0 := fun i hi => IC_hi hi
    intro i hi
    rw [adB_lo hi]
    by_cases h1 : i < 181
    · have h0 := w1 i h1
      rw [ctn_ad h1]
      exact h0.kept (keep _ (by unfold adH; omega))
    · have ek := kdL_181 i hi (by omega)
      rcases (show i = 181 ∨ i = 182 ∨ i = 183 ∨ i = 184 ∨ i = 185 ∨ i = 186 ∨ i = 187 ∨ i = 188 by omega) with rfl | rfl | rfl | rfl | rfl | rfl | rfl | rfl
      · show va_at D vwCl (s.heap.size + 181, ctn cy kdL (adB s.heap.size b) IC L0 181) H9
        have : ctn cy kdL (adB s.heap.size b) IC L0 181 = .inl (cy 1, 64, .inr (.inl (fun _ => 0))) := by
          unfold ctn
          rw [ek]
          rfl
        rw [this]
        show H9[s.heap.size + 181]? = some (vp_cell _ _)
        rw [o9 _ (by omega), o8 _ (by omega), o7 _ (by omega), o6 _ (by omega), o5 _ (by omega), o4 _ (by omega), o3 _ (by omega)]
        exact e2
      · show va_at D vwCl (s.heap.size + 182, ctn cy kdL (adB s.heap.size b) IC L0 182) H9
        have : ctn cy kdL (adB s.heap.size b) IC L0 182 = .inl (cy 1, 32, .inr (.inl (fun _ => 0))) := by
          unfold ctn
          rw [ek]
          rfl
        rw [this]
        show H9[s.heap.size + 182]? = some (vp_cell _ _)
        rw [o9 _ (by omega), o8 _ (by omega), o7 _ (by omega), o6 _ (by omega), o5 _ (by omega), o4 _ (by omega)]
        exact e3
      · show va_at D vwCl (s.heap.size + 183, ctn cy kdL (adB s.heap.size b) IC L0 183) H9
        have : ctn cy kdL (adB s.heap.size b) IC L0 183 = .inl (cy 1, 32, .inr (.inl (fun _ => 0))) := by
          unfold ctn
          rw [ek]
          rfl
        rw [this]
        show H9[s.heap.size + 183]? = some (vp_cell _ _)
        rw [o9 _ (by omega), o8 _ (by omega), o7 _ (by omega), o6 _ (by omega), o5 _ (by omega)]
        exact e4
      · show va_at D vwCl (s.heap.size + 184, ctn cy kdL (adB s.heap.size b) IC L0 184) H9
        have : ctn cy kdL (adB s.heap.size b) IC L0 184 = .inl (cy 1, 32, .inr (.inl (fun _ => 0))) := by
          unfold ctn
          rw [ek]
          rfl
        rw [this]
        show H9[s.heap.size + 184]? = some (vp_cell _ _)
        rw [o9 _ (by omega), o8 _ (by omega), o7 _ (by omega), o6 _ (by omega)]
        exact e5
      · show va_at D vwCl (s.heap.size + 185, ctn cy kdL (adB s.heap.size b) IC L0 185) H9
        have : ctn cy kdL (adB s.heap.size b) IC L0 185 = .inl (cy 1, 32, .inr (.inl (fun _ => 0))) := by
          unfold ctn
          rw [ek]
          rfl
        rw [this]
        show H9[s.heap.size + 185]? = some (vp_cell _ _)
        rw [o9 _ (by omega), o8 _ (by omega), o7 _ (by omega)]
        exact e6
      · show va_at D vwCl (s.heap.size + 186, ctn cy kdL (adB s.heap.size b) IC L0 186) H9
        have : ctn cy kdL (adB s.heap.size b) IC L0 186 = .inl (cy 0, 25, .inl (fun _ => 0)) := by
          unfold ctn
          rw [ek]
          rw [hIC 186 (by decide)]
          rfl
        rw [this]
        show H9[s.heap.size + 186]? = some (vp_cell _ _)
        rw [o9 _ (by omega), o8 _ (by omega)]
        exact e7
      · show va_at D vwCl (s.heap.size + 187, ctn cy kdL (adB s.heap.size b) IC L0 187) H9
        have : ctn cy kdL (adB s.heap.size b) IC L0 187 = .inl (cy 0, 32, .inl (fun _ => 0)) := by
          unfold ctn
          rw [ek]
          rw [hIC 187 (by decide)]
          rfl
        rw [this]
        show H9[s.heap.size + 187]? = some (vp_cell _ _)
        rw [o9 _ (by omega)]
        exact e8
      · show va_at D vwCl (s.heap.size + 188, ctn cy kdL (adB s.heap.size b) IC L0 188) H9
        have : ctn cy kdL (adB s.heap.size b) IC L0 188 = .inl (cy 0, 15, .inl (fun _ => 0)) := by
          unfold ctn
          rw [ek]
          rw [hIC 188 (by decide)]
          rfl
        rw [this]
        show H9[s.heap.size + 188]? = some (vp_cell _ _)
        exact e9
  refine W.widen (show _ ≤ 600130 by omega) (show _ ≤ 7301080 by omega) ?_
  refine va_forget (fun q hq => ?_) ?_
  · rcases g1 q hq with e | e
    · cases e
    · exact e
  have hA : ∀ q, AA (adB s.heap.size b) 189 q → s.heap.size ≤ q := fun q ⟨i, hi, e⟩ => by rw [e, adB_lo hi]; omega
  have hS : va_S (AA (adB s.heap.size b) 189) s.heap H9 [] := ⟨by omega, fun q h1 h2 => (keep q (by omega)).trans (o1 q h1), fun q hq => by cases hq⟩
  have hce : (600130 : Nat) ≤ room_1.cells ∧ (7301080 : Nat) ≤ room_1.slots := ⟨Nat.le_of_ble_eq_true rfl, Nat.le_of_ble_eq_true rfl⟩
  have hret : ∀ (pc : Nat) (ins : Instr) (lv : LV) (st : List Value) (I : IM) (K : LM), decode cL_law pc = .ok (ins, 1) → retB (some .boolean) ins = true → ((ins = .ireturn ∧ ∃ x, st = [.int x]) ∨ (ins = .lreturn ∧ ∃ x, st = [.long x]) ∨ (ins = .freturn ∧ ∃ x, st = [.float x]) ∨ (ins = .dreturn ∧ ∃ x, st = [.double x]) ∨ (ins = .return_ ∧ st = [])) → st = [.int 1] → VW 600130 7301080 p l e room_1 s m #[Value.ref b] below meth c (lw_Z below #[Value.ref b] s) 14 D cy kdL (adB s.heap.size b) 189 pc lv st I K := by
    intro pc ins lv st I K hdg _ hcase hE H locs ls2 _ hS2 _
    subst hE
    rcases hcase with ⟨rfl, -⟩ | ⟨-, x, e⟩ | ⟨-, x, e⟩ | ⟨-, x, e⟩ | ⟨-, e⟩
    · exact va_forget (fun q hq => hA _ (hS2.2.2 q hq)) (lw_ret hx hb hr hlocks hdg)
    · simp at e
    · simp at e
    · simp at e
    · simp at e
  have hRu := ru_ofW (ce := 600130) (sl := 7301080) (Q := lw_Z below #[Value.ref b] s) (E := fun st _ _ => st = [.int 1]) (l := l) (e := e) (R := room_1) (below := below) (meth := meth) (ret := some .boolean) hce hC fokL okL_law (by decide +kernel) (by decide +kernel) hret
  have hbA : ∀ i, i < 189 → adB s.heap.size b i ≠ b := fun i hi e => by rw [adB_lo hi] at e; omega
  have had : adB s.heap.size b 189 = b := if_neg (by decide)
  have key := law_walk l (Ln := L) (xs := xs) hRu (fun k lv I K hk hv => vw_cell (rest := []) hce hC hXs hbl hbA had hL hk ⟨Nat.le_of_ble_eq_true rfl, Nat.le_of_ble_eq_true rfl⟩ (show decode cL_law 141 = .ok (.invokestatic 170, 3) by decide +kernel) (Nat.le_of_ble_eq_true rfl) hv) (fun k lv I K hk hv => vw_cell (rest := []) hce hC hXs hbl hbA had hL hk ⟨Nat.le_of_ble_eq_true rfl, Nat.le_of_ble_eq_true rfl⟩ (show decode cL_law 156 = .ok (.invokestatic 170, 3) by decide +kernel) (Nat.le_of_ble_eq_true rfl) hv)
  refine key H9 [] ls hW hS ?_
  show lv_has ls 14 [(0, .ref (adB s.heap.size b 189)), (1, .ref (adB s.heap.size b 0)), (2, .ref (adB s.heap.size b 181)), (3, .ref (adB s.heap.size b 182)), (4, .ref (adB s.heap.size b 183)), (5, .ref (adB s.heap.size b 184)), (6, .ref (adB s.heap.size b 185)), (7, .ref (adB s.heap.size b 186)), (8, .ref (adB s.heap.size b 187)), (9, .ref (adB s.heap.size b 188))]
  rw [had, adB_lo (by decide), adB_lo (by decide), adB_lo (by decide), adB_lo (by decide), adB_lo (by decide), adB_lo (by decide), adB_lo (by decide), adB_lo (by decide), adB_lo (by decide)]
  exact lv_sub hl [9, 8, 7, 6, 5, 4, 3, 2, 1, 0] rfl
