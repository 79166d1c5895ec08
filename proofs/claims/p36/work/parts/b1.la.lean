/-! THE LAW: the script's numbers; its loop -/
def clF (xs : Nat → Int32) (Ln k : Nat) : Int32 := if k < Ln then xs k else 1266520803 * (nI k + 1)
abbrev rmL_cell0 : Room := { frames := 0, cells := 0, slots := 0, locals := 0 }
theorem qL_cell (l : Launch) {Ln k b : Nat} {xs : Nat → Int32} (hLn : Ln ≤ 260) (hk : k < 100) : Met l yL_cell (wsY yL_cell cL_cell 2 (some .int)) rmL_cell0 (va_Pc [.ref b, .int (nI k)] (fun U => va_X b Ln xs U U.heap ∧ b < U.heap.size)) (fun _ st oc t => oc = .returned (some (.int (clF xs Ln k))) ∧ va_F (fun _ => False) st t) 0 0 (fun _ => False) := by
  refine met_ofWF (cc := cL_cell) (maxL := 2) (ret := some .int) (by decide +kernel) rfl ?_
  intro p e s m args below meth c s₁ B hml hv
  obtain ⟨rfl, hX, hbl⟩ := hv
  have hts : ∀ w ∈ WB, w.before #[Value.ref b, .int (nI k)] s = true := fun w hw => atoms_spec (ws := wsY yL_cell cL_cell 2 (some .int)) B.pre w (List.mem_cons_of_mem _ hw)
  have hnm : s.vm.findClass RL = some m.cls := findClass_of_methodNamed B.named
  have hr := B.returns
  have hx := B.exec
  have hb := B.bytes
  have hl := lv_entry ([.ref b, .int (nI k)]) (n := 2) (Nat.le_of_ble_eq_true rfl)
  rw [lg_entry_eq]
  generalize (lg_sl ([.ref b, .int (nI k)]) ++ List.replicate (2 - (lg_sl ([.ref b, .int (nI k)])).length) Slot.unset).toArray = ls at hl ⊢
  have hl : lv_has ls 2 [(1, .int (nI k)), (0, .ref b)] := lv_sub hl [1, 0] rfl
  have hS : va_S (fun _ => False) s.heap s.heap [] := va_S.rf
  refine lv_iload_n hx hb (show decode cL_cell 0 = .ok (.iload_n 1, 1) by decide +kernel) rfl (lv_at hl 0 rfl) ?_
  refine lv_aload_n hx hb (show decode cL_cell 1 = .ok (.aload_n 0, 1) by decide +kernel) rfl (lv_at hl 1 rfl) ?_
  refine va_slen (A := fun _ => False) hx hb hX hbl id hS (show decode cL_cell 2 = .ok (.arraylength, 1) by decide +kernel) ?_
  have fin : ∀ v : Int32, v = clF xs Ln k → W p l e (headSpec (wsY yL_cell cL_cell 2 (some .int)) rmL_cell0).room s m #[Value.ref b, .int (nI k)] below meth c s.heap [] 0 0 (MQ below (fun _ st oc t => oc = .returned (some (.int (clF xs Ln k))) ∧ va_F (fun _ => False) st t) #[Value.ref b, .int (nI k)] s 0 0 (fun _ => False)) (F0 m 18 ls [.int v]) := fun v hv => by
    subst hv
    exact W.iret (v := clF xs Ln k) hx hb (hr.trans rfl) (fun t ht hWm => ⟨rfl, hS.F ht⟩) hS.2.2 (show decode cL_cell 18 = .ok (.ireturn, 1) by decide +kernel)
  by_cases h : k < Ln
  · refine lv_icmp_ge (tgt := 12) hx hb (show decode cL_cell 3 = .ok (.if_icmp .ge 9, 3) by decide +kernel) (by decide) (fun z => absurd z (nI_ge h (by omega))) (fun _ => ?_)
    refine lv_aload_n hx hb (show decode cL_cell 6 = .ok (.aload_n 0, 1) by decide +kernel) rfl (lv_at hl 1 rfl) ?_
    refine lv_iload_n hx hb (show decode cL_cell 7 = .ok (.iload_n 1, 1) by decide +kernel) rfl (lv_at hl 0 rfl) ?_
    refine va_sld (A := fun _ => False) hx hb hX hbl id hS (vp_in_nI h (by omega)) (show decode cL_cell 8 = .ok (.iaload, 1) by decide +kernel) ?_
    refine lv_goto (tgt := 18) hx hb (show decode cL_cell 9 = .ok (.goto 9, 3) by decide +kernel) (by decide) ?_
    refine fin _ ?_
    rw [nI_clamp (by omega)]
    unfold clF
    rw [if_pos h]
  · refine lv_icmp_ge (tgt := 12) hx hb (show decode cL_cell 3 = .ok (.if_icmp .ge 9, 3) by decide +kernel) (by decide) (fun _ => ?_) (fun z => absurd (nI_le (a := Ln) (b := k) (by omega) (by omega)) z)
    refine lv_ldc (own := RL) (v := 1266520803) hx hb hnm (hts _ (wb_2 36 (by decide +kernel) rfl)) (show decode cL_cell 12 = .ok (.ldc 7, 2) by decide +kernel) ?_
    refine lv_iload_n hx hb (show decode cL_cell 14 = .ok (.iload_n 1, 1) by decide +kernel) rfl (lv_at hl 0 rfl) ?_
    refine lv_iconst (v := 1) hx hb (show decode cL_cell 15 = .ok (.iconst 1, 1) by decide +kernel) (by decide) ?_
    refine lv_iadd hx hb (show decode cL_cell 16 = .ok (.iadd, 1) by decide +kernel) ?_
    refine lv_imul hx hb (show decode cL_cell 17 = .ok (.imul, 1) by decide +kernel) ?_
    refine fin _ ?_
    unfold clF
    rw [if_neg h]
section VC
variable {ce sl : Nat} {p : Program} {l : Launch} {e : Env} {R : Room} {s : State} {m : MethodId} {args : Array Value} {below : List Frame} {meth : Method} {c : Code} {Q : State → Prop} {cc : ByteArray} {nL : Nat} {D : va_G} {cy : Nat → ClassId} {kd : KdT} {ad : Nat → Nat} {N : Nat}
theorem vw_cell {pc b Ln k : Nat} {xs : Nat → Int32} {rest : List Value} {lv : LV} {I : IM} {L : LM} (hce : ce ≤ R.cells ∧ sl ≤ R.slots) (hC : Cx p s m args c cc nL RL D cy kd ad N) (hX : va_X b Ln xs s s.heap) (hbl : b < s.heap.size) (hbA : ∀ i, i < N → ad i ≠ b) (had : ad 189 = b) (hLn : Ln ≤ 260) (hk : k < 100) (hR : 1 ≤ R.frames ∧ 21 ≤ R.locals) (hdg : decode cc pc = .ok (.invokestatic 170, 3)) (hcat : (rest.map fun v => v.category).sum ≤ 8) (hv : VW ce sl p l e R s m args below meth c Q nL D cy kd ad N (pc + 3) lv (.int (clF xs Ln k) :: rest) I L) : VW ce sl p l e R s m args below meth c Q nL D cy kd ad N pc lv (.int (nI k) :: .ref 189 :: rest) I L := by
  intro H locs ls hW hS hl
  obtain ⟨hx, hb, hml, hown, hts, hK, hinj, hkd⟩ := hC
  obtain ⟨⟨h1, h2, h3, h4⟩, hd⟩ := sSL_170
  have hHb : H[b]? = s.heap[b]? := hS.2.1 b hbl (fun ⟨i, hi, e⟩ => hbA i hi e.symm)
  have hX' : va_X b Ln xs s H := hX.kept hHb
  have hblH : b < H.size := Nat.lt_of_lt_of_le hbl hS.1
  show W p l e R s m args below meth c H locs ce sl Q (F0 m pc ls (.int (nI k) :: .ref (ad 189) :: rest.map (cz ad)))
  rw [had]
  intro T hT X
  obtain ⟨v, st₀, t, T', Lx, g0, X2, hL, e1, e2, ⟨hv1, hz, hk2⟩, st⟩ := va_runS (p := p) (l := l) (e := e) (R := R) (s := s) (m := m) (args := args) (below := below) (meth := meth) (c := c) (H := H) (locs := locs) (cells := ce) (slots := sl) (n := 2) (As := [.ref b, .int (nI k)]) (rest := rest.map (cz ad)) (g := F0 m pc ls (.int (nI k) :: .ref b :: rest.map (cz ad))) ⟨hx, hb, hml, hown, hts⟩ (qL_cell l (b := b) (xs := xs) hLn hk) (va_cwS 2 hts (gIn (fun w hw => by
      rcases List.mem_append.mp hw with h | h
      · simp only [List.mem_cons, List.not_mem_nil, or_false] at h
        rcases h with rfl | rfl | rfl
        · exact h1
        · exact h2
        · exact h3
      · rcases List.mem_cons.mp h with rfl | h
        · exact h4
        · exact h)) rfl rfl rfl hd ⟨by show 0 + 1 ≤ R.frames; omega, by show 8 + (2 + 11) + 0 ≤ R.locals; omega⟩) ⟨fun a U g mk q => ⟨q.1, va_X.moved (u := U) (U := U.calling g mk a) (Vm.Alike.refl U.vm) q.2.1, q.2.2⟩, fun U hU hWm => ⟨rfl, by rw [hU]; exact va_X.moved hWm.alike hX', by rw [hU]; exact hblH⟩⟩ rfl rfl hl.1 rfl (lv_room (by rw [cz_sum]; exact hcat)) hdg ⟨by omega, by omega⟩ T hT X
  have hv2 : v = some (.int (clF xs Ln k)) := by cases hv1; rfl
  subst hv2
  rw [g0] at hz hk2
  have key := hv T'.heap (locs ++ Lx) ls (wd_kept hW (fun i hi => by
      rw [e1]
      exact hk2 _ ((hW i hi).lt) id)) ⟨Nat.le_trans hS.1 (by rw [e1]; exact hz), fun q h1 h2 => by rw [e1, hk2 q (Nat.lt_of_lt_of_le h1 hS.1) id]; exact hS.2.1 q h1 h2, fun q hq => by
      rcases List.mem_append.mp hq with h | h
      · exact hS.2.2 q h
      · exact absurd (hL q h) id⟩ hl
  obtain ⟨t2, a1, b1⟩ := key T' rfl X2
  exact ⟨t2, st t2 a1, b1⟩
end VC
