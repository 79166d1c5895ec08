/-! THE RULES of a walk, and contracts -/
section RUN
variable {p : Program} {l : Launch} {e : Env} {R : Room} {s : State} {m : MethodId} {args : Array Value} {below : List Frame} {meth : Method} {c : Code} {Q : State → Prop} {cc : ByteArray} {nL : Nat} {own : String} {D : va_G} {cy : Nat → ClassId} {kd : KdT} {ad : Nat → Nat} {N : Nat} {E : List Value → IM → LM → Prop}
theorem run_ok {F : Ft} {P : List En} {ret : Option FieldType} (hC : Cx p s m args c cc nL own D cy kd ad N) (hF : FOK own F) (hP : okP cc own P = true) (hloc : P.all (fun q => locB nL q.2.1) = true) (hrb : P.all (fun q => retB ret q.2.1) = true)
    (hret : ∀ (pc : Nat) (ins : Instr) (lv : LV) (st : List Value) (I : IM) (L : LM), decode cc pc = .ok (ins, 1) → retB ret ins = true → ((ins = .ireturn ∧ ∃ x, st = [.int x]) ∨ (ins = .lreturn ∧ ∃ x, st = [.long x]) ∨ (ins = .freturn ∧ ∃ x, st = [.float x]) ∨ (ins = .dreturn ∧ ∃ x, st = [.double x]) ∨ (ins = .return_ ∧ st = [])) → E st I L → VV p l e R s m args below meth c Q nL D cy kd ad N pc lv st I L) :
    ∀ n ds O pc lv st I L, pc < RET → Res (VV p l e R s m args below meth c Q nL D cy kd ad N) E O (run kd F P n ds O pc lv st I L) (VV p l e R s m args below meth c Q nL D cy kd ad N pc lv st I L) := by
  intro n
  induction n with
  | zero => intro ds O pc lv st I L h; exact res_stuck h
  | succ n ih =>
    intro ds O pc lv st I L h
    simp only [run]
    split
    · next hl =>
      have hm := lk_mem P hl
      exact stp_ok hC hF hret ih (insOK_of hP hl) (List.all_eq_true.mp hloc _ hm) (List.all_eq_true.mp hrb _ hm) ds O lv st I L
    · exact res_stuck h
end RUN
theorem WB_good {w : Cond} (h : w ∈ WB) : w ∈ WB ∧ ((w.onTables && w.keeps) = true ∨ ∃ ty, w = .arrayClass ty) := ⟨h, good_of_word (List.mem_filter.mp h).2⟩
theorem gIn {ws : List Cond} (h : ∀ w ∈ ws, w ∈ WB) : GoodIn WB ws := fun w hw => WB_good (h w hw)
/-- a method's words: its code, then all of them -/
abbrev wsY (y : MethodName) (bytes : ByteArray) (maxL : Nat) (ret : Option FieldType) : List Cond := .code y bytes maxL ret :: WB
/-- THE CONTRACT: over the world of I and L, with these arguments, it returns r and leaves the world of I2 and L2 -/
def CR (l : Launch) (kd : KdT) (N : Nat) (y : MethodName) (bytes : ByteArray) (maxL : Nat) (ret : Option FieldType) (rm : Room) (av : List Value) (I : IM) (L : LM) (r : Option Value) (I2 : IM) (L2 : LM) : Prop :=
  ∀ (D : va_G) (cy : Nat → ClassId) (ad : Nat → Nat), inj ad N → Met l y (wsY y bytes maxL ret) rm (va_Pc (av.map (cz ad)) (fun U => wd D cy kd ad N I L U.heap ∧ va_K D vwCl (tysC cy) U)) (fun _ st oc t => (oc = .returned (r.map (cz ad)) ∧ wd D cy kd ad N I2 L2 t.heap) ∧ va_F (AA ad N) st t) 0 0 (AA ad N)
/-- what a call's words say -/
def SitS (own : String) (ix : Nat) (y : MethodName) (bytes : ByteArray) (maxL : Nat) (ret : Option FieldType) (n : Nat) : Prop := (Cond.methodLink own ix y ∈ WB ∧ Cond.static y ∈ WB ∧ Cond.initialized y.cls ∈ WB ∧ Cond.code y bytes maxL ret ∈ WB) ∧ (y.cls ≠ "java/lang/invoke/MethodHandle" ∧ y.cls ≠ "java/lang/invoke/VarHandle" ∧ (parseMethodDescriptor y.desc).map (fun d => d.parameters.length) = some n)
def SitV (own : String) (ix : Nat) (y : MethodName) (bytes : ByteArray) (maxL : Nat) (ret : Option FieldType) (n : Nat) : Prop := (Cond.methodLink own ix y ∈ WB ∧ Cond.instanceMethod y ∈ WB ∧ Cond.selects y.cls y y ∈ WB ∧ Cond.initialized y.cls ∈ WB ∧ Cond.code y bytes maxL ret ∈ WB) ∧ (y.cls = y.cls ∧ y.cls ≠ "java/lang/invoke/MethodHandle" ∧ y.cls ≠ "java/lang/invoke/VarHandle" ∧ (parseMethodDescriptor y.desc).map (fun d => d.parameters.length) = some n)
def RmOK (rm R : Room) (maxL : Nat) : Bool := Nat.beq rm.cells 0 && (Nat.beq rm.slots 0 && (Nat.ble (rm.frames + 1) R.frames && Nat.ble (8 + (maxL + 11) + rm.locals) R.locals))
theorem rmOK_of {rm R : Room} {maxL : Nat} (h : RmOK rm R maxL = true) : rm.cells = 0 ∧ rm.slots = 0 ∧ rm.frames + 1 ≤ R.frames ∧ 8 + (maxL + 11) + rm.locals ≤ R.locals := by
  simp only [RmOK, Bool.and_eq_true, Nat.ble_eq, Nat.beq_eq] at h
  exact h
theorem cz_sum (ad : Nat → Nat) (l : List Value) : ((l.map (cz ad)).map fun v => v.category).sum = (l.map fun v => v.category).sum := by
  induction l with
  | nil => rfl
  | cons v t ih => simp only [List.map_cons, List.sum_cons, cz_cat, ih]
section CALL
variable {p : Program} {l : Launch} {e : Env} {R : Room} {s : State} {m : MethodId} {args : Array Value} {below : List Frame} {meth : Method} {c : Code} {Q : State → Prop} {cc : ByteArray} {nL : Nat} {own : String} {D : va_G} {cy : Nat → ClassId} {kd : KdT} {ad : Nat → Nat} {N : Nat}
/-- behind a call -/
theorem vv_back {pc : Nat} {lv : LV} {rest : List Value} {I2 : IM} {L2 : LM} {r : Option Value} {H : Heap} {locs : List Loc} {ls : Array Slot} {st0 : List Value} {a : Array Value}
    (hr : va_Run p l e R s m args below meth c H locs 0 0 0 0 (F0 m pc ls st0) (rest.map (cz ad)) ((fun _ st oc t => (oc = .returned (r.map (cz ad)) ∧ wd D cy kd ad N I2 L2 t.heap) ∧ va_F (AA ad N) st t) a) (AA ad N))
    (hS : va_S (AA ad N) s.heap H locs) (hl : lv_has ls nL (lv.map fun q => (q.1, cz ad q.2))) (hv : VV p l e R s m args below meth c Q nL D cy kd ad N (pc + 3) lv (r.toList ++ rest) I2 L2) :
    W p l e R s m args below meth c H locs 0 0 Q (F0 m pc ls st0) := by
  intro T hT X
  obtain ⟨v, st₀, t, T', Lx, h0, X', hL, e1, e2, ⟨⟨hv1, hwd⟩, hz, hk⟩, st⟩ := hr T hT X
  have hv2 : v = r.map (cz ad) := by cases hv1; rfl
  rw [h0] at hz hk
  have key := hv T'.heap (locs ++ Lx) ls (by rw [e1]; exact hwd) ⟨Nat.le_trans hS.1 (by rw [e1]; exact hz), fun q h1 h2 => by rw [e1, hk q (Nat.lt_of_lt_of_le h1 hS.1) h2]; exact hS.2.1 q h1 h2, fun q hq => by
      rcases List.mem_append.mp hq with h | h
      · exact hS.2.2 q h
      · exact hL q h⟩ hl
  obtain ⟨t2, a1, b1⟩ := key T' rfl X'
  refine ⟨t2, st t2 ?_, b1⟩
  rw [hv2]
  have e3 : (Option.map (cz ad) r).toList ++ rest.map (cz ad) = (r.toList ++ rest).map (cz ad) := by
    cases r <;> simp
  rw [e3]
  exact a1
theorem vv_callS {pc ix : Nat} {y : MethodName} {bytes : ByteArray} {maxL : Nat} {ret : Option FieldType} {rm : Room} {av rest : List Value} {lv : LV} {I I2 : IM} {L L2 : LM} {r : Option Value} (hC : Cx p s m args c cc nL own D cy kd ad N) (hdg : decode cc pc = .ok (.invokestatic ix, 3)) (hs : SitS own ix y bytes maxL ret av.length) (hrm : RmOK rm R maxL = true) (hM : CR l kd N y bytes maxL ret rm av I L r I2 L2) (hcat : (rest.map fun v => v.category).sum ≤ 8) (hv : VV p l e R s m args below meth c Q nL D cy kd ad N (pc + 3) lv (r.toList ++ rest) I2 L2) : VV p l e R s m args below meth c Q nL D cy kd ad N pc lv (av.reverse ++ rest) I L := by
  intro H locs ls hW hS hl
  obtain ⟨hx, hb, hml, hown, hts, hK, hinj, hkd⟩ := hC
  obtain ⟨⟨h1, h2, h3, h4⟩, hd⟩ := hs
  obtain ⟨r1, r2, r3, r4⟩ := rmOK_of hrm
  refine vv_back (a := (av.map (cz ad)).toArray) ?_ hS hl hv
  refine va_runS (n := av.length) ⟨hx, hb, hml, hown, hts⟩ (hM D cy ad hinj) (va_cwS av.length hts (gIn (fun w hw => ?_)) rfl r1 r2 hd ⟨r3, r4⟩) ⟨fun a U g mk q => ?_, fun U hU hWm => ⟨rfl, by rw [hU]; exact hW, va_K.moved hWm.alike hK⟩⟩ rfl (by simp) hl.1 (by simp) (lv_room (by rw [cz_sum]; exact hcat)) hdg ⟨Nat.zero_le _, Nat.zero_le _⟩
  · rcases List.mem_append.mp hw with h | h
    · simp only [List.mem_cons, List.not_mem_nil, or_false] at h
      rcases h with rfl | rfl | rfl
      · exact h1
      · exact h2
      · exact h3
    · rcases List.mem_cons.mp h with rfl | h
      · exact h4
      · exact h
  · obtain ⟨q0, qW, qK⟩ := q
    exact ⟨q0, qW, va_K.moved (u := U) (U := U.calling g mk a) (Vm.Alike.refl U.vm) qK⟩
theorem vv_callV {pc ix i ci b : Nat} {T : u_T} {NF : Nat} {y : MethodName} {bytes : ByteArray} {maxL : Nat} {ret : Option FieldType} {rm : Room} {av rest : List Value} {lv : LV} {I I2 : IM} {L L2 : LM} {r : Option Value} (hC : Cx p s m args c cc nL own D cy kd ad N) (hdg : decode cc pc = .ok (.invokevirtual ix, 3)) (hs : SitV own ix y bytes maxL ret av.length) (hrm : RmOK rm R maxL = true) (hkd1 : kd i = (0, ci, b)) (hcl : vwCl[ci]? = some (y.cls, T, NF)) (hM : CR l kd N y bytes maxL ret rm (.ref i :: av) I L r I2 L2) (hcat : (rest.map fun v => v.category).sum ≤ 8) (hv : VV p l e R s m args below meth c Q nL D cy kd ad N (pc + 3) lv (r.toList ++ rest) I2 L2) : VV p l e R s m args below meth c Q nL D cy kd ad N pc lv (av.reverse ++ .ref i :: rest) I L := by
  intro H locs ls hW hS hl
  obtain ⟨hlt, hP⟩ := wd_obj (ci := 0) hC hW hkd1
  obtain ⟨hx, hb, hml, hown, hts, hK, hinj, hkd⟩ := hC
  obtain ⟨⟨h1, h2, h3, h4, h5⟩, hd⟩ := hs
  obtain ⟨r1, r2, r3, r4⟩ := rmOK_of hrm
  refine vv_back (a := (Value.ref (ad i) :: av.map (cz ad)).toArray) ?_ hS hl hv
  refine va_runV (n := av.length) (b := ad i) (C := y.cls) ⟨hx, hb, hml, hown, hts⟩ (hM D cy ad hinj) (cwV av.length hts (gIn (fun w hw => ?_)) rfl r1 r2 hd ⟨r3, r4⟩) ⟨fun a U g mk q => ?_, va_recv hK hP (ci := ci) (q0 := 0) hcl rfl, fun U hU hWm => ⟨rfl, by rw [hU]; exact hW, va_K.moved hWm.alike hK⟩⟩ rfl (by simp) hl.1 (by simp [cz]) (lv_room (by rw [cz_sum]; exact hcat)) hdg ⟨Nat.zero_le _, Nat.zero_le _⟩
  · rcases List.mem_append.mp hw with h | h
    · simp only [List.mem_cons, List.not_mem_nil, or_false] at h
      rcases h with rfl | rfl | rfl | rfl
      · exact h1
      · exact h2
      · exact h3
      · exact h4
    · rcases List.mem_cons.mp h with rfl | h
      · exact h5
      · exact h
  · obtain ⟨q0, qW, qK⟩ := q
    exact ⟨q0, qW, va_K.moved (u := U) (U := U.calling g mk a) (Vm.Alike.refl U.vm) qK⟩
end CALL
/-- the first n places of a row taken from another -/
def cp0 {α : Type} (f g : Nat → α) (n : Nat) : Nat → α := fun j => if j < n then f j else g j
/-- a row laid anew -/
def mrow {α : Type} (I : Nat → Nat → α) (i : Nat) (f : Nat → α) : Nat → Nat → α := fun a => if a = i then f else I a
def SitN (own : String) (ix : Nat) (y : MethodName) : Prop := Cond.methodLink own ix y ∈ WB ∧ Cond.native y ∈ WB ∧ Cond.static y ∈ WB ∧ Cond.initialized y.cls ∈ WB
section CPY
variable {p : Program} {l : Launch} {e : Env} {R : Room} {s : State} {m : MethodId} {args : Array Value} {below : List Frame} {meth : Method} {c : Code} {Q : State → Prop} {cc : ByteArray} {nL : Nat} {own : String} {D : va_G} {cy : Nat → ClassId} {kd : KdT} {ad : Nat → Nat} {N : Nat}
theorem cpyI_row {H : Heap} {locs : List Loc} {cells slots : Nat} {pc ix : Nat} {ls : Array Slot} {rest : List Value} {I : IM} {L : LM} {i0 i1 n0 n1 n : Nat} (hC : Cx p s m args c cc nL own D cy kd ad N) (hls : ls.size = nL) (hs : SitN own ix arraycopyName) (hk0 : kd i0 = (1, n0, 0)) (hk1 : kd i1 = (1, n1, 0)) (h4 : n ≤ n0) (h5 : n ≤ n1) (hW : wd D cy kd ad N I L H) (hS : va_S (AA ad N) s.heap H locs)
    (hframes : 1 ≤ R.frames) (hlocals : (rest.map fun v => v.category).sum + (nativeFrameWords "java/lang/System" "arraycopy" 5 + 11) ≤ R.locals) (hdg : decode cc pc = .ok (.invokestatic ix, 3))
    (kk : ∀ (H1 : Heap) (locs1 : List Loc), wd D cy kd ad N (mrow I i1 (cp0 (I i0) (I i1) n)) L H1 → va_S (AA ad N) s.heap H1 locs1 → W p l e R s m args below meth c H1 locs1 cells slots Q (F0 m (pc + 3) ls rest)) : W p l e R s m args below meth c H locs cells slots Q (F0 m pc ls (.int (nI n) :: .int 0 :: .ref (ad i1) :: .int 0 :: .ref (ad i0) :: rest)) := by
  obtain ⟨hlt0, hP0⟩ := wd_arrI hC hW hk0
  obtain ⟨hlt1, hP1⟩ := wd_arrI hC hW hk1
  have hn0 := hC.2.2.2.2.2.2.2.2 i0
  rw [hk0] at hn0
  obtain ⟨hexec, hb, hml, hown, hts, hK, hinj, hkd⟩ := hC
  obtain ⟨w1, w2, w3, w4⟩ := hs
  have hnn : n < 2 ^ 31 := Nat.lt_of_le_of_lt h4 hn0
  have h3 : ¬ nI n < 0 := nI_pos hnn
  have hcl : (nI n).toNatClampNeg = n := nI_clamp hnn
  have hti : (nI n).toInt = (n : Int) := nI_toInt hnn
  intro T hT X
  have hc0 : H[ad i0]? = some (vp_cell (cy 0) (n0, .inl (I i0))) := hP0 0 _ rfl
  have hc1 : H[ad i1]? = some (vp_cell (cy 0) (n1, .inl (I i1))) := hP1 0 _ rfl
  obtain ⟨-, k0, hkk0, cm0, hkkk0⟩ := (hK.2 0 _ rfl).1 n0 (fun j => .int (I i0 j))
  obtain ⟨-, k1, hkk1, cm1, hkkk1⟩ := (hK.2 0 _ rfl).1 n1 (fun j => .int (I i1 j))
  obtain ⟨vm', X', step⟩ := X.arraycopy hexec hown (hts _ w1) (hts _ w2) (hts _ w3) (hts _ w4) (src := ad i0) (dst := ad i1) (cs := vp_cell (cy 0) (n0, .inl (I i0))) (cd := vp_cell (cy 0) (n1, .inl (I i1))) (srcPos := 0) (destPos := 0) (n := nI n) (by rw [hT]; exact hc0) (by rw [hT]; exact hc1)
    (fun _ h => by cases h) (fun _ h => by cases h) (fun h => by cases h) (fun h => by cases h) hkk0 hkk1 hkkk0 hkkk1 (by simp [show refKind FieldType.int = false from rfl]) (by decide) (by decide) h3
    (by rw [hti]; show ¬ _ > ((arrV (cy 0) n0 (fun j => .int (I i0 j))).slots.size : Int); rw [arrV_size]; have : (0 : Int32).toInt = 0 := rfl; omega)
    (by rw [hti]; show ¬ _ > ((arrV (cy 0) n1 (fun j => .int (I i1 j))).slots.size : Int); rw [arrV_size]; have : (0 : Int32).toInt = 0 := rfl; omega)
    (fun vm₁ _ i hi => by
      rw [hcl] at hi
      have e : (vp_cell (cy 0) (n0, .inl (I i0))).slots.getD ((0 : Int32).toNatClampNeg + i) .null = .int (I i0 i) := by
        show (arrV (cy 0) n0 (fun j => .int (I i0 j))).slots.getD _ _ = _
        rw [show (0 : Int32).toNatClampNeg + i = i from Nat.zero_add i, Array.getD_eq_getD_getElem?, arrV_read _ _ (by omega)]
        rfl
      refine ⟨?_, ?_⟩
      · rw [e]
        rfl
      · rw [e]
        exact trivial)
    (g := F0 m pc ls (.int (nI n) :: .int 0 :: .ref (ad i1) :: .int 0 :: .ref (ad i0) :: rest)) rfl (by rw [hml]; exact hls) (rest := rest) rfl (by rw [hb]; exact hdg) hframes (by show 2 * 0 + _ + _ ≤ _; omega)
  have e1 : copied (vp_cell (cy 0) (n0, .inl (I i0))) (vp_cell (cy 0) (n1, .inl (I i1))) 0 0 (nI n) = vp_cell (cy 0) (n1, .inl (va_cpy (I i0) (I i1) (0 : Int32).toNatClampNeg (0 : Int32).toNatClampNeg (nI n).toNatClampNeg)) := va_copied (fun z => .int z) (cy 0) (cy 0) (I i0) (I i1) (by rw [hcl]; show 0 + n ≤ n0; omega)
  have e2 : va_cpy (I i0) (I i1) (0 : Int32).toNatClampNeg (0 : Int32).toNatClampNeg (nI n).toNatClampNeg = cp0 (I i0) (I i1) n := by
    rw [hcl]
    funext k
    show (if 0 ≤ k ∧ k < 0 + n then _ else _) = _
    simp [va_cpy, cp0]
  rw [e1, e2] at X' step
  generalize hcell : vp_cell (cy 0) (n1, .inl (cp0 (I i0) (I i1) n)) = cell at X' step
  have hl : ad i1 < H.size := (Array.getElem?_eq_some_iff.mp hc1).1
  have hheap : ((T.setVm vm').setCell (ad i1) cell).heap = H.setIfInBounds (ad i1) cell := by rw [← hT]; rfl
  have oq : ∀ q : Nat, q ≠ ad i1 → (H.setIfInBounds (ad i1) cell)[q]? = H[q]? := fun q hq => by simp [Array.getElem?_setIfInBounds, Ne.symm hq]
  have hct : ctn cy kd ad (mrow I i1 (cp0 (I i0) (I i1) n)) L i1 = .inl (cy 0, n1, .inl (cp0 (I i0) (I i1) n)) := by
    unfold ctn
    rw [hk1]
    simp only [mrow, if_true]
    rfl
  obtain ⟨t, a1, b1⟩ := kk _ _ (wd_put hinj hW hlt1 (by rw [hct]; show (H.setIfInBounds (ad i1) cell)[ad i1]? = some (vp_cell _ _); rw [hcell]; simp [Array.getElem?_setIfInBounds, hl]) oq (fun q hq => by simp [mrow, hq]) (fun _ _ => rfl)) ⟨by simp; exact hS.1, fun q g1 g2 => by
      rw [oq q (fun e => g2 ⟨i1, hlt1, e⟩)]
      exact hS.2.1 q g1 g2, fun q hq => by
      rcases List.mem_append.mp hq with h | h
      · exact hS.2.2 q h
      · obtain ⟨z, -, hz⟩ := List.mem_map.mp h
        rw [← hz]
        exact ⟨i1, hlt1, rfl⟩⟩ _ hheap X'
  exact ⟨t, step t a1, b1⟩
theorem cpyL_row {H : Heap} {locs : List Loc} {cells slots : Nat} {pc ix : Nat} {ls : Array Slot} {rest : List Value} {I : IM} {L : LM} {i0 i1 n0 n1 n : Nat} (hC : Cx p s m args c cc nL own D cy kd ad N) (hls : ls.size = nL) (hs : SitN own ix arraycopyName) (hk0 : kd i0 = (2, n0, 0)) (hk1 : kd i1 = (2, n1, 0)) (h4 : n ≤ n0) (h5 : n ≤ n1) (hW : wd D cy kd ad N I L H) (hS : va_S (AA ad N) s.heap H locs)
    (hframes : 1 ≤ R.frames) (hlocals : (rest.map fun v => v.category).sum + (nativeFrameWords "java/lang/System" "arraycopy" 5 + 11) ≤ R.locals) (hdg : decode cc pc = .ok (.invokestatic ix, 3))
    (kk : ∀ (H1 : Heap) (locs1 : List Loc), wd D cy kd ad N I (mrow L i1 (cp0 (L i0) (L i1) n)) H1 → va_S (AA ad N) s.heap H1 locs1 → W p l e R s m args below meth c H1 locs1 cells slots Q (F0 m (pc + 3) ls rest)) : W p l e R s m args below meth c H locs cells slots Q (F0 m pc ls (.int (nI n) :: .int 0 :: .ref (ad i1) :: .int 0 :: .ref (ad i0) :: rest)) := by
  obtain ⟨hlt0, hP0⟩ := wd_arrL hC hW hk0
  obtain ⟨hlt1, hP1⟩ := wd_arrL hC hW hk1
  have hn0 := hC.2.2.2.2.2.2.2.2 i0
  rw [hk0] at hn0
  obtain ⟨hexec, hb, hml, hown, hts, hK, hinj, hkd⟩ := hC
  obtain ⟨w1, w2, w3, w4⟩ := hs
  have hnn : n < 2 ^ 31 := Nat.lt_of_le_of_lt h4 hn0
  have h3 : ¬ nI n < 0 := nI_pos hnn
  have hcl : (nI n).toNatClampNeg = n := nI_clamp hnn
  have hti : (nI n).toInt = (n : Int) := nI_toInt hnn
  intro T hT X
  have hc0 : H[ad i0]? = some (vp_cell (cy 1) (n0, .inr (.inl (L i0)))) := hP0 0 _ rfl
  have hc1 : H[ad i1]? = some (vp_cell (cy 1) (n1, .inr (.inl (L i1)))) := hP1 0 _ rfl
  obtain ⟨-, k0, hkk0, cm0, hkkk0⟩ := (hK.2 1 _ rfl).1 n0 (fun j => .long (L i0 j))
  obtain ⟨-, k1, hkk1, cm1, hkkk1⟩ := (hK.2 1 _ rfl).1 n1 (fun j => .long (L i1 j))
  obtain ⟨vm', X', step⟩ := X.arraycopy hexec hown (hts _ w1) (hts _ w2) (hts _ w3) (hts _ w4) (src := ad i0) (dst := ad i1) (cs := vp_cell (cy 1) (n0, .inr (.inl (L i0)))) (cd := vp_cell (cy 1) (n1, .inr (.inl (L i1)))) (srcPos := 0) (destPos := 0) (n := nI n) (by rw [hT]; exact hc0) (by rw [hT]; exact hc1)
    (fun _ h => by cases h) (fun _ h => by cases h) (fun h => by cases h) (fun h => by cases h) hkk0 hkk1 hkkk0 hkkk1 (by simp [show refKind FieldType.long = false from rfl]) (by decide) (by decide) h3
    (by rw [hti]; show ¬ _ > ((arrV (cy 1) n0 (fun j => .long (L i0 j))).slots.size : Int); rw [arrV_size]; have : (0 : Int32).toInt = 0 := rfl; omega)
    (by rw [hti]; show ¬ _ > ((arrV (cy 1) n1 (fun j => .long (L i1 j))).slots.size : Int); rw [arrV_size]; have : (0 : Int32).toInt = 0 := rfl; omega)
    (fun vm₁ _ i hi => by
      rw [hcl] at hi
      have e : (vp_cell (cy 1) (n0, .inr (.inl (L i0)))).slots.getD ((0 : Int32).toNatClampNeg + i) .null = .long (L i0 i) := by
        show (arrV (cy 1) n0 (fun j => .long (L i0 j))).slots.getD _ _ = _
        rw [show (0 : Int32).toNatClampNeg + i = i from Nat.zero_add i, Array.getD_eq_getD_getElem?, arrV_read _ _ (by omega)]
        rfl
      refine ⟨?_, ?_⟩
      · rw [e]
        rfl
      · rw [e]
        exact trivial)
    (g := F0 m pc ls (.int (nI n) :: .int 0 :: .ref (ad i1) :: .int 0 :: .ref (ad i0) :: rest)) rfl (by rw [hml]; exact hls) (rest := rest) rfl (by rw [hb]; exact hdg) hframes (by show 2 * 0 + _ + _ ≤ _; omega)
  have e1 : copied (vp_cell (cy 1) (n0, .inr (.inl (L i0)))) (vp_cell (cy 1) (n1, .inr (.inl (L i1)))) 0 0 (nI n) = vp_cell (cy 1) (n1, .inr (.inl (va_cpy (L i0) (L i1) (0 : Int32).toNatClampNeg (0 : Int32).toNatClampNeg (nI n).toNatClampNeg))) := va_copied (fun z => .long z) (cy 1) (cy 1) (L i0) (L i1) (by rw [hcl]; show 0 + n ≤ n0; omega)
  have e2 : va_cpy (L i0) (L i1) (0 : Int32).toNatClampNeg (0 : Int32).toNatClampNeg (nI n).toNatClampNeg = cp0 (L i0) (L i1) n := by
    rw [hcl]
    funext k
    show (if 0 ≤ k ∧ k < 0 + n then _ else _) = _
    simp [va_cpy, cp0]
  rw [e1, e2] at X' step
  generalize hcell : vp_cell (cy 1) (n1, .inr (.inl (cp0 (L i0) (L i1) n))) = cell at X' step
  have hl : ad i1 < H.size := (Array.getElem?_eq_some_iff.mp hc1).1
  have hheap : ((T.setVm vm').setCell (ad i1) cell).heap = H.setIfInBounds (ad i1) cell := by rw [← hT]; rfl
  have oq : ∀ q : Nat, q ≠ ad i1 → (H.setIfInBounds (ad i1) cell)[q]? = H[q]? := fun q hq => by simp [Array.getElem?_setIfInBounds, Ne.symm hq]
  have hct : ctn cy kd ad I (mrow L i1 (cp0 (L i0) (L i1) n)) i1 = .inl (cy 1, n1, .inr (.inl (cp0 (L i0) (L i1) n))) := by
    unfold ctn
    rw [hk1]
    simp only [mrow, if_true]
    rfl
  obtain ⟨t, a1, b1⟩ := kk _ _ (wd_put hinj hW hlt1 (by rw [hct]; show (H.setIfInBounds (ad i1) cell)[ad i1]? = some (vp_cell _ _); rw [hcell]; simp [Array.getElem?_setIfInBounds, hl]) oq (fun _ _ => rfl) (fun q hq => by simp [mrow, hq])) ⟨by simp; exact hS.1, fun q g1 g2 => by
      rw [oq q (fun e => g2 ⟨i1, hlt1, e⟩)]
      exact hS.2.1 q g1 g2, fun q hq => by
      rcases List.mem_append.mp hq with h | h
      · exact hS.2.2 q h
      · obtain ⟨z, -, hz⟩ := List.mem_map.mp h
        rw [← hz]
        exact ⟨i1, hlt1, rfl⟩⟩ _ hheap X'
  exact ⟨t, step t a1, b1⟩
end CPY
/-- the rules that a walk may use: a run, its end, calls, fewer locals -/
def Ru (l : Launch) (kd : KdT) (N : Nat) (own : String) (cc : ByteArray) (R : Room) (F : Ft) (P : List En) (V : Nat → LV → List Value → IM → LM → Prop) (E : List Value → IM → LM → Prop) : Prop :=
  (∀ n ds pc lv st I L O2 pc2 lv2 st2 I2 L2, run kd F P n ds True pc lv st I L = (O2, pc2, lv2, st2, I2, L2) → pc < RET → O2 → (if pc2 = RET then E st2 I2 L2 else V pc2 lv2 st2 I2 L2) → V pc lv st I L) ∧
  (∀ pc ix np tg cv y bytes maxL ret rm av rest lv I L r I2 L2, lk P pc = some (.invokestatic ix, np, tg, cv) → SitS own ix y bytes maxL ret av.length → RmOK rm R maxL = true → CR l kd N y bytes maxL ret rm av I L r I2 L2 → (rest.map fun v => v.category).sum ≤ 8 → V np lv (r.toList ++ rest) I2 L2 → V pc lv (av.reverse ++ rest) I L) ∧
  (∀ pc ix np tg cv y bytes maxL ret rm av rest lv I L r I2 L2 i ci b T NF, lk P pc = some (.invokevirtual ix, np, tg, cv) → SitV own ix y bytes maxL ret av.length → RmOK rm R maxL = true → kd i = (0, ci, b) → vwCl[ci]? = some (y.cls, T, NF) → CR l kd N y bytes maxL ret rm (.ref i :: av) I L r I2 L2 → (rest.map fun v => v.category).sum ≤ 8 → V np lv (r.toList ++ rest) I2 L2 → V pc lv (av.reverse ++ .ref i :: rest) I L) ∧
  (∀ pc lv lv2 st I L, (∀ q ∈ lv2, q ∈ lv) → V pc lv2 st I L → V pc lv st I L) ∧
  (∀ (pc : Nat) (dflt lo hi : Int) (offs : Array Int) (len tgt : Nat) (x : Int32) (rest : List Value) (lv : LV) (I : IM) (L : LM), decode cc pc = .ok (.tableswitch dflt lo hi offs, len) → ((x.toInt < lo ∨ hi < x.toInt) → (pc : Int) + dflt = (tgt : Int)) → (¬ x.toInt < lo → ¬ hi < x.toInt → ∃ off, offs[(x.toInt - lo).toNat]? = some off ∧ (pc : Int) + off = (tgt : Int)) → V tgt lv rest I L → V pc lv (.int x :: rest) I L) ∧
  (∀ (pc ix np tg : Nat) (cv : Value) (n i0 i1 n0 n1 : Nat) (rest : List Value) (lv : LV) (I : IM) (L : LM), lk P pc = some (.invokestatic ix, np, tg, cv) → SitN own ix arraycopyName → kd i0 = (1, n0, 0) → kd i1 = (1, n1, 0) → n ≤ n0 → n ≤ n1 → 1 ≤ R.frames → (rest.map fun v => v.category).sum + (nativeFrameWords "java/lang/System" "arraycopy" 5 + 11) ≤ R.locals → V np lv rest (mrow I i1 (cp0 (I i0) (I i1) n)) L → V pc lv (.int (nI n) :: .int 0 :: .ref i1 :: .int 0 :: .ref i0 :: rest) I L) ∧
  (∀ (pc ix np tg : Nat) (cv : Value) (n i0 i1 n0 n1 : Nat) (rest : List Value) (lv : LV) (I : IM) (L : LM), lk P pc = some (.invokestatic ix, np, tg, cv) → SitN own ix arraycopyName → kd i0 = (2, n0, 0) → kd i1 = (2, n1, 0) → n ≤ n0 → n ≤ n1 → 1 ≤ R.frames → (rest.map fun v => v.category).sum + (nativeFrameWords "java/lang/System" "arraycopy" 5 + 11) ≤ R.locals → V np lv rest I (mrow L i1 (cp0 (L i0) (L i1) n)) → V pc lv (.int (nI n) :: .int 0 :: .ref i1 :: .int 0 :: .ref i0 :: rest) I L) ∧
  (∀ (pc ix np tg : Nat) (cv : Value) (b : UInt64) (rest : List Value) (lv : LV) (I : IM) (L : LM), lk P pc = some (.invokestatic ix, np, tg, cv) → SitN own ix ⟨"java/lang/Double", "doubleToRawLongBits", "(D)J"⟩ → 1 ≤ R.frames → (rest.map fun v => v.category).sum + 15 ≤ R.locals → V np lv (.long b.toInt64 :: rest) I L → V pc lv (.double b :: rest) I L) ∧
  (∀ (pc ix np tg : Nat) (cv : Value) (b : UInt32) (rest : List Value) (lv : LV) (I : IM) (L : LM), lk P pc = some (.invokestatic ix, np, tg, cv) → SitN own ix ⟨"java/lang/Float", "floatToRawIntBits", "(F)I"⟩ → 1 ≤ R.frames → (rest.map fun v => v.category).sum + 15 ≤ R.locals → V np lv (.int b.toInt32 :: rest) I L → V pc lv (.float b :: rest) I L)
theorem lvargs_map (ad : Nat → Nat) : ∀ (i : Nat) (vs : List Value), lv_args i (vs.map (cz ad)) = (lv_args i vs).map fun q => (q.1, cz ad q.2)
  | _, [] => rfl
  | i, v :: vs => by simp only [List.map_cons, lv_args, cz_cat, lvargs_map ad _ vs]
theorem lgsl_map (ad : Nat → Nat) : ∀ (vs : List Value), (lg_sl (vs.map (cz ad))).length = (lg_sl vs).length
  | [] => rfl
  | v :: vs => by
    have := lgsl_map ad vs
    simp only [lg_sl, List.map_cons, List.flatMap_cons, List.length_append, cz_cat] at this ⊢
    rw [this]
    by_cases h : v.category = 2 <;> simp [h]
theorem met_ofWF {l : Launch} {y : MethodName} {ws ws' : List Cond} {rm : Room} {Pc : Array Value → State → Prop} {Qc : Array Value → State → Outcome → State → Prop} {mc ms : Nat} {free : Addr → Prop} {cc : ByteArray} {maxL : Nat} {ret : Option FieldType}
    (hy : plainFor y = true) (hw : ws = Cond.code y cc maxL ret :: ws')
    (body : ∀ p e s m args below meth c s₁, BodyLoose p l y (headSpec ws rm) cc maxL ret e s m args below meth c s₁ → c.maxLocals = maxL → Pc args s →
      W p l e (headSpec ws rm).room s m args below meth c s.heap [] 0 0 (MQ below Qc args s mc ms free) (entryFrame m args maxL)) : Met l y ws rm Pc Qc mc ms free := by
  refine MetFree.of_bodySF (code := cc) (maxLocals := maxL) (ret := ret) hy ?_ ?_
  · intro args s m h hn
    obtain ⟨meth, c, h1, h2, h3, h4, h5, h6, -, -⟩ := Cond.code_spec hn (atoms_spec (ws := ws) h _ (by rw [hw]; exact List.mem_cons_self))
    exact ⟨meth, c, h1, h2, h3, h4, h5, h6⟩
  · intro p e s m args below meth c s₁ B hml hP _
    have hh0 : s₁.heap = s.heap := by rw [B.state]; rfl
    obtain ⟨t, a1, o, b1, b2, b3⟩ := body p e s m args below meth c s₁ B hml hP s₁ hh0 (Stand.of_body B)
    exact ⟨t, o, a1, b1, b2, ⟨b3.1, b3.2⟩⟩
theorem ru_of {p : Program} {l : Launch} {e : Env} {R : Room} {s : State} {m : MethodId} {args : Array Value} {below : List Frame} {meth : Method} {c : Code} {Q : State → Prop} {cc : ByteArray} {nL : Nat} {own : String} {D : va_G} {cy : Nat → ClassId} {kd : KdT} {ad : Nat → Nat} {N : Nat} {E : List Value → IM → LM → Prop} {F : Ft} {P : List En} {ret : Option FieldType} (hC : Cx p s m args c cc nL own D cy kd ad N) (hF : FOK own F) (hP : okP cc own P = true) (hloc : P.all (fun q => locB nL q.2.1) = true) (hrb : P.all (fun q => retB ret q.2.1) = true)
    (hret : ∀ (pc : Nat) (ins : Instr) (lv : LV) (st : List Value) (I : IM) (L : LM), decode cc pc = .ok (ins, 1) → retB ret ins = true → ((ins = .ireturn ∧ ∃ x, st = [.int x]) ∨ (ins = .lreturn ∧ ∃ x, st = [.long x]) ∨ (ins = .freturn ∧ ∃ x, st = [.float x]) ∨ (ins = .dreturn ∧ ∃ x, st = [.double x]) ∨ (ins = .return_ ∧ st = [])) → E st I L → VV p l e R s m args below meth c Q nL D cy kd ad N pc lv st I L) :
    Ru l kd N own cc R F P (VV p l e R s m args below meth c Q nL D cy kd ad N) E := by
  have hx := hC.1
  have hb := hC.2.1
  have hml := hC.2.2.1
  have hnm := hC.2.2.2.1
  have hts := hC.2.2.2.2.1
  refine ⟨?_, ?_, ?_, ?_, ?_, ?_, ?_, ?_, ?_⟩
  · intro n ds pc lv st J K O2 pc2 lv2 st2 J2 K2 hrun hpc hO hV
    have h := run_ok hC hF hP hloc hrb hret n ds True pc lv st J K hpc
    rw [hrun] at h
    exact h.2 hO hV
  · intro pc ix np tg cv y2 bytes2 maxL2 ret2 rm2 av2 rest lv J K r2 J2 K2 hl2 hs hrm hM hcat hV
    obtain ⟨hd, hnp, -⟩ := insOK_of hP hl2
    subst hnp
    exact vv_callS hC hd hs hrm hM hcat hV
  · intro pc ix np tg cv y2 bytes2 maxL2 ret2 rm2 av2 rest lv J K r2 J2 K2 i ci b T NF hl2 hs hrm hk1 hk2 hM hcat hV
    obtain ⟨hd, hnp, -⟩ := insOK_of hP hl2
    subst hnp
    exact vv_callV hC hd hs hrm hk1 hk2 hM hcat hV
  · intro pc lv lv2 st J K hsub hV H locs ls hW hS hl
    exact hV H locs ls hW hS ⟨hl.1, hl.2.1, fun q hq => by
      obtain ⟨z, hz, rfl⟩ := List.mem_map.mp hq
      exact hl.2.2 _ (List.mem_map.mpr ⟨z, hsub z hz, rfl⟩)⟩
  · intro pc dflt lo hi offs len tgt x rest lv J K hdg h1 h2 hV H locs ls hW hS hl
    by_cases a : x.toInt < lo
    · exact lv_tableOut hx hb hdg (Or.inl a) (h1 (Or.inl a)) (hV H locs ls hW hS hl)
    · by_cases b : hi < x.toInt
      · exact lv_tableOut hx hb hdg (Or.inr b) (h1 (Or.inr b)) (hV H locs ls hW hS hl)
      · obtain ⟨off, o1, o2⟩ := h2 a b
        exact lv_tableIn hx hb hdg a b o1 o2 (hV H locs ls hW hS hl)
  · intro pc ix np tg cv n i0 i1 n0 n1 rest lv J K hl2 hs hk0 hk1 h4 h5 hfr hlo hV H locs ls hW hS hl
    obtain ⟨hd, hnp, -⟩ := insOK_of hP hl2
    subst hnp
    exact cpyI_row hC hl.1 hs hk0 hk1 h4 h5 hW hS hfr (by rw [cz_sum]; exact hlo) hd (fun H1 locs1 hW1 hS1 => hV H1 locs1 ls hW1 hS1 hl)
  · intro pc ix np tg cv n i0 i1 n0 n1 rest lv J K hl2 hs hk0 hk1 h4 h5 hfr hlo hV H locs ls hW hS hl
    obtain ⟨hd, hnp, -⟩ := insOK_of hP hl2
    subst hnp
    exact cpyL_row hC hl.1 hs hk0 hk1 h4 h5 hW hS hfr (by rw [cz_sum]; exact hlo) hd (fun H1 locs1 hW1 hS1 => hV H1 locs1 ls hW1 hS1 hl)
  · intro pc ix np tg cv b rest lv J K hl2 hs hfr hlo hV H locs ls hW hS hl
    obtain ⟨hd, hnp, -⟩ := insOK_of hP hl2
    subst hnp
    obtain ⟨w1, w2, w3, w4⟩ := hs
    exact vn_d2l hx hb (hml.trans hl.1.symm) hnm (hts _ w1) (hts _ w2) (hts _ w3) (hts _ w4) hfr (by rw [cz_sum]; exact hlo) hd (hV H locs ls hW hS hl)
  · intro pc ix np tg cv b rest lv J K hl2 hs hfr hlo hV H locs ls hW hS hl
    obtain ⟨hd, hnp, -⟩ := insOK_of hP hl2
    subst hnp
    obtain ⟨w1, w2, w3, w4⟩ := hs
    exact vn_f2i hx hb (hml.trans hl.1.symm) hnm (hts _ w1) (hts _ w2) (hts _ w3) (hts _ w4) hfr (by rw [cz_sum]; exact hlo) hd (hV H locs ls hW hS hl)
/-- A CONTRACT OUT OF A WALK by the rules -/
theorem cr_of {l : Launch} {kd : KdT} {N : Nat} {y : MethodName} {cc : ByteArray} {nL : Nat} {ret : Option FieldType} {rm : Room} {own : String} {F : Ft} {P : List En} (hy : plainFor y = true) (hown : own = y.cls) (hkd : kdOK kd N) (hF : FOK own F) (hP : okP cc own P = true) (hloc : P.all (fun q => locB nL q.2.1) = true) (hrb : P.all (fun q => retB ret q.2.1) = true) {av : List Value} {I I2 : IM} {L L2 : LM} {r : Option Value} (hlen : Nat.ble (lg_sl av).length nL = true) (hz : ret = some .boolean → ∀ x, r = some (.int x) → x = 0 ∨ x = 1)
    (body : ∀ V : Nat → LV → List Value → IM → LM → Prop, Ru l kd N own cc rm F P V (fun st J K => st = r.toList ∧ J = I2 ∧ K = L2) → V 0 (lv_args 0 av) [] I L) : CR l kd N y cc nL ret rm av I L r I2 L2 := by
  intro D cy ad hinj
  refine met_ofWF (cc := cc) (maxL := nL) (ret := ret) hy rfl ?_
  intro p e s m args below meth c s₁ B hml hv
  obtain ⟨rfl, hW, hK⟩ := hv
  have hts : ∀ w ∈ WB, w.before (av.map (cz ad)).toArray s = true := fun w hw => atoms_spec (ws := wsY y cc nL ret) B.pre w (List.mem_cons_of_mem _ hw)
  have hnm : s.vm.findClass own = some m.cls := by rw [hown]; exact findClass_of_methodNamed B.named
  have hlocks := B.notSynchronized
  have hr := B.returns
  have hx := B.exec
  have hb := B.bytes
  have hC : Cx p s m (av.map (cz ad)).toArray c cc nL own D cy kd ad N := ⟨hx, hb, hml, hnm, hts, hK, hinj, hkd⟩
  have hl := lv_entry (av.map (cz ad)) (n := nL) (by rw [lgsl_map]; exact Nat.ble_eq.mp hlen)
  rw [lg_entry_eq]
  generalize (lg_sl (av.map (cz ad)) ++ List.replicate (nL - (lg_sl (av.map (cz ad))).length) Slot.unset).toArray = ls at hl ⊢
  rw [lvargs_map] at hl
  have hret : ∀ (pc : Nat) (ins : Instr) (lv : LV) (st : List Value) (J : IM) (K : LM), decode cc pc = .ok (ins, 1) → retB ret ins = true → ((ins = .ireturn ∧ ∃ x, st = [.int x]) ∨ (ins = .lreturn ∧ ∃ x, st = [.long x]) ∨ (ins = .freturn ∧ ∃ x, st = [.float x]) ∨ (ins = .dreturn ∧ ∃ x, st = [.double x]) ∨ (ins = .return_ ∧ st = [])) → (st = r.toList ∧ J = I2 ∧ K = L2) → VV p l e rm s m (av.map (cz ad)).toArray below meth c (MQ below (fun _ st oc t => (oc = .returned (r.map (cz ad)) ∧ wd D cy kd ad N I2 L2 t.heap) ∧ va_F (AA ad N) st t) (av.map (cz ad)).toArray s 0 0 (AA ad N)) nL D cy kd ad N pc lv st J K := by
    intro pc ins lv st J K hdg hrb1 hcase hE H locs ls hW hS hl
    obtain ⟨hst, rfl, rfl⟩ := hE
    rcases hcase with ⟨rfl, x, rfl⟩ | ⟨rfl, x, rfl⟩ | ⟨rfl, x, rfl⟩ | ⟨rfl, x, rfl⟩ | ⟨rfl, rfl⟩
    · have hrr : r = some (.int x) := by cases r <;> simp at hst; rw [hst]
      simp only [retB, Bool.or_eq_true, decide_eq_true_eq] at hrb1
      subst hrr
      rcases hrb1 with h | h
      · exact W.iret (v := x) hx hb (hr.trans h) (fun t ht hWm => ⟨⟨rfl, by rw [ht]; exact hW⟩, hS.F ht⟩) hS.2.2 hdg
      · exact W.zret (v := x) hx hb (hr.trans h) (by rcases hz h x rfl with rfl | rfl <;> decide) (fun t ht hWm => ⟨⟨rfl, by rw [ht]; exact hW⟩, hS.F ht⟩) hS.2.2 hdg
    · have hrr : r = some (.long x) := by cases r <;> simp at hst; rw [hst]
      simp only [retB, decide_eq_true_eq] at hrb1
      subst hrr
      exact W.lret (v := x) hx hb (hr.trans hrb1) (fun t ht hWm => ⟨⟨rfl, by rw [ht]; exact hW⟩, hS.F ht⟩) hS.2.2 hdg
    · have hrr : r = some (.float x) := by cases r <;> simp at hst; rw [hst]
      simp only [retB, decide_eq_true_eq] at hrb1
      subst hrr
      exact W.fret (v := x) hx hb (hr.trans hrb1) (fun t ht hWm => ⟨⟨rfl, by rw [ht]; exact hW⟩, hS.F ht⟩) hS.2.2 hdg
    · have hrr : r = some (.double x) := by cases r <;> simp at hst; rw [hst]
      simp only [retB, decide_eq_true_eq] at hrb1
      subst hrr
      exact W.dret (v := x) hx hb (hr.trans hrb1) (fun t ht hWm => ⟨⟨rfl, by rw [ht]; exact hW⟩, hS.F ht⟩) hS.2.2 hdg
    · have hrr : r = none := by cases r <;> simp at hst; rfl
      simp only [retB, decide_eq_true_eq] at hrb1
      subst hrr
      exact W.vret hx hb (hr.trans hrb1) (fun t ht hWm => ⟨⟨rfl, by rw [ht]; exact hW⟩, hS.F ht⟩) hS.2.2 hdg
  refine body (VV p l e rm s m (av.map (cz ad)).toArray below meth c (MQ below (fun _ st oc t => (oc = .returned (r.map (cz ad)) ∧ wd D cy kd ad N I2 L2 t.heap) ∧ va_F (AA ad N) st t) (av.map (cz ad)).toArray s 0 0 (AA ad N)) nL D cy kd ad N) (ru_of hC hF hP hloc hrb hret) s.heap [] ls hW va_S.rf hl
