/-! THE RULES of a walk, and contracts -/
section RUN
variable {p : Program} {l : Launch} {e : Env} {R : Room} {s : State} {m : MethodId} {args : Array Value} {below : List Frame} {meth : Method} {c : Code} {Q : State → Prop} {cc : ByteArray} {nL : Nat} {own : String} {D : va_G} {cy : Nat → ClassId} {kd : KdT} {ad : Nat → Nat} {N : Nat} {E : List Value → IM → LM → Prop}
theorem run_ok {F : Ft} {P : List En} {ret : Option FieldType} (hC : Cx p s m args c cc nL own D cy kd ad N) (hF : FOK own F) (hP : okP cc own P = true) (hloc : P.all (fun q => locB nL q.2.1) = true) (hrb : P.all (fun q => retB ret q.2.1) = true)
    (hret : ∀ (pc : Nat) (ins : Instr) (lv : LV) (st : List Value) (I : IM) (L : LM), decode cc pc = .ok (ins, 1) → retB ret ins = true → ((ins = .ireturn ∧ ∃ x, st = [.int x]) ∨ (ins = .lreturn ∧ ∃ x, st = [.long x]) ∨ (ins = .freturn ∧ ∃ x, st = [.float x]) ∨ (ins = .dreturn ∧ ∃ x, st = [.double x]) ∨ (ins = .return_ ∧ st = [])) → E st I L → VV p l e R s m args below meth c Q nL D cy kd ad N pc lv st I L) :
    ∀ n ds O pc lv st I L, pc < RET → Res (VV p l e R s m args below meth c Q nL D cy kd ad N) E O (run kd F P n ds O pc lv st I L) (VV p l e R s m args below meth c Q nL D cy kd ad N pc lv st I L) := by
  intro n
  induction n with
  | zero => intro ds O pc lv st I L h; exact res_stuck h
  | succ n ih =>
    intro ds O pc lv st I L h
    simp only [run]
    split
    · next hl =>
      have hm := lk_mem P hl
      exact stp_ok hC hF hret ih (insOK_of hP hl) (List.all_eq_true.mp hloc _ hm) (List.all_eq_true.mp hrb _ hm) ds O lv st I L
    · exact res_stuck h
end RUN
theorem WB_good {w : Cond} (h : w ∈ WB) : w ∈ WB ∧ ((w.onTables && w.keeps) = true ∨ ∃ ty, w = .arrayClass ty) := ⟨h, good_of_word (List.mem_filter.mp h).2⟩
theorem gIn {ws : List Cond} (h : ∀ w ∈ ws, w ∈ WB) : GoodIn WB ws := fun w hw => WB_good (h w hw)
/-- a method's words: its code, then all of them -/
abbrev wsY (y : MethodName) (bytes : ByteArray) (maxL : Nat) (ret : Option FieldType) : List Cond := .code y bytes maxL ret :: WB
/-- THE CONTRACT: over the world of I and L, with these arguments, it returns r and leaves the world of I2 and L2 -/
def CR (l : Launch) (kd : KdT) (N : Nat) (y : MethodName) (bytes : ByteArray) (maxL : Nat) (ret : Option FieldType) (rm : Room) (av : List Value) (I : IM) (L : LM) (r : Option Value) (I2 : IM) (L2 : LM) : Prop :=
  ∀ (D : va_G) (cy : Nat → ClassId) (ad : Nat → Nat), inj ad N → Met l y (wsY y bytes maxL ret) rm (va_Pc (av.map (cz ad)) (fun U => wd D cy kd ad N I L U.heap ∧ va_K D vwCl (tysC cy) U)) (fun _ st oc t => (oc = .returned (r.map (cz ad)) ∧ wd D cy kd ad N I2 L2 t.heap) ∧ va_F (AA ad N) st t) 0 0 (AA ad N)
/-- what a call's words say -/
def SitS (own : String) (ix : Nat) (y : MethodName) (bytes : ByteArray) (maxL : Nat) (ret : Option FieldType) (n : Nat) : Prop := (Cond.methodLink own ix y ∈ WB ∧ Cond.static y ∈ WB ∧ Cond.initialized y.cls ∈ WB ∧ Cond.code y bytes maxL ret ∈ WB) ∧ (y.cls ≠ "java/lang/invoke/MethodHandle" ∧ y.cls ≠ "java/lang/invoke/VarHandle" ∧ (parseMethodDescriptor y.desc).map (fun d => d.parameters.length) = some n)
def SitV (own : String) (ix : Nat) (y : MethodName) (bytes : ByteArray) (maxL : Nat) (ret : Option FieldType) (n : Nat) : Prop := (Cond.methodLink own ix y ∈ WB ∧ Cond.instanceMethod y ∈ WB ∧ Cond.selects y.cls y y ∈ WB ∧ Cond.initialized y.cls ∈ WB ∧ Cond.code y bytes maxL ret ∈ WB) ∧ (y.cls = y.cls ∧ y.cls ≠ "java/lang/invoke/MethodHandle" ∧ y.cls ≠ "java/lang/invoke/VarHandle" ∧ (parseMethodDescriptor y.desc).map (fun d => d.parameters.length) = some n)
def RmOK (rm R : Room) (maxL : Nat) : Bool := Nat.beq rm.cells 0 && (Nat.beq rm.slots 0 && (Nat.ble (rm.frames + 1) R.frames && Nat.ble (8 + (maxL + 11) + rm.locals) R.locals))
theorem rmOK_of {rm R : Room} {maxL : Nat} (h : RmOK rm R maxL = true) : rm.cells = 0 ∧ rm.slots = 0 ∧ rm.frames + 1 ≤ R.frames ∧ 8 + (maxL + 11) + rm.locals ≤ R.locals := by
  simp only [RmOK, Bool.and_eq_true, Nat.ble_eq, Nat.beq_eq] at h
  exact h
theorem cz_sum (ad : Nat → Nat) (l : List Value) : ((l.map (cz ad)).map fun v => v.category).sum = (l.map fun v => v.category).sum := by
  induction l with
  | nil => rfl
  | cons v t ih => simp only [List.map_cons, List.sum_cons, cz_cat, ih]
section CALL
variable {p : Program} {l : Launch} {e : Env} {R : Room} {s : State} {m : MethodId} {args : Array Value} {below : List Frame} {meth : Method} {c : Code} {Q : State → Prop} {cc : ByteArray} {nL : Nat} {own : String} {D : va_G} {cy : Nat → ClassId} {kd : KdT} {ad : Nat → Nat} {N : Nat}
/-- behind a call -/
theorem vv_back {pc : Nat} {lv : LV} {rest : List Value} {I2 : IM} {L2 : LM} {r : Option Value} {H : Heap} {locs : List Loc} {ls : Array Slot} {st0 : List Value} {a : Array Value}
    (hr : va_Run p l e R s m args below meth c H locs 0 0 0 0 (F0 m pc ls st0) (rest.map (cz ad)) ((fun _ st oc t => (oc = .returned (r.map (cz ad)) ∧ wd D cy kd ad N I2 L2 t.heap) ∧ va_F (AA ad N) st t) a) (AA ad N))
    (hS : va_S (AA ad N) s.heap H locs) (hl : lv_has ls nL (lv.map fun q => (q.1, cz ad q.2))) (hv : VV p l e R s m args below meth c Q nL D cy kd ad N (pc + 3) lv (r.toList ++ rest) I2 L2) :
    W p l e R s m args below meth c H locs 0 0 Q (F0 m pc ls st0) := by
  intro T hT X
  obtain ⟨v, st₀, t, T', Lx, h0, X', hL, e1, e2, ⟨⟨hv1, hwd⟩, hz, hk⟩, st⟩ := hr T hT X
  have hv2 : v = r.map (cz ad) := by cases hv1; rfl
  rw [h0] at hz hk
  have key := hv T'.heap (locs ++ Lx) ls (by rw [e1]; exact hwd) ⟨Nat.le_trans hS.1 (by rw [e1]; exact hz), fun q h1 h2 => by rw [e1, hk q (Nat.lt_of_lt_of_le h1 hS.1) h2]; exact hS.2.1 q h1 h2, fun q hq => by
      rcases List.mem_append.mp hq with h | h
      · exact hS.2.2 q h
      · exact hL q h⟩ hl
  obtain ⟨t2, a1, b1⟩ := key T' rfl X'
  refine ⟨t2, st t2 ?_, b1⟩
  rw [hv2]
  have e3 : (Option.map (cz ad) r).toList ++ rest.map (cz ad) = (r.toList ++ rest).map (cz ad) := by
    cases r <;> simp
  rw [e3]
  exact a1
theorem vv_callS {pc ix : Nat} {y : MethodName} {bytes : ByteArray} {maxL : Nat} {ret : Option FieldType} {rm : Room} {av rest : List Value} {lv : LV} {I I2 : IM} {L L2 : LM} {r : Option Value} (hC : Cx p s m args c cc nL own D cy kd ad N) (hdg : decode cc pc = .ok (.invokestatic ix, 3)) (hs : SitS own ix y bytes maxL ret av.length) (hrm : RmOK rm R maxL = true) (hM : CR l kd N y bytes maxL ret rm av I L r I2 L2) (hcat : (rest.map fun v => v.category).sum ≤ 8) (hv : VV p l e R s m args below meth c Q nL D cy kd ad N (pc + 3) lv (r.toList ++ rest) I2 L2) : VV p l e R s m args below meth c Q nL D cy kd ad N pc lv (av.reverse ++ rest) I L := by
  intro H locs ls hW hS hl
  obtain ⟨hx, hb, hml, hown, hts, hK, hinj, hkd⟩ := hC
  obtain ⟨⟨h1, h2, h3, h4⟩, hd⟩ := hs
  obtain ⟨r1, r2, r3, r4⟩ := rmOK_of hrm
  refine vv_back (a := (av.map (cz ad)).toArray) ?_ hS hl hv
  refine va_runS (n := av.length) ⟨hx, hb, hml, hown, hts⟩ (hM D cy ad hinj) (va_cwS av.length hts (gIn (fun w hw => ?_)) rfl r1 r2 hd ⟨r3, r4⟩) ⟨fun a U g mk q => ?_, fun U hU hWm => ⟨rfl, by rw [hU]; exact hW, va_K.moved hWm.alike hK⟩⟩ rfl (by simp) hl.1 (by simp) (lv_room (by rw [cz_sum]; exact hcat)) hdg ⟨Nat.zero_le _, Nat.zero_le _⟩
  · rcases List.mem_append.mp hw with h | h
    · simp only [List.mem_cons, List.not_mem_nil, or_false] at h
      rcases h with rfl | rfl | rfl
      · exact h1
      · exact h2
      · exact h3
    · rcases List.mem_cons.mp h with rfl | h
      · exact h4
      · exact h
  · obtain ⟨q0, qW, qK⟩ := q
    exact ⟨q0, qW, va_K.moved (u := U) (U := U.calling g mk a) (Vm.Alike.refl U.vm) qK⟩
theorem vv_callV {pc ix i ci b : Nat} {T : u_T} {NF : Nat} {y : MethodName} {bytes : ByteArray} {maxL : Nat} {ret : Option FieldType} {rm : Room} {av rest : List Value} {lv : LV} {I I2 : IM} {L L2 : LM} {r : Option Value} (hC : Cx p s m args c cc nL own D cy kd ad N) (hdg : decode cc pc = .ok (.invokevirtual ix, 3)) (hs : SitV own ix y bytes maxL ret av.length) (hrm : RmOK rm R maxL = true) (hkd1 : kd i = (0, ci, b)) (hcl : vwCl[ci]? = some (y.cls, T, NF)) (hM : CR l kd N y bytes maxL ret rm (.ref i :: av) I L r I2 L2) (hcat : (rest.map fun v => v.category).sum ≤ 8) (hv : VV p l e R s m args below meth c Q nL D cy kd ad N (pc + 3) lv (r.toList ++ rest) I2 L2) : VV p l e R s m args below meth c Q nL D cy kd ad N pc lv (av.reverse ++ .ref i :: rest) I L := by
  intro H locs ls hW hS hl
  obtain ⟨hlt, hP⟩ := wd_obj (ci := 0) hC hW hkd1
  obtain ⟨hx, hb, hml, hown, hts, hK, hinj, hkd⟩ := hC
  obtain ⟨⟨h1, h2, h3, h4, h5⟩, hd⟩ := hs
  obtain ⟨r1, r2, r3, r4⟩ := rmOK_of hrm
  refine vv_back (a := (Value.ref (ad i) :: av.map (cz ad)).toArray) ?_ hS hl hv
  refine va_runV (n := av.length) (b := ad i) (C := y.cls) ⟨hx, hb, hml, hown, hts⟩ (hM D cy ad hinj) (cwV av.length hts (gIn (fun w hw => ?_)) rfl r1 r2 hd ⟨r3, r4⟩) ⟨fun a U g mk q => ?_, va_recv hK hP (ci := ci) (q0 := 0) hcl rfl, fun U hU hWm => ⟨rfl, by rw [hU]; exact hW, va_K.moved hWm.alike hK⟩⟩ rfl (by simp) hl.1 (by simp [cz]) (lv_room (by rw [cz_sum]; exact hcat)) hdg ⟨Nat.zero_le _, Nat.zero_le _⟩
  · rcases List.mem_append.mp hw with h | h
    · simp only [List.mem_cons, List.not_mem_nil, or_false] at h
      rcases h with rfl | rfl | rfl | rfl
      · exact h1
      · exact h2
      · exact h3
      · exact h4
    · rcases List.mem_cons.mp h with rfl | h
      · exact h5
      · exact h
  · obtain ⟨q0, qW, qK⟩ := q
    exact ⟨q0, qW, va_K.moved (u := U) (U := U.calling g mk a) (Vm.Alike.refl U.vm) qK⟩
end CALL
/-- the rules that a walk may use: a run, its end, calls, fewer locals -/
def Ru (l : Launch) (kd : KdT) (N : Nat) (own : String) (cc : ByteArray) (R : Room) (F : Ft) (P : List En) (V : Nat → LV → List Value → IM → LM → Prop) (E : List Value → IM → LM → Prop) : Prop :=
  (∀ n ds pc lv st I L O2 pc2 lv2 st2 I2 L2, run kd F P n ds True pc lv st I L = (O2, pc2, lv2, st2, I2, L2) → pc < RET → O2 → (if pc2 = RET then E st2 I2 L2 else V pc2 lv2 st2 I2 L2) → V pc lv st I L) ∧
  (∀ pc ix np tg cv y bytes maxL ret rm av rest lv I L r I2 L2, lk P pc = some (.invokestatic ix, np, tg, cv) → SitS own ix y bytes maxL ret av.length → RmOK rm R maxL = true → CR l kd N y bytes maxL ret rm av I L r I2 L2 → (rest.map fun v => v.category).sum ≤ 8 → V np lv (r.toList ++ rest) I2 L2 → V pc lv (av.reverse ++ rest) I L) ∧
  (∀ pc ix np tg cv y bytes maxL ret rm av rest lv I L r I2 L2 i ci b T NF, lk P pc = some (.invokevirtual ix, np, tg, cv) → SitV own ix y bytes maxL ret av.length → RmOK rm R maxL = true → kd i = (0, ci, b) → vwCl[ci]? = some (y.cls, T, NF) → CR l kd N y bytes maxL ret rm (.ref i :: av) I L r I2 L2 → (rest.map fun v => v.category).sum ≤ 8 → V np lv (r.toList ++ rest) I2 L2 → V pc lv (av.reverse ++ .ref i :: rest) I L) ∧
  (∀ pc lv lv2 st I L, (∀ q ∈ lv2, q ∈ lv) → V pc lv2 st I L → V pc lv st I L) ∧
  (∀ (pc : Nat) (dflt lo hi : Int) (offs : Array Int) (len tgt : Nat) (x : Int32) (rest : List Value) (lv : LV) (I : IM) (L : LM), decode cc pc = .ok (.tableswitch dflt lo hi offs, len) → ((x.toInt < lo ∨ hi < x.toInt) → (pc : Int) + dflt = (tgt : Int)) → (¬ x.toInt < lo → ¬ hi < x.toInt → ∃ off, offs[(x.toInt - lo).toNat]? = some off ∧ (pc : Int) + off = (tgt : Int)) → V tgt lv rest I L → V pc lv (.int x :: rest) I L)
theorem lvargs_map (ad : Nat → Nat) : ∀ (i : Nat) (vs : List Value), lv_args i (vs.map (cz ad)) = (lv_args i vs).map fun q => (q.1, cz ad q.2)
  | _, [] => rfl
  | i, v :: vs => by simp only [List.map_cons, lv_args, cz_cat, lvargs_map ad _ vs]
theorem lgsl_map (ad : Nat → Nat) : ∀ (vs : List Value), (lg_sl (vs.map (cz ad))).length = (lg_sl vs).length
  | [] => rfl
  | v :: vs => by
    have := lgsl_map ad vs
    simp only [lg_sl, List.map_cons, List.flatMap_cons, List.length_append, cz_cat] at this ⊢
    rw [this]
    by_cases h : v.category = 2 <;> simp [h]
/-- A CONTRACT OUT OF A WALK by the rules -/
theorem cr_of {l : Launch} {kd : KdT} {N : Nat} {y : MethodName} {cc : ByteArray} {nL : Nat} {ret : Option FieldType} {rm : Room} {own : String} {F : Ft} {P : List En} (hy : plainName y.cls = true) (hown : own = y.cls) (hkd : kdOK kd N) (hF : FOK own F) (hP : okP cc own P = true) (hloc : P.all (fun q => locB nL q.2.1) = true) (hrb : P.all (fun q => retB ret q.2.1) = true) {av : List Value} {I I2 : IM} {L L2 : LM} {r : Option Value} (hlen : Nat.ble (lg_sl av).length nL = true) (hz : ret = some .boolean → ∀ x, r = some (.int x) → x = 0 ∨ x = 1)
    (body : ∀ V : Nat → LV → List Value → IM → LM → Prop, Ru l kd N own cc rm F P V (fun st J K => st = r.toList ∧ J = I2 ∧ K = L2) → V 0 (lv_args 0 av) [] I L) : CR l kd N y cc nL ret rm av I L r I2 L2 := by
  intro D cy ad hinj
  refine Met.ofW (cc := cc) (maxL := nL) (ret := ret) hy rfl ?_
  intro p e s m args below meth c s₁ B hml hv
  obtain ⟨rfl, hW, hK⟩ := hv
  have hts : ∀ w ∈ WB, w.before (av.map (cz ad)).toArray s = true := fun w hw => atoms_spec (ws := wsY y cc nL ret) B.pre w (List.mem_cons_of_mem _ hw)
  have hnm : s.vm.findClass own = some m.cls := by rw [hown]; exact findClass_of_methodNamed B.named
  have hlocks := B.notSynchronized
  have hr := B.returns
  have hx := B.exec
  have hb := B.bytes
  have hC : Cx p s m (av.map (cz ad)).toArray c cc nL own D cy kd ad N := ⟨hx, hb, hml, hnm, hts, hK, hinj, hkd⟩
  have hl := lv_entry (av.map (cz ad)) (n := nL) (by rw [lgsl_map]; exact Nat.ble_eq.mp hlen)
  rw [lg_entry_eq]
  generalize (lg_sl (av.map (cz ad)) ++ List.replicate (nL - (lg_sl (av.map (cz ad))).length) Slot.unset).toArray = ls at hl ⊢
  rw [lvargs_map] at hl
  have hret : ∀ (pc : Nat) (ins : Instr) (lv : LV) (st : List Value) (J : IM) (K : LM), decode cc pc = .ok (ins, 1) → retB ret ins = true → ((ins = .ireturn ∧ ∃ x, st = [.int x]) ∨ (ins = .lreturn ∧ ∃ x, st = [.long x]) ∨ (ins = .freturn ∧ ∃ x, st = [.float x]) ∨ (ins = .dreturn ∧ ∃ x, st = [.double x]) ∨ (ins = .return_ ∧ st = [])) → (st = r.toList ∧ J = I2 ∧ K = L2) → VV p l e rm s m (av.map (cz ad)).toArray below meth c (MQ below (fun _ st oc t => (oc = .returned (r.map (cz ad)) ∧ wd D cy kd ad N I2 L2 t.heap) ∧ va_F (AA ad N) st t) (av.map (cz ad)).toArray s 0 0 (AA ad N)) nL D cy kd ad N pc lv st J K := by
    intro pc ins lv st J K hdg hrb1 hcase hE H locs ls hW hS hl
    obtain ⟨hst, rfl, rfl⟩ := hE
    rcases hcase with ⟨rfl, x, rfl⟩ | ⟨rfl, x, rfl⟩ | ⟨rfl, x, rfl⟩ | ⟨rfl, x, rfl⟩ | ⟨rfl, rfl⟩
    · have hrr : r = some (.int x) := by cases r <;> simp at hst; rw [hst]
      simp only [retB, Bool.or_eq_true, decide_eq_true_eq] at hrb1
      subst hrr
      rcases hrb1 with h | h
      · exact W.iret (v := x) hx hb (hr.trans h) (fun t ht hWm => ⟨⟨rfl, by rw [ht]; exact hW⟩, hS.F ht⟩) hS.2.2 hdg
      · exact W.zret (v := x) hx hb (hr.trans h) (by rcases hz h x rfl with rfl | rfl <;> decide) (fun t ht hWm => ⟨⟨rfl, by rw [ht]; exact hW⟩, hS.F ht⟩) hS.2.2 hdg
    · have hrr : r = some (.long x) := by cases r <;> simp at hst; rw [hst]
      simp only [retB, decide_eq_true_eq] at hrb1
      subst hrr
      exact W.lret (v := x) hx hb (hr.trans hrb1) (fun t ht hWm => ⟨⟨rfl, by rw [ht]; exact hW⟩, hS.F ht⟩) hS.2.2 hdg
    · have hrr : r = some (.float x) := by cases r <;> simp at hst; rw [hst]
      simp only [retB, decide_eq_true_eq] at hrb1
      subst hrr
      exact W.fret (v := x) hx hb (hr.trans hrb1) (fun t ht hWm => ⟨⟨rfl, by rw [ht]; exact hW⟩, hS.F ht⟩) hS.2.2 hdg
    · have hrr : r = some (.double x) := by cases r <;> simp at hst; rw [hst]
      simp only [retB, decide_eq_true_eq] at hrb1
      subst hrr
      exact W.dret (v := x) hx hb (hr.trans hrb1) (fun t ht hWm => ⟨⟨rfl, by rw [ht]; exact hW⟩, hS.F ht⟩) hS.2.2 hdg
    · have hrr : r = none := by cases r <;> simp at hst; rfl
      simp only [retB, decide_eq_true_eq] at hrb1
      subst hrr
      exact W.vret hx hb (hr.trans hrb1) (fun t ht hWm => ⟨⟨rfl, by rw [ht]; exact hW⟩, hS.F ht⟩) hS.2.2 hdg
  refine body (VV p l e rm s m (av.map (cz ad)).toArray below meth c (MQ below (fun _ st oc t => (oc = .returned (r.map (cz ad)) ∧ wd D cy kd ad N I2 L2 t.heap) ∧ va_F (AA ad N) st t) (av.map (cz ad)).toArray s 0 0 (AA ad N)) nL D cy kd ad N) ⟨?_, ?_, ?_, ?_, ?_⟩ s.heap [] ls hW va_S.rf hl
  · intro n ds pc lv st J K O2 pc2 lv2 st2 J2 K2 hrun hpc hO hV
    have h := run_ok hC hF hP hloc hrb hret n ds True pc lv st J K hpc
    rw [hrun] at h
    exact h.2 hO hV
  · intro pc ix np tg cv y2 bytes2 maxL2 ret2 rm2 av2 rest lv J K r2 J2 K2 hl2 hs hrm hM hcat hV
    obtain ⟨hd, hnp, -⟩ := insOK_of hP hl2
    subst hnp
    exact vv_callS hC hd hs hrm hM hcat hV
  · intro pc ix np tg cv y2 bytes2 maxL2 ret2 rm2 av2 rest lv J K r2 J2 K2 i ci b T NF hl2 hs hrm hk1 hk2 hM hcat hV
    obtain ⟨hd, hnp, -⟩ := insOK_of hP hl2
    subst hnp
    exact vv_callV hC hd hs hrm hk1 hk2 hM hcat hV
  · intro pc lv lv2 st J K hsub hV H locs ls hW hS hl
    exact hV H locs ls hW hS ⟨hl.1, hl.2.1, fun q hq => by
      obtain ⟨z, hz, rfl⟩ := List.mem_map.mp hq
      exact hl.2.2 _ (List.mem_map.mpr ⟨z, hsub z hz, rfl⟩)⟩
  · intro pc dflt lo hi offs len tgt x rest lv J K hdg h1 h2 hV H locs ls hW hS hl
    by_cases a : x.toInt < lo
    · exact lv_tableOut hx hb hdg (Or.inl a) (h1 (Or.inl a)) (hV H locs ls hW hS hl)
    · by_cases b : hi < x.toInt
      · exact lv_tableOut hx hb hdg (Or.inr b) (h1 (Or.inr b)) (hV H locs ls hW hS hl)
      · obtain ⟨off, o1, o2⟩ := h2 a b
        exact lv_tableIn hx hb hdg a b o1 o2 (hV H locs ls hW hS hl)
