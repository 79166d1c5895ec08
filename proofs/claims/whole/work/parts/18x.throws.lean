/-! METHODS THAT THROW -/
/-- the class's texts -/
def txts : List (Nat × String) := [(65, "n is not 2 to 5"), (84, "the sign is neither 1 nor -1"), (155, "the code is not 33 to 126"), (159, "the buffer is full"), (170, "the buffer is not a complete form"), (196, "the snapshot was not taken"), (201, "there is no saved state"), (206, "there is no such property"), (216, "the way is not 0 or 1"), (241, "there is no such result"), (272, "there is no such number"), (303, "there is no such slot"), (306, "there is no such blade"), (308, "there is no such direction"), (310, "there is no such snapshot"), (312, "the grade is out of range"), (314, "the place is out of range"), (316, "the number is out of range"), (322, "the result is refused")]
def exN : List String := ["java/lang/RuntimeException", "java/lang/Exception"]
def nwD : List MethodName := [⟨"java/lang/RuntimeException", "<init>", "()V"⟩, ⟨"java/lang/RuntimeException", "<init>", "(Ljava/lang/String;)V"⟩, ⟨"java/lang/Exception", "<init>", "()V"⟩, ⟨"java/lang/Exception", "<init>", "(Ljava/lang/String;)V"⟩, ⟨"java/lang/Throwable", "<init>", "()V"⟩, ⟨"java/lang/Throwable", "<init>", "(Ljava/lang/String;)V"⟩]
def nwC : List String := ["java/lang/IllegalArgumentException", "java/lang/IndexOutOfBoundsException", "java/lang/IllegalStateException"]
def nwL : List Cond := nwD.map Cond.declares ++ nwC.map (fun C => Cond.castable C C)
def NWs (U : State) : Prop := (∀ x ∈ nwD, va_Nw (.declares x) U) ∧ ∀ C ∈ nwC, va_Nw (.castable C C) U
theorem NWs.warm {s U : State} (h : NWs s) (hW : s.WarmedH U.vm) : NWs U := ⟨fun x hx => va_Nw.warmD hW (h.1 x hx), fun C hC => va_Nw.warmC hW (h.2 C hC)⟩
theorem NWs.same {s U : State} (h : NWs s) (hv : s.vm = U.vm) : NWs U := ⟨fun x hx => va_Nw.same rfl hv (h.1 x hx), fun C hC => va_Nw.same rfl hv (h.2 C hC)⟩
theorem NWs.use {s : State} (h : NWs s) {w : Cond} {A : Array Value} (hw : w ∈ nwL) : w.before A s = true ∧ vx_ot w = true := by
  rcases List.mem_append.mp hw with hw | hw
  · obtain ⟨x, hx, rfl⟩ := List.mem_map.mp hw
    exact ⟨va_Nw.use rfl (h.1 x hx), rfl⟩
  · obtain ⟨x, hx, rfl⟩ := List.mem_map.mp hw
    exact ⟨va_Nw.use rfl (h.2 x hx), rfl⟩
/-- what a throw needs of the start: two statics of Throwable, and the texts -/
def EX (A : Nat → Prop) (U : State) : Prop := vx_Zq Bundle.tN "UNASSIGNED_STACK" Bundle.steD A U U.heap ∧ vx_Zq Bundle.tN "SUPPRESSED_SENTINEL" Bundle.listD A U U.heap ∧ (∀ q ∈ txts, ∃ sa, vk_R "BladeDesk" q.1 q.2 sa U) ∧ NWs U
theorem EX.moved {A : Nat → Prop} {s U : State} (h : EX A s) (hW : s.WarmedH U.vm) (hq : ∀ a : Nat, a < s.heap.size → ¬ A a → U.heap[a]? = s.heap[a]?) : EX A U :=
  ⟨(vx_Zq.kept h.1 hq).moved hW.alike, (vx_Zq.kept h.2.1 hq).moved hW.alike, fun q hqm => by
    obtain ⟨sa, h1⟩ := h.2.2.1 q hqm
    exact ⟨sa, h1.warm hW⟩, h.2.2.2.warm hW⟩
/-- THE CONTRACT of a throw: over the world of I and L, with these arguments, it throws E0 and leaves the world of I2 and L2 -/
def CX (l : Launch) (kd : KdT) (N : Nat) (y : MethodName) (bytes : ByteArray) (maxL : Nat) (ret : Option FieldType) (rm : Room) (av : List Value) (I : IM) (L : LM) (E0 : String) (I2 : IM) (L2 : LM) : Prop :=
  ∀ (D : va_G) (cy : Nat → ClassId) (ad : Nat → Nat), inj ad N → vx_Met l y (wsY y bytes maxL ret) rm (va_Pc (av.map (cz ad)) (fun U => wd D cy kd ad N I L U.heap ∧ va_K D vwCl (tysC cy) U ∧ EX (AA ad N) U)) (fun _ _ _ _ => False) (fun E st t => E = E0 ∧ wd D cy kd ad N I2 L2 t.heap ∧ va_F (AA ad N) st t) 1 6 (AA ad N)
def RmX (rm R : Room) (maxL : Nat) : Bool := Nat.beq rm.cells 1 && (Nat.beq rm.slots 6 && (Nat.ble (rm.frames + 1) R.frames && (Nat.ble (8 + (maxL + 11) + rm.locals) R.locals && (Nat.ble 1 R.cells && Nat.ble 6 R.slots))))
theorem rmX_of {rm R : Room} {maxL : Nat} (h : RmX rm R maxL = true) : rm.cells = 1 ∧ rm.slots = 6 ∧ rm.frames + 1 ≤ R.frames ∧ 8 + (maxL + 11) + rm.locals ≤ R.locals ∧ 1 ≤ R.cells ∧ 6 ≤ R.slots := by
  simp only [RmX, Bool.and_eq_true, Nat.ble_eq, Nat.beq_eq] at h
  exact h
/-- where a throw stands: new, dup, ldc, invokespecial, athrow -/
def ThrS (cc : ByteArray) (pc ik is ic : Nat) : Prop := decode cc pc = .ok (.new ik, 3) ∧ decode cc (pc + 3) = .ok (.dup, 1) ∧ decode cc (pc + 4) = .ok (.ldc is, 2) ∧ decode cc (pc + 6) = .ok (.invokespecial ic, 3) ∧ decode cc (pc + 9) = .ok (.athrow, 1)
def ThrW (cc : ByteArray) (pc ik is ic : Nat) : Prop := decode cc pc = .ok (.new ik, 3) ∧ decode cc (pc + 3) = .ok (.dup, 1) ∧ decode cc (pc + 4) = .ok (.ldc_w is, 3) ∧ decode cc (pc + 7) = .ok (.invokespecial ic, 3) ∧ decode cc (pc + 10) = .ok (.athrow, 1)
/-- the words of an exception -/
def ExcOK (ik ic : Nat) (cls : String) : Prop := Bundle.fit cls = true ∧ Cond.classLink "BladeDesk" ik cls ∈ WB ∧ Cond.initialized cls ∈ WB ∧ ∀ w ∈ vx_atS "BladeDesk" ic cls exN, w ∈ WB ∨ w ∈ nwL
theorem WB_ot {w : Cond} (h : w ∈ WB) : vx_ot w = true := by
  have := (List.mem_filter.mp h).2
  unfold vx_ot
  rw [this, Bool.or_true]
/-- the rules of a walk that comes to a throw -/
def Rx (l : Launch) (kd : KdT) (N : Nat) (own : String) (cc : ByteArray) (R : Room) (F : Ft) (P : List En) (V : Nat → LV → List Value → IM → LM → Prop) (E0 : String) (I2 : IM) (L2 : LM) : Prop :=
  Ru l kd N own cc R F P V (fun _ _ _ => False) ∧
  (∀ (pc ik is ic : Nat) (cls tx : String) (rest : List Value) (lv : LV) (I : IM) (L : LM), ThrS cc pc ik is ic → (is, tx) ∈ txts → ExcOK ik ic cls → exN.length + 3 < R.frames → (rest.map fun v => v.category).sum + (13 * (exN.length + 1) + 43) ≤ R.locals → 1 ≤ R.cells → 6 ≤ R.slots → (cls = E0 ∧ I = I2 ∧ L = L2) → V pc lv rest I L) ∧
  (∀ (pc ik is ic : Nat) (cls tx : String) (rest : List Value) (lv : LV) (I : IM) (L : LM), ThrW cc pc ik is ic → (is, tx) ∈ txts → ExcOK ik ic cls → exN.length + 3 < R.frames → (rest.map fun v => v.category).sum + (13 * (exN.length + 1) + 43) ≤ R.locals → 1 ≤ R.cells → 6 ≤ R.slots → (cls = E0 ∧ I = I2 ∧ L = L2) → V pc lv rest I L) ∧
  (∀ (pc ix np tg : Nat) (cv : Value) (y : MethodName) (bytes : ByteArray) (maxL : Nat) (ret : Option FieldType) (rm : Room) (av rest : List Value) (lv : LV) (I : IM) (L : LM), lk P pc = some (.invokestatic ix, np, tg, cv) → SitS own ix y bytes maxL ret av.length → RmX rm R maxL = true → CX l kd N y bytes maxL ret rm av I L E0 I2 L2 → (rest.map fun v => v.category).sum ≤ 8 → V pc lv (av.reverse ++ rest) I L) ∧
  (∀ (pc ix np tg : Nat) (cv : Value) (y : MethodName) (bytes : ByteArray) (maxL : Nat) (ret : Option FieldType) (rm : Room) (av rest : List Value) (lv : LV) (I : IM) (L : LM) (i ci b : Nat) (T : u_T) (NF : Nat), lk P pc = some (.invokevirtual ix, np, tg, cv) → SitV own ix y bytes maxL ret av.length → RmX rm R maxL = true → kd i = (0, ci, b) → vwCl[ci]? = some (y.cls, T, NF) → CX l kd N y bytes maxL ret rm (.ref i :: av) I L E0 I2 L2 → (rest.map fun v => v.category).sum ≤ 8 → V pc lv (av.reverse ++ .ref i :: rest) I L)
/-- a callee's throw goes on out of the caller -/
theorem vx_outw {p : Program} {l : Launch} {e : Env} {R : Room} {s : State} {m : MethodId} {args : Array Value} {below : List Frame} {meth : Method} {c : Code} {D : va_G} {cy : Nat → ClassId} {kd : KdT} {ad : Nat → Nat} {N : Nat} {H : Heap} {locs : List Loc} {ls : Array Slot} {pc : Nat} {st0 rest : List Value} {E0 : String} {I2 : IM} {L2 : LM} {Qn : State → Outcome → State → Prop} (hQ : ∀ a b c, ¬ Qn a b c)
    (hr : vx_Run p l e R s m args below meth c H locs 0 0 1 6 (F0 m pc ls st0) rest Qn (fun E st t => E = E0 ∧ wd D cy kd ad N I2 L2 t.heap ∧ va_F (AA ad N) st t) (AA ad N)) (hno : ∀ x ∈ c.exceptionTable.toList, False) (hlocks : meth.locks = false) (hS : va_S (AA ad N) s.heap H locs) :
    W p l e R s m args below meth c H locs 0 0 (vx_MQ below (fun _ _ _ _ => False) (fun E st t => E = E0 ∧ wd D cy kd ad N I2 L2 t.heap ∧ va_F (AA ad N) st t) args s 1 6 (AA ad N)) (F0 m pc ls st0) := by
  intro T hT X
  rcases hr T hT X with ⟨v, st₀, t, T', Lx, h0, X', hL, e1, e2, hq, st⟩ | ⟨q, st₀, t, T', Lx, E, ce, h0, X', hL, e1, e2, ⟨rfl, hwd, hz, hk⟩, hce, hcv, hcl, st⟩
  · exact absurd hq (hQ _ _ _)
  · rw [h0] at hz hk
    have hF : ∀ U : State, U.heap = T'.heap → va_F (AA ad N) s U := fun U hU => ⟨Nat.le_trans hS.1 (by rw [hU, e1]; exact hz), fun q h1 h2 => by rw [hU, e1, hk q (Nat.lt_of_lt_of_le h1 hS.1) h2]; exact hS.2.1 q h1 h2⟩
    obtain ⟨t2, a1, b1⟩ := vx_out (p := p) (l := l) (e := e) (R := R) (s := s) (m := m) (args := args) (below := below) (meth := meth) (c := c) (H := T'.heap) (locs := locs ++ Lx) (cells := 0 + 1) (slots := 0 + 6) (ls := ls) (rest := rest) (Qc := fun _ _ _ _ => False) (XC := fun E' st t => E' = E ∧ wd D cy kd ad N I2 L2 t.heap ∧ va_F (AA ad N) st t) (free := AA ad N) (pc := pc) (E := E) (ce := ce) (q := q) (mc := 1) (ms := 6) (fun x hx => (hno x hx).elim) hlocks (by rw [e1]; exact hce) hcv hcl (fun U hU _ => ⟨rfl, by rw [hU, e1]; exact hwd, hF U hU⟩) (fun z hz => by
      rcases List.mem_append.mp hz with h | h
      · exact hS.2.2 z h
      · exact hL z h) (Nat.le_of_ble_eq_true rfl) (Nat.le_of_ble_eq_true rfl) T' rfl X'
    exact ⟨t2, st.trans a1, b1⟩
theorem cx_of {l : Launch} (hlt : l.stackTraces = false) {kd : KdT} {N : Nat} {y : MethodName} {cc : ByteArray} {nL : Nat} {ret : Option FieldType} {rm : Room} {own : String} {F : Ft} {P : List En} (hy : plainName y.cls = true) (hown : own = y.cls) (hob : own = "BladeDesk") (hkd : kdOK kd N) (hF : FOK own F) (hP : okP cc own P = true) (hloc : P.all (fun q => locB nL q.2.1) = true) (hrb : P.all (fun q => retB ret q.2.1) = true) {av : List Value} {I I2 : IM} {L L2 : LM} {E0 : String} (hlen : Nat.ble (lg_sl av).length nL = true)
    (body : ∀ V : Nat → LV → List Value → IM → LM → Prop, Rx l kd N own cc rm F P V E0 I2 L2 → V 0 (lv_args 0 av) [] I L) : CX l kd N y cc nL ret rm av I L E0 I2 L2 := by
  intro D cy ad hinj
  refine vx_ofW (cc := cc) (maxL := nL) (ret := ret) hy rfl ?_
  intro p e s m args below meth c s₁ B hml hno hv
  obtain ⟨rfl, hW, hK, hEX⟩ := hv
  have hts : ∀ w ∈ WB, w.before (av.map (cz ad)).toArray s = true := fun w hw => atoms_spec (ws := wsY y cc nL ret) B.pre w (List.mem_cons_of_mem _ hw)
  have hnm : s.vm.findClass own = some m.cls := by rw [hown]; exact findClass_of_methodNamed B.named
  have hlocks := B.notSynchronized
  have hx := B.exec
  have hb := B.bytes
  have hC : Cx p s m (av.map (cz ad)).toArray c cc nL own D cy kd ad N := ⟨hx, hb, hml, hnm, hts, hK, hinj, hkd⟩
  have hl := lv_entry (av.map (cz ad)) (n := nL) (by rw [lgsl_map]; exact Nat.ble_eq.mp hlen)
  rw [lg_entry_eq]
  generalize (lg_sl (av.map (cz ad)) ++ List.replicate (nL - (lg_sl (av.map (cz ad))).length) Slot.unset).toArray = ls at hl ⊢
  rw [lvargs_map] at hl
  refine body (VV p l e rm s m (av.map (cz ad)).toArray below meth c (vx_MQ below (fun _ _ _ _ => False) (fun E st t => E = E0 ∧ wd D cy kd ad N I2 L2 t.heap ∧ va_F (AA ad N) st t) (av.map (cz ad)).toArray s 1 6 (AA ad N)) nL D cy kd ad N) ⟨ru_of hC hF hP hloc hrb (fun _ _ _ _ _ _ _ _ _ h => h.elim), ?_, ?_, ?_, ?_⟩ s.heap [] ls hW va_S.rf hl
  · intro pc ik is ic cls tx rest lv J K ⟨d0, d3, d4, d6, d9⟩ htx ⟨x0, x1, x2, x3⟩ hfr hlo hce hsl ⟨rfl, rfl, rfl⟩ H locs ls hW hS hl
    obtain ⟨sa, hsa⟩ := hEX.2.2.1 _ htx
    subst hob
    exact vx_throwS (names := exN) (sa := sa) (A := AA ad N) hx hb hlt hnm x0 (by decide +kernel) (hts _ x1) (hts _ x2) hsa (fun w hw => (x3 w hw).elim (hts w) (fun z => (hEX.2.2.2.use z).1)) (fun w hw => by
      rcases List.mem_cons.mp hw with rfl | hw
      · exact WB_ot x1
      · rcases List.mem_cons.mp hw with rfl | hw
        · exact WB_ot x2
        · exact (x3 w hw).elim WB_ot (fun z => (hEX.2.2.2.use (A := #[]) z).2)) hEX.1 hEX.2.1 hS (hl.1.trans hml.symm) d0 d3 d4 d6 d9 (fun x hx => (hno x hx).elim) hfr (by rw [cz_sum]; exact hlo) (by rw [Nat.zero_add]; exact hce) (by rw [Nat.zero_add]; exact hsl) hlocks (fun t hA hz hk => ⟨rfl, wd_kept hW (fun i hi => hk _ (by
          have := (hW i hi).lt
          exact this)), Nat.le_trans hS.1 hz, fun q h1 h2 => (hk q (Nat.lt_of_lt_of_le h1 hS.1)).trans (hS.2.1 q h1 h2)⟩) hS.2.2 (Nat.le_of_ble_eq_true rfl) (Nat.le_of_ble_eq_true rfl)
  · intro pc ik is ic cls tx rest lv J K ⟨d0, d3, d4, d6, d9⟩ htx ⟨x0, x1, x2, x3⟩ hfr hlo hce hsl ⟨rfl, rfl, rfl⟩ H locs ls hW hS hl
    obtain ⟨sa, hsa⟩ := hEX.2.2.1 _ htx
    subst hob
    exact vx_throwSW (names := exN) (sa := sa) (A := AA ad N) hx hb hlt hnm x0 (by decide +kernel) (hts _ x1) (hts _ x2) hsa (fun w hw => (x3 w hw).elim (hts w) (fun z => (hEX.2.2.2.use z).1)) (fun w hw => by
      rcases List.mem_cons.mp hw with rfl | hw
      · exact WB_ot x1
      · rcases List.mem_cons.mp hw with rfl | hw
        · exact WB_ot x2
        · exact (x3 w hw).elim WB_ot (fun z => (hEX.2.2.2.use (A := #[]) z).2)) hEX.1 hEX.2.1 hS (hl.1.trans hml.symm) d0 d3 d4 d6 d9 (fun x hx => (hno x hx).elim) hfr (by rw [cz_sum]; exact hlo) (by rw [Nat.zero_add]; exact hce) (by rw [Nat.zero_add]; exact hsl) hlocks (fun t hA hz hk => ⟨rfl, wd_kept hW (fun i hi => hk _ (by
          have := (hW i hi).lt
          exact this)), Nat.le_trans hS.1 hz, fun q h1 h2 => (hk q (Nat.lt_of_lt_of_le h1 hS.1)).trans (hS.2.1 q h1 h2)⟩) hS.2.2 (Nat.le_of_ble_eq_true rfl) (Nat.le_of_ble_eq_true rfl)
  · intro pc ix np tg cv y2 bytes2 maxL2 ret2 rm2 av2 rest lv J K hl2 hs hrm hM hcat H locs ls hW hS hl
    obtain ⟨hd, hnp, -⟩ := insOK_of hP hl2
    obtain ⟨⟨h1, h2, h3, h4⟩, hdd⟩ := hs
    obtain ⟨r1, r2, r3, r4, r5, r6⟩ := rmX_of hrm
    refine vx_outw (rest := rest.map (cz ad)) (Qn := fun _ _ _ => False) (fun _ _ _ h => h) ?_ hno hlocks hS
    refine vx_runS (n := av2.length) ⟨hx, hb, hml, hnm, hts⟩ (hM D cy ad hinj) (va_cwS av2.length hts (gIn (fun w hw => ?_)) rfl r1 r2 hdd ⟨r3, r4⟩) ⟨fun a U g mk q => ?_, fun U hU hWm => ⟨rfl, by rw [hU]; exact hW, va_K.moved hWm.alike hK, hEX.moved hWm (fun a h1 h2 => by rw [hU]; exact hS.2.1 a h1 h2)⟩⟩ rfl (by simp) hl.1 (by simp) (lv_room (by rw [cz_sum]; exact hcat)) hd ⟨by rw [Nat.zero_add]; exact r5, by rw [Nat.zero_add]; exact r6⟩
    · rcases List.mem_append.mp hw with h | h
      · simp only [List.mem_cons, List.not_mem_nil, or_false] at h
        rcases h with rfl | rfl | rfl
        · exact h1
        · exact h2
        · exact h3
      · rcases List.mem_cons.mp h with rfl | h
        · exact h4
        · exact h
    · obtain ⟨q0, qW, qK, qE⟩ := q
      exact ⟨q0, qW, va_K.moved (u := U) (U := U.calling g mk a) (Vm.Alike.refl U.vm) qK, ⟨qE.1.moved (U := U.calling g mk a) (Vm.Alike.refl U.vm), qE.2.1.moved (U := U.calling g mk a) (Vm.Alike.refl U.vm), fun z hz => by
        obtain ⟨sa, h1⟩ := qE.2.2.1 z hz
        exact ⟨sa, h1.same rfl⟩, qE.2.2.2.same rfl⟩⟩
  · intro pc ix np tg cv y2 bytes2 maxL2 ret2 rm2 av2 rest lv J K i ci b T NF hl2 hs hrm hk1 hcl hM hcat H locs ls hW hS hl
    obtain ⟨hd, hnp, -⟩ := insOK_of hP hl2
    obtain ⟨hlt2, hPo⟩ := wd_obj (ci := 0) hC hW hk1
    obtain ⟨⟨h1, h2, h3, h4, h5⟩, hdd⟩ := hs
    obtain ⟨r1, r2, r3, r4, r5, r6⟩ := rmX_of hrm
    refine vx_outw (rest := rest.map (cz ad)) (Qn := fun _ _ _ => False) (fun _ _ _ h => h) ?_ hno hlocks hS
    refine vx_runV (n := av2.length) (b := ad i) (C := y2.cls) ⟨hx, hb, hml, hnm, hts⟩ (hM D cy ad hinj) (cwV av2.length hts (gIn (fun w hw => ?_)) rfl r1 r2 hdd ⟨r3, r4⟩) ⟨fun a U g mk q => ?_, va_recv hK hPo (ci := ci) (q0 := 0) hcl rfl, fun U hU hWm => ⟨rfl, by rw [hU]; exact hW, va_K.moved hWm.alike hK, hEX.moved hWm (fun a h1 h2 => by rw [hU]; exact hS.2.1 a h1 h2)⟩⟩ rfl (by simp) hl.1 (by simp [cz]) (lv_room (by rw [cz_sum]; exact hcat)) hd ⟨by rw [Nat.zero_add]; exact r5, by rw [Nat.zero_add]; exact r6⟩
    · rcases List.mem_append.mp hw with h | h
      · simp only [List.mem_cons, List.not_mem_nil, or_false] at h
        rcases h with rfl | rfl | rfl | rfl
        · exact h1
        · exact h2
        · exact h3
        · exact h4
      · rcases List.mem_cons.mp h with rfl | h
        · exact h5
        · exact h
    · obtain ⟨q0, qW, qK, qE⟩ := q
      exact ⟨q0, qW, va_K.moved (u := U) (U := U.calling g mk a) (Vm.Alike.refl U.vm) qK, ⟨qE.1.moved (U := U.calling g mk a) (Vm.Alike.refl U.vm), qE.2.1.moved (U := U.calling g mk a) (Vm.Alike.refl U.vm), fun z hz => by
        obtain ⟨sa, h1⟩ := qE.2.2.1 z hz
        exact ⟨sa, h1.same rfl⟩, qE.2.2.2.same rfl⟩⟩
