/-! CONSTRUCTORS: contracts, nested ones -/
def AOs (U : State) : Prop := va_AOA .int U ∧ va_AOA .long U ∧ va_AO "BladeDesk$State" U
theorem AOs.moved {u U : State} (hvm : u.vm.Alike U.vm) (h : AOs u) : AOs U := ⟨h.1.moved hvm, h.2.1.moved hvm, h.2.2.moved hvm⟩
def MkP (D : va_G) (cy : Nat → ClassId) (h ci : Nat) (fs : List Value) (U : State) : Prop := U.heap.size = h + 1 ∧ AtO D h ci fs U.heap ∧ va_K D vwCl (tysC cy) U ∧ AOs U
def MkQ (D : va_G) (cy : Nat → ClassId) (kd : KdT) (h N : Nat) (I : IM) (_ : Array Value) (st : State) (oc : Outcome) (t : State) : Prop := oc = .returned none ∧ t.heap.size = h + N ∧ wd D cy kd (adH h) N I L0 t.heap ∧ ∀ q : Nat, q < h → t.heap[q]? = st.heap[q]?
/-- the contract of a constructor -/
def MkC (l : Launch) (y : MethodName) (cc : ByteArray) (nL : Nat) (rm : Room) (kd : KdT) (N ci : Nat) (fs : List Value) (I : IM) (mc ms : Nat) : Prop := ∀ (D : va_G) (cy : Nat → ClassId) (h : Nat), Met l y (wsY y cc nL none) rm (va_Pc [.ref h] (MkP D cy h ci fs)) (MkQ D cy kd h N I) mc ms (fun q => h ≤ q)
theorem mk_of {l : Launch} {y : MethodName} {cc : ByteArray} {nL : Nat} {rm : Room} {kd : KdT} {N ci : Nat} {fs : List Value} {I : IM} {mc ms : Nat} {own : String} (hy : plainName y.cls = true) (hown : own = y.cls) (hnm : y.name = "<init>") (hlen : Nat.ble (lg_sl [Value.ref 0]).length nL = true)
    (body : ∀ (D : va_G) (cy : Nat → ClassId) (h : Nat) (p : Program) (e : Env) (s : State) (m : MethodId) (below : List Frame) (meth : Method) (c : Code) (ls : Array Slot), Bx p s m #[.ref h] c cc nL own D cy → meth.name = "<init>" → meth.sig.returnType = none → meth.locks = false → MkI D cy kd I0 L0 h 1 ci fs s.heap s.heap [] → AOs s → lv_has ls nL [(0, .ref h)] → W p l e rm s m #[.ref h] below meth c s.heap [] 0 0 (MQ below (MkQ D cy kd h N I) #[.ref h] s mc ms (fun q => h ≤ q)) (F0 m 0 ls [])) : MkC l y cc nL rm kd N ci fs I mc ms := by
  intro D cy h
  refine Met.ofW (cc := cc) (maxL := nL) (ret := none) hy rfl ?_
  intro p e s m args below meth c s₁ B hml hv
  obtain ⟨rfl, hsz, hO, hK, hA⟩ := hv
  have hts : ∀ w ∈ WB, w.before #[Value.ref h] s = true := fun w hw => atoms_spec (ws := wsY y cc nL none) B.pre w (List.mem_cons_of_mem _ hw)
  have hnm2 : s.vm.findClass own = some m.cls := by rw [hown]; exact findClass_of_methodNamed B.named
  have hin : meth.name = "<init>" := by rw [← hnm]; exact (name_of_methodNamed B.named B.method).1
  have hl := lv_entry ([.ref h] : List Value) (n := nL) (Nat.ble_eq.mp hlen)
  rw [lg_entry_eq]
  generalize (lg_sl ([.ref h] : List Value) ++ List.replicate (nL - (lg_sl ([.ref h] : List Value)).length) Slot.unset).toArray = ls at hl ⊢
  exact body D cy h p e s m below meth c ls ⟨B.exec, B.bytes, hml, hnm2, hts, hK⟩ hin B.returns B.notSynchronized ⟨hsz, hO, fun i h1 h2 => absurd h2 (by omega), fun _ _ => rfl, fun z hz => absurd hz List.not_mem_nil⟩ hA hl
theorem fdv_shift {h n : Nat} {I I' : IM} {L L' : LM} {i : Nat} (hI : I (n + i) = I' i) (hL : L (n + i) = L' i) : ∀ (l : List (Nat × Nat)) (k : Nat), fdv (adH h) I L (n + i) k l = fdv (adH (h + n)) I' L' i k l
  | [], _ => rfl
  | (t, o) :: r, k => by
    unfold fdv
    rw [hI, hL, fdv_shift hI hL r (k + 1), show adH h (n + i + o) = adH (h + n) (i + o) by unfold adH; omega]
theorem ctn_shift {cy : Nat → ClassId} {kd kd' : KdT} {h n i : Nat} {I I' : IM} {L L' : LM} (hk : kd (n + i) = kd' i) (hI : I (n + i) = I' i) (hL : L (n + i) = L' i) : ctn cy kd (adH h) I L (n + i) = ctn cy kd' (adH (h + n)) I' L' i := by
  unfold ctn
  rw [hk, hI, hL, fdv_shift hI hL]
  have e : (fun j => if j < (kd' i).2.1 then some (adH h (n + i + 1 + j * (kd' i).2.2)) else none) = fun j => if j < (kd' i).2.1 then some (adH (h + n) (i + 1 + j * (kd' i).2.2)) else none := by
    funext j
    rw [show adH h (n + i + 1 + j * (kd' i).2.2) = adH (h + n) (i + 1 + j * (kd' i).2.2) by unfold adH; omega]
  rw [e]
section MC
variable {p : Program} {l : Launch} {e : Env} {R : Room} {s : State} {m : MethodId} {args : Array Value} {below : List Frame} {meth : Method} {c : Code} {Q : State → Prop} {cc : ByteArray} {nL : Nat} {own : String} {D : va_G} {cy : Nat → ClassId} {kd : KdT} {I : IM} {h n ci : Nat} {fs : List Value} {G H : Heap} {locs : List Loc} {cells slots pc : Nat} {ls : Array Slot} {rest : List Value}
theorem mk_end {mc ms N : Nat} (hB : Bx p s m args c cc nL own D cy) (hr : meth.sig.returnType = none) (hlocks : meth.locks = false) (hM : MkI D cy kd I L0 h N ci fs s.heap H locs) (hk : (kd 0).1 = 0 ∧ (kd 0).2.1 = ci) (hf : fs = fdv (adH h) I L0 0 0 (FD ci)) (hc : cells ≤ mc) (hs : slots ≤ ms) (hdg : decode cc pc = .ok (.return_, 1)) : W p l e R s m args below meth c H locs cells slots (MQ below (MkQ D cy kd h N I) args s mc ms (fun q => h ≤ q)) (F0 m pc ls []) :=
  W.widen hc hs (W.vret hB.1 hB.2.1 hr (fun t ht _ => ⟨rfl, by rw [ht]; exact hM.1, by rw [ht]; exact hM.wd hk hf, fun q hq => by rw [ht]; exact hM.2.2.2.1 q hq⟩) hM.2.2.2.2 hdg hlocks)
theorem ob_i : Cond.instanceMethod objectInit ∈ WB := wb_1 23 (by decide +kernel) rfl
theorem ob_c : Cond.code objectInit ⟨#[0xb1]⟩ 1 none ∈ WB := wb_1 24 (by decide +kernel) rfl
/-- the first two steps of each constructor -/
theorem mk_ob {lv : LV} {ix x : Nat} (hB : Bx p s m args c cc nL own D cy) (hl : lv_has ls nL ((0, .ref x) :: lv)) (hw : Cond.methodLink own ix objectInit ∈ WB) (hfr : 1 ≤ R.frames) (hlo : 12 ≤ R.locals) (d0 : decode cc 0 = .ok (.aload_n 0, 1)) (d1 : decode cc 1 = .ok (.invokespecial ix, 3)) (kk : W p l e R s m args below meth c H locs cells slots Q (F0 m 4 ls [])) : W p l e R s m args below meth c H locs cells slots Q (F0 m 0 ls []) := by
  obtain ⟨hx, hb, hml, hown, hts, hK⟩ := hB
  refine lv_aload_n hx hb d0 rfl (lv_at hl 0 rfl) ?_
  refine W.objInit hx hb hown (hts _ hw) (hts _ ob_i) (hts _ ob_c) rfl (by rw [hml]; exact hl.1) rfl d1 hfr (by simpa using hlo) ?_
  exact W.eq (g2 := F0 m 4 ls []) rfl kk
/-- new, dup, and the constructor -/
theorem mk_new {ct : Nat → va_E} {y : MethodName} {bytes : ByteArray} {maxL : Nat} {rm : Room} {kd' : KdT} {N' ci' mc ms index ic : Nat} {fs' : List Value} {I' : IM} {C : String} {T : u_T} {NF : Nat} (ty : Nat → FieldType) (hB : Bx p s m args c cc nL own D cy) (hC : MkC l y bytes maxL rm kd' N' ci' fs' I' mc ms) (hM : MkG D ct h n ci fs G H locs) (hn : 0 < n) (hAO : AOs s)
    (hc : vwCl[ci']? = some (C, T, NF)) (hin : ∀ w ∈ u_ws C T NF, w ∈ WB) (hty : ∀ k, k < NF → parseFieldDescriptor (T k).2.2.1 = some (ty k)) (hfs : ∀ j, j < NF → defaultValue (ty j) = vp_V fs' j) (w1 : Cond.classLink own index C ∈ WB) (w2 : Cond.instantiable C NF ∈ WB) (w3 : Cond.initialized C ∈ WB)
    (hyc : y.cls = C) (v1 : Cond.methodLink own ic y ∈ WB) (v2 : Cond.instanceMethod y ∈ WB) (v3 : Cond.code y bytes maxL none ∈ WB) (hyn : y.name = "<init>") (hdd : y.cls ≠ "java/lang/invoke/MethodHandle" ∧ y.cls ≠ "java/lang/invoke/VarHandle" ∧ (parseMethodDescriptor y.desc).map (fun d => d.parameters.length) = some 0)
    (hrm : rm.cells = mc ∧ rm.slots = ms) (hR : rm.frames + 1 ≤ R.frames ∧ 8 + (maxL + 11) + rm.locals ≤ R.locals) (hcells : cells + 1 + mc ≤ R.cells) (hslots : slots + NF + ms ≤ R.slots) (hcat : (rest.map fun v => v.category).sum ≤ 7)
    (hct : ∀ i, i < N' → ct (n + i) = ctn cy kd' (adH (h + n)) I' L0 i)
    (d0 : decode cc pc = .ok (.new index, 3)) (d1 : decode cc (pc + 3) = .ok (.dup, 1)) (d2 : decode cc (pc + 4) = .ok (.invokespecial ic, 3))
    (kk : ∀ (H1 : Heap) (locs1 : List Loc), MkG D ct h (n + N') ci fs G H1 locs1 → W p l e R s m args below meth c H1 locs1 (cells + 1 + mc) (slots + NF + ms) Q (F0 m (pc + 7) ls (.ref (h + n) :: rest))) (hls : ls.size = nL) : W p l e R s m args below meth c H locs cells slots Q (F0 m pc ls rest) := by
  refine mknew ty hB hc hin hty hfs w1 w2 w3 (by omega) (by omega) d0 fun H1 e1 z1 o1 => ?_
  rw [hM.1] at e1 ⊢
  obtain ⟨hx, hb, hml, hown, hts, hK⟩ := hB
  refine lv_dup hx hb d1 rfl ?_
  refine mkback (Qc := MkQ D cy kd' (h + n) N' I') (a := (Value.ref (h + n) :: []).toArray) (va_runI (n := 0) (b := h + n) (As := []) (rest := .ref (h + n) :: rest) ⟨hx, hb, hml, hown, hts⟩ (hC D cy (h + n)) (cwI 0 hts (gIn (fun w hw => ?_)) rfl hrm.1 hrm.2 (hts _ (by rw [hyc]; exact w3)) (hts _ v1) (hts _ v2) hyn hdd hR) ⟨fun a U g mk q => ⟨q.1, q.2.1, q.2.2.1, va_K.moved (u := U) (U := U.calling g mk a) (Vm.Alike.refl U.vm) q.2.2.2.1, q.2.2.2.2.moved (U := U.calling g mk a) (Vm.Alike.refl U.vm)⟩, fun U hU hWm => ⟨rfl, by rw [hU, z1, hM.1], by rw [hU]; exact e1, va_K.moved hWm.alike hK, hAO.moved hWm.alike⟩⟩ rfl rfl hls rfl (lv_room (by simp only [List.map_cons, List.sum_cons]; show 1 + _ ≤ 8; omega)) d2 ⟨by omega, by omega⟩) (fun v st t Lx g0 gL hq => ?_)
  · rcases List.mem_cons.mp hw with rfl | h
    · exact v3
    · exact h
  · obtain ⟨q1, q2, q3, q4⟩ := hq
    have hv : v = none := by cases q1; rfl
    subst hv
    refine kk t.heap _ ?_
    have hM1 := hM.2.2.2.2
    obtain ⟨b1, b2, b3, b4, b5⟩ := hM.grow (k := N') (H1 := t.heap) hn (by rw [q2, hM.1]) (fun q hq => by rw [q4 q (by rw [← hM.1]; exact hq), g0]; exact o1 q hq) (fun i h1 h2 => by
      obtain ⟨j, rfl⟩ : ∃ j, i = n + j := ⟨i - n, by omega⟩
      rw [hct j (by omega)]
      have := q3 j (by omega)
      rw [show adH (h + n) j = adH h (n + j) by unfold adH; omega] at this
      exact this)
    exact ⟨b1, b2, b3, b4, fun z hz => by
      rcases List.mem_append.mp hz with e | e
      · exact b5 z e
      · have := gL z e
        omega⟩
end MC
