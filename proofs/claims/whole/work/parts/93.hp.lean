/-! THE LAW's HELPERS: one call each, a throw told as a number -/
theorem EX.narrow {A B : Nat → Prop} {U : State} (h : EX A U) (hAB : ∀ q, B q → A q) : EX B U := ⟨h.1.narrow hAB, h.2.1.narrow hAB, h.2.2.1, h.2.2.2⟩
def LEX (h : Nat) (U : State) : Prop := EX (fun q => h ≤ q) U ∧ va_Nc exA exB U ∧ va_Nc exS exB U ∧ va_Nc exS exA U
theorem LEX.moved {h : Nat} {s U : State} (hx : LEX h s) (hW : s.WarmedH U.vm) (hq : ∀ a : Nat, a < s.heap.size → ¬ h ≤ a → U.heap[a]? = s.heap[a]?) : LEX h U := ⟨hx.1.moved hW hq, hx.2.1.moved hW.alike, hx.2.2.1.moved hW.alike, hx.2.2.2.moved hW.alike⟩
def OutL (cy : Nat → ClassId) (o : Nat) (v : Int64) (H : Heap) : Prop := H[o]? = some (vp_cell (cy 1) (1, .inr (.inl (fun _ => v))))
/-- a long one laid into the only place of an array -/
theorem arrV_1 {cI : ClassId} {f g : Nat → Value} (h : f 0 = g 0) : arrV cI 1 f = arrV cI 1 g := by
  unfold arrV
  have : (fun j : Fin 1 => f j.val) = fun j : Fin 1 => g j.val := by
    funext j
    rw [show j.val = 0 by omega]
    exact h
  rw [this]
/-- how a helper's table takes the i-th of its exceptions -/
def HdX (cc : ByteArray) (nL : Nat) (s : State) (pcI : Nat) (tb : List ExceptionTableEntry) (i : Nat) (E : String) : Prop :=
  ∃ (pre : List ExceptionTableEntry) (x : ExceptionTableEntry) (suf : List ExceptionTableEntry), tb = pre ++ x :: suf ∧ (∀ z ∈ pre, z.catchType ≠ 0 ∧ ∃ nm : String, Cond.classLink RL z.catchType nm ∈ WB ∧ va_Nc E nm s) ∧ covers x pcI = true ∧ x.catchType ≠ 0 ∧ Cond.classLink RL x.catchType E ∈ WB ∧ Cond.castable E E ∈ nwL ∧ ∃ pc2, ((∃ k : Fin 4, decode cc x.handlerPc = .ok (.astore_n k, 1) ∧ k.val < nL ∧ pc2 = x.handlerPc + 1) ∨ (∃ k : Nat, decode cc x.handlerPc = .ok (.astore k, 2) ∧ k < nL ∧ pc2 = x.handlerPc + 2)) ∧ decode cc pc2 = .ok (.iconst ((i : Int) + 1), 1) ∧ decode cc (pc2 + 1) = .ok (.ireturn, 1)
def HpF (h o : Nat) : Nat → Prop := fun q => (∃ i, i < 181 ∧ q = adH h i) ∨ q = o
def HpQ (D : va_G) (cy : Nat → ClassId) (h o code : Nat) (v : Int64) (I : IM) (L : LM) (_ : Array Value) (st : State) (oc : Outcome) (t : State) : Prop :=
  (oc = .returned (some (.int (nI code))) ∧ wd D cy kdC (adH h) 181 I L t.heap ∧ ∃ w, OutL cy o w t.heap ∧ (code = 0 → w = v)) ∧ va_F (HpF h o) st t
section HP
variable {p : Program} {l : Launch} {e : Env} {R : Room} {s : State} {m : MethodId} {args : Array Value} {below : List Frame} {meth : Method} {c : Code} {Q : State → Prop} {cc : ByteArray} {nL : Nat} {D : va_G} {cy : Nat → ClassId} {I I2 : IM} {L L2 : LM} {h o : Nat} {ls : Array Slot}
theorem hp_main {y : MethodName} {bytes : ByteArray} {maxL ix pcI pcE code : Nat} {rmr rmx : Room} {av : List Value} {x : Int32} {exs : List String} {off : Int} {T : u_T} {v0 : Int64} (hB : Bx p s m args c cc nL RL D cy) (hr : meth.sig.returnType = some .int) (hlocks : meth.locks = false) (hEX : LEX h s) (hW : wd D cy kdC (adH h) 181 I L s.heap) (ho : OutL cy o v0 s.heap) (hoh : h + 181 ≤ o) (hcl : y.cls = RX7) (hs : SitV RL ix y bytes maxL (some .int) av.length) (hav : av.map (cz (adH h)) = av) (hcat : (av.map fun v => v.category).sum ≤ 8)
    (hOC : OC (fun r => CR l kdC 181 y bytes maxL (some .int) rmr (.ref 0 :: av) I L r) (fun E => CX l kdC 181 y bytes maxL (some .int) rmx (.ref 0 :: av) I L E) exs code (some (.int x)) I2 L2)
    (hr1 : RmOK rmr R maxL = true) (hr2 : ∀ (i : Nat) (E : String), exs[i]? = some E → RmX rmx R maxL = true) (hRc : 1 ≤ R.cells ∧ 6 ≤ R.slots) {lvs : List (Nat × Value)} (hl : lv_has ls nL lvs) (hX : ∀ (i : Nat) (E : String), exs[i]? = some E → HdX cc nL s pcI c.exceptionTable.toList i E)
    (dI : decode cc pcI = .ok (.invokevirtual ix, 3)) (d1 : decode cc (pcI + 3) = .ok (.i2l, 1)) (d2 : decode cc (pcI + 4) = .ok (.lastore, 1)) (d3 : decode cc (pcI + 5) = .ok (.goto off, 3)) (ht : ((pcI + 5 : Nat) : Int) + off = (pcE : Int)) (d4 : decode cc pcE = .ok (.iconst 0, 1)) (d5 : decode cc (pcE + 1) = .ok (.ireturn, 1)) :
    W p l e R s m args below meth c s.heap [] 0 0 (vx_MQ below (HpQ D cy h o code x.toInt64 I2 L2) (fun _ _ _ => False) args s 1 6 (HpF h o)) (F0 m pcI ls (av.reverse ++ .ref h :: [.int 0, .ref o])) := by
  obtain ⟨hx, hb, hml, hown, hts, hK⟩ := id hB
  obtain ⟨⟨h1, h2, h3, h4, h5⟩, hd⟩ := hs
  have hP : va_P D vwCl [(h, .inr (4, fdv (adH h) I L 0 0 (FD 4)))] s.heap := fun k q hq => by
    cases k with
    | zero => cases hq; exact hW 0 (by decide)
    | succ k => simp at hq
  have hwd : ∀ w ∈ [Cond.methodLink RL ix y, Cond.instanceMethod y, Cond.selects y.cls y y, Cond.initialized y.cls] ++ wsY y bytes maxL (some .int), w ∈ WB := fun w hw => by
    rcases List.mem_append.mp hw with h | h
    · simp only [List.mem_cons, List.not_mem_nil, or_false] at h
      rcases h with rfl | rfl | rfl | rfl
      · exact h1
      · exact h2
      · exact h3
      · exact h4
    · rcases List.mem_cons.mp h with rfl | h
      · exact h5
      · exact h
  have hoN : ¬ AA (adH h) 181 o := fun ⟨i, hi, e⟩ => by unfold adH at e; omega
  rcases hOC with ⟨rfl, hC⟩ | ⟨i, E, rfl, hE, hC⟩
  · obtain ⟨r1, r2, r3, r4⟩ := rmOK_of hr1
    refine mkback (rest := [.int 0, .ref o]) (Qc := fun _ st oc t => (oc = .returned (Option.map (cz (adH h)) (some (.int x))) ∧ wd D cy kdC (adH h) 181 I2 L2 t.heap) ∧ va_F (AA (adH h) 181) st t) (a := (Value.ref h :: av).toArray) (va_runV (n := av.length) (b := h) (C := y.cls) (As := av) (rest := [.int 0, .ref o]) ⟨hx, hb, hml, hown, hts⟩ (hC D cy (adH h) (adH_inj h 181)) (cwV av.length hts (gIn hwd) rfl r1 r2 hd ⟨r3, r4⟩) ⟨fun a U g mk q => ⟨q.1, q.2.1, va_K.moved (u := U) (U := U.calling g mk a) (Vm.Alike.refl U.vm) q.2.2⟩, (by rw [hcl]; exact va_recv hK hP (ci := 4) (q0 := 0) (q := (RX7, TX7, 11)) rfl rfl), fun U hU hWm => ⟨by show _ = ((Value.ref 0 :: av).map (cz (adH h))).toArray; rw [List.map_cons, hav]; rfl, by rw [hU]; exact hW, va_K.moved hWm.alike hK⟩⟩ rfl rfl hl.1 rfl (lv_room (Nat.le_of_ble_eq_true rfl)) dI ⟨by omega, by omega⟩) (fun v st t Lx g0 gL hq => ?_)
    obtain ⟨⟨q1, q2⟩, q3, q4⟩ := hq
    have hv : v = some (.int x) := by cases q1; rfl
    subst hv
    refine lv_i2l hx hb (v := x.toInt64) d1 rfl ?_
    have ho2 : OutL cy o v0 t.heap := by
      unfold OutL
      rw [q4 o (by rw [g0]; exact (Array.getElem?_eq_some_iff.mp ho).1) hoN, g0]
      exact ho
    have hin0 : ¬ ((0 : Int32) < 0 ∨ (vp_cell (cy 1) (1, .inr (.inl fun _ => v0))).slots.size ≤ (0 : Int32).toNatClampNeg) := by
      rintro (q | q)
      · exact absurd q (by decide)
      · rw [show (vp_cell (cy 1) (1, .inr (.inl fun _ => v0))) = arrV (cy 1) 1 (fun _ => .long v0) from rfl, arrV_size] at q
        exact absurd q (by decide)
    refine W.last hx hb ho2 ((hK.2 1 (cy 1, .long) rfl).1 1 (fun _ => .long v0)) (fun q => by cases q) hin0 rfl rfl d2 fun H1 e1 z1 o1 => ?_
    refine lv_goto (tgt := pcE) hx hb d3 ht ?_
    refine lv_iconst (v := nI 0) hx hb d4 (by decide) ?_
    refine W.widen (k := 1) (n := 6) (by omega) (by omega) (vx_ret (W.iret hx hb hr (fun t2 ht2 _ => ?_) (fun z hz => ?_) d5 hlocks))
    · have o1 : ∀ q : Nat, q ≠ o → H1[q]? = t.heap[q]? := o1
      refine ⟨⟨rfl, ?_, x.toInt64, ?_, fun _ => rfl⟩, ?_, fun q hq1 hq2 => ?_⟩
      · rw [ht2]
        exact wd_kept q2 (fun i hi => o1 _ (by unfold adH; omega))
      · rw [ht2]
        unfold OutL
        rw [e1]
        show some ((arrV (cy 1) 1 (fun _ => .long v0)).setSlot ((0 : Int32).toNatClampNeg) (.long x.toInt64)) = _
        rw [arrV_store]
        exact congrArg some (arrV_1 rfl)
      · rw [ht2, z1]
        rw [g0] at q3
        exact q3
      · rw [ht2, o1 q (fun e => hq2 (Or.inr e)), q4 q (by rw [g0]; exact hq1) (fun e => hq2 (Or.inl e)), g0]
    · simp only [List.nil_append] at hz
      rcases List.mem_append.mp hz with e | e
      · exact Or.inl (gL z e)
      · rw [List.mem_singleton.mp e]
        exact Or.inr rfl
  · obtain ⟨r1, r2, r3, r4, r5, r6⟩ := rmX_of (hr2 i E hE)
    have hEXn : EX (AA (adH h) 181) s := hEX.1.narrow (fun q ⟨i, _, e⟩ => by unfold adH at e; omega)
    have hrun := vx_runV (p := p) (l := l) (e := e) (R := R) (s := s) (m := m) (args := args) (below := below) (meth := meth) (c := c) (H := s.heap) (locs := []) (cells := 0) (slots := 0) (n := av.length) (b := h) (C := y.cls) (As := av) (rest := [.int 0, .ref o]) (g := F0 m pcI ls (av.reverse ++ .ref h :: [.int 0, .ref o])) ⟨hx, hb, hml, hown, hts⟩ (hC D cy (adH h) (adH_inj h 181)) (cwV av.length hts (gIn hwd) rfl r1 r2 hd ⟨r3, r4⟩) ⟨fun a U g mk q => ⟨q.1, q.2.1, va_K.moved (u := U) (U := U.calling g mk a) (Vm.Alike.refl U.vm) q.2.2.1, q.2.2.2.1.moved (U := U.calling g mk a) (Vm.Alike.refl U.vm), q.2.2.2.2.1.moved (U := U.calling g mk a) (Vm.Alike.refl U.vm), fun z hz => by
        obtain ⟨sa, h9⟩ := q.2.2.2.2.2.1 z hz
        exact ⟨sa, h9.same rfl⟩, q.2.2.2.2.2.2.same rfl⟩, (by rw [hcl]; exact va_recv hK hP (ci := 4) (q0 := 0) (q := (RX7, TX7, 11)) rfl rfl), fun U hU hWm => ⟨by show _ = ((Value.ref 0 :: av).map (cz (adH h))).toArray; rw [List.map_cons, hav]; rfl, by rw [hU]; exact hW, va_K.moved hWm.alike hK, hEXn.moved hWm (fun a h1 h2 => by rw [hU])⟩⟩ rfl rfl hl.1 rfl (lv_room (Nat.le_of_ble_eq_true rfl)) dI ⟨by rw [Nat.zero_add]; exact r5, by rw [Nat.zero_add]; exact r6⟩
    intro T hT X
    rcases hrun T hT X with ⟨v, st₀, t, T', Lx, h0, X', hL, e1, e2, hq, st⟩ | ⟨q, st₀, t, T', Lx, E9, ce, h0, X', hL, e1, e2, ⟨rfl, hwd2, hz, hk⟩, hce, hcv, hcl9, st⟩
    · exact hq.elim
    · obtain ⟨pre, xx, suf, hsplit, hpass, hcov, hct0, hlink, hcast, pc2, hst, d6, d7⟩ := hX i E9 hE
      rw [h0] at hz hk
      have kk : W p l e R s m args below meth c T'.heap ([] ++ Lx) (0 + 1) (0 + 6) (vx_MQ below (HpQ D cy h o (i + 1) x.toInt64 I2 L2) (fun _ _ _ => False) args s 1 6 (HpF h o)) (F0 m xx.handlerPc ls [.ref q]) := by
        have last : ∀ ls2 : Array Slot, W p l e R s m args below meth c T'.heap ([] ++ Lx) (0 + 1) (0 + 6) (vx_MQ below (HpQ D cy h o (i + 1) x.toInt64 I2 L2) (fun _ _ _ => False) args s 1 6 (HpF h o)) (F0 m pc2 ls2 []) := fun ls2 => by
          refine lv_iconst (v := nI (i + 1)) hx hb d6 (by rw [show ((i : Int) + 1) = ((i + 1 : Nat) : Int) by omega]; rfl) ?_
          refine vx_ret (W.iret hx hb hr (fun t2 ht2 _ => ?_) (fun z hz2 => Or.inl (hL z (by simpa using hz2))) d7 hlocks)
          refine ⟨⟨rfl, by rw [ht2, e1]; exact hwd2, v0, ?_, fun e9 => absurd e9 (Nat.succ_ne_zero i)⟩, by rw [ht2, e1]; exact hz, fun q9 a1 a2 => by rw [ht2, e1]; exact hk q9 a1 (fun e9 => a2 (Or.inl e9))⟩
          unfold OutL
          rw [ht2, e1, hk o (Array.getElem?_eq_some_iff.mp ho).1 hoN]
          exact ho
        have hl0 : lv_has ls nL [] := ⟨hl.1, hl.2.1, fun q hq => absurd hq List.not_mem_nil⟩
        rcases hst with ⟨k, dk, hkn, rfl⟩ | ⟨k, dk, hkn, rfl⟩
        · exact lv_astore_n (lv' := [(k.val, .ref q)]) hx hb dk rfl hl0 hkn rfl (fun ls2 _ => last ls2)
        · exact lv_astore (lv' := [(k, .ref q)]) hx hb dk hl0 hkn rfl (fun ls2 _ => last ls2)
      obtain ⟨t2, a1, b1⟩ := (vx_catch hown pre xx suf hsplit (fun z hz => Or.inr ⟨(hpass z hz).1, by
        obtain ⟨nm, h8, h9⟩ := (hpass z hz).2
        exact ⟨nm, hts _ h8, h9⟩⟩) hcov hct0 (hts _ hlink) ((hEX.1.2.2.2.use (A := args) hcast).1) (by rw [e1]; exact hce) hcv hcl9 kk) T' rfl X'
      exact ⟨t2, st.trans a1, b1⟩
end HP
/-! the other answers -/
def OutD (cy : Nat → ClassId) (o : Nat) (v : UInt64) (H : Heap) : Prop := H[o]? = some (vp_cell (cy 6) (1, .inr (.inr (.inr (.inl (fun _ => v))))))
def HpD (D : va_G) (cy : Nat → ClassId) (h o code : Nat) (v : UInt64) (I : IM) (L : LM) (_ : Array Value) (st : State) (oc : Outcome) (t : State) : Prop :=
  (oc = .returned (some (.int (nI code))) ∧ wd D cy kdC (adH h) 181 I L t.heap ∧ ∃ w, OutD cy o w t.heap ∧ (code = 0 → w = v)) ∧ va_F (HpF h o) st t
section HPL
variable {p : Program} {l : Launch} {e : Env} {R : Room} {s : State} {m : MethodId} {args : Array Value} {below : List Frame} {meth : Method} {c : Code} {Q : State → Prop} {cc : ByteArray} {nL : Nat} {D : va_G} {cy : Nat → ClassId} {I I2 : IM} {L L2 : LM} {h o : Nat} {ls : Array Slot}
theorem hp_mainL {y : MethodName} {bytes : ByteArray} {maxL ix pcI pcE code : Nat} {rmr rmx : Room} {av : List Value} {x : Int64} {exs : List String} {off : Int} {T : u_T} {v0 : Int64} (hB : Bx p s m args c cc nL RL D cy) (hr : meth.sig.returnType = some .int) (hlocks : meth.locks = false) (hEX : LEX h s) (hW : wd D cy kdC (adH h) 181 I L s.heap) (ho : OutL cy o v0 s.heap) (hoh : h + 181 ≤ o) (hcl : y.cls = RX7) (hs : SitV RL ix y bytes maxL (some .long) av.length) (hav : av.map (cz (adH h)) = av) (hcat : (av.map fun v => v.category).sum ≤ 8)
    (hOC : OC (fun r => CR l kdC 181 y bytes maxL (some .long) rmr (.ref 0 :: av) I L r) (fun E => CX l kdC 181 y bytes maxL (some .long) rmx (.ref 0 :: av) I L E) exs code (some (.long x)) I2 L2)
    (hr1 : RmOK rmr R maxL = true) (hr2 : ∀ (i : Nat) (E : String), exs[i]? = some E → RmX rmx R maxL = true) (hRc : 1 ≤ R.cells ∧ 6 ≤ R.slots) {lvs : List (Nat × Value)} (hl : lv_has ls nL lvs) (hX : ∀ (i : Nat) (E : String), exs[i]? = some E → HdX cc nL s pcI c.exceptionTable.toList i E)
    (dI : decode cc pcI = .ok (.invokevirtual ix, 3)) (d2 : decode cc (pcI + 3) = .ok (.lastore, 1)) (d3 : decode cc (pcI + 4) = .ok (.goto off, 3)) (ht : ((pcI + 4 : Nat) : Int) + off = (pcE : Int)) (d4 : decode cc pcE = .ok (.iconst 0, 1)) (d5 : decode cc (pcE + 1) = .ok (.ireturn, 1)) :
    W p l e R s m args below meth c s.heap [] 0 0 (vx_MQ below (HpQ D cy h o code x I2 L2) (fun _ _ _ => False) args s 1 6 (HpF h o)) (F0 m pcI ls (av.reverse ++ .ref h :: [.int 0, .ref o])) := by
  obtain ⟨hx, hb, hml, hown, hts, hK⟩ := id hB
  obtain ⟨⟨h1, h2, h3, h4, h5⟩, hd⟩ := hs
  have hP : va_P D vwCl [(h, .inr (4, fdv (adH h) I L 0 0 (FD 4)))] s.heap := fun k q hq => by
    cases k with
    | zero => cases hq; exact hW 0 (by decide)
    | succ k => simp at hq
  have hwd : ∀ w ∈ [Cond.methodLink RL ix y, Cond.instanceMethod y, Cond.selects y.cls y y, Cond.initialized y.cls] ++ wsY y bytes maxL (some .long), w ∈ WB := fun w hw => by
    rcases List.mem_append.mp hw with h | h
    · simp only [List.mem_cons, List.not_mem_nil, or_false] at h
      rcases h with rfl | rfl | rfl | rfl
      · exact h1
      · exact h2
      · exact h3
      · exact h4
    · rcases List.mem_cons.mp h with rfl | h
      · exact h5
      · exact h
  have hoN : ¬ AA (adH h) 181 o := fun ⟨i, hi, e⟩ => by unfold adH at e; omega
  rcases hOC with ⟨rfl, hC⟩ | ⟨i, E, rfl, hE, hC⟩
  · obtain ⟨r1, r2, r3, r4⟩ := rmOK_of hr1
    refine mkback (rest := [.int 0, .ref o]) (Qc := fun _ st oc t => (oc = .returned (Option.map (cz (adH h)) (some (.long x))) ∧ wd D cy kdC (adH h) 181 I2 L2 t.heap) ∧ va_F (AA (adH h) 181) st t) (a := (Value.ref h :: av).toArray) (va_runV (n := av.length) (b := h) (C := y.cls) (As := av) (rest := [.int 0, .ref o]) ⟨hx, hb, hml, hown, hts⟩ (hC D cy (adH h) (adH_inj h 181)) (cwV av.length hts (gIn hwd) rfl r1 r2 hd ⟨r3, r4⟩) ⟨fun a U g mk q => ⟨q.1, q.2.1, va_K.moved (u := U) (U := U.calling g mk a) (Vm.Alike.refl U.vm) q.2.2⟩, (by rw [hcl]; exact va_recv hK hP (ci := 4) (q0 := 0) (q := (RX7, TX7, 11)) rfl rfl), fun U hU hWm => ⟨by show _ = ((Value.ref 0 :: av).map (cz (adH h))).toArray; rw [List.map_cons, hav]; rfl, by rw [hU]; exact hW, va_K.moved hWm.alike hK⟩⟩ rfl rfl hl.1 rfl (lv_room (Nat.le_of_ble_eq_true rfl)) dI ⟨by omega, by omega⟩) (fun v st t Lx g0 gL hq => ?_)
    obtain ⟨⟨q1, q2⟩, q3, q4⟩ := hq
    have hv : v = some (.long x) := by cases q1; rfl
    subst hv
    have ho2 : OutL cy o v0 t.heap := by
      unfold OutL
      rw [q4 o (by rw [g0]; exact (Array.getElem?_eq_some_iff.mp ho).1) hoN, g0]
      exact ho
    have hin0 : ¬ ((0 : Int32) < 0 ∨ (vp_cell (cy 1) (1, .inr (.inl fun _ => v0))).slots.size ≤ (0 : Int32).toNatClampNeg) := by
      rintro (q | q)
      · exact absurd q (by decide)
      · rw [show (vp_cell (cy 1) (1, .inr (.inl fun _ => v0))) = arrV (cy 1) 1 (fun _ => .long v0) from rfl, arrV_size] at q
        exact absurd q (by decide)
    refine W.last hx hb ho2 ((hK.2 1 (cy 1, .long) rfl).1 1 (fun _ => .long v0)) (fun q => by cases q) hin0 rfl rfl d2 fun H1 e1 z1 o1 => ?_
    refine lv_goto (tgt := pcE) hx hb d3 ht ?_
    refine lv_iconst (v := nI 0) hx hb d4 (by decide) ?_
    refine W.widen (k := 1) (n := 6) (by omega) (by omega) (vx_ret (W.iret hx hb hr (fun t2 ht2 _ => ?_) (fun z hz => ?_) d5 hlocks))
    · have o1 : ∀ q : Nat, q ≠ o → H1[q]? = t.heap[q]? := o1
      refine ⟨⟨rfl, ?_, x, ?_, fun _ => rfl⟩, ?_, fun q hq1 hq2 => ?_⟩
      · rw [ht2]
        exact wd_kept q2 (fun i hi => o1 _ (by unfold adH; omega))
      · rw [ht2]
        unfold OutL
        rw [e1]
        show some ((arrV (cy 1) 1 (fun _ => .long v0)).setSlot ((0 : Int32).toNatClampNeg) (.long x)) = _
        rw [arrV_store]
        exact congrArg some (arrV_1 rfl)
      · rw [ht2, z1]
        rw [g0] at q3
        exact q3
      · rw [ht2, o1 q (fun e => hq2 (Or.inr e)), q4 q (by rw [g0]; exact hq1) (fun e => hq2 (Or.inl e)), g0]
    · simp only [List.nil_append] at hz
      rcases List.mem_append.mp hz with e | e
      · exact Or.inl (gL z e)
      · rw [List.mem_singleton.mp e]
        exact Or.inr rfl
  · obtain ⟨r1, r2, r3, r4, r5, r6⟩ := rmX_of (hr2 i E hE)
    have hEXn : EX (AA (adH h) 181) s := hEX.1.narrow (fun q ⟨i, _, e⟩ => by unfold adH at e; omega)
    have hrun := vx_runV (p := p) (l := l) (e := e) (R := R) (s := s) (m := m) (args := args) (below := below) (meth := meth) (c := c) (H := s.heap) (locs := []) (cells := 0) (slots := 0) (n := av.length) (b := h) (C := y.cls) (As := av) (rest := [.int 0, .ref o]) (g := F0 m pcI ls (av.reverse ++ .ref h :: [.int 0, .ref o])) ⟨hx, hb, hml, hown, hts⟩ (hC D cy (adH h) (adH_inj h 181)) (cwV av.length hts (gIn hwd) rfl r1 r2 hd ⟨r3, r4⟩) ⟨fun a U g mk q => ⟨q.1, q.2.1, va_K.moved (u := U) (U := U.calling g mk a) (Vm.Alike.refl U.vm) q.2.2.1, q.2.2.2.1.moved (U := U.calling g mk a) (Vm.Alike.refl U.vm), q.2.2.2.2.1.moved (U := U.calling g mk a) (Vm.Alike.refl U.vm), fun z hz => by
        obtain ⟨sa, h9⟩ := q.2.2.2.2.2.1 z hz
        exact ⟨sa, h9.same rfl⟩, q.2.2.2.2.2.2.same rfl⟩, (by rw [hcl]; exact va_recv hK hP (ci := 4) (q0 := 0) (q := (RX7, TX7, 11)) rfl rfl), fun U hU hWm => ⟨by show _ = ((Value.ref 0 :: av).map (cz (adH h))).toArray; rw [List.map_cons, hav]; rfl, by rw [hU]; exact hW, va_K.moved hWm.alike hK, hEXn.moved hWm (fun a h1 h2 => by rw [hU])⟩⟩ rfl rfl hl.1 rfl (lv_room (Nat.le_of_ble_eq_true rfl)) dI ⟨by rw [Nat.zero_add]; exact r5, by rw [Nat.zero_add]; exact r6⟩
    intro T hT X
    rcases hrun T hT X with ⟨v, st₀, t, T', Lx, h0, X', hL, e1, e2, hq, st⟩ | ⟨q, st₀, t, T', Lx, E9, ce, h0, X', hL, e1, e2, ⟨rfl, hwd2, hz, hk⟩, hce, hcv, hcl9, st⟩
    · exact hq.elim
    · obtain ⟨pre, xx, suf, hsplit, hpass, hcov, hct0, hlink, hcast, pc2, hst, d6, d7⟩ := hX i E9 hE
      rw [h0] at hz hk
      have kk : W p l e R s m args below meth c T'.heap ([] ++ Lx) (0 + 1) (0 + 6) (vx_MQ below (HpQ D cy h o (i + 1) x I2 L2) (fun _ _ _ => False) args s 1 6 (HpF h o)) (F0 m xx.handlerPc ls [.ref q]) := by
        have last : ∀ ls2 : Array Slot, W p l e R s m args below meth c T'.heap ([] ++ Lx) (0 + 1) (0 + 6) (vx_MQ below (HpQ D cy h o (i + 1) x I2 L2) (fun _ _ _ => False) args s 1 6 (HpF h o)) (F0 m pc2 ls2 []) := fun ls2 => by
          refine lv_iconst (v := nI (i + 1)) hx hb d6 (by rw [show ((i : Int) + 1) = ((i + 1 : Nat) : Int) by omega]; rfl) ?_
          refine vx_ret (W.iret hx hb hr (fun t2 ht2 _ => ?_) (fun z hz2 => Or.inl (hL z (by simpa using hz2))) d7 hlocks)
          refine ⟨⟨rfl, by rw [ht2, e1]; exact hwd2, v0, ?_, fun e9 => absurd e9 (Nat.succ_ne_zero i)⟩, by rw [ht2, e1]; exact hz, fun q9 a1 a2 => by rw [ht2, e1]; exact hk q9 a1 (fun e9 => a2 (Or.inl e9))⟩
          unfold OutL
          rw [ht2, e1, hk o (Array.getElem?_eq_some_iff.mp ho).1 hoN]
          exact ho
        have hl0 : lv_has ls nL [] := ⟨hl.1, hl.2.1, fun q hq => absurd hq List.not_mem_nil⟩
        rcases hst with ⟨k, dk, hkn, rfl⟩ | ⟨k, dk, hkn, rfl⟩
        · exact lv_astore_n (lv' := [(k.val, .ref q)]) hx hb dk rfl hl0 hkn rfl (fun ls2 _ => last ls2)
        · exact lv_astore (lv' := [(k, .ref q)]) hx hb dk hl0 hkn rfl (fun ls2 _ => last ls2)
      obtain ⟨t2, a1, b1⟩ := (vx_catch hown pre xx suf hsplit (fun z hz => Or.inr ⟨(hpass z hz).1, by
        obtain ⟨nm, h8, h9⟩ := (hpass z hz).2
        exact ⟨nm, hts _ h8, h9⟩⟩) hcov hct0 (hts _ hlink) ((hEX.1.2.2.2.use (A := args) hcast).1) (by rw [e1]; exact hce) hcv hcl9 kk) T' rfl X'
      exact ⟨t2, st.trans a1, b1⟩
end HPL
section HPF
variable {p : Program} {l : Launch} {e : Env} {R : Room} {s : State} {m : MethodId} {args : Array Value} {below : List Frame} {meth : Method} {c : Code} {Q : State → Prop} {cc : ByteArray} {nL : Nat} {D : va_G} {cy : Nat → ClassId} {I I2 : IM} {L L2 : LM} {h o : Nat} {ls : Array Slot}
theorem hp_mainF {y : MethodName} {bytes : ByteArray} {maxL ix pcI pcE code : Nat} {rmr rmx : Room} {av : List Value} {x : UInt32} {exs : List String} {off : Int} {T : u_T} {v0 : UInt64} (hB : Bx p s m args c cc nL RL D cy) (hr : meth.sig.returnType = some .int) (hlocks : meth.locks = false) (hf2 : code = 0 → vf_n64 (FP.f2d x)) (hEX : LEX h s) (hW : wd D cy kdC (adH h) 181 I L s.heap) (ho : OutD cy o v0 s.heap) (hoh : h + 181 ≤ o) (hcl : y.cls = RX7) (hs : SitV RL ix y bytes maxL (some .float) av.length) (hav : av.map (cz (adH h)) = av) (hcat : (av.map fun v => v.category).sum ≤ 8)
    (hOC : OC (fun r => CR l kdC 181 y bytes maxL (some .float) rmr (.ref 0 :: av) I L r) (fun E => CX l kdC 181 y bytes maxL (some .float) rmx (.ref 0 :: av) I L E) exs code (some (.float x)) I2 L2)
    (hr1 : RmOK rmr R maxL = true) (hr2 : ∀ (i : Nat) (E : String), exs[i]? = some E → RmX rmx R maxL = true) (hRc : 1 ≤ R.cells ∧ 6 ≤ R.slots) {lvs : List (Nat × Value)} (hl : lv_has ls nL lvs) (hX : ∀ (i : Nat) (E : String), exs[i]? = some E → HdX cc nL s pcI c.exceptionTable.toList i E)
    (dI : decode cc pcI = .ok (.invokevirtual ix, 3)) (d1 : decode cc (pcI + 3) = .ok (.f2d, 1)) (d2 : decode cc (pcI + 4) = .ok (.dastore, 1)) (d3 : decode cc (pcI + 5) = .ok (.goto off, 3)) (ht : ((pcI + 5 : Nat) : Int) + off = (pcE : Int)) (d4 : decode cc pcE = .ok (.iconst 0, 1)) (d5 : decode cc (pcE + 1) = .ok (.ireturn, 1)) :
    W p l e R s m args below meth c s.heap [] 0 0 (vx_MQ below (HpD D cy h o code (FP.f2d x) I2 L2) (fun _ _ _ => False) args s 1 6 (HpF h o)) (F0 m pcI ls (av.reverse ++ .ref h :: [.int 0, .ref o])) := by
  obtain ⟨hx, hb, hml, hown, hts, hK⟩ := id hB
  obtain ⟨⟨h1, h2, h3, h4, h5⟩, hd⟩ := hs
  have hP : va_P D vwCl [(h, .inr (4, fdv (adH h) I L 0 0 (FD 4)))] s.heap := fun k q hq => by
    cases k with
    | zero => cases hq; exact hW 0 (by decide)
    | succ k => simp at hq
  have hwd : ∀ w ∈ [Cond.methodLink RL ix y, Cond.instanceMethod y, Cond.selects y.cls y y, Cond.initialized y.cls] ++ wsY y bytes maxL (some .float), w ∈ WB := fun w hw => by
    rcases List.mem_append.mp hw with h | h
    · simp only [List.mem_cons, List.not_mem_nil, or_false] at h
      rcases h with rfl | rfl | rfl | rfl
      · exact h1
      · exact h2
      · exact h3
      · exact h4
    · rcases List.mem_cons.mp h with rfl | h
      · exact h5
      · exact h
  have hoN : ¬ AA (adH h) 181 o := fun ⟨i, hi, e⟩ => by unfold adH at e; omega
  rcases hOC with ⟨rfl, hC⟩ | ⟨i, E, rfl, hE, hC⟩
  · obtain ⟨r1, r2, r3, r4⟩ := rmOK_of hr1
    refine mkback (rest := [.int 0, .ref o]) (Qc := fun _ st oc t => (oc = .returned (Option.map (cz (adH h)) (some (.float x))) ∧ wd D cy kdC (adH h) 181 I2 L2 t.heap) ∧ va_F (AA (adH h) 181) st t) (a := (Value.ref h :: av).toArray) (va_runV (n := av.length) (b := h) (C := y.cls) (As := av) (rest := [.int 0, .ref o]) ⟨hx, hb, hml, hown, hts⟩ (hC D cy (adH h) (adH_inj h 181)) (cwV av.length hts (gIn hwd) rfl r1 r2 hd ⟨r3, r4⟩) ⟨fun a U g mk q => ⟨q.1, q.2.1, va_K.moved (u := U) (U := U.calling g mk a) (Vm.Alike.refl U.vm) q.2.2⟩, (by rw [hcl]; exact va_recv hK hP (ci := 4) (q0 := 0) (q := (RX7, TX7, 11)) rfl rfl), fun U hU hWm => ⟨by show _ = ((Value.ref 0 :: av).map (cz (adH h))).toArray; rw [List.map_cons, hav]; rfl, by rw [hU]; exact hW, va_K.moved hWm.alike hK⟩⟩ rfl rfl hl.1 rfl (lv_room (Nat.le_of_ble_eq_true rfl)) dI ⟨by omega, by omega⟩) (fun v st t Lx g0 gL hq => ?_)
    obtain ⟨⟨q1, q2⟩, q3, q4⟩ := hq
    have hv : v = some (.float x) := by cases q1; rfl
    subst hv
    refine lv_f2d hx hb d1 (hf2 rfl) ?_
    have ho2 : OutD cy o v0 t.heap := by
      unfold OutD
      rw [q4 o (by rw [g0]; exact (Array.getElem?_eq_some_iff.mp ho).1) hoN, g0]
      exact ho
    have hin0 : ¬ ((0 : Int32) < 0 ∨ (vp_cell (cy 6) (1, .inr (.inr (.inr (.inl fun _ => v0))))).slots.size ≤ (0 : Int32).toNatClampNeg) := by
      rintro (q | q)
      · exact absurd q (by decide)
      · rw [show (vp_cell (cy 6) (1, .inr (.inr (.inr (.inl fun _ => v0))))) = arrV (cy 6) 1 (fun _ => .double v0) from rfl, arrV_size] at q
        exact absurd q (by decide)
    refine W.dast hx hb ho2 ((hK.2 6 (cy 6, .double) rfl).1 1 (fun _ => .double v0)) (fun q => by cases q) hin0 rfl rfl d2 fun H1 e1 z1 o1 => ?_
    refine lv_goto (tgt := pcE) hx hb d3 ht ?_
    refine lv_iconst (v := nI 0) hx hb d4 (by decide) ?_
    refine W.widen (k := 1) (n := 6) (by omega) (by omega) (vx_ret (W.iret hx hb hr (fun t2 ht2 _ => ?_) (fun z hz => ?_) d5 hlocks))
    · have o1 : ∀ q : Nat, q ≠ o → H1[q]? = t.heap[q]? := o1
      refine ⟨⟨rfl, ?_, (FP.f2d x), ?_, fun _ => rfl⟩, ?_, fun q hq1 hq2 => ?_⟩
      · rw [ht2]
        exact wd_kept q2 (fun i hi => o1 _ (by unfold adH; omega))
      · rw [ht2]
        unfold OutD
        rw [e1]
        show some ((arrV (cy 6) 1 (fun _ => .double v0)).setSlot ((0 : Int32).toNatClampNeg) (.double (FP.f2d x))) = _
        rw [arrV_store]
        exact congrArg some (arrV_1 rfl)
      · rw [ht2, z1]
        rw [g0] at q3
        exact q3
      · rw [ht2, o1 q (fun e => hq2 (Or.inr e)), q4 q (by rw [g0]; exact hq1) (fun e => hq2 (Or.inl e)), g0]
    · simp only [List.nil_append] at hz
      rcases List.mem_append.mp hz with e | e
      · exact Or.inl (gL z e)
      · rw [List.mem_singleton.mp e]
        exact Or.inr rfl
  · obtain ⟨r1, r2, r3, r4, r5, r6⟩ := rmX_of (hr2 i E hE)
    have hEXn : EX (AA (adH h) 181) s := hEX.1.narrow (fun q ⟨i, _, e⟩ => by unfold adH at e; omega)
    have hrun := vx_runV (p := p) (l := l) (e := e) (R := R) (s := s) (m := m) (args := args) (below := below) (meth := meth) (c := c) (H := s.heap) (locs := []) (cells := 0) (slots := 0) (n := av.length) (b := h) (C := y.cls) (As := av) (rest := [.int 0, .ref o]) (g := F0 m pcI ls (av.reverse ++ .ref h :: [.int 0, .ref o])) ⟨hx, hb, hml, hown, hts⟩ (hC D cy (adH h) (adH_inj h 181)) (cwV av.length hts (gIn hwd) rfl r1 r2 hd ⟨r3, r4⟩) ⟨fun a U g mk q => ⟨q.1, q.2.1, va_K.moved (u := U) (U := U.calling g mk a) (Vm.Alike.refl U.vm) q.2.2.1, q.2.2.2.1.moved (U := U.calling g mk a) (Vm.Alike.refl U.vm), q.2.2.2.2.1.moved (U := U.calling g mk a) (Vm.Alike.refl U.vm), fun z hz => by
        obtain ⟨sa, h9⟩ := q.2.2.2.2.2.1 z hz
        exact ⟨sa, h9.same rfl⟩, q.2.2.2.2.2.2.same rfl⟩, (by rw [hcl]; exact va_recv hK hP (ci := 4) (q0 := 0) (q := (RX7, TX7, 11)) rfl rfl), fun U hU hWm => ⟨by show _ = ((Value.ref 0 :: av).map (cz (adH h))).toArray; rw [List.map_cons, hav]; rfl, by rw [hU]; exact hW, va_K.moved hWm.alike hK, hEXn.moved hWm (fun a h1 h2 => by rw [hU])⟩⟩ rfl rfl hl.1 rfl (lv_room (Nat.le_of_ble_eq_true rfl)) dI ⟨by rw [Nat.zero_add]; exact r5, by rw [Nat.zero_add]; exact r6⟩
    intro T hT X
    rcases hrun T hT X with ⟨v, st₀, t, T', Lx, h0, X', hL, e1, e2, hq, st⟩ | ⟨q, st₀, t, T', Lx, E9, ce, h0, X', hL, e1, e2, ⟨rfl, hwd2, hz, hk⟩, hce, hcv, hcl9, st⟩
    · exact hq.elim
    · obtain ⟨pre, xx, suf, hsplit, hpass, hcov, hct0, hlink, hcast, pc2, hst, d6, d7⟩ := hX i E9 hE
      rw [h0] at hz hk
      have kk : W p l e R s m args below meth c T'.heap ([] ++ Lx) (0 + 1) (0 + 6) (vx_MQ below (HpD D cy h o (i + 1) (FP.f2d x) I2 L2) (fun _ _ _ => False) args s 1 6 (HpF h o)) (F0 m xx.handlerPc ls [.ref q]) := by
        have last : ∀ ls2 : Array Slot, W p l e R s m args below meth c T'.heap ([] ++ Lx) (0 + 1) (0 + 6) (vx_MQ below (HpD D cy h o (i + 1) (FP.f2d x) I2 L2) (fun _ _ _ => False) args s 1 6 (HpF h o)) (F0 m pc2 ls2 []) := fun ls2 => by
          refine lv_iconst (v := nI (i + 1)) hx hb d6 (by rw [show ((i : Int) + 1) = ((i + 1 : Nat) : Int) by omega]; rfl) ?_
          refine vx_ret (W.iret hx hb hr (fun t2 ht2 _ => ?_) (fun z hz2 => Or.inl (hL z (by simpa using hz2))) d7 hlocks)
          refine ⟨⟨rfl, by rw [ht2, e1]; exact hwd2, v0, ?_, fun e9 => absurd e9 (Nat.succ_ne_zero i)⟩, by rw [ht2, e1]; exact hz, fun q9 a1 a2 => by rw [ht2, e1]; exact hk q9 a1 (fun e9 => a2 (Or.inl e9))⟩
          unfold OutD
          rw [ht2, e1, hk o (Array.getElem?_eq_some_iff.mp ho).1 hoN]
          exact ho
        have hl0 : lv_has ls nL [] := ⟨hl.1, hl.2.1, fun q hq => absurd hq List.not_mem_nil⟩
        rcases hst with ⟨k, dk, hkn, rfl⟩ | ⟨k, dk, hkn, rfl⟩
        · exact lv_astore_n (lv' := [(k.val, .ref q)]) hx hb dk rfl hl0 hkn rfl (fun ls2 _ => last ls2)
        · exact lv_astore (lv' := [(k, .ref q)]) hx hb dk hl0 hkn rfl (fun ls2 _ => last ls2)
      obtain ⟨t2, a1, b1⟩ := (vx_catch hown pre xx suf hsplit (fun z hz => Or.inr ⟨(hpass z hz).1, by
        obtain ⟨nm, h8, h9⟩ := (hpass z hz).2
        exact ⟨nm, hts _ h8, h9⟩⟩) hcov hct0 (hts _ hlink) ((hEX.1.2.2.2.use (A := args) hcast).1) (by rw [e1]; exact hce) hcv hcl9 kk) T' rfl X'
      exact ⟨t2, st.trans a1, b1⟩
end HPF
section HPD
variable {p : Program} {l : Launch} {e : Env} {R : Room} {s : State} {m : MethodId} {args : Array Value} {below : List Frame} {meth : Method} {c : Code} {Q : State → Prop} {cc : ByteArray} {nL : Nat} {D : va_G} {cy : Nat → ClassId} {I I2 : IM} {L L2 : LM} {h o : Nat} {ls : Array Slot}
theorem hp_mainD {y : MethodName} {bytes : ByteArray} {maxL ix pcI pcE code : Nat} {rmr rmx : Room} {av : List Value} {x : UInt64} {exs : List String} {off : Int} {T : u_T} {v0 : UInt64} (hB : Bx p s m args c cc nL RL D cy) (hr : meth.sig.returnType = some .int) (hlocks : meth.locks = false) (hEX : LEX h s) (hW : wd D cy kdC (adH h) 181 I L s.heap) (ho : OutD cy o v0 s.heap) (hoh : h + 181 ≤ o) (hcl : y.cls = RX7) (hs : SitV RL ix y bytes maxL (some .double) av.length) (hav : av.map (cz (adH h)) = av) (hcat : (av.map fun v => v.category).sum ≤ 8)
    (hOC : OC (fun r => CR l kdC 181 y bytes maxL (some .double) rmr (.ref 0 :: av) I L r) (fun E => CX l kdC 181 y bytes maxL (some .double) rmx (.ref 0 :: av) I L E) exs code (some (.double x)) I2 L2)
    (hr1 : RmOK rmr R maxL = true) (hr2 : ∀ (i : Nat) (E : String), exs[i]? = some E → RmX rmx R maxL = true) (hRc : 1 ≤ R.cells ∧ 6 ≤ R.slots) {lvs : List (Nat × Value)} (hl : lv_has ls nL lvs) (hX : ∀ (i : Nat) (E : String), exs[i]? = some E → HdX cc nL s pcI c.exceptionTable.toList i E)
    (dI : decode cc pcI = .ok (.invokevirtual ix, 3)) (d2 : decode cc (pcI + 3) = .ok (.dastore, 1)) (d3 : decode cc (pcI + 4) = .ok (.goto off, 3)) (ht : ((pcI + 4 : Nat) : Int) + off = (pcE : Int)) (d4 : decode cc pcE = .ok (.iconst 0, 1)) (d5 : decode cc (pcE + 1) = .ok (.ireturn, 1)) :
    W p l e R s m args below meth c s.heap [] 0 0 (vx_MQ below (HpD D cy h o code x I2 L2) (fun _ _ _ => False) args s 1 6 (HpF h o)) (F0 m pcI ls (av.reverse ++ .ref h :: [.int 0, .ref o])) := by
  obtain ⟨hx, hb, hml, hown, hts, hK⟩ := id hB
  obtain ⟨⟨h1, h2, h3, h4, h5⟩, hd⟩ := hs
  have hP : va_P D vwCl [(h, .inr (4, fdv (adH h) I L 0 0 (FD 4)))] s.heap := fun k q hq => by
    cases k with
    | zero => cases hq; exact hW 0 (by decide)
    | succ k => simp at hq
  have hwd : ∀ w ∈ [Cond.methodLink RL ix y, Cond.instanceMethod y, Cond.selects y.cls y y, Cond.initialized y.cls] ++ wsY y bytes maxL (some .double), w ∈ WB := fun w hw => by
    rcases List.mem_append.mp hw with h | h
    · simp only [List.mem_cons, List.not_mem_nil, or_false] at h
      rcases h with rfl | rfl | rfl | rfl
      · exact h1
      · exact h2
      · exact h3
      · exact h4
    · rcases List.mem_cons.mp h with rfl | h
      · exact h5
      · exact h
  have hoN : ¬ AA (adH h) 181 o := fun ⟨i, hi, e⟩ => by unfold adH at e; omega
  rcases hOC with ⟨rfl, hC⟩ | ⟨i, E, rfl, hE, hC⟩
  · obtain ⟨r1, r2, r3, r4⟩ := rmOK_of hr1
    refine mkback (rest := [.int 0, .ref o]) (Qc := fun _ st oc t => (oc = .returned (Option.map (cz (adH h)) (some (.double x))) ∧ wd D cy kdC (adH h) 181 I2 L2 t.heap) ∧ va_F (AA (adH h) 181) st t) (a := (Value.ref h :: av).toArray) (va_runV (n := av.length) (b := h) (C := y.cls) (As := av) (rest := [.int 0, .ref o]) ⟨hx, hb, hml, hown, hts⟩ (hC D cy (adH h) (adH_inj h 181)) (cwV av.length hts (gIn hwd) rfl r1 r2 hd ⟨r3, r4⟩) ⟨fun a U g mk q => ⟨q.1, q.2.1, va_K.moved (u := U) (U := U.calling g mk a) (Vm.Alike.refl U.vm) q.2.2⟩, (by rw [hcl]; exact va_recv hK hP (ci := 4) (q0 := 0) (q := (RX7, TX7, 11)) rfl rfl), fun U hU hWm => ⟨by show _ = ((Value.ref 0 :: av).map (cz (adH h))).toArray; rw [List.map_cons, hav]; rfl, by rw [hU]; exact hW, va_K.moved hWm.alike hK⟩⟩ rfl rfl hl.1 rfl (lv_room (Nat.le_of_ble_eq_true rfl)) dI ⟨by omega, by omega⟩) (fun v st t Lx g0 gL hq => ?_)
    obtain ⟨⟨q1, q2⟩, q3, q4⟩ := hq
    have hv : v = some (.double x) := by cases q1; rfl
    subst hv
    have ho2 : OutD cy o v0 t.heap := by
      unfold OutD
      rw [q4 o (by rw [g0]; exact (Array.getElem?_eq_some_iff.mp ho).1) hoN, g0]
      exact ho
    have hin0 : ¬ ((0 : Int32) < 0 ∨ (vp_cell (cy 6) (1, .inr (.inr (.inr (.inl fun _ => v0))))).slots.size ≤ (0 : Int32).toNatClampNeg) := by
      rintro (q | q)
      · exact absurd q (by decide)
      · rw [show (vp_cell (cy 6) (1, .inr (.inr (.inr (.inl fun _ => v0))))) = arrV (cy 6) 1 (fun _ => .double v0) from rfl, arrV_size] at q
        exact absurd q (by decide)
    refine W.dast hx hb ho2 ((hK.2 6 (cy 6, .double) rfl).1 1 (fun _ => .double v0)) (fun q => by cases q) hin0 rfl rfl d2 fun H1 e1 z1 o1 => ?_
    refine lv_goto (tgt := pcE) hx hb d3 ht ?_
    refine lv_iconst (v := nI 0) hx hb d4 (by decide) ?_
    refine W.widen (k := 1) (n := 6) (by omega) (by omega) (vx_ret (W.iret hx hb hr (fun t2 ht2 _ => ?_) (fun z hz => ?_) d5 hlocks))
    · have o1 : ∀ q : Nat, q ≠ o → H1[q]? = t.heap[q]? := o1
      refine ⟨⟨rfl, ?_, x, ?_, fun _ => rfl⟩, ?_, fun q hq1 hq2 => ?_⟩
      · rw [ht2]
        exact wd_kept q2 (fun i hi => o1 _ (by unfold adH; omega))
      · rw [ht2]
        unfold OutD
        rw [e1]
        show some ((arrV (cy 6) 1 (fun _ => .double v0)).setSlot ((0 : Int32).toNatClampNeg) (.double x)) = _
        rw [arrV_store]
        exact congrArg some (arrV_1 rfl)
      · rw [ht2, z1]
        rw [g0] at q3
        exact q3
      · rw [ht2, o1 q (fun e => hq2 (Or.inr e)), q4 q (by rw [g0]; exact hq1) (fun e => hq2 (Or.inl e)), g0]
    · simp only [List.nil_append] at hz
      rcases List.mem_append.mp hz with e | e
      · exact Or.inl (gL z e)
      · rw [List.mem_singleton.mp e]
        exact Or.inr rfl
  · obtain ⟨r1, r2, r3, r4, r5, r6⟩ := rmX_of (hr2 i E hE)
    have hEXn : EX (AA (adH h) 181) s := hEX.1.narrow (fun q ⟨i, _, e⟩ => by unfold adH at e; omega)
    have hrun := vx_runV (p := p) (l := l) (e := e) (R := R) (s := s) (m := m) (args := args) (below := below) (meth := meth) (c := c) (H := s.heap) (locs := []) (cells := 0) (slots := 0) (n := av.length) (b := h) (C := y.cls) (As := av) (rest := [.int 0, .ref o]) (g := F0 m pcI ls (av.reverse ++ .ref h :: [.int 0, .ref o])) ⟨hx, hb, hml, hown, hts⟩ (hC D cy (adH h) (adH_inj h 181)) (cwV av.length hts (gIn hwd) rfl r1 r2 hd ⟨r3, r4⟩) ⟨fun a U g mk q => ⟨q.1, q.2.1, va_K.moved (u := U) (U := U.calling g mk a) (Vm.Alike.refl U.vm) q.2.2.1, q.2.2.2.1.moved (U := U.calling g mk a) (Vm.Alike.refl U.vm), q.2.2.2.2.1.moved (U := U.calling g mk a) (Vm.Alike.refl U.vm), fun z hz => by
        obtain ⟨sa, h9⟩ := q.2.2.2.2.2.1 z hz
        exact ⟨sa, h9.same rfl⟩, q.2.2.2.2.2.2.same rfl⟩, (by rw [hcl]; exact va_recv hK hP (ci := 4) (q0 := 0) (q := (RX7, TX7, 11)) rfl rfl), fun U hU hWm => ⟨by show _ = ((Value.ref 0 :: av).map (cz (adH h))).toArray; rw [List.map_cons, hav]; rfl, by rw [hU]; exact hW, va_K.moved hWm.alike hK, hEXn.moved hWm (fun a h1 h2 => by rw [hU])⟩⟩ rfl rfl hl.1 rfl (lv_room (Nat.le_of_ble_eq_true rfl)) dI ⟨by rw [Nat.zero_add]; exact r5, by rw [Nat.zero_add]; exact r6⟩
    intro T hT X
    rcases hrun T hT X with ⟨v, st₀, t, T', Lx, h0, X', hL, e1, e2, hq, st⟩ | ⟨q, st₀, t, T', Lx, E9, ce, h0, X', hL, e1, e2, ⟨rfl, hwd2, hz, hk⟩, hce, hcv, hcl9, st⟩
    · exact hq.elim
    · obtain ⟨pre, xx, suf, hsplit, hpass, hcov, hct0, hlink, hcast, pc2, hst, d6, d7⟩ := hX i E9 hE
      rw [h0] at hz hk
      have kk : W p l e R s m args below meth c T'.heap ([] ++ Lx) (0 + 1) (0 + 6) (vx_MQ below (HpD D cy h o (i + 1) x I2 L2) (fun _ _ _ => False) args s 1 6 (HpF h o)) (F0 m xx.handlerPc ls [.ref q]) := by
        have last : ∀ ls2 : Array Slot, W p l e R s m args below meth c T'.heap ([] ++ Lx) (0 + 1) (0 + 6) (vx_MQ below (HpD D cy h o (i + 1) x I2 L2) (fun _ _ _ => False) args s 1 6 (HpF h o)) (F0 m pc2 ls2 []) := fun ls2 => by
          refine lv_iconst (v := nI (i + 1)) hx hb d6 (by rw [show ((i : Int) + 1) = ((i + 1 : Nat) : Int) by omega]; rfl) ?_
          refine vx_ret (W.iret hx hb hr (fun t2 ht2 _ => ?_) (fun z hz2 => Or.inl (hL z (by simpa using hz2))) d7 hlocks)
          refine ⟨⟨rfl, by rw [ht2, e1]; exact hwd2, v0, ?_, fun e9 => absurd e9 (Nat.succ_ne_zero i)⟩, by rw [ht2, e1]; exact hz, fun q9 a1 a2 => by rw [ht2, e1]; exact hk q9 a1 (fun e9 => a2 (Or.inl e9))⟩
          unfold OutD
          rw [ht2, e1, hk o (Array.getElem?_eq_some_iff.mp ho).1 hoN]
          exact ho
        have hl0 : lv_has ls nL [] := ⟨hl.1, hl.2.1, fun q hq => absurd hq List.not_mem_nil⟩
        rcases hst with ⟨k, dk, hkn, rfl⟩ | ⟨k, dk, hkn, rfl⟩
        · exact lv_astore_n (lv' := [(k.val, .ref q)]) hx hb dk rfl hl0 hkn rfl (fun ls2 _ => last ls2)
        · exact lv_astore (lv' := [(k, .ref q)]) hx hb dk hl0 hkn rfl (fun ls2 _ => last ls2)
      obtain ⟨t2, a1, b1⟩ := (vx_catch hown pre xx suf hsplit (fun z hz => Or.inr ⟨(hpass z hz).1, by
        obtain ⟨nm, h8, h9⟩ := (hpass z hz).2
        exact ⟨nm, hts _ h8, h9⟩⟩) hcov hct0 (hts _ hlink) ((hEX.1.2.2.2.use (A := args) hcast).1) (by rw [e1]; exact hce) hcv hcl9 kk) T' rfl X'
      exact ⟨t2, st.trans a1, b1⟩
end HPD
