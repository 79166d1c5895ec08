/-! THE LAW: a helper with a double answer -/
section LWS
variable {p : Program} {l : Launch} {e : Env} {R : Room} {s : State} {m : MethodId} {args : Array Value} {below : List Frame} {meth : Method} {c : Code} {Q : State → Prop} {cc : ByteArray} {nL : Nat} {D : va_G} {cy : Nat → ClassId} {I I2 J J2 : IM} {L L2 M M2 : LM} {w : Int64} {v : UInt64} {h : Nat} {H : Heap} {locs : List Loc} {cells slots pc : Nat} {ls : Array Slot} {rest : List Value}
theorem lw_AD {y : MethodName} {bytes : ByteArray} {maxL ix code : Nat} {hh : List (Nat × Nat × Nat × Nat)} {rm : Room} {av : List Value} {val : UInt64} (hB : Bx p s m args c cc nL RL D cy) (hE : LEX h s) (hsz : s.heap.size = h) (hLW : LW D cy h I L J M w v s.heap H locs)
    (hM : vx_Met l y (Cond.codeWith y bytes maxL (some .int) hh :: WB) rm (va_Pc av (HpPD D cy h (h + 194) v I L)) (HpD D cy h (h + 194) code val I2 L2) (fun _ _ _ => False) 1 6 (HpF h (h + 194)))
    (hw : Cond.methodLink RL ix y ∈ WB ∧ Cond.static y ∈ WB ∧ Cond.initialized y.cls ∈ WB ∧ Cond.codeWith y bytes maxL (some .int) hh ∈ WB) (hd : y.cls ≠ "java/lang/invoke/MethodHandle" ∧ y.cls ≠ "java/lang/invoke/VarHandle" ∧ (parseMethodDescriptor y.desc).map (fun d => d.parameters.length) = some av.length) (hrm : rm.cells = 1 ∧ rm.slots = 6 ∧ rm.frames + 1 ≤ R.frames ∧ 8 + (maxL + 11) + rm.locals ≤ R.locals) (hce : cells + 1 ≤ R.cells ∧ slots + 6 ≤ R.slots) (hls : ls.size = nL) (hcat : (rest.map fun v => v.category).sum ≤ 8) (hdg : decode cc pc = .ok (.invokestatic ix, 3))
    (kk : ∀ (H1 : Heap) (locs1 : List Loc) (v2 : UInt64), LW D cy h I2 L2 J M w v2 s.heap H1 locs1 → (code = 0 → v2 = val) → W p l e R s m args below meth c H1 locs1 (cells + 1) (slots + 6) Q (F0 m (pc + 3) ls (.int (nI code) :: rest))) : W p l e R s m args below meth c H locs cells slots Q (F0 m pc ls (av.reverse ++ rest)) := by
  obtain ⟨hx, hb, hml, hown, hts, hK⟩ := hB
  obtain ⟨k1, k2, k3, k4, k5⟩ := hLW
  obtain ⟨w1, w2, w3, w4⟩ := hw
  obtain ⟨r1, r2, r3, r4⟩ := hrm
  intro T hT X
  rcases vx_runSX (p := p) (l := l) (e := e) (R := R) (s := s) (m := m) (args := args) (below := below) (meth := meth) (c := c) (H := H) (locs := locs) (cells := cells) (slots := slots) (n := av.length) (As := av) (rest := rest) (hh := hh) (g := F0 m pc ls (av.reverse ++ rest)) ⟨hx, hb, hml, hown, hts⟩ hM (vx_cwSW av.length hts (gIn (fun w hw => by
      unfold va_wsS at hw
      rcases List.mem_append.mp hw with hw | hw
      · simp only [List.mem_cons, List.not_mem_nil, or_false] at hw
        rcases hw with rfl | rfl | rfl
        · exact w1
        · exact w2
        · exact w3
      · rcases List.mem_cons.mp hw with rfl | hw
        · exact w4
        · exact hw)) rfl r1 r2 hd ⟨r3, r4⟩) ⟨fun a U g mk q => ⟨q.1, q.2.1, q.2.2.1, va_K.moved (u := U) (U := U.calling g mk a) (Vm.Alike.refl U.vm) q.2.2.2.1, ⟨q.2.2.2.2.1.1.moved (U := U.calling g mk a) (Vm.Alike.refl U.vm), q.2.2.2.2.1.2.1.moved (U := U.calling g mk a) (Vm.Alike.refl U.vm), fun z hz => by
        obtain ⟨sa, h9⟩ := q.2.2.2.2.1.2.2.1 z hz
        exact ⟨sa, h9.same rfl⟩, q.2.2.2.2.1.2.2.2.same rfl⟩, q.2.2.2.2.2.1.moved (U := U.calling g mk a) (Vm.Alike.refl U.vm), q.2.2.2.2.2.2.1.moved (U := U.calling g mk a) (Vm.Alike.refl U.vm), q.2.2.2.2.2.2.2.moved (U := U.calling g mk a) (Vm.Alike.refl U.vm)⟩, fun U hU hWm => ⟨rfl, by rw [hU]; exact k1, by rw [hU]; exact k4, va_K.moved hWm.alike hK, hE.moved hWm (fun a h1 h2 => by rw [hU]; exact k5.2.1 a h1 h2)⟩⟩ rfl rfl hls rfl (lv_room hcat) hdg hce T hT X with ⟨vv, st₀, t, T', Lx, h0, X', hL, e1, e2, ⟨⟨q1, q2, w9, q3, q4⟩, q5, q6⟩, st⟩ | ⟨q, st₀, t, T', Lx, E9, ce, h0, X', hL, e1, e2, hf, hce, hcv, hcl9, st⟩
  · have hv : vv = some (.int (nI code)) := by cases q1; rfl
    subst hv
    rw [h0] at q5 q6
    obtain ⟨t2, a1, b1⟩ := kk t.heap (locs ++ Lx) w9 ⟨q2, wd_kept k2 (fun i hi => q6 _ (k2.lt hi) (fun hq => by
        rcases hq with ⟨j, hj, e⟩ | e
        · unfold adH at e; omega
        · unfold adH at e; omega)), (q6 _ k3.lt (fun hq => by
        rcases hq with ⟨j, hj, e⟩ | e
        · unfold adH at e; omega
        · omega)).trans k3, q3, Nat.le_trans k5.1 q5, fun q g1 g2 => (q6 q (Nat.lt_of_lt_of_le g1 k5.1) (fun hq => by
        rcases hq with ⟨j, hj, e⟩ | e
        · exact g2 (by unfold adH at e; show h ≤ q; omega)
        · exact g2 (by show h ≤ q; omega))).trans (k5.2.1 q g1 g2), fun z hz => by
        rcases List.mem_append.mp hz with e | e
        · exact k5.2.2 z e
        · rcases hL z e with ⟨j, hj, e⟩ | e
          · show h ≤ z.base
            unfold adH at e
            omega
          · show h ≤ z.base
            omega⟩ q4 T' e1 X'
    exact ⟨t2, st t2 a1, b1⟩
  · exact hf.elim
end LWS
