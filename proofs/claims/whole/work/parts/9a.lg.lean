/-! THE LAW: the cases without a helper -/
section LWS
variable {p : Program} {l : Launch} {e : Env} {R : Room} {s : State} {m : MethodId} {args : Array Value} {below : List Frame} {meth : Method} {c : Code} {Q : State → Prop} {cc : ByteArray} {nL : Nat} {D : va_G} {cy : Nat → ClassId} {I I2 J J2 : IM} {L L2 M M2 : LM} {w : Int64} {v : UInt64} {h : Nat} {H : Heap} {locs : List Loc} {cells slots pc : Nat} {ls : Array Slot} {rest : List Value}
/-- the class's call, without a helper -/
theorem lw_D {y : MethodName} {bytes : ByteArray} {maxL ix : Nat} {ret : Option FieldType} {rm : Room} {av : List Value} {val : Value} (hB : Bx p s m args c cc nL RL D cy) (hLW : LW D cy h I L J M w v s.heap H locs) (hcl : y.cls = RX7) (hs : SitV RL ix y bytes maxL ret av.length) (hav : av.map (cz (adH h)) = av) (hval : cz (adH h) val = val) (hC : CR l kdC 181 y bytes maxL ret rm (.ref 0 :: av) I L (some val) I2 L2) (hrm : rm.cells = 0 ∧ rm.slots = 0 ∧ rm.frames + 1 ≤ R.frames ∧ 8 + (maxL + 11) + rm.locals ≤ R.locals) (hce : cells ≤ R.cells ∧ slots ≤ R.slots) (hls : ls.size = nL) (hcat : (rest.map fun v => v.category).sum ≤ 8) (hdg : decode cc pc = .ok (.invokevirtual ix, 3))
    (kk : ∀ (H1 : Heap) (locs1 : List Loc), LW D cy h I2 L2 J M w v s.heap H1 locs1 → W p l e R s m args below meth c H1 locs1 cells slots Q (F0 m (pc + 3) ls (val :: rest))) : W p l e R s m args below meth c H locs cells slots Q (F0 m pc ls (av.reverse ++ .ref h :: rest)) := by
  obtain ⟨hx, hb, hml, hown, hts, hK⟩ := hB
  obtain ⟨k1, k2, k3, k4, k5⟩ := hLW
  obtain ⟨⟨h1, h2, h3, h4, h5⟩, hd⟩ := hs
  obtain ⟨r1, r2, r3, r4⟩ := hrm
  have hP : va_P D vwCl [(h, .inr (4, fdv (adH h) I L 0 0 (FD 4)))] H := fun k q hq => by
    cases k with
    | zero => cases hq; exact k1 0 (by decide)
    | succ k => simp at hq
  refine mkback (rest := rest) (Qc := fun _ st oc t => (oc = .returned (Option.map (cz (adH h)) (some val)) ∧ wd D cy kdC (adH h) 181 I2 L2 t.heap) ∧ va_F (AA (adH h) 181) st t) (a := (Value.ref h :: av).toArray) (va_runV (n := av.length) (b := h) (C := y.cls) (As := av) (rest := rest) ⟨hx, hb, hml, hown, hts⟩ (hC D cy (adH h) (adH_inj h 181)) (cwV av.length hts (gIn (fun w hw => by
      rcases List.mem_append.mp hw with h | h
      · simp only [List.mem_cons, List.not_mem_nil, or_false] at h
        rcases h with rfl | rfl | rfl | rfl
        · exact h1
        · exact h2
        · exact h3
        · exact h4
      · rcases List.mem_cons.mp h with rfl | h
        · exact h5
        · exact h)) rfl r1 r2 hd ⟨r3, r4⟩) ⟨fun a U g mk q => ⟨q.1, q.2.1, va_K.moved (u := U) (U := U.calling g mk a) (Vm.Alike.refl U.vm) q.2.2⟩, (by rw [hcl]; exact va_recv hK hP (ci := 4) (q0 := 0) (q := (RX7, TX7, 11)) rfl rfl), fun U hU hWm => ⟨by show _ = ((Value.ref 0 :: av).map (cz (adH h))).toArray; rw [List.map_cons, hav]; rfl, by rw [hU]; exact k1, va_K.moved hWm.alike hK⟩⟩ rfl rfl hls rfl (lv_room hcat) hdg ⟨by omega, by omega⟩) (fun vv st t Lx g0 gL hq => ?_)
  obtain ⟨⟨q1, q2⟩, q5, q6⟩ := hq
  have hv : vv = some val := by
    have e9 : some vv = some (some val) := by
      have := q1
      rw [Option.map_some, hval] at this
      injection this with this
      rw [this]
    exact Option.some.inj e9
  subst hv
  rw [g0] at q5 q6
  refine kk t.heap _ ⟨q2, wd_kept k2 (fun i hi => q6 _ (k2.lt hi) (fun ⟨j, hj, e⟩ => by unfold adH at e; omega)), (q6 _ k3.lt (fun ⟨j, hj, e⟩ => by unfold adH at e; omega)).trans k3, (q6 _ k4.lt (fun ⟨j, hj, e⟩ => by unfold adH at e; omega)).trans k4, Nat.le_trans k5.1 q5, fun q g1 g2 => (q6 q (Nat.lt_of_lt_of_le g1 k5.1) (fun ⟨j, hj, e⟩ => g2 (by unfold adH at e; show h ≤ q; omega))).trans (k5.2.1 q g1 g2), fun z hz => ?_⟩
  rcases List.mem_append.mp hz with e | e
  · exact k5.2.2 z e
  · obtain ⟨j, hj, e⟩ := gL z e
    show h ≤ z.base
    unfold adH at e
    omega
end LWS
section LK
variable {p : Program} {l : Launch} {e : Env} {s : State} {m : MethodId} {below : List Frame} {meth : Method} {c : Code} {Q : State → Prop} {D : va_G} {cy : Nat → ClassId} {b Ln : Nat} {xs : Nat → Int32} {i : Nat} {ls : Array Slot} {I J : IM} {L M : LM} {w : Int64} {v : UInt64} {H : Heap} {locs : List Loc} {cells slots : Nat}
theorem sVL_clearBuffer : SitV RL 163 yX7_clearBuffer cX7_clearBuffer 2 (some .int) 0 := ⟨⟨(wb_1 167 (by decide +kernel) rfl), (wb_1 168 (by decide +kernel) rfl), (wb_1 169 (by decide +kernel) rfl), (wb_1 1 (by decide +kernel) rfl), (wb_1 170 (by decide +kernel) rfl)⟩, by decide +kernel⟩
theorem sVL8_clearBuffer : SitV RL 166 yX8_clearBuffer cX8_clearBuffer 2 (some .int) 0 := ⟨⟨(wb_5 112 (by decide +kernel) rfl), (wb_5 113 (by decide +kernel) rfl), (wb_5 114 (by decide +kernel) rfl), (wb_1 6 (by decide +kernel) rfl), (wb_5 115 (by decide +kernel) rfl)⟩, by decide +kernel⟩
theorem lc_clearBuffer (hX : LX p s m c D cy b Ln xs) (hl : lv_has ls 9 (LVs b s.heap.size i)) (hS : SimE I J) (hLW : LW D cy s.heap.size I L J M w v s.heap H locs) (hce : cells ≤ 601024 ∧ slots ≤ 7293034)
    (kk : ∀ (I2 : IM) (L2 : LM) (J2 : IM) (M2 : LM) (w2 : Int64) (v2 : UInt64) (H1 : Heap) (locs1 : List Loc) (ls1 : Array Slot), SimE I2 J2 → LW D cy s.heap.size I2 L2 J2 M2 w2 v2 s.heap H1 locs1 → lv_has ls1 9 (LVs b s.heap.size i) → W p l e room_1 s m #[.ref b] below meth c H1 locs1 cells slots Q (F0 m 2314 ls1 [])) : W p l e room_1 s m #[.ref b] below meth c H locs cells slots Q (F0 m 1136 ls []) := by
  obtain ⟨hB, hE, hXs, hbl, hLn⟩ := hX
  obtain ⟨hx, hb, hml, hown, hts, hK⟩ := id hB
  obtain ⟨co, x, y, I2, L2, J2, M2, hOC, hR8, h7, hxy, hs2⟩ := ag_clearBuffer l hS L M
  rcases hOC with ⟨hco, hC7⟩ | ⟨i9, E9, -, hE9, -⟩
  · have exy := hxy hco
    refine lv_aload_n hx hb (show decode code 1136 = .ok (.aload_n 1, 1) by decide +kernel) rfl (lv_at hl 4 rfl) ?_
    refine lw_D (av := []) (rest := []) (val := .int x) hB hLW rfl sVL_clearBuffer rfl rfl hC7 ⟨rfl, rfl, Nat.le_of_ble_eq_true rfl, Nat.le_of_ble_eq_true rfl⟩ hce hl.1 (Nat.le_of_ble_eq_true rfl) (show decode code 1137 = .ok (.invokevirtual 163, 3) by decide +kernel) (fun H1 locs1 hLW => ?_)
    refine lv_aload_n hx hb (show decode code 1140 = .ok (.aload_n 2, 1) by decide +kernel) rfl (lv_at hl 3 rfl) ?_
    refine lw_B (av := []) (rest := [.int x]) (val := .int y) hB hLW rfl sVL8_clearBuffer rfl rfl hR8 ⟨rfl, rfl, Nat.le_of_ble_eq_true rfl, Nat.le_of_ble_eq_true rfl⟩ hce hl.1 (Nat.le_of_ble_eq_true rfl) (show decode code 1141 = .ok (.invokevirtual 166, 3) by decide +kernel) (fun H1 locs1 hLW => ?_)
    exact lv_icmp_eq (tgt := 2314) hx hb (show decode code 1144 = .ok (.if_icmp .eq 1170, 3) by decide +kernel) (by decide) (fun _ => kk I2 L2 J2 M2 w v H1 locs1 ls hs2 hLW hl) (fun hf => absurd exy hf)
  · simp at hE9
theorem sVL_firstError : SitV RL 167 yX7_firstError cX7_firstError 1 (some .int) 0 := ⟨⟨(wb_1 171 (by decide +kernel) rfl), (wb_1 172 (by decide +kernel) rfl), (wb_1 173 (by decide +kernel) rfl), (wb_1 1 (by decide +kernel) rfl), (wb_1 174 (by decide +kernel) rfl)⟩, by decide +kernel⟩
theorem sVL8_firstError : SitV RL 170 yX8_firstError cX8_firstError 1 (some .int) 0 := ⟨⟨(wb_5 116 (by decide +kernel) rfl), (wb_5 117 (by decide +kernel) rfl), (wb_5 118 (by decide +kernel) rfl), (wb_1 6 (by decide +kernel) rfl), (wb_5 119 (by decide +kernel) rfl)⟩, by decide +kernel⟩
theorem lc_firstError (hX : LX p s m c D cy b Ln xs) (hl : lv_has ls 9 (LVs b s.heap.size i)) (hS : SimE I J) (hLW : LW D cy s.heap.size I L J M w v s.heap H locs) (hce : cells ≤ 601024 ∧ slots ≤ 7293034)
    (kk : ∀ (I2 : IM) (L2 : LM) (J2 : IM) (M2 : LM) (w2 : Int64) (v2 : UInt64) (H1 : Heap) (locs1 : List Loc) (ls1 : Array Slot), SimE I2 J2 → LW D cy s.heap.size I2 L2 J2 M2 w2 v2 s.heap H1 locs1 → lv_has ls1 9 (LVs b s.heap.size i) → W p l e room_1 s m #[.ref b] below meth c H1 locs1 cells slots Q (F0 m 2314 ls1 [])) : W p l e room_1 s m #[.ref b] below meth c H locs cells slots Q (F0 m 1149 ls []) := by
  obtain ⟨hB, hE, hXs, hbl, hLn⟩ := hX
  obtain ⟨hx, hb, hml, hown, hts, hK⟩ := id hB
  obtain ⟨co, x, y, I2, L2, J2, M2, hOC, hR8, h7, hxy, hs2⟩ := ag_firstError l hS L M
  rcases hOC with ⟨hco, hC7⟩ | ⟨i9, E9, -, hE9, -⟩
  · have exy := hxy hco
    refine lv_aload_n hx hb (show decode code 1149 = .ok (.aload_n 1, 1) by decide +kernel) rfl (lv_at hl 4 rfl) ?_
    refine lw_D (av := []) (rest := []) (val := .int x) hB hLW rfl sVL_firstError rfl rfl hC7 ⟨rfl, rfl, Nat.le_of_ble_eq_true rfl, Nat.le_of_ble_eq_true rfl⟩ hce hl.1 (Nat.le_of_ble_eq_true rfl) (show decode code 1150 = .ok (.invokevirtual 167, 3) by decide +kernel) (fun H1 locs1 hLW => ?_)
    refine lv_aload_n hx hb (show decode code 1153 = .ok (.aload_n 2, 1) by decide +kernel) rfl (lv_at hl 3 rfl) ?_
    refine lw_B (av := []) (rest := [.int x]) (val := .int y) hB hLW rfl sVL8_firstError rfl rfl hR8 ⟨rfl, rfl, Nat.le_of_ble_eq_true rfl, Nat.le_of_ble_eq_true rfl⟩ hce hl.1 (Nat.le_of_ble_eq_true rfl) (show decode code 1154 = .ok (.invokevirtual 170, 3) by decide +kernel) (fun H1 locs1 hLW => ?_)
    exact lv_icmp_eq (tgt := 2314) hx hb (show decode code 1157 = .ok (.if_icmp .eq 1157, 3) by decide +kernel) (by decide) (fun _ => kk I2 L2 J2 M2 w v H1 locs1 ls hs2 hLW hl) (fun hf => absurd exy hf)
  · simp at hE9
theorem sVL_digest : SitV RL 225 yX7_digest cX7_digest 4 (some .long) 0 := ⟨⟨(wb_1 215 (by decide +kernel) rfl), (wb_1 216 (by decide +kernel) rfl), (wb_1 217 (by decide +kernel) rfl), (wb_1 1 (by decide +kernel) rfl), (wb_1 218 (by decide +kernel) rfl)⟩, by decide +kernel⟩
theorem sVL8_digest : SitV RL 229 yX8_digest cX8_digest 3 (some .long) 0 := ⟨⟨(wb_6 90 (by decide +kernel) rfl), (wb_6 91 (by decide +kernel) rfl), (wb_6 92 (by decide +kernel) rfl), (wb_1 6 (by decide +kernel) rfl), (wb_6 93 (by decide +kernel) rfl)⟩, by decide +kernel⟩
theorem lc_digest (hX : LX p s m c D cy b Ln xs) (hl : lv_has ls 9 (LVs b s.heap.size i)) (hS : SimE I J) (hLW : LW D cy s.heap.size I L J M w v s.heap H locs) (hce : cells ≤ 601024 ∧ slots ≤ 7293034)
    (kk : ∀ (I2 : IM) (L2 : LM) (J2 : IM) (M2 : LM) (w2 : Int64) (v2 : UInt64) (H1 : Heap) (locs1 : List Loc) (ls1 : Array Slot), SimE I2 J2 → LW D cy s.heap.size I2 L2 J2 M2 w2 v2 s.heap H1 locs1 → lv_has ls1 9 (LVs b s.heap.size i) → W p l e room_1 s m #[.ref b] below meth c H1 locs1 cells slots Q (F0 m 2314 ls1 [])) : W p l e room_1 s m #[.ref b] below meth c H locs cells slots Q (F0 m 2300 ls []) := by
  obtain ⟨hB, hE, hXs, hbl, hLn⟩ := hX
  obtain ⟨hx, hb, hml, hown, hts, hK⟩ := id hB
  obtain ⟨co, x, y, I2, L2, J2, M2, hOC, hR8, h7, hxy, hs2⟩ := ag_digest l hS L M
  rcases hOC with ⟨hco, hC7⟩ | ⟨i9, E9, -, hE9, -⟩
  · have exy := hxy hco
    refine lv_aload_n hx hb (show decode code 2300 = .ok (.aload_n 1, 1) by decide +kernel) rfl (lv_at hl 4 rfl) ?_
    refine lw_D (av := []) (rest := []) (val := .long x) hB hLW rfl sVL_digest rfl rfl hC7 ⟨rfl, rfl, Nat.le_of_ble_eq_true rfl, Nat.le_of_ble_eq_true rfl⟩ hce hl.1 (Nat.le_of_ble_eq_true rfl) (show decode code 2301 = .ok (.invokevirtual 225, 3) by decide +kernel) (fun H1 locs1 hLW => ?_)
    refine lv_aload_n hx hb (show decode code 2304 = .ok (.aload_n 2, 1) by decide +kernel) rfl (lv_at hl 3 rfl) ?_
    refine lw_B (av := []) (rest := [.long x]) (val := .long y) hB hLW rfl sVL8_digest rfl rfl hR8 ⟨rfl, rfl, Nat.le_of_ble_eq_true rfl, Nat.le_of_ble_eq_true rfl⟩ hce hl.1 (Nat.le_of_ble_eq_true rfl) (show decode code 2305 = .ok (.invokevirtual 229, 3) by decide +kernel) (fun H1 locs1 hLW => ?_)
    refine W.lcmp hx hb (show decode code 2308 = .ok (.lcmp, 1) by decide +kernel) ?_
    rw [(lg_cmp_eq x y).mpr exy]
    exact lv_if_eq (tgt := 2314) hx hb (show decode code 2309 = .ok (.ifCond .eq 5, 3) by decide +kernel) (by decide) (fun _ => kk I2 L2 J2 M2 w v H1 locs1 ls hs2 hLW hl) (fun hf => absurd rfl hf)
  · simp at hE9
end LK
