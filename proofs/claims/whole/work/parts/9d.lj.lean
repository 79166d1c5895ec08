/-! THE LAW: density and share -/
section LC
variable {p : Program} {l : Launch} {e : Env} {R : Room} {s : State} {m : MethodId} {args : Array Value} {below : List Frame} {meth : Method} {c : Code} {Q : State → Prop} {cc : ByteArray} {nL : Nat} {D : va_G} {cy : Nat → ClassId} {I J : IM} {L M : LM} {w : Int64} {v : UInt64} {h : Nat} {H : Heap} {locs : List Loc} {cells slots pc : Nat} {ls : Array Slot} {rest : List Value}
/-- the two sides' answers, held against each other: a double -/
theorem lw_CD {code : Nat} {y : UInt64} {off : Int} {tgt : Nat} (hB : Bx p s m args c cc nL RL D cy) (hLW : LW D cy h I L J M w v s.heap H locs) (hls : ls.size = nL) (l2 : ls[2]? = some (.val (.ref (h + 181)))) (l4 : ls[4]? = some (.val (.ref (h + 194)))) (l6 : ls[6]? = some (.val (.int (nI code)))) (l7 : ls[7]? = some (.val (.double y))) (h7 : J 0 7 = nI code) (hc31 : code < 100) (hy : code = 0 → v = y) (hn : code = 0 → nn64 y) (hR : 1 ≤ R.frames ∧ 20 ≤ R.locals) (hce : cells ≤ R.cells ∧ slots ≤ R.slots)
    (d0 : decode cc pc = .ok (.aload_n 2, 1)) (d1 : decode cc (pc + 1) = .ok (.invokevirtual 122, 3)) (d2 : decode cc (pc + 4) = .ok (.iload 6, 2)) (d3 : decode cc (pc + 6) = .ok (.if_icmp .eq 5, 3)) (d4 : decode cc (pc + 11) = .ok (.iload 6, 2)) (d5 : decode cc (pc + 13) = .ok (.ifCond .ne 35, 3)) (d6 : decode cc (pc + 16) = .ok (.aload 4, 2)) (d7 : decode cc (pc + 18) = .ok (.iconst 0, 1)) (d8 : decode cc (pc + 19) = .ok (.daload, 1)) (d9 : decode cc (pc + 20) = .ok (.dload 7, 2)) (db : decode cc (pc + 22) = .ok (.dcmp .l, 1)) (dc : decode cc (pc + 23) = .ok (.ifCond .eq 25, 3)) (dd : decode cc (pc + 48) = .ok (.goto off, 3)) (ht : ((pc + 48 : Nat) : Int) + off = (tgt : Int))
    (kk : ∀ (H1 : Heap) (locs1 : List Loc), LW D cy h I L J M w v s.heap H1 locs1 → W p l e R s m args below meth c H1 locs1 cells slots Q (F0 m tgt ls [])) : W p l e R s m args below meth c H locs cells slots Q (F0 m pc ls []) := by
  obtain ⟨hx, hb, hml, hown, hts, hK⟩ := id hB
  refine lv_aload_n hx hb d0 rfl l2 ?_
  refine lw_B (av := []) (rest := []) (val := .int (J 0 7)) (ret := some .int) hB hLW rfl sVL8_thrown rfl rfl (qX8_thrown l J M) ⟨rfl, rfl, by show 0 + 1 ≤ R.frames; omega, by show 8 + (1 + 11) + 0 ≤ R.locals; omega⟩ hce hls (Nat.le_of_ble_eq_true rfl) d1 (fun H1 locs1 hLW1 => ?_)
  rw [h7]
  refine lv_iload hx hb d2 l6 ?_
  refine lv_icmp_eq (tgt := pc + 11) hx hb d3 (by omega) (fun _ => ?_) (fun hf => absurd rfl hf)
  refine lv_iload hx hb d4 l6 ?_
  have fin : W p l e R s m args below meth c H1 locs1 cells slots Q (F0 m (pc + 48) ls []) := lv_goto hx hb dd ht (kk H1 locs1 hLW1)
  by_cases e0 : code = 0
  · refine lv_if_ne (tgt := pc + 48) hx hb d5 (by omega) (fun _ => fin) (fun _ => ?_)
    refine lv_aload hx hb d6 l4 ?_
    refine lv_iconst (v := 0) hx hb d7 (by decide) ?_
    have hin0 : ¬ ((0 : Int32) < 0 ∨ (vp_cell (cy 6) (1, .inr (.inr (.inr (.inl fun _ => v))))).slots.size ≤ (0 : Int32).toNatClampNeg) := by
      rintro (q | q)
      · exact absurd q (by decide)
      · rw [show (vp_cell (cy 6) (1, .inr (.inr (.inr (.inl fun _ => v))))) = arrV (cy 6) 1 (fun _ => .double v) from rfl, arrV_size] at q
        exact absurd q (by decide)
    refine W.dald (v := .double v) hx hb hLW1.2.2.2.1 ((hK.2 6 (cy 6, .double) rfl).1 1 (fun _ => .double v)) (fun q => by cases q) hin0 (arrV_read (cy 6) (N := 1) (fun _ => .double v) (by decide)) rfl rfl d8 ?_
    refine W.eq (g2 := F0 m (pc + 20) ls [.double v]) rfl ?_
    refine lv_dload hx hb d9 l7 ?_
    rw [hy e0]
    refine lv_dcmp hx hb db ?_
    rw [show Op.cmpValue (FP.dcmp y y) .l = 0 from hn e0]
    exact lv_if_eq (tgt := pc + 48) hx hb dc (by omega) (fun _ => fin) (fun hf => absurd rfl hf)
  · exact lv_if_ne (tgt := pc + 48) hx hb d5 (by omega) (fun _ => fin) (fun hf => by
      first
        | exact absurd ((nI_eq (show code < 2 ^ 31 by omega) (by decide)).mp hf) e0
        | exact absurd hf (fun z => z (fun q => e0 ((nI_eq (show code < 2 ^ 31 by omega) (by decide)).mp q))))
/-- the two sides' answers, held against each other; a float -/
theorem lw_CF {code : Nat} {y : UInt32} {off : Int} {tgt : Nat} (hB : Bx p s m args c cc nL RL D cy) (hLW : LW D cy h I L J M w v s.heap H locs) (hls : ls.size = nL) (l2 : ls[2]? = some (.val (.ref (h + 181)))) (l4 : ls[4]? = some (.val (.ref (h + 194)))) (l6 : ls[6]? = some (.val (.int (nI code)))) (l7 : ls[7]? = some (.val (.float y))) (h7 : J 0 7 = nI code) (hc31 : code < 100) (hy : code = 0 → v = (FP.f2d y)) (hn : code = 0 → vf_n64 (FP.f2d y) ∧ nn64 (FP.f2d y)) (hR : 1 ≤ R.frames ∧ 20 ≤ R.locals) (hce : cells ≤ R.cells ∧ slots ≤ R.slots)
    (d0 : decode cc pc = .ok (.aload_n 2, 1)) (d1 : decode cc (pc + 1) = .ok (.invokevirtual 122, 3)) (d2 : decode cc (pc + 4) = .ok (.iload 6, 2)) (d3 : decode cc (pc + 6) = .ok (.if_icmp .eq 5, 3)) (d4 : decode cc (pc + 11) = .ok (.iload 6, 2)) (d5 : decode cc (pc + 13) = .ok (.ifCond .ne 36, 3)) (d6 : decode cc (pc + 16) = .ok (.aload 4, 2)) (d7 : decode cc (pc + 18) = .ok (.iconst 0, 1)) (d8 : decode cc (pc + 19) = .ok (.daload, 1)) (d9 : decode cc (pc + 20) = .ok (.fload 7, 2)) (da : decode cc (pc + 22) = .ok (.f2d, 1)) (db : decode cc (pc + 23) = .ok (.dcmp .l, 1)) (dc : decode cc (pc + 24) = .ok (.ifCond .eq 25, 3)) (dd : decode cc (pc + 49) = .ok (.goto off, 3)) (ht : ((pc + 49 : Nat) : Int) + off = (tgt : Int))
    (kk : ∀ (H1 : Heap) (locs1 : List Loc), LW D cy h I L J M w v s.heap H1 locs1 → W p l e R s m args below meth c H1 locs1 cells slots Q (F0 m tgt ls [])) : W p l e R s m args below meth c H locs cells slots Q (F0 m pc ls []) := by
  obtain ⟨hx, hb, hml, hown, hts, hK⟩ := id hB
  refine lv_aload_n hx hb d0 rfl l2 ?_
  refine lw_B (av := []) (rest := []) (val := .int (J 0 7)) (ret := some .int) hB hLW rfl sVL8_thrown rfl rfl (qX8_thrown l J M) ⟨rfl, rfl, by show 0 + 1 ≤ R.frames; omega, by show 8 + (1 + 11) + 0 ≤ R.locals; omega⟩ hce hls (Nat.le_of_ble_eq_true rfl) d1 (fun H1 locs1 hLW1 => ?_)
  rw [h7]
  refine lv_iload hx hb d2 l6 ?_
  refine lv_icmp_eq (tgt := pc + 11) hx hb d3 (by omega) (fun _ => ?_) (fun hf => absurd rfl hf)
  refine lv_iload hx hb d4 l6 ?_
  have fin : W p l e R s m args below meth c H1 locs1 cells slots Q (F0 m (pc + 49) ls []) := lv_goto hx hb dd ht (kk H1 locs1 hLW1)
  by_cases e0 : code = 0
  · refine lv_if_ne (tgt := pc + 49) hx hb d5 (by omega) (fun _ => fin) (fun _ => ?_)
    refine lv_aload hx hb d6 l4 ?_
    refine lv_iconst (v := 0) hx hb d7 (by decide) ?_
    have hin0 : ¬ ((0 : Int32) < 0 ∨ (vp_cell (cy 6) (1, .inr (.inr (.inr (.inl fun _ => v))))).slots.size ≤ (0 : Int32).toNatClampNeg) := by
      rintro (q | q)
      · exact absurd q (by decide)
      · rw [show (vp_cell (cy 6) (1, .inr (.inr (.inr (.inl fun _ => v))))) = arrV (cy 6) 1 (fun _ => .double v) from rfl, arrV_size] at q
        exact absurd q (by decide)
    refine W.dald (v := .double v) hx hb hLW1.2.2.2.1 ((hK.2 6 (cy 6, .double) rfl).1 1 (fun _ => .double v)) (fun q => by cases q) hin0 (arrV_read (cy 6) (N := 1) (fun _ => .double v) (by decide)) rfl rfl d8 ?_
    refine W.eq (g2 := F0 m (pc + 20) ls [.double v]) rfl ?_
    refine lv_fload hx hb d9 l7 ?_
    refine lv_f2d hx hb da (hn e0).1 ?_
    rw [hy e0]
    refine lv_dcmp hx hb db ?_
    rw [show Op.cmpValue (FP.dcmp (FP.f2d y) (FP.f2d y)) .l = 0 from (hn e0).2]
    exact lv_if_eq (tgt := pc + 49) hx hb dc (by omega) (fun _ => fin) (fun hf => absurd rfl hf)
  · exact lv_if_ne (tgt := pc + 49) hx hb d5 (by omega) (fun _ => fin) (fun hf => by
      first
        | exact absurd ((nI_eq (show code < 2 ^ 31 by omega) (by decide)).mp hf) e0
        | exact absurd hf (fun z => z (fun q => e0 ((nI_eq (show code < 2 ^ 31 by omega) (by decide)).mp q))))
end LC
section LK
variable {p : Program} {l : Launch} {e : Env} {s : State} {m : MethodId} {below : List Frame} {meth : Method} {c : Code} {Q : State → Prop} {D : va_G} {cy : Nat → ClassId} {b Ln : Nat} {xs : Nat → Int32} {i : Nat} {ls : Array Slot} {I J : IM} {L M : LM} {w : Int64} {v : UInt64} {H : Heap} {locs : List Loc} {cells slots : Nat}
theorem sVL8_density : SitV RL 220 yX8_density cX8_density 2 (some .float) 1 := ⟨⟨(wb_6 74 (by decide +kernel) rfl), (wb_6 75 (by decide +kernel) rfl), (wb_6 76 (by decide +kernel) rfl), (wb_1 6 (by decide +kernel) rfl), (wb_6 77 (by decide +kernel) rfl)⟩, by decide +kernel⟩
theorem hdL_density : yL_density.cls ≠ "java/lang/invoke/MethodHandle" ∧ yL_density.cls ≠ "java/lang/invoke/VarHandle" ∧ (parseMethodDescriptor yL_density.desc).map (fun d => d.parameters.length) = some 3 := by decide +kernel
theorem lc_density (hlt : l.stackTraces = false) (hX : LX p s m c D cy b Ln xs) (hi : i + 4 ≤ Ln) (hl : lv_has ls 9 (LVs b s.heap.size i)) (hS : SimE I J) (hLW : LW D cy s.heap.size I L J M w v s.heap H locs) (hce : cells + 1 ≤ 601024 ∧ slots + 6 ≤ 7293034)
    (kk : ∀ (I2 : IM) (L2 : LM) (J2 : IM) (M2 : LM) (w2 : Int64) (v2 : UInt64) (H1 : Heap) (locs1 : List Loc) (ls1 : Array Slot), SimE I2 J2 → LW D cy s.heap.size I2 L2 J2 M2 w2 v2 s.heap H1 locs1 → lv_has ls1 9 (LVs b s.heap.size i) → W p l e room_1 s m #[.ref b] below meth c H1 locs1 (cells + 1) (slots + 6) Q (F0 m 2314 ls1 [])) : W p l e room_1 s m #[.ref b] below meth c H locs cells slots Q (F0 m 2133 ls []) := by
  obtain ⟨hB, hE, hXs, hbl, hLn⟩ := hX
  obtain ⟨hx, hb, hml, hown, hts, hK⟩ := id hB
  obtain ⟨co, x, y, I2, L2, J2, M2, hOC, hR8, h7, hxy, hs2⟩ := ag_density l hlt hS (xs (i + 1)) L M
  have hco := OC_le hOC (by decide)
  refine lv_aload_n hx hb (show decode code 2133 = .ok (.aload_n 1, 1) by decide +kernel) rfl (lv_at hl 4 rfl) ?_
  refine lw_ld (i := i) (k := 1) hB hXs hbl (Nat.not_le.mpr hbl) hLW.2.2.2.2 (lv_at hl 5 rfl) (lv_at hl 0 rfl) (by omega) hLn (show decode code 2134 = .ok (.aload_n 0, 1) by decide +kernel) (show decode code 2135 = .ok (.iload 5, 2) by decide +kernel) (show decode code 2137 = .ok (.iconst 1, 1) by decide +kernel) (show decode code 2138 = .ok (.iadd, 1) by decide +kernel) (show decode code 2139 = .ok (.iaload, 1) by decide +kernel) ?_
  refine lv_aload hx hb (show decode code 2140 = .ok (.aload 4, 2) by decide +kernel) (lv_at hl 1 rfl) ?_
  refine lw_AD (av := [.ref s.heap.size, .int (xs (i + 1)), .ref (s.heap.size + 194)]) (rest := []) hB hE rfl hLW (hc_density l (fun e0 => by rw [(hxy e0).1]; exact (hxy e0).2.1) hOC D cy s.heap.size (s.heap.size + 194) v (by omega)) ⟨(wb_4 113 (by decide +kernel) rfl), (wb_4 114 (by decide +kernel) rfl), (by decide +kernel), (wb_4 115 (by decide +kernel) rfl)⟩ hdL_density ⟨rfl, rfl, Nat.le_of_ble_eq_true rfl, Nat.le_of_ble_eq_true rfl⟩ hce hl.1 (Nat.le_of_ble_eq_true rfl) (show decode code 2142 = .ok (.invokestatic 217, 3) by decide +kernel) (fun H1 locs1 v2 hLW hv2 => ?_)
  refine lv_istore (lv' := (6, .int (nI co)) :: LVs b s.heap.size i) hx hb (show decode code 2145 = .ok (.istore 6, 2) by decide +kernel) hl (by decide) rfl (fun ls hl => ?_)
  refine lv_aload_n hx hb (show decode code 2147 = .ok (.aload_n 2, 1) by decide +kernel) rfl (lv_at hl 4 rfl) ?_
  refine lw_ld (i := i) (k := 1) hB hXs hbl (Nat.not_le.mpr hbl) hLW.2.2.2.2 (lv_at hl 6 rfl) (lv_at hl 1 rfl) (by omega) hLn (show decode code 2148 = .ok (.aload_n 0, 1) by decide +kernel) (show decode code 2149 = .ok (.iload 5, 2) by decide +kernel) (show decode code 2151 = .ok (.iconst 1, 1) by decide +kernel) (show decode code 2152 = .ok (.iadd, 1) by decide +kernel) (show decode code 2153 = .ok (.iaload, 1) by decide +kernel) ?_
  refine lw_B (av := [.int (xs (i + 1))]) (rest := []) (val := .float y) hB hLW rfl sVL8_density rfl rfl hR8 ⟨rfl, rfl, Nat.le_of_ble_eq_true rfl, Nat.le_of_ble_eq_true rfl⟩ hce hl.1 (Nat.le_of_ble_eq_true rfl) (show decode code 2154 = .ok (.invokevirtual 220, 3) by decide +kernel) (fun H1 locs1 hLW => ?_)
  refine lv_fstore (lv' := (7, .float y) :: (6, .int (nI co)) :: LVs b s.heap.size i) hx hb (show decode code 2157 = .ok (.fstore 7, 2) by decide +kernel) hl (by decide) rfl (fun ls hl => ?_)
  exact lw_CF (l := l) hB hLW hl.1 (lv_at hl 5 rfl) (lv_at hl 3 rfl) (lv_at hl 1 rfl) (lv_at hl 0 rfl) h7 hco (fun e0 => by rw [hv2 e0, (hxy e0).1]) (fun e0 => (hxy e0).2) ⟨Nat.le_of_ble_eq_true rfl, Nat.le_of_ble_eq_true rfl⟩ hce (show decode code 2159 = .ok (.aload_n 2, 1) by decide +kernel) (show decode code 2160 = .ok (.invokevirtual 122, 3) by decide +kernel) (show decode code 2163 = .ok (.iload 6, 2) by decide +kernel) (show decode code 2165 = .ok (.if_icmp .eq 5, 3) by decide +kernel) (show decode code 2170 = .ok (.iload 6, 2) by decide +kernel) (show decode code 2172 = .ok (.ifCond .ne 36, 3) by decide +kernel) (show decode code 2175 = .ok (.aload 4, 2) by decide +kernel) (show decode code 2177 = .ok (.iconst 0, 1) by decide +kernel) (show decode code 2178 = .ok (.daload, 1) by decide +kernel) (show decode code 2179 = .ok (.fload 7, 2) by decide +kernel) (show decode code 2181 = .ok (.f2d, 1) by decide +kernel) (show decode code 2182 = .ok (.dcmp .l, 1) by decide +kernel) (show decode code 2183 = .ok (.ifCond .eq 25, 3) by decide +kernel) (show decode code 2208 = .ok (.goto 106, 3) by decide +kernel) (by decide) (fun H1 locs1 hLW => kk I2 L2 J2 M2 w v2 H1 locs1 ls hs2 hLW (lv_sub hl [2, 3, 4, 5, 6, 7] rfl))
theorem sVL8_share : SitV RL 224 yX8_share cX8_share 3 (some .double) 2 := ⟨⟨(wb_6 82 (by decide +kernel) rfl), (wb_6 83 (by decide +kernel) rfl), (wb_6 84 (by decide +kernel) rfl), (wb_1 6 (by decide +kernel) rfl), (wb_6 85 (by decide +kernel) rfl)⟩, by decide +kernel⟩
theorem hdL_share : yL_share.cls ≠ "java/lang/invoke/MethodHandle" ∧ yL_share.cls ≠ "java/lang/invoke/VarHandle" ∧ (parseMethodDescriptor yL_share.desc).map (fun d => d.parameters.length) = some 4 := by decide +kernel
theorem lc_share (hlt : l.stackTraces = false) (hX : LX p s m c D cy b Ln xs) (hi : i + 4 ≤ Ln) (hl : lv_has ls 9 (LVs b s.heap.size i)) (hS : SimE I J) (hLW : LW D cy s.heap.size I L J M w v s.heap H locs) (hce : cells + 1 ≤ 601024 ∧ slots + 6 ≤ 7293034)
    (kk : ∀ (I2 : IM) (L2 : LM) (J2 : IM) (M2 : LM) (w2 : Int64) (v2 : UInt64) (H1 : Heap) (locs1 : List Loc) (ls1 : Array Slot), SimE I2 J2 → LW D cy s.heap.size I2 L2 J2 M2 w2 v2 s.heap H1 locs1 → lv_has ls1 9 (LVs b s.heap.size i) → W p l e room_1 s m #[.ref b] below meth c H1 locs1 (cells + 1) (slots + 6) Q (F0 m 2314 ls1 [])) : W p l e room_1 s m #[.ref b] below meth c H locs cells slots Q (F0 m 2211 ls []) := by
  obtain ⟨hB, hE, hXs, hbl, hLn⟩ := hX
  obtain ⟨hx, hb, hml, hown, hts, hK⟩ := id hB
  obtain ⟨co, x, y, I2, L2, J2, M2, hOC, hR8, h7, hxy, hs2⟩ := ag_share l hlt hS (xs (i + 1)) (xs (i + 2)) L M
  have hco := OC_le hOC (by decide)
  refine lv_aload_n hx hb (show decode code 2211 = .ok (.aload_n 1, 1) by decide +kernel) rfl (lv_at hl 4 rfl) ?_
  refine lw_ld (i := i) (k := 1) hB hXs hbl (Nat.not_le.mpr hbl) hLW.2.2.2.2 (lv_at hl 5 rfl) (lv_at hl 0 rfl) (by omega) hLn (show decode code 2212 = .ok (.aload_n 0, 1) by decide +kernel) (show decode code 2213 = .ok (.iload 5, 2) by decide +kernel) (show decode code 2215 = .ok (.iconst 1, 1) by decide +kernel) (show decode code 2216 = .ok (.iadd, 1) by decide +kernel) (show decode code 2217 = .ok (.iaload, 1) by decide +kernel) ?_
  refine lw_ld (i := i) (k := 2) hB hXs hbl (Nat.not_le.mpr hbl) hLW.2.2.2.2 (lv_at hl 5 rfl) (lv_at hl 0 rfl) (by omega) hLn (show decode code 2218 = .ok (.aload_n 0, 1) by decide +kernel) (show decode code 2219 = .ok (.iload 5, 2) by decide +kernel) (show decode code 2221 = .ok (.iconst 2, 1) by decide +kernel) (show decode code 2222 = .ok (.iadd, 1) by decide +kernel) (show decode code 2223 = .ok (.iaload, 1) by decide +kernel) ?_
  refine lv_aload hx hb (show decode code 2224 = .ok (.aload 4, 2) by decide +kernel) (lv_at hl 1 rfl) ?_
  refine lw_AD (av := [.ref s.heap.size, .int (xs (i + 1)), .int (xs (i + 2)), .ref (s.heap.size + 194)]) (rest := []) hB hE rfl hLW (hc_share l hOC D cy s.heap.size (s.heap.size + 194) v (by omega)) ⟨(wb_4 117 (by decide +kernel) rfl), (wb_4 118 (by decide +kernel) rfl), (by decide +kernel), (wb_4 119 (by decide +kernel) rfl)⟩ hdL_share ⟨rfl, rfl, Nat.le_of_ble_eq_true rfl, Nat.le_of_ble_eq_true rfl⟩ hce hl.1 (Nat.le_of_ble_eq_true rfl) (show decode code 2226 = .ok (.invokestatic 221, 3) by decide +kernel) (fun H1 locs1 v2 hLW hv2 => ?_)
  refine lv_istore (lv' := (6, .int (nI co)) :: LVs b s.heap.size i) hx hb (show decode code 2229 = .ok (.istore 6, 2) by decide +kernel) hl (by decide) rfl (fun ls hl => ?_)
  refine lv_aload_n hx hb (show decode code 2231 = .ok (.aload_n 2, 1) by decide +kernel) rfl (lv_at hl 4 rfl) ?_
  refine lw_ld (i := i) (k := 1) hB hXs hbl (Nat.not_le.mpr hbl) hLW.2.2.2.2 (lv_at hl 6 rfl) (lv_at hl 1 rfl) (by omega) hLn (show decode code 2232 = .ok (.aload_n 0, 1) by decide +kernel) (show decode code 2233 = .ok (.iload 5, 2) by decide +kernel) (show decode code 2235 = .ok (.iconst 1, 1) by decide +kernel) (show decode code 2236 = .ok (.iadd, 1) by decide +kernel) (show decode code 2237 = .ok (.iaload, 1) by decide +kernel) ?_
  refine lw_ld (i := i) (k := 2) hB hXs hbl (Nat.not_le.mpr hbl) hLW.2.2.2.2 (lv_at hl 6 rfl) (lv_at hl 1 rfl) (by omega) hLn (show decode code 2238 = .ok (.aload_n 0, 1) by decide +kernel) (show decode code 2239 = .ok (.iload 5, 2) by decide +kernel) (show decode code 2241 = .ok (.iconst 2, 1) by decide +kernel) (show decode code 2242 = .ok (.iadd, 1) by decide +kernel) (show decode code 2243 = .ok (.iaload, 1) by decide +kernel) ?_
  refine lw_B (av := [.int (xs (i + 1)), .int (xs (i + 2))]) (rest := []) (val := .double y) hB hLW rfl sVL8_share rfl rfl hR8 ⟨rfl, rfl, Nat.le_of_ble_eq_true rfl, Nat.le_of_ble_eq_true rfl⟩ hce hl.1 (Nat.le_of_ble_eq_true rfl) (show decode code 2244 = .ok (.invokevirtual 224, 3) by decide +kernel) (fun H1 locs1 hLW => ?_)
  refine lv_dstore (lv' := (7, .double y) :: (6, .int (nI co)) :: LVs b s.heap.size i) hx hb (show decode code 2247 = .ok (.dstore 7, 2) by decide +kernel) hl (by decide) rfl (fun ls hl => ?_)
  exact lw_CD (l := l) hB hLW hl.1 (lv_at hl 5 rfl) (lv_at hl 3 rfl) (lv_at hl 1 rfl) (lv_at hl 0 rfl) h7 hco (fun e0 => by rw [hv2 e0, (hxy e0).1]) (fun e0 => (hxy e0).2.2) ⟨Nat.le_of_ble_eq_true rfl, Nat.le_of_ble_eq_true rfl⟩ hce (show decode code 2249 = .ok (.aload_n 2, 1) by decide +kernel) (show decode code 2250 = .ok (.invokevirtual 122, 3) by decide +kernel) (show decode code 2253 = .ok (.iload 6, 2) by decide +kernel) (show decode code 2255 = .ok (.if_icmp .eq 5, 3) by decide +kernel) (show decode code 2260 = .ok (.iload 6, 2) by decide +kernel) (show decode code 2262 = .ok (.ifCond .ne 35, 3) by decide +kernel) (show decode code 2265 = .ok (.aload 4, 2) by decide +kernel) (show decode code 2267 = .ok (.iconst 0, 1) by decide +kernel) (show decode code 2268 = .ok (.daload, 1) by decide +kernel) (show decode code 2269 = .ok (.dload 7, 2) by decide +kernel) (show decode code 2271 = .ok (.dcmp .l, 1) by decide +kernel) (show decode code 2272 = .ok (.ifCond .eq 25, 3) by decide +kernel) (show decode code 2297 = .ok (.goto 17, 3) by decide +kernel) (by decide) (fun H1 locs1 hLW => kk I2 L2 J2 M2 w v2 H1 locs1 ls hs2 hLW (lv_sub hl [2, 3, 4, 5, 6, 7] rfl))
end LK
