/-! THE LAW: inner -/
section LC
variable {p : Program} {l : Launch} {e : Env} {R : Room} {s : State} {m : MethodId} {args : Array Value} {below : List Frame} {meth : Method} {c : Code} {Q : State → Prop} {cc : ByteArray} {nL : Nat} {D : va_G} {cy : Nat → ClassId} {I J : IM} {L M : LM} {w : Int64} {v : UInt64} {h : Nat} {H : Heap} {locs : List Loc} {cells slots pc : Nat} {ls : Array Slot} {rest : List Value}
/-- the two sides' answers, held against each other -/
theorem lw_CL {code : Nat} {y : Int64} {off : Int} {tgt : Nat} (hB : Bx p s m args c cc nL RL D cy) (hLW : LW D cy h I L J M w v s.heap H locs) (hls : ls.size = nL) (l2 : ls[2]? = some (.val (.ref (h + 181)))) (l3 : ls[3]? = some (.val (.ref (h + 193)))) (l6 : ls[6]? = some (.val (.int (nI code)))) (l7 : ls[7]? = some (.val (.long y))) (h7 : J 0 7 = nI code) (hc31 : code < 100) (hy : code = 0 → w = y) (hR : 1 ≤ R.frames ∧ 20 ≤ R.locals) (hce : cells ≤ R.cells ∧ slots ≤ R.slots)
    (d0 : decode cc pc = .ok (.aload_n 2, 1)) (d1 : decode cc (pc + 1) = .ok (.invokevirtual 122, 3)) (d2 : decode cc (pc + 4) = .ok (.iload 6, 2)) (d3 : decode cc (pc + 6) = .ok (.if_icmp .eq 5, 3)) (d4 : decode cc (pc + 11) = .ok (.iload 6, 2)) (d5 : decode cc (pc + 13) = .ok (.ifCond .ne 14, 3)) (d6 : decode cc (pc + 16) = .ok (.aload_n 3, 1)) (d7 : decode cc (pc + 17) = .ok (.iconst 0, 1)) (d8 : decode cc (pc + 18) = .ok (.laload, 1)) (d9 : decode cc (pc + 19) = .ok (.lload 7, 2)) (db : decode cc (pc + 21) = .ok (.lcmp, 1)) (dc : decode cc (pc + 22) = .ok (.ifCond .eq 5, 3)) (dd : decode cc (pc + 27) = .ok (.goto off, 3)) (ht : ((pc + 27 : Nat) : Int) + off = (tgt : Int))
    (kk : ∀ (H1 : Heap) (locs1 : List Loc), LW D cy h I L J M w v s.heap H1 locs1 → W p l e R s m args below meth c H1 locs1 cells slots Q (F0 m tgt ls [])) : W p l e R s m args below meth c H locs cells slots Q (F0 m pc ls []) := by
  obtain ⟨hx, hb, hml, hown, hts, hK⟩ := id hB
  refine lv_aload_n hx hb d0 rfl l2 ?_
  refine lw_B (av := []) (rest := []) (val := .int (J 0 7)) (ret := some .int) hB hLW rfl sVL8_thrown rfl rfl (qX8_thrown l J M) ⟨rfl, rfl, by show 0 + 1 ≤ R.frames; omega, by show 8 + (1 + 11) + 0 ≤ R.locals; omega⟩ hce hls (Nat.le_of_ble_eq_true rfl) d1 (fun H1 locs1 hLW1 => ?_)
  rw [h7]
  refine lv_iload hx hb d2 l6 ?_
  refine lv_icmp_eq (tgt := pc + 11) hx hb d3 (by omega) (fun _ => ?_) (fun hf => absurd rfl hf)
  refine lv_iload hx hb d4 l6 ?_
  have fin : W p l e R s m args below meth c H1 locs1 cells slots Q (F0 m (pc + 27) ls []) := lv_goto hx hb dd ht (kk H1 locs1 hLW1)
  by_cases e0 : code = 0
  · refine lv_if_ne (tgt := pc + 27) hx hb d5 (by omega) (fun _ => fin) (fun _ => ?_)
    refine lv_aload_n hx hb d6 rfl l3 ?_
    refine lv_iconst (v := 0) hx hb d7 (by decide) ?_
    have hin0 : ¬ ((0 : Int32) < 0 ∨ (vp_cell (cy 1) (1, .inr (.inl fun _ => w))).slots.size ≤ (0 : Int32).toNatClampNeg) := by
      rintro (q | q)
      · exact absurd q (by decide)
      · rw [show (vp_cell (cy 1) (1, .inr (.inl fun _ => w))) = arrV (cy 1) 1 (fun _ => .long w) from rfl, arrV_size] at q
        exact absurd q (by decide)
    refine W.lald (v := .long w) hx hb hLW1.2.2.1 ((hK.2 1 (cy 1, .long) rfl).1 1 (fun _ => .long w)) (fun q => by cases q) hin0 (arrV_read (cy 1) (N := 1) (fun _ => .long w) (by decide)) rfl rfl d8 ?_
    refine W.eq (g2 := F0 m (pc + 19) ls [.long w]) rfl ?_
    refine lv_lload hx hb d9 l7 ?_
    rw [← hy e0]
    refine W.lcmp hx hb db ?_
    rw [(lg_cmp_eq w w).mpr rfl]
    exact lv_if_eq (tgt := pc + 27) hx hb dc (by omega) (fun _ => fin) (fun hf => absurd rfl hf)
  · exact lv_if_ne (tgt := pc + 27) hx hb d5 (by omega) (fun _ => fin) (fun hf => by
      first
        | exact absurd ((nI_eq (show code < 2 ^ 31 by omega) (by decide)).mp hf) e0
        | exact absurd hf (fun z => z (fun q => e0 ((nI_eq (show code < 2 ^ 31 by omega) (by decide)).mp q))))
end LC
section LK
variable {p : Program} {l : Launch} {e : Env} {s : State} {m : MethodId} {below : List Frame} {meth : Method} {c : Code} {Q : State → Prop} {D : va_G} {cy : Nat → ClassId} {b Ln : Nat} {xs : Nat → Int32} {i : Nat} {ls : Array Slot} {I J : IM} {L M : LM} {w : Int64} {v : UInt64} {H : Heap} {locs : List Loc} {cells slots : Nat}
theorem sVL8_inner : SitV RL 192 yX8_inner cX8_inner 3 (some .long) 2 := ⟨⟨(wb_5 199 (by decide +kernel) rfl), (wb_5 200 (by decide +kernel) rfl), (wb_5 201 (by decide +kernel) rfl), (wb_1 6 (by decide +kernel) rfl), (wb_5 202 (by decide +kernel) rfl)⟩, by decide +kernel⟩
theorem hdL_inner : yL_inner.cls ≠ "java/lang/invoke/MethodHandle" ∧ yL_inner.cls ≠ "java/lang/invoke/VarHandle" ∧ (parseMethodDescriptor yL_inner.desc).map (fun d => d.parameters.length) = some 4 := by decide +kernel
theorem lc_inner (hlt : l.stackTraces = false) (hX : LX p s m c D cy b Ln xs) (hi : i + 4 ≤ Ln) (hl : lv_has ls 9 (LVs b s.heap.size i)) (hS : SimE I J) (hLW : LW D cy s.heap.size I L J M w v s.heap H locs) (hce : cells + 1 ≤ 601024 ∧ slots + 6 ≤ 7293034)
    (kk : ∀ (I2 : IM) (L2 : LM) (J2 : IM) (M2 : LM) (w2 : Int64) (v2 : UInt64) (H1 : Heap) (locs1 : List Loc) (ls1 : Array Slot), SimE I2 J2 → LW D cy s.heap.size I2 L2 J2 M2 w2 v2 s.heap H1 locs1 → lv_has ls1 9 (LVs b s.heap.size i) → W p l e room_1 s m #[.ref b] below meth c H1 locs1 (cells + 1) (slots + 6) Q (F0 m 2314 ls1 [])) : W p l e room_1 s m #[.ref b] below meth c H locs cells slots Q (F0 m 1510 ls []) := by
  obtain ⟨hB, hE, hXs, hbl, hLn⟩ := hX
  obtain ⟨hx, hb, hml, hown, hts, hK⟩ := id hB
  obtain ⟨co, x, y, I2, L2, J2, M2, hOC, hR8, h7, hxy, hs2⟩ := ag_inner l hlt hS (xs (i + 1)) (xs (i + 2)) L M
  have hco := OC_le hOC (by decide)
  refine lv_aload_n hx hb (show decode code 1510 = .ok (.aload_n 1, 1) by decide +kernel) rfl (lv_at hl 4 rfl) ?_
  refine lw_ld (i := i) (k := 1) hB hXs hbl (Nat.not_le.mpr hbl) hLW.2.2.2.2 (lv_at hl 5 rfl) (lv_at hl 0 rfl) (by omega) hLn (show decode code 1511 = .ok (.aload_n 0, 1) by decide +kernel) (show decode code 1512 = .ok (.iload 5, 2) by decide +kernel) (show decode code 1514 = .ok (.iconst 1, 1) by decide +kernel) (show decode code 1515 = .ok (.iadd, 1) by decide +kernel) (show decode code 1516 = .ok (.iaload, 1) by decide +kernel) ?_
  refine lw_ld (i := i) (k := 2) hB hXs hbl (Nat.not_le.mpr hbl) hLW.2.2.2.2 (lv_at hl 5 rfl) (lv_at hl 0 rfl) (by omega) hLn (show decode code 1517 = .ok (.aload_n 0, 1) by decide +kernel) (show decode code 1518 = .ok (.iload 5, 2) by decide +kernel) (show decode code 1520 = .ok (.iconst 2, 1) by decide +kernel) (show decode code 1521 = .ok (.iadd, 1) by decide +kernel) (show decode code 1522 = .ok (.iaload, 1) by decide +kernel) ?_
  refine lv_aload_n hx hb (show decode code 1523 = .ok (.aload_n 3, 1) by decide +kernel) rfl (lv_at hl 2 rfl) ?_
  refine lw_A (av := [.ref s.heap.size, .int (xs (i + 1)), .int (xs (i + 2)), .ref (s.heap.size + 193)]) (rest := []) hB hE rfl hLW (hc_inner l hOC D cy s.heap.size (s.heap.size + 193) w (by omega)) ⟨(wb_4 53 (by decide +kernel) rfl), (wb_4 54 (by decide +kernel) rfl), (by decide +kernel), (wb_4 55 (by decide +kernel) rfl)⟩ hdL_inner ⟨rfl, rfl, Nat.le_of_ble_eq_true rfl, Nat.le_of_ble_eq_true rfl⟩ hce hl.1 (Nat.le_of_ble_eq_true rfl) (show decode code 1524 = .ok (.invokestatic 190, 3) by decide +kernel) (fun H1 locs1 w2 hLW hw2 => ?_)
  refine lv_istore (lv' := (6, .int (nI co)) :: LVs b s.heap.size i) hx hb (show decode code 1527 = .ok (.istore 6, 2) by decide +kernel) hl (by decide) rfl (fun ls hl => ?_)
  refine lv_aload_n hx hb (show decode code 1529 = .ok (.aload_n 2, 1) by decide +kernel) rfl (lv_at hl 4 rfl) ?_
  refine lw_ld (i := i) (k := 1) hB hXs hbl (Nat.not_le.mpr hbl) hLW.2.2.2.2 (lv_at hl 6 rfl) (lv_at hl 1 rfl) (by omega) hLn (show decode code 1530 = .ok (.aload_n 0, 1) by decide +kernel) (show decode code 1531 = .ok (.iload 5, 2) by decide +kernel) (show decode code 1533 = .ok (.iconst 1, 1) by decide +kernel) (show decode code 1534 = .ok (.iadd, 1) by decide +kernel) (show decode code 1535 = .ok (.iaload, 1) by decide +kernel) ?_
  refine lw_ld (i := i) (k := 2) hB hXs hbl (Nat.not_le.mpr hbl) hLW.2.2.2.2 (lv_at hl 6 rfl) (lv_at hl 1 rfl) (by omega) hLn (show decode code 1536 = .ok (.aload_n 0, 1) by decide +kernel) (show decode code 1537 = .ok (.iload 5, 2) by decide +kernel) (show decode code 1539 = .ok (.iconst 2, 1) by decide +kernel) (show decode code 1540 = .ok (.iadd, 1) by decide +kernel) (show decode code 1541 = .ok (.iaload, 1) by decide +kernel) ?_
  refine lw_B (av := [.int (xs (i + 1)), .int (xs (i + 2))]) (rest := []) (val := .long y) hB hLW rfl sVL8_inner rfl rfl hR8 ⟨rfl, rfl, Nat.le_of_ble_eq_true rfl, Nat.le_of_ble_eq_true rfl⟩ hce hl.1 (Nat.le_of_ble_eq_true rfl) (show decode code 1542 = .ok (.invokevirtual 192, 3) by decide +kernel) (fun H1 locs1 hLW => ?_)
  refine lv_lstore (lv' := (7, .long y) :: (6, .int (nI co)) :: LVs b s.heap.size i) hx hb (show decode code 1545 = .ok (.lstore 7, 2) by decide +kernel) hl (by decide) rfl (fun ls hl => ?_)
  exact lw_CL (l := l) hB hLW hl.1 (lv_at hl 5 rfl) (lv_at hl 4 rfl) (lv_at hl 1 rfl) (lv_at hl 0 rfl) h7 hco (fun e0 => by rw [hw2 e0, hxy e0]) ⟨Nat.le_of_ble_eq_true rfl, Nat.le_of_ble_eq_true rfl⟩ hce (show decode code 1547 = .ok (.aload_n 2, 1) by decide +kernel) (show decode code 1548 = .ok (.invokevirtual 122, 3) by decide +kernel) (show decode code 1551 = .ok (.iload 6, 2) by decide +kernel) (show decode code 1553 = .ok (.if_icmp .eq 5, 3) by decide +kernel) (show decode code 1558 = .ok (.iload 6, 2) by decide +kernel) (show decode code 1560 = .ok (.ifCond .ne 14, 3) by decide +kernel) (show decode code 1563 = .ok (.aload_n 3, 1) by decide +kernel) (show decode code 1564 = .ok (.iconst 0, 1) by decide +kernel) (show decode code 1565 = .ok (.laload, 1) by decide +kernel) (show decode code 1566 = .ok (.lload 7, 2) by decide +kernel) (show decode code 1568 = .ok (.lcmp, 1) by decide +kernel) (show decode code 1569 = .ok (.ifCond .eq 5, 3) by decide +kernel) (show decode code 1574 = .ok (.goto 740, 3) by decide +kernel) (by decide) (fun H1 locs1 hLW => kk I2 L2 J2 M2 w2 v H1 locs1 ls hs2 hLW (lv_sub hl [2, 3, 4, 5, 6, 7] rfl))
end LK
