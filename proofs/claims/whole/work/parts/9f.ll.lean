/-! THE LAW: its loop -/
set_option maxRecDepth 100000 in
theorem dS_law : decode code 44 = .ok (.tableswitch 2270 0 32 #[148, 204, 272, 352, 432, 512, 592, 672, 752, 820, 900, 968, 1036, 1092, 1105, 1118, 1174, 1230, 1286, 1330, 1398, 1466, 1533, 1601, 1681, 1737, 1817, 1897, 1965, 2021, 2089, 2167, 2256], 148) := by decide +kernel
theorem and63 (x : Int32) : ∃ j : Nat, j ≤ 63 ∧ x &&& 63 = nI j := by
  have h1 : (x &&& 63).toBitVec.toNat ≤ 63 := by
    rw [Int32.toBitVec_and, BitVec.toNat_and]
    exact Nat.and_le_right
  have h2 : (x &&& 63).toInt = ((x &&& 63).toBitVec.toNat : Int) := by
    rw [← Int32.toInt_toBitVec]
    exact BitVec.toInt_eq_toNat_of_lt (by omega)
  refine nI_of2 (M := 63) (n := 63) (by decide) (fun h => ?_) ?_
  · have := Int32.lt_iff_toInt_lt.mp h
    rw [show ((0 : Int32)).toInt = 0 by decide] at this
    omega
  · refine Int32.le_iff_toInt_le.mpr ?_
    rw [show ((63 : Int32)).toInt = 63 by decide]
    omega
theorem sub4 {n : Nat} (h : n ≤ 2048) : (Int32.ofNat n - 4).toInt = (n : Int) - 4 := by
  have h1 : (Int32.ofNat n).toInt = (n : Int) := nI_toInt (n := n) (by omega)
  rw [Int32.toInt_sub, h1, show ((4 : Int32)).toInt = 4 by decide]
  have : Int.bmod ((n : Int) - 4) (2 ^ 32) = (n : Int) - 4 := by
    refine Int.bmod_eq_of_le ?_ ?_ <;> omega
  exact this
section LL
variable {p : Program} {l : Launch} {e : Env} {s : State} {m : MethodId} {below : List Frame} {meth : Method} {c : Code} {D : va_G} {cy : Nat → ClassId} {b Ln : Nat} {xs : Nat → Int32}
theorem law_end {H : Heap} {locs : List Loc} {cells slots : Nat} {ls : Array Slot} (hx : p.tables.exec = Jvm.exec) (hb : c.code = code) (hr : meth.sig.returnType = ret) (hlocks : meth.locks = false) (hS : va_S (fun q => s.heap.size ≤ q) s.heap H locs) (hce : cells ≤ 601024 ∧ slots ≤ 7293034) : W p l e room_1 s m #[Value.ref b] below meth c H locs cells slots (lw_Z below #[Value.ref b] s) (F0 m 2320 ls []) := by
  refine W.widen hce.1 hce.2 ?_
  refine va_forget hS.2.2 ?_
  refine lv_iconst (v := 1) hx hb (show decode code 2320 = .ok (.iconst 1, 1) by decide +kernel) (by decide) ?_
  exact W.base (lw_ret (Drawn.sameBut.refl s.drawn lw_cs) hx hb hr hlocks (show decode code 2321 = .ok (.ireturn, 1) by decide +kernel))
set_option maxHeartbeats 4000000 in
theorem law_case {Q : State → Prop} {i : Nat} {I J : IM} {L M : LM} {w : Int64} {v : UInt64} {H : Heap} {locs : List Loc} {ls : Array Slot} {cells slots : Nat} (hlt : l.stackTraces = false) (hX : LX p s m c D cy b Ln xs) (hi : i + 4 ≤ Ln) (hl : lv_has ls 9 (LVs b s.heap.size i)) (hS : SimE I J) (hLW : LW D cy s.heap.size I L J M w v s.heap H locs) (hce : cells + 1 ≤ 601024 ∧ slots + 6 ≤ 7293034) {j : Nat} (hj : j ≤ 63)
    (kk : ∀ (I2 : IM) (L2 : LM) (J2 : IM) (M2 : LM) (w2 : Int64) (v2 : UInt64) (H1 : Heap) (locs1 : List Loc) (ls1 : Array Slot), SimE I2 J2 → LW D cy s.heap.size I2 L2 J2 M2 w2 v2 s.heap H1 locs1 → lv_has ls1 9 (LVs b s.heap.size i) → W p l e room_1 s m #[.ref b] below meth c H1 locs1 (cells + 1) (slots + 6) Q (F0 m 2314 ls1 [])) : W p l e room_1 s m #[.ref b] below meth c H locs cells slots Q (F0 m 44 ls [.int (nI j)]) := by
  obtain ⟨hx, hb, -⟩ := id hX.1
  have hce0 : cells ≤ 601024 ∧ slots ≤ 7293034 := ⟨by omega, by omega⟩
  have kk0 : ∀ (I2 : IM) (L2 : LM) (J2 : IM) (M2 : LM) (w2 : Int64) (v2 : UInt64) (H1 : Heap) (locs1 : List Loc) (ls1 : Array Slot), SimE I2 J2 → LW D cy s.heap.size I2 L2 J2 M2 w2 v2 s.heap H1 locs1 → lv_has ls1 9 (LVs b s.heap.size i) → W p l e room_1 s m #[.ref b] below meth c H1 locs1 cells slots Q (F0 m 2314 ls1 []) := fun I2 L2 J2 M2 w2 v2 H1 locs1 ls1 a1 a2 a3 => W.widen (k := cells + 1) (n := slots + 6) (by omega) (by omega) (kk I2 L2 J2 M2 w2 v2 H1 locs1 ls1 a1 a2 a3)
  rcases (show j = 0 ∨ j = 1 ∨ j = 2 ∨ j = 3 ∨ j = 4 ∨ j = 5 ∨ j = 6 ∨ j = 7 ∨ j = 8 ∨ j = 9 ∨ j = 10 ∨ j = 11 ∨ j = 12 ∨ j = 13 ∨ j = 14 ∨ j = 15 ∨ j = 16 ∨ j = 17 ∨ j = 18 ∨ j = 19 ∨ j = 20 ∨ j = 21 ∨ j = 22 ∨ j = 23 ∨ j = 24 ∨ j = 25 ∨ j = 26 ∨ j = 27 ∨ j = 28 ∨ j = 29 ∨ j = 30 ∨ j = 31 ∨ j = 32 ∨ 33 ≤ j by omega) with rfl | rfl | rfl | rfl | rfl | rfl | rfl | rfl | rfl | rfl | rfl | rfl | rfl | rfl | rfl | rfl | rfl | rfl | rfl | rfl | rfl | rfl | rfl | rfl | rfl | rfl | rfl | rfl | rfl | rfl | rfl | rfl | rfl | hg
  · exact lv_tableIn (off := 148) (tgt := 192) hx hb dS_law (by decide) (by decide) rfl (by decide) (lc_begin hlt hX hi hl hS hLW hce kk)
  · exact lv_tableIn (off := 204) (tgt := 248) hx hb dS_law (by decide) (by decide) rfl (by decide) (lc_sign hlt hX hi hl hS hLW hce kk)
  · exact lv_tableIn (off := 272) (tgt := 316) hx hb dS_law (by decide) (by decide) rfl (by decide) (lc_matrix hlt hX hi hl hS hLW hce kk)
  · exact lv_tableIn (off := 352) (tgt := 396) hx hb dS_law (by decide) (by decide) rfl (by decide) (lc_set hlt hX hi hl hS hLW hce kk)
  · exact lv_tableIn (off := 432) (tgt := 476) hx hb dS_law (by decide) (by decide) rfl (by decide) (lc_sum hlt hX hi hl hS hLW hce kk)
  · exact lv_tableIn (off := 512) (tgt := 556) hx hb dS_law (by decide) (by decide) rfl (by decide) (lc_scale hlt hX hi hl hS hLW hce kk)
  · exact lv_tableIn (off := 592) (tgt := 636) hx hb dS_law (by decide) (by decide) rfl (by decide) (lc_wedge hlt hX hi hl hS hLW hce kk)
  · exact lv_tableIn (off := 672) (tgt := 716) hx hb dS_law (by decide) (by decide) rfl (by decide) (lc_contract hlt hX hi hl hS hLW hce kk)
  · exact lv_tableIn (off := 752) (tgt := 796) hx hb dS_law (by decide) (by decide) rfl (by decide) (lc_star hlt hX hi hl hS hLW hce kk)
  · exact lv_tableIn (off := 820) (tgt := 864) hx hb dS_law (by decide) (by decide) rfl (by decide) (lc_part hlt hX hi hl hS hLW hce kk)
  · exact lv_tableIn (off := 900) (tgt := 944) hx hb dS_law (by decide) (by decide) rfl (by decide) (lc_reverse hlt hX hi hl hS hLW hce kk)
  · exact lv_tableIn (off := 968) (tgt := 1012) hx hb dS_law (by decide) (by decide) rfl (by decide) (lc_push hlt hX hi hl hS hLW hce kk)
  · exact lv_tableIn (off := 1036) (tgt := 1080) hx hb dS_law (by decide) (by decide) rfl (by decide) (lc_append hlt hX hi hl hS hLW hce kk)
  · exact lv_tableIn (off := 1092) (tgt := 1136) hx hb dS_law (by decide) (by decide) rfl (by decide) (lc_clearBuffer hX hl hS hLW hce0 kk0)
  · exact lv_tableIn (off := 1105) (tgt := 1149) hx hb dS_law (by decide) (by decide) rfl (by decide) (lc_firstError hX hl hS hLW hce0 kk0)
  · exact lv_tableIn (off := 1118) (tgt := 1162) hx hb dS_law (by decide) (by decide) rfl (by decide) (lc_put hlt hX hi hl hS hLW hce kk)
  · exact lv_tableIn (off := 1174) (tgt := 1218) hx hb dS_law (by decide) (by decide) rfl (by decide) (lc_take hlt hX hi hl hS hLW hce kk)
  · exact lv_tableIn (off := 1230) (tgt := 1274) hx hb dS_law (by decide) (by decide) rfl (by decide) (lc_restore hlt hX hi hl hS hLW hce kk)
  · exact lv_tableIn (off := 1286) (tgt := 1330) hx hb dS_law (by decide) (by decide) rfl (by decide) (lc_undo hlt hX hi hl hS hLW hce kk)
  · exact lv_tableIn (off := 1330) (tgt := 1374) hx hb dS_law (by decide) (by decide) rfl (by decide) (lc_coefficient hlt hX hi hl hS hLW hce kk)
  · exact lv_tableIn (off := 1398) (tgt := 1442) hx hb dS_law (by decide) (by decide) rfl (by decide) (lc_form hlt hX hi hl hS hLW hce kk)
  · exact lv_tableIn (off := 1466) (tgt := 1510) hx hb dS_law (by decide) (by decide) rfl (by decide) (lc_inner hlt hX hi hl hS hLW hce kk)
  · exact lv_tableIn (off := 1533) (tgt := 1577) hx hb dS_law (by decide) (by decide) rfl (by decide) (lc_decomposable hlt hX hi hl hS hLW hce kk)
  · exact lv_tableIn (off := 1601) (tgt := 1645) hx hb dS_law (by decide) (by decide) rfl (by decide) (lc_factor hlt hX hi hl hS hLW hce kk)
  · exact lv_tableIn (off := 1681) (tgt := 1725) hx hb dS_law (by decide) (by decide) rfl (by decide) (lc_annihilator hlt hX hi hl hS hLW hce kk)
  · exact lv_tableIn (off := 1737) (tgt := 1781) hx hb dS_law (by decide) (by decide) rfl (by decide) (lc_basis hlt hX hi hl hS hLW hce kk)
  · exact lv_tableIn (off := 1817) (tgt := 1861) hx hb dS_law (by decide) (by decide) rfl (by decide) (lc_refused hlt hX hi hl hS hLW hce kk)
  · exact lv_tableIn (off := 1897) (tgt := 1941) hx hb dS_law (by decide) (by decide) rfl (by decide) (lc_compare hlt hX hi hl hS hLW hce kk)
  · exact lv_tableIn (off := 1965) (tgt := 2009) hx hb dS_law (by decide) (by decide) rfl (by decide) (lc_count hlt hX hi hl hS hLW hce kk)
  · exact lv_tableIn (off := 2021) (tgt := 2065) hx hb dS_law (by decide) (by decide) rfl (by decide) (lc_matrixAt hlt hX hi hl hS hLW hce kk)
  · exact lv_tableIn (off := 2089) (tgt := 2133) hx hb dS_law (by decide) (by decide) rfl (by decide) (lc_density hlt hX hi hl hS hLW hce kk)
  · exact lv_tableIn (off := 2167) (tgt := 2211) hx hb dS_law (by decide) (by decide) rfl (by decide) (lc_share hlt hX hi hl hS hLW hce kk)
  · exact lv_tableIn (off := 2256) (tgt := 2300) hx hb dS_law (by decide) (by decide) rfl (by decide) (lc_digest hX hl hS hLW hce0 kk0)
  · exact lv_tableOut (tgt := 2314) hx hb dS_law (Or.inr (by rw [nI_toInt (by omega)]; omega)) (by decide) (kk0 I L J M w v H locs ls hS hLW hl)
set_option maxHeartbeats 4000000 in
theorem law_loop (hlt : l.stackTraces = false) (hX : LX p s m c D cy b Ln xs) (hr : meth.sig.returnType = ret) (hlocks : meth.locks = false) : ∀ (k i : Nat) (I J : IM) (L M : LM) (w : Int64) (v : UInt64) (H : Heap) (locs : List Loc) (ls : Array Slot) (cells slots : Nat), Ln < i + 4 * k + 4 → i ≤ Ln → cells + k ≤ 2000 → slots + 6 * k ≤ 20000 → SimE I J → LW D cy s.heap.size I L J M w v s.heap H locs → lv_has ls 9 (LVs b s.heap.size i) → W p l e room_1 s m #[.ref b] below meth c H locs cells slots (lw_Z below #[Value.ref b] s) (F0 m 28 ls []) := by
  intro k
  obtain ⟨hB, hE, hXs, hbl, hLn⟩ := id hX
  obtain ⟨hx, hb, -⟩ := id hB
  induction k with
  | zero =>
    intro i I J L M w v H locs ls cells slots hk hi hc1 hc2 hS hLW hl
    refine lv_iload hx hb (show decode code 28 = .ok (.iload 5, 2) by decide +kernel) (lv_at hl 0 rfl) ?_
    refine lv_aload_n hx hb (show decode code 30 = .ok (.aload_n 0, 1) by decide +kernel) rfl (lv_at hl 5 rfl) ?_
    refine va_slen (A := fun q => s.heap.size ≤ q) hx hb hXs hbl (Nat.not_le.mpr hbl) hLW.2.2.2.2 (show decode code 31 = .ok (.arraylength, 1) by decide +kernel) ?_
    refine lv_iconst (v := 4) hx hb (show decode code 32 = .ok (.iconst 4, 1) by decide +kernel) (by decide) ?_
    refine lv_isub hx hb (show decode code 33 = .ok (.isub, 1) by decide +kernel) ?_
    refine lv_icmp_gt (tgt := 2320) hx hb (show decode code 34 = .ok (.if_icmp .gt 2286, 3) by decide +kernel) (by decide) (fun _ => law_end hx hb hr hlocks hLW.2.2.2.2 ⟨by omega, by omega⟩) (fun hf => absurd (Int32.lt_iff_toInt_lt.mpr ?_) hf)
    rw [sub4 hLn, nI_toInt (by omega)]
    omega
  | succ k ih =>
    intro i I J L M w v H locs ls cells slots hk hi hc1 hc2 hS hLW hl
    refine lv_iload hx hb (show decode code 28 = .ok (.iload 5, 2) by decide +kernel) (lv_at hl 0 rfl) ?_
    refine lv_aload_n hx hb (show decode code 30 = .ok (.aload_n 0, 1) by decide +kernel) rfl (lv_at hl 5 rfl) ?_
    refine va_slen (A := fun q => s.heap.size ≤ q) hx hb hXs hbl (Nat.not_le.mpr hbl) hLW.2.2.2.2 (show decode code 31 = .ok (.arraylength, 1) by decide +kernel) ?_
    refine lv_iconst (v := 4) hx hb (show decode code 32 = .ok (.iconst 4, 1) by decide +kernel) (by decide) ?_
    refine lv_isub hx hb (show decode code 33 = .ok (.isub, 1) by decide +kernel) ?_
    refine lv_icmp_gt (tgt := 2320) hx hb (show decode code 34 = .ok (.if_icmp .gt 2286, 3) by decide +kernel) (by decide) (fun _ => law_end hx hb hr hlocks hLW.2.2.2.2 ⟨by omega, by omega⟩) (fun hf => ?_)
    have hi4 : i + 4 ≤ Ln := by
      by_cases e : i + 4 ≤ Ln
      · exact e
      · refine absurd (Int32.lt_iff_toInt_lt.mpr ?_) hf
        rw [sub4 hLn, nI_toInt (by omega)]
        omega
    refine lv_aload_n hx hb (show decode code 37 = .ok (.aload_n 0, 1) by decide +kernel) rfl (lv_at hl 5 rfl) ?_
    refine lv_iload hx hb (show decode code 38 = .ok (.iload 5, 2) by decide +kernel) (lv_at hl 0 rfl) ?_
    refine va_sld (A := fun q => s.heap.size ≤ q) hx hb hXs hbl (Nat.not_le.mpr hbl) hLW.2.2.2.2 (vp_in_nI (show i < Ln by omega) (by omega)) (show decode code 40 = .ok (.iaload, 1) by decide +kernel) ?_
    refine lv_bipush (v := 63) hx hb (show decode code 41 = .ok (.bipush 63, 2) by decide +kernel) (by decide) ?_
    refine lv_iand hx hb (show decode code 43 = .ok (.iand, 1) by decide +kernel) ?_
    obtain ⟨j, hj, ej⟩ := and63 (xs (nI i).toNatClampNeg)
    rw [ej]
    refine law_case hlt hX hi4 hl hS hLW ⟨by omega, by omega⟩ hj (fun I2 L2 J2 M2 w2 v2 H1 locs1 ls1 a1 a2 a3 => ?_)
    refine lv_iinc (k := 0) (v := nI (i + 4)) (lv' := LVs b s.heap.size (i + 4)) hx hb (show decode code 2314 = .ok (.iinc 5 4, 3) by decide +kernel) a3 rfl (by rw [show Int32.ofInt 4 = nI 4 by decide, nI_add]) (by decide) rfl (fun ls2 hl2 => ?_)
    exact lv_goto (tgt := 28) hx hb (show decode code 2317 = .ok (.goto (-2289), 3) by decide +kernel) (by decide) (ih (i + 4) I2 J2 L2 M2 w2 v2 H1 locs1 ls2 (cells + 1) (slots + 6) (by omega) hi4 (by omega) (by omega) a1 a2 hl2)
end LL
