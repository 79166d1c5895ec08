/-! THE LAW: reading the script, what both sides said -/
theorem sVL8_thrown : SitV RL 122 yX8_thrown cX8_thrown 1 (some .int) 0 := ⟨⟨(wb_4 204 (by decide +kernel) rfl), (wb_4 205 (by decide +kernel) rfl), (wb_4 206 (by decide +kernel) rfl), (wb_1 6 (by decide +kernel) rfl), (wb_4 207 (by decide +kernel) rfl)⟩, by decide +kernel⟩
section LC
variable {p : Program} {l : Launch} {e : Env} {R : Room} {s : State} {m : MethodId} {args : Array Value} {below : List Frame} {meth : Method} {c : Code} {Q : State → Prop} {cc : ByteArray} {nL : Nat} {D : va_G} {cy : Nat → ClassId} {I J : IM} {L M : LM} {w : Int64} {v : UInt64} {h : Nat} {H : Heap} {locs : List Loc} {cells slots pc : Nat} {ls : Array Slot} {rest : List Value}
theorem lw_ld {i k b Ln : Nat} {xs : Nat → Int32} (hB : Bx p s m args c cc nL RL D cy) (hX : va_X b Ln xs s s.heap) (hbl : b < s.heap.size) (hbA : ¬ h ≤ b) (hS : va_S (fun q => h ≤ q) s.heap H locs) (hl0 : ls[0]? = some (.val (.ref b))) (hl5 : ls[5]? = some (.val (.int (nI i)))) (hin : i + k < Ln) (hLn : Ln ≤ 2048) (d0 : decode cc pc = .ok (.aload_n 0, 1)) (d1 : decode cc (pc + 1) = .ok (.iload 5, 2)) (d2 : decode cc (pc + 3) = .ok (.iconst (k : Int), 1)) (d3 : decode cc (pc + 4) = .ok (.iadd, 1)) (d4 : decode cc (pc + 5) = .ok (.iaload, 1))
    (kk : W p l e R s m args below meth c H locs cells slots Q (F0 m (pc + 6) ls (.int (xs (i + k)) :: rest))) : W p l e R s m args below meth c H locs cells slots Q (F0 m pc ls rest) := by
  obtain ⟨hx, hb, -⟩ := hB
  refine lv_aload_n hx hb d0 rfl hl0 ?_
  refine lv_iload hx hb d1 hl5 ?_
  refine lv_iconst (v := nI k) hx hb d2 rfl ?_
  refine lv_iadd hx hb d3 ?_
  rw [nI_add]
  refine va_sld (A := fun q => h ≤ q) hx hb hX hbl hbA hS (vp_in_nI hin (by omega)) d4 ?_
  rw [show (nI (i + k)).toNatClampNeg = i + k from nI_clamp (by omega)]
  exact kk
/-- the two sides' answers, held against each other -/
theorem lw_C {code : Nat} {y : Int32} {off : Int} {tgt : Nat} (hB : Bx p s m args c cc nL RL D cy) (hLW : LW D cy h I L J M w v s.heap H locs) (hls : ls.size = nL) (l2 : ls[2]? = some (.val (.ref (h + 181)))) (l3 : ls[3]? = some (.val (.ref (h + 193)))) (l6 : ls[6]? = some (.val (.int (nI code)))) (l7 : ls[7]? = some (.val (.int y))) (h7 : J 0 7 = nI code) (hc31 : code < 100) (hy : code = 0 → w = y.toInt64) (hR : 1 ≤ R.frames ∧ 20 ≤ R.locals) (hce : cells ≤ R.cells ∧ slots ≤ R.slots)
    (d0 : decode cc pc = .ok (.aload_n 2, 1)) (d1 : decode cc (pc + 1) = .ok (.invokevirtual 122, 3)) (d2 : decode cc (pc + 4) = .ok (.iload 6, 2)) (d3 : decode cc (pc + 6) = .ok (.if_icmp .eq 5, 3)) (d4 : decode cc (pc + 11) = .ok (.iload 6, 2)) (d5 : decode cc (pc + 13) = .ok (.ifCond .ne 15, 3)) (d6 : decode cc (pc + 16) = .ok (.aload_n 3, 1)) (d7 : decode cc (pc + 17) = .ok (.iconst 0, 1)) (d8 : decode cc (pc + 18) = .ok (.laload, 1)) (d9 : decode cc (pc + 19) = .ok (.iload 7, 2)) (da : decode cc (pc + 21) = .ok (.i2l, 1)) (db : decode cc (pc + 22) = .ok (.lcmp, 1)) (dc : decode cc (pc + 23) = .ok (.ifCond .eq 5, 3)) (dd : decode cc (pc + 28) = .ok (.goto off, 3)) (ht : ((pc + 28 : Nat) : Int) + off = (tgt : Int))
    (kk : ∀ (H1 : Heap) (locs1 : List Loc), LW D cy h I L J M w v s.heap H1 locs1 → W p l e R s m args below meth c H1 locs1 cells slots Q (F0 m tgt ls [])) : W p l e R s m args below meth c H locs cells slots Q (F0 m pc ls []) := by
  obtain ⟨hx, hb, hml, hown, hts, hK⟩ := id hB
  refine lv_aload_n hx hb d0 rfl l2 ?_
  refine lw_B (av := []) (rest := []) (val := .int (J 0 7)) (ret := some .int) hB hLW rfl sVL8_thrown rfl rfl (qX8_thrown l J M) ⟨rfl, rfl, by show 0 + 1 ≤ R.frames; omega, by show 8 + (1 + 11) + 0 ≤ R.locals; omega⟩ hce hls (Nat.le_of_ble_eq_true rfl) d1 (fun H1 locs1 hLW1 => ?_)
  rw [h7]
  refine lv_iload hx hb d2 l6 ?_
  refine lv_icmp_eq (tgt := pc + 11) hx hb d3 (by omega) (fun _ => ?_) (fun hf => absurd rfl hf)
  refine lv_iload hx hb d4 l6 ?_
  have fin : W p l e R s m args below meth c H1 locs1 cells slots Q (F0 m (pc + 28) ls []) := lv_goto hx hb dd ht (kk H1 locs1 hLW1)
  by_cases e0 : code = 0
  · refine lv_if_ne (tgt := pc + 28) hx hb d5 (by omega) (fun _ => fin) (fun _ => ?_)
    refine lv_aload_n hx hb d6 rfl l3 ?_
    refine lv_iconst (v := 0) hx hb d7 (by decide) ?_
    have hin0 : ¬ ((0 : Int32) < 0 ∨ (vp_cell (cy 1) (1, .inr (.inl fun _ => w))).slots.size ≤ (0 : Int32).toNatClampNeg) := by
      rintro (q | q)
      · exact absurd q (by decide)
      · rw [show (vp_cell (cy 1) (1, .inr (.inl fun _ => w))) = arrV (cy 1) 1 (fun _ => .long w) from rfl, arrV_size] at q
        exact absurd q (by decide)
    refine W.lald (v := .long w) hx hb hLW1.2.2.1 ((hK.2 1 (cy 1, .long) rfl).1 1 (fun _ => .long w)) (fun q => by cases q) hin0 (arrV_read (cy 1) (N := 1) (fun _ => .long w) (by decide)) rfl rfl d8 ?_
    refine W.eq (g2 := F0 m (pc + 19) ls [.long w]) rfl ?_
    refine lv_iload hx hb d9 l7 ?_
    refine lv_i2l hx hb (v := w) da (hy e0).symm ?_
    refine W.lcmp hx hb db ?_
    rw [(lg_cmp_eq w w).mpr rfl]
    exact lv_if_eq (tgt := pc + 28) hx hb dc (by omega) (fun _ => fin) (fun hf => absurd rfl hf)
  · exact lv_if_ne (tgt := pc + 28) hx hb d5 (by omega) (fun _ => fin) (fun hf => by
      first
        | exact absurd ((nI_eq (show code < 2 ^ 31 by omega) (by decide)).mp hf) e0
        | exact absurd hf (fun z => z (fun q => e0 ((nI_eq (show code < 2 ^ 31 by omega) (by decide)).mp q))))
end LC
