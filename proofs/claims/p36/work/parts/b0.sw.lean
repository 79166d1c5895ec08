/-! THE LAW: its own body by the small machine, beside what it has made -/
def VW (ce sl : Nat) (p : Program) (l : Launch) (e : Env) (R : Room) (s : State) (m : MethodId) (args : Array Value) (below : List Frame) (meth : Method) (c : Code) (Q : State → Prop) (nL : Nat) (D : va_G) (cy : Nat → ClassId) (kd : KdT) (ad : Nat → Nat) (N : Nat) (pc : Nat) (lv : LV) (st : List Value) (I : IM) (L : LM) : Prop :=
  ∀ (H : Heap) (locs : List Loc) (ls : Array Slot), wd D cy kd ad N I L H → va_S (AA ad N) s.heap H locs → lv_has ls nL (lv.map fun q => (q.1, cz ad q.2)) → W p l e R s m args below meth c H locs ce sl Q (F0 m pc ls (st.map (cz ad)))
section SNDW
variable {ce sl : Nat} {p : Program} {l : Launch} {e : Env} {R : Room} {s : State} {m : MethodId} {args : Array Value} {below : List Frame} {meth : Method} {c : Code} {Q : State → Prop} {cc : ByteArray} {nL : Nat} {own : String} {D : va_G} {cy : Nat → ClassId} {kd : KdT} {ad : Nat → Nat} {N : Nat} {E : List Value → IM → LM → Prop}
set_option maxHeartbeats 4000000 in
theorem stp_okW {F : Ft} {k : Kt} (hC : Cx p s m args c cc nL own D cy kd ad N) (hF : FOK own F)
    {ret : Option FieldType} (hret : ∀ (pc : Nat) (ins : Instr) (lv : LV) (st : List Value) (I : IM) (L : LM), decode cc pc = .ok (ins, 1) → retB ret ins = true → ((ins = .ireturn ∧ ∃ x, st = [.int x]) ∨ (ins = .lreturn ∧ ∃ x, st = [.long x]) ∨ (ins = .freturn ∧ ∃ x, st = [.float x]) ∨ (ins = .dreturn ∧ ∃ x, st = [.double x]) ∨ (ins = .return_ ∧ st = [])) → E st I L → VW ce sl p l e R s m args below meth c Q nL D cy kd ad N pc lv st I L)
    (hk : ∀ ds O pc lv st I L, pc < RET → Res (VW ce sl p l e R s m args below meth c Q nL D cy kd ad N) E O (k ds O pc lv st I L) (VW ce sl p l e R s m args below meth c Q nL D cy kd ad N pc lv st I L))
    {ins : Instr} {pc np tg : Nat} {cv : Value} (hi : InsOK cc own pc ins np tg cv) (hloc : locB nL ins = true) (hrb : retB ret ins = true) (ds : List (Nat × Nat)) (O : Prop) (lv : LV) (st : List Value) (I : IM) (L : LM) :
    Res (VW ce sl p l e R s m args below meth c Q nL D cy kd ad N) E O (stp kd F k ins np tg cv ds O pc lv st I L) (VW ce sl p l e R s m args below meth c Q nL D cy kd ad N pc lv st I L) := by
  obtain ⟨hd, hnp, hbt, hcv, hpc, hnr, htr⟩ := hi
  have hx := hC.1
  have hb := hC.2.1
  have hown := hC.2.2.2.1
  have hts := hC.2.2.2.2.1
  have hK := hC.2.2.2.2.2.1
  have hinj := hC.2.2.2.2.2.2.1
  have hkd := hC.2.2.2.2.2.2.2
  cases ins with
  | iconst n =>
    simp only [cvB, decide_eq_true_eq] at hcv
    subst hnp
    subst hcv
    exact res_pl (hk _ _ _ _ _ _ _ hnr) (fun hv H locs ls hW hS hl => lv_iconst hx hb hd rfl (hv H locs ls hW hS hl))
  | bipush n =>
    simp only [cvB, decide_eq_true_eq] at hcv
    subst hnp
    subst hcv
    exact res_pl (hk _ _ _ _ _ _ _ hnr) (fun hv H locs ls hW hS hl => lv_bipush hx hb hd rfl (hv H locs ls hW hS hl))
  | sipush n =>
    simp only [cvB, decide_eq_true_eq] at hcv
    subst hnp
    subst hcv
    exact res_pl (hk _ _ _ _ _ _ _ hnr) (fun hv H locs ls hW hS hl => lv_sipush hx hb hd rfl (hv H locs ls hW hS hl))
  | lconst n =>
    simp only [cvB, decide_eq_true_eq] at hcv
    subst hnp
    subst hcv
    exact res_pl (hk _ _ _ _ _ _ _ hnr) (fun hv H locs ls hW hS hl => lv_lconst hx hb hd rfl (hv H locs ls hW hS hl))
  | fconst n =>
    simp only [cvB, Bool.or_eq_true, decide_eq_true_eq] at hcv
    subst hnp
    rcases hcv with (⟨rfl, rfl⟩ | ⟨rfl, rfl⟩) | ⟨rfl, rfl⟩
    · exact res_pl (hk _ _ _ _ _ _ _ hnr) (fun hv H locs ls hW hS hl => lv_fconst0 hx hb hd (hv H locs ls hW hS hl))
    · exact res_pl (hk _ _ _ _ _ _ _ hnr) (fun hv H locs ls hW hS hl => lv_fconst1 hx hb hd (hv H locs ls hW hS hl))
    · exact res_pl (hk _ _ _ _ _ _ _ hnr) (fun hv H locs ls hW hS hl => lv_fconst2 hx hb hd (hv H locs ls hW hS hl))
  | dconst n =>
    simp only [cvB, Bool.or_eq_true, decide_eq_true_eq] at hcv
    subst hnp
    rcases hcv with ⟨rfl, rfl⟩ | ⟨rfl, rfl⟩
    · exact res_pl (hk _ _ _ _ _ _ _ hnr) (fun hv H locs ls hW hS hl => lv_dconst0 hx hb hd (hv H locs ls hW hS hl))
    · exact res_pl (hk _ _ _ _ _ _ _ hnr) (fun hv H locs ls hW hS hl => lv_dconst1 hx hb hd (hv H locs ls hW hS hl))
  | ldc ix =>
    subst hnp
    cases cv with
    | int v =>
      simp only [cvB, decide_eq_true_eq] at hcv
      exact res_pl (hk _ _ _ _ _ _ _ hnr) (fun hv H locs ls hW hS hl => lv_ldc hx hb hown (hts _ hcv) hd (hv H locs ls hW hS hl))
    | float v =>
      simp only [cvB, decide_eq_true_eq] at hcv
      exact res_pl (hk _ _ _ _ _ _ _ hnr) (fun hv H locs ls hW hS hl => lv_ldcf hx hb hown (hts _ hcv) hd (hv H locs ls hW hS hl))
    | _ => simp [cvB] at hcv
  | ldc_w ix =>
    subst hnp
    cases cv with
    | int v =>
      simp only [cvB, decide_eq_true_eq] at hcv
      exact res_pl (hk _ _ _ _ _ _ _ hnr) (fun hv H locs ls hW hS hl => lv_ldcw hx hb hown (hts _ hcv) hd (hv H locs ls hW hS hl))
    | _ => simp [cvB] at hcv
  | ldc2_w ix =>
    subst hnp
    cases cv with
    | long v =>
      simp only [cvB, decide_eq_true_eq] at hcv
      exact res_pl (hk _ _ _ _ _ _ _ hnr) (fun hv H locs ls hW hS hl => lv_ldc2 hx hb hown (hts _ hcv) hd (hv H locs ls hW hS hl))
    | double v =>
      simp only [cvB, decide_eq_true_eq] at hcv
      exact res_pl (hk _ _ _ _ _ _ _ hnr) (fun hv H locs ls hW hS hl => lv_ldc2d hx hb hown (hts _ hcv) hd (hv H locs ls hW hS hl))
    | _ => simp [cvB] at hcv
  | iload i =>
    subst hnp
    simp only [stp]
    split
    · next x hg => exact res_pl (hk _ _ _ _ _ _ _ hnr) (fun hv H locs ls hW hS hl => lv_iload hx hb hd (gl_get (nL := nL) hg hl.2.2) (hv H locs ls hW hS hl))
    · exact res_stuck hpc
  | lload i =>
    subst hnp
    simp only [stp]
    split
    · next x hg => exact res_pl (hk _ _ _ _ _ _ _ hnr) (fun hv H locs ls hW hS hl => lv_lload hx hb hd (gl_get (nL := nL) hg hl.2.2) (hv H locs ls hW hS hl))
    · exact res_stuck hpc
  | aload i =>
    subst hnp
    simp only [stp]
    split
    · next x hg => exact res_pl (hk _ _ _ _ _ _ _ hnr) (fun hv H locs ls hW hS hl => lv_aload hx hb hd (gl_get (nL := nL) hg hl.2.2) (hv H locs ls hW hS hl))
    · exact res_stuck hpc
  | iload_n i =>
    subst hnp
    simp only [stp]
    split
    · next x hg => exact res_pl (hk _ _ _ _ _ _ _ hnr) (fun hv H locs ls hW hS hl => lv_iload_n hx hb hd rfl (gl_get (nL := nL) hg hl.2.2) (hv H locs ls hW hS hl))
    · exact res_stuck hpc
  | lload_n i =>
    subst hnp
    simp only [stp]
    split
    · next x hg => exact res_pl (hk _ _ _ _ _ _ _ hnr) (fun hv H locs ls hW hS hl => lv_lload_n hx hb hd rfl (gl_get (nL := nL) hg hl.2.2) (hv H locs ls hW hS hl))
    · exact res_stuck hpc
  | fload_n i =>
    subst hnp
    simp only [stp]
    split
    · next x hg => exact res_pl (hk _ _ _ _ _ _ _ hnr) (fun hv H locs ls hW hS hl => lv_fload_n hx hb hd rfl (gl_get (nL := nL) hg hl.2.2) (hv H locs ls hW hS hl))
    · exact res_stuck hpc
  | dload_n i =>
    subst hnp
    simp only [stp]
    split
    · next x hg => exact res_pl (hk _ _ _ _ _ _ _ hnr) (fun hv H locs ls hW hS hl => lv_dload_n hx hb hd rfl (gl_get (nL := nL) hg hl.2.2) (hv H locs ls hW hS hl))
    · exact res_stuck hpc
  | aload_n i =>
    subst hnp
    simp only [stp]
    split
    · next x hg => exact res_pl (hk _ _ _ _ _ _ _ hnr) (fun hv H locs ls hW hS hl => lv_aload_n hx hb hd rfl (gl_get (nL := nL) hg hl.2.2) (hv H locs ls hW hS hl))
    · exact res_stuck hpc
  | istore i =>
    subst hnp
    simp only [stp]
    split
    · obtain ⟨lv1, e1, e2⟩ := sl1_ok _ _ lv _
      rw [e1]
      refine res_pl (hk _ _ _ _ _ _ _ hnr) (fun hv H locs ls hW hS hl => lv_istore hx hb hd hl (by simpa [locB] using hloc) rfl (fun ls1 hl1 => hv H locs ls1 hW hS (lvOK1_has (ad := ad) e2 hl1)))
    · exact res_stuck hpc
  | astore i =>
    subst hnp
    simp only [stp]
    split
    · obtain ⟨lv1, e1, e2⟩ := sl1_ok _ _ lv _
      rw [e1]
      refine res_pl (hk _ _ _ _ _ _ _ hnr) (fun hv H locs ls hW hS hl => lv_astore hx hb hd hl (by simpa [locB] using hloc) rfl (fun ls1 hl1 => hv H locs ls1 hW hS (lvOK1_has (ad := ad) e2 hl1)))
    · exact res_stuck hpc
  | istore_n i =>
    subst hnp
    simp only [stp]
    split
    · obtain ⟨lv1, e1, e2⟩ := sl1_ok _ _ lv _
      rw [e1]
      refine res_pl (hk _ _ _ _ _ _ _ hnr) (fun hv H locs ls hW hS hl => lv_istore_n hx hb hd rfl hl (by simpa [locB] using hloc) rfl (fun ls1 hl1 => hv H locs ls1 hW hS (lvOK1_has (ad := ad) e2 hl1)))
    · exact res_stuck hpc
  | astore_n i =>
    subst hnp
    simp only [stp]
    split
    · obtain ⟨lv1, e1, e2⟩ := sl1_ok _ _ lv _
      rw [e1]
      refine res_pl (hk _ _ _ _ _ _ _ hnr) (fun hv H locs ls hW hS hl => lv_astore_n hx hb hd rfl hl (by simpa [locB] using hloc) rfl (fun ls1 hl1 => hv H locs ls1 hW hS (lvOK1_has (ad := ad) e2 hl1)))
    · exact res_stuck hpc
  | fstore_n i =>
    subst hnp
    simp only [stp]
    split
    · obtain ⟨lv1, e1, e2⟩ := sl1_ok _ _ lv _
      rw [e1]
      refine res_pl (hk _ _ _ _ _ _ _ hnr) (fun hv H locs ls hW hS hl => lv_fstore_n hx hb hd rfl hl (by simpa [locB] using hloc) rfl (fun ls1 hl1 => hv H locs ls1 hW hS (lvOK1_has (ad := ad) e2 hl1)))
    · exact res_stuck hpc
  | lstore i =>
    subst hnp
    simp only [stp]
    split
    · obtain ⟨lv1, e1, e2⟩ := sl2_ok _ _ lv _
      rw [e1]
      refine res_pl (hk _ _ _ _ _ _ _ hnr) (fun hv H locs ls hW hS hl => lv_lstore hx hb hd hl (by simpa [locB] using hloc) rfl (fun ls1 hl1 => hv H locs ls1 hW hS (lvOK2_has (ad := ad) e2 hl1)))
    · exact res_stuck hpc
  | lstore_n i =>
    subst hnp
    simp only [stp]
    split
    · obtain ⟨lv1, e1, e2⟩ := sl2_ok _ _ lv _
      rw [e1]
      refine res_pl (hk _ _ _ _ _ _ _ hnr) (fun hv H locs ls hW hS hl => lv_lstore_n hx hb hd rfl hl (by simpa [locB] using hloc) rfl (fun ls1 hl1 => hv H locs ls1 hW hS (lvOK2_has (ad := ad) e2 hl1)))
    · exact res_stuck hpc
  | dstore_n i =>
    subst hnp
    simp only [stp]
    split
    · obtain ⟨lv1, e1, e2⟩ := sl2_ok _ _ lv _
      rw [e1]
      refine res_pl (hk _ _ _ _ _ _ _ hnr) (fun hv H locs ls hW hS hl => lv_dstore_n hx hb hd rfl hl (by simpa [locB] using hloc) rfl (fun ls1 hl1 => hv H locs ls1 hW hS (lvOK2_has (ad := ad) e2 hl1)))
    · exact res_stuck hpc
  | iinc i n =>
    subst hnp
    simp only [cvB, decide_eq_true_eq] at hcv
    subst hcv
    simp only [stp]
    split
    · next x hg =>
      obtain ⟨lv1, e1, e2⟩ := sl1_ok i (.int (x + Int32.ofInt n)) lv (fun lv1 => k ds O (pc + ilen (.iinc i n)) lv1 st I L)
      rw [e1]
      refine res_pl (hk _ _ _ _ _ _ _ hnr) (fun hv H locs ls hW hS hl => iinc_row hx hb hd hl (gl_get (nL := nL) hg hl.2.2) (by simpa [locB] using hloc) (fun ls1 hl1 => hv H locs ls1 hW hS (lvOK1_has (ad := ad) e2 hl1)))
    · exact res_stuck hpc
  | iadd =>
    subst hnp
    simp only [stp]
    split
    · exact res_pl (hk _ _ _ _ _ _ _ hnr) (fun hv H locs ls hW hS hl => lv_iadd hx hb hd (hv H locs ls hW hS hl))
    · exact res_stuck hpc
  | isub =>
    subst hnp
    simp only [stp]
    split
    · exact res_pl (hk _ _ _ _ _ _ _ hnr) (fun hv H locs ls hW hS hl => lv_isub hx hb hd (hv H locs ls hW hS hl))
    · exact res_stuck hpc
  | imul =>
    subst hnp
    simp only [stp]
    split
    · exact res_pl (hk _ _ _ _ _ _ _ hnr) (fun hv H locs ls hW hS hl => lv_imul hx hb hd (hv H locs ls hW hS hl))
    · exact res_stuck hpc
  | iand =>
    subst hnp
    simp only [stp]
    split
    · exact res_pl (hk _ _ _ _ _ _ _ hnr) (fun hv H locs ls hW hS hl => lv_iand hx hb hd (hv H locs ls hW hS hl))
    · exact res_stuck hpc
  | ior =>
    subst hnp
    simp only [stp]
    split
    · exact res_pl (hk _ _ _ _ _ _ _ hnr) (fun hv H locs ls hW hS hl => lv_ior hx hb hd (hv H locs ls hW hS hl))
    · exact res_stuck hpc
  | ixor =>
    subst hnp
    simp only [stp]
    split
    · exact res_pl (hk _ _ _ _ _ _ _ hnr) (fun hv H locs ls hW hS hl => lv_ixor hx hb hd (hv H locs ls hW hS hl))
    · exact res_stuck hpc
  | ishl =>
    subst hnp
    simp only [stp]
    split
    · exact res_pl (hk _ _ _ _ _ _ _ hnr) (fun hv H locs ls hW hS hl => lv_ishl hx hb hd (hv H locs ls hW hS hl))
    · exact res_stuck hpc
  | ishr =>
    subst hnp
    simp only [stp]
    split
    · exact res_pl (hk _ _ _ _ _ _ _ hnr) (fun hv H locs ls hW hS hl => lv_ishr hx hb hd (hv H locs ls hW hS hl))
    · exact res_stuck hpc
  | ineg =>
    subst hnp
    simp only [stp]
    split
    · exact res_pl (hk _ _ _ _ _ _ _ hnr) (fun hv H locs ls hW hS hl => lv_ineg hx hb hd (hv H locs ls hW hS hl))
    · exact res_stuck hpc
  | ladd =>
    subst hnp
    simp only [stp]
    split
    · exact res_pl (hk _ _ _ _ _ _ _ hnr) (fun hv H locs ls hW hS hl => lv_ladd hx hb hd (hv H locs ls hW hS hl))
    · exact res_stuck hpc
  | lsub =>
    subst hnp
    simp only [stp]
    split
    · exact res_pl (hk _ _ _ _ _ _ _ hnr) (fun hv H locs ls hW hS hl => lv_lsub hx hb hd (hv H locs ls hW hS hl))
    · exact res_stuck hpc
  | lmul =>
    subst hnp
    simp only [stp]
    split
    · exact res_pl (hk _ _ _ _ _ _ _ hnr) (fun hv H locs ls hW hS hl => lv_lmul hx hb hd (hv H locs ls hW hS hl))
    · exact res_stuck hpc
  | lneg =>
    subst hnp
    simp only [stp]
    split
    · exact res_pl (hk _ _ _ _ _ _ _ hnr) (fun hv H locs ls hW hS hl => lv_lneg hx hb hd (hv H locs ls hW hS hl))
    · exact res_stuck hpc
  | i2f =>
    subst hnp
    simp only [stp]
    split
    · exact res_pl (hk _ _ _ _ _ _ _ hnr) (fun hv H locs ls hW hS hl => lv_i2f hx hb hd (hv H locs ls hW hS hl))
    · exact res_stuck hpc
  | i2d =>
    subst hnp
    simp only [stp]
    split
    · exact res_pl (hk _ _ _ _ _ _ _ hnr) (fun hv H locs ls hW hS hl => lv_i2d hx hb hd (hv H locs ls hW hS hl))
    · exact res_stuck hpc
  | l2d =>
    subst hnp
    simp only [stp]
    split
    · exact res_pl (hk _ _ _ _ _ _ _ hnr) (fun hv H locs ls hW hS hl => lv_l2d hx hb hd (hv H locs ls hW hS hl))
    · exact res_stuck hpc
  | f2i =>
    subst hnp
    simp only [stp]
    split
    · exact res_pl (hk _ _ _ _ _ _ _ hnr) (fun hv H locs ls hW hS hl => lv_f2i hx hb hd (hv H locs ls hW hS hl))
    · exact res_stuck hpc
  | d2l =>
    subst hnp
    simp only [stp]
    split
    · exact res_pl (hk _ _ _ _ _ _ _ hnr) (fun hv H locs ls hW hS hl => lv_d2l hx hb hd (hv H locs ls hW hS hl))
    · exact res_stuck hpc
  | iushr =>
    subst hnp
    simp only [stp]
    split
    · exact res_pl (hk _ _ _ _ _ _ _ hnr) (fun hv H locs ls hW hS hl => lv_iushr hx hb hd rfl (hv H locs ls hW hS hl))
    · exact res_stuck hpc
  | lshl =>
    subst hnp
    simp only [stp]
    split
    · exact res_pl (hk _ _ _ _ _ _ _ hnr) (fun hv H locs ls hW hS hl => lv_lshl hx hb hd rfl (hv H locs ls hW hS hl))
    · exact res_stuck hpc
  | i2l =>
    subst hnp
    simp only [stp]
    split
    · exact res_pl (hk _ _ _ _ _ _ _ hnr) (fun hv H locs ls hW hS hl => lv_i2l hx hb hd rfl (hv H locs ls hW hS hl))
    · exact res_stuck hpc
  | l2i =>
    subst hnp
    simp only [stp]
    split
    · exact res_pl (hk _ _ _ _ _ _ _ hnr) (fun hv H locs ls hW hS hl => lv_l2i hx hb hd rfl (hv H locs ls hW hS hl))
    · exact res_stuck hpc
  | idiv =>
    subst hnp
    simp only [stp]
    split
    · exact res_ob (hk _ _ _ _ _ _ _ hnr) (fun ho hv H locs ls hW hS hl => lv_idiv hx hb hd ho (hv H locs ls hW hS hl))
    · exact res_stuck hpc
  | irem =>
    subst hnp
    simp only [stp]
    split
    · exact res_ob (hk _ _ _ _ _ _ _ hnr) (fun ho hv H locs ls hW hS hl => lv_irem hx hb hd ho (hv H locs ls hW hS hl))
    · exact res_stuck hpc
  | ldiv =>
    subst hnp
    simp only [stp]
    split
    · exact res_ob (hk _ _ _ _ _ _ _ hnr) (fun ho hv H locs ls hW hS hl => lv_ldiv hx hb hd ho (hv H locs ls hW hS hl))
    · exact res_stuck hpc
  | lrem =>
    subst hnp
    simp only [stp]
    split
    · exact res_ob (hk _ _ _ _ _ _ _ hnr) (fun ho hv H locs ls hW hS hl => lv_lrem hx hb hd ho (hv H locs ls hW hS hl))
    · exact res_stuck hpc
  | fsub =>
    subst hnp
    simp only [stp]
    split
    · exact res_ob (hk _ _ _ _ _ _ _ hnr) (fun ho hv H locs ls hW hS hl => lv_fsub hx hb hd ho (hv H locs ls hW hS hl))
    · exact res_stuck hpc
  | fmul =>
    subst hnp
    simp only [stp]
    split
    · exact res_ob (hk _ _ _ _ _ _ _ hnr) (fun ho hv H locs ls hW hS hl => lv_fmul hx hb hd ho (hv H locs ls hW hS hl))
    · exact res_stuck hpc
  | fdiv =>
    subst hnp
    simp only [stp]
    split
    · exact res_ob (hk _ _ _ _ _ _ _ hnr) (fun ho hv H locs ls hW hS hl => lv_fdiv hx hb hd ho (hv H locs ls hW hS hl))
    · exact res_stuck hpc
  | dsub =>
    subst hnp
    simp only [stp]
    split
    · exact res_ob (hk _ _ _ _ _ _ _ hnr) (fun ho hv H locs ls hW hS hl => lv_dsub hx hb hd ho (hv H locs ls hW hS hl))
    · exact res_stuck hpc
  | dmul =>
    subst hnp
    simp only [stp]
    split
    · exact res_ob (hk _ _ _ _ _ _ _ hnr) (fun ho hv H locs ls hW hS hl => lv_dmul hx hb hd ho (hv H locs ls hW hS hl))
    · exact res_stuck hpc
  | ddiv =>
    subst hnp
    simp only [stp]
    split
    · exact res_ob (hk _ _ _ _ _ _ _ hnr) (fun ho hv H locs ls hW hS hl => lv_ddiv hx hb hd ho (hv H locs ls hW hS hl))
    · exact res_stuck hpc
  | lcmp =>
    subst hnp
    simp only [stp]
    split
    · exact res_pl (hk _ _ _ _ _ _ _ hnr) (fun hv H locs ls hW hS hl => W.lcmp hx hb hd (hv H locs ls hW hS hl))
    · exact res_stuck hpc
  | fcmp op =>
    subst hnp
    simp only [stp]
    split
    · exact res_pl (hk _ _ _ _ _ _ _ hnr) (fun hv H locs ls hW hS hl => lv_fcmp hx hb hd (hv H locs ls hW hS hl))
    · exact res_stuck hpc
  | dcmp op =>
    subst hnp
    simp only [stp]
    split
    · exact res_pl (hk _ _ _ _ _ _ _ hnr) (fun hv H locs ls hW hS hl => lv_dcmp hx hb hd (hv H locs ls hW hS hl))
    · exact res_stuck hpc
  | dup =>
    subst hnp
    simp only [stp]
    split
    · exact res_pl (hk _ _ _ _ _ _ _ hnr) (fun hv H locs ls hW hS hl => lv_dup hx hb hd rfl (hv H locs ls hW hS hl))
    · exact res_pl (hk _ _ _ _ _ _ _ hnr) (fun hv H locs ls hW hS hl => lv_dup hx hb hd rfl (hv H locs ls hW hS hl))
    · exact res_stuck hpc
  | dup2 =>
    subst hnp
    simp only [stp]
    split
    · exact res_pl (hk _ _ _ _ _ _ _ hnr) (fun hv H locs ls hW hS hl => lv_dup2_11 hx hb hd rfl rfl (hv H locs ls hW hS hl))
    · exact res_stuck hpc
  | goto off =>
    simp only [btB, decide_eq_true_eq] at hbt
    exact res_pl (hk _ _ _ _ _ _ _ htr) (fun hv H locs ls hW hS hl => lv_goto hx hb hd hbt (hv H locs ls hW hS hl))
  | ifCond cond off =>
    subst hnp
    simp only [btB, decide_eq_true_eq] at hbt
    cases cond with
    | eq =>
      simp only [stp]
      split
      · exact res_br hpc (fun ds O pc h => hk _ _ _ _ _ _ _ h) hnr htr (fun ho hv H locs ls hW hS hl => lv_if_eq hx hb hd hbt (fun _ => hv H locs ls hW hS hl) (fun hn => absurd ho hn)) (fun ho hv H locs ls hW hS hl => lv_if_eq hx hb hd hbt (fun hn => absurd hn ho) (fun _ => hv H locs ls hW hS hl))
      · exact res_stuck hpc
    | ne =>
      simp only [stp]
      split
      · exact res_br hpc (fun ds O pc h => hk _ _ _ _ _ _ _ h) hnr htr (fun ho hv H locs ls hW hS hl => lv_if_ne hx hb hd hbt (fun _ => hv H locs ls hW hS hl) (fun hn => absurd hn ho)) (fun ho hv H locs ls hW hS hl => lv_if_ne hx hb hd hbt (fun hn => absurd hn ho) (fun _ => hv H locs ls hW hS hl))
      · exact res_stuck hpc
    | lt =>
      simp only [stp]
      split
      · exact res_br hpc (fun ds O pc h => hk _ _ _ _ _ _ _ h) hnr htr (fun ho hv H locs ls hW hS hl => lv_if_lt hx hb hd hbt (fun _ => hv H locs ls hW hS hl) (fun hn => absurd ho hn)) (fun ho hv H locs ls hW hS hl => lv_if_lt hx hb hd hbt (fun hn => absurd hn ho) (fun _ => hv H locs ls hW hS hl))
      · exact res_stuck hpc
    | ge =>
      simp only [stp]
      split
      · exact res_br hpc (fun ds O pc h => hk _ _ _ _ _ _ _ h) hnr htr (fun ho hv H locs ls hW hS hl => lv_if_ge hx hb hd hbt (fun _ => hv H locs ls hW hS hl) (fun hn => absurd ho hn)) (fun ho hv H locs ls hW hS hl => lv_if_ge hx hb hd hbt (fun hn => absurd hn ho) (fun _ => hv H locs ls hW hS hl))
      · exact res_stuck hpc
    | gt =>
      simp only [stp]
      split
      · exact res_br hpc (fun ds O pc h => hk _ _ _ _ _ _ _ h) hnr htr (fun ho hv H locs ls hW hS hl => lv_if_gt hx hb hd hbt (fun _ => hv H locs ls hW hS hl) (fun hn => absurd ho hn)) (fun ho hv H locs ls hW hS hl => lv_if_gt hx hb hd hbt (fun hn => absurd hn ho) (fun _ => hv H locs ls hW hS hl))
      · exact res_stuck hpc
    | le =>
      simp only [stp]
      split
      · exact res_br hpc (fun ds O pc h => hk _ _ _ _ _ _ _ h) hnr htr (fun ho hv H locs ls hW hS hl => lv_if_le hx hb hd hbt (fun _ => hv H locs ls hW hS hl) (fun hn => absurd ho hn)) (fun ho hv H locs ls hW hS hl => lv_if_le hx hb hd hbt (fun hn => absurd hn ho) (fun _ => hv H locs ls hW hS hl))
      · exact res_stuck hpc
  | if_icmp cond off =>
    subst hnp
    simp only [btB, decide_eq_true_eq] at hbt
    cases cond with
    | eq =>
      simp only [stp]
      split
      · exact res_br hpc (fun ds O pc h => hk _ _ _ _ _ _ _ h) hnr htr (fun ho hv H locs ls hW hS hl => lv_icmp_eq hx hb hd hbt (fun _ => hv H locs ls hW hS hl) (fun hn => absurd ho hn)) (fun ho hv H locs ls hW hS hl => lv_icmp_eq hx hb hd hbt (fun hn => absurd hn ho) (fun _ => hv H locs ls hW hS hl))
      · exact res_stuck hpc
    | ne =>
      simp only [stp]
      split
      · exact res_br hpc (fun ds O pc h => hk _ _ _ _ _ _ _ h) hnr htr (fun ho hv H locs ls hW hS hl => lv_icmp_ne hx hb hd hbt (fun _ => hv H locs ls hW hS hl) (fun hn => absurd hn ho)) (fun ho hv H locs ls hW hS hl => lv_icmp_ne hx hb hd hbt (fun hn => absurd hn ho) (fun _ => hv H locs ls hW hS hl))
      · exact res_stuck hpc
    | lt =>
      simp only [stp]
      split
      · exact res_br hpc (fun ds O pc h => hk _ _ _ _ _ _ _ h) hnr htr (fun ho hv H locs ls hW hS hl => lv_icmp_lt hx hb hd hbt (fun _ => hv H locs ls hW hS hl) (fun hn => absurd ho hn)) (fun ho hv H locs ls hW hS hl => lv_icmp_lt hx hb hd hbt (fun hn => absurd hn ho) (fun _ => hv H locs ls hW hS hl))
      · exact res_stuck hpc
    | ge =>
      simp only [stp]
      split
      · exact res_br hpc (fun ds O pc h => hk _ _ _ _ _ _ _ h) hnr htr (fun ho hv H locs ls hW hS hl => lv_icmp_ge hx hb hd hbt (fun _ => hv H locs ls hW hS hl) (fun hn => absurd ho hn)) (fun ho hv H locs ls hW hS hl => lv_icmp_ge hx hb hd hbt (fun hn => absurd hn ho) (fun _ => hv H locs ls hW hS hl))
      · exact res_stuck hpc
    | gt =>
      simp only [stp]
      split
      · exact res_br hpc (fun ds O pc h => hk _ _ _ _ _ _ _ h) hnr htr (fun ho hv H locs ls hW hS hl => lv_icmp_gt hx hb hd hbt (fun _ => hv H locs ls hW hS hl) (fun hn => absurd ho hn)) (fun ho hv H locs ls hW hS hl => lv_icmp_gt hx hb hd hbt (fun hn => absurd hn ho) (fun _ => hv H locs ls hW hS hl))
      · exact res_stuck hpc
    | le =>
      simp only [stp]
      split
      · exact res_br hpc (fun ds O pc h => hk _ _ _ _ _ _ _ h) hnr htr (fun ho hv H locs ls hW hS hl => lv_icmp_le hx hb hd hbt (fun _ => hv H locs ls hW hS hl) (fun hn => absurd ho hn)) (fun ho hv H locs ls hW hS hl => lv_icmp_le hx hb hd hbt (fun hn => absurd hn ho) (fun _ => hv H locs ls hW hS hl))
      · exact res_stuck hpc
  | getfield ix =>
    subst hnp
    simp only [stp]
    split
    · split
      · next hf =>
        refine res_ob (hk _ _ _ _ _ _ _ hnr) (fun ho hv H locs ls hW hS hl => ?_)
        obtain ⟨hlt, hP⟩ := wd_obj (ci := 0) hC hW ho
        obtain ⟨Cn, T, NF, ty0, f1, f2, f3, f4, f5, f6, f7, f8, f9, f10, f11, f12, f13⟩ := hF _ _ _ _ _ hf
        exact va_get (D := D) (ref := Cn) (C := Cn) (T := T) (N := NF) hx hb hts f3 hown hK hP 0 rfl f1 _ f2 (hts _ f4) (fun x h => by rw [← f5]; exact h) ((fdv_get ad I L _ _ 0 _ _ _ f6).trans (by simp [cz])) hd (hv H locs ls hW hS hl)
      · next hf =>
        refine res_ob (hk _ _ _ _ _ _ _ hnr) (fun ho hv H locs ls hW hS hl => ?_)
        obtain ⟨hlt, hP⟩ := wd_obj (ci := 0) hC hW ho
        obtain ⟨Cn, T, NF, ty0, f1, f2, f3, f4, f5, f6, f7, f8, f9, f10, f11, f12, f13⟩ := hF _ _ _ _ _ hf
        exact va_get (D := D) (ref := Cn) (C := Cn) (T := T) (N := NF) hx hb hts f3 hown hK hP 0 rfl f1 _ f2 (hts _ f4) (fun x h => by rw [← f5]; exact h) ((fdv_get ad I L _ _ 0 _ _ _ f6).trans (by simp [cz])) hd (hv H locs ls hW hS hl)
      · next hf =>
        split
        · refine res_ob (hk _ _ _ _ _ _ _ hnr) (fun ho hv H locs ls hW hS hl => ?_)
          obtain ⟨ho, rfl⟩ := ho
          obtain ⟨hlt, hP⟩ := wd_obj (ci := 0) hC hW ho
          obtain ⟨Cn, T, NF, ty0, f1, f2, f3, f4, f5, f6, f7, f8, f9, f10, f11, f12, f13⟩ := hF _ _ _ _ _ hf
          exact va_get (D := D) (ref := Cn) (C := Cn) (T := T) (N := NF) hx hb hts f3 hown hK hP 0 rfl f1 _ f2 (hts _ f4) (fun x h => by rw [← f5]; exact h) ((fdv_get ad I L _ _ 0 _ _ _ f6).trans (by simp [cz])) hd (hv H locs ls hW hS hl)
        · exact res_stuck hpc
      · next hf =>
        refine res_ob (hk _ _ _ _ _ _ _ hnr) (fun ho hv H locs ls hW hS hl => ?_)
        obtain ⟨hlt, hP⟩ := wd_obj (ci := 0) hC hW ho
        obtain ⟨Cn, T, NF, ty0, f1, f2, f3, f4, f5, f6, f7, f8, f9, f10, f11, f12, f13⟩ := hF _ _ _ _ _ hf
        exact va_get (D := D) (ref := Cn) (C := Cn) (T := T) (N := NF) hx hb hts f3 hown hK hP 0 rfl f1 _ f2 (hts _ f4) (fun x h => by rw [← f5]; exact h) ((fdv_get ad I L _ _ 0 _ _ _ f6).trans (by simp [cz])) hd (hv H locs ls hW hS hl)
      · exact res_stuck hpc
    · exact res_stuck hpc
  | putfield ix =>
    subst hnp
    simp only [stp]
    split
    · split
      · next hf => exact res_ob (hk _ _ _ _ _ _ _ hnr) (fun ho hv H locs ls hW hS hl => putI_row hC hF hf ho (Or.inl ⟨rfl, rfl⟩) hW hS hd (fun H1 locs1 hW1 hS1 => hv H1 locs1 ls hW1 hS1 hl))
      · next hf => exact res_ob (hk _ _ _ _ _ _ _ hnr) (fun ho hv H locs ls hW hS hl => putI_row hC hF hf ho.1 (Or.inr ⟨rfl, ho.2⟩) hW hS hd (fun H1 locs1 hW1 hS1 => hv H1 locs1 ls hW1 hS1 hl))
      · exact res_stuck hpc
    · split
      · next hf => exact res_ob (hk _ _ _ _ _ _ _ hnr) (fun ho hv H locs ls hW hS hl => putL_row hC hF hf ho hW hS hd (fun H1 locs1 hW1 hS1 => hv H1 locs1 ls hW1 hS1 hl))
      · exact res_stuck hpc
    · exact res_stuck hpc
  | iaload =>
    subst hnp
    simp only [stp]
    split
    · split
      · refine res_ob (hk _ _ _ _ _ _ _ hnr) (fun ho hv H locs ls hW hS hl => ?_)
        obtain ⟨hkd1, rfl, hj⟩ := ho
        exact aldI_row hC hkd1 hj hW hd (hv H locs ls hW hS hl)
      · exact res_stuck hpc
    · exact res_stuck hpc
  | laload =>
    subst hnp
    simp only [stp]
    split
    · split
      · refine res_ob (hk _ _ _ _ _ _ _ hnr) (fun ho hv H locs ls hW hS hl => ?_)
        obtain ⟨hkd1, rfl, hj⟩ := ho
        exact aldL_row hC hkd1 hj hW hd (hv H locs ls hW hS hl)
      · exact res_stuck hpc
    · exact res_stuck hpc
  | baload =>
    subst hnp
    simp only [stp]
    split
    · split
      · refine res_ob (hk _ _ _ _ _ _ _ hnr) (fun ho hv H locs ls hW hS hl => ?_)
        obtain ⟨hkd1, rfl, hj⟩ := ho
        exact aldZ_row hC hkd1 hj hW hd (hv H locs ls hW hS hl)
      · exact res_stuck hpc
    · exact res_stuck hpc
  | aaload =>
    subst hnp
    simp only [stp]
    split
    · split
      · refine res_ob (hk _ _ _ _ _ _ _ hnr) (fun ho hv H locs ls hW hS hl => ?_)
        obtain ⟨⟨w, hkd1, rfl⟩, h4, h6, rfl, hj⟩ := ho
        obtain ⟨hlt, hP⟩ := wd_arrQ hC hW h4 h6 hkd1
        exact aald_row hx hb hK h4 h6 hP hj hkd.2 hkd1 hd (hv H locs ls hW hS hl)
      · exact res_stuck hpc
    · exact res_stuck hpc
  | iastore =>
    subst hnp
    simp only [stp]
    split
    · split
      · refine res_ob (hk _ _ _ _ _ _ _ hnr) (fun ho hv H locs ls hW hS hl => ?_)
        obtain ⟨hkd1, rfl, hj⟩ := ho
        exact astI_row hC hkd1 hj hW hS hd (fun H1 locs1 hW1 hS1 => hv H1 locs1 ls hW1 hS1 hl)
      · exact res_stuck hpc
    · exact res_stuck hpc
  | lastore =>
    subst hnp
    simp only [stp]
    split
    · split
      · refine res_ob (hk _ _ _ _ _ _ _ hnr) (fun ho hv H locs ls hW hS hl => ?_)
        obtain ⟨hkd1, rfl, hj⟩ := ho
        exact astL_row hC hkd1 hj hW hS hd (fun H1 locs1 hW1 hS1 => hv H1 locs1 ls hW1 hS1 hl)
      · exact res_stuck hpc
    · exact res_stuck hpc
  | bastore =>
    subst hnp
    simp only [stp]
    split
    · split
      · refine res_ob (hk _ _ _ _ _ _ _ hnr) (fun ho hv H locs ls hW hS hl => ?_)
        obtain ⟨hkd1, rfl, hj, h01⟩ := ho
        exact astZ_row hC hkd1 hj h01 hW hS hd (fun H1 locs1 hW1 hS1 => hv H1 locs1 ls hW1 hS1 hl)
      · exact res_stuck hpc
    · exact res_stuck hpc
  | ireturn =>
    simp only [stp]
    split
    · exact res_ret (fun he => hret _ _ _ _ _ _ hd hrb (Or.inl ⟨rfl, _, rfl⟩) he)
    · exact res_stuck hpc
  | lreturn =>
    simp only [stp]
    split
    · exact res_ret (fun he => hret _ _ _ _ _ _ hd hrb (Or.inr (Or.inl ⟨rfl, _, rfl⟩)) he)
    · exact res_stuck hpc
  | freturn =>
    simp only [stp]
    split
    · exact res_ret (fun he => hret _ _ _ _ _ _ hd hrb (Or.inr (Or.inr (Or.inl ⟨rfl, _, rfl⟩))) he)
    · exact res_stuck hpc
  | dreturn =>
    simp only [stp]
    split
    · exact res_ret (fun he => hret _ _ _ _ _ _ hd hrb (Or.inr (Or.inr (Or.inr (Or.inl ⟨rfl, _, rfl⟩)))) he)
    · exact res_stuck hpc
  | return_ =>
    simp only [stp]
    split
    · exact res_ret (fun he => hret _ _ _ _ _ _ hd hrb (Or.inr (Or.inr (Or.inr (Or.inr ⟨rfl, rfl⟩)))) he)
    · exact res_stuck hpc
  | _ => exact res_stuck hpc
end SNDW
section RUNW
variable {ce sl : Nat} {p : Program} {l : Launch} {e : Env} {R : Room} {s : State} {m : MethodId} {args : Array Value} {below : List Frame} {meth : Method} {c : Code} {Q : State → Prop} {cc : ByteArray} {nL : Nat} {own : String} {D : va_G} {cy : Nat → ClassId} {kd : KdT} {ad : Nat → Nat} {N : Nat} {E : List Value → IM → LM → Prop}
theorem run_okW {F : Ft} {P : List En} {ret : Option FieldType} (hC : Cx p s m args c cc nL own D cy kd ad N) (hF : FOK own F) (hP : okP cc own P = true) (hloc : P.all (fun q => locB nL q.2.1) = true) (hrb : P.all (fun q => retB ret q.2.1) = true)
    (hret : ∀ (pc : Nat) (ins : Instr) (lv : LV) (st : List Value) (I : IM) (L : LM), decode cc pc = .ok (ins, 1) → retB ret ins = true → ((ins = .ireturn ∧ ∃ x, st = [.int x]) ∨ (ins = .lreturn ∧ ∃ x, st = [.long x]) ∨ (ins = .freturn ∧ ∃ x, st = [.float x]) ∨ (ins = .dreturn ∧ ∃ x, st = [.double x]) ∨ (ins = .return_ ∧ st = [])) → E st I L → VW ce sl p l e R s m args below meth c Q nL D cy kd ad N pc lv st I L) :
    ∀ n ds O pc lv st I L, pc < RET → Res (VW ce sl p l e R s m args below meth c Q nL D cy kd ad N) E O (run kd F P n ds O pc lv st I L) (VW ce sl p l e R s m args below meth c Q nL D cy kd ad N pc lv st I L) := by
  intro n
  induction n with
  | zero => intro ds O pc lv st I L h; exact res_stuck h
  | succ n ih =>
    intro ds O pc lv st I L h
    simp only [run]
    split
    · next hl =>
      have hm := lk_mem P hl
      exact stp_okW hC hF hret ih (insOK_of hP hl) (List.all_eq_true.mp hloc _ hm) (List.all_eq_true.mp hrb _ hm) ds O lv st I L
    · exact res_stuck h
end RUNW
section CALLW
variable {ce sl : Nat} {p : Program} {l : Launch} {e : Env} {R : Room} {s : State} {m : MethodId} {args : Array Value} {below : List Frame} {meth : Method} {c : Code} {Q : State → Prop} {cc : ByteArray} {nL : Nat} {own : String} {D : va_G} {cy : Nat → ClassId} {kd : KdT} {ad : Nat → Nat} {N : Nat}
/-- behind a call -/
theorem vv_backW {pc : Nat} {lv : LV} {rest : List Value} {I2 : IM} {L2 : LM} {r : Option Value} {H : Heap} {locs : List Loc} {ls : Array Slot} {st0 : List Value} {a : Array Value}
    (hr : va_Run p l e R s m args below meth c H locs ce sl 0 0 (F0 m pc ls st0) (rest.map (cz ad)) ((fun _ st oc t => (oc = .returned (r.map (cz ad)) ∧ wd D cy kd ad N I2 L2 t.heap) ∧ va_F (AA ad N) st t) a) (AA ad N))
    (hS : va_S (AA ad N) s.heap H locs) (hl : lv_has ls nL (lv.map fun q => (q.1, cz ad q.2))) (hv : VW ce sl p l e R s m args below meth c Q nL D cy kd ad N (pc + 3) lv (r.toList ++ rest) I2 L2) :
    W p l e R s m args below meth c H locs ce sl Q (F0 m pc ls st0) := by
  intro T hT X
  obtain ⟨v, st₀, t, T', Lx, h0, X', hL, e1, e2, ⟨⟨hv1, hwd⟩, hz, hk⟩, st⟩ := hr T hT X
  have hv2 : v = r.map (cz ad) := by cases hv1; rfl
  rw [h0] at hz hk
  have key := hv T'.heap (locs ++ Lx) ls (by rw [e1]; exact hwd) ⟨Nat.le_trans hS.1 (by rw [e1]; exact hz), fun q h1 h2 => by rw [e1, hk q (Nat.lt_of_lt_of_le h1 hS.1) h2]; exact hS.2.1 q h1 h2, fun q hq => by
      rcases List.mem_append.mp hq with h | h
      · exact hS.2.2 q h
      · exact hL q h⟩ hl
  obtain ⟨t2, a1, b1⟩ := key T' rfl X'
  refine ⟨t2, st t2 ?_, b1⟩
  rw [hv2]
  have e3 : (Option.map (cz ad) r).toList ++ rest.map (cz ad) = (r.toList ++ rest).map (cz ad) := by
    cases r <;> simp
  rw [e3]
  exact a1
theorem vv_callSW {pc ix : Nat} {y : MethodName} {bytes : ByteArray} {maxL : Nat} {ret : Option FieldType} {rm : Room} {av rest : List Value} {lv : LV} {I I2 : IM} {L L2 : LM} {r : Option Value} (hce : ce ≤ R.cells ∧ sl ≤ R.slots) (hC : Cx p s m args c cc nL own D cy kd ad N) (hdg : decode cc pc = .ok (.invokestatic ix, 3)) (hs : SitS own ix y bytes maxL ret av.length) (hrm : RmOK rm R maxL = true) (hM : CR l kd N y bytes maxL ret rm av I L r I2 L2) (hcat : (rest.map fun v => v.category).sum ≤ 8) (hv : VW ce sl p l e R s m args below meth c Q nL D cy kd ad N (pc + 3) lv (r.toList ++ rest) I2 L2) : VW ce sl p l e R s m args below meth c Q nL D cy kd ad N pc lv (av.reverse ++ rest) I L := by
  intro H locs ls hW hS hl
  obtain ⟨hx, hb, hml, hown, hts, hK, hinj, hkd⟩ := hC
  obtain ⟨⟨h1, h2, h3, h4⟩, hd⟩ := hs
  obtain ⟨r1, r2, r3, r4⟩ := rmOK_of hrm
  refine vv_backW (a := (av.map (cz ad)).toArray) ?_ hS hl hv
  refine va_runS (n := av.length) ⟨hx, hb, hml, hown, hts⟩ (hM D cy ad hinj) (va_cwS av.length hts (gIn (fun w hw => ?_)) rfl r1 r2 hd ⟨r3, r4⟩) ⟨fun a U g mk q => ?_, fun U hU hWm => ⟨rfl, by rw [hU]; exact hW, va_K.moved hWm.alike hK⟩⟩ rfl (by simp) hl.1 (by simp) (lv_room (by rw [cz_sum]; exact hcat)) hdg hce
  · rcases List.mem_append.mp hw with h | h
    · simp only [List.mem_cons, List.not_mem_nil, or_false] at h
      rcases h with rfl | rfl | rfl
      · exact h1
      · exact h2
      · exact h3
    · rcases List.mem_cons.mp h with rfl | h
      · exact h4
      · exact h
  · obtain ⟨q0, qW, qK⟩ := q
    exact ⟨q0, qW, va_K.moved (u := U) (U := U.calling g mk a) (Vm.Alike.refl U.vm) qK⟩
theorem vv_callVW {pc ix i ci b : Nat} {T : u_T} {NF : Nat} {y : MethodName} {bytes : ByteArray} {maxL : Nat} {ret : Option FieldType} {rm : Room} {av rest : List Value} {lv : LV} {I I2 : IM} {L L2 : LM} {r : Option Value} (hce : ce ≤ R.cells ∧ sl ≤ R.slots) (hC : Cx p s m args c cc nL own D cy kd ad N) (hdg : decode cc pc = .ok (.invokevirtual ix, 3)) (hs : SitV own ix y bytes maxL ret av.length) (hrm : RmOK rm R maxL = true) (hkd1 : kd i = (0, ci, b)) (hcl : vwCl[ci]? = some (y.cls, T, NF)) (hM : CR l kd N y bytes maxL ret rm (.ref i :: av) I L r I2 L2) (hcat : (rest.map fun v => v.category).sum ≤ 8) (hv : VW ce sl p l e R s m args below meth c Q nL D cy kd ad N (pc + 3) lv (r.toList ++ rest) I2 L2) : VW ce sl p l e R s m args below meth c Q nL D cy kd ad N pc lv (av.reverse ++ .ref i :: rest) I L := by
  intro H locs ls hW hS hl
  obtain ⟨hlt, hP⟩ := wd_obj (ci := 0) hC hW hkd1
  obtain ⟨hx, hb, hml, hown, hts, hK, hinj, hkd⟩ := hC
  obtain ⟨⟨h1, h2, h3, h4, h5⟩, hd⟩ := hs
  obtain ⟨r1, r2, r3, r4⟩ := rmOK_of hrm
  refine vv_backW (a := (Value.ref (ad i) :: av.map (cz ad)).toArray) ?_ hS hl hv
  refine va_runV (n := av.length) (b := ad i) (C := y.cls) ⟨hx, hb, hml, hown, hts⟩ (hM D cy ad hinj) (cwV av.length hts (gIn (fun w hw => ?_)) rfl r1 r2 hd ⟨r3, r4⟩) ⟨fun a U g mk q => ?_, va_recv hK hP (ci := ci) (q0 := 0) hcl rfl, fun U hU hWm => ⟨rfl, by rw [hU]; exact hW, va_K.moved hWm.alike hK⟩⟩ rfl (by simp) hl.1 (by simp [cz]) (lv_room (by rw [cz_sum]; exact hcat)) hdg hce
  · rcases List.mem_append.mp hw with h | h
    · simp only [List.mem_cons, List.not_mem_nil, or_false] at h
      rcases h with rfl | rfl | rfl | rfl
      · exact h1
      · exact h2
      · exact h3
      · exact h4
    · rcases List.mem_cons.mp h with rfl | h
      · exact h5
      · exact h
  · obtain ⟨q0, qW, qK⟩ := q
    exact ⟨q0, qW, va_K.moved (u := U) (U := U.calling g mk a) (Vm.Alike.refl U.vm) qK⟩
end CALLW
theorem ru_ofW {ce sl : Nat} {p : Program} {l : Launch} {e : Env} {R : Room} {s : State} {m : MethodId} {args : Array Value} {below : List Frame} {meth : Method} {c : Code} {Q : State → Prop} {cc : ByteArray} {nL : Nat} {own : String} {D : va_G} {cy : Nat → ClassId} {kd : KdT} {ad : Nat → Nat} {N : Nat} {E : List Value → IM → LM → Prop} {F : Ft} {P : List En} {ret : Option FieldType} (hce : ce ≤ R.cells ∧ sl ≤ R.slots) (hC : Cx p s m args c cc nL own D cy kd ad N) (hF : FOK own F) (hP : okP cc own P = true) (hloc : P.all (fun q => locB nL q.2.1) = true) (hrb : P.all (fun q => retB ret q.2.1) = true)
    (hret : ∀ (pc : Nat) (ins : Instr) (lv : LV) (st : List Value) (I : IM) (L : LM), decode cc pc = .ok (ins, 1) → retB ret ins = true → ((ins = .ireturn ∧ ∃ x, st = [.int x]) ∨ (ins = .lreturn ∧ ∃ x, st = [.long x]) ∨ (ins = .freturn ∧ ∃ x, st = [.float x]) ∨ (ins = .dreturn ∧ ∃ x, st = [.double x]) ∨ (ins = .return_ ∧ st = [])) → E st I L → VW ce sl p l e R s m args below meth c Q nL D cy kd ad N pc lv st I L) :
    Ru l kd N own cc R F P (VW ce sl p l e R s m args below meth c Q nL D cy kd ad N) E := by
  have hx := hC.1
  have hb := hC.2.1
  have hml := hC.2.2.1
  have hnm := hC.2.2.2.1
  have hts := hC.2.2.2.2.1
  refine ⟨?_, ?_, ?_, ?_, ?_, ?_, ?_, ?_, ?_⟩
  · intro n ds pc lv st J K O2 pc2 lv2 st2 J2 K2 hrun hpc hO hV
    have h := run_okW hC hF hP hloc hrb hret n ds True pc lv st J K hpc
    rw [hrun] at h
    exact h.2 hO hV
  · intro pc ix np tg cv y2 bytes2 maxL2 ret2 rm2 av2 rest lv J K r2 J2 K2 hl2 hs hrm hM hcat hV
    obtain ⟨hd, hnp, -⟩ := insOK_of hP hl2
    subst hnp
    exact vv_callSW hce hC hd hs hrm hM hcat hV
  · intro pc ix np tg cv y2 bytes2 maxL2 ret2 rm2 av2 rest lv J K r2 J2 K2 i ci b T NF hl2 hs hrm hk1 hk2 hM hcat hV
    obtain ⟨hd, hnp, -⟩ := insOK_of hP hl2
    subst hnp
    exact vv_callVW hce hC hd hs hrm hk1 hk2 hM hcat hV
  · intro pc lv lv2 st J K hsub hV H locs ls hW hS hl
    exact hV H locs ls hW hS ⟨hl.1, hl.2.1, fun q hq => by
      obtain ⟨z, hz, rfl⟩ := List.mem_map.mp hq
      exact hl.2.2 _ (List.mem_map.mpr ⟨z, hsub z hz, rfl⟩)⟩
  · intro pc dflt lo hi offs len tgt x rest lv J K hdg h1 h2 hV H locs ls hW hS hl
    by_cases a : x.toInt < lo
    · exact lv_tableOut hx hb hdg (Or.inl a) (h1 (Or.inl a)) (hV H locs ls hW hS hl)
    · by_cases b : hi < x.toInt
      · exact lv_tableOut hx hb hdg (Or.inr b) (h1 (Or.inr b)) (hV H locs ls hW hS hl)
      · obtain ⟨off, o1, o2⟩ := h2 a b
        exact lv_tableIn hx hb hdg a b o1 o2 (hV H locs ls hW hS hl)
  · intro pc ix np tg cv n i0 i1 n0 n1 rest lv J K hl2 hs hk0 hk1 h4 h5 hfr hlo hV H locs ls hW hS hl
    obtain ⟨hd, hnp, -⟩ := insOK_of hP hl2
    subst hnp
    exact cpyI_row hC hl.1 hs hk0 hk1 h4 h5 hW hS hfr (by rw [cz_sum]; exact hlo) hd (fun H1 locs1 hW1 hS1 => hV H1 locs1 ls hW1 hS1 hl)
  · intro pc ix np tg cv n i0 i1 n0 n1 rest lv J K hl2 hs hk0 hk1 h4 h5 hfr hlo hV H locs ls hW hS hl
    obtain ⟨hd, hnp, -⟩ := insOK_of hP hl2
    subst hnp
    exact cpyL_row hC hl.1 hs hk0 hk1 h4 h5 hW hS hfr (by rw [cz_sum]; exact hlo) hd (fun H1 locs1 hW1 hS1 => hV H1 locs1 ls hW1 hS1 hl)
  · intro pc ix np tg cv b rest lv J K hl2 hs hfr hlo hV H locs ls hW hS hl
    obtain ⟨hd, hnp, -⟩ := insOK_of hP hl2
    subst hnp
    obtain ⟨w1, w2, w3, w4⟩ := hs
    exact vn_d2l hx hb (hml.trans hl.1.symm) hnm (hts _ w1) (hts _ w2) (hts _ w3) (hts _ w4) hfr (by rw [cz_sum]; exact hlo) hd (hV H locs ls hW hS hl)
  · intro pc ix np tg cv b rest lv J K hl2 hs hfr hlo hV H locs ls hW hS hl
    obtain ⟨hd, hnp, -⟩ := insOK_of hP hl2
    subst hnp
    obtain ⟨w1, w2, w3, w4⟩ := hs
    exact vn_f2i hx hb (hml.trans hl.1.symm) hnm (hts _ w1) (hts _ w2) (hts _ w3) (hts _ w4) hfr (by rw [cz_sum]; exact hlo) hd (hV H locs ls hW hS hl)
def tL_law : List En := [(0, .new 48, 3, 0, .null), (3, .dup, 4, 0, .null), (4, .invokespecial 165, 7, 0, .null), (7, .astore_n 1, 8, 0, .null), (8, .bipush 64, 10, 0, .int (64)), (10, .newarray .long, 12, 0, .null), (12, .astore_n 2, 13, 0, .null), (13, .bipush 32, 15, 0, .int (32)), (15, .newarray .long, 17, 0, .null), (17, .astore_n 3, 18, 0, .null), (18, .bipush 32, 20, 0, .int (32)), (20, .newarray .long, 22, 0, .null), (22, .astore 4, 24, 0, .null), (24, .bipush 32, 26, 0, .int (32)), (26, .newarray .long, 28, 0, .null), (28, .astore 5, 30, 0, .null), (30, .bipush 32, 32, 0, .int (32)), (32, .newarray .long, 34, 0, .null), (34, .astore 6, 36, 0, .null), (36, .bipush 25, 38, 0, .int (25)), (38, .newarray .int, 40, 0, .null), (40, .astore 7, 42, 0, .null), (42, .bipush 32, 44, 0, .int (32)), (44, .newarray .int, 46, 0, .null), (46, .astore 8, 48, 0, .null), (48, .bipush 15, 50, 0, .int (15)), (50, .newarray .int, 52, 0, .null), (52, .astore 9, 54, 0, .null), (54, .aload 9, 56, 0, .null), (56, .iconst 0, 57, 0, .int (0)), (57, .iconst 4, 58, 0, .int (4)), (58, .iastore, 59, 0, .null), (59, .iconst 0, 60, 0, .int (0)), (60, .istore 10, 62, 0, .null), (62, .iload 10, 64, 0, .null), (64, .iconst 5, 65, 0, .int (5)), (65, .if_icmp .ge 17, 68, 82, .null), (68, .aload 9, 70, 0, .null), (70, .iconst 1, 71, 0, .int (1)), (71, .iload 10, 73, 0, .null), (73, .iadd, 74, 0, .null), (74, .iconst 1, 75, 0, .int (1)), (75, .iastore, 76, 0, .null), (76, .iinc 10 1, 79, 0, .int (1)), (79, .goto (-17), 82, 62, .null), (82, .iconst 0, 83, 0, .int (0)), (83, .istore 10, 85, 0, .null), (85, .iload 10, 87, 0, .null), (87, .iconst 5, 88, 0, .int (5)), (88, .if_icmp .ge 18, 91, 106, .null), (91, .aload 7, 93, 0, .null), (93, .bipush 6, 95, 0, .int (6)), (95, .iload 10, 97, 0, .null), (97, .imul, 98, 0, .null), (98, .iconst 1, 99, 0, .int (1)), (99, .iastore, 100, 0, .null), (100, .iinc 10 1, 103, 0, .int (1)), (103, .goto (-18), 106, 85, .null), (106, .aload_n 1, 107, 0, .null), (107, .aload_n 2, 108, 0, .null), (108, .aload 7, 110, 0, .null), (110, .aload 4, 112, 0, .null), (112, .aload 5, 114, 0, .null), (114, .aload 6, 116, 0, .null), (116, .aload 9, 118, 0, .null), (118, .invokestatic 166, 121, 0, .null), (121, .ifCond .ne 5, 124, 126, .null), (124, .iconst 0, 125, 0, .int (0)), (125, .ireturn, 126, 0, .null), (126, .iconst 0, 127, 0, .int (0)), (127, .istore 10, 129, 0, .null), (129, .iload 10, 131, 0, .null), (131, .bipush 36, 133, 0, .int (36)), (133, .if_icmp .ge 135, 136, 268, .null), (136, .aload_n 0, 137, 0, .null), (137, .iconst 2, 138, 0, .int (2)), (138, .iload 10, 140, 0, .null), (140, .imul, 141, 0, .null), (141, .invokestatic 170, 144, 0, .null), (144, .ldc 174, 146, 0, .int (2147483647)), (146, .iand, 147, 0, .null), (147, .istore 11, 149, 0, .null), (149, .aload_n 0, 150, 0, .null), (150, .iconst 2, 151, 0, .int (2)), (151, .iload 10, 153, 0, .null), (153, .imul, 154, 0, .null), (154, .iconst 1, 155, 0, .int (1)), (155, .iadd, 156, 0, .null), (156, .invokestatic 170, 159, 0, .null), (159, .ldc 174, 161, 0, .int (2147483647)), (161, .iand, 162, 0, .null), (162, .istore 12, 164, 0, .null), (164, .iload 10, 166, 0, .null), (166, .iconst 4, 167, 0, .int (4)), (167, .if_icmp .ge 8, 170, 175, .null), (170, .bipush 11, 172, 0, .int (11)), (172, .goto 13, 175, 185, .null), (175, .iload 11, 177, 0, .null), (177, .bipush 13, 179, 0, .int (13)), (179, .ishr, 180, 0, .null), (180, .bipush 17, 182, 0, .int (17)), (182, .invokestatic 71, 185, 0, .null), (185, .istore 13, 187, 0, .null), (187, .aload_n 1, 188, 0, .null), (188, .iload 13, 190, 0, .null), (190, .iload 11, 192, 0, .null), (192, .iload 12, 194, 0, .null), (194, .aload_n 2, 195, 0, .null), (195, .aload 7, 197, 0, .null), (197, .aload_n 3, 198, 0, .null), (198, .aload 4, 200, 0, .null), (200, .aload 5, 202, 0, .null), (202, .aload 6, 204, 0, .null), (204, .aload 9, 206, 0, .null), (206, .invokestatic 175, 209, 0, .null), (209, .ifCond .eq 21, 212, 230, .null), (212, .aload_n 1, 213, 0, .null), (213, .aload_n 2, 214, 0, .null), (214, .aload 7, 216, 0, .null), (216, .aload 4, 218, 0, .null), (218, .aload 5, 220, 0, .null), (220, .aload 6, 222, 0, .null), (222, .aload 9, 224, 0, .null), (224, .invokestatic 166, 227, 0, .null), (227, .ifCond .ne 5, 230, 232, .null), (230, .iconst 0, 231, 0, .int (0)), (231, .ireturn, 232, 0, .null), (232, .iload 10, 234, 0, .null), (234, .iconst 3, 235, 0, .int (3)), (235, .irem, 236, 0, .null), (236, .iconst 2, 237, 0, .int (2)), (237, .if_icmp .ne 25, 240, 262, .null), (240, .aload_n 1, 241, 0, .null), (241, .iload 10, 243, 0, .null), (243, .iconst 1, 244, 0, .int (1)), (244, .iand, 245, 0, .null), (245, .aload_n 2, 246, 0, .null), (246, .aload 5, 248, 0, .null), (248, .aload 6, 250, 0, .null), (250, .aload 8, 252, 0, .null), (252, .aload 9, 254, 0, .null), (254, .invokestatic 178, 257, 0, .null), (257, .ifCond .ne 5, 260, 262, .null), (260, .iconst 0, 261, 0, .int (0)), (261, .ireturn, 262, 0, .null), (262, .iinc 10 1, 265, 0, .int (1)), (265, .goto (-136), 268, 129, .null), (268, .aload_n 1, 269, 0, .null), (269, .iconst 2, 270, 0, .int (2)), (270, .invokevirtual 134, 273, 0, .null), (273, .ifCond .le 7, 276, 280, .null), (276, .iconst 1, 277, 0, .int (1)), (277, .goto 4, 280, 281, .null), (280, .iconst 0, 281, 0, .int (0)), (281, .ireturn, 282, 0, .null)]
theorem okL_law : okP cL_law RL tL_law = true := by decide +kernel
