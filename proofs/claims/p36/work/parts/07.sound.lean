def retB (ret : Option FieldType) (ins : Instr) : Bool := match ins with
  | .ireturn => decide (ret = some .int) || decide (ret = some .boolean)
  | .lreturn => decide (ret = some .long)
  | .freturn => decide (ret = some .float)
  | .dreturn => decide (ret = some .double)
  | .return_ => decide (ret = none)
  | _ => true
def locB (nL : Nat) (ins : Instr) : Bool := match ins with
  | .istore i => Nat.blt i nL
  | .astore i => Nat.blt i nL
  | .istore_n i => Nat.blt i.val nL
  | .astore_n i => Nat.blt i.val nL
  | .fstore_n i => Nat.blt i.val nL
  | .lstore i => Nat.blt (i + 1) nL
  | .lstore_n i => Nat.blt (i.val + 1) nL
  | .dstore_n i => Nat.blt (i.val + 1) nL
  | .iinc i _ => Nat.blt i nL
  | _ => true
section SND
variable {p : Program} {l : Launch} {e : Env} {R : Room} {s : State} {m : MethodId} {args : Array Value} {below : List Frame} {meth : Method} {c : Code} {Q : State → Prop} {cc : ByteArray} {nL : Nat} {own : String} {D : va_G} {cy : Nat → ClassId} {kd : KdT} {ad : Nat → Nat} {N : Nat} {E : List Value → IM → LM → Prop}
/-- the world's part of a read -/
theorem wd_obj {i ci a b : Nat} {I : IM} {L : LM} {H : Heap} (hC : Cx p s m args c cc nL own D cy kd ad N) (hW : wd D cy kd ad N I L H) (hk : kd i = (0, a, b)) : i < N ∧ va_P D vwCl [(ad i, .inr (a, fdv ad I L i 0 (FD a)))] H := by
  obtain ⟨-, -, -, -, -, -, -, hkd⟩ := hC
  have hi : i < N := hkd.1 i (by rw [hk]; exact Nat.zero_le 6)
  refine ⟨hi, fun k q hq => ?_⟩
  cases k with
  | zero =>
    cases hq
    have h := hW i hi
    unfold ctn at h
    rw [hk] at h
    simpa using h
  | succ k => simp at hq
theorem wd_arrI {i n b : Nat} {I : IM} {L : LM} {H : Heap} (hC : Cx p s m args c cc nL own D cy kd ad N) (hW : wd D cy kd ad N I L H) (hk : kd i = (1, n, b)) : i < N ∧ va_P D vwCl [(ad i, .inl (cy 0, n, .inl (I i)))] H := by
  obtain ⟨-, -, -, -, -, -, -, hkd⟩ := hC
  have hi : i < N := hkd.1 i (by rw [hk]; exact Nat.le_of_ble_eq_true rfl)
  refine ⟨hi, fun k q hq => ?_⟩
  cases k with
  | zero =>
    cases hq
    have h := hW i hi
    unfold ctn at h
    rw [hk] at h
    simpa using h
  | succ k => simp at hq
theorem wd_arrL {i n b : Nat} {I : IM} {L : LM} {H : Heap} (hC : Cx p s m args c cc nL own D cy kd ad N) (hW : wd D cy kd ad N I L H) (hk : kd i = (2, n, b)) : i < N ∧ va_P D vwCl [(ad i, .inl (cy 1, n, .inr (.inl (L i))))] H := by
  obtain ⟨-, -, -, -, -, -, -, hkd⟩ := hC
  have hi : i < N := hkd.1 i (by rw [hk]; exact Nat.le_of_ble_eq_true rfl)
  refine ⟨hi, fun k q hq => ?_⟩
  cases k with
  | zero =>
    cases hq
    have h := hW i hi
    unfold ctn at h
    rw [hk] at h
    simpa using h
  | succ k => simp at hq
theorem wd_arrZ {i n b : Nat} {I : IM} {L : LM} {H : Heap} (hC : Cx p s m args c cc nL own D cy kd ad N) (hW : wd D cy kd ad N I L H) (hk : kd i = (3, n, b)) : i < N ∧ va_P D vwCl [(ad i, .inl (cy 2, n, .inl (I i)))] H := by
  obtain ⟨-, -, -, -, -, -, -, hkd⟩ := hC
  have hi : i < N := hkd.1 i (by rw [hk]; exact Nat.le_of_ble_eq_true rfl)
  refine ⟨hi, fun k q hq => ?_⟩
  cases k with
  | zero =>
    cases hq
    have h := hW i hi
    unfold ctn at h
    rw [hk] at h
    simpa using h
  | succ k => simp at hq
theorem wd_arrQ {i t n b : Nat} {I : IM} {L : LM} {H : Heap} (hC : Cx p s m args c cc nL own D cy kd ad N) (hW : wd D cy kd ad N I L H) (h4 : 4 ≤ t) (h6 : t ≤ 6) (hk : kd i = (t, n, b)) : i < N ∧ H[ad i]? = some (arrV (cy (t - 1)) n (fun j => va_rf (if j < n then some (ad (i + 1 + j * b)) else none))) := by
  obtain ⟨-, -, -, -, -, -, -, hkd⟩ := hC
  have hi : i < N := hkd.1 i (by rw [hk]; exact h6)
  refine ⟨hi, ?_⟩
  have h := hW i hi
  unfold ctn at h
  rw [hk] at h
  simp only [show ¬ t = 0 by omega, show ¬ t = 1 by omega, show ¬ t = 2 by omega, show ¬ t = 3 by omega, if_false] at h
  exact h
theorem nI_vp {j n : Nat} (h : j < n) (hn : n < 2147483648) : vp_in (nI j) n := vp_in_nI h hn
theorem s_put {A : Nat → Prop} {H0 H H1 : Heap} {locs : List Loc} {a i : Nat} (h : va_S A H0 H locs) (z : H1.size = H.size) (oq : ∀ q : Nat, q ≠ a → H1[q]? = H[q]?) (ha : A a) : va_S A H0 H1 (locs ++ [⟨a, i⟩]) := h.put z oq ha


theorem iinc_row {H : Heap} {locs : List Loc} {cells slots : Nat} {pc : Nat} {ls : Array Slot} {rest : List Value} (hexec : p.tables.exec = Jvm.exec) (hb : c.code = cc) {i : Nat} {n : Int} {x : Int32} {lv : List (Nat × Value)} (hdg : decode cc pc = .ok (.iinc i n, 3)) (h : lv_has ls nL lv) (hg : ls[i]? = some (.val (.int x))) (hn : i < nL)
    (kk : ∀ ls' : Array Slot, lv_has ls' nL ((i, Value.int (x + Int32.ofInt n)) :: lv.filter (fun q => !(q.1 == i) && !(q.1 + 1 == i && q.2.category == 2))) → W p l e R s m args below meth c H locs cells slots Q (F0 m (pc + 3) ls' rest)) : W p l e R s m args below meth c H locs cells slots Q (F0 m pc ls rest) := by
  have h2 : lv_has ls nL ((i, .int x) :: lv) := ⟨h.1, h.2.1, fun q hq => by
    rcases List.mem_cons.mp hq with rfl | hq
    · exact hg
    · exact h.2.2 q hq⟩
  refine lv_iinc (k := 0) hexec hb hdg h2 rfl rfl hn rfl (fun ls1 hl1 => kk ls1 ?_)
  simpa using hl1
theorem aald_row {H : Heap} {locs : List Loc} {cells slots : Nat} {pc : Nat} {ls : Array Slot} {rest : List Value} {i t n b j : Nat} (hexec : p.tables.exec = Jvm.exec) (hb : c.code = cc) (hK : va_K D vwCl (tysC cy) s) (h4 : 4 ≤ t) (h6 : t ≤ 6) (hP : H[ad i]? = some (arrV (cy (t - 1)) n (fun j => va_rf (if j < n then some (ad (i + 1 + j * b)) else none)))) (hj : j < n) (hk2 : ∀ i, (kd i).2.1 < 2147483648) (hkd1 : kd i = (t, n, b)) (hdg : decode cc pc = .ok (.aaload, 1))
    (kk : W p l e R s m args below meth c H locs cells slots Q (F0 m (pc + 1) ls (.ref (ad (i + 1 + j * b)) :: rest))) : W p l e R s m args below meth c H locs cells slots Q (F0 m pc ls (.int (nI j) :: .ref (ad i) :: rest)) := by
  have hn := hk2 i
  rw [hkd1] at hn
  have hin := nI_vp hj hn
  have hcl : (nI j).toNatClampNeg = j := nI_clamp (Nat.lt_trans hj hn)
  obtain ⟨ty, hty, hr⟩ : ∃ ty : FieldType, (tysC cy)[t - 1]? = some (cy (t - 1), ty) ∧ ty.isReference = true := by
    rcases (show t = 4 ∨ t = 5 ∨ t = 6 by omega) with rfl | rfl | rfl <;> exact ⟨_, rfl, rfl⟩
  refine W.aald (v := .ref (ad (i + 1 + j * b))) hexec hb hP ((hK.2 (t - 1) _ hty).1 n _) hr (fun q => by cases q) (by show ¬ (nI j < 0 ∨ (arrV _ _ _).slots.size ≤ _); rw [arrV_size]; exact hin) (by show (arrV _ _ _).slots[_]? = _; rw [hcl, arrV_read _ _ hj, if_pos hj]; rfl) rfl rfl hdg kk
theorem aldI_row {H : Heap} {locs : List Loc} {cells slots : Nat} {pc : Nat} {ls : Array Slot} {rest : List Value} {I : IM} {L : LM} {i n b j : Nat} (hC : Cx p s m args c cc nL own D cy kd ad N) (hkd1 : kd i = (1, n, b)) (hj : j < n) (hW : wd D cy kd ad N I L H) (hdg : decode cc pc = .ok (.iaload, 1))
    (kk : W p l e R s m args below meth c H locs cells slots Q (F0 m (pc + 1) ls (.int (I i j) :: rest))) : W p l e R s m args below meth c H locs cells slots Q (F0 m pc ls (.int (nI j) :: .ref (ad i) :: rest)) := by
  obtain ⟨hlt, hP⟩ := wd_arrI hC hW hkd1
  have hn := hC.2.2.2.2.2.2.2.2 i
  rw [hkd1] at hn
  have hcl : (nI j).toNatClampNeg = j := nI_clamp (Nat.lt_trans hj hn)
  exact va_iald hC.1 hC.2.1 hC.2.2.2.2.2.1 hP 0 0 rfl rfl (nI_vp hj hn) hdg (by rw [hcl]; exact kk)
theorem aldL_row {H : Heap} {locs : List Loc} {cells slots : Nat} {pc : Nat} {ls : Array Slot} {rest : List Value} {I : IM} {L : LM} {i n b j : Nat} (hC : Cx p s m args c cc nL own D cy kd ad N) (hkd1 : kd i = (2, n, b)) (hj : j < n) (hW : wd D cy kd ad N I L H) (hdg : decode cc pc = .ok (.laload, 1))
    (kk : W p l e R s m args below meth c H locs cells slots Q (F0 m (pc + 1) ls (.long (L i j) :: rest))) : W p l e R s m args below meth c H locs cells slots Q (F0 m pc ls (.int (nI j) :: .ref (ad i) :: rest)) := by
  obtain ⟨hlt, hP⟩ := wd_arrL hC hW hkd1
  have hn := hC.2.2.2.2.2.2.2.2 i
  rw [hkd1] at hn
  have hcl : (nI j).toNatClampNeg = j := nI_clamp (Nat.lt_trans hj hn)
  exact va_lald hC.1 hC.2.1 hC.2.2.2.2.2.1 hP 0 1 rfl rfl (nI_vp hj hn) hdg (by rw [hcl]; exact kk)
theorem aldZ_row {H : Heap} {locs : List Loc} {cells slots : Nat} {pc : Nat} {ls : Array Slot} {rest : List Value} {I : IM} {L : LM} {i n b j : Nat} (hC : Cx p s m args c cc nL own D cy kd ad N) (hkd1 : kd i = (3, n, b)) (hj : j < n) (hW : wd D cy kd ad N I L H) (hdg : decode cc pc = .ok (.baload, 1))
    (kk : W p l e R s m args below meth c H locs cells slots Q (F0 m (pc + 1) ls (.int (I i j) :: rest))) : W p l e R s m args below meth c H locs cells slots Q (F0 m pc ls (.int (nI j) :: .ref (ad i) :: rest)) := by
  obtain ⟨hlt, hP⟩ := wd_arrZ hC hW hkd1
  have hn := hC.2.2.2.2.2.2.2.2 i
  rw [hkd1] at hn
  have hcl : (nI j).toNatClampNeg = j := nI_clamp (Nat.lt_trans hj hn)
  exact va_zald hC.1 hC.2.1 hC.2.2.2.2.2.1 hP 0 2 rfl rfl (nI_vp hj hn) hdg (by rw [hcl]; exact kk)
theorem astI_row {H : Heap} {locs : List Loc} {cells slots : Nat} {pc : Nat} {ls : Array Slot} {rest : List Value} {I : IM} {L : LM} {i n b j : Nat} {x : Int32} (hC : Cx p s m args c cc nL own D cy kd ad N) (hkd1 : kd i = (1, n, b)) (hj : j < n) (hW : wd D cy kd ad N I L H) (hS : va_S (AA ad N) s.heap H locs) (hdg : decode cc pc = .ok (.iastore, 1))
    (kk : ∀ H1 locs1, wd D cy kd ad N (mu I i j x) L H1 → va_S (AA ad N) s.heap H1 locs1 → W p l e R s m args below meth c H1 locs1 cells slots Q (F0 m (pc + 1) ls rest)) : W p l e R s m args below meth c H locs cells slots Q (F0 m pc ls (.int x :: .int (nI j) :: .ref (ad i) :: rest)) := by
  obtain ⟨hlt, hP⟩ := wd_arrI hC hW hkd1
  have hn := hC.2.2.2.2.2.2.2.2 i
  rw [hkd1] at hn
  have hin := nI_vp hj hn
  have hcl : (nI j).toNatClampNeg = j := nI_clamp (Nat.lt_trans hj hn)
  refine W.iast hC.1 hC.2.1 (hP 0 _ rfl) ((hC.2.2.2.2.2.1.2 0 _ rfl).1 n (fun j => .int (I i j))) (fun q => by cases q) (by show ¬ (nI j < 0 ∨ (arrV _ _ _).slots.size ≤ _); rw [arrV_size]; exact hin) rfl rfl hdg fun H1 e z oq => ?_
  refine kk H1 _ (wd_put hC.2.2.2.2.2.2.1 hW hlt ?_ oq (fun q hq => mu_ne _ _ hq) (fun _ _ => rfl)) (s_put hS z oq ⟨i, hlt, rfl⟩)
  have hct : ctn cy kd ad (mu I i j x) L i = .inl (cy 0, n, .inl (mu I i j x i)) := by
    unfold ctn
    rw [hkd1]
    rfl
  rw [hct]
  show H1[ad i]? = some (vp_cell _ _)
  rw [e, hcl]
  show some ((vp_cell (cy 0) (n, .inl (I i))).setSlot j (.int x)) = some (vp_cell (cy 0) (n, .inl (mu I i j x i)))
  rw [vp_cell_i, vp_cell_i, arrV_store]
  congr 2
  funext q
  by_cases hq : q = j
  · subst hq
    simp [updV, mu]
  · simp [updV, mu, hq]
theorem astL_row {H : Heap} {locs : List Loc} {cells slots : Nat} {pc : Nat} {ls : Array Slot} {rest : List Value} {I : IM} {L : LM} {i n b j : Nat} {x : Int64} (hC : Cx p s m args c cc nL own D cy kd ad N) (hkd1 : kd i = (2, n, b)) (hj : j < n) (hW : wd D cy kd ad N I L H) (hS : va_S (AA ad N) s.heap H locs) (hdg : decode cc pc = .ok (.lastore, 1))
    (kk : ∀ H1 locs1, wd D cy kd ad N I (mu L i j x) H1 → va_S (AA ad N) s.heap H1 locs1 → W p l e R s m args below meth c H1 locs1 cells slots Q (F0 m (pc + 1) ls rest)) : W p l e R s m args below meth c H locs cells slots Q (F0 m pc ls (.long x :: .int (nI j) :: .ref (ad i) :: rest)) := by
  obtain ⟨hlt, hP⟩ := wd_arrL hC hW hkd1
  have hn := hC.2.2.2.2.2.2.2.2 i
  rw [hkd1] at hn
  have hin := nI_vp hj hn
  have hcl : (nI j).toNatClampNeg = j := nI_clamp (Nat.lt_trans hj hn)
  refine W.last hC.1 hC.2.1 (hP 0 _ rfl) ((hC.2.2.2.2.2.1.2 1 _ rfl).1 n (fun j => .long (L i j))) (fun q => by cases q) (by show ¬ (nI j < 0 ∨ (arrV _ _ _).slots.size ≤ _); rw [arrV_size]; exact hin) rfl rfl hdg fun H1 e z oq => ?_
  refine kk H1 _ (wd_put hC.2.2.2.2.2.2.1 hW hlt ?_ oq (fun _ _ => rfl) (fun q hq => mu_ne _ _ hq)) (s_put hS z oq ⟨i, hlt, rfl⟩)
  have hct : ctn cy kd ad I (mu L i j x) i = .inl (cy 1, n, .inr (.inl (mu L i j x i))) := by
    unfold ctn
    rw [hkd1]
    rfl
  rw [hct]
  show H1[ad i]? = some (vp_cell _ _)
  rw [e, hcl]
  show some ((vp_cell (cy 1) (n, .inr (.inl (L i)))).setSlot j (.long x)) = some (vp_cell (cy 1) (n, .inr (.inl (mu L i j x i))))
  rw [vp_cell_l, vp_cell_l, arrV_store]
  congr 2
  funext q
  by_cases hq : q = j
  · subst hq
    simp [updV, mu]
  · simp [updV, mu, hq]
theorem astZ_row {H : Heap} {locs : List Loc} {cells slots : Nat} {pc : Nat} {ls : Array Slot} {rest : List Value} {I : IM} {L : LM} {i n b j : Nat} {x : Int32} (hC : Cx p s m args c cc nL own D cy kd ad N) (hkd1 : kd i = (3, n, b)) (hj : j < n) (h01 : x = 0 ∨ x = 1) (hW : wd D cy kd ad N I L H) (hS : va_S (AA ad N) s.heap H locs) (hdg : decode cc pc = .ok (.bastore, 1))
    (kk : ∀ H1 locs1, wd D cy kd ad N (mu I i j x) L H1 → va_S (AA ad N) s.heap H1 locs1 → W p l e R s m args below meth c H1 locs1 cells slots Q (F0 m (pc + 1) ls rest)) : W p l e R s m args below meth c H locs cells slots Q (F0 m pc ls (.int x :: .int (nI j) :: .ref (ad i) :: rest)) := by
  obtain ⟨hlt, hP⟩ := wd_arrZ hC hW hkd1
  have hn := hC.2.2.2.2.2.2.2.2 i
  rw [hkd1] at hn
  have hin := nI_vp hj hn
  have hcl : (nI j).toNatClampNeg = j := nI_clamp (Nat.lt_trans hj hn)
  have hnar : vp_nar .boolean x = x := by rcases h01 with rfl | rfl <;> decide
  refine W.zast hC.1 hC.2.1 (hP 0 _ rfl) ((hC.2.2.2.2.2.1.2 2 _ rfl).1 n (fun j => .int (I i j))) (fun q => by cases q) (by show ¬ (nI j < 0 ∨ (arrV _ _ _).slots.size ≤ _); rw [arrV_size]; exact hin) rfl rfl hdg fun H1 e z oq => ?_
  refine kk H1 _ (wd_put hC.2.2.2.2.2.2.1 hW hlt ?_ oq (fun q hq => mu_ne _ _ hq) (fun _ _ => rfl)) (s_put hS z oq ⟨i, hlt, rfl⟩)
  have hct : ctn cy kd ad (mu I i j x) L i = .inl (cy 2, n, .inl (mu I i j x i)) := by
    unfold ctn
    rw [hkd1]
    rfl
  rw [hct]
  show H1[ad i]? = some (vp_cell _ _)
  rw [e, hcl]
  have hnar2 : narrow .boolean (.int x) = .int x := by rcases h01 with rfl | rfl <;> decide
  show some ((vp_cell (cy 2) (n, .inl (I i))).setSlot j _) = some (vp_cell (cy 2) (n, .inl (mu I i j x i)))
  rw [hnar2, vp_cell_i, vp_cell_i, arrV_store]
  congr 2
  funext q
  by_cases hq : q = j
  · subst hq
    simp [updV, mu]
  · simp [updV, mu, hq]
theorem putI_row {F : Ft} {H : Heap} {locs : List Loc} {cells slots : Nat} {pc : Nat} {ls : Array Slot} {rest : List Value} {I : IM} {L : LM} {i ix ci j t off b : Nat} {x : Int32} (hC : Cx p s m args c cc nL own D cy kd ad N) (hF : FOK own F) (hf : F ix = some (ci, j, t, off)) (hkd1 : kd i = (0, ci, b)) (ht : (t = 0 ∧ x = x) ∨ (t = 3 ∧ (x = 0 ∨ x = 1))) (hW : wd D cy kd ad N I L H) (hS : va_S (AA ad N) s.heap H locs) (hdg : decode cc pc = .ok (.putfield ix, 3))
    (kk : ∀ H1 locs1, wd D cy kd ad N (mu I i j x) L H1 → va_S (AA ad N) s.heap H1 locs1 → W p l e R s m args below meth c H1 locs1 cells slots Q (F0 m (pc + 3) ls rest)) : W p l e R s m args below meth c H locs cells slots Q (F0 m pc ls (.int x :: .ref (ad i) :: rest)) := by
  obtain ⟨hlt, hP⟩ := wd_obj (ci := 0) hC hW hkd1
  obtain ⟨Cn, T, NF, ty0, f1, f2, f3, f4, f5, f6, f7, f8, f9, f10, f11, f12, f13⟩ := hF _ _ _ _ _ hf
  have hx := hC.1
  have hb := hC.2.1
  have hown := hC.2.2.2.1
  have hts := hC.2.2.2.2.1
  have hK := hC.2.2.2.2.2.1
  have hinj := hC.2.2.2.2.2.2.1
  have ht2 : t ≠ 1 ∧ t ≠ 2 := by rcases ht with ⟨rfl, -⟩ | ⟨rfl, -⟩ <;> decide
  have hnf : narrow (ty0 j) (.int x) = .int x ∧ fits (ty0 j) (.int x) = true := by
    rcases ht with ⟨rfl, -⟩ | ⟨rfl, h01⟩
    · rw [f11 rfl]; exact ⟨rfl, rfl⟩
    · rw [f13 rfl]; rcases h01 with rfl | rfl <;> exact ⟨by decide, by decide⟩
  have hap := va_apart (own := own) hts f3 ty0 f8 f9 hK f1
  obtain ⟨r, h1, cell, q1, q2, q3, q4⟩ := hP 0 _ rfl
  have hr : r = (Cn, T, NF) := Option.some.inj (h1.symm.trans f1)
  subst hr
  obtain ⟨hSl, hfc, kC, hkC, hkind⟩ := hK.1 ci _ f1
  obtain ⟨cf, kf, fi, f, hi, hsl⟩ := hSl j f2
  have hlay := hts _ (f3 _ (u_in_lay f2))
  unfold u_lay at hlay
  rw [if_neg (by rw [f10 ht2.2]; decide)] at hlay
  have hst := (u_facts hfc hkC (u_lays hts f3 f2) hi).1
  have h6 := u_store hfc hkC hkind hlay hi (f8 j f2) hnf.1 hnf.2
  refine W.putK hx hb (f := f) ⟨hown, hts _ f4, ⟨_, _, _, (by rw [← f5]; exact hi)⟩, hst⟩ (by rw [q2]; exact h6) q1 q3 (by rw [hsl]; exact k2_hasslot (q4 j f2)) rfl rfl hdg fun H1 e1 e2 e3 => ?_
  rw [hsl] at e1 ⊢
  refine kk H1 _ (wd_put hinj hW hlt ?_ e3 (fun q hq => mu_ne _ _ hq) (fun _ _ => rfl)) (s_put hS e2 e3 ⟨i, hlt, rfl⟩)
  have hset := fdv_setI ad I L i j x (FD ci) 0 j t off f6 ht2.1 ht2.2 (by omega)
  unfold ctn
  rw [hkd1]
  simp only [if_true]
  rw [hset]
  exact ⟨_, f1, t_OB.to (V := updV (vp_V (fdv ad I L i 0 (FD ci))) j (.int x)) ⟨_, e1, q2, q3, t_set q4 hap f2 (.int x)⟩ (fun j2 _ => vp_updV_set (by rw [fdv_len, f7]; exact f2) (.int x) j2)⟩
theorem putL_row {F : Ft} {H : Heap} {locs : List Loc} {cells slots : Nat} {pc : Nat} {ls : Array Slot} {rest : List Value} {I : IM} {L : LM} {i ix ci j off b : Nat} {x : Int64} (hC : Cx p s m args c cc nL own D cy kd ad N) (hF : FOK own F) (hf : F ix = some (ci, j, 1, off)) (hkd1 : kd i = (0, ci, b)) (hW : wd D cy kd ad N I L H) (hS : va_S (AA ad N) s.heap H locs) (hdg : decode cc pc = .ok (.putfield ix, 3))
    (kk : ∀ H1 locs1, wd D cy kd ad N I (mu L i j x) H1 → va_S (AA ad N) s.heap H1 locs1 → W p l e R s m args below meth c H1 locs1 cells slots Q (F0 m (pc + 3) ls rest)) : W p l e R s m args below meth c H locs cells slots Q (F0 m pc ls (.long x :: .ref (ad i) :: rest)) := by
  obtain ⟨hlt, hP⟩ := wd_obj (ci := 0) hC hW hkd1
  obtain ⟨Cn, T, NF, ty0, f1, f2, f3, f4, f5, f6, f7, f8, f9, f10, f11, f12, f13⟩ := hF _ _ _ _ _ hf
  have hx := hC.1
  have hb := hC.2.1
  have hown := hC.2.2.2.1
  have hts := hC.2.2.2.2.1
  have hK := hC.2.2.2.2.2.1
  have hinj := hC.2.2.2.2.2.2.1
  have hnf : narrow (ty0 j) (.long x) = .long x ∧ fits (ty0 j) (.long x) = true := by
    rw [f12 rfl]; exact ⟨rfl, rfl⟩
  have hap := va_apart (own := own) hts f3 ty0 f8 f9 hK f1
  obtain ⟨r, h1, cell, q1, q2, q3, q4⟩ := hP 0 _ rfl
  have hr : r = (Cn, T, NF) := Option.some.inj (h1.symm.trans f1)
  subst hr
  obtain ⟨hSl, hfc, kC, hkC, hkind⟩ := hK.1 ci _ f1
  obtain ⟨cf, kf, fi, f, hi, hsl⟩ := hSl j f2
  have hlay := hts _ (f3 _ (u_in_lay f2))
  unfold u_lay at hlay
  rw [if_neg (by rw [f10 (by decide)]; decide)] at hlay
  have hst := (u_facts hfc hkC (u_lays hts f3 f2) hi).1
  have h6 := u_store hfc hkC hkind hlay hi (f8 j f2) hnf.1 hnf.2
  refine W.putK hx hb (f := f) ⟨hown, hts _ f4, ⟨_, _, _, (by rw [← f5]; exact hi)⟩, hst⟩ (by rw [q2]; exact h6) q1 q3 (by rw [hsl]; exact k2_hasslot (q4 j f2)) rfl rfl hdg fun H1 e1 e2 e3 => ?_
  rw [hsl] at e1 ⊢
  refine kk H1 _ (wd_put hinj hW hlt ?_ e3 (fun _ _ => rfl) (fun q hq => mu_ne _ _ hq)) (s_put hS e2 e3 ⟨i, hlt, rfl⟩)
  have hset := fdv_setL ad I L i j x (FD ci) 0 j off f6 (by omega)
  unfold ctn
  rw [hkd1]
  simp only [if_true]
  rw [hset]
  exact ⟨_, f1, t_OB.to (V := updV (vp_V (fdv ad I L i 0 (FD ci))) j (.long x)) ⟨_, e1, q2, q3, t_set q4 hap f2 (.long x)⟩ (fun j2 _ => vp_updV_set (by rw [fdv_len, f7]; exact f2) (.long x) j2)⟩
set_option maxHeartbeats 4000000 in
theorem stp_ok {F : Ft} {k : Kt} (hC : Cx p s m args c cc nL own D cy kd ad N) (hF : FOK own F)
    {ret : Option FieldType} (hret : ∀ (pc : Nat) (ins : Instr) (lv : LV) (st : List Value) (I : IM) (L : LM), decode cc pc = .ok (ins, 1) → retB ret ins = true → ((ins = .ireturn ∧ ∃ x, st = [.int x]) ∨ (ins = .lreturn ∧ ∃ x, st = [.long x]) ∨ (ins = .freturn ∧ ∃ x, st = [.float x]) ∨ (ins = .dreturn ∧ ∃ x, st = [.double x]) ∨ (ins = .return_ ∧ st = [])) → E st I L → VV p l e R s m args below meth c Q nL D cy kd ad N pc lv st I L)
    (hk : ∀ ds O pc lv st I L, pc < RET → Res (VV p l e R s m args below meth c Q nL D cy kd ad N) E O (k ds O pc lv st I L) (VV p l e R s m args below meth c Q nL D cy kd ad N pc lv st I L))
    {ins : Instr} {pc np tg : Nat} {cv : Value} (hi : InsOK cc own pc ins np tg cv) (hloc : locB nL ins = true) (hrb : retB ret ins = true) (ds : List (Nat × Nat)) (O : Prop) (lv : LV) (st : List Value) (I : IM) (L : LM) :
    Res (VV p l e R s m args below meth c Q nL D cy kd ad N) E O (stp kd F k ins np tg cv ds O pc lv st I L) (VV p l e R s m args below meth c Q nL D cy kd ad N pc lv st I L) := by
  obtain ⟨hd, hnp, hbt, hcv, hpc, hnr, htr⟩ := hi
  have hx := hC.1
  have hb := hC.2.1
  have hown := hC.2.2.2.1
  have hts := hC.2.2.2.2.1
  have hK := hC.2.2.2.2.2.1
  have hinj := hC.2.2.2.2.2.2.1
  have hkd := hC.2.2.2.2.2.2.2
  cases ins with
  | iconst n =>
    simp only [cvB, decide_eq_true_eq] at hcv
    subst hnp
    subst hcv
    exact res_pl (hk _ _ _ _ _ _ _ hnr) (fun hv H locs ls hW hS hl => lv_iconst hx hb hd rfl (hv H locs ls hW hS hl))
  | bipush n =>
    simp only [cvB, decide_eq_true_eq] at hcv
    subst hnp
    subst hcv
    exact res_pl (hk _ _ _ _ _ _ _ hnr) (fun hv H locs ls hW hS hl => lv_bipush hx hb hd rfl (hv H locs ls hW hS hl))
  | sipush n =>
    simp only [cvB, decide_eq_true_eq] at hcv
    subst hnp
    subst hcv
    exact res_pl (hk _ _ _ _ _ _ _ hnr) (fun hv H locs ls hW hS hl => lv_sipush hx hb hd rfl (hv H locs ls hW hS hl))
  | lconst n =>
    simp only [cvB, decide_eq_true_eq] at hcv
    subst hnp
    subst hcv
    exact res_pl (hk _ _ _ _ _ _ _ hnr) (fun hv H locs ls hW hS hl => lv_lconst hx hb hd rfl (hv H locs ls hW hS hl))
  | fconst n =>
    simp only [cvB, Bool.or_eq_true, decide_eq_true_eq] at hcv
    subst hnp
    rcases hcv with (⟨rfl, rfl⟩ | ⟨rfl, rfl⟩) | ⟨rfl, rfl⟩
    · exact res_pl (hk _ _ _ _ _ _ _ hnr) (fun hv H locs ls hW hS hl => lv_fconst0 hx hb hd (hv H locs ls hW hS hl))
    · exact res_pl (hk _ _ _ _ _ _ _ hnr) (fun hv H locs ls hW hS hl => lv_fconst1 hx hb hd (hv H locs ls hW hS hl))
    · exact res_pl (hk _ _ _ _ _ _ _ hnr) (fun hv H locs ls hW hS hl => lv_fconst2 hx hb hd (hv H locs ls hW hS hl))
  | dconst n =>
    simp only [cvB, Bool.or_eq_true, decide_eq_true_eq] at hcv
    subst hnp
    rcases hcv with ⟨rfl, rfl⟩ | ⟨rfl, rfl⟩
    · exact res_pl (hk _ _ _ _ _ _ _ hnr) (fun hv H locs ls hW hS hl => lv_dconst0 hx hb hd (hv H locs ls hW hS hl))
    · exact res_pl (hk _ _ _ _ _ _ _ hnr) (fun hv H locs ls hW hS hl => lv_dconst1 hx hb hd (hv H locs ls hW hS hl))
  | ldc ix =>
    subst hnp
    cases cv with
    | int v =>
      simp only [cvB, decide_eq_true_eq] at hcv
      exact res_pl (hk _ _ _ _ _ _ _ hnr) (fun hv H locs ls hW hS hl => lv_ldc hx hb hown (hts _ hcv) hd (hv H locs ls hW hS hl))
    | float v =>
      simp only [cvB, decide_eq_true_eq] at hcv
      exact res_pl (hk _ _ _ _ _ _ _ hnr) (fun hv H locs ls hW hS hl => lv_ldcf hx hb hown (hts _ hcv) hd (hv H locs ls hW hS hl))
    | _ => simp [cvB] at hcv
  | ldc_w ix =>
    subst hnp
    cases cv with
    | int v =>
      simp only [cvB, decide_eq_true_eq] at hcv
      exact res_pl (hk _ _ _ _ _ _ _ hnr) (fun hv H locs ls hW hS hl => lv_ldcw hx hb hown (hts _ hcv) hd (hv H locs ls hW hS hl))
    | _ => simp [cvB] at hcv
  | ldc2_w ix =>
    subst hnp
    cases cv with
    | long v =>
      simp only [cvB, decide_eq_true_eq] at hcv
      exact res_pl (hk _ _ _ _ _ _ _ hnr) (fun hv H locs ls hW hS hl => lv_ldc2 hx hb hown (hts _ hcv) hd (hv H locs ls hW hS hl))
    | double v =>
      simp only [cvB, decide_eq_true_eq] at hcv
      exact res_pl (hk _ _ _ _ _ _ _ hnr) (fun hv H locs ls hW hS hl => lv_ldc2d hx hb hown (hts _ hcv) hd (hv H locs ls hW hS hl))
    | _ => simp [cvB] at hcv
  | iload i =>
    subst hnp
    simp only [stp]
    split
    · next x hg => exact res_pl (hk _ _ _ _ _ _ _ hnr) (fun hv H locs ls hW hS hl => lv_iload hx hb hd (gl_get (nL := nL) hg hl.2.2) (hv H locs ls hW hS hl))
    · exact res_stuck hpc
  | lload i =>
    subst hnp
    simp only [stp]
    split
    · next x hg => exact res_pl (hk _ _ _ _ _ _ _ hnr) (fun hv H locs ls hW hS hl => lv_lload hx hb hd (gl_get (nL := nL) hg hl.2.2) (hv H locs ls hW hS hl))
    · exact res_stuck hpc
  | aload i =>
    subst hnp
    simp only [stp]
    split
    · next x hg => exact res_pl (hk _ _ _ _ _ _ _ hnr) (fun hv H locs ls hW hS hl => lv_aload hx hb hd (gl_get (nL := nL) hg hl.2.2) (hv H locs ls hW hS hl))
    · exact res_stuck hpc
  | iload_n i =>
    subst hnp
    simp only [stp]
    split
    · next x hg => exact res_pl (hk _ _ _ _ _ _ _ hnr) (fun hv H locs ls hW hS hl => lv_iload_n hx hb hd rfl (gl_get (nL := nL) hg hl.2.2) (hv H locs ls hW hS hl))
    · exact res_stuck hpc
  | lload_n i =>
    subst hnp
    simp only [stp]
    split
    · next x hg => exact res_pl (hk _ _ _ _ _ _ _ hnr) (fun hv H locs ls hW hS hl => lv_lload_n hx hb hd rfl (gl_get (nL := nL) hg hl.2.2) (hv H locs ls hW hS hl))
    · exact res_stuck hpc
  | fload_n i =>
    subst hnp
    simp only [stp]
    split
    · next x hg => exact res_pl (hk _ _ _ _ _ _ _ hnr) (fun hv H locs ls hW hS hl => lv_fload_n hx hb hd rfl (gl_get (nL := nL) hg hl.2.2) (hv H locs ls hW hS hl))
    · exact res_stuck hpc
  | dload_n i =>
    subst hnp
    simp only [stp]
    split
    · next x hg => exact res_pl (hk _ _ _ _ _ _ _ hnr) (fun hv H locs ls hW hS hl => lv_dload_n hx hb hd rfl (gl_get (nL := nL) hg hl.2.2) (hv H locs ls hW hS hl))
    · exact res_stuck hpc
  | aload_n i =>
    subst hnp
    simp only [stp]
    split
    · next x hg => exact res_pl (hk _ _ _ _ _ _ _ hnr) (fun hv H locs ls hW hS hl => lv_aload_n hx hb hd rfl (gl_get (nL := nL) hg hl.2.2) (hv H locs ls hW hS hl))
    · exact res_stuck hpc
  | istore i =>
    subst hnp
    simp only [stp]
    split
    · obtain ⟨lv1, e1, e2⟩ := sl1_ok _ _ lv _
      rw [e1]
      refine res_pl (hk _ _ _ _ _ _ _ hnr) (fun hv H locs ls hW hS hl => lv_istore hx hb hd hl (by simpa [locB] using hloc) rfl (fun ls1 hl1 => hv H locs ls1 hW hS (lvOK1_has (ad := ad) e2 hl1)))
    · exact res_stuck hpc
  | astore i =>
    subst hnp
    simp only [stp]
    split
    · obtain ⟨lv1, e1, e2⟩ := sl1_ok _ _ lv _
      rw [e1]
      refine res_pl (hk _ _ _ _ _ _ _ hnr) (fun hv H locs ls hW hS hl => lv_astore hx hb hd hl (by simpa [locB] using hloc) rfl (fun ls1 hl1 => hv H locs ls1 hW hS (lvOK1_has (ad := ad) e2 hl1)))
    · exact res_stuck hpc
  | istore_n i =>
    subst hnp
    simp only [stp]
    split
    · obtain ⟨lv1, e1, e2⟩ := sl1_ok _ _ lv _
      rw [e1]
      refine res_pl (hk _ _ _ _ _ _ _ hnr) (fun hv H locs ls hW hS hl => lv_istore_n hx hb hd rfl hl (by simpa [locB] using hloc) rfl (fun ls1 hl1 => hv H locs ls1 hW hS (lvOK1_has (ad := ad) e2 hl1)))
    · exact res_stuck hpc
  | astore_n i =>
    subst hnp
    simp only [stp]
    split
    · obtain ⟨lv1, e1, e2⟩ := sl1_ok _ _ lv _
      rw [e1]
      refine res_pl (hk _ _ _ _ _ _ _ hnr) (fun hv H locs ls hW hS hl => lv_astore_n hx hb hd rfl hl (by simpa [locB] using hloc) rfl (fun ls1 hl1 => hv H locs ls1 hW hS (lvOK1_has (ad := ad) e2 hl1)))
    · exact res_stuck hpc
  | fstore_n i =>
    subst hnp
    simp only [stp]
    split
    · obtain ⟨lv1, e1, e2⟩ := sl1_ok _ _ lv _
      rw [e1]
      refine res_pl (hk _ _ _ _ _ _ _ hnr) (fun hv H locs ls hW hS hl => lv_fstore_n hx hb hd rfl hl (by simpa [locB] using hloc) rfl (fun ls1 hl1 => hv H locs ls1 hW hS (lvOK1_has (ad := ad) e2 hl1)))
    · exact res_stuck hpc
  | lstore i =>
    subst hnp
    simp only [stp]
    split
    · obtain ⟨lv1, e1, e2⟩ := sl2_ok _ _ lv _
      rw [e1]
      refine res_pl (hk _ _ _ _ _ _ _ hnr) (fun hv H locs ls hW hS hl => lv_lstore hx hb hd hl (by simpa [locB] using hloc) rfl (fun ls1 hl1 => hv H locs ls1 hW hS (lvOK2_has (ad := ad) e2 hl1)))
    · exact res_stuck hpc
  | lstore_n i =>
    subst hnp
    simp only [stp]
    split
    · obtain ⟨lv1, e1, e2⟩ := sl2_ok _ _ lv _
      rw [e1]
      refine res_pl (hk _ _ _ _ _ _ _ hnr) (fun hv H locs ls hW hS hl => lv_lstore_n hx hb hd rfl hl (by simpa [locB] using hloc) rfl (fun ls1 hl1 => hv H locs ls1 hW hS (lvOK2_has (ad := ad) e2 hl1)))
    · exact res_stuck hpc
  | dstore_n i =>
    subst hnp
    simp only [stp]
    split
    · obtain ⟨lv1, e1, e2⟩ := sl2_ok _ _ lv _
      rw [e1]
      refine res_pl (hk _ _ _ _ _ _ _ hnr) (fun hv H locs ls hW hS hl => lv_dstore_n hx hb hd rfl hl (by simpa [locB] using hloc) rfl (fun ls1 hl1 => hv H locs ls1 hW hS (lvOK2_has (ad := ad) e2 hl1)))
    · exact res_stuck hpc
  | iinc i n =>
    subst hnp
    simp only [cvB, decide_eq_true_eq] at hcv
    subst hcv
    simp only [stp]
    split
    · next x hg =>
      obtain ⟨lv1, e1, e2⟩ := sl1_ok i (.int (x + Int32.ofInt n)) lv (fun lv1 => k ds O (pc + ilen (.iinc i n)) lv1 st I L)
      rw [e1]
      refine res_pl (hk _ _ _ _ _ _ _ hnr) (fun hv H locs ls hW hS hl => iinc_row hx hb hd hl (gl_get (nL := nL) hg hl.2.2) (by simpa [locB] using hloc) (fun ls1 hl1 => hv H locs ls1 hW hS (lvOK1_has (ad := ad) e2 hl1)))
    · exact res_stuck hpc
  | iadd =>
    subst hnp
    simp only [stp]
    split
    · exact res_pl (hk _ _ _ _ _ _ _ hnr) (fun hv H locs ls hW hS hl => lv_iadd hx hb hd (hv H locs ls hW hS hl))
    · exact res_stuck hpc
  | isub =>
    subst hnp
    simp only [stp]
    split
    · exact res_pl (hk _ _ _ _ _ _ _ hnr) (fun hv H locs ls hW hS hl => lv_isub hx hb hd (hv H locs ls hW hS hl))
    · exact res_stuck hpc
  | imul =>
    subst hnp
    simp only [stp]
    split
    · exact res_pl (hk _ _ _ _ _ _ _ hnr) (fun hv H locs ls hW hS hl => lv_imul hx hb hd (hv H locs ls hW hS hl))
    · exact res_stuck hpc
  | iand =>
    subst hnp
    simp only [stp]
    split
    · exact res_pl (hk _ _ _ _ _ _ _ hnr) (fun hv H locs ls hW hS hl => lv_iand hx hb hd (hv H locs ls hW hS hl))
    · exact res_stuck hpc
  | ior =>
    subst hnp
    simp only [stp]
    split
    · exact res_pl (hk _ _ _ _ _ _ _ hnr) (fun hv H locs ls hW hS hl => lv_ior hx hb hd (hv H locs ls hW hS hl))
    · exact res_stuck hpc
  | ixor =>
    subst hnp
    simp only [stp]
    split
    · exact res_pl (hk _ _ _ _ _ _ _ hnr) (fun hv H locs ls hW hS hl => lv_ixor hx hb hd (hv H locs ls hW hS hl))
    · exact res_stuck hpc
  | ishl =>
    subst hnp
    simp only [stp]
    split
    · exact res_pl (hk _ _ _ _ _ _ _ hnr) (fun hv H locs ls hW hS hl => lv_ishl hx hb hd (hv H locs ls hW hS hl))
    · exact res_stuck hpc
  | ishr =>
    subst hnp
    simp only [stp]
    split
    · exact res_pl (hk _ _ _ _ _ _ _ hnr) (fun hv H locs ls hW hS hl => lv_ishr hx hb hd (hv H locs ls hW hS hl))
    · exact res_stuck hpc
  | ineg =>
    subst hnp
    simp only [stp]
    split
    · exact res_pl (hk _ _ _ _ _ _ _ hnr) (fun hv H locs ls hW hS hl => lv_ineg hx hb hd (hv H locs ls hW hS hl))
    · exact res_stuck hpc
  | ladd =>
    subst hnp
    simp only [stp]
    split
    · exact res_pl (hk _ _ _ _ _ _ _ hnr) (fun hv H locs ls hW hS hl => lv_ladd hx hb hd (hv H locs ls hW hS hl))
    · exact res_stuck hpc
  | lsub =>
    subst hnp
    simp only [stp]
    split
    · exact res_pl (hk _ _ _ _ _ _ _ hnr) (fun hv H locs ls hW hS hl => lv_lsub hx hb hd (hv H locs ls hW hS hl))
    · exact res_stuck hpc
  | lmul =>
    subst hnp
    simp only [stp]
    split
    · exact res_pl (hk _ _ _ _ _ _ _ hnr) (fun hv H locs ls hW hS hl => lv_lmul hx hb hd (hv H locs ls hW hS hl))
    · exact res_stuck hpc
  | lneg =>
    subst hnp
    simp only [stp]
    split
    · exact res_pl (hk _ _ _ _ _ _ _ hnr) (fun hv H locs ls hW hS hl => lv_lneg hx hb hd (hv H locs ls hW hS hl))
    · exact res_stuck hpc
  | i2f =>
    subst hnp
    simp only [stp]
    split
    · exact res_pl (hk _ _ _ _ _ _ _ hnr) (fun hv H locs ls hW hS hl => lv_i2f hx hb hd (hv H locs ls hW hS hl))
    · exact res_stuck hpc
  | i2d =>
    subst hnp
    simp only [stp]
    split
    · exact res_pl (hk _ _ _ _ _ _ _ hnr) (fun hv H locs ls hW hS hl => lv_i2d hx hb hd (hv H locs ls hW hS hl))
    · exact res_stuck hpc
  | l2d =>
    subst hnp
    simp only [stp]
    split
    · exact res_pl (hk _ _ _ _ _ _ _ hnr) (fun hv H locs ls hW hS hl => lv_l2d hx hb hd (hv H locs ls hW hS hl))
    · exact res_stuck hpc
  | f2i =>
    subst hnp
    simp only [stp]
    split
    · exact res_pl (hk _ _ _ _ _ _ _ hnr) (fun hv H locs ls hW hS hl => lv_f2i hx hb hd (hv H locs ls hW hS hl))
    · exact res_stuck hpc
  | d2l =>
    subst hnp
    simp only [stp]
    split
    · exact res_pl (hk _ _ _ _ _ _ _ hnr) (fun hv H locs ls hW hS hl => lv_d2l hx hb hd (hv H locs ls hW hS hl))
    · exact res_stuck hpc
  | iushr =>
    subst hnp
    simp only [stp]
    split
    · exact res_pl (hk _ _ _ _ _ _ _ hnr) (fun hv H locs ls hW hS hl => lv_iushr hx hb hd rfl (hv H locs ls hW hS hl))
    · exact res_stuck hpc
  | lshl =>
    subst hnp
    simp only [stp]
    split
    · exact res_pl (hk _ _ _ _ _ _ _ hnr) (fun hv H locs ls hW hS hl => lv_lshl hx hb hd rfl (hv H locs ls hW hS hl))
    · exact res_stuck hpc
  | i2l =>
    subst hnp
    simp only [stp]
    split
    · exact res_pl (hk _ _ _ _ _ _ _ hnr) (fun hv H locs ls hW hS hl => lv_i2l hx hb hd rfl (hv H locs ls hW hS hl))
    · exact res_stuck hpc
  | l2i =>
    subst hnp
    simp only [stp]
    split
    · exact res_pl (hk _ _ _ _ _ _ _ hnr) (fun hv H locs ls hW hS hl => lv_l2i hx hb hd rfl (hv H locs ls hW hS hl))
    · exact res_stuck hpc
  | idiv =>
    subst hnp
    simp only [stp]
    split
    · exact res_ob (hk _ _ _ _ _ _ _ hnr) (fun ho hv H locs ls hW hS hl => lv_idiv hx hb hd ho (hv H locs ls hW hS hl))
    · exact res_stuck hpc
  | irem =>
    subst hnp
    simp only [stp]
    split
    · exact res_ob (hk _ _ _ _ _ _ _ hnr) (fun ho hv H locs ls hW hS hl => lv_irem hx hb hd ho (hv H locs ls hW hS hl))
    · exact res_stuck hpc
  | ldiv =>
    subst hnp
    simp only [stp]
    split
    · exact res_ob (hk _ _ _ _ _ _ _ hnr) (fun ho hv H locs ls hW hS hl => lv_ldiv hx hb hd ho (hv H locs ls hW hS hl))
    · exact res_stuck hpc
  | lrem =>
    subst hnp
    simp only [stp]
    split
    · exact res_ob (hk _ _ _ _ _ _ _ hnr) (fun ho hv H locs ls hW hS hl => lv_lrem hx hb hd ho (hv H locs ls hW hS hl))
    · exact res_stuck hpc
  | fsub =>
    subst hnp
    simp only [stp]
    split
    · exact res_ob (hk _ _ _ _ _ _ _ hnr) (fun ho hv H locs ls hW hS hl => lv_fsub hx hb hd ho (hv H locs ls hW hS hl))
    · exact res_stuck hpc
  | fmul =>
    subst hnp
    simp only [stp]
    split
    · exact res_ob (hk _ _ _ _ _ _ _ hnr) (fun ho hv H locs ls hW hS hl => lv_fmul hx hb hd ho (hv H locs ls hW hS hl))
    · exact res_stuck hpc
  | fdiv =>
    subst hnp
    simp only [stp]
    split
    · exact res_ob (hk _ _ _ _ _ _ _ hnr) (fun ho hv H locs ls hW hS hl => lv_fdiv hx hb hd ho (hv H locs ls hW hS hl))
    · exact res_stuck hpc
  | dsub =>
    subst hnp
    simp only [stp]
    split
    · exact res_ob (hk _ _ _ _ _ _ _ hnr) (fun ho hv H locs ls hW hS hl => lv_dsub hx hb hd ho (hv H locs ls hW hS hl))
    · exact res_stuck hpc
  | dmul =>
    subst hnp
    simp only [stp]
    split
    · exact res_ob (hk _ _ _ _ _ _ _ hnr) (fun ho hv H locs ls hW hS hl => lv_dmul hx hb hd ho (hv H locs ls hW hS hl))
    · exact res_stuck hpc
  | ddiv =>
    subst hnp
    simp only [stp]
    split
    · exact res_ob (hk _ _ _ _ _ _ _ hnr) (fun ho hv H locs ls hW hS hl => lv_ddiv hx hb hd ho (hv H locs ls hW hS hl))
    · exact res_stuck hpc
  | lcmp =>
    subst hnp
    simp only [stp]
    split
    · exact res_pl (hk _ _ _ _ _ _ _ hnr) (fun hv H locs ls hW hS hl => W.lcmp hx hb hd (hv H locs ls hW hS hl))
    · exact res_stuck hpc
  | fcmp op =>
    subst hnp
    simp only [stp]
    split
    · exact res_pl (hk _ _ _ _ _ _ _ hnr) (fun hv H locs ls hW hS hl => lv_fcmp hx hb hd (hv H locs ls hW hS hl))
    · exact res_stuck hpc
  | dcmp op =>
    subst hnp
    simp only [stp]
    split
    · exact res_pl (hk _ _ _ _ _ _ _ hnr) (fun hv H locs ls hW hS hl => lv_dcmp hx hb hd (hv H locs ls hW hS hl))
    · exact res_stuck hpc
  | dup =>
    subst hnp
    simp only [stp]
    split
    · exact res_pl (hk _ _ _ _ _ _ _ hnr) (fun hv H locs ls hW hS hl => lv_dup hx hb hd rfl (hv H locs ls hW hS hl))
    · exact res_pl (hk _ _ _ _ _ _ _ hnr) (fun hv H locs ls hW hS hl => lv_dup hx hb hd rfl (hv H locs ls hW hS hl))
    · exact res_stuck hpc
  | dup2 =>
    subst hnp
    simp only [stp]
    split
    · exact res_pl (hk _ _ _ _ _ _ _ hnr) (fun hv H locs ls hW hS hl => lv_dup2_11 hx hb hd rfl rfl (hv H locs ls hW hS hl))
    · exact res_stuck hpc
  | goto off =>
    simp only [btB, decide_eq_true_eq] at hbt
    exact res_pl (hk _ _ _ _ _ _ _ htr) (fun hv H locs ls hW hS hl => lv_goto hx hb hd hbt (hv H locs ls hW hS hl))
  | ifCond cond off =>
    subst hnp
    simp only [btB, decide_eq_true_eq] at hbt
    cases cond with
    | eq =>
      simp only [stp]
      split
      · exact res_br hpc (fun ds O pc h => hk _ _ _ _ _ _ _ h) hnr htr (fun ho hv H locs ls hW hS hl => lv_if_eq hx hb hd hbt (fun _ => hv H locs ls hW hS hl) (fun hn => absurd ho hn)) (fun ho hv H locs ls hW hS hl => lv_if_eq hx hb hd hbt (fun hn => absurd hn ho) (fun _ => hv H locs ls hW hS hl))
      · exact res_stuck hpc
    | ne =>
      simp only [stp]
      split
      · exact res_br hpc (fun ds O pc h => hk _ _ _ _ _ _ _ h) hnr htr (fun ho hv H locs ls hW hS hl => lv_if_ne hx hb hd hbt (fun _ => hv H locs ls hW hS hl) (fun hn => absurd hn ho)) (fun ho hv H locs ls hW hS hl => lv_if_ne hx hb hd hbt (fun hn => absurd hn ho) (fun _ => hv H locs ls hW hS hl))
      · exact res_stuck hpc
    | lt =>
      simp only [stp]
      split
      · exact res_br hpc (fun ds O pc h => hk _ _ _ _ _ _ _ h) hnr htr (fun ho hv H locs ls hW hS hl => lv_if_lt hx hb hd hbt (fun _ => hv H locs ls hW hS hl) (fun hn => absurd ho hn)) (fun ho hv H locs ls hW hS hl => lv_if_lt hx hb hd hbt (fun hn => absurd hn ho) (fun _ => hv H locs ls hW hS hl))
      · exact res_stuck hpc
    | ge =>
      simp only [stp]
      split
      · exact res_br hpc (fun ds O pc h => hk _ _ _ _ _ _ _ h) hnr htr (fun ho hv H locs ls hW hS hl => lv_if_ge hx hb hd hbt (fun _ => hv H locs ls hW hS hl) (fun hn => absurd ho hn)) (fun ho hv H locs ls hW hS hl => lv_if_ge hx hb hd hbt (fun hn => absurd hn ho) (fun _ => hv H locs ls hW hS hl))
      · exact res_stuck hpc
    | gt =>
      simp only [stp]
      split
      · exact res_br hpc (fun ds O pc h => hk _ _ _ _ _ _ _ h) hnr htr (fun ho hv H locs ls hW hS hl => lv_if_gt hx hb hd hbt (fun _ => hv H locs ls hW hS hl) (fun hn => absurd ho hn)) (fun ho hv H locs ls hW hS hl => lv_if_gt hx hb hd hbt (fun hn => absurd hn ho) (fun _ => hv H locs ls hW hS hl))
      · exact res_stuck hpc
    | le =>
      simp only [stp]
      split
      · exact res_br hpc (fun ds O pc h => hk _ _ _ _ _ _ _ h) hnr htr (fun ho hv H locs ls hW hS hl => lv_if_le hx hb hd hbt (fun _ => hv H locs ls hW hS hl) (fun hn => absurd ho hn)) (fun ho hv H locs ls hW hS hl => lv_if_le hx hb hd hbt (fun hn => absurd hn ho) (fun _ => hv H locs ls hW hS hl))
      · exact res_stuck hpc
  | if_icmp cond off =>
    subst hnp
    simp only [btB, decide_eq_true_eq] at hbt
    cases cond with
    | eq =>
      simp only [stp]
      split
      · exact res_br hpc (fun ds O pc h => hk _ _ _ _ _ _ _ h) hnr htr (fun ho hv H locs ls hW hS hl => lv_icmp_eq hx hb hd hbt (fun _ => hv H locs ls hW hS hl) (fun hn => absurd ho hn)) (fun ho hv H locs ls hW hS hl => lv_icmp_eq hx hb hd hbt (fun hn => absurd hn ho) (fun _ => hv H locs ls hW hS hl))
      · exact res_stuck hpc
    | ne =>
      simp only [stp]
      split
      · exact res_br hpc (fun ds O pc h => hk _ _ _ _ _ _ _ h) hnr htr (fun ho hv H locs ls hW hS hl => lv_icmp_ne hx hb hd hbt (fun _ => hv H locs ls hW hS hl) (fun hn => absurd hn ho)) (fun ho hv H locs ls hW hS hl => lv_icmp_ne hx hb hd hbt (fun hn => absurd hn ho) (fun _ => hv H locs ls hW hS hl))
      · exact res_stuck hpc
    | lt =>
      simp only [stp]
      split
      · exact res_br hpc (fun ds O pc h => hk _ _ _ _ _ _ _ h) hnr htr (fun ho hv H locs ls hW hS hl => lv_icmp_lt hx hb hd hbt (fun _ => hv H locs ls hW hS hl) (fun hn => absurd ho hn)) (fun ho hv H locs ls hW hS hl => lv_icmp_lt hx hb hd hbt (fun hn => absurd hn ho) (fun _ => hv H locs ls hW hS hl))
      · exact res_stuck hpc
    | ge =>
      simp only [stp]
      split
      · exact res_br hpc (fun ds O pc h => hk _ _ _ _ _ _ _ h) hnr htr (fun ho hv H locs ls hW hS hl => lv_icmp_ge hx hb hd hbt (fun _ => hv H locs ls hW hS hl) (fun hn => absurd ho hn)) (fun ho hv H locs ls hW hS hl => lv_icmp_ge hx hb hd hbt (fun hn => absurd hn ho) (fun _ => hv H locs ls hW hS hl))
      · exact res_stuck hpc
    | gt =>
      simp only [stp]
      split
      · exact res_br hpc (fun ds O pc h => hk _ _ _ _ _ _ _ h) hnr htr (fun ho hv H locs ls hW hS hl => lv_icmp_gt hx hb hd hbt (fun _ => hv H locs ls hW hS hl) (fun hn => absurd ho hn)) (fun ho hv H locs ls hW hS hl => lv_icmp_gt hx hb hd hbt (fun hn => absurd hn ho) (fun _ => hv H locs ls hW hS hl))
      · exact res_stuck hpc
    | le =>
      simp only [stp]
      split
      · exact res_br hpc (fun ds O pc h => hk _ _ _ _ _ _ _ h) hnr htr (fun ho hv H locs ls hW hS hl => lv_icmp_le hx hb hd hbt (fun _ => hv H locs ls hW hS hl) (fun hn => absurd ho hn)) (fun ho hv H locs ls hW hS hl => lv_icmp_le hx hb hd hbt (fun hn => absurd hn ho) (fun _ => hv H locs ls hW hS hl))
      · exact res_stuck hpc
  | getfield ix =>
    subst hnp
    simp only [stp]
    split
    · split
      · next hf =>
        refine res_ob (hk _ _ _ _ _ _ _ hnr) (fun ho hv H locs ls hW hS hl => ?_)
        obtain ⟨hlt, hP⟩ := wd_obj (ci := 0) hC hW ho
        obtain ⟨Cn, T, NF, ty0, f1, f2, f3, f4, f5, f6, f7, f8, f9, f10, f11, f12, f13⟩ := hF _ _ _ _ _ hf
        exact va_get (D := D) (ref := Cn) (C := Cn) (T := T) (N := NF) hx hb hts f3 hown hK hP 0 rfl f1 _ f2 (hts _ f4) (fun x h => by rw [← f5]; exact h) ((fdv_get ad I L _ _ 0 _ _ _ f6).trans (by simp [cz])) hd (hv H locs ls hW hS hl)
      · next hf =>
        refine res_ob (hk _ _ _ _ _ _ _ hnr) (fun ho hv H locs ls hW hS hl => ?_)
        obtain ⟨hlt, hP⟩ := wd_obj (ci := 0) hC hW ho
        obtain ⟨Cn, T, NF, ty0, f1, f2, f3, f4, f5, f6, f7, f8, f9, f10, f11, f12, f13⟩ := hF _ _ _ _ _ hf
        exact va_get (D := D) (ref := Cn) (C := Cn) (T := T) (N := NF) hx hb hts f3 hown hK hP 0 rfl f1 _ f2 (hts _ f4) (fun x h => by rw [← f5]; exact h) ((fdv_get ad I L _ _ 0 _ _ _ f6).trans (by simp [cz])) hd (hv H locs ls hW hS hl)
      · next hf =>
        split
        · refine res_ob (hk _ _ _ _ _ _ _ hnr) (fun ho hv H locs ls hW hS hl => ?_)
          obtain ⟨ho, rfl⟩ := ho
          obtain ⟨hlt, hP⟩ := wd_obj (ci := 0) hC hW ho
          obtain ⟨Cn, T, NF, ty0, f1, f2, f3, f4, f5, f6, f7, f8, f9, f10, f11, f12, f13⟩ := hF _ _ _ _ _ hf
          exact va_get (D := D) (ref := Cn) (C := Cn) (T := T) (N := NF) hx hb hts f3 hown hK hP 0 rfl f1 _ f2 (hts _ f4) (fun x h => by rw [← f5]; exact h) ((fdv_get ad I L _ _ 0 _ _ _ f6).trans (by simp [cz])) hd (hv H locs ls hW hS hl)
        · exact res_stuck hpc
      · next hf =>
        refine res_ob (hk _ _ _ _ _ _ _ hnr) (fun ho hv H locs ls hW hS hl => ?_)
        obtain ⟨hlt, hP⟩ := wd_obj (ci := 0) hC hW ho
        obtain ⟨Cn, T, NF, ty0, f1, f2, f3, f4, f5, f6, f7, f8, f9, f10, f11, f12, f13⟩ := hF _ _ _ _ _ hf
        exact va_get (D := D) (ref := Cn) (C := Cn) (T := T) (N := NF) hx hb hts f3 hown hK hP 0 rfl f1 _ f2 (hts _ f4) (fun x h => by rw [← f5]; exact h) ((fdv_get ad I L _ _ 0 _ _ _ f6).trans (by simp [cz])) hd (hv H locs ls hW hS hl)
      · exact res_stuck hpc
    · exact res_stuck hpc
  | putfield ix =>
    subst hnp
    simp only [stp]
    split
    · split
      · next hf => exact res_ob (hk _ _ _ _ _ _ _ hnr) (fun ho hv H locs ls hW hS hl => putI_row hC hF hf ho (Or.inl ⟨rfl, rfl⟩) hW hS hd (fun H1 locs1 hW1 hS1 => hv H1 locs1 ls hW1 hS1 hl))
      · next hf => exact res_ob (hk _ _ _ _ _ _ _ hnr) (fun ho hv H locs ls hW hS hl => putI_row hC hF hf ho.1 (Or.inr ⟨rfl, ho.2⟩) hW hS hd (fun H1 locs1 hW1 hS1 => hv H1 locs1 ls hW1 hS1 hl))
      · exact res_stuck hpc
    · split
      · next hf => exact res_ob (hk _ _ _ _ _ _ _ hnr) (fun ho hv H locs ls hW hS hl => putL_row hC hF hf ho hW hS hd (fun H1 locs1 hW1 hS1 => hv H1 locs1 ls hW1 hS1 hl))
      · exact res_stuck hpc
    · exact res_stuck hpc
  | iaload =>
    subst hnp
    simp only [stp]
    split
    · split
      · refine res_ob (hk _ _ _ _ _ _ _ hnr) (fun ho hv H locs ls hW hS hl => ?_)
        obtain ⟨hkd1, rfl, hj⟩ := ho
        exact aldI_row hC hkd1 hj hW hd (hv H locs ls hW hS hl)
      · exact res_stuck hpc
    · exact res_stuck hpc
  | laload =>
    subst hnp
    simp only [stp]
    split
    · split
      · refine res_ob (hk _ _ _ _ _ _ _ hnr) (fun ho hv H locs ls hW hS hl => ?_)
        obtain ⟨hkd1, rfl, hj⟩ := ho
        exact aldL_row hC hkd1 hj hW hd (hv H locs ls hW hS hl)
      · exact res_stuck hpc
    · exact res_stuck hpc
  | baload =>
    subst hnp
    simp only [stp]
    split
    · split
      · refine res_ob (hk _ _ _ _ _ _ _ hnr) (fun ho hv H locs ls hW hS hl => ?_)
        obtain ⟨hkd1, rfl, hj⟩ := ho
        exact aldZ_row hC hkd1 hj hW hd (hv H locs ls hW hS hl)
      · exact res_stuck hpc
    · exact res_stuck hpc
  | aaload =>
    subst hnp
    simp only [stp]
    split
    · split
      · refine res_ob (hk _ _ _ _ _ _ _ hnr) (fun ho hv H locs ls hW hS hl => ?_)
        obtain ⟨⟨w, hkd1, rfl⟩, h4, h6, rfl, hj⟩ := ho
        obtain ⟨hlt, hP⟩ := wd_arrQ hC hW h4 h6 hkd1
        exact aald_row hx hb hK h4 h6 hP hj hkd.2 hkd1 hd (hv H locs ls hW hS hl)
      · exact res_stuck hpc
    · exact res_stuck hpc
  | iastore =>
    subst hnp
    simp only [stp]
    split
    · split
      · refine res_ob (hk _ _ _ _ _ _ _ hnr) (fun ho hv H locs ls hW hS hl => ?_)
        obtain ⟨hkd1, rfl, hj⟩ := ho
        exact astI_row hC hkd1 hj hW hS hd (fun H1 locs1 hW1 hS1 => hv H1 locs1 ls hW1 hS1 hl)
      · exact res_stuck hpc
    · exact res_stuck hpc
  | lastore =>
    subst hnp
    simp only [stp]
    split
    · split
      · refine res_ob (hk _ _ _ _ _ _ _ hnr) (fun ho hv H locs ls hW hS hl => ?_)
        obtain ⟨hkd1, rfl, hj⟩ := ho
        exact astL_row hC hkd1 hj hW hS hd (fun H1 locs1 hW1 hS1 => hv H1 locs1 ls hW1 hS1 hl)
      · exact res_stuck hpc
    · exact res_stuck hpc
  | bastore =>
    subst hnp
    simp only [stp]
    split
    · split
      · refine res_ob (hk _ _ _ _ _ _ _ hnr) (fun ho hv H locs ls hW hS hl => ?_)
        obtain ⟨hkd1, rfl, hj, h01⟩ := ho
        exact astZ_row hC hkd1 hj h01 hW hS hd (fun H1 locs1 hW1 hS1 => hv H1 locs1 ls hW1 hS1 hl)
      · exact res_stuck hpc
    · exact res_stuck hpc
  | ireturn =>
    simp only [stp]
    split
    · exact res_ret (fun he => hret _ _ _ _ _ _ hd hrb (Or.inl ⟨rfl, _, rfl⟩) he)
    · exact res_stuck hpc
  | lreturn =>
    simp only [stp]
    split
    · exact res_ret (fun he => hret _ _ _ _ _ _ hd hrb (Or.inr (Or.inl ⟨rfl, _, rfl⟩)) he)
    · exact res_stuck hpc
  | freturn =>
    simp only [stp]
    split
    · exact res_ret (fun he => hret _ _ _ _ _ _ hd hrb (Or.inr (Or.inr (Or.inl ⟨rfl, _, rfl⟩))) he)
    · exact res_stuck hpc
  | dreturn =>
    simp only [stp]
    split
    · exact res_ret (fun he => hret _ _ _ _ _ _ hd hrb (Or.inr (Or.inr (Or.inr (Or.inl ⟨rfl, _, rfl⟩)))) he)
    · exact res_stuck hpc
  | return_ =>
    simp only [stp]
    split
    · exact res_ret (fun he => hret _ _ _ _ _ _ hd hrb (Or.inr (Or.inr (Or.inr (Or.inr ⟨rfl, rfl⟩)))) he)
    · exact res_stuck hpc
  | _ => exact res_stuck hpc
end SND
