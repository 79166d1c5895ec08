/-! SOUNDNESS of the small machine -/
def ilen : Instr → Nat
  | .bipush _ => 2
  | .sipush _ => 3
  | .ldc _ => 2
  | .ldc_w _ => 3
  | .ldc2_w _ => 3
  | .iload _ => 2
  | .lload _ => 2
  | .fload _ => 2
  | .dload _ => 2
  | .aload _ => 2
  | .istore _ => 2
  | .lstore _ => 2
  | .fstore _ => 2
  | .dstore _ => 2
  | .astore _ => 2
  | .iinc _ _ => 3
  | .goto _ => 3
  | .ifCond _ _ => 3
  | .if_icmp _ _ => 3
  | .getfield _ => 3
  | .putfield _ => 3
  | .invokevirtual _ => 3
  | .invokestatic _ => 3
  | .invokespecial _ => 3
  | .new _ => 3
  | .newarray _ => 2
  | .anewarray _ => 3
  | .multianewarray _ _ => 4
  | _ => 1
def btB (ins : Instr) (pc tg : Nat) : Bool := match ins with
  | .goto off => decide ((pc : Int) + off = (tg : Int))
  | .ifCond _ off => decide ((pc : Int) + off = (tg : Int))
  | .if_icmp _ off => decide ((pc : Int) + off = (tg : Int))
  | _ => true
def cvB (own : String) (ins : Instr) (cv : Value) : Bool := match ins with
  | .iconst n => decide (cv = .int (Int32.ofInt n))
  | .bipush n => decide (cv = .int (Int8.ofInt n).toInt32)
  | .sipush n => decide (cv = .int (Int16.ofInt n).toInt32)
  | .lconst n => decide (cv = .long (Int64.ofNat n.val))
  | .fconst n => (decide (n = 0 ∧ cv = .float 0) || decide (n = 1 ∧ cv = .float 1065353216)) || decide (n = 2 ∧ cv = .float 1073741824)
  | .dconst n => decide (n = 0 ∧ cv = .double 0) || decide (n = 1 ∧ cv = .double 4607182418800017408)
  | .iinc _ n => decide (cv = .int (Int32.ofInt n))
  | .ldc ix => (match cv with
    | .int v => decide (Cond.constant own ix v ∈ WB)
    | .float v => decide (Cond.constantFloat own ix v ∈ WB)
    | _ => false)
  | .ldc_w ix => (match cv with
    | .int v => decide (Cond.constant own ix v ∈ WB)
    | _ => false)
  | .ldc2_w ix => (match cv with
    | .long v => decide (Cond.constantLong own ix v ∈ WB)
    | .double v => decide (Cond.constantDouble own ix v ∈ WB)
    | _ => false)
  | _ => true
def okE (cc : ByteArray) (own : String) (q : En) : Bool := decide (decode cc q.1 = .ok (q.2.1, ilen q.2.1)) && Nat.beq q.2.2.1 (q.1 + ilen q.2.1) && btB q.2.1 q.1 q.2.2.2.1 && cvB own q.2.1 q.2.2.2.2 && (Nat.ble q.1 65535 && (Nat.ble q.2.2.1 65535 && Nat.ble q.2.2.2.1 65535))
def okP (cc : ByteArray) (own : String) (P : List En) : Bool := P.all (okE cc own)
theorem lk_mem : ∀ (P : List En) {pc : Nat} {r : Instr × Nat × Nat × Value}, lk P pc = some r → (pc, r) ∈ P
  | [], pc, r, h => by simp [lk] at h
  | (q, z) :: t, pc, r, h => by
    simp only [lk] at h
    cases hq : Nat.beq q pc with
    | true =>
      rw [hq] at h
      simp only [cond_true, Option.some.injEq] at h
      rw [Nat.eq_of_beq_eq_true hq, h]
      exact List.mem_cons_self
    | false =>
      rw [hq] at h
      simp only [cond_false] at h
      exact List.mem_cons_of_mem _ (lk_mem t h)
/-- what is known of an instruction that the table names -/
def InsOK (cc : ByteArray) (own : String) (pc : Nat) (ins : Instr) (np tg : Nat) (cv : Value) : Prop := decode cc pc = .ok (ins, ilen ins) ∧ np = pc + ilen ins ∧ btB ins pc tg = true ∧ cvB own ins cv = true ∧ pc < RET ∧ np < RET ∧ tg < RET
theorem insOK_of {cc : ByteArray} {own : String} {P : List En} (h : okP cc own P = true) {pc : Nat} {ins : Instr} {np tg : Nat} {cv : Value} (hl : lk P pc = some (ins, np, tg, cv)) : InsOK cc own pc ins np tg cv := by
  have h1 := List.all_eq_true.mp h _ (lk_mem P hl)
  simp only [okE, Bool.and_eq_true, decide_eq_true_eq, Nat.ble_eq] at h1
  obtain ⟨⟨⟨⟨a, b⟩, c⟩, d⟩, e1, e2, e3⟩ := h1
  exact ⟨a, Nat.eq_of_beq_eq_true b, c, d, by unfold RET; omega, by unfold RET; omega, by unfold RET; omega⟩
/-- what is known of a field that the table names -/
def FOK (own : String) (F : Ft) : Prop := ∀ ix ci j t off, F ix = some (ci, j, t, off) → ∃ (C : String) (T : u_T) (NF : Nat) (ty0 : Nat → FieldType), vwCl[ci]? = some (C, T, NF) ∧ j < NF ∧ (∀ w ∈ u_ws C T NF, w ∈ WB) ∧ Cond.fieldLink own ix C (T j).2.1 (T j).2.2.1 ∈ WB ∧ (T j).1 = C ∧ (FD ci)[j]? = some (t, off) ∧ (FD ci).length = NF ∧ (∀ k, k < NF → parseFieldDescriptor (T k).2.2.1 = some (ty0 k)) ∧ (∀ a, a < NF → ∀ b, b < NF → a ≠ b → (T a).2.1 ≠ (T b).2.1) ∧ (t ≠ 2 → (T j).2.2.2 = false) ∧ (t = 0 → ty0 j = .int) ∧ (t = 1 → ty0 j = .long) ∧ (t = 3 → ty0 j = .boolean)
/-- the fixed part of a walk -/
def Cx (p : Program) (s : State) (m : MethodId) (args : Array Value) (c : Code) (cc : ByteArray) (nL : Nat) (own : String) (D : va_G) (cy : Nat → ClassId) (kd : KdT) (ad : Nat → Nat) (N : Nat) : Prop :=
  p.tables.exec = Jvm.exec ∧ c.code = cc ∧ c.maxLocals = nL ∧ s.vm.findClass own = some m.cls ∧ (∀ w ∈ WB, w.before args s = true) ∧ va_K D vwCl (tysC cy) s ∧ inj ad N ∧ kdOK kd N
def VV (p : Program) (l : Launch) (e : Env) (R : Room) (s : State) (m : MethodId) (args : Array Value) (below : List Frame) (meth : Method) (c : Code) (Q : State → Prop) (nL : Nat) (D : va_G) (cy : Nat → ClassId) (kd : KdT) (ad : Nat → Nat) (N : Nat) (pc : Nat) (lv : LV) (st : List Value) (I : IM) (L : LM) : Prop :=
  ∀ (H : Heap) (locs : List Loc) (ls : Array Slot), wd D cy kd ad N I L H → va_S (AA ad N) s.heap H locs → lv_has ls nL (lv.map fun q => (q.1, cz ad q.2)) → W p l e R s m args below meth c H locs 0 0 Q (F0 m pc ls (st.map (cz ad)))
/-- at the end: what is to hold of the answer and the memory -/
def VR (V : Nat → LV → List Value → IM → LM → Prop) (E : List Value → IM → LM → Prop) (r : Rs) : Prop := if r.2.1 = RET then E r.2.2.2.1 r.2.2.2.2.1 r.2.2.2.2.2 else V r.2.1 r.2.2.1 r.2.2.2.1 r.2.2.2.2.1 r.2.2.2.2.2
def Res (V : Nat → LV → List Value → IM → LM → Prop) (E : List Value → IM → LM → Prop) (O : Prop) (r : Rs) (G : Prop) : Prop := (r.1 → O) ∧ (r.1 → VR V E r → G)
section RES
variable {V : Nat → LV → List Value → IM → LM → Prop} {E : List Value → IM → LM → Prop} {O ob G G' : Prop} {r : Rs}
theorem res_pl (h : Res V E O r G') (g : G' → G) : Res V E O r G := ⟨h.1, fun a b => g (h.2 a b)⟩
theorem res_ob (h : Res V E (O ∧ ob) r G') (g : ob → G' → G) : Res V E O r G := ⟨fun a => (h.1 a).1, fun a b => g (h.1 a).2 (h.2 a b)⟩
theorem res_stuck {pc : Nat} {lv : LV} {st : List Value} {I : IM} {L : LM} (h : pc < RET) : Res V E O (O, pc, lv, st, I, L) (V pc lv st I L) := ⟨id, fun _ b => by simpa [VR, Nat.ne_of_lt h] using b⟩
theorem res_ret {lv : LV} {st : List Value} {I : IM} {L : LM} (g : E st I L → G) : Res V E O (O, RET, lv, st, I, L) G := ⟨id, fun _ b => g (by simpa [VR] using b)⟩
theorem res_br {k : Kt} {P : Prop} {np tg : Nat} {ds : List (Nat × Nat)} {pc : Nat} {lv : LV} {st0 st : List Value} {I : IM} {L : LM} (hpc : pc < RET) (hk : ∀ ds O pc, pc < RET → Res V E O (k ds O pc lv st I L) (V pc lv st I L)) (hn : np < RET) (ht : tg < RET) (gt : P → V tg lv st I L → V pc lv st0 I L) (gf : ¬ P → V np lv st I L → V pc lv st0 I L) : Res V E O (brr k P np tg ds O pc lv st0 st I L) (V pc lv st0 I L) := by
  unfold brr
  split
  · exact res_ob (hk _ _ _ ht) gt
  · exact res_ob (hk _ _ _ hn) gf
  · exact res_stuck hpc
end RES
theorem gl_get {ls : Array Slot} {nL : Nat} {ad : Nat → Nat} : ∀ {lv : LV} {i : Nat} {v : Value}, gl lv i = some v → (∀ q ∈ lv.map (fun q => (q.1, cz ad q.2)), ls[q.1]? = some (.val q.2)) → ls[i]? = some (.val (cz ad v))
  | [], _, _, h, _ => by simp [gl] at h
  | (j, w) :: t, i, v, h, hl => by
    simp only [gl] at h
    cases hq : Nat.beq j i with
    | true =>
      rw [hq] at h
      simp only [cond_true, Option.some.injEq] at h
      have := hl (j, cz ad w) (by simp)
      rw [← Nat.eq_of_beq_eq_true hq, ← h]
      exact this
    | false =>
      rw [hq] at h
      simp only [cond_false] at h
      exact gl_get (nL := nL) h (fun q hq2 => hl q (by rw [List.map_cons]; exact List.mem_cons_of_mem _ hq2))
/-- the list behind a store, told by its members -/
def lvOK1 (i : Nat) (v : Value) (lv lv' : LV) : Prop := ∀ q ∈ lv', q = (i, v) ∨ (q ∈ lv ∧ q.1 ≠ i ∧ ¬ (q.1 + 1 = i ∧ q.2.category = 2))
def lvOK2 (i : Nat) (v : Value) (lv lv' : LV) : Prop := ∀ q ∈ lv', q = (i, v) ∨ (q ∈ lv ∧ q.1 ≠ i ∧ q.1 ≠ i + 1 ∧ ¬ (q.1 + 1 = i ∧ q.2.category = 2))
theorem fil1_ok (i : Nat) : ∀ (lv : LV) (k : LV → Rs), ∃ lv', fil1 i lv k = k lv' ∧ ∀ q ∈ lv', q ∈ lv ∧ q.1 ≠ i ∧ ¬ (q.1 + 1 = i ∧ q.2.category = 2)
  | [], k => ⟨[], rfl, fun q h => by cases h⟩
  | (j, w) :: t, k => by
    simp only [fil1]
    cases hq : (Nat.beq j i || (Nat.beq (j + 1) i && Nat.beq w.category 2)) with
    | true =>
      obtain ⟨lv', h1, h2⟩ := fil1_ok i t k
      exact ⟨lv', h1, fun q h => ⟨List.mem_cons_of_mem _ (h2 q h).1, (h2 q h).2⟩⟩
    | false =>
      obtain ⟨lv', h1, h2⟩ := fil1_ok i t (fun t' => k ((j, w) :: t'))
      refine ⟨(j, w) :: lv', h1, fun q h => ?_⟩
      rcases List.mem_cons.mp h with rfl | h
      · simp only [Bool.or_eq_false_iff, Bool.and_eq_false_iff] at hq
        refine ⟨List.mem_cons_self, fun z => ?_, fun z => ?_⟩
        · simp at z
          rw [z] at hq
          simp at hq
        · obtain ⟨z1, z2⟩ := z
          simp at z1 z2
          rw [z1, z2] at hq
          simp at hq
      · exact ⟨List.mem_cons_of_mem _ (h2 q h).1, (h2 q h).2⟩
theorem sl1_ok (i : Nat) (v : Value) : ∀ (lv : LV) (k : LV → Rs), ∃ lv', sl1 i v lv k = k lv' ∧ lvOK1 i v lv lv'
  | [], k => ⟨[(i, v)], rfl, fun q h => Or.inl (List.mem_singleton.mp h)⟩
  | (j, w) :: t, k => by
    simp only [sl1]
    cases hq : Nat.ble i j with
    | true =>
      obtain ⟨lv', h1, h2⟩ := fil1_ok i ((j, w) :: t) (fun t' => k ((i, v) :: t'))
      refine ⟨(i, v) :: lv', h1, fun q h => ?_⟩
      rcases List.mem_cons.mp h with rfl | h
      · exact Or.inl rfl
      · exact Or.inr (h2 q h)
    | false =>
      simp only [cond_false]
      have hji : j < i := by
        rcases Nat.lt_or_ge j i with h | h
        · exact h
        · rw [Nat.ble_eq.mpr h] at hq; cases hq
      cases hq2 : (Nat.beq (j + 1) i && Nat.beq w.category 2) with
      | true =>
        obtain ⟨lv', h1, h2⟩ := sl1_ok i v t k
        refine ⟨lv', h1, fun q h => ?_⟩
        rcases h2 q h with h | h
        · exact Or.inl h
        · exact Or.inr ⟨List.mem_cons_of_mem _ h.1, h.2⟩
      | false =>
        obtain ⟨lv', h1, h2⟩ := sl1_ok i v t (fun t' => k ((j, w) :: t'))
        refine ⟨(j, w) :: lv', h1, fun q h => ?_⟩
        rcases List.mem_cons.mp h with rfl | h
        · refine Or.inr ⟨List.mem_cons_self, Nat.ne_of_lt hji, fun z => ?_⟩
          obtain ⟨z1, z2⟩ := z
          simp at z1 z2
          rw [z1, z2] at hq2
          simp at hq2
        · rcases h2 q h with h | h
          · exact Or.inl h
          · exact Or.inr ⟨List.mem_cons_of_mem _ h.1, h.2⟩
theorem fil2_ok (i : Nat) : ∀ (lv : LV) (k : LV → Rs), ∃ lv', fil2 i lv k = k lv' ∧ ∀ q ∈ lv', q ∈ lv ∧ q.1 ≠ i ∧ q.1 ≠ i + 1 ∧ ¬ (q.1 + 1 = i ∧ q.2.category = 2)
  | [], k => ⟨[], rfl, fun q h => by cases h⟩
  | (j, w) :: t, k => by
    simp only [fil2]
    cases hq : (Nat.beq j i || (Nat.beq j (i + 1) || (Nat.beq (j + 1) i && Nat.beq w.category 2))) with
    | true =>
      obtain ⟨lv', h1, h2⟩ := fil2_ok i t k
      exact ⟨lv', h1, fun q h => ⟨List.mem_cons_of_mem _ (h2 q h).1, (h2 q h).2⟩⟩
    | false =>
      obtain ⟨lv', h1, h2⟩ := fil2_ok i t (fun t' => k ((j, w) :: t'))
      refine ⟨(j, w) :: lv', h1, fun q h => ?_⟩
      rcases List.mem_cons.mp h with rfl | h
      · refine ⟨List.mem_cons_self, fun z => ?_, fun z => ?_, fun z => ?_⟩
        · simp at z
          rw [z] at hq
          simp at hq
        · simp at z
          rw [z] at hq
          simp at hq
        · obtain ⟨z1, z2⟩ := z
          simp at z1 z2
          rw [z1, z2] at hq
          simp at hq
      · exact ⟨List.mem_cons_of_mem _ (h2 q h).1, (h2 q h).2⟩
theorem sl2_ok (i : Nat) (v : Value) : ∀ (lv : LV) (k : LV → Rs), ∃ lv', sl2 i v lv k = k lv' ∧ lvOK2 i v lv lv'
  | [], k => ⟨[(i, v)], rfl, fun q h => Or.inl (List.mem_singleton.mp h)⟩
  | (j, w) :: t, k => by
    simp only [sl2]
    cases hq : Nat.ble i j with
    | true =>
      obtain ⟨lv', h1, h2⟩ := fil2_ok i ((j, w) :: t) (fun t' => k ((i, v) :: t'))
      refine ⟨(i, v) :: lv', h1, fun q h => ?_⟩
      rcases List.mem_cons.mp h with rfl | h
      · exact Or.inl rfl
      · exact Or.inr (h2 q h)
    | false =>
      simp only [cond_false]
      have hji : j < i := by
        rcases Nat.lt_or_ge j i with h | h
        · exact h
        · rw [Nat.ble_eq.mpr h] at hq; cases hq
      cases hq2 : (Nat.beq (j + 1) i && Nat.beq w.category 2) with
      | true =>
        obtain ⟨lv', h1, h2⟩ := sl2_ok i v t k
        refine ⟨lv', h1, fun q h => ?_⟩
        rcases h2 q h with h | h
        · exact Or.inl h
        · exact Or.inr ⟨List.mem_cons_of_mem _ h.1, h.2⟩
      | false =>
        obtain ⟨lv', h1, h2⟩ := sl2_ok i v t (fun t' => k ((j, w) :: t'))
        refine ⟨(j, w) :: lv', h1, fun q h => ?_⟩
        rcases List.mem_cons.mp h with rfl | h
        · refine Or.inr ⟨List.mem_cons_self, Nat.ne_of_lt hji, fun z => ?_, fun z => ?_⟩
          · simp at z
            omega
          · obtain ⟨z1, z2⟩ := z
            simp at z1 z2
            rw [z1, z2] at hq2
            simp at hq2
        · rcases h2 q h with h | h
          · exact Or.inl h
          · exact Or.inr ⟨List.mem_cons_of_mem _ h.1, h.2⟩
theorem lvOK1_has {ls : Array Slot} {nL i : Nat} {v : Value} {lv lv' : LV} {ad : Nat → Nat} (h : lvOK1 i v lv lv') (hl : lv_has ls nL ((i, cz ad v) :: (lv.map fun q => (q.1, cz ad q.2)).filter (fun q => !(q.1 == i) && !(q.1 + 1 == i && q.2.category == 2)))) : lv_has ls nL (lv'.map fun q => (q.1, cz ad q.2)) := by
  refine ⟨hl.1, hl.2.1, fun q hq => hl.2.2 q ?_⟩
  obtain ⟨z, hz, rfl⟩ := List.mem_map.mp hq
  rcases h z hz with rfl | ⟨h1, h2, h3⟩
  · exact List.mem_cons_self
  · refine List.mem_cons_of_mem _ (List.mem_filter.mpr ⟨List.mem_map.mpr ⟨z, h1, rfl⟩, ?_⟩)
    simp only [cz_cat]
    simp
    exact ⟨h2, Classical.not_and_iff_not_or_not.mp h3⟩
theorem lvOK2_has {ls : Array Slot} {nL i : Nat} {v : Value} {lv lv' : LV} {ad : Nat → Nat} (h : lvOK2 i v lv lv') (hl : lv_has ls nL ((i, cz ad v) :: (lv.map fun q => (q.1, cz ad q.2)).filter (fun q => !(q.1 == i) && (!(q.1 == i + 1) && !(q.1 + 1 == i && q.2.category == 2))))) : lv_has ls nL (lv'.map fun q => (q.1, cz ad q.2)) := by
  refine ⟨hl.1, hl.2.1, fun q hq => hl.2.2 q ?_⟩
  obtain ⟨z, hz, rfl⟩ := List.mem_map.mp hq
  rcases h z hz with rfl | ⟨h1, h2, h3, h4⟩
  · exact List.mem_cons_self
  · refine List.mem_cons_of_mem _ (List.mem_filter.mpr ⟨List.mem_map.mpr ⟨z, h1, rfl⟩, ?_⟩)
    simp only [cz_cat]
    simp
    exact ⟨h2, h3, Classical.not_and_iff_not_or_not.mp h4⟩

