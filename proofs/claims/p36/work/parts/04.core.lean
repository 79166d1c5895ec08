/-! THE SMALL MACHINE: a run of plain instructions over numbered cells, and that the machine itself follows it -/
def WB : List Cond := lw_tbl.filter goodWord
abbrev IM : Type := Nat → Nat → Int32
abbrev LM : Type := Nat → Nat → Int64
abbrev LV : Type := List (Nat × Value)
abbrev Rs : Type := Prop × Nat × LV × List Value × IM × LM
abbrev Kt : Type := List (Nat × Nat) → Prop → Nat → LV → List Value → IM → LM → Rs
abbrev En : Type := Nat × Instr × Nat × Nat × Value
abbrev Ft : Type := Nat → Option (Nat × Nat × Nat × Nat)
abbrev KdT : Type := Nat → Nat × Nat × Nat
/-- one place of a memory changed -/
def mu {α : Type} (f : Nat → Nat → α) (c j : Nat) (v : α) : Nat → Nat → α := fun a b => if a = c ∧ b = j then v else f a b
def gl : LV → Nat → Option Value
  | [], _ => none
  | (j, v) :: t, i => bif Nat.beq j i then some v else gl t i
def fil1 (i : Nat) : LV → (LV → Rs) → Rs
  | [], k => k []
  | (j, w) :: t, k => bif Nat.beq j i || (Nat.beq (j + 1) i && Nat.beq w.category 2) then fil1 i t k else fil1 i t (fun t' => k ((j, w) :: t'))
def sl1 (i : Nat) (v : Value) : LV → (LV → Rs) → Rs
  | [], k => k [(i, v)]
  | (j, w) :: t, k => bif Nat.ble i j then fil1 i ((j, w) :: t) (fun t' => k ((i, v) :: t')) else bif Nat.beq (j + 1) i && Nat.beq w.category 2 then sl1 i v t k else sl1 i v t (fun t' => k ((j, w) :: t'))
def fil2 (i : Nat) : LV → (LV → Rs) → Rs
  | [], k => k []
  | (j, w) :: t, k => bif Nat.beq j i || (Nat.beq j (i + 1) || (Nat.beq (j + 1) i && Nat.beq w.category 2)) then fil2 i t k else fil2 i t (fun t' => k ((j, w) :: t'))
def sl2 (i : Nat) (v : Value) : LV → (LV → Rs) → Rs
  | [], k => k [(i, v)]
  | (j, w) :: t, k => bif Nat.ble i j then fil2 i ((j, w) :: t) (fun t' => k ((i, v) :: t')) else bif Nat.beq (j + 1) i && Nat.beq w.category 2 then sl2 i v t k else sl2 i v t (fun t' => k ((j, w) :: t'))
def lk : List En → Nat → Option (Instr × Nat × Nat × Value)
  | [], _ => none
  | (q, r) :: t, pc => bif Nat.beq q pc then some r else lk t pc
/-- a branch, taken as the list of choices says -/
def brr (k : Kt) (P : Prop) (np tg : Nat) (ds : List (Nat × Nat)) (O : Prop) (pc : Nat) (lv : LV) (st0 st : List Value) (I : IM) (L : LM) : Rs :=
  match ds with
  | (1, _) :: ds' => k ds' (O ∧ P) tg lv st I L
  | (0, _) :: ds' => k ds' (O ∧ ¬ P) np lv st I L
  | _ => (O, pc, lv, st0, I, L)
def RET : Nat := 100000
/-- one instruction -/
def stp (kd : KdT) (F : Ft) (k : Kt) (ins : Instr) (np tg : Nat) (cv : Value) (ds : List (Nat × Nat)) (O : Prop) (pc : Nat) (lv : LV) (st : List Value) (I : IM) (L : LM) : Rs :=
  match ins with
  | .iconst _ => k ds O np lv (cv :: st) I L
  | .bipush _ => k ds O np lv (cv :: st) I L
  | .sipush _ => k ds O np lv (cv :: st) I L
  | .lconst _ => k ds O np lv (cv :: st) I L
  | .fconst _ => k ds O np lv (cv :: st) I L
  | .dconst _ => k ds O np lv (cv :: st) I L
  | .ldc _ => k ds O np lv (cv :: st) I L
  | .ldc_w _ => k ds O np lv (cv :: st) I L
  | .ldc2_w _ => k ds O np lv (cv :: st) I L
  | .iload i => match gl lv i with
    | some (.int x) => k ds O np lv (.int x :: st) I L
    | _ => (O, pc, lv, st, I, L)
  | .iload_n i => match gl lv i.val with
    | some (.int x) => k ds O np lv (.int x :: st) I L
    | _ => (O, pc, lv, st, I, L)
  | .lload i => match gl lv i with
    | some (.long x) => k ds O np lv (.long x :: st) I L
    | _ => (O, pc, lv, st, I, L)
  | .lload_n i => match gl lv i.val with
    | some (.long x) => k ds O np lv (.long x :: st) I L
    | _ => (O, pc, lv, st, I, L)
  | .fload_n i => match gl lv i.val with
    | some (.float x) => k ds O np lv (.float x :: st) I L
    | _ => (O, pc, lv, st, I, L)
  | .dload_n i => match gl lv i.val with
    | some (.double x) => k ds O np lv (.double x :: st) I L
    | _ => (O, pc, lv, st, I, L)
  | .aload i => match gl lv i with
    | some (.ref x) => k ds O np lv (.ref x :: st) I L
    | _ => (O, pc, lv, st, I, L)
  | .aload_n i => match gl lv i.val with
    | some (.ref x) => k ds O np lv (.ref x :: st) I L
    | _ => (O, pc, lv, st, I, L)
  | .istore i => match st with
    | .int x :: r => sl1 i (.int x) lv (fun lv' => k ds O np lv' r I L)
    | _ => (O, pc, lv, st, I, L)
  | .istore_n i => match st with
    | .int x :: r => sl1 i.val (.int x) lv (fun lv' => k ds O np lv' r I L)
    | _ => (O, pc, lv, st, I, L)
  | .astore i => match st with
    | .ref x :: r => sl1 i (.ref x) lv (fun lv' => k ds O np lv' r I L)
    | _ => (O, pc, lv, st, I, L)
  | .astore_n i => match st with
    | .ref x :: r => sl1 i.val (.ref x) lv (fun lv' => k ds O np lv' r I L)
    | _ => (O, pc, lv, st, I, L)
  | .fstore_n i => match st with
    | .float x :: r => sl1 i.val (.float x) lv (fun lv' => k ds O np lv' r I L)
    | _ => (O, pc, lv, st, I, L)
  | .lstore i => match st with
    | .long x :: r => sl2 i (.long x) lv (fun lv' => k ds O np lv' r I L)
    | _ => (O, pc, lv, st, I, L)
  | .lstore_n i => match st with
    | .long x :: r => sl2 i.val (.long x) lv (fun lv' => k ds O np lv' r I L)
    | _ => (O, pc, lv, st, I, L)
  | .dstore_n i => match st with
    | .double x :: r => sl2 i.val (.double x) lv (fun lv' => k ds O np lv' r I L)
    | _ => (O, pc, lv, st, I, L)
  | .iinc i _ => match gl lv i with
    | some (.int x) => match cv with
      | .int y => sl1 i (.int (x + y)) lv (fun lv' => k ds O np lv' st I L)
      | _ => (O, pc, lv, st, I, L)
    | _ => (O, pc, lv, st, I, L)
  | .iadd => match st with
    | .int y :: .int x :: r => k ds O np lv (.int (x + y) :: r) I L
    | _ => (O, pc, lv, st, I, L)
  | .isub => match st with
    | .int y :: .int x :: r => k ds O np lv (.int (x - y) :: r) I L
    | _ => (O, pc, lv, st, I, L)
  | .imul => match st with
    | .int y :: .int x :: r => k ds O np lv (.int (x * y) :: r) I L
    | _ => (O, pc, lv, st, I, L)
  | .idiv => match st with
    | .int y :: .int x :: r => k ds (O ∧ ¬ y = 0) np lv (.int (x / y) :: r) I L
    | _ => (O, pc, lv, st, I, L)
  | .irem => match st with
    | .int y :: .int x :: r => k ds (O ∧ ¬ y = 0) np lv (.int (x - x / y * y) :: r) I L
    | _ => (O, pc, lv, st, I, L)
  | .iand => match st with
    | .int y :: .int x :: r => k ds O np lv (.int (x &&& y) :: r) I L
    | _ => (O, pc, lv, st, I, L)
  | .ior => match st with
    | .int y :: .int x :: r => k ds O np lv (.int (x ||| y) :: r) I L
    | _ => (O, pc, lv, st, I, L)
  | .ixor => match st with
    | .int y :: .int x :: r => k ds O np lv (.int (x ^^^ y) :: r) I L
    | _ => (O, pc, lv, st, I, L)
  | .ishl => match st with
    | .int y :: .int x :: r => k ds O np lv (.int (x <<< (y &&& 31)) :: r) I L
    | _ => (O, pc, lv, st, I, L)
  | .ishr => match st with
    | .int y :: .int x :: r => k ds O np lv (.int (x >>> (y &&& 31)) :: r) I L
    | _ => (O, pc, lv, st, I, L)
  | .iushr => match st with
    | .int y :: .int x :: r => k ds O np lv (.int (x.toUInt32 >>> (y.toUInt32 &&& Int32.toUInt32 31)).toInt32 :: r) I L
    | _ => (O, pc, lv, st, I, L)
  | .ineg => match st with
    | .int x :: r => k ds O np lv (.int (-x) :: r) I L
    | _ => (O, pc, lv, st, I, L)
  | .ladd => match st with
    | .long y :: .long x :: r => k ds O np lv (.long (x + y) :: r) I L
    | _ => (O, pc, lv, st, I, L)
  | .lsub => match st with
    | .long y :: .long x :: r => k ds O np lv (.long (x - y) :: r) I L
    | _ => (O, pc, lv, st, I, L)
  | .lmul => match st with
    | .long y :: .long x :: r => k ds O np lv (.long (x * y) :: r) I L
    | _ => (O, pc, lv, st, I, L)
  | .ldiv => match st with
    | .long y :: .long x :: r => k ds (O ∧ ¬ y = 0) np lv (.long (x / y) :: r) I L
    | _ => (O, pc, lv, st, I, L)
  | .lrem => match st with
    | .long y :: .long x :: r => k ds (O ∧ ¬ y = 0) np lv (.long (x - x / y * y) :: r) I L
    | _ => (O, pc, lv, st, I, L)
  | .lneg => match st with
    | .long x :: r => k ds O np lv (.long (-x) :: r) I L
    | _ => (O, pc, lv, st, I, L)
  | .lshl => match st with
    | .int y :: .long x :: r => k ds O np lv (.long (x <<< (y.toInt64 &&& 63)) :: r) I L
    | _ => (O, pc, lv, st, I, L)
  | .lcmp => match st with
    | .long y :: .long x :: r => k ds O np lv (.int (lg_cmp x y) :: r) I L
    | _ => (O, pc, lv, st, I, L)
  | .i2l => match st with
    | .int x :: r => k ds O np lv (.long x.toInt64 :: r) I L
    | _ => (O, pc, lv, st, I, L)
  | .l2i => match st with
    | .long x :: r => k ds O np lv (.int x.toInt32 :: r) I L
    | _ => (O, pc, lv, st, I, L)
  | .i2f => match st with
    | .int x :: r => k ds O np lv (.float (FP.i2f x) :: r) I L
    | _ => (O, pc, lv, st, I, L)
  | .i2d => match st with
    | .int x :: r => k ds O np lv (.double (FP.i2d x) :: r) I L
    | _ => (O, pc, lv, st, I, L)
  | .l2d => match st with
    | .long x :: r => k ds O np lv (.double (FP.l2d x) :: r) I L
    | _ => (O, pc, lv, st, I, L)
  | .f2i => match st with
    | .float x :: r => k ds O np lv (.int (FP.f2i x) :: r) I L
    | _ => (O, pc, lv, st, I, L)
  | .d2l => match st with
    | .double x :: r => k ds O np lv (.long (FP.d2l x) :: r) I L
    | _ => (O, pc, lv, st, I, L)
  | .fsub => match st with
    | .float y :: .float x :: r => k ds (O ∧ vf_n32 (FP.fsub x y)) np lv (.float (FP.fsub x y) :: r) I L
    | _ => (O, pc, lv, st, I, L)
  | .fmul => match st with
    | .float y :: .float x :: r => k ds (O ∧ vf_n32 (FP.fmul x y)) np lv (.float (FP.fmul x y) :: r) I L
    | _ => (O, pc, lv, st, I, L)
  | .fdiv => match st with
    | .float y :: .float x :: r => k ds (O ∧ vf_n32 (FP.fdiv x y)) np lv (.float (FP.fdiv x y) :: r) I L
    | _ => (O, pc, lv, st, I, L)
  | .fcmp op => match st with
    | .float y :: .float x :: r => k ds O np lv (.int (Op.cmpValue (FP.fcmp x y) op) :: r) I L
    | _ => (O, pc, lv, st, I, L)
  | .dsub => match st with
    | .double y :: .double x :: r => k ds (O ∧ vf_n64 (FP.dsub x y)) np lv (.double (FP.dsub x y) :: r) I L
    | _ => (O, pc, lv, st, I, L)
  | .dmul => match st with
    | .double y :: .double x :: r => k ds (O ∧ vf_n64 (FP.dmul x y)) np lv (.double (FP.dmul x y) :: r) I L
    | _ => (O, pc, lv, st, I, L)
  | .ddiv => match st with
    | .double y :: .double x :: r => k ds (O ∧ vf_n64 (FP.ddiv x y)) np lv (.double (FP.ddiv x y) :: r) I L
    | _ => (O, pc, lv, st, I, L)
  | .dcmp op => match st with
    | .double y :: .double x :: r => k ds O np lv (.int (Op.cmpValue (FP.dcmp x y) op) :: r) I L
    | _ => (O, pc, lv, st, I, L)
  | .dup => match st with
    | .int x :: r => k ds O np lv (.int x :: .int x :: r) I L
    | .ref x :: r => k ds O np lv (.ref x :: .ref x :: r) I L
    | _ => (O, pc, lv, st, I, L)
  | .dup2 => match st with
    | .int y :: .ref x :: r => k ds O np lv (.int y :: .ref x :: .int y :: .ref x :: r) I L
    | _ => (O, pc, lv, st, I, L)
  | .goto _ => k ds O tg lv st I L
  | .ifCond .eq _ => match st with
    | .int x :: r => brr k (x = 0) np tg ds O pc lv st r I L
    | _ => (O, pc, lv, st, I, L)
  | .ifCond .ne _ => match st with
    | .int x :: r => brr k (x ≠ 0) np tg ds O pc lv st r I L
    | _ => (O, pc, lv, st, I, L)
  | .ifCond .lt _ => match st with
    | .int x :: r => brr k (x < 0) np tg ds O pc lv st r I L
    | _ => (O, pc, lv, st, I, L)
  | .ifCond .ge _ => match st with
    | .int x :: r => brr k (0 ≤ x) np tg ds O pc lv st r I L
    | _ => (O, pc, lv, st, I, L)
  | .ifCond .gt _ => match st with
    | .int x :: r => brr k (0 < x) np tg ds O pc lv st r I L
    | _ => (O, pc, lv, st, I, L)
  | .ifCond .le _ => match st with
    | .int x :: r => brr k (x ≤ 0) np tg ds O pc lv st r I L
    | _ => (O, pc, lv, st, I, L)
  | .if_icmp .eq _ => match st with
    | .int y :: .int x :: r => brr k (x = y) np tg ds O pc lv st r I L
    | _ => (O, pc, lv, st, I, L)
  | .if_icmp .ne _ => match st with
    | .int y :: .int x :: r => brr k (x ≠ y) np tg ds O pc lv st r I L
    | _ => (O, pc, lv, st, I, L)
  | .if_icmp .lt _ => match st with
    | .int y :: .int x :: r => brr k (x < y) np tg ds O pc lv st r I L
    | _ => (O, pc, lv, st, I, L)
  | .if_icmp .ge _ => match st with
    | .int y :: .int x :: r => brr k (y ≤ x) np tg ds O pc lv st r I L
    | _ => (O, pc, lv, st, I, L)
  | .if_icmp .gt _ => match st with
    | .int y :: .int x :: r => brr k (y < x) np tg ds O pc lv st r I L
    | _ => (O, pc, lv, st, I, L)
  | .if_icmp .le _ => match st with
    | .int y :: .int x :: r => brr k (x ≤ y) np tg ds O pc lv st r I L
    | _ => (O, pc, lv, st, I, L)
  | .getfield ix => match st with
    | .ref c :: r => match F ix with
      | some (ci, j, 0, _) => k ds (O ∧ kd c = (0, ci, 0)) np lv (.int (I c j) :: r) I L
      | some (ci, j, 1, _) => k ds (O ∧ kd c = (0, ci, 0)) np lv (.long (L c j) :: r) I L
      | some (ci, _, 2, off) => match ds with
        | (q, _) :: ds' => k ds' (O ∧ (kd c = (0, ci, 0) ∧ q = c + off)) np lv (.ref q :: r) I L
        | _ => (O, pc, lv, st, I, L)
      | some (ci, j, 3, _) => k ds (O ∧ kd c = (0, ci, 0)) np lv (.int (I c j) :: r) I L
      | _ => (O, pc, lv, st, I, L)
    | _ => (O, pc, lv, st, I, L)
  | .putfield ix => match st with
    | .int v :: .ref c :: r => match F ix with
      | some (ci, j, 0, _) => k ds (O ∧ kd c = (0, ci, 0)) np lv r (mu I c j v) L
      | some (ci, j, 3, _) => k ds (O ∧ (kd c = (0, ci, 0) ∧ (v = 0 ∨ v = 1))) np lv r (mu I c j v) L
      | _ => (O, pc, lv, st, I, L)
    | .long v :: .ref c :: r => match F ix with
      | some (ci, j, 1, _) => k ds (O ∧ kd c = (0, ci, 0)) np lv r I (mu L c j v)
      | _ => (O, pc, lv, st, I, L)
    | _ => (O, pc, lv, st, I, L)
  | .iaload => match st with
    | .int x :: .ref c :: r => match ds with
      | (j, n) :: ds' => k ds' (O ∧ (kd c = (1, n, 0) ∧ x = nI j ∧ j < n)) np lv (.int (I c j) :: r) I L
      | _ => (O, pc, lv, st, I, L)
    | _ => (O, pc, lv, st, I, L)
  | .laload => match st with
    | .int x :: .ref c :: r => match ds with
      | (j, n) :: ds' => k ds' (O ∧ (kd c = (2, n, 0) ∧ x = nI j ∧ j < n)) np lv (.long (L c j) :: r) I L
      | _ => (O, pc, lv, st, I, L)
    | _ => (O, pc, lv, st, I, L)
  | .baload => match st with
    | .int x :: .ref c :: r => match ds with
      | (j, n) :: ds' => k ds' (O ∧ (kd c = (3, n, 0) ∧ x = nI j ∧ j < n)) np lv (.int (I c j) :: r) I L
      | _ => (O, pc, lv, st, I, L)
    | _ => (O, pc, lv, st, I, L)
  | .aaload => match st with
    | .int x :: .ref c :: r => match ds with
      | (j, n) :: (q, t) :: ds' => k ds' (O ∧ ((∃ w, kd c = (t, n, w) ∧ q = c + 1 + j * w) ∧ 4 ≤ t ∧ t ≤ 6 ∧ x = nI j ∧ j < n)) np lv (.ref q :: r) I L
      | _ => (O, pc, lv, st, I, L)
    | _ => (O, pc, lv, st, I, L)
  | .iastore => match st with
    | .int v :: .int x :: .ref c :: r => match ds with
      | (j, n) :: ds' => k ds' (O ∧ (kd c = (1, n, 0) ∧ x = nI j ∧ j < n)) np lv r (mu I c j v) L
      | _ => (O, pc, lv, st, I, L)
    | _ => (O, pc, lv, st, I, L)
  | .lastore => match st with
    | .long v :: .int x :: .ref c :: r => match ds with
      | (j, n) :: ds' => k ds' (O ∧ (kd c = (2, n, 0) ∧ x = nI j ∧ j < n)) np lv r I (mu L c j v)
      | _ => (O, pc, lv, st, I, L)
    | _ => (O, pc, lv, st, I, L)
  | .bastore => match st with
    | .int v :: .int x :: .ref c :: r => match ds with
      | (j, n) :: ds' => k ds' (O ∧ (kd c = (3, n, 0) ∧ x = nI j ∧ j < n ∧ (v = 0 ∨ v = 1))) np lv r (mu I c j v) L
      | _ => (O, pc, lv, st, I, L)
    | _ => (O, pc, lv, st, I, L)
  | .ireturn => match st with
    | [.int x] => (O, RET, lv, [.int x], I, L)
    | _ => (O, pc, lv, st, I, L)
  | .lreturn => match st with
    | [.long x] => (O, RET, lv, [.long x], I, L)
    | _ => (O, pc, lv, st, I, L)
  | .freturn => match st with
    | [.float x] => (O, RET, lv, [.float x], I, L)
    | _ => (O, pc, lv, st, I, L)
  | .dreturn => match st with
    | [.double x] => (O, RET, lv, [.double x], I, L)
    | _ => (O, pc, lv, st, I, L)
  | .return_ => match st with
    | [] => (O, RET, lv, [], I, L)
    | _ => (O, pc, lv, st, I, L)
  | _ => (O, pc, lv, st, I, L)
def run (kd : KdT) (F : Ft) (P : List En) : Nat → Kt
  | 0 => fun _ O pc lv st I L => (O, pc, lv, st, I, L)
  | n + 1 => fun ds O pc lv st I L => match lk P pc with
    | some (ins, np, tg, cv) => stp kd F (run kd F P n) ins np tg cv ds O pc lv st I L
    | none => (O, pc, lv, st, I, L)
