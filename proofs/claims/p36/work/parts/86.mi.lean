/-! CONSTRUCTORS: the world as it grows, each new cell at the next address -/
theorem va_AOA.moved {ty : FieldType} {u U : State} (hvm : u.vm.Alike U.vm) (h : va_AOA ty u) : va_AOA ty U := by
  obtain ⟨comp, c, k, h1, h2, h3, h4, h5⟩ := arrayOverA_spec h
  obtain ⟨k', hk', he⟩ := hvm.2.2 _ _ h3
  have hi : (U.vm.classes.findIdx? fun (x : Class) => match x.kind with | .array component _ => component == comp | _ => false) = some c := by
    have g0 := va_idx_bare U.vm comp
    have g1 := va_idx_bare u.vm comp
    have gb : U.vm.bare = u.vm.bare := by first | exact hvm.bare_eq | exact hvm.bare_eq.symm
    rw [gb] at g0
    exact g0.symm.trans (g1.trans h2)
  have hkind : k'.kind = .array comp (.array ty) := by rw [he]; exact h4
  have f1 : U.vm.findClass (FieldType.array ty).toString = some comp := by rw [hvm.findClass]; exact h1
  have f2 : U.vm.findClass ("[" ++ (FieldType.array ty).toString) = some c := by rw [hvm.findClass]; exact h5
  unfold va_AOA Cond.before Cond.holds
  simp only [Cond.value]
  rw [f1, Option.bind_some]
  refine (congrArg (fun o : Option Nat => (o.bind (fun c => (U.vm.classes[c]?).map fun (k : Class) => match k.kind with | .array _ t => decide (t = FieldType.array ty) && decide (U.vm.findClass ("[" ++ (FieldType.array ty).toString) = some c) | _ => false) == some true)) hi).trans ?_
  simp [hk', hkind, f2]
def I0 : IM := fun _ _ => 0
def L0 : LM := fun _ _ => 0
def adH (h : Nat) : Nat → Nat := fun i => h + i
theorem adH_inj (h N : Nat) : inj (adH h) N := fun i j _ _ e => by unfold adH at e; omega
/-- an object at h is being made: n cells stand, the object's own fields are fs -/
def MkG (D : va_G) (ct : Nat → va_E) (h n ci : Nat) (fs : List Value) (G H : Heap) (locs : List Loc) : Prop :=
  H.size = h + n ∧ AtO D h ci fs H ∧ (∀ i, 0 < i → i < n → va_at D vwCl (adH h i, ct i) H) ∧ (∀ q : Nat, q < h → H[q]? = G[q]?) ∧ ∀ z ∈ locs, h ≤ z.base
abbrev MkI (D : va_G) (cy : Nat → ClassId) (kd : KdT) (I : IM) (L : LM) (h n ci : Nat) (fs : List Value) (G H : Heap) (locs : List Loc) : Prop := MkG D (ctn cy kd (adH h) I L) h n ci fs G H locs
theorem MkI.wd {D : va_G} {cy : Nat → ClassId} {kd : KdT} {I : IM} {L : LM} {h n ci : Nat} {fs : List Value} {G H : Heap} {locs : List Loc} (hM : MkI D cy kd I L h n ci fs G H locs) (hk : (kd 0).1 = 0 ∧ (kd 0).2.1 = ci) (hf : fs = fdv (adH h) I L 0 0 (FD ci)) : wd D cy kd (adH h) n I L H := fun i hi => by
  rcases Nat.eq_zero_or_pos i with rfl | hp
  · have h2 := hM.2.1
    unfold ctn
    rw [if_pos hk.1, hk.2, ← hf]
    exact h2
  · exact hM.2.2.1 i hp hi
section MI
variable {p : Program} {l : Launch} {e : Env} {R : Room} {s : State} {m : MethodId} {args : Array Value} {below : List Frame} {meth : Method} {c : Code} {Q : State → Prop} {cc : ByteArray} {nL : Nat} {own : String} {D : va_G} {cy : Nat → ClassId} {kd : KdT} {I : IM} {L : LM} {h n ci : Nat} {fs : List Value} {G H : Heap} {locs : List Loc} {cells slots pc : Nat} {ls : Array Slot} {rest : List Value}
/-- more cells, the object untouched -/
theorem MkG.grow {ct : Nat → va_E} (hM : MkG D ct h n ci fs G H locs) (hn : 0 < n) {H1 : Heap} {k : Nat} (hz : H1.size = H.size + k) (ho : ∀ q : Nat, q < H.size → H1[q]? = H[q]?) (hc : ∀ i, n ≤ i → i < n + k → va_at D vwCl (adH h i, ct i) H1) : MkG D ct h (n + k) ci fs G H1 locs := by
  obtain ⟨a1, a2, a3, a4, a5⟩ := hM
  refine ⟨by omega, va_at.kept (q := (h, .inr (ci, fs))) a2 (ho h (by omega)), fun i h1 h2 => ?_, fun q hq => (ho q (by omega)).trans (a4 q hq), a5⟩
  by_cases e : i < n
  · exact (a3 i h1 e).kept (ho (adH h i) (by unfold adH; omega))
  · exact hc i (by omega) h2
theorem MkG.put {ct : Nat → va_E} (hM : MkG D ct h n ci fs G H locs) {H1 : Heap} {fs2 : List Value} {k : Nat} (hO : AtO D h ci fs2 H1) (hz : H1.size = H.size) (ho : ∀ q : Nat, q ≠ h → H1[q]? = H[q]?) : MkG D ct h n ci fs2 G H1 (locs ++ [⟨h, k⟩]) := by
  obtain ⟨a1, a2, a3, a4, a5⟩ := hM
  refine ⟨by omega, hO, fun i h1 h2 => (a3 i h1 h2).kept (ho (adH h i) (by unfold adH; omega)), fun q hq => (ho q (by omega)).trans (a4 q hq), fun z hz => ?_⟩
  rcases List.mem_append.mp hz with e | e
  · exact a5 z e
  · rw [List.mem_singleton.mp e]
    exact Nat.le_refl h
theorem mk_a {atype : ArrayType} {len : Nat} (t : Nat) (hB : Bx p s m args c cc nL own D cy) (hM : MkI D cy kd I L h n ci fs G H locs) (hn : 0 < n) (hk : kd n = (t + 1, len, 0)) (hI : I n = fun _ => 0) (hL : L n = fun _ => 0) (ha : (t = 0 ∧ atype = .int) ∨ (t = 1 ∧ atype = .long) ∨ (t = 2 ∧ atype = .boolean)) (harr : Cond.arrayClass (newarray.typeOf atype) ∈ WB) (h31 : len ≤ 10000) (hcells : cells + 1 ≤ R.cells) (hslots : slots + len ≤ R.slots) (hdg : decode cc pc = .ok (.newarray atype, 2))
    (kk : ∀ (H1 : Heap), MkI D cy kd I L h (n + 1) ci fs G H1 locs → W p l e R s m args below meth c H1 locs (cells + 1) (slots + len) Q (F0 m (pc + 2) ls (.ref (h + n) :: rest))) : W p l e R s m args below meth c H locs cells slots Q (F0 m pc ls (.int (nI len) :: rest)) := by
  have hbt : len * componentBytes (newarray.typeOf atype) ≤ 536870912 := by
    have h8 : componentBytes (newarray.typeOf atype) ≤ 8 := by rcases ha with ⟨-, rfl⟩ | ⟨-, rfl⟩ | ⟨-, rfl⟩ <;> decide
    have := Nat.mul_le_mul h31 h8
    omega
  have hty : (tysC cy)[t]? = some (cy t, newarray.typeOf atype) := by rcases ha with ⟨rfl, rfl⟩ | ⟨rfl, rfl⟩ | ⟨rfl, rfl⟩ <;> rfl
  refine mknewa (k := t) hB hty harr (by omega) hbt hcells hslots hdg fun H1 e1 z1 o1 => ?_
  rw [hM.1]
  rw [hM.1] at e1
  refine kk H1 (hM.grow hn z1 o1 (fun i h1 h2 => ?_))
  have e : i = n := by omega
  subst e
  unfold ctn
  rw [hk, hI, hL]
  rcases ha with ⟨rfl, rfl⟩ | ⟨rfl, rfl⟩ | ⟨rfl, rfl⟩
  · exact e1
  · exact e1
  · exact e1
theorem mk_m {index len wid kt kr : Nat} {ty : FieldType} (hB : Bx p s m args c cc nL own D cy) (hM : MkI D cy kd I L h n ci fs G H locs) (hn : 0 < n) (hp : (ty = .int ∧ kt = 4 ∧ kr = 0) ∨ (ty = .long ∧ kt = 5 ∧ kr = 1)) (hk : kd n = (kt + 1, len, 1)) (hk2 : ∀ j, j < len → kd (n + 1 + j) = (kr + 1, wid, 0)) (hI : ∀ j, j < len → I (n + 1 + j) = fun _ => 0) (hL : ∀ j, j < len → L (n + 1 + j) = fun _ => 0) (hclink : Cond.classLink own index ("[" ++ (FieldType.array ty).toString) ∈ WB) (hover : va_AOA ty s) (harr : Cond.arrayClass ty ∈ WB) (hlen : len ≤ 1000) (hwid : wid ≤ 1000) (hcells : cells + (1 + len) ≤ R.cells) (hslots : slots + (len + len * wid) ≤ R.slots) (hdg : decode cc pc = .ok (.multianewarray index 2, 4))
    (kk : ∀ (H1 : Heap), MkI D cy kd I L h (n + (1 + len)) ci fs G H1 locs → W p l e R s m args below meth c H1 locs (cells + 1 + len) (slots + len + len * wid) Q (F0 m (pc + 4) ls (.ref (h + n) :: rest))) : W p l e R s m args below meth c H locs cells slots Q (F0 m pc ls (.int (nI wid) :: .int (nI len) :: rest)) := by
  have hty : (tysC cy)[kt]? = some (cy kt, .array ty) ∧ (tysC cy)[kr]? = some (cy kr, ty) ∧ (ty = .int ∨ ty = .long) := by
    rcases hp with ⟨rfl, rfl, rfl⟩ | ⟨rfl, rfl, rfl⟩
    · exact ⟨rfl, rfl, Or.inl rfl⟩
    · exact ⟨rfl, rfl, Or.inr rfl⟩
  refine mkmulti (kt := kt) (kr := kr) hB hty.1 hty.2.1 hty.2.2 hclink hover harr hlen hwid hcells hslots hdg fun H1 e1 e2 z1 o1 => ?_
  rw [hM.1]
  rw [hM.1] at e1 e2
  refine kk H1 (hM.grow hn (by rw [z1]; omega) o1 (fun i h1 h2 => ?_))
  by_cases ei : i = n
  · subst ei
    unfold ctn
    rw [hk]
    have e3 : (fun j => if j < len then some (adH h (i + 1 + j * 1)) else none) = fun j => if j < len then some (h + i + 1 + j) else none := by
      funext j
      rw [show adH h (i + 1 + j * 1) = h + i + 1 + j by unfold adH; omega]
    rcases hp with ⟨rfl, rfl, rfl⟩ | ⟨rfl, rfl, rfl⟩
    · show H1[h + i]? = some (vp_cell (cy 4) (len, .inr (.inr (.inr (.inr (fun j => if j < len then some (adH h (i + 1 + j * 1)) else none))))))
      rw [e3]
      exact e1
    · show H1[h + i]? = some (vp_cell (cy 5) (len, .inr (.inr (.inr (.inr (fun j => if j < len then some (adH h (i + 1 + j * 1)) else none))))))
      rw [e3]
      exact e1
  · obtain ⟨j, hj, rfl⟩ : ∃ j, j < len ∧ i = n + 1 + j := ⟨i - n - 1, by omega, by omega⟩
    have e4 := e2 j hj
    rw [show h + n + 1 + j = h + (n + 1 + j) by omega] at e4
    unfold ctn
    rw [hk2 j hj, hI j hj, hL j hj]
    rcases hp with ⟨rfl, rfl, rfl⟩ | ⟨rfl, rfl, rfl⟩
    · exact e4
    · exact e4
theorem mk_p {ct : Nat → va_E} {F : Ft} {ix j t off : Nat} {C : String} {T : u_T} {NF : Nat} {ty : FieldType} {v : Value} (hB : Bx p s m args c cc nL own D cy) (hin : meth.name = "<init>") (hF : FOK own F) (hf : F ix = some (ci, j, t, off)) (hc : vwCl[ci]? = some (C, T, NF)) (hown2 : C = own) (hd : parseFieldDescriptor (T j).2.2.1 = some ty) (hn : narrow ty v = v) (hfit : fits ty v = true) (hl : j < fs.length) (hM : MkG D ct h n ci fs G H locs) (hdg : decode cc pc = .ok (.putfield ix, 3))
    (kk : ∀ (H1 : Heap) (locs1 : List Loc), MkG D ct h n ci (fs.set j v) G H1 locs1 → W p l e R s m args below meth c H1 locs1 cells slots Q (F0 m (pc + 3) ls rest)) : W p l e R s m args below meth c H locs cells slots Q (F0 m pc ls (v :: .ref h :: rest)) :=
  mkput hB hin hF hf hc hown2 hd hn hfit hl hM.2.1 hdg (fun H1 k e1 z1 o1 => kk H1 _ (hM.put e1 z1 o1))
/-- behind a call, by its answer -/
theorem mkback {st0 : List Value} {Qc : Array Value → State → Outcome → State → Prop} {a : Array Value} {mc ms : Nat} {free : Nat → Prop} (hr : va_Run p l e R s m args below meth c H locs cells slots mc ms (F0 m pc ls st0) rest (Qc a) free)
    (kk : ∀ (v : Option Value) (st t : State) (Lx : List Loc), st.heap = H → (∀ q ∈ Lx, free q.base) → Qc a st (.returned v) t → W p l e R s m args below meth c t.heap (locs ++ Lx) (cells + mc) (slots + ms) Q (F0 m (pc + 3) ls (v.toList ++ rest))) : W p l e R s m args below meth c H locs cells slots Q (F0 m pc ls st0) := by
  intro T hT X
  obtain ⟨v, st₀, t, T', Lx, h0, X', hL, e1, e2, hq, st⟩ := hr T hT X
  obtain ⟨t2, a1, b1⟩ := kk v st₀ t Lx h0 hL hq T' e1 X'
  exact ⟨t2, st t2 a1, b1⟩
end MI
