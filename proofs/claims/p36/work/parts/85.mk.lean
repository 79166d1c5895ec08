/-! CONSTRUCTORS: rows that say what a step does to the heap -/
def Bx (p : Program) (s : State) (m : MethodId) (args : Array Value) (c : Code) (cc : ByteArray) (nL : Nat) (own : String) (D : va_G) (cy : Nat → ClassId) : Prop :=
  p.tables.exec = Jvm.exec ∧ c.code = cc ∧ c.maxLocals = nL ∧ s.vm.findClass own = some m.cls ∧ (∀ w ∈ WB, w.before args s = true) ∧ va_K D vwCl (tysC cy) s
def AtO (D : va_G) (a ci : Nat) (fs : List Value) (H : Heap) : Prop := va_at D vwCl (a, .inr (ci, fs)) H
def AtA (D : va_G) (a : Nat) (v : ClassId × vp_A) (H : Heap) : Prop := va_at D vwCl (a, .inl v) H
section BLD
variable {p : Program} {l : Launch} {e : Env} {R : Room} {s : State} {m : MethodId} {args : Array Value} {below : List Frame} {meth : Method} {c : Code} {Q : State → Prop} {cc : ByteArray} {nL : Nat} {own : String} {D : va_G} {cy : Nat → ClassId} {H : Heap} {locs : List Loc} {cells slots pc : Nat} {ls : Array Slot} {rest : List Value}
theorem mkput {F : Ft} {ix ci j t off a : Nat} {C : String} {T : u_T} {NF : Nat} {ty : FieldType} {fs : List Value} {v : Value} (hB : Bx p s m args c cc nL own D cy) (hin : meth.name = "<init>") (hF : FOK own F) (hf : F ix = some (ci, j, t, off)) (hc : vwCl[ci]? = some (C, T, NF)) (hown2 : C = own) (hd : parseFieldDescriptor (T j).2.2.1 = some ty) (hn : narrow ty v = v) (hfit : fits ty v = true) (hl : j < fs.length) (hO : AtO D a ci fs H) (hdg : decode cc pc = .ok (.putfield ix, 3))
    (kk : ∀ (H1 : Heap) (k : Nat), AtO D a ci (fs.set j v) H1 → H1.size = H.size → (∀ q : Nat, q ≠ a → H1[q]? = H[q]?) → W p l e R s m args below meth c H1 (locs ++ [⟨a, k⟩]) cells slots Q (F0 m (pc + 3) ls rest)) : W p l e R s m args below meth c H locs cells slots Q (F0 m pc ls (v :: .ref a :: rest)) := by
  obtain ⟨hx, hb, -, hown, hts, hK⟩ := hB
  obtain ⟨Cn, T', NF', ty0, f1, f2, f3, f4, f5, f6, f7, f8, f9, f10, -, -, -⟩ := hF _ _ _ _ _ hf
  have hr : (C, T, NF) = (Cn, T', NF') := Option.some.inj (hc.symm.trans f1)
  cases hr
  have hap := va_apart (own := own) hts f3 ty0 f8 f9 hK f1
  obtain ⟨r, h1, cell, q1, q2, q3, q4⟩ := hO
  have hr : r = (C, T, NF) := Option.some.inj (h1.symm.trans f1)
  subst hr
  obtain ⟨hSl, hfc, kC, hkC, hkind⟩ := hK.1 ci _ f1
  obtain ⟨cf, kf, fi, f, hi, hsl⟩ := hSl j f2
  have hlay := hts _ (f3 _ (u_in_lay f2))
  have hst := (u_facts hfc hkC (u_lays hts f3 f2) hi).1
  have done : ∀ (H1 : Heap), H1[a]? = some (cell.setSlot (D.2 ci j) v) → AtO D a ci (fs.set j v) H1 := fun H1 e1 => ⟨_, f1, t_OB.to (V := updV (vp_V fs) j v) ⟨_, e1, q2, q3, t_set q4 hap f2 v⟩ (fun j2 _ => vp_updV_set hl v j2)⟩
  have hi2 : s.fieldFound? C (T j).2.1 (T j).2.2.1 = some (cf, kf, fi, f) := by rw [← f5]; exact hi
  by_cases hfin : (T j).2.2.2 = true
  · unfold u_lay at hlay
    rw [if_pos hfin] at hlay
    have hcf : m.cls = cf := by
      obtain ⟨_, _, c', _, _, _, -, -, hf', -, -, -, hown3, -⟩ := Cond.laysFinal_spec hlay
      have e1 : c' = cf := by have := hi.symm.trans hf'; simp at this; exact this.1.symm
      rw [f5, hown2] at hown3
      rw [← e1]; exact Option.some.inj (hown.symm.trans hown3)
    have h6 := u_fits hfc hkC hkind (Or.inr hlay) hi hd hn hfit
    refine W.putFinK hx hb hown (hts _ f4) hi2 hst hcf hin (by rw [q2]; exact h6) q1 q3 (by rw [hsl]; exact k2_hasslot (q4 j f2)) rfl rfl hdg fun H1 e1 e2 e3 => ?_
    rw [hsl] at e1
    exact kk H1 _ (done H1 e1) e2 e3
  · unfold u_lay at hlay
    rw [if_neg hfin] at hlay
    have h6 := u_store hfc hkC hkind hlay hi hd hn hfit
    refine W.putK hx hb (f := f) ⟨hown, hts _ f4, ⟨_, _, _, hi2⟩, hst⟩ (by rw [q2]; exact h6) q1 q3 (by rw [hsl]; exact k2_hasslot (q4 j f2)) rfl rfl hdg fun H1 e1 e2 e3 => ?_
    rw [hsl] at e1
    exact kk H1 _ (done H1 e1) e2 e3
theorem mknewa {atype : ArrayType} {n : Nat} {k : Nat} (hB : Bx p s m args c cc nL own D cy) (hty : (tysC cy)[k]? = some (cy k, newarray.typeOf atype)) (harr : Cond.arrayClass (newarray.typeOf atype) ∈ WB) (h31 : n < 2147483648) (hbytes : n * componentBytes (newarray.typeOf atype) ≤ 536870912) (hcells : cells + 1 ≤ R.cells) (hslots : slots + n ≤ R.slots) (hdg : decode cc pc = .ok (.newarray atype, 2))
    (kk : ∀ (H1 : Heap), H1[H.size]? = some (arrV (cy k) n (fun _ => defaultValue (newarray.typeOf atype))) → H1.size = H.size + 1 → (∀ q : Nat, q < H.size → H1[q]? = H[q]?) → W p l e R s m args below meth c H1 locs (cells + 1) (slots + n) Q (F0 m (pc + 2) ls (.ref H.size :: rest))) : W p l e R s m args below meth c H locs cells slots Q (F0 m pc ls (.int (nI n) :: rest)) := by
  obtain ⟨hx, hb, -, -, hts, hK⟩ := hB
  refine va_newaK hx hb (hts _ harr) rfl hdg rfl (nI_pos (by omega)) (nI_clamp h31) hbytes hcells hslots rfl fun H1 cA e1 z1 o1 hAr hNm => ?_
  have h2 := (hK.2 k _ hty).2
  have : some (cy k) = some cA := by
    refine Eq.trans (Eq.symm ?_) hNm
    cases atype <;> exact h2
  cases this
  exact kk H1 e1 z1 o1
theorem mknewq {index n k : Nat} {C : String} (hB : Bx p s m args c cc nL own D cy) (hty : (tysC cy)[k]? = some (cy k, .object C)) (hclink : Cond.classLink own index C ∈ WB) (hover : va_AO C s) (h31 : n < 2147483648) (hbytes : n * 4 ≤ 536870912) (hcells : cells + 1 ≤ R.cells) (hslots : slots + n ≤ R.slots) (hdg : decode cc pc = .ok (.anewarray index, 3))
    (kk : ∀ (H1 : Heap), H1[H.size]? = some (arrV (cy k) n (fun _ => .null)) → H1.size = H.size + 1 → (∀ q : Nat, q < H.size → H1[q]? = H[q]?) → W p l e R s m args below meth c H1 locs (cells + 1) (slots + n) Q (F0 m (pc + 3) ls (.ref H.size :: rest))) : W p l e R s m args below meth c H locs cells slots Q (F0 m pc ls (.int (nI n) :: rest)) := by
  obtain ⟨hx, hb, -, hown, hts, hK⟩ := hB
  have hcl : (nI n).toNatClampNeg = n := nI_clamp h31
  refine W.anew hx hb hown (hts _ hclink) (va_AO.use hover) rfl hdg rfl (nI_pos (by omega)) (by rw [hcl]; exact hbytes) hcells (by rw [hcl]; exact hslots) fun cA kA comp f1 f2 f3 f4 => ?_
  have h2 := (hK.2 k _ hty).2
  obtain ⟨kA', comp', -, -, -, h5⟩ := h2
  have : some (cy k) = some cA := h5.symm.trans f1
  cases this
  generalize hH1 : H.push ({ cls := cy k, slots := Array.replicate (nI n).toNatClampNeg .null, vm := .none } : Cell) = H1
  rw [hcl] at hH1 ⊢
  exact kk H1 (by rw [← hH1, Array.getElem?_push_size, ← arrV_new]) (by rw [← hH1, Array.size_push]) (fun q hq => by rw [← hH1, Array.getElem?_push, if_neg (Nat.ne_of_lt hq)])
theorem mknew {index ci : Nat} {C : String} {T : u_T} {NF : Nat} (ty : Nat → FieldType) (hB : Bx p s m args c cc nL own D cy) (hc : vwCl[ci]? = some (C, T, NF)) (hin : ∀ w ∈ u_ws C T NF, w ∈ WB) (hty : ∀ k, k < NF → parseFieldDescriptor (T k).2.2.1 = some (ty k)) {fs : List Value} (hfs : ∀ j, j < NF → defaultValue (ty j) = vp_V fs j) (w1 : Cond.classLink own index C ∈ WB) (w2 : Cond.instantiable C NF ∈ WB) (w3 : Cond.initialized C ∈ WB) (hcells : cells + 1 ≤ R.cells) (hslots : slots + NF ≤ R.slots) (hdg : decode cc pc = .ok (.new index, 3))
    (kk : ∀ (H1 : Heap), AtO D H.size ci fs H1 → H1.size = H.size + 1 → (∀ q : Nat, q < H.size → H1[q]? = H[q]?) → W p l e R s m args below meth c H1 locs (cells + 1) (slots + NF) Q (F0 m (pc + 3) ls (.ref H.size :: rest))) : W p l e R s m args below meth c H locs cells slots Q (F0 m pc ls rest) := by
  obtain ⟨hx, hb, -, hown, hts, hK⟩ := hB
  have hKn := hK.1 ci _ hc
  refine W.newcK hx hb hown (hts _ w1) (hts _ w2) (hts _ w3) rfl hdg hcells hslots hKn.2.1 rfl fun H1 kC hkC e1 z1 o1 => ?_
  exact kk H1 ⟨_, hc, (u_born ty hts hin hKn hkC e1 hty).to hfs⟩ z1 o1
theorem mkmulti {index n k kt kr : Nat} {ty : FieldType} (hB : Bx p s m args c cc nL own D cy) (hty : (tysC cy)[kt]? = some (cy kt, .array ty)) (htr : (tysC cy)[kr]? = some (cy kr, ty)) (hp : ty = .int ∨ ty = .long) (hclink : Cond.classLink own index ("[" ++ (FieldType.array ty).toString) ∈ WB) (hover : va_AOA ty s) (harr : Cond.arrayClass ty ∈ WB) (hn : n ≤ 1000) (hk : k ≤ 1000) (hcells : cells + (1 + n) ≤ R.cells) (hslots : slots + (n + n * k) ≤ R.slots) (hdg : decode cc pc = .ok (.multianewarray index 2, 4))
    (kk : ∀ (H1 : Heap), H1[H.size]? = some (vp_cell (cy kt) (n, .inr (.inr (.inr (.inr (fun i => if i < n then some (H.size + 1 + i) else none)))))) → (∀ j, j < n → H1[H.size + 1 + j]? = some (arrV (cy kr) k (fun _ => defaultValue ty))) → H1.size = H.size + 1 + n → (∀ q : Nat, q < H.size → H1[q]? = H[q]?) → W p l e R s m args below meth c H1 locs (cells + 1 + n) (slots + n + n * k) Q (F0 m (pc + 4) ls (.ref H.size :: rest))) : W p l e R s m args below meth c H locs cells slots Q (F0 m pc ls (.int (nI k) :: .int (nI n) :: rest)) := by
  obtain ⟨hx, hb, -, hown, hts, hK⟩ := hB
  have hcn : (nI n).toNatClampNeg = n := nI_clamp (by omega)
  have hck : (nI k).toNatClampNeg = k := nI_clamp (by omega)
  have hdf : fits ty (defaultValue ty) = true ∧ (defaultValue ty).isDefault = true ∧ componentBytes ty ≤ 8 := by
    rcases hp with rfl | rfl <;> exact ⟨by decide, by decide, by decide⟩
  intro T hT X
  have hb2 : k * componentBytes ty ≤ 1000 * 8 := Nat.mul_le_mul hk hdf.2.2
  obtain ⟨vm₁, cA, comp, -, fA, fC, -, -, X', step⟩ := X.multianewarray2F hx hown (hts _ hclink) (va_AOA.use hover) (hts _ harr) (g := F0 m pc ls (.int (nI k) :: .int (nI n) :: rest)) rfl (by rw [hb]; exact hdg) rfl (nI_pos (by omega)) (nI_pos (by omega)) (by rw [hcn]; omega) (by rw [hck]; omega) (by rw [hck]; omega) hdf.1 hdf.2.1 (by rw [hcn]; exact hcells) (by rw [hcn, hck]; exact hslots)
  have h2 := (hK.2 kt _ hty).2
  have h3 := (hK.2 kr _ htr).2
  have e1 : some (cy kt) = some cA := Eq.trans (Eq.symm h2) fA
  have e2 : some (cy kr) = some comp := by
    refine Eq.trans (Eq.symm ?_) fC
    rcases hp with rfl | rfl <;> exact h3
  cases e1
  cases e2
  rw [hcn, hck] at X' step
  generalize hF : Jvm.Free.Multi.fill (T.setVm vm₁) (cy kt) (cy kr) n k (defaultValue ty) n = F at X' step
  have hTh : (T.setVm vm₁).heap = H := hT
  obtain ⟨f1, f2, -, -⟩ := Jvm.Free.Multi.fill_facts (T.setVm vm₁) (cy kt) (cy kr) n k (defaultValue ty) n
  rw [hF, hTh] at f1 f2
  rw [hT] at step
  obtain ⟨t, a1, b1⟩ := kk F.heap (by
    rw [f2, vp_cell_q]
    exact congrArg some (vr_outer (cy kt) n H.size n)) (fun j hj => by
    have := Jvm.Free.Multi.fill_inner (T.setVm vm₁) (cy kt) (cy kr) n k (defaultValue ty) n j hj
    rw [hF, hTh] at this
    rw [this]
    exact congrArg some (arrV_new (cy kr) k (defaultValue ty))) f1 (fun q hq => by
    have := Jvm.Free.Multi.fill_old (T.setVm vm₁) (cy kt) (cy kr) n k (defaultValue ty) (a := q) (by rw [hTh]; exact hq) n
    rw [hF, hTh] at this
    exact this) F rfl X'
  exact ⟨t, step t a1, b1⟩
end BLD
