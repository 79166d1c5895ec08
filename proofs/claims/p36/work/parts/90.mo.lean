/-! CONSTRUCTORS: arrays of objects, own fields, own numbers -/
theorem MkG.ct {D : va_G} {ct ct' : Nat → va_E} {h n ci : Nat} {fs : List Value} {G H : Heap} {locs : List Loc} (hM : MkG D ct h n ci fs G H locs) (he : ∀ i, 0 < i → i < n → ct i = ct' i) : MkG D ct' h n ci fs G H locs :=
  ⟨hM.1, hM.2.1, fun i h1 h2 => by rw [← he i h1 h2]; exact hM.2.2.1 i h1 h2, hM.2.2.2⟩
/-- an array of objects at a of which the first k are laid -/
def ctP (cy : Nat → ClassId) (kd : KdT) (h : Nat) (I : IM) (L : LM) (a k : Nat) : Nat → va_E := fun i => if i = a then .inl (cy 3, (kd a).2.1, .inr (.inr (.inr (.inr (fun j => if j < k then some (adH h (a + 1 + j * (kd a).2.2)) else none))))) else ctn cy kd (adH h) I L i
theorem ctP_full {cy : Nat → ClassId} {kd : KdT} {h a len w : Nat} {I : IM} {L : LM} (hk : kd a = (4, len, w)) (i : Nat) : ctP cy kd h I L a len i = ctn cy kd (adH h) I L i := by
  unfold ctP
  by_cases e : i = a
  · subst e
    rw [if_pos rfl]
    unfold ctn
    rw [hk]
    rfl
  · rw [if_neg e]
section MO
variable {p : Program} {l : Launch} {e : Env} {R : Room} {s : State} {m : MethodId} {args : Array Value} {below : List Frame} {meth : Method} {c : Code} {Q : State → Prop} {cc : ByteArray} {nL : Nat} {own : String} {D : va_G} {cy : Nat → ClassId} {kd : KdT} {I : IM} {L : LM} {h n ci : Nat} {fs : List Value} {G H : Heap} {locs : List Loc} {cells slots pc : Nat} {ls : Array Slot} {rest : List Value}
theorem mk_g {ct : Nat → va_E} {F : Ft} {ix j t off : Nat} {v : Value} (hB : Bx p s m args c cc nL own D cy) (hF : FOK own F) (hf : F ix = some (ci, j, t, off)) (hM : MkG D ct h n ci fs G H locs) (hv : fs[j]? = some v) (hdg : decode cc pc = .ok (.getfield ix, 3)) (kk : W p l e R s m args below meth c H locs cells slots Q (F0 m (pc + 3) ls (v :: rest))) : W p l e R s m args below meth c H locs cells slots Q (F0 m pc ls (.ref h :: rest)) := by
  obtain ⟨hx, hb, -, hown, hts, hK⟩ := hB
  obtain ⟨C, T, NF, ty0, f1, f2, f3, f4, f5, -⟩ := hF _ _ _ _ _ hf
  have hP : va_P D vwCl [(h, .inr (ci, fs))] H := fun k q hq => by
    cases k with
    | zero => cases hq; exact hM.2.1
    | succ k => simp at hq
  exact va_get (D := D) (cl := vwCl) (tys := tysC cy) (ci := ci) (Ts := WB) (own := own) (ref := C) hx hb hts f3 hown hK hP 0 rfl f1 j f2 (hts _ f4) (fun x h9 => by rw [f5] at h9; exact h9) hv hdg kk
theorem mk_q {index len w : Nat} (hB : Bx p s m args c cc nL own D cy) (hM : MkI D cy kd I L h n ci fs G H locs) (hn : 0 < n) (hk : kd n = (4, len, w)) (hclink : Cond.classLink own index "BladeDesk$State" ∈ WB) (hA : AOs s) (h31 : len ≤ 1000) (hcells : cells + 1 ≤ R.cells) (hslots : slots + len ≤ R.slots) (hdg : decode cc pc = .ok (.anewarray index, 3))
    (kk : ∀ (H1 : Heap), MkG D (ctP cy kd h I L n 0) h (n + 1) ci fs G H1 locs → W p l e R s m args below meth c H1 locs (cells + 1) (slots + len) Q (F0 m (pc + 3) ls (.ref (h + n) :: rest))) : W p l e R s m args below meth c H locs cells slots Q (F0 m pc ls (.int (nI len) :: rest)) := by
  refine mknewq (k := 3) (C := "BladeDesk$State") hB rfl hclink hA.2.2 (by omega) (by omega) hcells hslots hdg fun H1 e1 z1 o1 => ?_
  rw [hM.1] at e1 ⊢
  have hM2 : MkG D (ctP cy kd h I L n 0) h n ci fs G H locs := hM.ct (fun i _ h2 => by unfold ctP; rw [if_neg (by omega)])
  refine kk H1 (hM2.grow hn z1 o1 (fun i h1 h2 => ?_))
  have e : i = n := by omega
  subst e
  unfold ctP
  rw [if_pos rfl, hk]
  show H1[h + i]? = some (vp_cell _ _)
  rw [e1, vp_cell_q]
  refine congrArg some (congrArg (arrV (cy 3) len) (funext fun j => ?_))
  simp [va_rf]
theorem mk_as {a k w len v : Nat} (hB : Bx p s m args c cc nL own D cy) (hM : MkG D (ctP cy kd h I L a k) h n ci fs G H locs) (ha0 : 0 < a) (han : a < n) (hka : kd a = (4, len, w)) (hkl : k < len) (hv : v = a + 1 + k * w) (hvn : v < n) (hkv : kd v = (0, 3, 0)) (h31 : len ≤ 1000) (hdg : decode cc pc = .ok (.aastore, 1))
    (kk : ∀ (H1 : Heap) (locs1 : List Loc), MkG D (ctP cy kd h I L a (k + 1)) h n ci fs G H1 locs1 → W p l e R s m args below meth c H1 locs1 cells slots Q (F0 m (pc + 1) ls rest)) : W p l e R s m args below meth c H locs cells slots Q (F0 m pc ls (.ref (h + v) :: .int (nI k) :: .ref (h + a) :: rest)) := by
  obtain ⟨hx, hb, -, hown, hts, hK⟩ := hB
  have hva : v ≠ a := by omega
  have hA : H[h + a]? = some (vp_cell (cy 3) (len, .inr (.inr (.inr (.inr (fun j => if j < k then some (adH h (a + 1 + j * w)) else none)))))) := by
    have := hM.2.2.1 a ha0 han
    unfold ctP at this
    rw [if_pos rfl, hka] at this
    exact this
  have hV := hM.2.2.1 v (by omega) hvn
  unfold ctP at hV
  rw [if_neg hva] at hV
  unfold ctn at hV
  rw [hkv] at hV
  obtain ⟨r', hr', cellV, g1, g2, g3, -⟩ := hV
  have hcls := (hK.1 3 (RX6, TX6, 5) rfl).2
  obtain ⟨kA, comp, k1, k2, k3, -⟩ := (hK.2 3 (cy 3, .object "BladeDesk$State") rfl).2
  have hcomp : comp = D.1 3 := Option.some.inj (k3.symm.trans hcls.1)
  subst hcomp
  obtain ⟨kC, hkC, -⟩ := hcls.2
  have hcl : (nI k).toNatClampNeg = k := nI_clamp (by omega)
  refine W.aast hx hb hA (fun q h => by cases h) (fun h => by cases h) k1 k2 rfl hkC ⟨nI_pos (by omega), by rw [hcl]; show _ < (arrV _ _ _).slots.size; rw [arrV_size]; exact hkl⟩ g1 (fun q h => by rw [g3] at h; cases h) (by rw [g2]; exact hkC) (by rw [g2]; exact va_assign hcls) rfl rfl hdg fun H1 e z oq => ?_
  rw [hcl] at e
  have oq : ∀ q : Nat, q ≠ h + a → H1[q]? = H[q]? := oq
  obtain ⟨a1, a2, a3, a4, a5⟩ := hM
  refine kk H1 _ ⟨by omega, va_at.kept (q := (h, .inr (ci, fs))) a2 (oq h (by omega)), fun i h1 h2 => ?_, fun q hq => (oq q (by omega)).trans (a4 q hq), fun z hz => ?_⟩
  · by_cases ei : i = a
    · subst ei
      unfold ctP
      rw [if_pos rfl, hka]
      show H1[h + i]? = some (vp_cell _ _)
      rw [e, vp_cell_q, vp_cell_q, arrV_store]
      refine congrArg some (congrArg (arrV (cy 3) len) (funext fun j => ?_))
      by_cases hj : j = k
      · subst hj
        simp [updV, va_rf, hv, adH]
      · by_cases hj2 : j < k
        · simp [updV, hj, hj2, show j < k + 1 by omega]
        · simp [updV, hj, hj2, show ¬ j < k + 1 by omega]
    · have := (a3 i h1 h2).kept (oq (adH h i) (by unfold adH; omega))
      unfold ctP at this ⊢
      rw [if_neg ei] at this ⊢
      exact this
  · rcases List.mem_append.mp hz with e | e
    · exact a5 z e
    · rw [List.mem_singleton.mp e]
      exact Nat.le_add_right h a
/-- a number laid into an array of the object's own -/
theorem mk_ia {a len k : Nat} {x : Int32} (hB : Bx p s m args c cc nL own D cy) (hM : MkI D cy kd I L h n ci fs G H locs) (ha0 : 0 < a) (han : a < n) (hka : kd a = (1, len, 0)) (hkd : ∀ i, i < n → (kd i).1 = 0 → i ≠ a) (hkl : k < len) (h31 : len ≤ 10000) (hdg : decode cc pc = .ok (.iastore, 1))
    (kk : ∀ (H1 : Heap) (locs1 : List Loc), MkI D cy kd (mu I a k x) L h n ci fs G H1 locs1 → W p l e R s m args below meth c H1 locs1 cells slots Q (F0 m (pc + 1) ls rest)) : W p l e R s m args below meth c H locs cells slots Q (F0 m pc ls (.int x :: .int (nI k) :: .ref (h + a) :: rest)) := by
  obtain ⟨hx, hb, -, hown, hts, hK⟩ := hB
  have hA : H[h + a]? = some (vp_cell (cy 0) (len, .inl (I a))) := by
    have := hM.2.2.1 a ha0 han
    unfold ctn at this
    rw [hka] at this
    exact this
  have hcl : (nI k).toNatClampNeg = k := nI_clamp (by omega)
  have hin : ¬ (nI k < 0 ∨ (vp_cell (cy 0) (len, .inl (I a))).slots.size ≤ (nI k).toNatClampNeg) := by
    rintro (q | q)
    · exact nI_pos (by omega) q
    · rw [hcl, vp_cell_i, arrV_size] at q
      omega
  refine W.iast hx hb hA ((hK.2 0 (cy 0, .int) rfl).1 len (fun j => .int (I a j))) (fun q => by cases q) hin rfl rfl hdg fun H1 e z oq => ?_
  rw [hcl] at e
  have oq : ∀ q : Nat, q ≠ h + a → H1[q]? = H[q]? := oq
  obtain ⟨a1, a2, a3, a4, a5⟩ := hM
  refine kk H1 _ ⟨by omega, va_at.kept (q := (h, .inr (ci, fs))) a2 (oq h (by omega)), fun i h1 h2 => ?_, fun q hq => (oq q (by omega)).trans (a4 q hq), fun z hz => ?_⟩
  · by_cases ei : i = a
    · subst ei
      unfold ctn
      rw [hka]
      show H1[h + i]? = some (vp_cell (cy 0) (len, .inl (mu I i k x i)))
      rw [e, vp_cell_i, vp_cell_i, arrV_store]
      refine congrArg some (congrArg (arrV (cy 0) len) (funext fun j => ?_))
      by_cases hj : j = k
      · subst hj
        simp [updV, mu]
      · simp [updV, mu, hj]
    · have := (a3 i h1 h2).kept (oq (adH h i) (by unfold adH; omega))
      have e2 : ctn cy kd (adH h) (mu I a k x) L i = ctn cy kd (adH h) I L i := by
        unfold ctn
        rw [mu_ne _ _ ei, fdv_other (adH h) I (mu I a k x) L L i (mu_ne _ _ ei) rfl]
      rw [e2]
      exact this
  · rcases List.mem_append.mp hz with e | e
    · exact a5 z e
    · rw [List.mem_singleton.mp e]
      exact Nat.le_add_right h a
end MO
