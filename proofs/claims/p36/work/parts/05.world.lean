/-! THE WORLD of numbered cells over the heap -/
def cz (ad : Nat → Nat) : Value → Value
  | .ref i => .ref (ad i)
  | v => v
theorem cz_cat (ad : Nat → Nat) (v : Value) : (cz ad v).category = v.category := by cases v <;> rfl
/-- the fields of an object: kind 0 and 3 whole numbers, 1 long ones, 2 a reference that many cells further -/
def fdv (ad : Nat → Nat) (I : IM) (L : LM) (i : Nat) : Nat → List (Nat × Nat) → List Value
  | _, [] => []
  | k, (t, o) :: r => (if t = 1 then .long (L i k) else if t = 2 then .ref (ad (i + o)) else .int (I i k)) :: fdv ad I L i (k + 1) r
/-- the classes' fields, by the numbers of vwCl: kind, and how many cells further a reference lies -/
def FD (ci : Nat) : List (Nat × Nat) :=
  if ci = 0 then [(2, 1), (0, 0), (0, 0), (3, 0), (0, 0), (0, 0)]
  else if ci = 1 then [(2, 1), (0, 0), (0, 0)]
  else if ci = 2 then [(2, 1), (2, 7), (0, 0)]
  else if ci = 3 then [(0, 0), (2, 1), (2, 10), (2, 11), (2, 17)]
  else if ci = 4 then [(2, 1), (2, 19), (2, 129), (2, 166), (2, 167), (0, 0), (2, 168), (2, 169), (2, 170), (2, 171), (2, 179)]
  else [(2, 1), (2, 2), (0, 0), (2, 3), (2, 4), (2, 5), (0, 0), (0, 0), (2, 6), (2, 7), (2, 8), (2, 9), (0, 0), (3, 0), (0, 0), (0, 0), (0, 0), (0, 0), (0, 0), (2, 10), (2, 11), (0, 0), (1, 0), (1, 0)]
def ctn (cy : Nat → ClassId) (kd : KdT) (ad : Nat → Nat) (I : IM) (L : LM) (i : Nat) : va_E :=
  if (kd i).1 = 0 then .inr ((kd i).2.1, fdv ad I L i 0 (FD (kd i).2.1))
  else if (kd i).1 = 1 then .inl (cy 0, (kd i).2.1, .inl (I i))
  else if (kd i).1 = 2 then .inl (cy 1, (kd i).2.1, .inr (.inl (L i)))
  else if (kd i).1 = 3 then .inl (cy 2, (kd i).2.1, .inl (I i))
  else .inl (cy ((kd i).1 - 1), (kd i).2.1, .inr (.inr (.inr (.inr (fun j => if j < (kd i).2.1 then some (ad (i + 1 + j * (kd i).2.2)) else none)))))
/-- the world: N cells -/
def wd (D : va_G) (cy : Nat → ClassId) (kd : KdT) (ad : Nat → Nat) (N : Nat) (I : IM) (L : LM) (H : Heap) : Prop := ∀ i, i < N → va_at D vwCl (ad i, ctn cy kd ad I L i) H
def AA (ad : Nat → Nat) (N : Nat) : Nat → Prop := fun q => ∃ i, i < N ∧ q = ad i
def inj (ad : Nat → Nat) (N : Nat) : Prop := ∀ i j, i < N → j < N → ad i = ad j → i = j
/-- the table of kinds is a good one: kinds 0 to 6, and what is named lies within; no array is too long -/
def kdOK (kd : KdT) (N : Nat) : Prop := (∀ i, (kd i).1 ≤ 6 → i < N) ∧ (∀ i, (kd i).2.1 < 2147483648)
def tysC (cy : Nat → ClassId) : List (ClassId × FieldType) := [(cy 0, .int), (cy 1, .long), (cy 2, .boolean), (cy 3, .object "BladeDesk$State"), (cy 4, .array .int), (cy 5, .array .long)]
theorem mu_self {α : Type} (f : Nat → Nat → α) (c j : Nat) (v : α) : mu f c j v c j = v := by simp [mu]
theorem mu_row {α : Type} (f : Nat → Nat → α) (c j : Nat) (v : α) : mu f c j v c = fun b => if b = j then v else f c b := by funext b; simp [mu]
theorem mu_ne {α : Type} (f : Nat → Nat → α) {c j a : Nat} (v : α) (h : a ≠ c) : mu f c j v a = f a := by funext b; simp [mu, h]
theorem fdv_get (ad : Nat → Nat) (I : IM) (L : LM) (i : Nat) : ∀ (l : List (Nat × Nat)) (k0 k : Nat) (t o : Nat), l[k]? = some (t, o) → (fdv ad I L i k0 l)[k]? = some (if t = 1 then .long (L i (k0 + k)) else if t = 2 then .ref (ad (i + o)) else .int (I i (k0 + k)))
  | [], _, _, _, _, h => by simp at h
  | (t1, o1) :: r, k0, 0, t, o, h => by
    simp at h
    obtain ⟨rfl, rfl⟩ := h
    simp [fdv]
  | (t1, o1) :: r, k0, k + 1, t, o, h => by
    rw [List.getElem?_cons_succ] at h
    have := fdv_get ad I L i r (k0 + 1) k t o h
    rw [show fdv ad I L i k0 ((t1, o1) :: r) = (if t1 = 1 then .long (L i k0) else if t1 = 2 then .ref (ad (i + o1)) else .int (I i k0)) :: fdv ad I L i (k0 + 1) r from rfl, List.getElem?_cons_succ, this]
    simp only [show k0 + 1 + k = k0 + (k + 1) by omega]
theorem fdv_len (ad : Nat → Nat) (I : IM) (L : LM) (i : Nat) : ∀ (l : List (Nat × Nat)) (k0 : Nat), (fdv ad I L i k0 l).length = l.length
  | [], _ => rfl
  | (t, o) :: r, k0 => by simp [fdv, fdv_len ad I L i r (k0 + 1)]
theorem fdv_other (ad : Nat → Nat) (I I2 : IM) (L L2 : LM) (i : Nat) (h1 : I2 i = I i) (h2 : L2 i = L i) : ∀ (l : List (Nat × Nat)) (k0 : Nat), fdv ad I2 L2 i k0 l = fdv ad I L i k0 l
  | [], _ => rfl
  | (t, o) :: r, k0 => by simp [fdv, h1, h2, fdv_other ad I I2 L L2 i h1 h2 r (k0 + 1)]
theorem fdv_tail (ad : Nat → Nat) (I : IM) (L : LM) (i j : Nat) (v : Int32) : ∀ (l : List (Nat × Nat)) (k0 : Nat), j < k0 → fdv ad (mu I i j v) L i k0 l = fdv ad I L i k0 l
  | [], _, _ => rfl
  | (t, o) :: r, k0, h => by
    have hne : ¬ k0 = j := by omega
    simp [fdv, mu, hne, fdv_tail ad I L i j v r (k0 + 1) (by omega)]
theorem fdv_setI (ad : Nat → Nat) (I : IM) (L : LM) (i j : Nat) (v : Int32) : ∀ (l : List (Nat × Nat)) (k0 k : Nat) (t o : Nat), l[k]? = some (t, o) → t ≠ 1 → t ≠ 2 → j = k0 + k → fdv ad (mu I i j v) L i k0 l = (fdv ad I L i k0 l).set k (.int v)
  | [], _, _, _, _, h, _, _, _ => by simp at h
  | (t1, o1) :: r, k0, 0, t, o, h, n1, n2, hj => by
    simp at h
    obtain ⟨rfl, rfl⟩ := h
    have hj : k0 = j := by omega
    subst hj
    have e : fdv ad (mu I i k0 v) L i (k0 + 1) r = fdv ad I L i (k0 + 1) r := fdv_tail ad I L i k0 v r (k0 + 1) (by omega)
    simp only [fdv, if_neg n1, if_neg n2, List.set_cons_zero, e]
    simp [mu]
  | (t1, o1) :: r, k0, k + 1, t, o, h, n1, n2, hj => by
    rw [List.getElem?_cons_succ] at h
    have := fdv_setI ad I L i j v r (k0 + 1) k t o h n1 n2 (by omega)
    simp only [fdv, List.set_cons_succ, this]
    have hne : ¬ k0 = j := by omega
    simp [mu, hne]
theorem fdv_tailL (ad : Nat → Nat) (I : IM) (L : LM) (i j : Nat) (v : Int64) : ∀ (l : List (Nat × Nat)) (k0 : Nat), j < k0 → fdv ad I (mu L i j v) i k0 l = fdv ad I L i k0 l
  | [], _, _ => rfl
  | (t, o) :: r, k0, h => by
    have hne : ¬ k0 = j := by omega
    simp [fdv, mu, hne, fdv_tailL ad I L i j v r (k0 + 1) (by omega)]
theorem fdv_setL (ad : Nat → Nat) (I : IM) (L : LM) (i j : Nat) (v : Int64) : ∀ (l : List (Nat × Nat)) (k0 k : Nat) (o : Nat), l[k]? = some (1, o) → j = k0 + k → fdv ad I (mu L i j v) i k0 l = (fdv ad I L i k0 l).set k (.long v)
  | [], _, _, _, h, _ => by simp at h
  | (t1, o1) :: r, k0, 0, o, h, hj => by
    simp at h
    obtain ⟨rfl, rfl⟩ := h
    have hj : k0 = j := by omega
    subst hj
    have e : fdv ad I (mu L i k0 v) i (k0 + 1) r = fdv ad I L i (k0 + 1) r := fdv_tailL ad I L i k0 v r (k0 + 1) (by omega)
    simp only [fdv, if_true, List.set_cons_zero, e]
    simp [mu]
  | (t1, o1) :: r, k0, k + 1, o, h, hj => by
    rw [List.getElem?_cons_succ] at h
    have := fdv_setL ad I L i j v r (k0 + 1) k o h (by omega)
    simp only [fdv, List.set_cons_succ, this]
    have hne : ¬ k0 = j := by omega
    simp [mu, hne]
/-- a world behind a change of one cell -/
theorem wd_put {D : va_G} {cy : Nat → ClassId} {kd : KdT} {ad : Nat → Nat} {N : Nat} {I I2 : IM} {L L2 : LM} {H H1 : Heap} (hinj : inj ad N) (h : wd D cy kd ad N I L H) {c : Nat} (hc : c < N) (he : va_at D vwCl (ad c, ctn cy kd ad I2 L2 c) H1) (oq : ∀ q : Nat, q ≠ ad c → H1[q]? = H[q]?) (h1 : ∀ i, i ≠ c → I2 i = I i) (h2 : ∀ i, i ≠ c → L2 i = L i) : wd D cy kd ad N I2 L2 H1 := by
  intro i hi
  by_cases e : i = c
  · subst e; exact he
  · have : ctn cy kd ad I2 L2 i = ctn cy kd ad I L i := by
      unfold ctn
      rw [h1 i e, h2 i e, fdv_other ad I I2 L L2 i (h1 i e) (h2 i e)]
    rw [this]
    exact (h i hi).kept (oq (ad i) (fun z => e (hinj i c hi hc z)))
theorem wd_kept {D : va_G} {cy : Nat → ClassId} {kd : KdT} {ad : Nat → Nat} {N : Nat} {I : IM} {L : LM} {H H1 : Heap} (h : wd D cy kd ad N I L H) (oq : ∀ i, i < N → H1[ad i]? = H[ad i]?) : wd D cy kd ad N I L H1 := fun i hi => (h i hi).kept (oq i hi)
