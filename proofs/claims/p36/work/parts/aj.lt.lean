/-! THE RANK: minors that are no 0, and the answer of the law -/
section CH
variable {f : Nat → Int32} {n : Nat}
def Rws (f : Nat → Int32) (n : Nat) (P : Pvs) : Prop := ∀ x ∈ P, x.2 < n ∧ ∃ b, 1 ≤ b ∧ b < 2 ^ n ∧ x.1 = uF f n b
/-- the last minor, and what stands before it -/
def Lst (f : Nat → Int32) (n s : Nat) : Prop := s = 0 ∨ ∃ (P : Pvs) (r : Nat → Int) (c : Nat), P.length + 1 = s ∧ P.length ≤ 4 ∧ NN P r c ≠ 0 ∧ Rws f n P ∧ (∃ b, 1 ≤ b ∧ b < 2 ^ n ∧ r = uF f n b) ∧ c < n ∧ (c :: P.map (fun x => x.2)).Nodup
theorem chain (hn : n ≤ 5) : ∀ (m : Nat) (P : Pvs), P.length + m = 5 → P.length ≤ 4 → DD P ≠ 0 → (P.map (fun x => x.2)).Nodup → Rws f n P → Lst f n P.length → ∃ s, Lst f n s ∧ s ≤ n ∧ (s = n ∨ ∃ P : Pvs, P.length = s ∧ P.length ≤ 4 ∧ DD P ≠ 0 ∧ Rws f n P ∧ ∀ b, 1 ≤ b → b < 2 ^ n → ∀ d, d < n → NN P (uF f n b) d = 0)
  | 0, P, h5, h4, _, _, _, _ => by omega
  | m + 1, P, h5, h4, hD, hN, hR, hL => by
    have hs : P.length ≤ n := by
      have := len_nd (P.map (fun x => x.2)) (List.range n) hN (fun j hj => by
        obtain ⟨x, hx, e⟩ := List.mem_map.mp hj
        rw [← e]; exact List.mem_range.mpr (hR x hx).1)
      rw [List.length_map, List.length_range] at this
      exact this
    by_cases hmax : ∀ b, 1 ≤ b → b < 2 ^ n → ∀ d, d < n → NN P (uF f n b) d = 0
    · exact ⟨P.length, hL, hs, Or.inr ⟨P, rfl, h4, hD, hR, hmax⟩⟩
    · obtain ⟨b, hmax⟩ := Classical.not_forall.mp hmax
      obtain ⟨b1, hmax⟩ := Classical.not_forall.mp hmax
      obtain ⟨b2, hmax⟩ := Classical.not_forall.mp hmax
      obtain ⟨d, hmax⟩ := Classical.not_forall.mp hmax
      obtain ⟨d1, hne⟩ := Classical.not_forall.mp hmax
      have hdc : d ∉ P.map (fun x => x.2) := fun hm => by
        obtain ⟨x, hx, e⟩ := List.mem_map.mp hm
        exact hne (by rw [← e]; exact NN_col h4 hx _)
      have hN2 : (d :: P.map (fun x => x.2)).Nodup := List.nodup_cons.mpr ⟨hdc, hN⟩
      have hL2 : Lst f n (P.length + 1) := Or.inr ⟨P, uF f n b, d, rfl, h4, hne, hR, ⟨b, b1, b2, rfl⟩, d1, hN2⟩
      by_cases h3 : P.length ≤ 3
      · refine chain hn m (P ++ [(uF f n b, d)]) (by simp; omega) (by simp; omega) (by rw [DD_add P h3]; exact hne) ?_ (fun x hx => ?_) (by simpa using hL2)
        · rw [List.map_append, List.nodup_append]
          refine ⟨hN, by simp, fun a ha c hc e => ?_⟩
          have hcd : c = d := by simpa using hc
          exact hdc (by rw [← hcd, ← e]; exact ha)
        · rcases List.mem_append.mp hx with hx | hx
          · exact hR x hx
          · have : x = (uF f n b, d) := by simpa using hx
            rw [this]
            exact ⟨d1, b, b1, b2, rfl⟩
      · have e5 : P.length + 1 = 5 := by omega
        have := len_nd (d :: P.map (fun x => x.2)) (List.range n) hN2 (fun j hj => by
          rcases List.mem_cons.mp hj with e | hj
          · rw [e]; exact List.mem_range.mpr d1
          · obtain ⟨x, hx, e⟩ := List.mem_map.mp hj
            rw [← e]; exact List.mem_range.mpr (hR x hx).1)
        rw [List.length_cons, List.length_map, List.length_range] at this
        exact ⟨P.length + 1, hL2, by omega, Or.inl (by omega)⟩
theorem uF_sb (hn : n ≤ 5) (h : f60 f n) (b : Nat) : ∀ d, d < 5 → sb (uF f n b d) := fun d hd => lnF_sb hn h hd
theorem NN_bd {P : Pvs} (h4 : P.length ≤ 4) (hP : PB P) {v : Nat → Int} (hv : VB v) {d : Nat} (hd : d < 5) : -93312000000 ≤ NN P v d ∧ NN P v d ≤ 93312000000 := by
  by_cases h3 : P.length ≤ 3
  · have := NNb hP h3 hv hd
    omega
  · match P, h4, h3, hP with
    | [], _, h3, _ => simp at h3
    | [_], _, h3, _ => simp at h3
    | [_, _], _, h3, _ => simp at h3
    | [_, _, _], _, h3, _ => simp at h3
    | [(r1, c1), (r2, c2), (r3, c3), (r4, c4)], _, _, hP =>
      obtain ⟨a1, a2⟩ := hP (r1, c1) (by simp)
      obtain ⟨b1, b2⟩ := hP (r2, c2) (by simp)
      obtain ⟨e1, e2⟩ := hP (r3, c3) (by simp)
      obtain ⟨g1, g2⟩ := hP (r4, c4) (by simp)
      simp only [] at a1 a2 b1 b2 e1 e2 g1 g2
      exact m5b (a1 _ a2) (a1 _ b2) (a1 _ e2) (a1 _ g2) (a1 _ hd) (b1 _ a2) (b1 _ b2) (b1 _ e2) (b1 _ g2) (b1 _ hd) (e1 _ a2) (e1 _ b2) (e1 _ e2) (e1 _ g2) (e1 _ hd) (g1 _ a2) (g1 _ b2) (g1 _ e2) (g1 _ g2) (g1 _ hd) (hv _ a2) (hv _ b2) (hv _ e2) (hv _ g2) (hv _ hd)
    | _ :: _ :: _ :: _ :: _ :: _, h, _, _ => simp at h
/-- THE ANSWER: as many vectors as the greater rank leaves -/
theorem rk_main (hn : n ≤ 5) (h60 : f60 f n) {z : Nat} {V : VM} {hd0 : Nat → Nat} (hC : CI f n (2 ^ n - 1) z V hd0) {ρ ρ' b b' : Nat} {E E' : Nat → Nat → Int} {hd hd' : Nat → Nat} (h1 : RK 2147483647 n (uF f n) b ρ E hd) (g1 : ρ = n ∨ b = 2 ^ n) (h2 : RK 2147483629 n (uF f n) b' ρ' E' hd') (g2 : ρ' = n ∨ b' = 2 ^ n) : ρ + z ≤ n ∧ ρ' + z ≤ n ∧ (ρ + z = n ∨ ρ' + z = n) := by
  have a1 := rk_le prm_1 hn hC h1
  have a2 := rk_le prm_2 hn hC h2
  refine ⟨a1, a2, ?_⟩
  obtain ⟨s, hL, hs, hM⟩ := chain (f := f) hn 5 [] rfl (by decide) (by decide) List.nodup_nil (fun x hx => by cases hx) (Or.inl rfl)
  have hzs : n ≤ s + z := by
    rcases hM with e | ⟨P, e, h4, hD, hR, hmax⟩
    · omega
    · have := kn_ge hn hC h4 hD (fun x hx => (hR x hx).1) hmax
      omega
  rcases hL with e | ⟨P, r, c, e, h4, hne, hR, hr, hc, hN⟩
  · omega
  · have hbd : -93312000000 ≤ NN P r c ∧ NN P r c ≤ 93312000000 := by
      obtain ⟨b0, -, -, er⟩ := hr
      refine NN_bd h4 (fun x hx => ?_) (by rw [er]; exact uF_sb hn h60 b0) (by omega)
      obtain ⟨x1, b3, -, -, ex⟩ := hR x hx
      rw [ex]
      exact ⟨uF_sb hn h60 b3, by omega⟩
    have hno : ¬ ((2147483647 : Nat) : Int) ∣ NN P r c ∨ ¬ ((2147483629 : Nat) : Int) ∣ NN P r c := by
      refine Classical.byContradiction (fun hh => ?_)
      have d1 : ((2147483647 : Nat) : Int) ∣ NN P r c := Classical.byContradiction (fun z => hh (Or.inl z))
      have d2 : ((2147483629 : Nat) : Int) ∣ NN P r c := Classical.byContradiction (fun z => hh (Or.inr z))
      have e1 := Int.natAbs_dvd_natAbs.mpr d1
      have e2 := Int.natAbs_dvd_natAbs.mpr d2
      rw [Int.natAbs_natCast] at e1 e2
      have cp : Nat.Coprime 2147483647 2147483629 := by decide
      have := Nat.le_of_dvd (by omega) (Nat.Coprime.mul_dvd_of_dvd_of_dvd cp e1 e2)
      omega
    rcases hno with hno | hno
    · refine Or.inl ?_
      rcases g1 with g | g
      · omega
      · subst g
        have := rk_ge prm_1 hn h1 h4 hR hr hc hN hno
        omega
    · refine Or.inr ?_
      rcases g2 with g | g
      · omega
      · subst g
        have := rk_ge prm_2 hn h2 h4 hR hr hc hN hno
        omega
/-- the law's lines are the form's -/
theorem uL_F {F : Nat → Int64} (hn : n ≤ 5) (hF : ∀ q, q < 32 → F q = (f q).toInt64) {b d : Nat} (hb : b < 2 ^ n) (hd : d < 5) : (uL F b d).toInt = uF f n b d := by
  have hB := (pow_le32 n hn).1
  unfold uL uF lnF
  by_cases h : b.testBit d = true
  · rw [if_pos h, if_pos ⟨hb, h⟩, odI_sg, hF _ (cl_bit b (by omega) d hd h).2]
  · rw [if_neg h, if_neg (fun z => h z.2)]
theorem RK_uF {F : Nat → Int64} {q b ρ : Nat} {E : Nat → Nat → Int} {hd : Nat → Nat} (hn : n ≤ 5) (hF : ∀ q, q < 32 → F q = (f q).toInt64) (hb : b ≤ 2 ^ n) (h : RK q n (fun b d => (uL F b d).toInt) b ρ E hd) : RK q n (uF f n) b ρ E hd := by
  have e : ∀ b, b < 2 ^ n → ∀ v, dt (fun d => (uL F b d).toInt) v = dt (uF f n b) v := fun b hb v => by
    rw [dt_5, dt_5, uL_F hn hF hb (by decide), uL_F hn hF hb (by decide), uL_F hn hF hb (by decide), uL_F hn hF hb (by decide), uL_F hn hF hb (by decide)]
  obtain ⟨h1, h2, h3, h4, h5, h6⟩ := h
  refine ⟨h1, h2, h3, h4, fun v hv => h5 v (fun c c1 c2 => by
    show (q : Int) ∣ dt (fun d => (uL F c d).toInt) v
    rw [e c c2]; exact hv c c1 c2), fun v hv c c1 c2 => ?_⟩
  have := h6 v hv c c1 c2
  rw [← e c (by omega)]
  exact this
end CH
