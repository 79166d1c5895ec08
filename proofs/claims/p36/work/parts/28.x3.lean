/-- the place of the saved state j -/
def hbk (j : Nat) : Nat := 21 + 18 * j
theorem hbk_st {j : Nat} (h : j < 6) : isSt (hbk j) := Or.inr (Or.inl ⟨j, h, rfl⟩)
theorem hbk_aa {j : Nat} (h : j < 6) : (∃ w, kdC 20 = (4, 6, w) ∧ hbk j = 20 + 1 + j * w) ∧ 4 ≤ 4 ∧ 4 ≤ 6 ∧ nI j = nI j ∧ j < 6 := ⟨⟨18, rfl, by unfold hbk; omega⟩, by decide, by decide, rfl, h⟩
/-- the memory behind a save of the State at 1, with oldest o and size z -/
noncomputable def svI (I : IM) (o z : Nat) : IM := if z = 6 then mu (cpA (mu (mu I 19 1 (nI ((o + 1) % 6))) 19 2 (nI 5)) (hbk o) 1) 19 2 (nI 6) else mu (cpA I (hbk ((o + z) % 6)) 1) 19 2 (nI (z + 1))
noncomputable def drI (I : IM) (o z : Nat) : IM := cpA (mu I 19 2 (nI (z - 1))) 1 (hbk ((o + (z - 1)) % 6))
theorem rem6 : ∀ a, a < 13 → nI a - nI a / 6 * 6 = nI (a % 6) := by decide +kernel
theorem cpA_19 (I : IM) {b o : Nat} (hb : isSt b) (j : Nat) : cpA I b o 19 j = I 19 j := by
  unfold cpA
  rw [fb_out]
  unfold alP scP
  rcases hb with rfl | ⟨k, hk, rfl⟩ | ⟨k, hk, rfl⟩ <;> omega
theorem qX3_save (l : Launch) {o z : Nat} (ho : o < 6) (hz : z ≤ 6) {I : IM} (h1 : I 19 1 = nI o) (h2 : I 19 2 = nI z) (L : LM) : KX3_save l [.ref 19, .ref 1] I L none (svI I o z) L := by
  refine wX3_save l rfl (hz0 (by decide)) (fun V hV => ?_)
  have s1 : isSt 1 := Or.inl rfl
  by_cases h6 : z = 6
  · subst h6
    have e1 : nI o + 1 - (nI o + 1) / 6 * 6 = nI ((o + 1) % 6) := by rw [nI_1]; exact rem6 (o + 1) (by omega)
    refine ru_go hV 18 [(0, 0)] rfl rfl ⟨⟨⟨⟨⟨⟨⟨trivial, (by first | exact rfl | assumption | exact ⟨rfl, rfl⟩ | exact ⟨rfl, rfl, by omega⟩ | exact ⟨by assumption, rfl, by omega⟩ | exact ⟨⟨_, rfl, rfl⟩, by decide, by decide, rfl, by omega⟩ | omega | decide)⟩, (by rw [h2]; exact fun e => e rfl)⟩, (by first | exact rfl | assumption | exact ⟨rfl, rfl⟩ | exact ⟨rfl, rfl, by omega⟩ | exact ⟨by assumption, rfl, by omega⟩ | exact ⟨⟨_, rfl, rfl⟩, by decide, by decide, rfl, by omega⟩ | omega | decide)⟩, (by decide)⟩, (by first | exact rfl | assumption | exact ⟨rfl, rfl⟩ | exact ⟨rfl, rfl, by omega⟩ | exact ⟨by assumption, rfl, by omega⟩ | exact ⟨⟨_, rfl, rfl⟩, by decide, by decide, rfl, by omega⟩ | omega | decide)⟩, (by first | exact rfl | assumption | exact ⟨rfl, rfl⟩ | exact ⟨rfl, rfl, by omega⟩ | exact ⟨by assumption, rfl, by omega⟩ | exact ⟨⟨_, rfl, rfl⟩, by decide, by decide, rfl, by omega⟩ | omega | decide)⟩, (by first | exact rfl | assumption | exact ⟨rfl, rfl⟩ | exact ⟨rfl, rfl, by omega⟩ | exact ⟨by assumption, rfl, by omega⟩ | exact ⟨⟨_, rfl, rfl⟩, by decide, by decide, rfl, by omega⟩ | omega | decide)⟩ ?_
    have e2 : (mu (mu I 19 1 (I 19 1 + 1 - (I 19 1 + 1) / 6 * 6)) 19 2 (mu I 19 1 (I 19 1 + 1 - (I 19 1 + 1) / 6 * 6) 19 2 - 1)) = mu (mu I 19 1 (nI ((o + 1) % 6))) 19 2 (nI 5) := by
      rw [h1, e1, show mu I 19 1 (nI ((o + 1) % 6)) 19 2 = nI 6 by simp [mu, h2]]
      rfl
    rw [e2]
    have e3 : mu (mu I 19 1 (nI ((o + 1) % 6))) 19 2 (nI 5) 19 1 = nI ((o + 1) % 6) := by simp [mu]
    have e4 : mu (mu I 19 1 (nI ((o + 1) % 6))) 19 2 (nI 5) 19 2 = nI 5 := by simp [mu]
    have e5 : nI ((o + 1) % 6) + nI 5 - (nI ((o + 1) % 6) + nI 5) / 6 * 6 = nI o := by
      rw [nI_add, rem6 _ (by omega)]
      congr 1; omega
    have hne : hbk o ≠ 1 := by unfold hbk; omega
    refine ru_go hV 11 [(20, 0), (o, 6), ((hbk o), 4)] rfl rfl ⟨⟨⟨⟨⟨trivial, (by first | exact rfl | assumption | exact ⟨rfl, rfl⟩ | exact ⟨rfl, rfl, by omega⟩ | exact ⟨by assumption, rfl, by omega⟩ | exact ⟨⟨_, rfl, rfl⟩, by decide, by decide, rfl, by omega⟩ | omega | decide)⟩, (by first | exact rfl | assumption | exact ⟨rfl, rfl⟩ | exact ⟨rfl, rfl, by omega⟩ | exact ⟨by assumption, rfl, by omega⟩ | exact ⟨⟨_, rfl, rfl⟩, by decide, by decide, rfl, by omega⟩ | omega | decide)⟩, (by first | exact rfl | assumption | exact ⟨rfl, rfl⟩ | exact ⟨rfl, rfl, by omega⟩ | exact ⟨by assumption, rfl, by omega⟩ | exact ⟨⟨_, rfl, rfl⟩, by decide, by decide, rfl, by omega⟩ | omega | decide)⟩, (by decide)⟩, (by rw [e3, e4, e5]; exact hbk_aa ho)⟩ ?_
    refine ru_V hV [] sVX3_25 (qX6_copyAll l (hbk_st ho) s1 hne _ L) (kd_st0 (hbk_st ho)) rfl rfl rfl rfl (Nat.le_of_ble_eq_true rfl) ?_
    refine ru_fin hV 7 [] rfl rfl ⟨⟨trivial, (by first | exact rfl | assumption | exact ⟨rfl, rfl⟩ | exact ⟨rfl, rfl, by omega⟩ | exact ⟨by assumption, rfl, by omega⟩ | exact ⟨⟨_, rfl, rfl⟩, by decide, by decide, rfl, by omega⟩ | omega | decide)⟩, (by first | exact rfl | assumption | exact ⟨rfl, rfl⟩ | exact ⟨rfl, rfl, by omega⟩ | exact ⟨by assumption, rfl, by omega⟩ | exact ⟨⟨_, rfl, rfl⟩, by decide, by decide, rfl, by omega⟩ | omega | decide)⟩ ?_
    refine ⟨rfl, ?_, rfl⟩
    rw [svI, if_pos rfl, cpA_19 _ (hbk_st ho), e4]
    rfl
  · have hz5 : z < 6 := by omega
    have e5 : nI o + nI z - (nI o + nI z) / 6 * 6 = nI ((o + z) % 6) := by
      rw [nI_add, rem6 _ (by omega)]
    have hj : (o + z) % 6 < 6 := Nat.mod_lt _ (by decide)
    have hne : hbk ((o + z) % 6) ≠ 1 := by unfold hbk; omega
    refine ru_go hV 15 [(1, 0), (20, 0), (((o+z)%6), 6), ((hbk ((o+z)%6)), 4)] rfl rfl ⟨⟨⟨⟨⟨⟨⟨trivial, (by first | exact rfl | assumption | exact ⟨rfl, rfl⟩ | exact ⟨rfl, rfl, by omega⟩ | exact ⟨by assumption, rfl, by omega⟩ | exact ⟨⟨_, rfl, rfl⟩, by decide, by decide, rfl, by omega⟩ | omega | decide)⟩, (by rw [h2]; exact fun e => h6 ((nI_eq (by omega) (by decide)).mp e))⟩, (by first | exact rfl | assumption | exact ⟨rfl, rfl⟩ | exact ⟨rfl, rfl, by omega⟩ | exact ⟨by assumption, rfl, by omega⟩ | exact ⟨⟨_, rfl, rfl⟩, by decide, by decide, rfl, by omega⟩ | omega | decide)⟩, (by first | exact rfl | assumption | exact ⟨rfl, rfl⟩ | exact ⟨rfl, rfl, by omega⟩ | exact ⟨by assumption, rfl, by omega⟩ | exact ⟨⟨_, rfl, rfl⟩, by decide, by decide, rfl, by omega⟩ | omega | decide)⟩, (by first | exact rfl | assumption | exact ⟨rfl, rfl⟩ | exact ⟨rfl, rfl, by omega⟩ | exact ⟨by assumption, rfl, by omega⟩ | exact ⟨⟨_, rfl, rfl⟩, by decide, by decide, rfl, by omega⟩ | omega | decide)⟩, (by decide)⟩, (by rw [h1, h2, e5]; exact hbk_aa hj)⟩ ?_
    refine ru_V hV [] sVX3_25 (qX6_copyAll l (hbk_st hj) s1 hne I L) (kd_st0 (hbk_st hj)) rfl rfl rfl rfl (Nat.le_of_ble_eq_true rfl) ?_
    refine ru_fin hV 7 [] rfl rfl ⟨⟨trivial, (by first | exact rfl | assumption | exact ⟨rfl, rfl⟩ | exact ⟨rfl, rfl, by omega⟩ | exact ⟨by assumption, rfl, by omega⟩ | exact ⟨⟨_, rfl, rfl⟩, by decide, by decide, rfl, by omega⟩ | omega | decide)⟩, (by first | exact rfl | assumption | exact ⟨rfl, rfl⟩ | exact ⟨rfl, rfl, by omega⟩ | exact ⟨by assumption, rfl, by omega⟩ | exact ⟨⟨_, rfl, rfl⟩, by decide, by decide, rfl, by omega⟩ | omega | decide)⟩ ?_
    refine ⟨rfl, ?_, rfl⟩
    rw [svI, if_neg h6, cpA_19 _ (hbk_st hj), h2, nI_1]
