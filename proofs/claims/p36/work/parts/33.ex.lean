/-! where only something is said of what a method leaves -/
theorem ru_ex {l : Launch} {kd : KdT} {N : Nat} {own : String} {cc : ByteArray} {R : Room} {F : Ft} {P : List En} {Q : List Value → IM → LM → Prop} {pc : Nat} {lv : LV} {st : List Value} {I : IM} {L : LM} (body : ∀ V : Nat → LV → List Value → IM → LM → Prop, Ru l kd N own cc R F P V Q → V pc lv st I L) : ∃ st' J K, Q st' J K ∧ ∀ (V : Nat → LV → List Value → IM → LM → Prop) (E : List Value → IM → LM → Prop), Ru l kd N own cc R F P V E → E st' J K → V pc lv st I L := by
  refine body (fun pc lv st I L => ∃ st' J K, Q st' J K ∧ ∀ (V : Nat → LV → List Value → IM → LM → Prop) (E : List Value → IM → LM → Prop), Ru l kd N own cc R F P V E → E st' J K → V pc lv st I L) ⟨?_, ?_, ?_, ?_, ?_, ?_, ?_, ?_, ?_⟩
  · intro n ds pc lv st I L O2 pc2 lv2 st2 I2 L2 hr hpc ho hv
    by_cases h : pc2 = RET
    · rw [if_pos h] at hv
      exact ⟨st2, I2, L2, hv, fun V E hV he => hV.1 n ds pc lv st I L O2 pc2 lv2 st2 I2 L2 hr hpc ho (by rw [if_pos h]; exact he)⟩
    · rw [if_neg h] at hv
      obtain ⟨s, J, K, hq, hk⟩ := hv
      exact ⟨s, J, K, hq, fun V E hV he => hV.1 n ds pc lv st I L O2 pc2 lv2 st2 I2 L2 hr hpc ho (by rw [if_neg h]; exact hk V E hV he)⟩
  · intro pc ix np tg cv y bytes maxL ret rm av rest lv I L r I2 L2 a1 a2 a3 a4 a5 ⟨s, J, K, hq, hk⟩
    exact ⟨s, J, K, hq, fun V E hV he => hV.2.1 pc ix np tg cv y bytes maxL ret rm av rest lv I L r I2 L2 a1 a2 a3 a4 a5 (hk V E hV he)⟩
  · intro pc ix np tg cv y bytes maxL ret rm av rest lv I L r I2 L2 i ci b T NF a1 a2 a3 a4 a5 a6 a7 ⟨s, J, K, hq, hk⟩
    exact ⟨s, J, K, hq, fun V E hV he => hV.2.2.1 pc ix np tg cv y bytes maxL ret rm av rest lv I L r I2 L2 i ci b T NF a1 a2 a3 a4 a5 a6 a7 (hk V E hV he)⟩
  · intro pc lv lv2 st I L a1 ⟨s, J, K, hq, hk⟩
    exact ⟨s, J, K, hq, fun V E hV he => hV.2.2.2.1 pc lv lv2 st I L a1 (hk V E hV he)⟩
  · intro pc dflt lo hi offs len tgt x rest lv I L a1 a2 a3 ⟨s, J, K, hq, hk⟩
    exact ⟨s, J, K, hq, fun V E hV he => hV.2.2.2.2.1 pc dflt lo hi offs len tgt x rest lv I L a1 a2 a3 (hk V E hV he)⟩
  · intro pc ix np tg cv n i0 i1 n0 n1 rest lv I L a1 a2 a3 a4 a5 a6 a7 a8 ⟨s, J, K, hq, hk⟩
    exact ⟨s, J, K, hq, fun V E hV he => hV.2.2.2.2.2.1 pc ix np tg cv n i0 i1 n0 n1 rest lv I L a1 a2 a3 a4 a5 a6 a7 a8 (hk V E hV he)⟩
  · intro pc ix np tg cv n i0 i1 n0 n1 rest lv I L a1 a2 a3 a4 a5 a6 a7 a8 ⟨s, J, K, hq, hk⟩
    exact ⟨s, J, K, hq, fun V E hV he => hV.2.2.2.2.2.2.1 pc ix np tg cv n i0 i1 n0 n1 rest lv I L a1 a2 a3 a4 a5 a6 a7 a8 (hk V E hV he)⟩
  · intro pc ix np tg cv b rest lv I L a1 a2 a3 a4 ⟨s, J, K, hq, hk⟩
    exact ⟨s, J, K, hq, fun V E hV he => hV.2.2.2.2.2.2.2.1 pc ix np tg cv b rest lv I L a1 a2 a3 a4 (hk V E hV he)⟩
  · intro pc ix np tg cv b rest lv I L a1 a2 a3 a4 ⟨s, J, K, hq, hk⟩
    exact ⟨s, J, K, hq, fun V E hV he => hV.2.2.2.2.2.2.2.2 pc ix np tg cv b rest lv I L a1 a2 a3 a4 (hk V E hV he)⟩
theorem ru_post {l : Launch} {kd : KdT} {N : Nat} {own : String} {cc : ByteArray} {R : Room} {F : Ft} {P : List En} {pc : Nat} {lv : LV} {I : IM} {L : LM} {Q : Option Value → IM → LM → Prop} {C : Option Value → IM → LM → Prop} (body : ∀ V : Nat → LV → List Value → IM → LM → Prop, Ru l kd N own cc R F P V (fun st J K => ∃ r : Option Value, st = r.toList ∧ Q r J K) → V pc lv [] I L) (w : ∀ r I2 L2, Q r I2 L2 → (∀ V : Nat → LV → List Value → IM → LM → Prop, Ru l kd N own cc R F P V (fun st J K => st = r.toList ∧ J = I2 ∧ K = L2) → V pc lv [] I L) → C r I2 L2) : ∃ r I2 L2, Q r I2 L2 ∧ C r I2 L2 := by
  obtain ⟨st', J, K, ⟨r, hr, hq⟩, hk⟩ := ru_ex body
  exact ⟨r, J, K, hq, w r J K hq (fun V hV => hk V _ hV ⟨hr, rfl, rfl⟩)⟩
/-- as ru_post, where the answer is known -/
theorem ru_pos1 {l : Launch} {kd : KdT} {N : Nat} {own : String} {cc : ByteArray} {R : Room} {F : Ft} {P : List En} {pc : Nat} {lv : LV} {I : IM} {L : LM} {r : Option Value} {Q : IM → LM → Prop} {C : IM → LM → Prop} (body : ∀ V : Nat → LV → List Value → IM → LM → Prop, Ru l kd N own cc R F P V (fun st J K => st = r.toList ∧ Q J K) → V pc lv [] I L) (w : ∀ I2 L2, (∀ V : Nat → LV → List Value → IM → LM → Prop, Ru l kd N own cc R F P V (fun st J K => st = r.toList ∧ J = I2 ∧ K = L2) → V pc lv [] I L) → C I2 L2) : ∃ I2 L2, Q I2 L2 ∧ C I2 L2 := by
  obtain ⟨st', J, K, ⟨hr, hq⟩, hk⟩ := ru_ex body
  exact ⟨J, K, hq, w J K (fun V hV => hk V _ hV ⟨hr, rfl, rfl⟩)⟩
