theorem cnz_cong {f g : Nat → Int32} : ∀ {n : Nat}, (∀ j, j < n → f j = g j) → cnz f n = cnz g n
  | 0, _ => rfl
  | n + 1, h => by
    unfold cnz
    rw [cnz_cong (n := n) (fun j hj => h j (by omega)), h n (by omega)]
/-! the desk: dimension, metric, matrix, slots, texts, snapshots -/
theorem qX7_begin (l : Launch) {m : Nat} (hm2 : 2 ≤ m) (hm5 : m ≤ 5) {o z : Nat} (ho : o < 6) (hz : z ≤ 6) {I : IM} (h1 : I 19 1 = nI o) (h2 : I 19 2 = nI z) (L : LM) : KX7_begin l [.ref 0, .int (nI m)] I L (some (.int (I 1 0))) (nwS (svI I o z) 1 (nI m)) L := by
  refine wX7_begin l rfl (hz0 (by decide)) (fun V hV => ?_)
  refine ru_go hV 10 [(0, 0), (1, 0), (19, 0), (1, 0)] rfl rfl ⟨⟨⟨⟨trivial, nI_nlt (b := 2) hm2 (by omega)⟩, nI_le (b := 5) hm5 (by decide)⟩, (by first | exact rfl | assumption | exact ⟨rfl, rfl⟩ | exact ⟨rfl, rfl, by omega⟩ | exact ⟨by assumption, rfl, by omega⟩ | exact ⟨⟨_, rfl, rfl⟩, by decide, by decide, rfl, by omega⟩ | omega | decide)⟩, (by first | exact rfl | assumption | exact ⟨rfl, rfl⟩ | exact ⟨rfl, rfl, by omega⟩ | exact ⟨by assumption, rfl, by omega⟩ | exact ⟨⟨_, rfl, rfl⟩, by decide, by decide, rfl, by omega⟩ | omega | decide)⟩ ?_
  refine ru_V hV [] sVX7_70 (qX3_save l ho hz h1 h2 L) rfl rfl rfl rfl rfl (Nat.le_of_ble_eq_true rfl) ?_
  refine ru_go hV 7 [(1, 0), (1, 0)] rfl rfl ⟨⟨⟨trivial, (by first | exact rfl | assumption | exact ⟨rfl, rfl⟩ | exact ⟨rfl, rfl, by omega⟩ | exact ⟨by assumption, rfl, by omega⟩ | exact ⟨⟨_, rfl, rfl⟩, by decide, by decide, rfl, by omega⟩ | omega | decide)⟩, (by first | exact rfl | assumption | exact ⟨rfl, rfl⟩ | exact ⟨rfl, rfl, by omega⟩ | exact ⟨by assumption, rfl, by omega⟩ | exact ⟨⟨_, rfl, rfl⟩, by decide, by decide, rfl, by omega⟩ | omega | decide)⟩, (by first | exact rfl | assumption | exact ⟨rfl, rfl⟩ | exact ⟨rfl, rfl, by omega⟩ | exact ⟨by assumption, rfl, by omega⟩ | exact ⟨⟨_, rfl, rfl⟩, by decide, by decide, rfl, by omega⟩ | omega | decide)⟩ ?_
  rw [svI_ne ho (by decide)]
  refine ru_V hV [] sVX7_77 (qX6_startWith l hb1 _ L) rfl rfl rfl rfl rfl (Nat.le_of_ble_eq_true rfl) ?_
  refine ru_fin hV 2 [] rfl rfl trivial ?_
  exact ⟨rfl, rfl, rfl⟩
theorem qX7_sign (l : Launch) {k : Nat} {v : Int32} {n o z : Nat} (hk : k < n) (hv : v = 1 ∨ v = -1) (hn : n ≤ 5) (ho : o < 6) (hz : z ≤ 6) {I : IM} (hd : I 1 0 = nI n) (h1 : I 19 1 = nI o) (h2 : I 19 2 = nI z) (L : LM) : KX7_sign l [.ref 0, .int (nI k), .int v] I L (some (.int (I 11 k))) (mu (svI I o z) 11 k v) L := by
  refine wX7_sign l rfl (hz0 (by decide)) (fun V hV => ?_)
  have hk5 : k < 5 := by omega
  refine ru_go hV 2 [] rfl rfl trivial ?_
  refine ru_V hV [] sVX7_81 (qX7_requireDirection l hk hn hd L) rfl rfl rfl rfl rfl (Nat.le_of_ble_eq_true rfl) ?_
  have tail : V 25 [(0, .ref 0), (1, .int (nI k)), (2, .int v)] [] I L := by
    refine ru_go hV 4 [(19, 0), (1, 0)] rfl rfl ⟨⟨trivial, (by first | exact rfl | assumption | exact ⟨rfl, rfl⟩ | exact ⟨rfl, rfl, by omega⟩ | exact ⟨by assumption, rfl, by omega⟩ | exact ⟨⟨_, rfl, rfl⟩, by decide, by decide, rfl, by omega⟩ | omega | decide)⟩, (by first | exact rfl | assumption | exact ⟨rfl, rfl⟩ | exact ⟨rfl, rfl, by omega⟩ | exact ⟨by assumption, rfl, by omega⟩ | exact ⟨⟨_, rfl, rfl⟩, by decide, by decide, rfl, by omega⟩ | omega | decide)⟩ ?_
    refine ru_V hV [] sVX7_70 (qX3_save l ho hz h1 h2 L) rfl rfl rfl rfl rfl (Nat.le_of_ble_eq_true rfl) ?_
    refine ru_fin hV 14 [(1, 0), (11, 0), (k, 5), (1, 0), (11, 0), (k, 5)] rfl rfl ⟨⟨⟨⟨⟨⟨trivial, (by first | exact rfl | assumption | exact ⟨rfl, rfl⟩ | exact ⟨rfl, rfl, by omega⟩ | exact ⟨by assumption, rfl, by omega⟩ | exact ⟨⟨_, rfl, rfl⟩, by decide, by decide, rfl, by omega⟩ | omega | decide)⟩, (by first | exact rfl | assumption | exact ⟨rfl, rfl⟩ | exact ⟨rfl, rfl, by omega⟩ | exact ⟨by assumption, rfl, by omega⟩ | exact ⟨⟨_, rfl, rfl⟩, by decide, by decide, rfl, by omega⟩ | omega | decide)⟩, (by first | exact rfl | assumption | exact ⟨rfl, rfl⟩ | exact ⟨rfl, rfl, by omega⟩ | exact ⟨by assumption, rfl, by omega⟩ | exact ⟨⟨_, rfl, rfl⟩, by decide, by decide, rfl, by omega⟩ | omega | decide)⟩, (by first | exact rfl | assumption | exact ⟨rfl, rfl⟩ | exact ⟨rfl, rfl, by omega⟩ | exact ⟨by assumption, rfl, by omega⟩ | exact ⟨⟨_, rfl, rfl⟩, by decide, by decide, rfl, by omega⟩ | omega | decide)⟩, (by first | exact rfl | assumption | exact ⟨rfl, rfl⟩ | exact ⟨rfl, rfl, by omega⟩ | exact ⟨by assumption, rfl, by omega⟩ | exact ⟨⟨_, rfl, rfl⟩, by decide, by decide, rfl, by omega⟩ | omega | decide)⟩, (by first | exact rfl | assumption | exact ⟨rfl, rfl⟩ | exact ⟨rfl, rfl, by omega⟩ | exact ⟨by assumption, rfl, by omega⟩ | exact ⟨⟨_, rfl, rfl⟩, by decide, by decide, rfl, by omega⟩ | omega | decide)⟩ ?_
    refine ⟨?_, rfl, rfl⟩
    rw [svI_ne ho (by decide)]
    rfl
  rcases hv with rfl | rfl
  · refine ru_go hV 3 [(1, 0)] rfl rfl ⟨trivial, (by first | exact rfl | assumption | exact ⟨rfl, rfl⟩ | exact ⟨rfl, rfl, by omega⟩ | exact ⟨by assumption, rfl, by omega⟩ | exact ⟨⟨_, rfl, rfl⟩, by decide, by decide, rfl, by omega⟩ | omega | decide)⟩ ?_
    exact tail
  · refine ru_go hV 6 [(0, 0), (1, 0)] rfl rfl ⟨⟨trivial, (by first | exact rfl | assumption | exact ⟨rfl, rfl⟩ | exact ⟨rfl, rfl, by omega⟩ | exact ⟨by assumption, rfl, by omega⟩ | exact ⟨⟨_, rfl, rfl⟩, by decide, by decide, rfl, by omega⟩ | omega | decide)⟩, (by first | exact rfl | assumption | exact ⟨rfl, rfl⟩ | exact ⟨rfl, rfl, by omega⟩ | exact ⟨by assumption, rfl, by omega⟩ | exact ⟨⟨_, rfl, rfl⟩, by decide, by decide, rfl, by omega⟩ | omega | decide)⟩ ?_
    exact tail
theorem qX7_matrix (l : Launch) {r c : Nat} {v : Int32} {n o z : Nat} (hr : r < n) (hc : c < n) (hv : ¬ ouS v 9) (hn : n ≤ 5) (ho : o < 6) (hz : z ≤ 6) {I : IM} (hd : I 1 0 = nI n) (h1 : I 19 1 = nI o) (h2 : I 19 2 = nI z) (L : LM) : KX7_matrix l [.ref 0, .int (nI r), .int (nI c), .int v] I L (some (.int (I (13 + r) c))) (mu (svI I o z) (13 + r) c v) L := by
  have km := kd_mrow (b := 1) (x := r) hb1 (by omega)
  have kr := kd_mr (b := 1) (x := r) hb1 (by omega)
  refine wX7_matrix l rfl (hz0 (by decide)) (fun V hV => ?_)
  refine ru_go hV 2 [] rfl rfl trivial ?_
  refine ru_V hV [] sVX7_81 (qX7_requireDirection l hr hn hd L) rfl rfl rfl rfl rfl (Nat.le_of_ble_eq_true rfl) ?_
  refine ru_go hV 2 [] rfl rfl trivial ?_
  refine ru_V hV [] sVX7_81 (qX7_requireDirection l hc hn hd L) rfl rfl rfl rfl rfl (Nat.le_of_ble_eq_true rfl) ?_
  refine ru_go hV 2 [] rfl rfl trivial ?_
  refine ru_S hV [] sSX7_89 (qX7_requireSize l hv I L) rfl rfl rfl (Nat.le_of_ble_eq_true rfl) ?_
  refine ru_go hV 4 [(19, 0), (1, 0)] rfl rfl ⟨⟨trivial, (by first | exact rfl | assumption | exact ⟨rfl, rfl⟩ | exact ⟨rfl, rfl, by omega⟩ | exact ⟨by assumption, rfl, by omega⟩ | exact ⟨⟨_, rfl, rfl⟩, by decide, by decide, rfl, by omega⟩ | omega | decide)⟩, (by first | exact rfl | assumption | exact ⟨rfl, rfl⟩ | exact ⟨rfl, rfl, by omega⟩ | exact ⟨by assumption, rfl, by omega⟩ | exact ⟨⟨_, rfl, rfl⟩, by decide, by decide, rfl, by omega⟩ | omega | decide)⟩ ?_
  refine ru_V hV [] sVX7_70 (qX3_save l ho hz h1 h2 L) rfl rfl rfl rfl rfl (Nat.le_of_ble_eq_true rfl) ?_
  refine ru_fin hV 18 [(1, 0), (12, 0), (r, 5), ((13+r), 5), (c, 5), (1, 0), (12, 0), (r, 5), ((13+r), 5), (c, 5)] rfl rfl ⟨⟨⟨⟨⟨⟨⟨⟨trivial, (by first | exact rfl | assumption | exact ⟨rfl, rfl⟩ | exact ⟨rfl, rfl, by omega⟩ | exact ⟨by assumption, rfl, by omega⟩ | exact ⟨⟨_, rfl, rfl⟩, by decide, by decide, rfl, by omega⟩ | omega | decide)⟩, (by first | exact rfl | assumption | exact ⟨rfl, rfl⟩ | exact ⟨rfl, rfl, by omega⟩ | exact ⟨by assumption, rfl, by omega⟩ | exact ⟨⟨_, rfl, rfl⟩, by decide, by decide, rfl, by omega⟩ | omega | decide)⟩, kr⟩, ⟨km, rfl, by omega⟩⟩, (by first | exact rfl | assumption | exact ⟨rfl, rfl⟩ | exact ⟨rfl, rfl, by omega⟩ | exact ⟨by assumption, rfl, by omega⟩ | exact ⟨⟨_, rfl, rfl⟩, by decide, by decide, rfl, by omega⟩ | omega | decide)⟩, (by first | exact rfl | assumption | exact ⟨rfl, rfl⟩ | exact ⟨rfl, rfl, by omega⟩ | exact ⟨by assumption, rfl, by omega⟩ | exact ⟨⟨_, rfl, rfl⟩, by decide, by decide, rfl, by omega⟩ | omega | decide)⟩, kr⟩, ⟨km, rfl, by omega⟩⟩ ?_
  refine ⟨?_, rfl, rfl⟩
  rw [svI_ne ho (by omega)]
  rfl
theorem qX7_set (l : Launch) {s b : Nat} {v : Int32} {n o z : Nat} (hs : s < 8) (hb : b < 2 ^ n) (hv : ¬ ouS v 100000000) (hn : n ≤ 5) (ho : o < 6) (hz : z ≤ 6) {I : IM} (hd : I 1 0 = nI n) (h1 : I 19 1 = nI o) (h2 : I 19 2 = nI z) (L : LM) : KX7_set l [.ref 0, .int (nI s), .int (nI b), .int v] I L (some (.int (I (3 + s) b))) (mu (svI I o z) (3 + s) b v) L := by
  have hB := pow_mono n hn b hb
  have km := kd_row (b := 1) (x := s) hb1 hs
  have kr := kd_fr (b := 1) (x := s) hb1 hs
  refine wX7_set l rfl (hz0 (by decide)) (fun V hV => ?_)
  refine ru_go hV 1 [] rfl rfl trivial ?_
  refine ru_S hV [] sSX7_97 (qX7_requireSlot l hs I L) rfl rfl rfl (Nat.le_of_ble_eq_true rfl) ?_
  refine ru_go hV 2 [] rfl rfl trivial ?_
  refine ru_V hV [] sVX7_100 (qX7_requireBlade l hb hn hd L) rfl rfl rfl rfl rfl (Nat.le_of_ble_eq_true rfl) ?_
  refine ru_go hV 2 [] rfl rfl trivial ?_
  refine ru_S hV [] sSX7_89 (qX7_requireSize l hv I L) rfl rfl rfl (Nat.le_of_ble_eq_true rfl) ?_
  refine ru_go hV 4 [(19, 0), (1, 0)] rfl rfl ⟨⟨trivial, (by first | exact rfl | assumption | exact ⟨rfl, rfl⟩ | exact ⟨rfl, rfl, by omega⟩ | exact ⟨by assumption, rfl, by omega⟩ | exact ⟨⟨_, rfl, rfl⟩, by decide, by decide, rfl, by omega⟩ | omega | decide)⟩, (by first | exact rfl | assumption | exact ⟨rfl, rfl⟩ | exact ⟨rfl, rfl, by omega⟩ | exact ⟨by assumption, rfl, by omega⟩ | exact ⟨⟨_, rfl, rfl⟩, by decide, by decide, rfl, by omega⟩ | omega | decide)⟩ ?_
  refine ru_V hV [] sVX7_70 (qX3_save l ho hz h1 h2 L) rfl rfl rfl rfl rfl (Nat.le_of_ble_eq_true rfl) ?_
  refine ru_fin hV 18 [(1, 0), (2, 0), (s, 8), ((3+s), 5), (b, 32), (1, 0), (2, 0), (s, 8), ((3+s), 5), (b, 32)] rfl rfl ⟨⟨⟨⟨⟨⟨⟨⟨trivial, (by first | exact rfl | assumption | exact ⟨rfl, rfl⟩ | exact ⟨rfl, rfl, by omega⟩ | exact ⟨by assumption, rfl, by omega⟩ | exact ⟨⟨_, rfl, rfl⟩, by decide, by decide, rfl, by omega⟩ | omega | decide)⟩, (by first | exact rfl | assumption | exact ⟨rfl, rfl⟩ | exact ⟨rfl, rfl, by omega⟩ | exact ⟨by assumption, rfl, by omega⟩ | exact ⟨⟨_, rfl, rfl⟩, by decide, by decide, rfl, by omega⟩ | omega | decide)⟩, kr⟩, ⟨km, rfl, hB⟩⟩, (by first | exact rfl | assumption | exact ⟨rfl, rfl⟩ | exact ⟨rfl, rfl, by omega⟩ | exact ⟨by assumption, rfl, by omega⟩ | exact ⟨⟨_, rfl, rfl⟩, by decide, by decide, rfl, by omega⟩ | omega | decide)⟩, (by first | exact rfl | assumption | exact ⟨rfl, rfl⟩ | exact ⟨rfl, rfl, by omega⟩ | exact ⟨by assumption, rfl, by omega⟩ | exact ⟨⟨_, rfl, rfl⟩, by decide, by decide, rfl, by omega⟩ | omega | decide)⟩, kr⟩, ⟨km, rfl, hB⟩⟩ ?_
  refine ⟨?_, rfl, rfl⟩
  rw [svI_ne ho (by omega)]
  rfl
/-- what a reading of the buffer gives -/
def rdB (n : Nat) (f : Nat → Nat) (q : Nat) : Nat × Fs := rdR n f q 0 (0, false, 1, 0, fun _ => 0)
theorem rdM_SC {I : IM} {n : Nat} {s : Fs} : SC I (rdM I n s) := ⟨fun a _ _ h1 h2 => rd_o h1 h2, fun h j hj hk => by rw [rd_o (by decide) (by decide)]; exact h j hj hk⟩
/-- whether the whole buffer is a form -/
def rdW (n : Nat) (f : Nat → Nat) (q : Nat) : Prop := (rdB n f q).1 = q ∧ ((rdB n f q).2.1 = 2 ∨ (rdB n f q).2.1 = 3 ∨ (rdB n f q).2.1 = 5)
theorem rdR_m {n : Nat} {f : Nat → Nat} (hn : n ≤ 5) : ∀ (k i : Nat) (s : Fs), VF n s → VF n (rdR n f k i s).2
  | 0, i, (m, g, u, b, c), h => by
    unfold rdR
    dsimp only
    split
    · exact h
    · exact h
  | k + 1, i, s, h => by
    unfold rdR
    cases ha : acc n s (f i) with
    | none => exact h
    | some t => exact rdR_m hn k (i + 1) t (acc_VF hn h ha)
theorem rdB_m {n q : Nat} {f : Nat → Nat} (hn : n ≤ 5) : (rdB n f q).2.1 ≤ 5 := (rdR_m hn q 0 _ ⟨(by decide : 0 ≤ 5), (by decide : 1 < 100000), Nat.pos_of_ne_zero (by simp)⟩).1
/-- the memory behind a form put -/
noncomputable def ptI (I : IM) (c : Nat → Int32) (o z s : Nat) : IM := mu (lay (svI I o z) (3 + s) 32 c) 0 5 0
theorem svI_rd {I : IM} {n o z : Nat} {s : Fs} (ho : o < 6) {j : Nat} (hj : j < 32) : svI (rdM I n s) o z 180 j = s.2.2.2.2 j := by
  rw [svI_ne ho (by decide)]
  obtain ⟨m, g, u, b, c⟩ := s
  exact rd_c hj
def sbk (k : Nat) : Nat := 130 + 18 * k
theorem sbk_st {k : Nat} (h : k < 2) : isSt (sbk k) := Or.inr (Or.inr ⟨k, h, rfl⟩)
theorem sbk_aa {k : Nat} (h : k < 2) : (∃ w, kdC 129 = (4, 2, w) ∧ sbk k = 129 + 1 + k * w) ∧ 4 ≤ 4 ∧ 4 ≤ 6 ∧ nI k = nI k ∧ k < 2 := ⟨⟨18, rfl, by unfold sbk; omega⟩, by decide, by decide, rfl, h⟩
