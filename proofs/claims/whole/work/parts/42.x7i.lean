/-! the digest -/
def hl (g : Nat → Int64) : Nat → Int64 → Int64
  | 0, h => h
  | k + 1, h => 31 * hl g k h + g k
def hm (g : Nat → Nat → Int64) (n : Nat) : Nat → Int64 → Int64
  | 0, h => h
  | r + 1, h => hl (g r) n (hm g n r h)
def hcF (I : IM) (n : Nat) (h : Int64) : Int64 := hl (fun k => (coF I n (20 + k)).toInt64) 5 (hl (fun k => (coF I n k).toInt64) 15 h)
theorem qX7_hashCounts (l : Launch) {n : Nat} (h : Int64) (hn : n ≤ 5) {I : IM} (hd : I 1 0 = nI n) (L : LM) : ∃ I2 L2, I2 = I ∧ KX7_hashCounts l [.ref 0, .long h] I L (some (.long (hcF I n h))) I2 L2 := by
  refine ru_pos1 (fun V hV => ?_) (fun I2 L2 => wX7_hashCounts l rfl (hz0 (by decide)))
  refine ru_go hV 4 [] rfl rfl trivial ?_
  refine loop0 (P := fun k => ∀ K, V 5 [(0, .ref 0), (1, .long h), (3, .long (hl (fun k => (coF I n k).toInt64) k h)), (5, .int (nI k))] [] I K) 15 (fun hh => hh L) (fun k hk ih K => ?_) (fun K => ?_)
  · obtain ⟨K2, hK⟩ := qX7_count l (k := k) (by unfold okC; omega) hn hd K
    refine ru_go hV 8 [(0, 0)] rfl rfl ⟨trivial, nI_nlt (a := 14) (b := k) (by omega) (by omega)⟩ ?_
    refine ru_V hV [.long _] sVX7_339 hK rfl rfl rfl rfl rfl (Nat.le_of_ble_eq_true rfl) ?_
    refine ru_go hV 5 [] rfl rfl trivial ?_
    rw [nI_1]
    exact ih K2
  · refine ru_go hV 5 [(1, 0)] rfl rfl ⟨trivial, (by first | exact rfl | assumption | exact ⟨rfl, rfl⟩ | exact ⟨rfl, rfl, by omega⟩ | exact ⟨by assumption, rfl, by omega⟩ | exact ⟨⟨_, rfl, rfl⟩, by decide, by decide, rfl, by omega⟩ | omega | decide)⟩ ?_
    refine loop0 (P := fun k => ∀ K, V 36 [(0, .ref 0), (1, .long h), (3, .long (hl (fun k => (coF I n (20 + k)).toInt64) k (hl (fun k => (coF I n k).toInt64) 15 h))), (5, .int (nI (20 + k)))] [] I K) 5 (fun hh => hh K) (fun k hk ih K => ?_) (fun K => ?_)
    · obtain ⟨K2, hK⟩ := qX7_count l (k := 20 + k) (by unfold okC; omega) hn hd K
      refine ru_go hV 8 [(0, 0)] rfl rfl ⟨trivial, nI_nlt (a := 24) (b := 20 + k) (by omega) (by omega)⟩ ?_
      refine ru_V hV [.long _] sVX7_339 hK rfl rfl rfl rfl rfl (Nat.le_of_ble_eq_true rfl) ?_
      refine ru_go hV 5 [] rfl rfl trivial ?_
      rw [nI_1]
      exact ih K2
    · refine ru_fin hV 5 [(1, 0)] rfl rfl ⟨trivial, (by first | exact rfl | assumption | exact ⟨rfl, rfl⟩ | exact ⟨rfl, rfl, by omega⟩ | exact ⟨by assumption, rfl, by omega⟩ | exact ⟨⟨_, rfl, rfl⟩, by decide, by decide, rfl, by omega⟩ | omega | decide)⟩ ?_
      exact ⟨rfl, rfl⟩
def hxF (I : IM) (n : Nat) (h : Int64) : Int64 := hm (fun r c => (I (13 + r) c).toInt64) n n h
theorem qX7_hashMatrix (l : Launch) {n : Nat} (h : Int64) (hn : n ≤ 5) {I : IM} (hd : I 1 0 = nI n) (L : LM) : KX7_hashMatrix l [.ref 0, .long h] I L (some (.long (hxF I n h))) I L := by
  refine wX7_hashMatrix l rfl (hz0 (by decide)) (fun V hV => ?_)
  refine ru_go hV 4 [] rfl rfl trivial ?_
  refine loop0 (P := fun r => V 5 [(0, .ref 0), (1, .long h), (3, .long (hm (fun r c => (I (13 + r) c).toInt64) n r h)), (5, .int (nI r))] [] I L) n (fun hh => hh) (fun r hr ih => ?_) ?_
  · refine ru_go hV 7 [(1, 0), (0, 0)] rfl rfl ⟨⟨⟨trivial, (by first | exact rfl | assumption | exact ⟨rfl, rfl⟩ | exact ⟨rfl, rfl, by omega⟩ | exact ⟨by assumption, rfl, by omega⟩ | exact ⟨⟨_, rfl, rfl⟩, by decide, by decide, rfl, by omega⟩ | omega | decide)⟩, (by first | exact rfl | assumption | exact ⟨rfl, rfl⟩ | exact ⟨rfl, rfl, by omega⟩ | exact ⟨by assumption, rfl, by omega⟩ | exact ⟨⟨_, rfl, rfl⟩, by decide, by decide, rfl, by omega⟩ | omega | decide)⟩, (by rw [hd]; exact nI_nge hr (by omega))⟩ ?_
    refine loop0 (P := fun c => V 20 [(0, .ref 0), (1, .long h), (3, .long (hl (fun c => (I (13 + r) c).toInt64) c (hm (fun r c => (I (13 + r) c).toInt64) n r h))), (5, .int (nI r)), (6, .int (nI c))] [] I L) n (fun hh => hh) (fun c hc ih2 => ?_) ?_
    · refine ru_go hV 20 [(1, 0), (0, 0), (1, 0), (12, 0), (r, 5), ((13+r), 5), (c, 5)] rfl rfl ⟨⟨⟨⟨⟨⟨⟨trivial, (by first | exact rfl | assumption | exact ⟨rfl, rfl⟩ | exact ⟨rfl, rfl, by omega⟩ | exact ⟨by assumption, rfl, by omega⟩ | exact ⟨⟨_, rfl, rfl⟩, by decide, by decide, rfl, by omega⟩ | omega | decide)⟩, (by first | exact rfl | assumption | exact ⟨rfl, rfl⟩ | exact ⟨rfl, rfl, by omega⟩ | exact ⟨by assumption, rfl, by omega⟩ | exact ⟨⟨_, rfl, rfl⟩, by decide, by decide, rfl, by omega⟩ | omega | decide)⟩, (by rw [hd]; exact nI_nge hc (by omega))⟩, (by first | exact rfl | assumption | exact ⟨rfl, rfl⟩ | exact ⟨rfl, rfl, by omega⟩ | exact ⟨by assumption, rfl, by omega⟩ | exact ⟨⟨_, rfl, rfl⟩, by decide, by decide, rfl, by omega⟩ | omega | decide)⟩, (by first | exact rfl | assumption | exact ⟨rfl, rfl⟩ | exact ⟨rfl, rfl, by omega⟩ | exact ⟨by assumption, rfl, by omega⟩ | exact ⟨⟨_, rfl, rfl⟩, by decide, by decide, rfl, by omega⟩ | omega | decide)⟩, kd_mr (b := 1) hb1 (by omega)⟩, ⟨kd_mrow (b := 1) hb1 (by omega), rfl, by omega⟩⟩ ?_
      rw [nI_1]
      exact ih2
    · refine ru_go hV 7 [(1, 0), (1, 0)] rfl rfl ⟨⟨⟨trivial, (by first | exact rfl | assumption | exact ⟨rfl, rfl⟩ | exact ⟨rfl, rfl, by omega⟩ | exact ⟨by assumption, rfl, by omega⟩ | exact ⟨⟨_, rfl, rfl⟩, by decide, by decide, rfl, by omega⟩ | omega | decide)⟩, (by first | exact rfl | assumption | exact ⟨rfl, rfl⟩ | exact ⟨rfl, rfl, by omega⟩ | exact ⟨by assumption, rfl, by omega⟩ | exact ⟨⟨_, rfl, rfl⟩, by decide, by decide, rfl, by omega⟩ | omega | decide)⟩, (by rw [hd]; exact nI_le (Nat.le_refl n) (by omega))⟩ ?_
      rw [nI_1]
      exact ru_sub hV [0, 1, 2, 3] rfl ih
  · refine ru_fin hV 7 [(1, 0), (1, 0)] rfl rfl ⟨⟨⟨trivial, (by first | exact rfl | assumption | exact ⟨rfl, rfl⟩ | exact ⟨rfl, rfl, by omega⟩ | exact ⟨by assumption, rfl, by omega⟩ | exact ⟨⟨_, rfl, rfl⟩, by decide, by decide, rfl, by omega⟩ | omega | decide)⟩, (by first | exact rfl | assumption | exact ⟨rfl, rfl⟩ | exact ⟨rfl, rfl, by omega⟩ | exact ⟨by assumption, rfl, by omega⟩ | exact ⟨⟨_, rfl, rfl⟩, by decide, by decide, rfl, by omega⟩ | omega | decide)⟩, (by rw [hd]; exact nI_le (Nat.le_refl n) (by omega))⟩ ?_
    exact ⟨rfl, rfl, rfl⟩
/-- how many vectors are told -/
def anN (f : Nat → Int32) (n : Nat) : Nat := if gmF f 32 ≤ 60 then (fiC f n (2 ^ n - 1)).1 else 0
theorem anN_lt {f : Nat → Int32} {n p : Nat} (hn : n ≤ 5) (hp : p < 2 ^ 31) : nI p < anF f n ↔ p < anN f n := by
  have h1 : (fiC f n (2 ^ n - 1)).1 ≤ n := fiS_le f n (fun _ _ => 0) (fun _ => 0) (2 ^ n - 1)
  unfold anF anN
  split
  · exact nI_ltI hp (by omega)
  · exact ⟨fun h => absurd (Int32.lt_trans h NON_neg) (nI_nn hp), fun h => absurd h (by omega)⟩
def haF (f : Nat → Int32) (n : Nat) (h : Int64) : Int64 := hm (fun p d => (baF f n p d).toInt64) n (anN f n) (31 * h + (anF f n).toInt64)
theorem qX7_hashAnnihilator (l : Launch) {c n : Nat} (h : Int64) (hc : kdC c = (1, 32, 0)) (hn : n ≤ 5) {I : IM} (hd : I 1 0 = nI n) (L : LM) : ∃ I2 L2, SC I I2 ∧ KX7_hashAnnihilator l [.ref 0, .long h, .ref c] I L (some (.long (haF (I c) n h))) I2 L2 := by
  obtain ⟨I2, L2, ⟨hsc, hnum⟩, hK⟩ := qX4_fin l hc hn I L
  refine ⟨I2, L2, hsc, wX7_hashAnnihilator l rfl (hz0 (by decide)) (fun V hV => ?_)⟩
  have hd2 : I2 1 0 = nI n := by rw [hsc.lo (by decide)]; exact hd
  have hN : anN (I c) n ≤ n := by
    have h1 : (fiC (I c) n (2 ^ n - 1)).1 ≤ n := fiS_le (I c) n (fun _ _ => 0) (fun _ => 0) (2 ^ n - 1)
    unfold anN
    split <;> omega
  refine ru_go hV 6 [(171, 0), (1, 0)] rfl rfl ⟨⟨⟨trivial, (by first | exact rfl | assumption | exact ⟨rfl, rfl⟩ | exact ⟨rfl, rfl, by omega⟩ | exact ⟨by assumption, rfl, by omega⟩ | exact ⟨⟨_, rfl, rfl⟩, by decide, by decide, rfl, by omega⟩ | omega | decide)⟩, (by first | exact rfl | assumption | exact ⟨rfl, rfl⟩ | exact ⟨rfl, rfl, by omega⟩ | exact ⟨by assumption, rfl, by omega⟩ | exact ⟨⟨_, rfl, rfl⟩, by decide, by decide, rfl, by omega⟩ | omega | decide)⟩, (by first | exact rfl | assumption | exact ⟨rfl, rfl⟩ | exact ⟨rfl, rfl, by omega⟩ | exact ⟨by assumption, rfl, by omega⟩ | exact ⟨⟨_, rfl, rfl⟩, by decide, by decide, rfl, by omega⟩ | omega | decide)⟩ ?_
  rw [hd]
  refine ru_V hV [] sVX7_235 hK rfl rfl rfl rfl rfl (Nat.le_of_ble_eq_true rfl) ?_
  refine ru_go hV 10 [] rfl rfl trivial ?_
  refine loop0 (P := fun p => V 31 [(0, .ref 0), (1, .long h), (3, .ref c), (4, .int (anF (I c) n)), (5, .long (hm (fun p d => (baF (I c) n p d).toInt64) n p (31 * h + (anF (I c) n).toInt64))), (7, .int (nI p))] [] I2 L2) (anN (I c) n) (fun hh => hh) (fun p hp ih => ?_) ?_
  · have hlt := (anN_lt (p := p) hn (by omega)).mpr hp
    obtain ⟨hg, hpn⟩ := anF_lt hn hlt (by omega)
    refine ru_go hV 5 [(0, 0)] rfl rfl ⟨trivial, Int32.not_le.mpr hlt⟩ ?_
    refine loop0 (P := fun d => V 41 [(0, .ref 0), (1, .long h), (3, .ref c), (4, .int (anF (I c) n)), (5, .long (hl (fun d => (baF (I c) n p d).toInt64) d (hm (fun p d => (baF (I c) n p d).toInt64) n p (31 * h + (anF (I c) n).toInt64)))), (7, .int (nI p)), (8, .int (nI d))] [] I2 L2) n (fun hh => hh) (fun d hdn ih2 => ?_) ?_
    · have en := qX4_number l (p := p) (d := d) (by omega) (by omega) I2 L2
      rw [hnum hg p hpn d hdn] at en
      refine ru_go hV 12 [(1, 0), (0, 0), (171, 0)] rfl rfl ⟨⟨⟨⟨trivial, (by first | exact rfl | assumption | exact ⟨rfl, rfl⟩ | exact ⟨rfl, rfl, by omega⟩ | exact ⟨by assumption, rfl, by omega⟩ | exact ⟨⟨_, rfl, rfl⟩, by decide, by decide, rfl, by omega⟩ | omega | decide)⟩, (by first | exact rfl | assumption | exact ⟨rfl, rfl⟩ | exact ⟨rfl, rfl, by omega⟩ | exact ⟨by assumption, rfl, by omega⟩ | exact ⟨⟨_, rfl, rfl⟩, by decide, by decide, rfl, by omega⟩ | omega | decide)⟩, (by rw [hd2]; exact nI_nge hdn (by omega))⟩, (by first | exact rfl | assumption | exact ⟨rfl, rfl⟩ | exact ⟨rfl, rfl, by omega⟩ | exact ⟨by assumption, rfl, by omega⟩ | exact ⟨⟨_, rfl, rfl⟩, by decide, by decide, rfl, by omega⟩ | omega | decide)⟩ ?_
      refine ru_V hV [.long _] sVX7_238 en rfl rfl rfl rfl rfl (Nat.le_of_ble_eq_true rfl) ?_
      refine ru_go hV 5 [] rfl rfl trivial ?_
      rw [nI_1]
      exact ih2
    · refine ru_go hV 7 [(1, 0), (1, 0)] rfl rfl ⟨⟨⟨trivial, (by first | exact rfl | assumption | exact ⟨rfl, rfl⟩ | exact ⟨rfl, rfl, by omega⟩ | exact ⟨by assumption, rfl, by omega⟩ | exact ⟨⟨_, rfl, rfl⟩, by decide, by decide, rfl, by omega⟩ | omega | decide)⟩, (by first | exact rfl | assumption | exact ⟨rfl, rfl⟩ | exact ⟨rfl, rfl, by omega⟩ | exact ⟨by assumption, rfl, by omega⟩ | exact ⟨⟨_, rfl, rfl⟩, by decide, by decide, rfl, by omega⟩ | omega | decide)⟩, (by rw [hd2]; exact nI_le (Nat.le_refl n) (by omega))⟩ ?_
      rw [nI_1]
      exact ru_sub hV [0, 1, 2, 3, 4, 5] rfl ih
  · have hge : ¬ nI (anN (I c) n) < anF (I c) n := fun e => by
      have := (anN_lt (p := anN (I c) n) hn (by omega)).mp e
      omega
    refine ru_fin hV 5 [(1, 0)] rfl rfl ⟨trivial, Int32.not_lt.mp hge⟩ ?_
    exact ⟨rfl, rfl, rfl⟩
def hfF (f : Nat → Int32) (n g : Nat) (h : Int64) : Int64 := hm (fun p d => (faI f p d).toInt64) n g h
theorem qX7_hashFactors (l : Launch) {c n g : Nat} (h : Int64) (hc : kdC c = (1, 32, 0)) (hn : n ≤ 5) (hg5 : g ≤ 5) {I : IM} (hg : grF (I c) 32 = nI g) (hd : I 1 0 = nI n) (L : LM) : KX7_hashFactors l [.ref 0, .long h, .ref c] I L (some (.long (hfF (I c) n g h))) I L := by
  refine wX7_hashFactors l rfl (hz0 (by decide)) (fun V hV => ?_)
  have eg := qX2_gradeOf l hc I L
  rw [hg] at eg
  refine ru_go hV 1 [] rfl rfl trivial ?_
  refine ru_S hV [] sSX7_324 eg rfl rfl rfl (Nat.le_of_ble_eq_true rfl) ?_
  refine ru_go hV 5 [] rfl rfl trivial ?_
  refine loop0 (P := fun p => V 12 [(0, .ref 0), (1, .long h), (3, .ref c), (4, .int (nI g)), (5, .long (hm (fun p d => (faI (I c) p d).toInt64) n p h)), (7, .int (nI p))] [] I L) g (fun hh => hh) (fun p hp ih => ?_) ?_
  · refine ru_go hV 5 [(0, 0)] rfl rfl ⟨trivial, nI_nge hp (by omega)⟩ ?_
    refine loop0 (P := fun d => V 22 [(0, .ref 0), (1, .long h), (3, .ref c), (4, .int (nI g)), (5, .long (hl (fun d => (faI (I c) p d).toInt64) d (hm (fun p d => (faI (I c) p d).toInt64) n p h))), (7, .int (nI p)), (8, .int (nI d))] [] I L) n (fun hh => hh) (fun d hdn ih2 => ?_) ?_
    · refine ru_go hV 11 [(1, 0), (0, 0)] rfl rfl ⟨⟨⟨trivial, (by first | exact rfl | assumption | exact ⟨rfl, rfl⟩ | exact ⟨rfl, rfl, by omega⟩ | exact ⟨by assumption, rfl, by omega⟩ | exact ⟨⟨_, rfl, rfl⟩, by decide, by decide, rfl, by omega⟩ | omega | decide)⟩, (by first | exact rfl | assumption | exact ⟨rfl, rfl⟩ | exact ⟨rfl, rfl, by omega⟩ | exact ⟨by assumption, rfl, by omega⟩ | exact ⟨⟨_, rfl, rfl⟩, by decide, by decide, rfl, by omega⟩ | omega | decide)⟩, (by rw [hd]; exact nI_nge hdn (by omega))⟩ ?_
      refine ru_S hV [.long _] sSX7_232 (qX2_factorNumber l (p := p) (dir := d) hc (by omega) (by omega) I L) rfl rfl rfl (Nat.le_of_ble_eq_true rfl) ?_
      refine ru_go hV 5 [] rfl rfl trivial ?_
      rw [nI_1]
      exact ih2
    · refine ru_go hV 7 [(1, 0), (1, 0)] rfl rfl ⟨⟨⟨trivial, (by first | exact rfl | assumption | exact ⟨rfl, rfl⟩ | exact ⟨rfl, rfl, by omega⟩ | exact ⟨by assumption, rfl, by omega⟩ | exact ⟨⟨_, rfl, rfl⟩, by decide, by decide, rfl, by omega⟩ | omega | decide)⟩, (by first | exact rfl | assumption | exact ⟨rfl, rfl⟩ | exact ⟨rfl, rfl, by omega⟩ | exact ⟨by assumption, rfl, by omega⟩ | exact ⟨⟨_, rfl, rfl⟩, by decide, by decide, rfl, by omega⟩ | omega | decide)⟩, (by rw [hd]; exact nI_le (Nat.le_refl n) (by omega))⟩ ?_
      rw [nI_1]
      exact ru_sub hV [0, 1, 2, 3, 4, 5] rfl ih
  · refine ru_fin hV 5 [(1, 0)] rfl rfl ⟨trivial, nI_le (Nat.le_refl g) (by omega)⟩ ?_
    exact ⟨rfl, rfl, rfl⟩
theorem loF_nat {f : Nat → Int32} : ∀ n, n ≤ 32 → loF f n = NON ∨ ∃ g, g ≤ 5 ∧ loF f n = nI g
  | 0, _ => Or.inl rfl
  | n + 1, hn => by
    unfold loF
    split
    · exact Or.inr ⟨pc5 n, pc5_le n, rfl⟩
    · exact loF_nat n (by omega)
theorem dt_gr {f : Nat → Int32} {n : Nat} (h : dtF f n = 1) : ∃ g, g ≤ 5 ∧ grF f 32 = nI g := by
  unfold dtF at h
  by_cases e : grF f 32 = NON
  · rw [if_pos e] at h
    exact absurd h (by decide)
  · unfold grF at e ⊢
    by_cases e2 : loF f 32 = hiF f 32
    · rw [if_pos e2] at e ⊢
      exact (loF_nat 32 (Nat.le_refl 32)).resolve_left e
    · rw [if_neg e2] at e
      exact absurd rfl e
/-- one slot of the digest -/
def hsF (I : IM) (n s : Nat) (h : Int64) : Int64 :=
  31 * (31 * (31 * (31 * (if dtF (I (3 + s)) n = 1 then hfF (I (3 + s)) n (grF (I (3 + s)) 32).toInt.toNat (haF (I (3 + s)) n (31 * (31 * hl (fun k => (prF (I (3 + s)) 32 k).toInt64) 8 (hl (fun k => (I (3 + s) k).toInt64) (2 ^ n) h) + (dtF (I (3 + s)) n).toInt64) + (dbF (I (3 + s)) n).toInt64)) else haF (I (3 + s)) n (31 * (31 * hl (fun k => (prF (I (3 + s)) 32 k).toInt64) 8 (hl (fun k => (I (3 + s) k).toInt64) (2 ^ n) h) + (dtF (I (3 + s)) n).toInt64) + (dbF (I (3 + s)) n).toInt64)) + inC (I 11) (I (3 + s)) (I 3) (2 ^ n)) + (cmF (I (3 + s)) (I 4) n).toInt64) + (deF (I (3 + s)) (2 ^ n)).toInt32.toInt64) + (shF (I (3 + s)) 2).toInt64
theorem qX7_hashSlot (l : Launch) {s n : Nat} (h : Int64) (hs : s < 8) (hn2 : 2 ≤ n) (hn : n ≤ 5) {I : IM} (hd : I 1 0 = nI n) (hz : VZ I) (hv : vf_n64 (shF (I (3 + s)) 2)) (hb1d : dbR (shF (I (3 + s)) 2) = some (shF (I (3 + s)) 2).toInt64) (hb1f : fbR (deF (I (3 + s)) (2 ^ n)) = some (deF (I (3 + s)) (2 ^ n)).toInt32) (L : LM) : ∃ I2 L2, SC I I2 ∧ KX7_hashSlot l [.ref 0, .long h, .int (nI s)] I L (some (.long (hsF I n s h))) I2 L2 := by
  have hB := pow_le32 n hn
  have kr := kd_row (b := 1) (x := s) hb1 hs
  refine ru_pos1 (fun V hV => ?_) (fun I2 L2 => wX7_hashSlot l rfl (hz0 (by decide)))
  refine ru_go hV 10 [(1, 0), (2, 0), (s, 8), ((3+s), 5)] rfl rfl ⟨⟨⟨trivial, (by first | exact rfl | assumption | exact ⟨rfl, rfl⟩ | exact ⟨rfl, rfl, by omega⟩ | exact ⟨by assumption, rfl, by omega⟩ | exact ⟨⟨_, rfl, rfl⟩, by decide, by decide, rfl, by omega⟩ | omega | decide)⟩, (by first | exact rfl | assumption | exact ⟨rfl, rfl⟩ | exact ⟨rfl, rfl, by omega⟩ | exact ⟨by assumption, rfl, by omega⟩ | exact ⟨⟨_, rfl, rfl⟩, by decide, by decide, rfl, by omega⟩ | omega | decide)⟩, kd_fr (b := 1) hb1 hs⟩ ?_
  refine loop0 (P := fun k => V 17 [(0, .ref 0), (1, .long h), (3, .int (nI s)), (4, .ref (3 + s)), (5, .long (hl (fun k => (I (3 + s) k).toInt64) k h)), (7, .int (nI k))] [] I L) (2 ^ n) (fun hh => hh) (fun k hk ih => ?_) ?_
  · refine ru_go hV 3 [(1, 0)] rfl rfl ⟨trivial, (by first | exact rfl | assumption | exact ⟨rfl, rfl⟩ | exact ⟨rfl, rfl, by omega⟩ | exact ⟨by assumption, rfl, by omega⟩ | exact ⟨⟨_, rfl, rfl⟩, by decide, by decide, rfl, by omega⟩ | omega | decide)⟩ ?_
    refine ru_V hV [.int (nI k)] sVX7_127 (qX6_blades l hb1 hn hd L) rfl rfl rfl rfl rfl (Nat.le_of_ble_eq_true rfl) ?_
    refine ru_go hV 12 [(0, 0), (k, 32)] rfl rfl ⟨⟨trivial, nI_nge hk (by omega)⟩, ⟨kr, rfl, by omega⟩⟩ ?_
    rw [nI_1]
    exact ih
  · refine ru_go hV 3 [(1, 0)] rfl rfl ⟨trivial, (by first | exact rfl | assumption | exact ⟨rfl, rfl⟩ | exact ⟨rfl, rfl, by omega⟩ | exact ⟨by assumption, rfl, by omega⟩ | exact ⟨⟨_, rfl, rfl⟩, by decide, by decide, rfl, by omega⟩ | omega | decide)⟩ ?_
    refine ru_V hV [.int (nI (2 ^ n))] sVX7_127 (qX6_blades l hb1 hn hd L) rfl rfl rfl rfl rfl (Nat.le_of_ble_eq_true rfl) ?_
    refine ru_go hV 3 [(1, 0)] rfl rfl ⟨trivial, nI_le (Nat.le_refl _) (by omega)⟩ ?_
    refine loop0 (P := fun k => V 53 [(0, .ref 0), (1, .long h), (3, .int (nI s)), (4, .ref (3 + s)), (5, .long (hl (fun k => (prF (I (3 + s)) 32 k).toInt64) k (hl (fun k => (I (3 + s) k).toInt64) (2 ^ n) h))), (7, .int (nI k))] [] I L) 8 (fun hh => hh) (fun k hk ih => ?_) ?_
    · refine ru_go hV 8 [(0, 0)] rfl rfl ⟨trivial, nI_nlt (a := 7) (b := k) (by omega) (by omega)⟩ ?_
      refine ru_S hV [.long _] sSX7_208 (qX2_property l kr hk I L) rfl rfl rfl (Nat.le_of_ble_eq_true rfl) ?_
      refine ru_go hV 5 [] rfl rfl trivial ?_
      rw [nI_1]
      exact ih
    · have e1 : hsF I n s h = hsF I n s h := rfl
      conv at e1 => rhs; unfold hsF
      rw [e1] at hV
      clear e1
      generalize hl (fun k => (prF (I (3 + s)) 32 k).toInt64) 8 (hl (fun k => (I (3 + s) k).toInt64) (2 ^ n) h) = h2 at hV ⊢
      refine ru_go hV 5 [(1, 0)] rfl rfl ⟨trivial, (by first | exact rfl | assumption | exact ⟨rfl, rfl⟩ | exact ⟨rfl, rfl, by omega⟩ | exact ⟨by assumption, rfl, by omega⟩ | exact ⟨⟨_, rfl, rfl⟩, by decide, by decide, rfl, by omega⟩ | omega | decide)⟩ ?_
      obtain ⟨I2, L2, hsc2, hK2⟩ := qX7_decomposableAsTold l hs hn hd hz L
      refine ru_V hV [] sVX7_218 hK2 rfl rfl rfl rfl rfl (Nat.le_of_ble_eq_true rfl) ?_
      have hd2 : I2 1 0 = nI n := by rw [hsc2.lo (by decide)]; exact hd
      refine ru_go hV 13 [] rfl rfl trivial ?_
      obtain ⟨I3, L3, hsc3, hK3⟩ := qX7_decomposableByAnnihilator l hs hn hd2 L2
      rw [hsc2.lo (by omega)] at hK3
      have hsc3 := hsc2.tr hsc3
      refine ru_V hV [.long _] sVX7_222 hK3 rfl rfl rfl rfl rfl (Nat.le_of_ble_eq_true rfl) ?_
      have hd3 : I3 1 0 = nI n := by rw [hsc3.lo (by decide)]; exact hd
      refine ru_go hV 6 [] rfl rfl trivial ?_
      obtain ⟨I4, L4, hsc4, hK4⟩ := qX7_hashAnnihilator l (31 * (31 * h2 + (dtF (I (3 + s)) n).toInt64) + (dbF (I (3 + s)) n).toInt64) kr hn hd3 L3
      rw [hsc3.lo (a := 1 + 2 + s) (by omega)] at hK4
      have hsc4 := hsc3.tr hsc4
      refine ru_V hV [] sVX7_342 hK4 rfl rfl rfl rfl rfl (Nat.le_of_ble_eq_true rfl) ?_
      have hd4 : I4 1 0 = nI n := by rw [hsc4.lo (by decide)]; exact hd
      have er : ∀ a, a < 170 → I4 a = I a := fun a ha => hsc4.lo ha
      have ers : I4 (3 + s) = I (3 + s) := er _ (by omega)
      have tail : ∀ h5 : Int64, (hV' : Ru l kdC 181 RX7 cX7_hashSlot rmX7_hashSlot FX7 tX7_hashSlot V (fun st J K => st = (some (Value.long (31 * (31 * (31 * (31 * h5 + inC (I 11) (I (3 + s)) (I 3) (2 ^ n)) + (cmF (I (3 + s)) (I 4) n).toInt64) + (deF (I (3 + s)) (2 ^ n)).toInt32.toInt64) + (shF (I (3 + s)) 2).toInt64))).toList ∧ SC I J)) → V 143 [(0, .ref 0), (1, .long h), (3, .int (nI s)), (4, .ref (3 + s)), (5, .long h5), (7, .int (dtF (I (3 + s)) n))] [] I4 L4 := fun h5 hV => by
        have ein := qX7_inner l hs (b := 0) (by decide) hn hd4 L4
        rw [er 11 (by decide), ers, er (3 + 0) (by decide)] at ein
        refine ru_go hV 6 [] rfl rfl trivial ?_
        refine ru_V hV [.long _] sVX7_349 ein rfl rfl rfl rfl rfl (Nat.le_of_ble_eq_true rfl) ?_
        refine ru_go hV 8 [] rfl rfl trivial ?_
        obtain ⟨L5, hK5⟩ := qX7_compare l hs (b := 1) (by decide) hn hd4 L4
        rw [ers, er (3 + 1) (by decide)] at hK5
        refine ru_V hV [.long _] sVX7_353 hK5 rfl rfl rfl rfl rfl (Nat.le_of_ble_eq_true rfl) ?_
        refine ru_go hV 8 [] rfl rfl trivial ?_
        have ede := qX7_density l hs hn hd4 L5
        rw [ers] at ede
        refine ru_V hV [.long _] sVX7_356 ede rfl rfl rfl rfl rfl (Nat.le_of_ble_eq_true rfl) ?_
        refine ru_S hV [.long _] sSX7_360 (qX0_ofFloat l hb1f I4 L5) rfl rfl rfl (Nat.le_of_ble_eq_true rfl) ?_
        refine ru_go hV 9 [] rfl rfl trivial ?_
        have esh := qX7_share l (g := 2) hs hn2 hn hd4 (by rw [ers]; exact hv) L5
        rw [ers] at esh
        refine ru_V hV [.long _] sVX7_366 esh rfl rfl rfl rfl rfl (Nat.le_of_ble_eq_true rfl) ?_
        refine ru_S hV [.long _] sSX7_370 (qX0_ofDouble l hb1d I4 L5) rfl rfl rfl (Nat.le_of_ble_eq_true rfl) ?_
        refine ru_fin hV 2 [] rfl rfl trivial ?_
        exact ⟨rfl, hsc4⟩
      by_cases hdt : dtF (I (3 + s)) n = 1
      · obtain ⟨g, hg5, hg⟩ := dt_gr hdt
        rw [if_pos hdt, hg, show (nI g).toInt.toNat = g by rw [nI_toInt (by omega)]; omega] at hV
        have ehf := qX7_hashFactors l (haF (I (3 + s)) n (31 * (31 * h2 + (dtF (I (3 + s)) n).toInt64) + (dbF (I (3 + s)) n).toInt64)) kr hn hg5 (I := I4) (by show grF (I4 (3 + s)) 32 = nI g; rw [ers]; exact hg) hd4 L4
        refine ru_go hV 7 [(0, 0)] rfl rfl ⟨trivial, (fun e => e hdt)⟩ ?_
        refine ru_V hV [] sVX7_346 ehf rfl rfl rfl rfl rfl (Nat.le_of_ble_eq_true rfl) ?_
        rw [show I4 (1 + 2 + s) = I (3 + s) from ers]
        refine ru_go hV 1 [] rfl rfl trivial ?_
        exact tail _ hV
      · rw [if_neg hdt] at hV
        refine ru_go hV 4 [(1, 0)] rfl rfl ⟨trivial, hdt⟩ ?_
        exact tail _ hV
def hsA (I : IM) (n : Nat) : Nat → Int64 → Int64
  | 0, h => h
  | s + 1, h => hsF I n s (hsA I n s h)
/-- the rows that a digest asks for bits -/
def shOK (I : IM) (n : Nat) : Prop := ∀ s, s < 8 → vf_n64 (shF (I (3 + s)) 2) ∧ dbR (shF (I (3 + s)) 2) = some (shF (I (3 + s)) 2).toInt64 ∧ fbR (deF (I (3 + s)) (2 ^ n)) = some (deF (I (3 + s)) (2 ^ n)).toInt32
theorem SC_coF {I J : IM} {n s : Nat} (h : SC I J) (hs : s < 8) : J (3 + s) = I (3 + s) := h.lo (by omega)
theorem hsF_SC {I J : IM} {n s : Nat} {h : Int64} (hsc : SC I J) (hs : s < 8) : hsF J n s h = hsF I n s h := by
  unfold hsF
  rw [hsc.lo (a := 3 + s) (by omega), hsc.lo (a := 11) (by decide), hsc.lo (a := 3) (by decide), hsc.lo (a := 4) (by decide)]
theorem rfG_SC {I J : IM} {n w a b : Nat} (hn : n ≤ 5) (hsc : SC I J) (ha : a < 8) (hb : b < 8) : rfG J n w a b = rfG I n w a b := by
  unfold rfG
  rw [hsc.lo (a := 3 + a) (by omega), hsc.lo (a := 3 + b) (by omega), hsc.lo (a := 11) (by decide)]
  split
  · rfl
  · rfl
  · rfl
  · funext k
    exact puC_cong (fun r hr c _ => by rw [hsc.lo (a := 13 + r) (by omega)]) (fun _ _ => rfl)
def dgF (I : IM) (n q : Nat) : Int64 := hl (fun i => (I 167 i).toInt64) q (31 * hl (fun w => (fsI (ftO (rfG I n (1 + w) 0 1) (2 ^ n))).toInt64) 3 (hsA I n 8 (hxF I n (hcF I n 2423))) + (nI q).toInt64)
theorem qX7_digest (l : Launch) {n q : Nat} (hn2 : 2 ≤ n) (hn : n ≤ 5) (hq : q ≤ 60) {I : IM} (hd : I 1 0 = nI n) (hb : I 0 5 = nI q) (hz : VZ I) (hv : shOK I n) (L : LM) : ∃ I2 L2, SC I I2 ∧ KX7_digest l [.ref 0] I L (some (.long (dgF I n q))) I2 L2 := by
  refine ru_pos1 (fun V hV => ?_) (fun I2 L2 => wX7_digest l rfl (hz0 (by decide)))
  obtain ⟨J, L1, hJ, hK1⟩ := qX7_hashCounts l 2423 hn hd L
  subst hJ
  refine ru_go hV 2 [] rfl rfl trivial ?_
  refine ru_V hV [] sVX7_284 hK1 rfl rfl rfl rfl rfl (Nat.le_of_ble_eq_true rfl) ?_
  refine ru_go hV 3 [] rfl rfl trivial ?_
  refine ru_V hV [] sVX7_288 (qX7_hashMatrix l _ hn hd L1) rfl rfl rfl rfl rfl (Nat.le_of_ble_eq_true rfl) ?_
  unfold dgF at hV
  generalize hxF J n (hcF J n 2423) = h1 at hV ⊢
  refine ru_go hV 3 [] rfl rfl trivial ?_
  refine loop0 (P := fun s => ∀ I2 L2, SC J I2 → V 16 [(0, .ref 0), (1, .long (hsA J n s h1)), (3, .int (nI s))] [] I2 L2) 8 (fun hh => hh J L1 (SC.rf J)) (fun s hs ih I2 L2 hsc => ?_) (fun I2 L2 hsc => ?_)
  · have hd2 : I2 1 0 = nI n := by rw [hsc.lo (by decide)]; exact hd
    have ers : I2 (3 + s) = J (3 + s) := hsc.lo (by omega)
    obtain ⟨v1, v2, v3⟩ := hv s hs
    obtain ⟨I3, L3, hsc3, hK⟩ := qX7_hashSlot l (s := s) (hsA J n s h1) hs hn2 hn hd2 (hsc.2 hz) (by rw [ers]; exact v1) (by rw [ers]; exact v2) (by rw [ers]; exact v3) L2
    rw [hsF_SC hsc hs] at hK
    refine ru_go hV 6 [(0, 0)] rfl rfl ⟨trivial, nI8_ge hs⟩ ?_
    refine ru_V hV [] sVX7_291 hK rfl rfl rfl rfl rfl (Nat.le_of_ble_eq_true rfl) ?_
    refine ru_go hV 3 [] rfl rfl trivial ?_
    rw [nI_1]
    exact ih I3 L3 (hsc.tr hsc3)
  · generalize hsA J n 8 h1 = h2 at hV ⊢
    have hd2 : I2 1 0 = nI n := by rw [hsc.lo (by decide)]; exact hd
    refine ru_go hV 5 [(1, 0)] rfl rfl ⟨trivial, (by first | exact rfl | assumption | exact ⟨rfl, rfl⟩ | exact ⟨rfl, rfl, by omega⟩ | exact ⟨by assumption, rfl, by omega⟩ | exact ⟨⟨_, rfl, rfl⟩, by decide, by decide, rfl, by omega⟩ | omega | decide)⟩ ?_
    refine loop0 (P := fun w => ∀ L2, V 37 [(0, .ref 0), (1, .long (hl (fun w => (fsI (ftO (rfG J n (1 + w) 0 1) (2 ^ n))).toInt64) w h2)), (3, .int (nI (1 + w)))] [] I2 L2) 3 (fun hh => hh L2) (fun w hw ih L2 => ?_) (fun L2 => ?_)
    · obtain ⟨L3, hK⟩ := qX7_refused l (w := 1 + w) (a := 0) (b := 1) (by omega) (by decide) (by decide) hn hd2 L2
      rw [rfG_SC hn hsc (by decide) (by decide)] at hK
      refine ru_go hV 10 [(0, 0)] rfl rfl ⟨trivial, nI_nlt (a := 3) (b := 1 + w) (by omega) (by omega)⟩ ?_
      refine ru_V hV [.long _] sVX7_297 hK rfl rfl rfl rfl rfl (Nat.le_of_ble_eq_true rfl) ?_
      refine ru_go hV 5 [] rfl rfl trivial ?_
      rw [nI_1]
      exact ih L3
    · have hb2 : I2 0 5 = nI q := by rw [hsc.lo (by decide)]; exact hb
      have h167 : I2 167 = J 167 := hsc.lo (by decide)
      generalize hl (fun w => (fsI (ftO (rfG J n (1 + w) 0 1) (2 ^ n))).toInt64) 3 h2 = h3 at hV ⊢
      refine ru_go hV 13 [(1, 0)] rfl rfl ⟨⟨trivial, (by first | exact rfl | assumption | exact ⟨rfl, rfl⟩ | exact ⟨rfl, rfl, by omega⟩ | exact ⟨by assumption, rfl, by omega⟩ | exact ⟨⟨_, rfl, rfl⟩, by decide, by decide, rfl, by omega⟩ | omega | decide)⟩, (by first | exact rfl | assumption | exact ⟨rfl, rfl⟩ | exact ⟨rfl, rfl, by omega⟩ | exact ⟨by assumption, rfl, by omega⟩ | exact ⟨⟨_, rfl, rfl⟩, by decide, by decide, rfl, by omega⟩ | omega | decide)⟩ ?_
      rw [hb2]
      refine loop0 (P := fun i => V 77 [(0, .ref 0), (1, .long (hl (fun i => (J 167 i).toInt64) i (31 * h3 + (nI q).toInt64))), (3, .int (nI i))] [] I2 L2) q (fun hh => hh) (fun i hi ih => ?_) ?_
      · refine ru_go hV 16 [(0, 0), (167, 0), (i, 60)] rfl rfl ⟨⟨⟨⟨trivial, (by first | exact rfl | assumption | exact ⟨rfl, rfl⟩ | exact ⟨rfl, rfl, by omega⟩ | exact ⟨by assumption, rfl, by omega⟩ | exact ⟨⟨_, rfl, rfl⟩, by decide, by decide, rfl, by omega⟩ | omega | decide)⟩, (by rw [hb2]; exact nI_nge hi (by omega))⟩, (by first | exact rfl | assumption | exact ⟨rfl, rfl⟩ | exact ⟨rfl, rfl, by omega⟩ | exact ⟨by assumption, rfl, by omega⟩ | exact ⟨⟨_, rfl, rfl⟩, by decide, by decide, rfl, by omega⟩ | omega | decide)⟩, ⟨rfl, rfl, by omega⟩⟩ ?_
        rw [nI_1, h167]
        exact ih
      · refine ru_fin hV 6 [(1, 0)] rfl rfl ⟨⟨trivial, (by first | exact rfl | assumption | exact ⟨rfl, rfl⟩ | exact ⟨rfl, rfl, by omega⟩ | exact ⟨by assumption, rfl, by omega⟩ | exact ⟨⟨_, rfl, rfl⟩, by decide, by decide, rfl, by omega⟩ | omega | decide)⟩, (by rw [hb2]; exact nI_le (Nat.le_refl q) (by omega))⟩ ?_
        exact ⟨rfl, hsc⟩
