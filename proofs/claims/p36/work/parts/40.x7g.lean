/-! the desk: looks -/
theorem no8 {k : Nat} (hk : k < 8) : ¬ ouR (nI k) 8 := fun e => e.elim (nI_pos (by omega)) (nI_ge (b := 8) hk (by decide))
theorem noR {k m : Nat} (hk : k < m) (hm : m < 2 ^ 31) : ¬ ouR (nI k) m := fun e => e.elim (nI_pos (by omega)) (nI_ge hk hm)
theorem qX7_coefficient (l : Launch) {s b n : Nat} (hs : s < 8) (hb : b < 2 ^ n) (hn : n ≤ 5) {I : IM} (hd : I 1 0 = nI n) (L : LM) : KX7_coefficient l [.ref 0, .int (nI s), .int (nI b)] I L (some (.int (I (3 + s) b))) I L := by
  have hB := pow_mono n hn b hb
  refine wX7_coefficient l rfl (hz0 (by decide)) (fun V hV => ?_)
  refine ru_go hV 1 [] rfl rfl trivial ?_
  refine ru_S hV [] sSX7_97 (qX7_requireSlot l hs I L) rfl rfl rfl (Nat.le_of_ble_eq_true rfl) ?_
  refine ru_go hV 2 [] rfl rfl trivial ?_
  refine ru_V hV [] sVX7_100 (qX7_requireBlade l hb hn hd L) rfl rfl rfl rfl rfl (Nat.le_of_ble_eq_true rfl) ?_
  refine ru_fin hV 8 [(1, 0), (2, 0), (s, 8), ((3+s), 5), (b, 32)] rfl rfl ⟨⟨⟨⟨trivial, (by first | exact rfl | assumption | exact ⟨rfl, rfl⟩ | exact ⟨rfl, rfl, by omega⟩ | exact ⟨by assumption, rfl, by omega⟩ | exact ⟨⟨_, rfl, rfl⟩, by decide, by decide, rfl, by omega⟩ | omega | decide)⟩, (by first | exact rfl | assumption | exact ⟨rfl, rfl⟩ | exact ⟨rfl, rfl, by omega⟩ | exact ⟨by assumption, rfl, by omega⟩ | exact ⟨⟨_, rfl, rfl⟩, by decide, by decide, rfl, by omega⟩ | omega | decide)⟩, kd_fr (b := 1) hb1 hs⟩, ⟨kd_row (b := 1) hb1 hs, rfl, hB⟩⟩ ?_
  exact ⟨rfl, rfl, rfl⟩
theorem qX7_form (l : Launch) {s k : Nat} (hs : s < 8) (hk : k < 8) (I : IM) (L : LM) : KX7_form l [.ref 0, .int (nI s), .int (nI k)] I L (some (.int (prF (I (3 + s)) 32 k))) I L := by
  refine wX7_form l rfl (hz0 (by decide)) (fun V hV => ?_)
  refine ru_go hV 1 [] rfl rfl trivial ?_
  refine ru_S hV [] sSX7_97 (qX7_requireSlot l hs I L) rfl rfl rfl (Nat.le_of_ble_eq_true rfl) ?_
  refine ru_go hV 11 [(0, 0), (1, 0), (1, 0), (2, 0), (s, 8), ((3+s), 5)] rfl rfl ⟨⟨⟨⟨⟨trivial, nI_pos (by omega)⟩, nI_le (b := 7) (by omega) (by decide)⟩, (by first | exact rfl | assumption | exact ⟨rfl, rfl⟩ | exact ⟨rfl, rfl, by omega⟩ | exact ⟨by assumption, rfl, by omega⟩ | exact ⟨⟨_, rfl, rfl⟩, by decide, by decide, rfl, by omega⟩ | omega | decide)⟩, (by first | exact rfl | assumption | exact ⟨rfl, rfl⟩ | exact ⟨rfl, rfl, by omega⟩ | exact ⟨by assumption, rfl, by omega⟩ | exact ⟨⟨_, rfl, rfl⟩, by decide, by decide, rfl, by omega⟩ | omega | decide)⟩, kd_fr (b := 1) hb1 hs⟩ ?_
  refine ru_S hV [] sSX7_208 (qX2_property l (kd_row (b := 1) hb1 hs) hk I L) rfl rfl rfl (Nat.le_of_ble_eq_true rfl) ?_
  refine ru_fin hV 1 [] rfl rfl trivial ?_
  exact ⟨rfl, rfl, rfl⟩
theorem qX7_inner (l : Launch) {a b n : Nat} (ha : a < 8) (hb : b < 8) (hn : n ≤ 5) {I : IM} (hd : I 1 0 = nI n) (L : LM) : KX7_inner l [.ref 0, .int (nI a), .int (nI b)] I L (some (.long (inC (I 11) (I (3 + a)) (I (3 + b)) (2 ^ n)))) I L := by
  refine wX7_inner l rfl (hz0 (by decide)) (fun V hV => ?_)
  refine ru_go hV 1 [] rfl rfl trivial ?_
  refine ru_S hV [] sSX7_97 (qX7_requireSlot l ha I L) rfl rfl rfl (Nat.le_of_ble_eq_true rfl) ?_
  refine ru_go hV 1 [] rfl rfl trivial ?_
  refine ru_S hV [] sSX7_97 (qX7_requireSlot l hb I L) rfl rfl rfl (Nat.le_of_ble_eq_true rfl) ?_
  refine ru_go hV 4 [(1, 0)] rfl rfl ⟨trivial, (by first | exact rfl | assumption | exact ⟨rfl, rfl⟩ | exact ⟨rfl, rfl, by omega⟩ | exact ⟨by assumption, rfl, by omega⟩ | exact ⟨⟨_, rfl, rfl⟩, by decide, by decide, rfl, by omega⟩ | omega | decide)⟩ ?_
  refine ru_S hV [] sSX7_212 (qX5_innerOfForms l hb1 ha hb hn hd L) rfl rfl rfl (Nat.le_of_ble_eq_true rfl) ?_
  refine ru_fin hV 1 [] rfl rfl trivial ?_
  exact ⟨rfl, rfl, rfl⟩
theorem qX7_decomposable (l : Launch) {s w n : Nat} (hs : s < 8) (hw : w < 2) (hn : n ≤ 5) {I : IM} (hd : I 1 0 = nI n) (hz : VZ I) (L : LM) : ∃ I2 L2, SC I I2 ∧ KX7_decomposable l [.ref 0, .int (nI s), .int (nI w)] I L (some (.int (if w = 0 then dtF (I (3 + s)) n else dbF (I (3 + s)) n))) I2 L2 := by
  match w, hw with
  | 0, _ =>
    obtain ⟨I2, L2, hsc, hK⟩ := qX7_decomposableAsTold l hs hn hd hz L
    refine ⟨I2, L2, hsc, wX7_decomposable l rfl (hz0 (by decide)) (fun V hV => ?_)⟩
    refine ru_go hV 1 [] rfl rfl trivial ?_
    refine ru_S hV [] sSX7_97 (qX7_requireSlot l hs I L) rfl rfl rfl (Nat.le_of_ble_eq_true rfl) ?_
    refine ru_go hV 6 [(1, 0), (0, 0)] rfl rfl ⟨⟨trivial, (by first | exact rfl | assumption | exact ⟨rfl, rfl⟩ | exact ⟨rfl, rfl, by omega⟩ | exact ⟨by assumption, rfl, by omega⟩ | exact ⟨⟨_, rfl, rfl⟩, by decide, by decide, rfl, by omega⟩ | omega | decide)⟩, (by first | exact rfl | assumption | exact ⟨rfl, rfl⟩ | exact ⟨rfl, rfl, by omega⟩ | exact ⟨by assumption, rfl, by omega⟩ | exact ⟨⟨_, rfl, rfl⟩, by decide, by decide, rfl, by omega⟩ | omega | decide)⟩ ?_
    refine ru_V hV [] sVX7_218 hK rfl rfl rfl rfl rfl (Nat.le_of_ble_eq_true rfl) ?_
    refine ru_fin hV 2 [] rfl rfl trivial ?_
    exact ⟨rfl, rfl, rfl⟩
  | 1, _ =>
    obtain ⟨I2, L2, hsc, hK⟩ := qX7_decomposableByAnnihilator l hs hn hd L
    refine ⟨I2, L2, hsc, wX7_decomposable l rfl (hz0 (by decide)) (fun V hV => ?_)⟩
    refine ru_go hV 1 [] rfl rfl trivial ?_
    refine ru_S hV [] sSX7_97 (qX7_requireSlot l hs I L) rfl rfl rfl (Nat.le_of_ble_eq_true rfl) ?_
    refine ru_go hV 9 [(0, 0), (1, 0), (1, 0)] rfl rfl ⟨⟨⟨trivial, (by first | exact rfl | assumption | exact ⟨rfl, rfl⟩ | exact ⟨rfl, rfl, by omega⟩ | exact ⟨by assumption, rfl, by omega⟩ | exact ⟨⟨_, rfl, rfl⟩, by decide, by decide, rfl, by omega⟩ | omega | decide)⟩, (by first | exact rfl | assumption | exact ⟨rfl, rfl⟩ | exact ⟨rfl, rfl, by omega⟩ | exact ⟨by assumption, rfl, by omega⟩ | exact ⟨⟨_, rfl, rfl⟩, by decide, by decide, rfl, by omega⟩ | omega | decide)⟩, (by first | exact rfl | assumption | exact ⟨rfl, rfl⟩ | exact ⟨rfl, rfl, by omega⟩ | exact ⟨by assumption, rfl, by omega⟩ | exact ⟨⟨_, rfl, rfl⟩, by decide, by decide, rfl, by omega⟩ | omega | decide)⟩ ?_
    refine ru_V hV [] sVX7_222 hK rfl rfl rfl rfl rfl (Nat.le_of_ble_eq_true rfl) ?_
    refine ru_fin hV 1 [] rfl rfl trivial ?_
    exact ⟨rfl, rfl, rfl⟩
theorem qX7_annihilator (l : Launch) {s n : Nat} (hs : s < 8) (hn : n ≤ 5) {I : IM} (hd : I 1 0 = nI n) (L : LM) : ∃ I2 L2, SC I I2 ∧ KX7_annihilator l [.ref 0, .int (nI s)] I L (some (.int (anF (I (3 + s)) n))) I2 L2 := by
  obtain ⟨I2, L2, ⟨hsc, -⟩, hK⟩ := qX4_fin l (kd_row (b := 1) hb1 hs) hn I L
  refine ⟨I2, L2, hsc, wX7_annihilator l rfl (hz0 (by decide)) (fun V hV => ?_)⟩
  refine ru_go hV 1 [] rfl rfl trivial ?_
  refine ru_S hV [] sSX7_97 (qX7_requireSlot l hs I L) rfl rfl rfl (Nat.le_of_ble_eq_true rfl) ?_
  refine ru_go hV 10 [(171, 0), (1, 0), (2, 0), (s, 8), ((3+s), 5), (1, 0)] rfl rfl ⟨⟨⟨⟨⟨⟨trivial, (by first | exact rfl | assumption | exact ⟨rfl, rfl⟩ | exact ⟨rfl, rfl, by omega⟩ | exact ⟨by assumption, rfl, by omega⟩ | exact ⟨⟨_, rfl, rfl⟩, by decide, by decide, rfl, by omega⟩ | omega | decide)⟩, (by first | exact rfl | assumption | exact ⟨rfl, rfl⟩ | exact ⟨rfl, rfl, by omega⟩ | exact ⟨by assumption, rfl, by omega⟩ | exact ⟨⟨_, rfl, rfl⟩, by decide, by decide, rfl, by omega⟩ | omega | decide)⟩, (by first | exact rfl | assumption | exact ⟨rfl, rfl⟩ | exact ⟨rfl, rfl, by omega⟩ | exact ⟨by assumption, rfl, by omega⟩ | exact ⟨⟨_, rfl, rfl⟩, by decide, by decide, rfl, by omega⟩ | omega | decide)⟩, kd_fr (b := 1) hb1 hs⟩, (by first | exact rfl | assumption | exact ⟨rfl, rfl⟩ | exact ⟨rfl, rfl, by omega⟩ | exact ⟨by assumption, rfl, by omega⟩ | exact ⟨⟨_, rfl, rfl⟩, by decide, by decide, rfl, by omega⟩ | omega | decide)⟩, (by first | exact rfl | assumption | exact ⟨rfl, rfl⟩ | exact ⟨rfl, rfl, by omega⟩ | exact ⟨by assumption, rfl, by omega⟩ | exact ⟨⟨_, rfl, rfl⟩, by decide, by decide, rfl, by omega⟩ | omega | decide)⟩ ?_
  rw [hd]
  refine ru_V hV [] sVX7_235 hK rfl rfl rfl rfl rfl (Nat.le_of_ble_eq_true rfl) ?_
  refine ru_fin hV 1 [] rfl rfl trivial ?_
  exact ⟨rfl, rfl, rfl⟩
theorem anF_lt {f : Nat → Int32} {n p : Nat} (hn : n ≤ 5) (h : nI p < anF f n) (hp : p < 2 ^ 31) : gmF f 32 ≤ 60 ∧ p < n := by
  unfold anF at h
  split at h
  · rename_i hg
    have h1 := fiS_le f n (fun _ _ => 0) (fun _ => 0) (2 ^ n - 1)
    have h2 : (fiC f n (2 ^ n - 1)).1 ≤ n := h1
    rw [nI_ltI hp (by omega)] at h
    exact ⟨hg, by omega⟩
  · refine absurd h ?_
    exact fun e => absurd (Int32.lt_trans e NON_neg) (nI_nn hp)
theorem qX7_basis (l : Launch) {s p d n : Nat} (hs : s < 8) (hp : p < 5) (hdn : d < n) (hn : n ≤ 5) {I : IM} (hd : I 1 0 = nI n) (L : LM) : ∃ I2 L2, SC I I2 ∧ KX7_basis l [.ref 0, .int (nI s), .int (nI p), .int (nI d)] I L (some (.int (if nI p < anF (I (3 + s)) n then baF (I (3 + s)) n p d else NON))) I2 L2 := by
  obtain ⟨I2, L2, ⟨hsc, hnum⟩, hK⟩ := qX4_fin l (kd_row (b := 1) hb1 hs) hn I L
  refine ⟨I2, L2, hsc, wX7_basis l rfl (hz0 (by decide)) (fun V hV => ?_)⟩
  refine ru_go hV 1 [] rfl rfl trivial ?_
  refine ru_S hV [] sSX7_97 (qX7_requireSlot l hs I L) rfl rfl rfl (Nat.le_of_ble_eq_true rfl) ?_
  refine ru_go hV 2 [] rfl rfl trivial ?_
  refine ru_V hV [] sVX7_81 (qX7_requireDirection l hdn hn hd L) rfl rfl rfl rfl rfl (Nat.le_of_ble_eq_true rfl) ?_
  refine ru_go hV 1 [] rfl rfl trivial ?_
  refine ru_S hV [] sSX7_225 (qX7_requirePlace l hp I L) rfl rfl rfl (Nat.le_of_ble_eq_true rfl) ?_
  refine ru_go hV 10 [(171, 0), (1, 0), (2, 0), (s, 8), ((3+s), 5), (1, 0)] rfl rfl ⟨⟨⟨⟨⟨⟨trivial, (by first | exact rfl | assumption | exact ⟨rfl, rfl⟩ | exact ⟨rfl, rfl, by omega⟩ | exact ⟨by assumption, rfl, by omega⟩ | exact ⟨⟨_, rfl, rfl⟩, by decide, by decide, rfl, by omega⟩ | omega | decide)⟩, (by first | exact rfl | assumption | exact ⟨rfl, rfl⟩ | exact ⟨rfl, rfl, by omega⟩ | exact ⟨by assumption, rfl, by omega⟩ | exact ⟨⟨_, rfl, rfl⟩, by decide, by decide, rfl, by omega⟩ | omega | decide)⟩, (by first | exact rfl | assumption | exact ⟨rfl, rfl⟩ | exact ⟨rfl, rfl, by omega⟩ | exact ⟨by assumption, rfl, by omega⟩ | exact ⟨⟨_, rfl, rfl⟩, by decide, by decide, rfl, by omega⟩ | omega | decide)⟩, kd_fr (b := 1) hb1 hs⟩, (by first | exact rfl | assumption | exact ⟨rfl, rfl⟩ | exact ⟨rfl, rfl, by omega⟩ | exact ⟨by assumption, rfl, by omega⟩ | exact ⟨⟨_, rfl, rfl⟩, by decide, by decide, rfl, by omega⟩ | omega | decide)⟩, (by first | exact rfl | assumption | exact ⟨rfl, rfl⟩ | exact ⟨rfl, rfl, by omega⟩ | exact ⟨by assumption, rfl, by omega⟩ | exact ⟨⟨_, rfl, rfl⟩, by decide, by decide, rfl, by omega⟩ | omega | decide)⟩ ?_
  rw [hd]
  refine ru_V hV [] sVX7_235 hK rfl rfl rfl rfl rfl (Nat.le_of_ble_eq_true rfl) ?_
  by_cases h : nI p < anF (I (3 + s)) n
  · rw [if_pos h] at hV
    obtain ⟨hg, hpn⟩ := anF_lt hn h (by omega)
    have en := qX4_number l (p := p) (d := d) hp (by omega) I2 L2
    rw [hnum hg p hpn d hdn] at en
    refine ru_go hV 8 [(0, 0), (171, 0)] rfl rfl ⟨⟨trivial, Int32.not_le.mpr h⟩, (by first | exact rfl | assumption | exact ⟨rfl, rfl⟩ | exact ⟨rfl, rfl, by omega⟩ | exact ⟨by assumption, rfl, by omega⟩ | exact ⟨⟨_, rfl, rfl⟩, by decide, by decide, rfl, by omega⟩ | omega | decide)⟩ ?_
    refine ru_V hV [] sVX7_238 en rfl rfl rfl rfl rfl (Nat.le_of_ble_eq_true rfl) ?_
    refine ru_fin hV 2 [] rfl rfl trivial ?_
    exact ⟨rfl, rfl, rfl⟩
  · rw [if_neg h] at hV
    refine ru_fin hV 6 [(1, 0)] rfl rfl ⟨trivial, Int32.not_lt.mp h⟩ ?_
    exact ⟨rfl, rfl, rfl⟩
/-- what is asked to be refused -/
def rfG (I : IM) (n w a b : Nat) : Nat → Int64 := match w with
  | 0 => fun k => (I (3 + a) k).toInt64 + (I (3 + b) k).toInt64
  | 1 => wC (I (3 + a)) (I (3 + b)) (2 ^ n)
  | 2 => cC (I 11) (I (3 + a)) (I (3 + b)) (2 ^ n)
  | _ => puC (fun q p => I (13 + q) p) n (I (3 + a))
theorem qX7_refused (l : Launch) {w a b n : Nat} (hw : w < 4) (ha : a < 8) (hb : b < 8) (hn : n ≤ 5) {I : IM} (hd : I 1 0 = nI n) (L : LM) : ∃ L2, KX7_refused l [.ref 0, .int (nI w), .int (nI a), .int (nI b)] I L (some (.int (fsI (ftO (rfG I n w a b) (2 ^ n))))) I L2 := by
  have head : ∀ (L2 : LM) (V : Nat → LV → List Value → IM → LM → Prop), Ru l kdC 181 RX7 cX7_refused rmX7_refused FX7 tX7_refused V (fun st J K => st = (some (Value.int (fsI (ftO (rfG I n w a b) (2 ^ n))))).toList ∧ J = I ∧ K = L2) → V 9 [(0, .ref 0), (1, .int (nI w)), (2, .int (nI a)), (3, .int (nI b))] [.int (nI w)] I L → V 0 [(0, .ref 0), (1, .int (nI w)), (2, .int (nI a)), (3, .int (nI b))] [] I L := fun L2 V hV h => by
    refine ru_go hV 1 [] rfl rfl trivial ?_
    refine ru_S hV [] sSX7_97 (qX7_requireSlot l ha I L) rfl rfl rfl (Nat.le_of_ble_eq_true rfl) ?_
    refine ru_go hV 1 [] rfl rfl trivial ?_
    refine ru_S hV [] sSX7_97 (qX7_requireSlot l hb I L) rfl rfl rfl (Nat.le_of_ble_eq_true rfl) ?_
    refine ru_go hV 1 [] rfl rfl trivial ?_
    exact h
  have fin : ∀ (L1 : LM) (V : Nat → LV → List Value → IM → LM → Prop), Ru l kdC 181 RX7 cX7_refused rmX7_refused FX7 tX7_refused V (fun st J K => st = (some (Value.int (fsI (ftO (rfG I n w a b) (2 ^ n))))).toList ∧ J = I ∧ K = lay L1 168 32 (rfG I n w a b)) → V 136 [(0, .ref 0), (1, .int (nI w)), (2, .int (nI a)), (3, .int (nI b))] [] I (lay L1 168 32 (rfG I n w a b)) := fun L1 V hV => by
    have ef := qX7_firstTooLarge l hn hd (lay L1 168 32 (rfG I n w a b))
    rw [ftO_g hn] at ef
    refine ru_go hV 1 [] rfl rfl trivial ?_
    refine ru_V hV [] sVX7_243 ef rfl rfl rfl rfl rfl (Nat.le_of_ble_eq_true rfl) ?_
    refine ru_fin hV 1 [] rfl rfl trivial ?_
    exact ⟨rfl, rfl, rfl⟩
  have sw := fun (V : Nat → LV → List Value → IM → LM → Prop) (E : List Value → IM → LM → Prop) (hV : Ru l kdC 181 RX7 cX7_refused rmX7_refused FX7 tX7_refused V E) (tgt : Nat) h1 h2 h3 => ru_sw hV (tgt := tgt) swX7_refused_9 h1 h2 h3 (x := nI w) (rest := []) (lv := [(0, .ref 0), (1, .int (nI w)), (2, .int (nI a)), (3, .int (nI b))]) (I := I) (L := L)
  match w, hw with
  | 0, _ =>
    refine ⟨lay L 168 32 (rfG I n 0 a b), wX7_refused l rfl (hz0 (by decide)) (fun V hV => ?_)⟩
    refine head _ V hV (sw V _ hV 40 (by decide) (fun _ _ => ⟨31, by decide, by decide⟩) ?_)
    refine ru_go hV 6 [(1, 0), (168, 0)] rfl rfl ⟨⟨trivial, (by first | exact rfl | assumption | exact ⟨rfl, rfl⟩ | exact ⟨rfl, rfl, by omega⟩ | exact ⟨by assumption, rfl, by omega⟩ | exact ⟨⟨_, rfl, rfl⟩, by decide, by decide, rfl, by omega⟩ | omega | decide)⟩, (by first | exact rfl | assumption | exact ⟨rfl, rfl⟩ | exact ⟨rfl, rfl, by omega⟩ | exact ⟨by assumption, rfl, by omega⟩ | exact ⟨⟨_, rfl, rfl⟩, by decide, by decide, rfl, by omega⟩ | omega | decide)⟩ ?_
    refine ru_S hV [] sSX7_111 (qX5_addForms l (b := 1) (r := 168) hb1 ha hb rfl I L) rfl rfl rfl (Nat.le_of_ble_eq_true rfl) ?_
    refine ru_go hV 1 [] rfl rfl trivial ?_
    exact fin L V hV
  | 1, _ =>
    refine ⟨lay L 168 32 (rfG I n 1 a b), wX7_refused l rfl (hz0 (by decide)) (fun V hV => ?_)⟩
    refine head _ V hV (sw V _ hV 56 (by decide) (fun _ _ => ⟨47, by decide, by decide⟩) ?_)
    refine ru_go hV 12 [(1, 0), (2, 0), (a, 8), ((3+a), 5), (1, 0), (2, 0), (b, 8), ((3+b), 5), (1, 0)] rfl rfl ⟨⟨⟨⟨⟨⟨⟨trivial, (by first | exact rfl | assumption | exact ⟨rfl, rfl⟩ | exact ⟨rfl, rfl, by omega⟩ | exact ⟨by assumption, rfl, by omega⟩ | exact ⟨⟨_, rfl, rfl⟩, by decide, by decide, rfl, by omega⟩ | omega | decide)⟩, (by first | exact rfl | assumption | exact ⟨rfl, rfl⟩ | exact ⟨rfl, rfl, by omega⟩ | exact ⟨by assumption, rfl, by omega⟩ | exact ⟨⟨_, rfl, rfl⟩, by decide, by decide, rfl, by omega⟩ | omega | decide)⟩, kd_fr (b := 1) hb1 ha⟩, (by first | exact rfl | assumption | exact ⟨rfl, rfl⟩ | exact ⟨rfl, rfl, by omega⟩ | exact ⟨by assumption, rfl, by omega⟩ | exact ⟨⟨_, rfl, rfl⟩, by decide, by decide, rfl, by omega⟩ | omega | decide)⟩, (by first | exact rfl | assumption | exact ⟨rfl, rfl⟩ | exact ⟨rfl, rfl, by omega⟩ | exact ⟨by assumption, rfl, by omega⟩ | exact ⟨⟨_, rfl, rfl⟩, by decide, by decide, rfl, by omega⟩ | omega | decide)⟩, kd_fr (b := 1) hb1 hb⟩, (by first | exact rfl | assumption | exact ⟨rfl, rfl⟩ | exact ⟨rfl, rfl, by omega⟩ | exact ⟨by assumption, rfl, by omega⟩ | exact ⟨⟨_, rfl, rfl⟩, by decide, by decide, rfl, by omega⟩ | omega | decide)⟩ ?_
    refine ru_V hV [.ref (3 + b), .ref (3 + a)] sVX7_127 (qX6_blades l hb1 hn hd L) rfl rfl rfl rfl rfl (Nat.le_of_ble_eq_true rfl) ?_
    refine ru_go hV 2 [(168, 0)] rfl rfl ⟨trivial, (by first | exact rfl | assumption | exact ⟨rfl, rfl⟩ | exact ⟨rfl, rfl, by omega⟩ | exact ⟨by assumption, rfl, by omega⟩ | exact ⟨⟨_, rfl, rfl⟩, by decide, by decide, rfl, by omega⟩ | omega | decide)⟩ ?_
    refine ru_S hV [] sSX7_131 (qX5_wedgeForms l (c := 3 + a) (d := 3 + b) (r := 168) (n := n) (kd_row (b := 1) hb1 ha) (kd_row (b := 1) hb1 hb) rfl hn I L) rfl rfl rfl (Nat.le_of_ble_eq_true rfl) ?_
    refine ru_go hV 1 [] rfl rfl trivial ?_
    exact fin L V hV
  | 2, _ =>
    refine ⟨lay L 168 32 (rfG I n 2 a b), wX7_refused l rfl (hz0 (by decide)) (fun V hV => ?_)⟩
    refine head _ V hV (sw V _ hV 91 (by decide) (fun _ _ => ⟨82, by decide, by decide⟩) ?_)
    refine ru_go hV 6 [(1, 0), (168, 0)] rfl rfl ⟨⟨trivial, (by first | exact rfl | assumption | exact ⟨rfl, rfl⟩ | exact ⟨rfl, rfl, by omega⟩ | exact ⟨by assumption, rfl, by omega⟩ | exact ⟨⟨_, rfl, rfl⟩, by decide, by decide, rfl, by omega⟩ | omega | decide)⟩, (by first | exact rfl | assumption | exact ⟨rfl, rfl⟩ | exact ⟨rfl, rfl, by omega⟩ | exact ⟨by assumption, rfl, by omega⟩ | exact ⟨⟨_, rfl, rfl⟩, by decide, by decide, rfl, by omega⟩ | omega | decide)⟩ ?_
    refine ru_S hV [] sSX7_135 (qX5_contractForms l (b := 1) (r := 168) hb1 ha hb rfl hn hd L) rfl rfl rfl (Nat.le_of_ble_eq_true rfl) ?_
    refine ru_go hV 1 [] rfl rfl trivial ?_
    exact fin L V hV
  | 3, _ =>
    obtain ⟨f, hp⟩ := qX5_pushForm l (b := 1) (x := a) (im := 169) (r := 168) hb1 ha hn rfl rfl (by decide) hd L
    refine ⟨lay (lay L 169 32 f) 168 32 (rfG I n 3 a b), wX7_refused l rfl (hz0 (by decide)) (fun V hV => ?_)⟩
    refine head _ V hV (sw V _ hV 107 (by decide) (fun _ _ => ⟨98, by decide, by decide⟩) ?_)
    refine ru_go hV 7 [(1, 0), (169, 0), (168, 0)] rfl rfl ⟨⟨⟨trivial, (by first | exact rfl | assumption | exact ⟨rfl, rfl⟩ | exact ⟨rfl, rfl, by omega⟩ | exact ⟨by assumption, rfl, by omega⟩ | exact ⟨⟨_, rfl, rfl⟩, by decide, by decide, rfl, by omega⟩ | omega | decide)⟩, (by first | exact rfl | assumption | exact ⟨rfl, rfl⟩ | exact ⟨rfl, rfl, by omega⟩ | exact ⟨by assumption, rfl, by omega⟩ | exact ⟨⟨_, rfl, rfl⟩, by decide, by decide, rfl, by omega⟩ | omega | decide)⟩, (by first | exact rfl | assumption | exact ⟨rfl, rfl⟩ | exact ⟨rfl, rfl, by omega⟩ | exact ⟨by assumption, rfl, by omega⟩ | exact ⟨⟨_, rfl, rfl⟩, by decide, by decide, rfl, by omega⟩ | omega | decide)⟩ ?_
    refine ru_S hV [] sSX7_151 hp rfl rfl rfl (Nat.le_of_ble_eq_true rfl) ?_
    refine ru_go hV 1 [] rfl rfl trivial ?_
    exact fin _ V hV
theorem ouR_int {x : Int32} {m : Nat} (hm : m < 2 ^ 31) (h : ouR x m) : x.toInt < 0 ∨ (m : Int) ≤ x.toInt := by
  rcases h with h | h
  · exact Or.inl (Int32.lt_iff_toInt_lt.mp h)
  · have := Int32.le_iff_toInt_le.mp h
    rw [nI_toInt hm] at this
    exact Or.inr this
/-- whether two rows are the same, and multiples of each other -/
def smB (f g : Nat → Int32) (n : Nat) : Bool := (fsO (fun k => decide (f k ≠ g k)) n).isNone
def lkB (f g : Nat → Int32) (n : Nat) : Bool := match ldO f n with
  | none => false
  | some q => decide (g q ≠ 0) && (fsO (fun k => decide ((f k).toInt64 * (g q).toInt64 ≠ (g k).toInt64 * (f q).toInt64)) n).isNone
theorem fsN {p : Nat → Bool} {n : Nat} : (fsO p n).isNone = true ↔ ∀ k, k < n → p k = false := by
  refine ⟨fun h k hk => ?_, fun h => by rw [fsO_none h]; rfl⟩
  cases hp : p k with
  | false => rfl
  | true =>
    exfalso
    have : ∀ m, k < m → fsO p m ≠ none := by
      intro m
      induction m with
      | zero => intro h; omega
      | succ m ih =>
        intro hkm e
        unfold fsO at e
        by_cases hm : k < m
        · cases e2 : fsO p m with
          | none => exact ih hm e2
          | some q => rw [e2] at e; cases e
        · have : m = k := by omega
          subst this
          cases e2 : fsO p m with
          | none => rw [e2] at e; simp [hp] at e
          | some q => rw [e2] at e; cases e
    have h2 := this n hk
    cases e : fsO p n with
    | none => exact h2 e
    | some q => rw [e] at h; cases h
theorem smB_iff {f g : Nat → Int32} {n : Nat} : smB f g n = true ↔ sameF f g n := by
  unfold smB sameF
  rw [fsN]
  exact ⟨fun h k hk => by have := h k hk; simpa using this, fun h k hk => by simpa using h k hk⟩
theorem lkB_iff {f g : Nat → Int32} {n : Nat} : lkB f g n = true ↔ likeF f g n := by
  unfold lkB likeF
  cases h : ldO f n with
  | none => exact ⟨(fun e => by cases e), fun ⟨q, hq, _⟩ => by cases hq⟩
  | some q =>
    dsimp only
    rw [Bool.and_eq_true, fsN, decide_eq_true_eq]
    refine ⟨fun ⟨h1, h2⟩ => ⟨q, rfl, h1, fun k hk => by have := h2 k hk; simpa using this⟩, fun ⟨q', hq, h1, h2⟩ => ?_⟩
    cases hq
    exact ⟨h1, fun k hk => by simpa using h2 k hk⟩
def cmF (f g : Nat → Int32) (n : Nat) : Int32 := if smB f g 32 then 0 else if lkB f g 32 then 1 else if alz (wC f g (2 ^ n)) (2 ^ n) then 2 else 3
