/-! THE TWO SIDES: call for call, on -/
theorem SmR.buf {I I' J J' : IM} {o z q q' : Nat} {f f' : Nat → Nat} (h : SmR I J o z q f) (hI : ∀ a, 19 ≤ a → a ≤ 166 → I' a = I a) (hz : VZ I → VZ I') (hJ : ∀ a, 2 ≤ a → a ≤ 4 → J' a = J a) (h2 : J' 0 2 = J 0 2) (hb : q' ≤ 60 ∧ I' 0 5 = nI q' ∧ J' 0 6 = nI q' ∧ ∀ j, j < q' → I' 167 j = nI (f' j) ∧ J' 5 j = nI (f' j) ∧ 33 ≤ f' j ∧ f' j ≤ 126) : SmR I' J' o z q' f' := by
  obtain ⟨⟨a1, a2, a3, a4, a5⟩, b, c, -, e⟩ := h
  refine ⟨⟨a1, a2, by rw [hI 19 (by decide) (by decide)]; exact a3, by rw [hI 19 (by decide) (by decide)]; exact a4, by rw [h2]; exact a5⟩, fun i hi => ?_, fun s hs => ?_, hb, hz e⟩
  · have hlt : (o + i) % 6 < 6 := Nat.mod_lt _ (by decide)
    obtain ⟨m, m1, m2⟩ := b i hi
    exact ⟨m, m1.of (fun d j hd => by rw [hI _ (by unfold hbk; omega) (by unfold rlD at hd; unfold hbk; omega)]) (fun k _ => by unfold Row; rw [hJ 2 (by decide) (by decide)]), m2.of (fun j _ => by rw [hI _ (by unfold hbk; omega) (by unfold hbk; omega)]) (fun j _ => by unfold Row; rw [hJ 2 (by decide) (by decide)])⟩
  · rw [hI 166 (by decide) (by decide), hJ 4 (by decide) (by decide)]
    exact ⟨(c s hs).1, (c s hs).2.imp id (fun ⟨c3, m, c4⟩ => ⟨c3, m, c4.of (fun d j hd => by rw [hI _ (by unfold sbk; omega) (by unfold rlD at hd; unfold sbk; omega)]) (fun k _ => by unfold Sht; rw [hJ 3 (by decide) (by decide)])⟩)⟩
theorem Sim.buf {I I' J J' : IM} {n o z q q' : Nat} {f f' : Nat → Nat} (h : Sim I J n o z q f) (hI : ∀ a, 1 ≤ a → a ≤ 166 → I' a = I a) (hz : VZ I → VZ I') (hJ : ∀ a, 1 ≤ a → a ≤ 4 → J' a = J a) (h2 : J' 0 2 = J 0 2) (hb : q' ≤ 60 ∧ I' 0 5 = nI q' ∧ J' 0 6 = nI q' ∧ ∀ j, j < q' → I' 167 j = nI (f' j) ∧ J' 5 j = nI (f' j) ∧ 33 ≤ f' j ∧ f' j ≤ 126) : Sim I' J' n o z q' f' :=
  ⟨⟨h.1.1.of (fun d j hd => by rw [hI _ (by omega) (by unfold rlD at hd; omega)]) (fun k _ => by rw [hJ 1 (by decide) (by decide)]), h.1.2.of (fun j _ => by rw [hI _ (by decide) (by decide)]) (fun j _ => by rw [hJ 1 (by decide) (by decide)])⟩, h.2.buf (fun a a1 a2 => hI a (by omega) a2) hz (fun a a1 a2 => hJ a (by omega) a2) h2 hb⟩
theorem Sim.append {I J : IM} {n o z q c : Nat} {f : Nat → Nat} (h : Sim I J n o z q f) (hq : q < 60) (c1 : 33 ≤ c) (c2 : c ≤ 126) : SimE (mu (mu I 167 q (nI c)) 0 5 (nI (q + 1))) (mu (mu (mu J 0 7 0) 5 q (nI c)) 0 6 (nI (q + 1))) := by
  refine ⟨n, o, z, q + 1, fun j => if j = q then c else f j, h.buf (fun a a1 a2 => by rw [mu_ne _ _ (by omega), mu_ne _ _ (by omega)]) (fun hz j j1 j2 => by rw [mu_ne _ _ (by decide), mu_ne _ _ (by decide)]; exact hz j j1 j2) (fun a a1 a2 => by rw [mu_ne _ _ (by omega), mu_ne _ _ (by omega), mu_ne _ _ (by omega)]) (by rw [mu_0 (by decide), mu_ne _ _ (by decide), mu_0 (by decide)]) ⟨by omega, mu_self _ _ _ _, mu_self _ _ _ _, fun j hj => ?_⟩⟩
  rw [show mu (mu I 167 q (nI c)) 0 5 (nI (q + 1)) 167 = mu I 167 q (nI c) 167 from mu_ne _ _ (by decide), show mu (mu (mu J 0 7 0) 5 q (nI c)) 0 6 (nI (q + 1)) 5 = mu (mu J 0 7 0) 5 q (nI c) 5 from mu_ne _ _ (by decide)]
  by_cases e : j = q
  · subst e
    rw [mu_self, mu_self, if_pos rfl]
    exact ⟨rfl, rfl, c1, c2⟩
  · have ho : ∀ (K : IM) a x, mu K a q x a j = K a j := fun K a x => by simp [mu, e]
    rw [ho, ho, if_neg e, mu_ne _ _ (by decide)]
    exact h.2.2.2.2.1.2.2.2 j (by omega)
theorem Sim.clear {I J : IM} {n o z q : Nat} {f : Nat → Nat} (h : Sim I J n o z q f) : SimE (mu I 0 5 0) (mu (mu J 0 7 0) 0 6 0) :=
  ⟨n, o, z, 0, f, h.buf (fun a a1 a2 => mu_ne _ _ (by omega)) (fun hz j j1 j2 => by rw [mu_ne _ _ (by decide)]; exact hz j j1 j2) (fun a a1 a2 => by rw [mu_ne _ _ (by omega), mu_ne _ _ (by omega)]) (by rw [mu_0 (by decide), mu_0 (by decide)]) ⟨Nat.zero_le _, mu_self _ _ _ _, mu_self _ _ _ _, fun j hj => absurd hj (by omega)⟩⟩
theorem cn_or (x : Int32) : (∃ k, okC k ∧ x = nI k) ∨ ((∀ k, okC k → x ≠ nI k) ∧ ¬ (0 ≤ x ∧ x ≤ 14) ∧ ¬ (20 ≤ x ∧ x ≤ 24)) := by
  rcases ouR_or x 25 (by decide) with ⟨k, hk, rfl⟩ | e
  · by_cases h : okC k
    · exact Or.inl ⟨k, h, rfl⟩
    · refine Or.inr ⟨fun j hj e => h (by have := nI_inj (show k < 2 ^ 31 by omega) (show j < 2 ^ 31 by unfold okC at hj; omega) e; rw [this]; exact hj), fun e => h (Or.inl ?_), fun e => h (Or.inr ⟨?_, by omega⟩)⟩
      · exact (nI_le_iff (a := k) (b := 14) (by omega) (by decide)).mp e.2
      · exact (nI_le_iff (a := 20) (b := k) (by decide) (by omega)).mp e.1
  · refine Or.inr ⟨fun j hj e2 => ?_, fun h => ?_, fun h => ?_⟩
    · subst e2
      exact ouR_not (by unfold okC at hj; omega) (by decide) e
    · have h1 := Int32.le_iff_toInt_le.mp h.1
      have h2 := Int32.le_iff_toInt_le.mp h.2
      have e1 : ((0 : Int32)).toInt = 0 := by decide
      have e2 : ((14 : Int32)).toInt = 14 := by decide
      rcases ouR_int (by decide) e with e | e <;> omega
    · have h1 := Int32.le_iff_toInt_le.mp h.1
      have h2 := Int32.le_iff_toInt_le.mp h.2
      have e1 : ((20 : Int32)).toInt = 20 := by decide
      have e2 : ((24 : Int32)).toInt = 24 := by decide
      rcases ouR_int (by decide) e with e | e <;> omega
theorem two_or {y : Int32} (h : ouR y 2) : y ≠ 0 ∧ y ≠ 1 := ⟨fun e => ouR_not (k := 0) (m := 2) (by decide) (by decide) (by rw [e] at h; exact h), fun e => ouR_not (k := 1) (m := 2) (by decide) (by decide) (by rw [e] at h; exact h)⟩
def AgL (KK : Option Value → IM → LM → Prop) (TT : String → IM → LM → Prop) (exs : List String) (RR : Option Value → IM → LM → Prop) : Prop := Agr Value.long Value.long (fun x y => x = y) KK TT exs RR
def AgF (KK : Option Value → IM → LM → Prop) (TT : String → IM → LM → Prop) (exs : List String) (RR : Option Value → IM → LM → Prop) : Prop := Agr Value.float Value.float (fun x y => x = y ∧ vf_n64 (FP.f2d y) ∧ nn64 (FP.f2d y)) KK TT exs RR
def AgD (KK : Option Value → IM → LM → Prop) (TT : String → IM → LM → Prop) (exs : List String) (RR : Option Value → IM → LM → Prop) : Prop := Agr Value.double Value.double (fun x y => x = y ∧ vf_n64 y ∧ nn64 y) KK TT exs RR
theorem de_d2 : ∀ a, a < 33 → ∀ b, b < 33 → vf_n64 (FP.f2d (deQ a b)) ∧ nn64 (FP.f2d (deQ a b)) := by
  unfold vf_n64 nn64
  decide +kernel
theorem fa_deD {f g : Nat → Int32} {n : Nat} (h : FA f g n) (hn : n ≤ 5) : vf_n64 (FP.f2d (deR g (2 ^ n))) ∧ nn64 (FP.f2d (deR g (2 ^ n))) := by
  have hB := (pow_le32 n hn).1
  rw [← fa_de h hn]
  unfold deF
  rw [fa_cnz h hn, fa_lo h hn, fa_hi h hn]
  have h1 := btw_le (loF g (2 ^ n)) (hiF g (2 ^ n)) (2 ^ n)
  have h2 := cnz_btw (f := g) (2 ^ n) (fun k hk hf => (lo_hi (2 ^ n) k hk hf).2)
  exact de_d2 _ (by omega) _ (by omega)
theorem q7 {J : IM} : mu J 0 7 0 0 7 = 0 := mu_self _ _ _ _
theorem ag_append (l : Launch) (hlt : l.stackTraces = false) {I J : IM} (h : SimE I J) (x : Int32) (L M : LM) : AgI (fun r => KX7_append l [.ref 0, .int x] I L r) (fun E => TX7_append l [.ref 0, .int x] I L E) [exA, exS] (fun r => KX8_append l [.ref 0, .int x] J M r) := by
  obtain ⟨n, o, z, q, f, h⟩ := h
  rcases ap_or x with ⟨c, c1, c2, rfl, hx⟩ | ⟨e, e2⟩
  · have hq := h.q6
    by_cases e : q < 60
    · exact agi_ok (qX7_append l c1 c2 e h.b5 L) (qX8_append l hx e h.j6 M) (by rw [mu_0 (by decide), mu_ne _ _ (by decide), mu_self]) rfl (h.append e c1 c2)
    · have e : q = 60 := by omega
      exact agi_th h 1 rfl (xX7_appendS l hlt c1 c2 (by rw [h.b5, e]; rfl) L) (vX8f_append l hx (by rw [h.j6, e]; rfl) M)
  · exact agi_th h 0 rfl (xX7_appendA l hlt e I L) (xX8_append l e2 J M)
theorem ag_clearBuffer (l : Launch) {I J : IM} (h : SimE I J) (L M : LM) : AgI (fun r => KX7_clearBuffer l [.ref 0] I L r) (fun _ _ _ => False) [] (fun r => KX8_clearBuffer l [.ref 0] J M r) := by
  obtain ⟨n, o, z, q, f, h⟩ := h
  exact agi_ok (qX7_clearBuffer l I L) (qX8_clearBuffer l J M) (by rw [mu_0 (by decide), mu_self]) (h.b5.trans h.j6.symm) h.clear
theorem ag_firstError (l : Launch) {I J : IM} (h : SimE I J) (L M : LM) : AgI (fun r => KX7_firstError l [.ref 0] I L r) (fun _ _ _ => False) [] (fun r => KX8_firstError l [.ref 0] J M r) := by
  obtain ⟨n, o, z, q, f, h⟩ := h
  obtain ⟨J2, M2, hJ, hR⟩ := qX8_firstError l h.n5 h.n0 h.q6 h.jd h.j6 h.jf M
  exact agi_ok (qX7_firstError l h.n5 h.q6 h.d h.b5 h.bf L) hR (by rw [hJ.2 7 (by decide), q7]) rfl ((h.SC rdM_SC).t7 0 |>.RF hJ).e
theorem ag_put (l : Launch) (hlt : l.stackTraces = false) {I J : IM} (h : SimE I J) (x : Int32) (L M : LM) : AgI (fun r => KX7_put l [.ref 0, .int x] I L r) (fun E => TX7_put l [.ref 0, .int x] I L E) [exB, exA] (fun r => KX8_put l [.ref 0, .int x] J M r) := by
  obtain ⟨n, o, z, q, f, h⟩ := h
  rcases ouR_or x 8 (by decide) with ⟨s, hs, rfl⟩ | e
  · by_cases hw : rdW n f q
    · obtain ⟨J2, M2, hJ, hR⟩ := qX8_put l hs h.n5 h.n0 h.q6 h.z6 h.jd h.j2 h.j6 h.jf hw M
      have hb := rdB_FA (f := f) h.n5 h.q6
      have h2 : Sim (rdM I n (rdB n f q).2) J2 n o z q f := ((h.SC rdM_SC).t7 0).RF hJ
      have hK := qX7_put l hs h.n5 h.q6 h.o6 h.z6 h.d h.b5 h.bf h.h1 h.h2 L hw
      obtain ⟨e1, o', z', hS⟩ := h2.put hs hb.1 hb.2
      exact agi_ok hK hR (by rw [mu_0 (by decide), rg_ne (by decide), svR_0 (by decide), hJ.2 7 (by decide), q7]) (by rw [e1]) hS.e
    · obtain ⟨J2, M2, hJ, hR⟩ := vX8f_put l hs h.n5 h.n0 h.q6 h.jd h.j6 h.jf hw M
      have h2 : Sim (rdM I n (rdB n f q).2) J2 n o z q f := ((h.SC rdM_SC).t7 0).RF hJ
      exact agi_th h2 1 rfl (xX7_putW l hlt hs h.n5 h.q6 h.d h.b5 h.bf L hw) hR
  · exact agi_th h 0 rfl (xX7_putD l hlt e I L) (xX8_put l e J M)
theorem ag_take (l : Launch) (hlt : l.stackTraces = false) {I J : IM} (h : SimE I J) (x : Int32) (L M : LM) : AgI (fun r => KX7_take l [.ref 0, .int x] I L r) (fun E => TX7_take l [.ref 0, .int x] I L E) [exB] (fun r => KX8_take l [.ref 0, .int x] J M r) := by
  obtain ⟨n, o, z, q, f, h⟩ := h
  rcases ouR_or x 2 (by decide) with ⟨k, hk, rfl⟩ | e
  · obtain ⟨e1, hs⟩ := h.take hk
    exact agi_ok (qX7_take l hk I L) (qX8_take l hk h.n5 h.jd M) (by unfold tkR; rw [mu_ne _ _ (by decide), rg_ne (by decide), q7]) (by rw [e1]) hs.e
  · exact agi_th h 0 rfl (xX7_take l hlt e I L) (xX8_take l e J M)
theorem ag_restore (l : Launch) (hlt : l.stackTraces = false) {I J : IM} (h : SimE I J) (x : Int32) (L M : LM) : AgI (fun r => KX7_restore l [.ref 0, .int x] I L r) (fun E => TX7_restore l [.ref 0, .int x] I L E) [exB, exS] (fun r => KX8_restore l [.ref 0, .int x] J M r) := by
  obtain ⟨n, o, z, q, f, h⟩ := h
  rcases ouR_or x 2 (by decide) with ⟨k, hk, rfl⟩ | e
  · have e4 := (h.2.2.2.1 k hk).1
    by_cases e : J 4 k = 0
    · exact agi_th h 1 rfl (xX7_restoreT l hlt hk (e4.trans e) L) (vX8f_restore l hk e M)
    · obtain ⟨m, o', z', m5, m1, e1, hs⟩ := h.restore hk e
      exact agi_ok (qX7_restore l hk h.o6 h.z6 h.h1 h.h2 (by rw [e4]; exact e) L) (qX8_restore l hk m5 h.z6 e h.j2 m1 M) (by unfold rsK; rw [if_neg (by omega), if_neg (by omega), svR_0 (by decide), q7]) (by rw [e1]) hs.e
  · exact agi_th h 0 rfl (xX7_restoreD l hlt e I L) (xX8_restore l e J M)
theorem ag_undo (l : Launch) (hlt : l.stackTraces = false) {I J : IM} (h : SimE I J) (L M : LM) : AgI (fun r => KX7_undo l [.ref 0] I L r) (fun E => TX7_undo l [.ref 0] I L E) [exS] (fun r => KX8_undo l [.ref 0] J M r) := by
  obtain ⟨n, o, z, q, f, h⟩ := h
  by_cases e : z = 0
  · exact agi_th h 0 rfl (xX7_undo l hlt (by rw [h.h2, e]; rfl) L) (xX8_undo l (by rw [h.j2, e]; rfl) M)
  · obtain ⟨m, hs⟩ := h.undo (by omega)
    exact agi_ok (qX7_undo l h.o6 h.z6 (by omega) h.h1 h.h2 L) (qX8_undo l h.z6 (by omega) h.j2 M) (by unfold unR; rw [rg_ne (by decide), mu_0 (by decide), q7]) rfl hs.e
theorem ag_coefficient (l : Launch) (hlt : l.stackTraces = false) {I J : IM} (h : SimE I J) (x y : Int32) (L M : LM) : AgI (fun r => KX7_coefficient l [.ref 0, .int x, .int y] I L r) (fun E => TX7_coefficient l [.ref 0, .int x, .int y] I L E) [exB] (fun r => KX8_coefficient l [.ref 0, .int x, .int y] J M r) := by
  obtain ⟨n, o, z, q, f, h⟩ := h
  have hB := (pow_le32 n h.n5).1
  rcases ou2_or x y (a := 8) (b := 2 ^ n) (by decide) (by omega) with ⟨s, b, hs, hb, rfl, rfl⟩ | e
  · exact agi_ok (qX7_coefficient l hs hb h.n5 h.d L) (qX8_coefficient l hs hb h.n5 h.jd M) q7 ((h.fr s hs).1 b (by omega)) (h.t7 0).e
  · exact agi_th h 0 rfl (xX7_coefficient l hlt h.n5 e h.d L) (xX8_coefficient l e h.n5 h.jd M)
theorem ag_form (l : Launch) (hlt : l.stackTraces = false) {I J : IM} (h : SimE I J) (x y : Int32) (L M : LM) : AgI (fun r => KX7_form l [.ref 0, .int x, .int y] I L r) (fun E => TX7_form l [.ref 0, .int x, .int y] I L E) [exB, exA] (fun r => KX8_form l [.ref 0, .int x, .int y] J M r) := by
  obtain ⟨n, o, z, q, f, h⟩ := h
  rcases ouR_or x 8 (by decide) with ⟨s, hs, rfl⟩ | e
  · rcases ouR_or y 8 (by decide) with ⟨k, hk, rfl⟩ | e
    · exact agi_ok (qX7_form l hs hk I L) (qX8_form l hs hk h.n5 h.jd M) q7 (fa_pr (h.fr s hs) h.n5 hk) (h.t7 0).e
    · exact agi_th h 1 rfl (xX7_formV l hlt hs e I L) (zX8_form l hs e J M)
  · exact agi_th h 0 rfl (xX7_formD l hlt e I L) (xX8_form l e J M)
theorem ag_inner (l : Launch) (hlt : l.stackTraces = false) {I J : IM} (h : SimE I J) (x y : Int32) (L M : LM) : AgL (fun r => KX7_inner l [.ref 0, .int x, .int y] I L r) (fun E => TX7_inner l [.ref 0, .int x, .int y] I L E) [exB] (fun r => KX8_inner l [.ref 0, .int x, .int y] J M r) := by
  obtain ⟨n, o, z, q, f, h⟩ := h
  rcases ou2_or x y (a := 8) (b := 8) (by decide) (by decide) with ⟨a, b, ha, hb, rfl, rfl⟩ | e
  · exact ag_ok (va := Value.long) (vb := Value.long) (qX7_inner l ha hb h.n5 h.d L) (qX8_inner l ha hb h.n5 h.jd M) q7 (inC_cong (fun k hk => (h.sg k hk).1) (fun q hq => (h.fr a ha).1 q (pow_mono n h.n5 q hq)) (fun q hq => (h.fr b hb).1 q (pow_mono n h.n5 q hq))) (h.t7 0).e
  · exact ag_th (va := Value.long) (vb := Value.long) (x := 0) 0 rfl (xX7_inner l hlt e I L) (xX8_inner l e J M) (mu_self _ _ _ _) (h.t7 1).e
theorem ag_decomposable (l : Launch) (hlt : l.stackTraces = false) {I J : IM} (h : SimE I J) (x y : Int32) (L M : LM) : AgI (fun r => KX7_decomposable l [.ref 0, .int x, .int y] I L r) (fun E => TX7_decomposable l [.ref 0, .int x, .int y] I L E) [exB, exA] (fun r => KX8_decomposable l [.ref 0, .int x, .int y] J M r) := by
  obtain ⟨n, o, z, q, f, h⟩ := h
  rcases ouR_or x 8 (by decide) with ⟨s, hs, rfl⟩ | e
  · rcases ouR_or y 2 (by decide) with ⟨w, hw, rfl⟩ | e
    · obtain ⟨I2, L2, hI, hK⟩ := qX7_decomposable l hs hw h.n5 h.d h.vz L
      obtain ⟨J2, M2, hJ, hR⟩ := qX8_decomposable l hs hw h.n5 h.n0 h.jd (fa_SM (h.fr s hs)) M
      exact agi_ok hK hR (by rw [hJ.2 7 (by decide) (by decide), q7]) (by rw [fa_dt (h.fr s hs) h.n5, fa_db (h.fr s hs) h.n5]) (((h.SC hI).t7 0).RQ hJ).e
    · exact agi_th h 1 rfl (xX7_decomposableV l hlt hs (two_or e).1 (two_or e).2 I L) (zX8_decomposable l hs e J M)
  · exact agi_th h 0 rfl (xX7_decomposableD l hlt e I L) (xX8_decomposable l e J M)
theorem ag_factor (l : Launch) (hlt : l.stackTraces = false) {I J : IM} (h : SimE I J) (x y w : Int32) (L M : LM) : AgI (fun r => KX7_factor l [.ref 0, .int x, .int y, .int w] I L r) (fun E => TX7_factor l [.ref 0, .int x, .int y, .int w] I L E) [exB, exA] (fun r => KX8_factor l [.ref 0, .int x, .int y, .int w] J M r) := by
  obtain ⟨n, o, z, q, f, h⟩ := h
  have hn := h.n5
  rcases ou2_or x w (a := 8) (b := n) (by decide) (by omega) with ⟨s, d, hs, hd, rfl, rfl⟩ | e
  · rcases ouR_or y 5 (by decide) with ⟨p, hp, rfl⟩ | e
    · obtain ⟨I2, L2, hI, hK⟩ := qX7_factor l hs hp hd h.n5 h.d h.vz L
      obtain ⟨M2, hR⟩ := qX8_factor l hs hp hd h.n5 h.jd (fa_SM (h.fr s hs)) ct_ld M
      refine agi_ok hK hR q7 ?_ ((h.SC hI).t7 0).e
      rw [fa_ct (h.fr s hs) hn, fa_fa (h.fr s hs) hn (by omega)]
      rfl
    · exact agi_th h 1 rfl (xX7_factorV l hlt hs hd h.n5 e h.d L) (zX8_factor l hs hd h.n5 e h.jd M)
  · exact agi_th h 0 rfl (xX7_factorD l hlt h.n5 e h.d L) (xX8_factor l e h.n0 h.n5 h.jd M)
theorem ag_annihilator (l : Launch) (hlt : l.stackTraces = false) {I J : IM} (h : SimE I J) (x : Int32) (L M : LM) : AgI (fun r => KX7_annihilator l [.ref 0, .int x] I L r) (fun E => TX7_annihilator l [.ref 0, .int x] I L E) [exB] (fun r => KX8_annihilator l [.ref 0, .int x] J M r) := by
  obtain ⟨n, o, z, q, f, h⟩ := h
  rcases ouR_or x 8 (by decide) with ⟨s, hs, rfl⟩ | e
  · obtain ⟨I2, L2, hI, hK⟩ := qX7_annihilator l hs h.n5 h.d L
    obtain ⟨J2, M2, hJ, hR⟩ := qX8_annihilator l hs h.n5 h.n0 h.jd M
    exact agi_ok hK hR (by rw [hJ.2 7 (by decide) (by decide), q7]) (fa_an (h.fr s hs) h.n5) (((h.SC hI).t7 0).RQ hJ).e
  · exact agi_th h 0 rfl (xX7_annihilator l hlt e I L) (xX8_annihilator l e J M)
theorem ag_basis (l : Launch) (hlt : l.stackTraces = false) {I J : IM} (h : SimE I J) (x y w : Int32) (L M : LM) : AgI (fun r => KX7_basis l [.ref 0, .int x, .int y, .int w] I L r) (fun E => TX7_basis l [.ref 0, .int x, .int y, .int w] I L E) [exB, exA] (fun r => KX8_basis l [.ref 0, .int x, .int y, .int w] J M r) := by
  obtain ⟨n, o, z, q, f, h⟩ := h
  have hn := h.n5
  rcases ou2_or x w (a := 8) (b := n) (by decide) (by omega) with ⟨s, d, hs, hd, rfl, rfl⟩ | e
  · rcases ouR_or y 5 (by decide) with ⟨p, hp, rfl⟩ | e
    · obtain ⟨I2, L2, hI, hK⟩ := qX7_basis l hs hp hd h.n5 h.d L
      obtain ⟨J2, M2, hJ, hR⟩ := qX8_basis l hs hp hd h.n5 h.jd (fa_rw (h.fr s hs) h.n5) M
      exact agi_ok hK hR (by rw [hJ.2 7 (by decide) (by decide), q7]) (fa_ba (h.fr s hs) h.n5 (by omega) hd) (((h.SC hI).t7 0).RQ hJ).e
    · exact agi_th h 1 rfl (xX7_basisV l hlt hs hd h.n5 e h.d L) (zX8_basis l hs hd h.n5 e h.jd M)
  · exact agi_th h 0 rfl (xX7_basisD l hlt h.n5 e h.d L) (xX8_basis l e h.n0 h.n5 h.jd M)
theorem ag_refused (l : Launch) (hlt : l.stackTraces = false) {I J : IM} (h : SimE I J) (x y w : Int32) (L M : LM) : AgI (fun r => KX7_refused l [.ref 0, .int x, .int y, .int w] I L r) (fun E => TX7_refused l [.ref 0, .int x, .int y, .int w] I L E) [exB, exA] (fun r => KX8_refused l [.ref 0, .int x, .int y, .int w] J M r) := by
  obtain ⟨n, o, z, q, f, h⟩ := h
  rcases ou2_or y w (a := 8) (b := 8) (by decide) (by decide) with ⟨a, b, ha, hb, rfl, rfl⟩ | e
  · rcases ouR_or x 4 (by decide) with ⟨k, hk, rfl⟩ | e
    · obtain ⟨L2, hK⟩ := qX7_refused l hk ha hb h.n5 h.d L
      obtain ⟨M2, hR⟩ := qX8_refused l hk ha hb h.n5 h.jd M
      exact agi_ok hK hR q7 (by rw [show ftO (rfG I n k a b) (2 ^ n) = ftO (rfR J n k a b) (2 ^ n) from fsO_cong (fun j hj => by rw [St_rf h.1.1 ha hb j hj])]) (h.t7 0).e
    · exact agi_th h 1 rfl (xX7_refusedV l hlt ha hb e I L) (zX8_refused l ha hb e J M)
  · exact agi_th h 0 rfl (xX7_refusedD l hlt e I L) (xX8_refused l e J M)
theorem ag_compare (l : Launch) (hlt : l.stackTraces = false) {I J : IM} (h : SimE I J) (x y : Int32) (L M : LM) : AgI (fun r => KX7_compare l [.ref 0, .int x, .int y] I L r) (fun E => TX7_compare l [.ref 0, .int x, .int y] I L E) [exB] (fun r => KX8_compare l [.ref 0, .int x, .int y] J M r) := by
  obtain ⟨n, o, z, q, f, h⟩ := h
  rcases ou2_or x y (a := 8) (b := 8) (by decide) (by decide) with ⟨a, b, ha, hb, rfl, rfl⟩ | e
  · obtain ⟨L2, hK⟩ := qX7_compare l ha hb h.n5 h.d L
    obtain ⟨M2, hR⟩ := qX8_compare l ha hb h.n5 h.jd M
    exact agi_ok hK hR q7 (fa_cm (h.fr a ha) (h.fr b hb) h.n5) (h.t7 0).e
  · exact agi_th h 0 rfl (xX7_compare l hlt e I L) (xX8_compare l e J M)
theorem ag_count (l : Launch) (hlt : l.stackTraces = false) {I J : IM} (h : SimE I J) (x : Int32) (L M : LM) : AgI (fun r => KX7_count l [.ref 0, .int x] I L r) (fun E => TX7_count l [.ref 0, .int x] I L E) [exA] (fun r => KX8_count l [.ref 0, .int x] J M r) := by
  obtain ⟨n, o, z, q, f, h⟩ := h
  rcases cn_or x with ⟨k, hk, rfl⟩ | ⟨e, e1, e2⟩
  · obtain ⟨L2, hK⟩ := qX7_count l hk h.n5 h.d L
    obtain ⟨M2, hR⟩ := qX8_count l hk h.n5 h.n0 h.jd M
    exact agi_ok hK hR q7 (h.co hk) (h.t7 0).e
  · exact agi_th h 0 rfl (xX7_count l hlt e I L) (xX8_count l e1 e2 J M)
theorem ag_matrixAt (l : Launch) (hlt : l.stackTraces = false) {I J : IM} (h : SimE I J) (x y : Int32) (L M : LM) : AgI (fun r => KX7_matrixAt l [.ref 0, .int x, .int y] I L r) (fun E => TX7_matrixAt l [.ref 0, .int x, .int y] I L E) [exB] (fun r => KX8_matrixAt l [.ref 0, .int x, .int y] J M r) := by
  obtain ⟨n, o, z, q, f, h⟩ := h
  have hn := h.n5
  rcases ou2_or x y (a := n) (b := n) (by omega) (by omega) with ⟨r, c, hr, hc, rfl, rfl⟩ | e
  · exact agi_ok (qX7_matrixAt l hr hc h.n5 h.d L) (qX8_matrixAt l hr hc h.n5 h.jd M) q7 (by have := h.1.1.2.2.2.2.2.1 r (by omega) c (by omega); rw [show 1 + 12 + r = 13 + r by omega] at this; exact this) (h.t7 0).e
  · exact agi_th h 0 rfl (xX7_matrixAt l hlt h.n5 e h.d L) (xX8_matrixAt l e h.n0 h.n5 h.jd M)
theorem ag_density (l : Launch) (hlt : l.stackTraces = false) {I J : IM} (h : SimE I J) (x : Int32) (L M : LM) : AgF (fun r => KX7_density l [.ref 0, .int x] I L r) (fun E => TX7_density l [.ref 0, .int x] I L E) [exB] (fun r => KX8_density l [.ref 0, .int x] J M r) := by
  obtain ⟨n, o, z, q, f, h⟩ := h
  rcases ouR_or x 8 (by decide) with ⟨s, hs, rfl⟩ | e
  · exact ag_ok (va := Value.float) (vb := Value.float) (qX7_density l hs h.n5 h.d L) (qX8_density l hs h.n5 h.jd btw_ne M) q7 ⟨fa_de (h.fr s hs) h.n5, fa_deD (h.fr s hs) h.n5⟩ (h.t7 0).e
  · obtain ⟨y, hR⟩ := xX8_density l e J M
    exact ag_th (va := Value.float) (vb := Value.float) (x := 0) 0 rfl (xX7_density l hlt e I L) hR (mu_self _ _ _ _) (h.t7 1).e
theorem ag_share (l : Launch) (hlt : l.stackTraces = false) {I J : IM} (h : SimE I J) (x y : Int32) (L M : LM) : AgD (fun r => KX7_share l [.ref 0, .int x, .int y] I L r) (fun E => TX7_share l [.ref 0, .int x, .int y] I L E) [exB, exA] (fun r => KX8_share l [.ref 0, .int x, .int y] J M r) := by
  obtain ⟨n, o, z, q, f, h⟩ := h
  have hn := h.n5
  rcases ouR_or x 8 (by decide) with ⟨s, hs, rfl⟩ | e
  · rcases ouR_or y (n + 1) (by omega) with ⟨g, hg, rfl⟩ | e
    · have hf := h.fr s hs
      have hsh := fa_shG hf (gr := nI g) (pow_le32 n hn).1
      exact ag_ok (va := Value.double) (vb := Value.double) (qX7_share l hs (by omega) h.n5 h.d (fa_okF hf hn).1 L) (qX8_share l hs (by omega) h.n5 h.jd (shG_ok hsh) M) q7 ⟨fa_sh hf hn, shG_ok hsh, shG_self hsh⟩ (h.t7 0).e
    · obtain ⟨v, hR⟩ := zX8_share l hs h.n5 e h.jd M
      exact ag_th (va := Value.double) (vb := Value.double) (x := 0) 1 rfl (xX7_shareV l hlt hs h.n5 e h.d L) hR (mu_self _ _ _ _) (h.t7 2).e
  · obtain ⟨v, hR⟩ := xX8_share l e J M
    exact ag_th (va := Value.double) (vb := Value.double) (x := 0) 0 rfl (xX7_shareD l hlt e I L) hR (mu_self _ _ _ _) (h.t7 1).e
theorem ag_digest (l : Launch) {I J : IM} (h : SimE I J) (L M : LM) : AgL (fun r => KX7_digest l [.ref 0] I L r) (fun _ _ _ => False) [] (fun r => KX8_digest l [.ref 0] J M r) := by
  obtain ⟨n, o, z, q, f, h⟩ := h
  obtain ⟨I2, L2, hI, hK⟩ := qX7_digest l h.n2 h.n5 h.q6 h.d h.b5 h.vz h.shOK L
  obtain ⟨J2, M2, hJ, hR⟩ := qX8_digest l h.n5 h.n2 h.q6 h.jd h.j6 (fun s hs => fa_ok (h.fr s hs) h.n5) M
  exact ag_ok (va := Value.long) (vb := Value.long) hK hR (by rw [hJ.2 7 (by decide) (by decide), q7]) h.dg (((h.SC hI).t7 0).RQ hJ).e
