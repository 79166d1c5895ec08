/-! THE LAW's HELPERS: their contracts -/
theorem lk_A : Cond.classLink RL 13 exA ∈ WB := by decide +kernel
theorem lk_B : Cond.classLink RL 19 exB ∈ WB := by decide +kernel
theorem lk_S : Cond.classLink RL 31 exS ∈ WB := by decide +kernel
theorem cs_A : Cond.castable exA exA ∈ nwL := by decide
theorem cs_B : Cond.castable exB exB ∈ nwL := by decide
theorem cs_S : Cond.castable exS exS ∈ nwL := by decide
/-- the helper's start -/
def HpP (D : va_G) (cy : Nat → ClassId) (h o : Nat) (v0 : Int64) (I : IM) (L : LM) (U : State) : Prop := wd D cy kdC (adH h) 181 I L U.heap ∧ OutL cy o v0 U.heap ∧ va_K D vwCl (tysC cy) U ∧ LEX h U
def HpPD (D : va_G) (cy : Nat → ClassId) (h o : Nat) (v0 : UInt64) (I : IM) (L : LM) (U : State) : Prop := wd D cy kdC (adH h) 181 I L U.heap ∧ OutD cy o v0 U.heap ∧ va_K D vwCl (tysC cy) U ∧ LEX h U
theorem sVL_begin : SitV RL 7 yX7_begin cX7_begin 3 (some .int) 1 := ⟨⟨(wb_3 70 (by decide +kernel) rfl), (wb_3 71 (by decide +kernel) rfl), (wb_3 72 (by decide +kernel) rfl), (wb_1 1 (by decide +kernel) rfl), (wb_3 73 (by decide +kernel) rfl)⟩, by decide +kernel⟩
abbrev rmL_begin : Room := { frames := 7, cells := 1, slots := 6, locals := 126 }
abbrev hhL_begin : List (Nat × Nat × Nat × Nat) := [(0, 9, 12, 13)]
theorem hc_begin (l : Launch) {x : Int32} {I I2 : IM} {L L2 : LM} {code : Nat} {r : Int32} (hOC : OC (fun r => KX7_begin l [.ref 0, .int x] I L r) (fun E => TX7_begin l [.ref 0, .int x] I L E) [exA] code (some (.int r)) I2 L2) (D : va_G) (cy : Nat → ClassId) (h o : Nat) (v0 : Int64) (hoh : h + 181 ≤ o) : vx_Met l yL_begin (Cond.codeWith yL_begin cL_begin 4 (some .int) hhL_begin :: WB) rmL_begin (va_Pc [.ref h, .int x, .ref o] (HpP D cy h o v0 I L)) (HpQ D cy h o code r.toInt64 I2 L2) (fun _ _ _ => False) 1 6 (HpF h o) := by
  refine vx_ofWH (cc := cL_begin) (maxL := 4) (ret := some .int) (hh := hhL_begin) (by decide +kernel) rfl ?_
  intro p e s m args below meth c s₁ B hml hv
  obtain ⟨rfl, hW, hO, hK, hEX⟩ := hv
  have hts0 := atoms_spec (ws := Cond.codeWith yL_begin cL_begin 4 (some .int) hhL_begin :: WB) B.pre
  have hts : ∀ w ∈ WB, w.before _ s = true := fun w hw => hts0 w (List.mem_cons_of_mem _ hw)
  have htb : c.exceptionTable.toList = tableOf hhL_begin := vx_table (x := yL_begin) B (hts0 _ List.mem_cons_self)
  have hown : s.vm.findClass RL = some m.cls := findClass_of_methodNamed B.named
  have hx := B.exec
  have hb := B.bytes
  have hl := lv_entry ([.ref h, .int x, .ref o] : List Value) (n := 4) (Nat.le_of_ble_eq_true rfl)
  rw [lg_entry_eq]
  generalize (lg_sl ([.ref h, .int x, .ref o] : List Value) ++ List.replicate (4 - (lg_sl ([.ref h, .int x, .ref o] : List Value)).length) Slot.unset).toArray = ls at hl ⊢
  have hl : lv_has ls 4 [(0, .ref h), (1, .int x), (2, .ref o)] := hl
  refine lv_aload_n hx hb (show decode cL_begin 0 = .ok (.aload_n 2, 1) by decide +kernel) rfl (lv_at hl 2 rfl) ?_
  refine lv_iconst (v := 0) hx hb (show decode cL_begin 1 = .ok (.iconst 0, 1) by decide +kernel) (by decide) ?_
  refine lv_aload_n hx hb (show decode cL_begin 2 = .ok (.aload_n 0, 1) by decide +kernel) rfl (lv_at hl 0 rfl) ?_
  refine lv_iload_n hx hb (show decode cL_begin 3 = .ok (.iload_n 1, 1) by decide +kernel) rfl (lv_at hl 1 rfl) ?_
  have hX : ∀ (i : Nat) (E : String), ([exA] : List String)[i]? = some E → HdX cL_begin 4 s 4 c.exceptionTable.toList i E := by
    intro i E hE
    rw [htb]
    match i, hE with
    | 0, hE => cases hE; exact ⟨[], ⟨0, 9, 12, 13⟩, [], rfl, fun z hz => absurd hz List.not_mem_nil, by decide, by decide, lk_A, cs_A, 13, Or.inl ⟨3, by decide +kernel, by decide, rfl⟩, by decide +kernel, by decide +kernel⟩
    | k + 1, hE => simp at hE
  exact hp_main (pcI := 4) (pcE := 15) (off := 6) (T := TX7) (av := [.int x]) (v0 := v0) ⟨hx, hb, hml, hown, hts, hK⟩ B.returns B.notSynchronized hEX hW hO hoh rfl sVL_begin rfl (Nat.le_of_ble_eq_true rfl) hOC rfl (fun _ _ _ => rfl) ⟨Nat.le_of_ble_eq_true rfl, Nat.le_of_ble_eq_true rfl⟩ hl hX (show decode cL_begin 4 = .ok (.invokevirtual 7, 3) by decide +kernel) (show decode cL_begin 7 = .ok (.i2l, 1) by decide +kernel) (show decode cL_begin 8 = .ok (.lastore, 1) by decide +kernel) (show decode cL_begin 9 = .ok (.goto 6, 3) by decide +kernel) (by decide) (show decode cL_begin 15 = .ok (.iconst 0, 1) by decide +kernel) (show decode cL_begin 16 = .ok (.ireturn, 1) by decide +kernel)
theorem sVL_sign : SitV RL 15 yX7_sign cX7_sign 4 (some .int) 2 := ⟨⟨(wb_3 93 (by decide +kernel) rfl), (wb_3 94 (by decide +kernel) rfl), (wb_3 95 (by decide +kernel) rfl), (wb_1 1 (by decide +kernel) rfl), (wb_3 96 (by decide +kernel) rfl)⟩, by decide +kernel⟩
abbrev rmL_sign : Room := { frames := 8, cells := 1, slots := 6, locals := 127 }
abbrev hhL_sign : List (Nat × Nat × Nat × Nat) := [(0, 10, 13, 19), (0, 10, 17, 13)]
theorem hc_sign (l : Launch) {x y : Int32} {I I2 : IM} {L L2 : LM} {code : Nat} {r : Int32} (hOC : OC (fun r => KX7_sign l [.ref 0, .int x, .int y] I L r) (fun E => TX7_sign l [.ref 0, .int x, .int y] I L E) [exB, exA] code (some (.int r)) I2 L2) (D : va_G) (cy : Nat → ClassId) (h o : Nat) (v0 : Int64) (hoh : h + 181 ≤ o) : vx_Met l yL_sign (Cond.codeWith yL_sign cL_sign 5 (some .int) hhL_sign :: WB) rmL_sign (va_Pc [.ref h, .int x, .int y, .ref o] (HpP D cy h o v0 I L)) (HpQ D cy h o code r.toInt64 I2 L2) (fun _ _ _ => False) 1 6 (HpF h o) := by
  refine vx_ofWH (cc := cL_sign) (maxL := 5) (ret := some .int) (hh := hhL_sign) (by decide +kernel) rfl ?_
  intro p e s m args below meth c s₁ B hml hv
  obtain ⟨rfl, hW, hO, hK, hEX⟩ := hv
  have hts0 := atoms_spec (ws := Cond.codeWith yL_sign cL_sign 5 (some .int) hhL_sign :: WB) B.pre
  have hts : ∀ w ∈ WB, w.before _ s = true := fun w hw => hts0 w (List.mem_cons_of_mem _ hw)
  have htb : c.exceptionTable.toList = tableOf hhL_sign := vx_table (x := yL_sign) B (hts0 _ List.mem_cons_self)
  have hown : s.vm.findClass RL = some m.cls := findClass_of_methodNamed B.named
  have hx := B.exec
  have hb := B.bytes
  have hl := lv_entry ([.ref h, .int x, .int y, .ref o] : List Value) (n := 5) (Nat.le_of_ble_eq_true rfl)
  rw [lg_entry_eq]
  generalize (lg_sl ([.ref h, .int x, .int y, .ref o] : List Value) ++ List.replicate (5 - (lg_sl ([.ref h, .int x, .int y, .ref o] : List Value)).length) Slot.unset).toArray = ls at hl ⊢
  have hl : lv_has ls 5 [(0, .ref h), (1, .int x), (2, .int y), (3, .ref o)] := hl
  refine lv_aload_n hx hb (show decode cL_sign 0 = .ok (.aload_n 3, 1) by decide +kernel) rfl (lv_at hl 3 rfl) ?_
  refine lv_iconst (v := 0) hx hb (show decode cL_sign 1 = .ok (.iconst 0, 1) by decide +kernel) (by decide) ?_
  refine lv_aload_n hx hb (show decode cL_sign 2 = .ok (.aload_n 0, 1) by decide +kernel) rfl (lv_at hl 0 rfl) ?_
  refine lv_iload_n hx hb (show decode cL_sign 3 = .ok (.iload_n 1, 1) by decide +kernel) rfl (lv_at hl 1 rfl) ?_
  refine lv_iload_n hx hb (show decode cL_sign 4 = .ok (.iload_n 2, 1) by decide +kernel) rfl (lv_at hl 2 rfl) ?_
  have hX : ∀ (i : Nat) (E : String), ([exB, exA] : List String)[i]? = some E → HdX cL_sign 5 s 5 c.exceptionTable.toList i E := by
    intro i E hE
    rw [htb]
    match i, hE with
    | 0, hE => cases hE; exact ⟨[], ⟨0, 10, 13, 19⟩, [⟨0, 10, 17, 13⟩], rfl, fun z hz => absurd hz List.not_mem_nil, by decide, by decide, lk_B, cs_B, 15, Or.inr ⟨4, by decide +kernel, by decide, rfl⟩, by decide +kernel, by decide +kernel⟩
    | 1, hE => cases hE; exact ⟨[⟨0, 10, 13, 19⟩], ⟨0, 10, 17, 13⟩, [], rfl, fun z hz => by rw [List.mem_singleton.mp hz]; exact ⟨by decide, exB, lk_B, hEX.2.1⟩, by decide, by decide, lk_A, cs_A, 19, Or.inr ⟨4, by decide +kernel, by decide, rfl⟩, by decide +kernel, by decide +kernel⟩
    | k + 2, hE => simp at hE
  exact hp_main (pcI := 5) (pcE := 21) (off := 11) (T := TX7) (av := [.int x, .int y]) (v0 := v0) ⟨hx, hb, hml, hown, hts, hK⟩ B.returns B.notSynchronized hEX hW hO hoh rfl sVL_sign rfl (Nat.le_of_ble_eq_true rfl) hOC rfl (fun _ _ _ => rfl) ⟨Nat.le_of_ble_eq_true rfl, Nat.le_of_ble_eq_true rfl⟩ hl hX (show decode cL_sign 5 = .ok (.invokevirtual 15, 3) by decide +kernel) (show decode cL_sign 8 = .ok (.i2l, 1) by decide +kernel) (show decode cL_sign 9 = .ok (.lastore, 1) by decide +kernel) (show decode cL_sign 10 = .ok (.goto 11, 3) by decide +kernel) (by decide) (show decode cL_sign 21 = .ok (.iconst 0, 1) by decide +kernel) (show decode cL_sign 22 = .ok (.ireturn, 1) by decide +kernel)
theorem sVL_matrix : SitV RL 21 yX7_matrix cX7_matrix 5 (some .int) 3 := ⟨⟨(wb_3 106 (by decide +kernel) rfl), (wb_3 107 (by decide +kernel) rfl), (wb_3 108 (by decide +kernel) rfl), (wb_1 1 (by decide +kernel) rfl), (wb_3 109 (by decide +kernel) rfl)⟩, by decide +kernel⟩
abbrev rmL_matrix : Room := { frames := 8, cells := 1, slots := 6, locals := 128 }
abbrev hhL_matrix : List (Nat × Nat × Nat × Nat) := [(0, 12, 15, 19), (0, 12, 19, 13)]
theorem hc_matrix (l : Launch) {x y w : Int32} {I I2 : IM} {L L2 : LM} {code : Nat} {r : Int32} (hOC : OC (fun r => KX7_matrix l [.ref 0, .int x, .int y, .int w] I L r) (fun E => TX7_matrix l [.ref 0, .int x, .int y, .int w] I L E) [exB, exA] code (some (.int r)) I2 L2) (D : va_G) (cy : Nat → ClassId) (h o : Nat) (v0 : Int64) (hoh : h + 181 ≤ o) : vx_Met l yL_matrix (Cond.codeWith yL_matrix cL_matrix 6 (some .int) hhL_matrix :: WB) rmL_matrix (va_Pc [.ref h, .int x, .int y, .int w, .ref o] (HpP D cy h o v0 I L)) (HpQ D cy h o code r.toInt64 I2 L2) (fun _ _ _ => False) 1 6 (HpF h o) := by
  refine vx_ofWH (cc := cL_matrix) (maxL := 6) (ret := some .int) (hh := hhL_matrix) (by decide +kernel) rfl ?_
  intro p e s m args below meth c s₁ B hml hv
  obtain ⟨rfl, hW, hO, hK, hEX⟩ := hv
  have hts0 := atoms_spec (ws := Cond.codeWith yL_matrix cL_matrix 6 (some .int) hhL_matrix :: WB) B.pre
  have hts : ∀ w ∈ WB, w.before _ s = true := fun w hw => hts0 w (List.mem_cons_of_mem _ hw)
  have htb : c.exceptionTable.toList = tableOf hhL_matrix := vx_table (x := yL_matrix) B (hts0 _ List.mem_cons_self)
  have hown : s.vm.findClass RL = some m.cls := findClass_of_methodNamed B.named
  have hx := B.exec
  have hb := B.bytes
  have hl := lv_entry ([.ref h, .int x, .int y, .int w, .ref o] : List Value) (n := 6) (Nat.le_of_ble_eq_true rfl)
  rw [lg_entry_eq]
  generalize (lg_sl ([.ref h, .int x, .int y, .int w, .ref o] : List Value) ++ List.replicate (6 - (lg_sl ([.ref h, .int x, .int y, .int w, .ref o] : List Value)).length) Slot.unset).toArray = ls at hl ⊢
  have hl : lv_has ls 6 [(0, .ref h), (1, .int x), (2, .int y), (3, .int w), (4, .ref o)] := hl
  refine lv_aload hx hb (show decode cL_matrix 0 = .ok (.aload 4, 2) by decide +kernel) (lv_at hl 4 rfl) ?_
  refine lv_iconst (v := 0) hx hb (show decode cL_matrix 2 = .ok (.iconst 0, 1) by decide +kernel) (by decide) ?_
  refine lv_aload_n hx hb (show decode cL_matrix 3 = .ok (.aload_n 0, 1) by decide +kernel) rfl (lv_at hl 0 rfl) ?_
  refine lv_iload_n hx hb (show decode cL_matrix 4 = .ok (.iload_n 1, 1) by decide +kernel) rfl (lv_at hl 1 rfl) ?_
  refine lv_iload_n hx hb (show decode cL_matrix 5 = .ok (.iload_n 2, 1) by decide +kernel) rfl (lv_at hl 2 rfl) ?_
  refine lv_iload_n hx hb (show decode cL_matrix 6 = .ok (.iload_n 3, 1) by decide +kernel) rfl (lv_at hl 3 rfl) ?_
  have hX : ∀ (i : Nat) (E : String), ([exB, exA] : List String)[i]? = some E → HdX cL_matrix 6 s 7 c.exceptionTable.toList i E := by
    intro i E hE
    rw [htb]
    match i, hE with
    | 0, hE => cases hE; exact ⟨[], ⟨0, 12, 15, 19⟩, [⟨0, 12, 19, 13⟩], rfl, fun z hz => absurd hz List.not_mem_nil, by decide, by decide, lk_B, cs_B, 17, Or.inr ⟨5, by decide +kernel, by decide, rfl⟩, by decide +kernel, by decide +kernel⟩
    | 1, hE => cases hE; exact ⟨[⟨0, 12, 15, 19⟩], ⟨0, 12, 19, 13⟩, [], rfl, fun z hz => by rw [List.mem_singleton.mp hz]; exact ⟨by decide, exB, lk_B, hEX.2.1⟩, by decide, by decide, lk_A, cs_A, 21, Or.inr ⟨5, by decide +kernel, by decide, rfl⟩, by decide +kernel, by decide +kernel⟩
    | k + 2, hE => simp at hE
  exact hp_main (pcI := 7) (pcE := 23) (off := 11) (T := TX7) (av := [.int x, .int y, .int w]) (v0 := v0) ⟨hx, hb, hml, hown, hts, hK⟩ B.returns B.notSynchronized hEX hW hO hoh rfl sVL_matrix rfl (Nat.le_of_ble_eq_true rfl) hOC rfl (fun _ _ _ => rfl) ⟨Nat.le_of_ble_eq_true rfl, Nat.le_of_ble_eq_true rfl⟩ hl hX (show decode cL_matrix 7 = .ok (.invokevirtual 21, 3) by decide +kernel) (show decode cL_matrix 10 = .ok (.i2l, 1) by decide +kernel) (show decode cL_matrix 11 = .ok (.lastore, 1) by decide +kernel) (show decode cL_matrix 12 = .ok (.goto 11, 3) by decide +kernel) (by decide) (show decode cL_matrix 23 = .ok (.iconst 0, 1) by decide +kernel) (show decode cL_matrix 24 = .ok (.ireturn, 1) by decide +kernel)
theorem sVL_set : SitV RL 25 yX7_set cX7_set 5 (some .int) 3 := ⟨⟨(wb_3 117 (by decide +kernel) rfl), (wb_3 118 (by decide +kernel) rfl), (wb_3 119 (by decide +kernel) rfl), (wb_1 1 (by decide +kernel) rfl), (wb_3 120 (by decide +kernel) rfl)⟩, by decide +kernel⟩
abbrev rmL_set : Room := { frames := 8, cells := 1, slots := 6, locals := 128 }
abbrev hhL_set : List (Nat × Nat × Nat × Nat) := [(0, 12, 15, 19), (0, 12, 19, 13)]
theorem hc_set (l : Launch) {x y w : Int32} {I I2 : IM} {L L2 : LM} {code : Nat} {r : Int32} (hOC : OC (fun r => KX7_set l [.ref 0, .int x, .int y, .int w] I L r) (fun E => TX7_set l [.ref 0, .int x, .int y, .int w] I L E) [exB, exA] code (some (.int r)) I2 L2) (D : va_G) (cy : Nat → ClassId) (h o : Nat) (v0 : Int64) (hoh : h + 181 ≤ o) : vx_Met l yL_set (Cond.codeWith yL_set cL_set 6 (some .int) hhL_set :: WB) rmL_set (va_Pc [.ref h, .int x, .int y, .int w, .ref o] (HpP D cy h o v0 I L)) (HpQ D cy h o code r.toInt64 I2 L2) (fun _ _ _ => False) 1 6 (HpF h o) := by
  refine vx_ofWH (cc := cL_set) (maxL := 6) (ret := some .int) (hh := hhL_set) (by decide +kernel) rfl ?_
  intro p e s m args below meth c s₁ B hml hv
  obtain ⟨rfl, hW, hO, hK, hEX⟩ := hv
  have hts0 := atoms_spec (ws := Cond.codeWith yL_set cL_set 6 (some .int) hhL_set :: WB) B.pre
  have hts : ∀ w ∈ WB, w.before _ s = true := fun w hw => hts0 w (List.mem_cons_of_mem _ hw)
  have htb : c.exceptionTable.toList = tableOf hhL_set := vx_table (x := yL_set) B (hts0 _ List.mem_cons_self)
  have hown : s.vm.findClass RL = some m.cls := findClass_of_methodNamed B.named
  have hx := B.exec
  have hb := B.bytes
  have hl := lv_entry ([.ref h, .int x, .int y, .int w, .ref o] : List Value) (n := 6) (Nat.le_of_ble_eq_true rfl)
  rw [lg_entry_eq]
  generalize (lg_sl ([.ref h, .int x, .int y, .int w, .ref o] : List Value) ++ List.replicate (6 - (lg_sl ([.ref h, .int x, .int y, .int w, .ref o] : List Value)).length) Slot.unset).toArray = ls at hl ⊢
  have hl : lv_has ls 6 [(0, .ref h), (1, .int x), (2, .int y), (3, .int w), (4, .ref o)] := hl
  refine lv_aload hx hb (show decode cL_set 0 = .ok (.aload 4, 2) by decide +kernel) (lv_at hl 4 rfl) ?_
  refine lv_iconst (v := 0) hx hb (show decode cL_set 2 = .ok (.iconst 0, 1) by decide +kernel) (by decide) ?_
  refine lv_aload_n hx hb (show decode cL_set 3 = .ok (.aload_n 0, 1) by decide +kernel) rfl (lv_at hl 0 rfl) ?_
  refine lv_iload_n hx hb (show decode cL_set 4 = .ok (.iload_n 1, 1) by decide +kernel) rfl (lv_at hl 1 rfl) ?_
  refine lv_iload_n hx hb (show decode cL_set 5 = .ok (.iload_n 2, 1) by decide +kernel) rfl (lv_at hl 2 rfl) ?_
  refine lv_iload_n hx hb (show decode cL_set 6 = .ok (.iload_n 3, 1) by decide +kernel) rfl (lv_at hl 3 rfl) ?_
  have hX : ∀ (i : Nat) (E : String), ([exB, exA] : List String)[i]? = some E → HdX cL_set 6 s 7 c.exceptionTable.toList i E := by
    intro i E hE
    rw [htb]
    match i, hE with
    | 0, hE => cases hE; exact ⟨[], ⟨0, 12, 15, 19⟩, [⟨0, 12, 19, 13⟩], rfl, fun z hz => absurd hz List.not_mem_nil, by decide, by decide, lk_B, cs_B, 17, Or.inr ⟨5, by decide +kernel, by decide, rfl⟩, by decide +kernel, by decide +kernel⟩
    | 1, hE => cases hE; exact ⟨[⟨0, 12, 15, 19⟩], ⟨0, 12, 19, 13⟩, [], rfl, fun z hz => by rw [List.mem_singleton.mp hz]; exact ⟨by decide, exB, lk_B, hEX.2.1⟩, by decide, by decide, lk_A, cs_A, 21, Or.inr ⟨5, by decide +kernel, by decide, rfl⟩, by decide +kernel, by decide +kernel⟩
    | k + 2, hE => simp at hE
  exact hp_main (pcI := 7) (pcE := 23) (off := 11) (T := TX7) (av := [.int x, .int y, .int w]) (v0 := v0) ⟨hx, hb, hml, hown, hts, hK⟩ B.returns B.notSynchronized hEX hW hO hoh rfl sVL_set rfl (Nat.le_of_ble_eq_true rfl) hOC rfl (fun _ _ _ => rfl) ⟨Nat.le_of_ble_eq_true rfl, Nat.le_of_ble_eq_true rfl⟩ hl hX (show decode cL_set 7 = .ok (.invokevirtual 25, 3) by decide +kernel) (show decode cL_set 10 = .ok (.i2l, 1) by decide +kernel) (show decode cL_set 11 = .ok (.lastore, 1) by decide +kernel) (show decode cL_set 12 = .ok (.goto 11, 3) by decide +kernel) (by decide) (show decode cL_set 23 = .ok (.iconst 0, 1) by decide +kernel) (show decode cL_set 24 = .ok (.ireturn, 1) by decide +kernel)
theorem sVL_sum : SitV RL 28 yX7_sum cX7_sum 4 (some .int) 3 := ⟨⟨(wb_3 131 (by decide +kernel) rfl), (wb_3 132 (by decide +kernel) rfl), (wb_3 133 (by decide +kernel) rfl), (wb_1 1 (by decide +kernel) rfl), (wb_3 134 (by decide +kernel) rfl)⟩, by decide +kernel⟩
abbrev rmL_sum : Room := { frames := 9, cells := 1, slots := 6, locals := 151 }
abbrev hhL_sum : List (Nat × Nat × Nat × Nat) := [(0, 12, 15, 19), (0, 12, 19, 31)]
theorem hc_sum (l : Launch) {x y w : Int32} {I I2 : IM} {L L2 : LM} {code : Nat} {r : Int32} (hOC : OC (fun r => KX7_sum l [.ref 0, .int x, .int y, .int w] I L r) (fun E => TX7_sum l [.ref 0, .int x, .int y, .int w] I L E) [exB, exS] code (some (.int r)) I2 L2) (D : va_G) (cy : Nat → ClassId) (h o : Nat) (v0 : Int64) (hoh : h + 181 ≤ o) : vx_Met l yL_sum (Cond.codeWith yL_sum cL_sum 6 (some .int) hhL_sum :: WB) rmL_sum (va_Pc [.ref h, .int x, .int y, .int w, .ref o] (HpP D cy h o v0 I L)) (HpQ D cy h o code r.toInt64 I2 L2) (fun _ _ _ => False) 1 6 (HpF h o) := by
  refine vx_ofWH (cc := cL_sum) (maxL := 6) (ret := some .int) (hh := hhL_sum) (by decide +kernel) rfl ?_
  intro p e s m args below meth c s₁ B hml hv
  obtain ⟨rfl, hW, hO, hK, hEX⟩ := hv
  have hts0 := atoms_spec (ws := Cond.codeWith yL_sum cL_sum 6 (some .int) hhL_sum :: WB) B.pre
  have hts : ∀ w ∈ WB, w.before _ s = true := fun w hw => hts0 w (List.mem_cons_of_mem _ hw)
  have htb : c.exceptionTable.toList = tableOf hhL_sum := vx_table (x := yL_sum) B (hts0 _ List.mem_cons_self)
  have hown : s.vm.findClass RL = some m.cls := findClass_of_methodNamed B.named
  have hx := B.exec
  have hb := B.bytes
  have hl := lv_entry ([.ref h, .int x, .int y, .int w, .ref o] : List Value) (n := 6) (Nat.le_of_ble_eq_true rfl)
  rw [lg_entry_eq]
  generalize (lg_sl ([.ref h, .int x, .int y, .int w, .ref o] : List Value) ++ List.replicate (6 - (lg_sl ([.ref h, .int x, .int y, .int w, .ref o] : List Value)).length) Slot.unset).toArray = ls at hl ⊢
  have hl : lv_has ls 6 [(0, .ref h), (1, .int x), (2, .int y), (3, .int w), (4, .ref o)] := hl
  refine lv_aload hx hb (show decode cL_sum 0 = .ok (.aload 4, 2) by decide +kernel) (lv_at hl 4 rfl) ?_
  refine lv_iconst (v := 0) hx hb (show decode cL_sum 2 = .ok (.iconst 0, 1) by decide +kernel) (by decide) ?_
  refine lv_aload_n hx hb (show decode cL_sum 3 = .ok (.aload_n 0, 1) by decide +kernel) rfl (lv_at hl 0 rfl) ?_
  refine lv_iload_n hx hb (show decode cL_sum 4 = .ok (.iload_n 1, 1) by decide +kernel) rfl (lv_at hl 1 rfl) ?_
  refine lv_iload_n hx hb (show decode cL_sum 5 = .ok (.iload_n 2, 1) by decide +kernel) rfl (lv_at hl 2 rfl) ?_
  refine lv_iload_n hx hb (show decode cL_sum 6 = .ok (.iload_n 3, 1) by decide +kernel) rfl (lv_at hl 3 rfl) ?_
  have hX : ∀ (i : Nat) (E : String), ([exB, exS] : List String)[i]? = some E → HdX cL_sum 6 s 7 c.exceptionTable.toList i E := by
    intro i E hE
    rw [htb]
    match i, hE with
    | 0, hE => cases hE; exact ⟨[], ⟨0, 12, 15, 19⟩, [⟨0, 12, 19, 31⟩], rfl, fun z hz => absurd hz List.not_mem_nil, by decide, by decide, lk_B, cs_B, 17, Or.inr ⟨5, by decide +kernel, by decide, rfl⟩, by decide +kernel, by decide +kernel⟩
    | 1, hE => cases hE; exact ⟨[⟨0, 12, 15, 19⟩], ⟨0, 12, 19, 31⟩, [], rfl, fun z hz => by rw [List.mem_singleton.mp hz]; exact ⟨by decide, exB, lk_B, hEX.2.2.1⟩, by decide, by decide, lk_S, cs_S, 21, Or.inr ⟨5, by decide +kernel, by decide, rfl⟩, by decide +kernel, by decide +kernel⟩
    | k + 2, hE => simp at hE
  exact hp_main (pcI := 7) (pcE := 23) (off := 11) (T := TX7) (av := [.int x, .int y, .int w]) (v0 := v0) ⟨hx, hb, hml, hown, hts, hK⟩ B.returns B.notSynchronized hEX hW hO hoh rfl sVL_sum rfl (Nat.le_of_ble_eq_true rfl) hOC rfl (fun _ _ _ => rfl) ⟨Nat.le_of_ble_eq_true rfl, Nat.le_of_ble_eq_true rfl⟩ hl hX (show decode cL_sum 7 = .ok (.invokevirtual 28, 3) by decide +kernel) (show decode cL_sum 10 = .ok (.i2l, 1) by decide +kernel) (show decode cL_sum 11 = .ok (.lastore, 1) by decide +kernel) (show decode cL_sum 12 = .ok (.goto 11, 3) by decide +kernel) (by decide) (show decode cL_sum 23 = .ok (.iconst 0, 1) by decide +kernel) (show decode cL_sum 24 = .ok (.ireturn, 1) by decide +kernel)
theorem sVL_scale : SitV RL 33 yX7_scale cX7_scale 4 (some .int) 3 := ⟨⟨(wb_3 166 (by decide +kernel) rfl), (wb_3 167 (by decide +kernel) rfl), (wb_3 168 (by decide +kernel) rfl), (wb_1 1 (by decide +kernel) rfl), (wb_3 169 (by decide +kernel) rfl)⟩, by decide +kernel⟩
abbrev rmL_scale : Room := { frames := 8, cells := 1, slots := 6, locals := 151 }
abbrev hhL_scale : List (Nat × Nat × Nat × Nat) := [(0, 12, 15, 19), (0, 12, 19, 13), (0, 12, 23, 31)]
theorem hc_scale (l : Launch) {x y w : Int32} {I I2 : IM} {L L2 : LM} {code : Nat} {r : Int32} (hOC : OC (fun r => KX7_scale l [.ref 0, .int x, .int y, .int w] I L r) (fun E => TX7_scale l [.ref 0, .int x, .int y, .int w] I L E) [exB, exA, exS] code (some (.int r)) I2 L2) (D : va_G) (cy : Nat → ClassId) (h o : Nat) (v0 : Int64) (hoh : h + 181 ≤ o) : vx_Met l yL_scale (Cond.codeWith yL_scale cL_scale 6 (some .int) hhL_scale :: WB) rmL_scale (va_Pc [.ref h, .int x, .int y, .int w, .ref o] (HpP D cy h o v0 I L)) (HpQ D cy h o code r.toInt64 I2 L2) (fun _ _ _ => False) 1 6 (HpF h o) := by
  refine vx_ofWH (cc := cL_scale) (maxL := 6) (ret := some .int) (hh := hhL_scale) (by decide +kernel) rfl ?_
  intro p e s m args below meth c s₁ B hml hv
  obtain ⟨rfl, hW, hO, hK, hEX⟩ := hv
  have hts0 := atoms_spec (ws := Cond.codeWith yL_scale cL_scale 6 (some .int) hhL_scale :: WB) B.pre
  have hts : ∀ w ∈ WB, w.before _ s = true := fun w hw => hts0 w (List.mem_cons_of_mem _ hw)
  have htb : c.exceptionTable.toList = tableOf hhL_scale := vx_table (x := yL_scale) B (hts0 _ List.mem_cons_self)
  have hown : s.vm.findClass RL = some m.cls := findClass_of_methodNamed B.named
  have hx := B.exec
  have hb := B.bytes
  have hl := lv_entry ([.ref h, .int x, .int y, .int w, .ref o] : List Value) (n := 6) (Nat.le_of_ble_eq_true rfl)
  rw [lg_entry_eq]
  generalize (lg_sl ([.ref h, .int x, .int y, .int w, .ref o] : List Value) ++ List.replicate (6 - (lg_sl ([.ref h, .int x, .int y, .int w, .ref o] : List Value)).length) Slot.unset).toArray = ls at hl ⊢
  have hl : lv_has ls 6 [(0, .ref h), (1, .int x), (2, .int y), (3, .int w), (4, .ref o)] := hl
  refine lv_aload hx hb (show decode cL_scale 0 = .ok (.aload 4, 2) by decide +kernel) (lv_at hl 4 rfl) ?_
  refine lv_iconst (v := 0) hx hb (show decode cL_scale 2 = .ok (.iconst 0, 1) by decide +kernel) (by decide) ?_
  refine lv_aload_n hx hb (show decode cL_scale 3 = .ok (.aload_n 0, 1) by decide +kernel) rfl (lv_at hl 0 rfl) ?_
  refine lv_iload_n hx hb (show decode cL_scale 4 = .ok (.iload_n 1, 1) by decide +kernel) rfl (lv_at hl 1 rfl) ?_
  refine lv_iload_n hx hb (show decode cL_scale 5 = .ok (.iload_n 2, 1) by decide +kernel) rfl (lv_at hl 2 rfl) ?_
  refine lv_iload_n hx hb (show decode cL_scale 6 = .ok (.iload_n 3, 1) by decide +kernel) rfl (lv_at hl 3 rfl) ?_
  have hX : ∀ (i : Nat) (E : String), ([exB, exA, exS] : List String)[i]? = some E → HdX cL_scale 6 s 7 c.exceptionTable.toList i E := by
    intro i E hE
    rw [htb]
    match i, hE with
    | 0, hE => cases hE; exact ⟨[], ⟨0, 12, 15, 19⟩, [⟨0, 12, 19, 13⟩, ⟨0, 12, 23, 31⟩], rfl, fun z hz => absurd hz List.not_mem_nil, by decide, by decide, lk_B, cs_B, 17, Or.inr ⟨5, by decide +kernel, by decide, rfl⟩, by decide +kernel, by decide +kernel⟩
    | 1, hE => cases hE; exact ⟨[⟨0, 12, 15, 19⟩], ⟨0, 12, 19, 13⟩, [⟨0, 12, 23, 31⟩], rfl, fun z hz => by rw [List.mem_singleton.mp hz]; exact ⟨by decide, exB, lk_B, hEX.2.1⟩, by decide, by decide, lk_A, cs_A, 21, Or.inr ⟨5, by decide +kernel, by decide, rfl⟩, by decide +kernel, by decide +kernel⟩
    | 2, hE => cases hE; exact ⟨[⟨0, 12, 15, 19⟩, ⟨0, 12, 19, 13⟩], ⟨0, 12, 23, 31⟩, [], rfl, fun z hz => by rcases List.mem_cons.mp hz with e | hz; (rw [e]; exact ⟨by decide, exB, lk_B, hEX.2.2.1⟩); (rw [List.mem_singleton.mp hz]; exact ⟨by decide, exA, lk_A, hEX.2.2.2⟩), by decide, by decide, lk_S, cs_S, 25, Or.inr ⟨5, by decide +kernel, by decide, rfl⟩, by decide +kernel, by decide +kernel⟩
    | k + 3, hE => simp at hE
  exact hp_main (pcI := 7) (pcE := 27) (off := 15) (T := TX7) (av := [.int x, .int y, .int w]) (v0 := v0) ⟨hx, hb, hml, hown, hts, hK⟩ B.returns B.notSynchronized hEX hW hO hoh rfl sVL_scale rfl (Nat.le_of_ble_eq_true rfl) hOC rfl (fun _ _ _ => rfl) ⟨Nat.le_of_ble_eq_true rfl, Nat.le_of_ble_eq_true rfl⟩ hl hX (show decode cL_scale 7 = .ok (.invokevirtual 33, 3) by decide +kernel) (show decode cL_scale 10 = .ok (.i2l, 1) by decide +kernel) (show decode cL_scale 11 = .ok (.lastore, 1) by decide +kernel) (show decode cL_scale 12 = .ok (.goto 15, 3) by decide +kernel) (by decide) (show decode cL_scale 27 = .ok (.iconst 0, 1) by decide +kernel) (show decode cL_scale 28 = .ok (.ireturn, 1) by decide +kernel)
theorem sVL_wedge : SitV RL 36 yX7_wedge cX7_wedge 4 (some .int) 3 := ⟨⟨(wb_3 176 (by decide +kernel) rfl), (wb_3 177 (by decide +kernel) rfl), (wb_3 178 (by decide +kernel) rfl), (wb_1 1 (by decide +kernel) rfl), (wb_3 179 (by decide +kernel) rfl)⟩, by decide +kernel⟩
abbrev rmL_wedge : Room := { frames := 9, cells := 1, slots := 6, locals := 151 }
abbrev hhL_wedge : List (Nat × Nat × Nat × Nat) := [(0, 12, 15, 19), (0, 12, 19, 31)]
theorem hc_wedge (l : Launch) {x y w : Int32} {I I2 : IM} {L L2 : LM} {code : Nat} {r : Int32} (hOC : OC (fun r => KX7_wedge l [.ref 0, .int x, .int y, .int w] I L r) (fun E => TX7_wedge l [.ref 0, .int x, .int y, .int w] I L E) [exB, exS] code (some (.int r)) I2 L2) (D : va_G) (cy : Nat → ClassId) (h o : Nat) (v0 : Int64) (hoh : h + 181 ≤ o) : vx_Met l yL_wedge (Cond.codeWith yL_wedge cL_wedge 6 (some .int) hhL_wedge :: WB) rmL_wedge (va_Pc [.ref h, .int x, .int y, .int w, .ref o] (HpP D cy h o v0 I L)) (HpQ D cy h o code r.toInt64 I2 L2) (fun _ _ _ => False) 1 6 (HpF h o) := by
  refine vx_ofWH (cc := cL_wedge) (maxL := 6) (ret := some .int) (hh := hhL_wedge) (by decide +kernel) rfl ?_
  intro p e s m args below meth c s₁ B hml hv
  obtain ⟨rfl, hW, hO, hK, hEX⟩ := hv
  have hts0 := atoms_spec (ws := Cond.codeWith yL_wedge cL_wedge 6 (some .int) hhL_wedge :: WB) B.pre
  have hts : ∀ w ∈ WB, w.before _ s = true := fun w hw => hts0 w (List.mem_cons_of_mem _ hw)
  have htb : c.exceptionTable.toList = tableOf hhL_wedge := vx_table (x := yL_wedge) B (hts0 _ List.mem_cons_self)
  have hown : s.vm.findClass RL = some m.cls := findClass_of_methodNamed B.named
  have hx := B.exec
  have hb := B.bytes
  have hl := lv_entry ([.ref h, .int x, .int y, .int w, .ref o] : List Value) (n := 6) (Nat.le_of_ble_eq_true rfl)
  rw [lg_entry_eq]
  generalize (lg_sl ([.ref h, .int x, .int y, .int w, .ref o] : List Value) ++ List.replicate (6 - (lg_sl ([.ref h, .int x, .int y, .int w, .ref o] : List Value)).length) Slot.unset).toArray = ls at hl ⊢
  have hl : lv_has ls 6 [(0, .ref h), (1, .int x), (2, .int y), (3, .int w), (4, .ref o)] := hl
  refine lv_aload hx hb (show decode cL_wedge 0 = .ok (.aload 4, 2) by decide +kernel) (lv_at hl 4 rfl) ?_
  refine lv_iconst (v := 0) hx hb (show decode cL_wedge 2 = .ok (.iconst 0, 1) by decide +kernel) (by decide) ?_
  refine lv_aload_n hx hb (show decode cL_wedge 3 = .ok (.aload_n 0, 1) by decide +kernel) rfl (lv_at hl 0 rfl) ?_
  refine lv_iload_n hx hb (show decode cL_wedge 4 = .ok (.iload_n 1, 1) by decide +kernel) rfl (lv_at hl 1 rfl) ?_
  refine lv_iload_n hx hb (show decode cL_wedge 5 = .ok (.iload_n 2, 1) by decide +kernel) rfl (lv_at hl 2 rfl) ?_
  refine lv_iload_n hx hb (show decode cL_wedge 6 = .ok (.iload_n 3, 1) by decide +kernel) rfl (lv_at hl 3 rfl) ?_
  have hX : ∀ (i : Nat) (E : String), ([exB, exS] : List String)[i]? = some E → HdX cL_wedge 6 s 7 c.exceptionTable.toList i E := by
    intro i E hE
    rw [htb]
    match i, hE with
    | 0, hE => cases hE; exact ⟨[], ⟨0, 12, 15, 19⟩, [⟨0, 12, 19, 31⟩], rfl, fun z hz => absurd hz List.not_mem_nil, by decide, by decide, lk_B, cs_B, 17, Or.inr ⟨5, by decide +kernel, by decide, rfl⟩, by decide +kernel, by decide +kernel⟩
    | 1, hE => cases hE; exact ⟨[⟨0, 12, 15, 19⟩], ⟨0, 12, 19, 31⟩, [], rfl, fun z hz => by rw [List.mem_singleton.mp hz]; exact ⟨by decide, exB, lk_B, hEX.2.2.1⟩, by decide, by decide, lk_S, cs_S, 21, Or.inr ⟨5, by decide +kernel, by decide, rfl⟩, by decide +kernel, by decide +kernel⟩
    | k + 2, hE => simp at hE
  exact hp_main (pcI := 7) (pcE := 23) (off := 11) (T := TX7) (av := [.int x, .int y, .int w]) (v0 := v0) ⟨hx, hb, hml, hown, hts, hK⟩ B.returns B.notSynchronized hEX hW hO hoh rfl sVL_wedge rfl (Nat.le_of_ble_eq_true rfl) hOC rfl (fun _ _ _ => rfl) ⟨Nat.le_of_ble_eq_true rfl, Nat.le_of_ble_eq_true rfl⟩ hl hX (show decode cL_wedge 7 = .ok (.invokevirtual 36, 3) by decide +kernel) (show decode cL_wedge 10 = .ok (.i2l, 1) by decide +kernel) (show decode cL_wedge 11 = .ok (.lastore, 1) by decide +kernel) (show decode cL_wedge 12 = .ok (.goto 11, 3) by decide +kernel) (by decide) (show decode cL_wedge 23 = .ok (.iconst 0, 1) by decide +kernel) (show decode cL_wedge 24 = .ok (.ireturn, 1) by decide +kernel)
theorem sVL_contract : SitV RL 39 yX7_contract cX7_contract 4 (some .int) 3 := ⟨⟨(wb_3 183 (by decide +kernel) rfl), (wb_3 184 (by decide +kernel) rfl), (wb_3 185 (by decide +kernel) rfl), (wb_1 1 (by decide +kernel) rfl), (wb_3 186 (by decide +kernel) rfl)⟩, by decide +kernel⟩
abbrev rmL_contract : Room := { frames := 9, cells := 1, slots := 6, locals := 151 }
abbrev hhL_contract : List (Nat × Nat × Nat × Nat) := [(0, 12, 15, 19), (0, 12, 19, 31)]
theorem hc_contract (l : Launch) {x y w : Int32} {I I2 : IM} {L L2 : LM} {code : Nat} {r : Int32} (hOC : OC (fun r => KX7_contract l [.ref 0, .int x, .int y, .int w] I L r) (fun E => TX7_contract l [.ref 0, .int x, .int y, .int w] I L E) [exB, exS] code (some (.int r)) I2 L2) (D : va_G) (cy : Nat → ClassId) (h o : Nat) (v0 : Int64) (hoh : h + 181 ≤ o) : vx_Met l yL_contract (Cond.codeWith yL_contract cL_contract 6 (some .int) hhL_contract :: WB) rmL_contract (va_Pc [.ref h, .int x, .int y, .int w, .ref o] (HpP D cy h o v0 I L)) (HpQ D cy h o code r.toInt64 I2 L2) (fun _ _ _ => False) 1 6 (HpF h o) := by
  refine vx_ofWH (cc := cL_contract) (maxL := 6) (ret := some .int) (hh := hhL_contract) (by decide +kernel) rfl ?_
  intro p e s m args below meth c s₁ B hml hv
  obtain ⟨rfl, hW, hO, hK, hEX⟩ := hv
  have hts0 := atoms_spec (ws := Cond.codeWith yL_contract cL_contract 6 (some .int) hhL_contract :: WB) B.pre
  have hts : ∀ w ∈ WB, w.before _ s = true := fun w hw => hts0 w (List.mem_cons_of_mem _ hw)
  have htb : c.exceptionTable.toList = tableOf hhL_contract := vx_table (x := yL_contract) B (hts0 _ List.mem_cons_self)
  have hown : s.vm.findClass RL = some m.cls := findClass_of_methodNamed B.named
  have hx := B.exec
  have hb := B.bytes
  have hl := lv_entry ([.ref h, .int x, .int y, .int w, .ref o] : List Value) (n := 6) (Nat.le_of_ble_eq_true rfl)
  rw [lg_entry_eq]
  generalize (lg_sl ([.ref h, .int x, .int y, .int w, .ref o] : List Value) ++ List.replicate (6 - (lg_sl ([.ref h, .int x, .int y, .int w, .ref o] : List Value)).length) Slot.unset).toArray = ls at hl ⊢
  have hl : lv_has ls 6 [(0, .ref h), (1, .int x), (2, .int y), (3, .int w), (4, .ref o)] := hl
  refine lv_aload hx hb (show decode cL_contract 0 = .ok (.aload 4, 2) by decide +kernel) (lv_at hl 4 rfl) ?_
  refine lv_iconst (v := 0) hx hb (show decode cL_contract 2 = .ok (.iconst 0, 1) by decide +kernel) (by decide) ?_
  refine lv_aload_n hx hb (show decode cL_contract 3 = .ok (.aload_n 0, 1) by decide +kernel) rfl (lv_at hl 0 rfl) ?_
  refine lv_iload_n hx hb (show decode cL_contract 4 = .ok (.iload_n 1, 1) by decide +kernel) rfl (lv_at hl 1 rfl) ?_
  refine lv_iload_n hx hb (show decode cL_contract 5 = .ok (.iload_n 2, 1) by decide +kernel) rfl (lv_at hl 2 rfl) ?_
  refine lv_iload_n hx hb (show decode cL_contract 6 = .ok (.iload_n 3, 1) by decide +kernel) rfl (lv_at hl 3 rfl) ?_
  have hX : ∀ (i : Nat) (E : String), ([exB, exS] : List String)[i]? = some E → HdX cL_contract 6 s 7 c.exceptionTable.toList i E := by
    intro i E hE
    rw [htb]
    match i, hE with
    | 0, hE => cases hE; exact ⟨[], ⟨0, 12, 15, 19⟩, [⟨0, 12, 19, 31⟩], rfl, fun z hz => absurd hz List.not_mem_nil, by decide, by decide, lk_B, cs_B, 17, Or.inr ⟨5, by decide +kernel, by decide, rfl⟩, by decide +kernel, by decide +kernel⟩
    | 1, hE => cases hE; exact ⟨[⟨0, 12, 15, 19⟩], ⟨0, 12, 19, 31⟩, [], rfl, fun z hz => by rw [List.mem_singleton.mp hz]; exact ⟨by decide, exB, lk_B, hEX.2.2.1⟩, by decide, by decide, lk_S, cs_S, 21, Or.inr ⟨5, by decide +kernel, by decide, rfl⟩, by decide +kernel, by decide +kernel⟩
    | k + 2, hE => simp at hE
  exact hp_main (pcI := 7) (pcE := 23) (off := 11) (T := TX7) (av := [.int x, .int y, .int w]) (v0 := v0) ⟨hx, hb, hml, hown, hts, hK⟩ B.returns B.notSynchronized hEX hW hO hoh rfl sVL_contract rfl (Nat.le_of_ble_eq_true rfl) hOC rfl (fun _ _ _ => rfl) ⟨Nat.le_of_ble_eq_true rfl, Nat.le_of_ble_eq_true rfl⟩ hl hX (show decode cL_contract 7 = .ok (.invokevirtual 39, 3) by decide +kernel) (show decode cL_contract 10 = .ok (.i2l, 1) by decide +kernel) (show decode cL_contract 11 = .ok (.lastore, 1) by decide +kernel) (show decode cL_contract 12 = .ok (.goto 11, 3) by decide +kernel) (by decide) (show decode cL_contract 23 = .ok (.iconst 0, 1) by decide +kernel) (show decode cL_contract 24 = .ok (.ireturn, 1) by decide +kernel)
theorem sVL_star : SitV RL 42 yX7_star cX7_star 3 (some .int) 2 := ⟨⟨(wb_3 190 (by decide +kernel) rfl), (wb_3 191 (by decide +kernel) rfl), (wb_3 192 (by decide +kernel) rfl), (wb_1 1 (by decide +kernel) rfl), (wb_3 193 (by decide +kernel) rfl)⟩, by decide +kernel⟩
abbrev rmL_star : Room := { frames := 8, cells := 1, slots := 6, locals := 150 }
abbrev hhL_star : List (Nat × Nat × Nat × Nat) := [(0, 10, 13, 19)]
theorem hc_star (l : Launch) {x y : Int32} {I I2 : IM} {L L2 : LM} {code : Nat} {r : Int32} (hOC : OC (fun r => KX7_star l [.ref 0, .int x, .int y] I L r) (fun E => TX7_star l [.ref 0, .int x, .int y] I L E) [exB] code (some (.int r)) I2 L2) (D : va_G) (cy : Nat → ClassId) (h o : Nat) (v0 : Int64) (hoh : h + 181 ≤ o) : vx_Met l yL_star (Cond.codeWith yL_star cL_star 5 (some .int) hhL_star :: WB) rmL_star (va_Pc [.ref h, .int x, .int y, .ref o] (HpP D cy h o v0 I L)) (HpQ D cy h o code r.toInt64 I2 L2) (fun _ _ _ => False) 1 6 (HpF h o) := by
  refine vx_ofWH (cc := cL_star) (maxL := 5) (ret := some .int) (hh := hhL_star) (by decide +kernel) rfl ?_
  intro p e s m args below meth c s₁ B hml hv
  obtain ⟨rfl, hW, hO, hK, hEX⟩ := hv
  have hts0 := atoms_spec (ws := Cond.codeWith yL_star cL_star 5 (some .int) hhL_star :: WB) B.pre
  have hts : ∀ w ∈ WB, w.before _ s = true := fun w hw => hts0 w (List.mem_cons_of_mem _ hw)
  have htb : c.exceptionTable.toList = tableOf hhL_star := vx_table (x := yL_star) B (hts0 _ List.mem_cons_self)
  have hown : s.vm.findClass RL = some m.cls := findClass_of_methodNamed B.named
  have hx := B.exec
  have hb := B.bytes
  have hl := lv_entry ([.ref h, .int x, .int y, .ref o] : List Value) (n := 5) (Nat.le_of_ble_eq_true rfl)
  rw [lg_entry_eq]
  generalize (lg_sl ([.ref h, .int x, .int y, .ref o] : List Value) ++ List.replicate (5 - (lg_sl ([.ref h, .int x, .int y, .ref o] : List Value)).length) Slot.unset).toArray = ls at hl ⊢
  have hl : lv_has ls 5 [(0, .ref h), (1, .int x), (2, .int y), (3, .ref o)] := hl
  refine lv_aload_n hx hb (show decode cL_star 0 = .ok (.aload_n 3, 1) by decide +kernel) rfl (lv_at hl 3 rfl) ?_
  refine lv_iconst (v := 0) hx hb (show decode cL_star 1 = .ok (.iconst 0, 1) by decide +kernel) (by decide) ?_
  refine lv_aload_n hx hb (show decode cL_star 2 = .ok (.aload_n 0, 1) by decide +kernel) rfl (lv_at hl 0 rfl) ?_
  refine lv_iload_n hx hb (show decode cL_star 3 = .ok (.iload_n 1, 1) by decide +kernel) rfl (lv_at hl 1 rfl) ?_
  refine lv_iload_n hx hb (show decode cL_star 4 = .ok (.iload_n 2, 1) by decide +kernel) rfl (lv_at hl 2 rfl) ?_
  have hX : ∀ (i : Nat) (E : String), ([exB] : List String)[i]? = some E → HdX cL_star 5 s 5 c.exceptionTable.toList i E := by
    intro i E hE
    rw [htb]
    match i, hE with
    | 0, hE => cases hE; exact ⟨[], ⟨0, 10, 13, 19⟩, [], rfl, fun z hz => absurd hz List.not_mem_nil, by decide, by decide, lk_B, cs_B, 15, Or.inr ⟨4, by decide +kernel, by decide, rfl⟩, by decide +kernel, by decide +kernel⟩
    | k + 1, hE => simp at hE
  exact hp_main (pcI := 5) (pcE := 17) (off := 7) (T := TX7) (av := [.int x, .int y]) (v0 := v0) ⟨hx, hb, hml, hown, hts, hK⟩ B.returns B.notSynchronized hEX hW hO hoh rfl sVL_star rfl (Nat.le_of_ble_eq_true rfl) hOC rfl (fun _ _ _ => rfl) ⟨Nat.le_of_ble_eq_true rfl, Nat.le_of_ble_eq_true rfl⟩ hl hX (show decode cL_star 5 = .ok (.invokevirtual 42, 3) by decide +kernel) (show decode cL_star 8 = .ok (.i2l, 1) by decide +kernel) (show decode cL_star 9 = .ok (.lastore, 1) by decide +kernel) (show decode cL_star 10 = .ok (.goto 7, 3) by decide +kernel) (by decide) (show decode cL_star 17 = .ok (.iconst 0, 1) by decide +kernel) (show decode cL_star 18 = .ok (.ireturn, 1) by decide +kernel)
theorem sVL_part : SitV RL 45 yX7_part cX7_part 4 (some .int) 3 := ⟨⟨(wb_3 200 (by decide +kernel) rfl), (wb_3 201 (by decide +kernel) rfl), (wb_3 202 (by decide +kernel) rfl), (wb_1 1 (by decide +kernel) rfl), (wb_3 203 (by decide +kernel) rfl)⟩, by decide +kernel⟩
abbrev rmL_part : Room := { frames := 8, cells := 1, slots := 6, locals := 151 }
abbrev hhL_part : List (Nat × Nat × Nat × Nat) := [(0, 12, 15, 19), (0, 12, 19, 13)]
theorem hc_part (l : Launch) {x y w : Int32} {I I2 : IM} {L L2 : LM} {code : Nat} {r : Int32} (hOC : OC (fun r => KX7_part l [.ref 0, .int x, .int y, .int w] I L r) (fun E => TX7_part l [.ref 0, .int x, .int y, .int w] I L E) [exB, exA] code (some (.int r)) I2 L2) (D : va_G) (cy : Nat → ClassId) (h o : Nat) (v0 : Int64) (hoh : h + 181 ≤ o) : vx_Met l yL_part (Cond.codeWith yL_part cL_part 6 (some .int) hhL_part :: WB) rmL_part (va_Pc [.ref h, .int x, .int y, .int w, .ref o] (HpP D cy h o v0 I L)) (HpQ D cy h o code r.toInt64 I2 L2) (fun _ _ _ => False) 1 6 (HpF h o) := by
  refine vx_ofWH (cc := cL_part) (maxL := 6) (ret := some .int) (hh := hhL_part) (by decide +kernel) rfl ?_
  intro p e s m args below meth c s₁ B hml hv
  obtain ⟨rfl, hW, hO, hK, hEX⟩ := hv
  have hts0 := atoms_spec (ws := Cond.codeWith yL_part cL_part 6 (some .int) hhL_part :: WB) B.pre
  have hts : ∀ w ∈ WB, w.before _ s = true := fun w hw => hts0 w (List.mem_cons_of_mem _ hw)
  have htb : c.exceptionTable.toList = tableOf hhL_part := vx_table (x := yL_part) B (hts0 _ List.mem_cons_self)
  have hown : s.vm.findClass RL = some m.cls := findClass_of_methodNamed B.named
  have hx := B.exec
  have hb := B.bytes
  have hl := lv_entry ([.ref h, .int x, .int y, .int w, .ref o] : List Value) (n := 6) (Nat.le_of_ble_eq_true rfl)
  rw [lg_entry_eq]
  generalize (lg_sl ([.ref h, .int x, .int y, .int w, .ref o] : List Value) ++ List.replicate (6 - (lg_sl ([.ref h, .int x, .int y, .int w, .ref o] : List Value)).length) Slot.unset).toArray = ls at hl ⊢
  have hl : lv_has ls 6 [(0, .ref h), (1, .int x), (2, .int y), (3, .int w), (4, .ref o)] := hl
  refine lv_aload hx hb (show decode cL_part 0 = .ok (.aload 4, 2) by decide +kernel) (lv_at hl 4 rfl) ?_
  refine lv_iconst (v := 0) hx hb (show decode cL_part 2 = .ok (.iconst 0, 1) by decide +kernel) (by decide) ?_
  refine lv_aload_n hx hb (show decode cL_part 3 = .ok (.aload_n 0, 1) by decide +kernel) rfl (lv_at hl 0 rfl) ?_
  refine lv_iload_n hx hb (show decode cL_part 4 = .ok (.iload_n 1, 1) by decide +kernel) rfl (lv_at hl 1 rfl) ?_
  refine lv_iload_n hx hb (show decode cL_part 5 = .ok (.iload_n 2, 1) by decide +kernel) rfl (lv_at hl 2 rfl) ?_
  refine lv_iload_n hx hb (show decode cL_part 6 = .ok (.iload_n 3, 1) by decide +kernel) rfl (lv_at hl 3 rfl) ?_
  have hX : ∀ (i : Nat) (E : String), ([exB, exA] : List String)[i]? = some E → HdX cL_part 6 s 7 c.exceptionTable.toList i E := by
    intro i E hE
    rw [htb]
    match i, hE with
    | 0, hE => cases hE; exact ⟨[], ⟨0, 12, 15, 19⟩, [⟨0, 12, 19, 13⟩], rfl, fun z hz => absurd hz List.not_mem_nil, by decide, by decide, lk_B, cs_B, 17, Or.inr ⟨5, by decide +kernel, by decide, rfl⟩, by decide +kernel, by decide +kernel⟩
    | 1, hE => cases hE; exact ⟨[⟨0, 12, 15, 19⟩], ⟨0, 12, 19, 13⟩, [], rfl, fun z hz => by rw [List.mem_singleton.mp hz]; exact ⟨by decide, exB, lk_B, hEX.2.1⟩, by decide, by decide, lk_A, cs_A, 21, Or.inr ⟨5, by decide +kernel, by decide, rfl⟩, by decide +kernel, by decide +kernel⟩
    | k + 2, hE => simp at hE
  exact hp_main (pcI := 7) (pcE := 23) (off := 11) (T := TX7) (av := [.int x, .int y, .int w]) (v0 := v0) ⟨hx, hb, hml, hown, hts, hK⟩ B.returns B.notSynchronized hEX hW hO hoh rfl sVL_part rfl (Nat.le_of_ble_eq_true rfl) hOC rfl (fun _ _ _ => rfl) ⟨Nat.le_of_ble_eq_true rfl, Nat.le_of_ble_eq_true rfl⟩ hl hX (show decode cL_part 7 = .ok (.invokevirtual 45, 3) by decide +kernel) (show decode cL_part 10 = .ok (.i2l, 1) by decide +kernel) (show decode cL_part 11 = .ok (.lastore, 1) by decide +kernel) (show decode cL_part 12 = .ok (.goto 11, 3) by decide +kernel) (by decide) (show decode cL_part 23 = .ok (.iconst 0, 1) by decide +kernel) (show decode cL_part 24 = .ok (.ireturn, 1) by decide +kernel)
theorem sVL_reverse : SitV RL 48 yX7_reverse cX7_reverse 3 (some .int) 2 := ⟨⟨(wb_3 210 (by decide +kernel) rfl), (wb_3 211 (by decide +kernel) rfl), (wb_3 212 (by decide +kernel) rfl), (wb_1 1 (by decide +kernel) rfl), (wb_3 213 (by decide +kernel) rfl)⟩, by decide +kernel⟩
abbrev rmL_reverse : Room := { frames := 8, cells := 1, slots := 6, locals := 150 }
abbrev hhL_reverse : List (Nat × Nat × Nat × Nat) := [(0, 10, 13, 19)]
theorem hc_reverse (l : Launch) {x y : Int32} {I I2 : IM} {L L2 : LM} {code : Nat} {r : Int32} (hOC : OC (fun r => KX7_reverse l [.ref 0, .int x, .int y] I L r) (fun E => TX7_reverse l [.ref 0, .int x, .int y] I L E) [exB] code (some (.int r)) I2 L2) (D : va_G) (cy : Nat → ClassId) (h o : Nat) (v0 : Int64) (hoh : h + 181 ≤ o) : vx_Met l yL_reverse (Cond.codeWith yL_reverse cL_reverse 5 (some .int) hhL_reverse :: WB) rmL_reverse (va_Pc [.ref h, .int x, .int y, .ref o] (HpP D cy h o v0 I L)) (HpQ D cy h o code r.toInt64 I2 L2) (fun _ _ _ => False) 1 6 (HpF h o) := by
  refine vx_ofWH (cc := cL_reverse) (maxL := 5) (ret := some .int) (hh := hhL_reverse) (by decide +kernel) rfl ?_
  intro p e s m args below meth c s₁ B hml hv
  obtain ⟨rfl, hW, hO, hK, hEX⟩ := hv
  have hts0 := atoms_spec (ws := Cond.codeWith yL_reverse cL_reverse 5 (some .int) hhL_reverse :: WB) B.pre
  have hts : ∀ w ∈ WB, w.before _ s = true := fun w hw => hts0 w (List.mem_cons_of_mem _ hw)
  have htb : c.exceptionTable.toList = tableOf hhL_reverse := vx_table (x := yL_reverse) B (hts0 _ List.mem_cons_self)
  have hown : s.vm.findClass RL = some m.cls := findClass_of_methodNamed B.named
  have hx := B.exec
  have hb := B.bytes
  have hl := lv_entry ([.ref h, .int x, .int y, .ref o] : List Value) (n := 5) (Nat.le_of_ble_eq_true rfl)
  rw [lg_entry_eq]
  generalize (lg_sl ([.ref h, .int x, .int y, .ref o] : List Value) ++ List.replicate (5 - (lg_sl ([.ref h, .int x, .int y, .ref o] : List Value)).length) Slot.unset).toArray = ls at hl ⊢
  have hl : lv_has ls 5 [(0, .ref h), (1, .int x), (2, .int y), (3, .ref o)] := hl
  refine lv_aload_n hx hb (show decode cL_reverse 0 = .ok (.aload_n 3, 1) by decide +kernel) rfl (lv_at hl 3 rfl) ?_
  refine lv_iconst (v := 0) hx hb (show decode cL_reverse 1 = .ok (.iconst 0, 1) by decide +kernel) (by decide) ?_
  refine lv_aload_n hx hb (show decode cL_reverse 2 = .ok (.aload_n 0, 1) by decide +kernel) rfl (lv_at hl 0 rfl) ?_
  refine lv_iload_n hx hb (show decode cL_reverse 3 = .ok (.iload_n 1, 1) by decide +kernel) rfl (lv_at hl 1 rfl) ?_
  refine lv_iload_n hx hb (show decode cL_reverse 4 = .ok (.iload_n 2, 1) by decide +kernel) rfl (lv_at hl 2 rfl) ?_
  have hX : ∀ (i : Nat) (E : String), ([exB] : List String)[i]? = some E → HdX cL_reverse 5 s 5 c.exceptionTable.toList i E := by
    intro i E hE
    rw [htb]
    match i, hE with
    | 0, hE => cases hE; exact ⟨[], ⟨0, 10, 13, 19⟩, [], rfl, fun z hz => absurd hz List.not_mem_nil, by decide, by decide, lk_B, cs_B, 15, Or.inr ⟨4, by decide +kernel, by decide, rfl⟩, by decide +kernel, by decide +kernel⟩
    | k + 1, hE => simp at hE
  exact hp_main (pcI := 5) (pcE := 17) (off := 7) (T := TX7) (av := [.int x, .int y]) (v0 := v0) ⟨hx, hb, hml, hown, hts, hK⟩ B.returns B.notSynchronized hEX hW hO hoh rfl sVL_reverse rfl (Nat.le_of_ble_eq_true rfl) hOC rfl (fun _ _ _ => rfl) ⟨Nat.le_of_ble_eq_true rfl, Nat.le_of_ble_eq_true rfl⟩ hl hX (show decode cL_reverse 5 = .ok (.invokevirtual 48, 3) by decide +kernel) (show decode cL_reverse 8 = .ok (.i2l, 1) by decide +kernel) (show decode cL_reverse 9 = .ok (.lastore, 1) by decide +kernel) (show decode cL_reverse 10 = .ok (.goto 7, 3) by decide +kernel) (by decide) (show decode cL_reverse 17 = .ok (.iconst 0, 1) by decide +kernel) (show decode cL_reverse 18 = .ok (.ireturn, 1) by decide +kernel)
theorem sVL_push : SitV RL 51 yX7_push cX7_push 3 (some .int) 2 := ⟨⟨(wb_3 220 (by decide +kernel) rfl), (wb_3 221 (by decide +kernel) rfl), (wb_3 222 (by decide +kernel) rfl), (wb_1 1 (by decide +kernel) rfl), (wb_3 223 (by decide +kernel) rfl)⟩, by decide +kernel⟩
abbrev rmL_push : Room := { frames := 8, cells := 1, slots := 6, locals := 150 }
abbrev hhL_push : List (Nat × Nat × Nat × Nat) := [(0, 10, 13, 19), (0, 10, 17, 31)]
theorem hc_push (l : Launch) {x y : Int32} {I I2 : IM} {L L2 : LM} {code : Nat} {r : Int32} (hOC : OC (fun r => KX7_push l [.ref 0, .int x, .int y] I L r) (fun E => TX7_push l [.ref 0, .int x, .int y] I L E) [exB, exS] code (some (.int r)) I2 L2) (D : va_G) (cy : Nat → ClassId) (h o : Nat) (v0 : Int64) (hoh : h + 181 ≤ o) : vx_Met l yL_push (Cond.codeWith yL_push cL_push 5 (some .int) hhL_push :: WB) rmL_push (va_Pc [.ref h, .int x, .int y, .ref o] (HpP D cy h o v0 I L)) (HpQ D cy h o code r.toInt64 I2 L2) (fun _ _ _ => False) 1 6 (HpF h o) := by
  refine vx_ofWH (cc := cL_push) (maxL := 5) (ret := some .int) (hh := hhL_push) (by decide +kernel) rfl ?_
  intro p e s m args below meth c s₁ B hml hv
  obtain ⟨rfl, hW, hO, hK, hEX⟩ := hv
  have hts0 := atoms_spec (ws := Cond.codeWith yL_push cL_push 5 (some .int) hhL_push :: WB) B.pre
  have hts : ∀ w ∈ WB, w.before _ s = true := fun w hw => hts0 w (List.mem_cons_of_mem _ hw)
  have htb : c.exceptionTable.toList = tableOf hhL_push := vx_table (x := yL_push) B (hts0 _ List.mem_cons_self)
  have hown : s.vm.findClass RL = some m.cls := findClass_of_methodNamed B.named
  have hx := B.exec
  have hb := B.bytes
  have hl := lv_entry ([.ref h, .int x, .int y, .ref o] : List Value) (n := 5) (Nat.le_of_ble_eq_true rfl)
  rw [lg_entry_eq]
  generalize (lg_sl ([.ref h, .int x, .int y, .ref o] : List Value) ++ List.replicate (5 - (lg_sl ([.ref h, .int x, .int y, .ref o] : List Value)).length) Slot.unset).toArray = ls at hl ⊢
  have hl : lv_has ls 5 [(0, .ref h), (1, .int x), (2, .int y), (3, .ref o)] := hl
  refine lv_aload_n hx hb (show decode cL_push 0 = .ok (.aload_n 3, 1) by decide +kernel) rfl (lv_at hl 3 rfl) ?_
  refine lv_iconst (v := 0) hx hb (show decode cL_push 1 = .ok (.iconst 0, 1) by decide +kernel) (by decide) ?_
  refine lv_aload_n hx hb (show decode cL_push 2 = .ok (.aload_n 0, 1) by decide +kernel) rfl (lv_at hl 0 rfl) ?_
  refine lv_iload_n hx hb (show decode cL_push 3 = .ok (.iload_n 1, 1) by decide +kernel) rfl (lv_at hl 1 rfl) ?_
  refine lv_iload_n hx hb (show decode cL_push 4 = .ok (.iload_n 2, 1) by decide +kernel) rfl (lv_at hl 2 rfl) ?_
  have hX : ∀ (i : Nat) (E : String), ([exB, exS] : List String)[i]? = some E → HdX cL_push 5 s 5 c.exceptionTable.toList i E := by
    intro i E hE
    rw [htb]
    match i, hE with
    | 0, hE => cases hE; exact ⟨[], ⟨0, 10, 13, 19⟩, [⟨0, 10, 17, 31⟩], rfl, fun z hz => absurd hz List.not_mem_nil, by decide, by decide, lk_B, cs_B, 15, Or.inr ⟨4, by decide +kernel, by decide, rfl⟩, by decide +kernel, by decide +kernel⟩
    | 1, hE => cases hE; exact ⟨[⟨0, 10, 13, 19⟩], ⟨0, 10, 17, 31⟩, [], rfl, fun z hz => by rw [List.mem_singleton.mp hz]; exact ⟨by decide, exB, lk_B, hEX.2.2.1⟩, by decide, by decide, lk_S, cs_S, 19, Or.inr ⟨4, by decide +kernel, by decide, rfl⟩, by decide +kernel, by decide +kernel⟩
    | k + 2, hE => simp at hE
  exact hp_main (pcI := 5) (pcE := 21) (off := 11) (T := TX7) (av := [.int x, .int y]) (v0 := v0) ⟨hx, hb, hml, hown, hts, hK⟩ B.returns B.notSynchronized hEX hW hO hoh rfl sVL_push rfl (Nat.le_of_ble_eq_true rfl) hOC rfl (fun _ _ _ => rfl) ⟨Nat.le_of_ble_eq_true rfl, Nat.le_of_ble_eq_true rfl⟩ hl hX (show decode cL_push 5 = .ok (.invokevirtual 51, 3) by decide +kernel) (show decode cL_push 8 = .ok (.i2l, 1) by decide +kernel) (show decode cL_push 9 = .ok (.lastore, 1) by decide +kernel) (show decode cL_push 10 = .ok (.goto 11, 3) by decide +kernel) (by decide) (show decode cL_push 21 = .ok (.iconst 0, 1) by decide +kernel) (show decode cL_push 22 = .ok (.ireturn, 1) by decide +kernel)
theorem sVL_append : SitV RL 54 yX7_append cX7_append 2 (some .int) 1 := ⟨⟨(wb_3 227 (by decide +kernel) rfl), (wb_3 228 (by decide +kernel) rfl), (wb_3 229 (by decide +kernel) rfl), (wb_1 1 (by decide +kernel) rfl), (wb_3 230 (by decide +kernel) rfl)⟩, by decide +kernel⟩
abbrev rmL_append : Room := { frames := 7, cells := 1, slots := 6, locals := 103 }
abbrev hhL_append : List (Nat × Nat × Nat × Nat) := [(0, 9, 12, 13), (0, 9, 15, 31)]
theorem hc_append (l : Launch) {x : Int32} {I I2 : IM} {L L2 : LM} {code : Nat} {r : Int32} (hOC : OC (fun r => KX7_append l [.ref 0, .int x] I L r) (fun E => TX7_append l [.ref 0, .int x] I L E) [exA, exS] code (some (.int r)) I2 L2) (D : va_G) (cy : Nat → ClassId) (h o : Nat) (v0 : Int64) (hoh : h + 181 ≤ o) : vx_Met l yL_append (Cond.codeWith yL_append cL_append 4 (some .int) hhL_append :: WB) rmL_append (va_Pc [.ref h, .int x, .ref o] (HpP D cy h o v0 I L)) (HpQ D cy h o code r.toInt64 I2 L2) (fun _ _ _ => False) 1 6 (HpF h o) := by
  refine vx_ofWH (cc := cL_append) (maxL := 4) (ret := some .int) (hh := hhL_append) (by decide +kernel) rfl ?_
  intro p e s m args below meth c s₁ B hml hv
  obtain ⟨rfl, hW, hO, hK, hEX⟩ := hv
  have hts0 := atoms_spec (ws := Cond.codeWith yL_append cL_append 4 (some .int) hhL_append :: WB) B.pre
  have hts : ∀ w ∈ WB, w.before _ s = true := fun w hw => hts0 w (List.mem_cons_of_mem _ hw)
  have htb : c.exceptionTable.toList = tableOf hhL_append := vx_table (x := yL_append) B (hts0 _ List.mem_cons_self)
  have hown : s.vm.findClass RL = some m.cls := findClass_of_methodNamed B.named
  have hx := B.exec
  have hb := B.bytes
  have hl := lv_entry ([.ref h, .int x, .ref o] : List Value) (n := 4) (Nat.le_of_ble_eq_true rfl)
  rw [lg_entry_eq]
  generalize (lg_sl ([.ref h, .int x, .ref o] : List Value) ++ List.replicate (4 - (lg_sl ([.ref h, .int x, .ref o] : List Value)).length) Slot.unset).toArray = ls at hl ⊢
  have hl : lv_has ls 4 [(0, .ref h), (1, .int x), (2, .ref o)] := hl
  refine lv_aload_n hx hb (show decode cL_append 0 = .ok (.aload_n 2, 1) by decide +kernel) rfl (lv_at hl 2 rfl) ?_
  refine lv_iconst (v := 0) hx hb (show decode cL_append 1 = .ok (.iconst 0, 1) by decide +kernel) (by decide) ?_
  refine lv_aload_n hx hb (show decode cL_append 2 = .ok (.aload_n 0, 1) by decide +kernel) rfl (lv_at hl 0 rfl) ?_
  refine lv_iload_n hx hb (show decode cL_append 3 = .ok (.iload_n 1, 1) by decide +kernel) rfl (lv_at hl 1 rfl) ?_
  have hX : ∀ (i : Nat) (E : String), ([exA, exS] : List String)[i]? = some E → HdX cL_append 4 s 4 c.exceptionTable.toList i E := by
    intro i E hE
    rw [htb]
    match i, hE with
    | 0, hE => cases hE; exact ⟨[], ⟨0, 9, 12, 13⟩, [⟨0, 9, 15, 31⟩], rfl, fun z hz => absurd hz List.not_mem_nil, by decide, by decide, lk_A, cs_A, 13, Or.inl ⟨3, by decide +kernel, by decide, rfl⟩, by decide +kernel, by decide +kernel⟩
    | 1, hE => cases hE; exact ⟨[⟨0, 9, 12, 13⟩], ⟨0, 9, 15, 31⟩, [], rfl, fun z hz => by rw [List.mem_singleton.mp hz]; exact ⟨by decide, exA, lk_A, hEX.2.2.2⟩, by decide, by decide, lk_S, cs_S, 16, Or.inl ⟨3, by decide +kernel, by decide, rfl⟩, by decide +kernel, by decide +kernel⟩
    | k + 2, hE => simp at hE
  exact hp_main (pcI := 4) (pcE := 18) (off := 9) (T := TX7) (av := [.int x]) (v0 := v0) ⟨hx, hb, hml, hown, hts, hK⟩ B.returns B.notSynchronized hEX hW hO hoh rfl sVL_append rfl (Nat.le_of_ble_eq_true rfl) hOC rfl (fun _ _ _ => rfl) ⟨Nat.le_of_ble_eq_true rfl, Nat.le_of_ble_eq_true rfl⟩ hl hX (show decode cL_append 4 = .ok (.invokevirtual 54, 3) by decide +kernel) (show decode cL_append 7 = .ok (.i2l, 1) by decide +kernel) (show decode cL_append 8 = .ok (.lastore, 1) by decide +kernel) (show decode cL_append 9 = .ok (.goto 9, 3) by decide +kernel) (by decide) (show decode cL_append 18 = .ok (.iconst 0, 1) by decide +kernel) (show decode cL_append 19 = .ok (.ireturn, 1) by decide +kernel)
theorem sVL_put : SitV RL 57 yX7_put cX7_put 3 (some .int) 1 := ⟨⟨(wb_3 236 (by decide +kernel) rfl), (wb_3 237 (by decide +kernel) rfl), (wb_3 238 (by decide +kernel) rfl), (wb_1 1 (by decide +kernel) rfl), (wb_3 239 (by decide +kernel) rfl)⟩, by decide +kernel⟩
abbrev rmL_put : Room := { frames := 8, cells := 1, slots := 6, locals := 126 }
abbrev hhL_put : List (Nat × Nat × Nat × Nat) := [(0, 9, 12, 19), (0, 9, 15, 13)]
theorem hc_put (l : Launch) {x : Int32} {I I2 : IM} {L L2 : LM} {code : Nat} {r : Int32} (hOC : OC (fun r => KX7_put l [.ref 0, .int x] I L r) (fun E => TX7_put l [.ref 0, .int x] I L E) [exB, exA] code (some (.int r)) I2 L2) (D : va_G) (cy : Nat → ClassId) (h o : Nat) (v0 : Int64) (hoh : h + 181 ≤ o) : vx_Met l yL_put (Cond.codeWith yL_put cL_put 4 (some .int) hhL_put :: WB) rmL_put (va_Pc [.ref h, .int x, .ref o] (HpP D cy h o v0 I L)) (HpQ D cy h o code r.toInt64 I2 L2) (fun _ _ _ => False) 1 6 (HpF h o) := by
  refine vx_ofWH (cc := cL_put) (maxL := 4) (ret := some .int) (hh := hhL_put) (by decide +kernel) rfl ?_
  intro p e s m args below meth c s₁ B hml hv
  obtain ⟨rfl, hW, hO, hK, hEX⟩ := hv
  have hts0 := atoms_spec (ws := Cond.codeWith yL_put cL_put 4 (some .int) hhL_put :: WB) B.pre
  have hts : ∀ w ∈ WB, w.before _ s = true := fun w hw => hts0 w (List.mem_cons_of_mem _ hw)
  have htb : c.exceptionTable.toList = tableOf hhL_put := vx_table (x := yL_put) B (hts0 _ List.mem_cons_self)
  have hown : s.vm.findClass RL = some m.cls := findClass_of_methodNamed B.named
  have hx := B.exec
  have hb := B.bytes
  have hl := lv_entry ([.ref h, .int x, .ref o] : List Value) (n := 4) (Nat.le_of_ble_eq_true rfl)
  rw [lg_entry_eq]
  generalize (lg_sl ([.ref h, .int x, .ref o] : List Value) ++ List.replicate (4 - (lg_sl ([.ref h, .int x, .ref o] : List Value)).length) Slot.unset).toArray = ls at hl ⊢
  have hl : lv_has ls 4 [(0, .ref h), (1, .int x), (2, .ref o)] := hl
  refine lv_aload_n hx hb (show decode cL_put 0 = .ok (.aload_n 2, 1) by decide +kernel) rfl (lv_at hl 2 rfl) ?_
  refine lv_iconst (v := 0) hx hb (show decode cL_put 1 = .ok (.iconst 0, 1) by decide +kernel) (by decide) ?_
  refine lv_aload_n hx hb (show decode cL_put 2 = .ok (.aload_n 0, 1) by decide +kernel) rfl (lv_at hl 0 rfl) ?_
  refine lv_iload_n hx hb (show decode cL_put 3 = .ok (.iload_n 1, 1) by decide +kernel) rfl (lv_at hl 1 rfl) ?_
  have hX : ∀ (i : Nat) (E : String), ([exB, exA] : List String)[i]? = some E → HdX cL_put 4 s 4 c.exceptionTable.toList i E := by
    intro i E hE
    rw [htb]
    match i, hE with
    | 0, hE => cases hE; exact ⟨[], ⟨0, 9, 12, 19⟩, [⟨0, 9, 15, 13⟩], rfl, fun z hz => absurd hz List.not_mem_nil, by decide, by decide, lk_B, cs_B, 13, Or.inl ⟨3, by decide +kernel, by decide, rfl⟩, by decide +kernel, by decide +kernel⟩
    | 1, hE => cases hE; exact ⟨[⟨0, 9, 12, 19⟩], ⟨0, 9, 15, 13⟩, [], rfl, fun z hz => by rw [List.mem_singleton.mp hz]; exact ⟨by decide, exB, lk_B, hEX.2.1⟩, by decide, by decide, lk_A, cs_A, 16, Or.inl ⟨3, by decide +kernel, by decide, rfl⟩, by decide +kernel, by decide +kernel⟩
    | k + 2, hE => simp at hE
  exact hp_main (pcI := 4) (pcE := 18) (off := 9) (T := TX7) (av := [.int x]) (v0 := v0) ⟨hx, hb, hml, hown, hts, hK⟩ B.returns B.notSynchronized hEX hW hO hoh rfl sVL_put rfl (Nat.le_of_ble_eq_true rfl) hOC rfl (fun _ _ _ => rfl) ⟨Nat.le_of_ble_eq_true rfl, Nat.le_of_ble_eq_true rfl⟩ hl hX (show decode cL_put 4 = .ok (.invokevirtual 57, 3) by decide +kernel) (show decode cL_put 7 = .ok (.i2l, 1) by decide +kernel) (show decode cL_put 8 = .ok (.lastore, 1) by decide +kernel) (show decode cL_put 9 = .ok (.goto 9, 3) by decide +kernel) (by decide) (show decode cL_put 18 = .ok (.iconst 0, 1) by decide +kernel) (show decode cL_put 19 = .ok (.ireturn, 1) by decide +kernel)
theorem sVL_take : SitV RL 60 yX7_take cX7_take 2 (some .int) 1 := ⟨⟨(wb_4 9 (by decide +kernel) rfl), (wb_4 10 (by decide +kernel) rfl), (wb_4 11 (by decide +kernel) rfl), (wb_1 1 (by decide +kernel) rfl), (wb_4 12 (by decide +kernel) rfl)⟩, by decide +kernel⟩
abbrev rmL_take : Room := { frames := 8, cells := 1, slots := 6, locals := 123 }
abbrev hhL_take : List (Nat × Nat × Nat × Nat) := [(0, 9, 12, 19)]
theorem hc_take (l : Launch) {x : Int32} {I I2 : IM} {L L2 : LM} {code : Nat} {r : Int32} (hOC : OC (fun r => KX7_take l [.ref 0, .int x] I L r) (fun E => TX7_take l [.ref 0, .int x] I L E) [exB] code (some (.int r)) I2 L2) (D : va_G) (cy : Nat → ClassId) (h o : Nat) (v0 : Int64) (hoh : h + 181 ≤ o) : vx_Met l yL_take (Cond.codeWith yL_take cL_take 4 (some .int) hhL_take :: WB) rmL_take (va_Pc [.ref h, .int x, .ref o] (HpP D cy h o v0 I L)) (HpQ D cy h o code r.toInt64 I2 L2) (fun _ _ _ => False) 1 6 (HpF h o) := by
  refine vx_ofWH (cc := cL_take) (maxL := 4) (ret := some .int) (hh := hhL_take) (by decide +kernel) rfl ?_
  intro p e s m args below meth c s₁ B hml hv
  obtain ⟨rfl, hW, hO, hK, hEX⟩ := hv
  have hts0 := atoms_spec (ws := Cond.codeWith yL_take cL_take 4 (some .int) hhL_take :: WB) B.pre
  have hts : ∀ w ∈ WB, w.before _ s = true := fun w hw => hts0 w (List.mem_cons_of_mem _ hw)
  have htb : c.exceptionTable.toList = tableOf hhL_take := vx_table (x := yL_take) B (hts0 _ List.mem_cons_self)
  have hown : s.vm.findClass RL = some m.cls := findClass_of_methodNamed B.named
  have hx := B.exec
  have hb := B.bytes
  have hl := lv_entry ([.ref h, .int x, .ref o] : List Value) (n := 4) (Nat.le_of_ble_eq_true rfl)
  rw [lg_entry_eq]
  generalize (lg_sl ([.ref h, .int x, .ref o] : List Value) ++ List.replicate (4 - (lg_sl ([.ref h, .int x, .ref o] : List Value)).length) Slot.unset).toArray = ls at hl ⊢
  have hl : lv_has ls 4 [(0, .ref h), (1, .int x), (2, .ref o)] := hl
  refine lv_aload_n hx hb (show decode cL_take 0 = .ok (.aload_n 2, 1) by decide +kernel) rfl (lv_at hl 2 rfl) ?_
  refine lv_iconst (v := 0) hx hb (show decode cL_take 1 = .ok (.iconst 0, 1) by decide +kernel) (by decide) ?_
  refine lv_aload_n hx hb (show decode cL_take 2 = .ok (.aload_n 0, 1) by decide +kernel) rfl (lv_at hl 0 rfl) ?_
  refine lv_iload_n hx hb (show decode cL_take 3 = .ok (.iload_n 1, 1) by decide +kernel) rfl (lv_at hl 1 rfl) ?_
  have hX : ∀ (i : Nat) (E : String), ([exB] : List String)[i]? = some E → HdX cL_take 4 s 4 c.exceptionTable.toList i E := by
    intro i E hE
    rw [htb]
    match i, hE with
    | 0, hE => cases hE; exact ⟨[], ⟨0, 9, 12, 19⟩, [], rfl, fun z hz => absurd hz List.not_mem_nil, by decide, by decide, lk_B, cs_B, 13, Or.inl ⟨3, by decide +kernel, by decide, rfl⟩, by decide +kernel, by decide +kernel⟩
    | k + 1, hE => simp at hE
  exact hp_main (pcI := 4) (pcE := 15) (off := 6) (T := TX7) (av := [.int x]) (v0 := v0) ⟨hx, hb, hml, hown, hts, hK⟩ B.returns B.notSynchronized hEX hW hO hoh rfl sVL_take rfl (Nat.le_of_ble_eq_true rfl) hOC rfl (fun _ _ _ => rfl) ⟨Nat.le_of_ble_eq_true rfl, Nat.le_of_ble_eq_true rfl⟩ hl hX (show decode cL_take 4 = .ok (.invokevirtual 60, 3) by decide +kernel) (show decode cL_take 7 = .ok (.i2l, 1) by decide +kernel) (show decode cL_take 8 = .ok (.lastore, 1) by decide +kernel) (show decode cL_take 9 = .ok (.goto 6, 3) by decide +kernel) (by decide) (show decode cL_take 15 = .ok (.iconst 0, 1) by decide +kernel) (show decode cL_take 16 = .ok (.ireturn, 1) by decide +kernel)
theorem sVL_restore : SitV RL 63 yX7_restore cX7_restore 2 (some .int) 1 := ⟨⟨(wb_4 21 (by decide +kernel) rfl), (wb_4 22 (by decide +kernel) rfl), (wb_4 23 (by decide +kernel) rfl), (wb_1 1 (by decide +kernel) rfl), (wb_4 24 (by decide +kernel) rfl)⟩, by decide +kernel⟩
abbrev rmL_restore : Room := { frames := 8, cells := 1, slots := 6, locals := 125 }
abbrev hhL_restore : List (Nat × Nat × Nat × Nat) := [(0, 9, 12, 19), (0, 9, 15, 31)]
theorem hc_restore (l : Launch) {x : Int32} {I I2 : IM} {L L2 : LM} {code : Nat} {r : Int32} (hOC : OC (fun r => KX7_restore l [.ref 0, .int x] I L r) (fun E => TX7_restore l [.ref 0, .int x] I L E) [exB, exS] code (some (.int r)) I2 L2) (D : va_G) (cy : Nat → ClassId) (h o : Nat) (v0 : Int64) (hoh : h + 181 ≤ o) : vx_Met l yL_restore (Cond.codeWith yL_restore cL_restore 4 (some .int) hhL_restore :: WB) rmL_restore (va_Pc [.ref h, .int x, .ref o] (HpP D cy h o v0 I L)) (HpQ D cy h o code r.toInt64 I2 L2) (fun _ _ _ => False) 1 6 (HpF h o) := by
  refine vx_ofWH (cc := cL_restore) (maxL := 4) (ret := some .int) (hh := hhL_restore) (by decide +kernel) rfl ?_
  intro p e s m args below meth c s₁ B hml hv
  obtain ⟨rfl, hW, hO, hK, hEX⟩ := hv
  have hts0 := atoms_spec (ws := Cond.codeWith yL_restore cL_restore 4 (some .int) hhL_restore :: WB) B.pre
  have hts : ∀ w ∈ WB, w.before _ s = true := fun w hw => hts0 w (List.mem_cons_of_mem _ hw)
  have htb : c.exceptionTable.toList = tableOf hhL_restore := vx_table (x := yL_restore) B (hts0 _ List.mem_cons_self)
  have hown : s.vm.findClass RL = some m.cls := findClass_of_methodNamed B.named
  have hx := B.exec
  have hb := B.bytes
  have hl := lv_entry ([.ref h, .int x, .ref o] : List Value) (n := 4) (Nat.le_of_ble_eq_true rfl)
  rw [lg_entry_eq]
  generalize (lg_sl ([.ref h, .int x, .ref o] : List Value) ++ List.replicate (4 - (lg_sl ([.ref h, .int x, .ref o] : List Value)).length) Slot.unset).toArray = ls at hl ⊢
  have hl : lv_has ls 4 [(0, .ref h), (1, .int x), (2, .ref o)] := hl
  refine lv_aload_n hx hb (show decode cL_restore 0 = .ok (.aload_n 2, 1) by decide +kernel) rfl (lv_at hl 2 rfl) ?_
  refine lv_iconst (v := 0) hx hb (show decode cL_restore 1 = .ok (.iconst 0, 1) by decide +kernel) (by decide) ?_
  refine lv_aload_n hx hb (show decode cL_restore 2 = .ok (.aload_n 0, 1) by decide +kernel) rfl (lv_at hl 0 rfl) ?_
  refine lv_iload_n hx hb (show decode cL_restore 3 = .ok (.iload_n 1, 1) by decide +kernel) rfl (lv_at hl 1 rfl) ?_
  have hX : ∀ (i : Nat) (E : String), ([exB, exS] : List String)[i]? = some E → HdX cL_restore 4 s 4 c.exceptionTable.toList i E := by
    intro i E hE
    rw [htb]
    match i, hE with
    | 0, hE => cases hE; exact ⟨[], ⟨0, 9, 12, 19⟩, [⟨0, 9, 15, 31⟩], rfl, fun z hz => absurd hz List.not_mem_nil, by decide, by decide, lk_B, cs_B, 13, Or.inl ⟨3, by decide +kernel, by decide, rfl⟩, by decide +kernel, by decide +kernel⟩
    | 1, hE => cases hE; exact ⟨[⟨0, 9, 12, 19⟩], ⟨0, 9, 15, 31⟩, [], rfl, fun z hz => by rw [List.mem_singleton.mp hz]; exact ⟨by decide, exB, lk_B, hEX.2.2.1⟩, by decide, by decide, lk_S, cs_S, 16, Or.inl ⟨3, by decide +kernel, by decide, rfl⟩, by decide +kernel, by decide +kernel⟩
    | k + 2, hE => simp at hE
  exact hp_main (pcI := 4) (pcE := 18) (off := 9) (T := TX7) (av := [.int x]) (v0 := v0) ⟨hx, hb, hml, hown, hts, hK⟩ B.returns B.notSynchronized hEX hW hO hoh rfl sVL_restore rfl (Nat.le_of_ble_eq_true rfl) hOC rfl (fun _ _ _ => rfl) ⟨Nat.le_of_ble_eq_true rfl, Nat.le_of_ble_eq_true rfl⟩ hl hX (show decode cL_restore 4 = .ok (.invokevirtual 63, 3) by decide +kernel) (show decode cL_restore 7 = .ok (.i2l, 1) by decide +kernel) (show decode cL_restore 8 = .ok (.lastore, 1) by decide +kernel) (show decode cL_restore 9 = .ok (.goto 9, 3) by decide +kernel) (by decide) (show decode cL_restore 18 = .ok (.iconst 0, 1) by decide +kernel) (show decode cL_restore 19 = .ok (.ireturn, 1) by decide +kernel)
theorem sVL_undo : SitV RL 66 yX7_undo cX7_undo 1 (some .int) 0 := ⟨⟨(wb_4 29 (by decide +kernel) rfl), (wb_4 30 (by decide +kernel) rfl), (wb_4 31 (by decide +kernel) rfl), (wb_1 1 (by decide +kernel) rfl), (wb_4 32 (by decide +kernel) rfl)⟩, by decide +kernel⟩
abbrev rmL_undo : Room := { frames := 7, cells := 1, slots := 6, locals := 124 }
abbrev hhL_undo : List (Nat × Nat × Nat × Nat) := [(0, 8, 11, 31)]
theorem hc_undo (l : Launch) {I I2 : IM} {L L2 : LM} {code : Nat} {r : Int32} (hOC : OC (fun r => KX7_undo l [.ref 0] I L r) (fun E => TX7_undo l [.ref 0] I L E) [exS] code (some (.int r)) I2 L2) (D : va_G) (cy : Nat → ClassId) (h o : Nat) (v0 : Int64) (hoh : h + 181 ≤ o) : vx_Met l yL_undo (Cond.codeWith yL_undo cL_undo 3 (some .int) hhL_undo :: WB) rmL_undo (va_Pc [.ref h, .ref o] (HpP D cy h o v0 I L)) (HpQ D cy h o code r.toInt64 I2 L2) (fun _ _ _ => False) 1 6 (HpF h o) := by
  refine vx_ofWH (cc := cL_undo) (maxL := 3) (ret := some .int) (hh := hhL_undo) (by decide +kernel) rfl ?_
  intro p e s m args below meth c s₁ B hml hv
  obtain ⟨rfl, hW, hO, hK, hEX⟩ := hv
  have hts0 := atoms_spec (ws := Cond.codeWith yL_undo cL_undo 3 (some .int) hhL_undo :: WB) B.pre
  have hts : ∀ w ∈ WB, w.before _ s = true := fun w hw => hts0 w (List.mem_cons_of_mem _ hw)
  have htb : c.exceptionTable.toList = tableOf hhL_undo := vx_table (x := yL_undo) B (hts0 _ List.mem_cons_self)
  have hown : s.vm.findClass RL = some m.cls := findClass_of_methodNamed B.named
  have hx := B.exec
  have hb := B.bytes
  have hl := lv_entry ([.ref h, .ref o] : List Value) (n := 3) (Nat.le_of_ble_eq_true rfl)
  rw [lg_entry_eq]
  generalize (lg_sl ([.ref h, .ref o] : List Value) ++ List.replicate (3 - (lg_sl ([.ref h, .ref o] : List Value)).length) Slot.unset).toArray = ls at hl ⊢
  have hl : lv_has ls 3 [(0, .ref h), (1, .ref o)] := hl
  refine lv_aload_n hx hb (show decode cL_undo 0 = .ok (.aload_n 1, 1) by decide +kernel) rfl (lv_at hl 1 rfl) ?_
  refine lv_iconst (v := 0) hx hb (show decode cL_undo 1 = .ok (.iconst 0, 1) by decide +kernel) (by decide) ?_
  refine lv_aload_n hx hb (show decode cL_undo 2 = .ok (.aload_n 0, 1) by decide +kernel) rfl (lv_at hl 0 rfl) ?_
  have hX : ∀ (i : Nat) (E : String), ([exS] : List String)[i]? = some E → HdX cL_undo 3 s 3 c.exceptionTable.toList i E := by
    intro i E hE
    rw [htb]
    match i, hE with
    | 0, hE => cases hE; exact ⟨[], ⟨0, 8, 11, 31⟩, [], rfl, fun z hz => absurd hz List.not_mem_nil, by decide, by decide, lk_S, cs_S, 12, Or.inl ⟨2, by decide +kernel, by decide, rfl⟩, by decide +kernel, by decide +kernel⟩
    | k + 1, hE => simp at hE
  exact hp_main (pcI := 3) (pcE := 14) (off := 6) (T := TX7) (av := []) (v0 := v0) ⟨hx, hb, hml, hown, hts, hK⟩ B.returns B.notSynchronized hEX hW hO hoh rfl sVL_undo rfl (Nat.le_of_ble_eq_true rfl) hOC rfl (fun _ _ _ => rfl) ⟨Nat.le_of_ble_eq_true rfl, Nat.le_of_ble_eq_true rfl⟩ hl hX (show decode cL_undo 3 = .ok (.invokevirtual 66, 3) by decide +kernel) (show decode cL_undo 6 = .ok (.i2l, 1) by decide +kernel) (show decode cL_undo 7 = .ok (.lastore, 1) by decide +kernel) (show decode cL_undo 8 = .ok (.goto 6, 3) by decide +kernel) (by decide) (show decode cL_undo 14 = .ok (.iconst 0, 1) by decide +kernel) (show decode cL_undo 15 = .ok (.ireturn, 1) by decide +kernel)
theorem sVL_coefficient : SitV RL 70 yX7_coefficient cX7_coefficient 3 (some .int) 2 := ⟨⟨(wb_4 41 (by decide +kernel) rfl), (wb_4 42 (by decide +kernel) rfl), (wb_4 43 (by decide +kernel) rfl), (wb_1 1 (by decide +kernel) rfl), (wb_4 44 (by decide +kernel) rfl)⟩, by decide +kernel⟩
abbrev rmL_coefficient : Room := { frames := 8, cells := 1, slots := 6, locals := 125 }
abbrev hhL_coefficient : List (Nat × Nat × Nat × Nat) := [(0, 10, 13, 19)]
theorem hc_coefficient (l : Launch) {x y : Int32} {I I2 : IM} {L L2 : LM} {code : Nat} {r : Int32} (hOC : OC (fun r => KX7_coefficient l [.ref 0, .int x, .int y] I L r) (fun E => TX7_coefficient l [.ref 0, .int x, .int y] I L E) [exB] code (some (.int r)) I2 L2) (D : va_G) (cy : Nat → ClassId) (h o : Nat) (v0 : Int64) (hoh : h + 181 ≤ o) : vx_Met l yL_coefficient (Cond.codeWith yL_coefficient cL_coefficient 5 (some .int) hhL_coefficient :: WB) rmL_coefficient (va_Pc [.ref h, .int x, .int y, .ref o] (HpP D cy h o v0 I L)) (HpQ D cy h o code r.toInt64 I2 L2) (fun _ _ _ => False) 1 6 (HpF h o) := by
  refine vx_ofWH (cc := cL_coefficient) (maxL := 5) (ret := some .int) (hh := hhL_coefficient) (by decide +kernel) rfl ?_
  intro p e s m args below meth c s₁ B hml hv
  obtain ⟨rfl, hW, hO, hK, hEX⟩ := hv
  have hts0 := atoms_spec (ws := Cond.codeWith yL_coefficient cL_coefficient 5 (some .int) hhL_coefficient :: WB) B.pre
  have hts : ∀ w ∈ WB, w.before _ s = true := fun w hw => hts0 w (List.mem_cons_of_mem _ hw)
  have htb : c.exceptionTable.toList = tableOf hhL_coefficient := vx_table (x := yL_coefficient) B (hts0 _ List.mem_cons_self)
  have hown : s.vm.findClass RL = some m.cls := findClass_of_methodNamed B.named
  have hx := B.exec
  have hb := B.bytes
  have hl := lv_entry ([.ref h, .int x, .int y, .ref o] : List Value) (n := 5) (Nat.le_of_ble_eq_true rfl)
  rw [lg_entry_eq]
  generalize (lg_sl ([.ref h, .int x, .int y, .ref o] : List Value) ++ List.replicate (5 - (lg_sl ([.ref h, .int x, .int y, .ref o] : List Value)).length) Slot.unset).toArray = ls at hl ⊢
  have hl : lv_has ls 5 [(0, .ref h), (1, .int x), (2, .int y), (3, .ref o)] := hl
  refine lv_aload_n hx hb (show decode cL_coefficient 0 = .ok (.aload_n 3, 1) by decide +kernel) rfl (lv_at hl 3 rfl) ?_
  refine lv_iconst (v := 0) hx hb (show decode cL_coefficient 1 = .ok (.iconst 0, 1) by decide +kernel) (by decide) ?_
  refine lv_aload_n hx hb (show decode cL_coefficient 2 = .ok (.aload_n 0, 1) by decide +kernel) rfl (lv_at hl 0 rfl) ?_
  refine lv_iload_n hx hb (show decode cL_coefficient 3 = .ok (.iload_n 1, 1) by decide +kernel) rfl (lv_at hl 1 rfl) ?_
  refine lv_iload_n hx hb (show decode cL_coefficient 4 = .ok (.iload_n 2, 1) by decide +kernel) rfl (lv_at hl 2 rfl) ?_
  have hX : ∀ (i : Nat) (E : String), ([exB] : List String)[i]? = some E → HdX cL_coefficient 5 s 5 c.exceptionTable.toList i E := by
    intro i E hE
    rw [htb]
    match i, hE with
    | 0, hE => cases hE; exact ⟨[], ⟨0, 10, 13, 19⟩, [], rfl, fun z hz => absurd hz List.not_mem_nil, by decide, by decide, lk_B, cs_B, 15, Or.inr ⟨4, by decide +kernel, by decide, rfl⟩, by decide +kernel, by decide +kernel⟩
    | k + 1, hE => simp at hE
  exact hp_main (pcI := 5) (pcE := 17) (off := 7) (T := TX7) (av := [.int x, .int y]) (v0 := v0) ⟨hx, hb, hml, hown, hts, hK⟩ B.returns B.notSynchronized hEX hW hO hoh rfl sVL_coefficient rfl (Nat.le_of_ble_eq_true rfl) hOC rfl (fun _ _ _ => rfl) ⟨Nat.le_of_ble_eq_true rfl, Nat.le_of_ble_eq_true rfl⟩ hl hX (show decode cL_coefficient 5 = .ok (.invokevirtual 70, 3) by decide +kernel) (show decode cL_coefficient 8 = .ok (.i2l, 1) by decide +kernel) (show decode cL_coefficient 9 = .ok (.lastore, 1) by decide +kernel) (show decode cL_coefficient 10 = .ok (.goto 7, 3) by decide +kernel) (by decide) (show decode cL_coefficient 17 = .ok (.iconst 0, 1) by decide +kernel) (show decode cL_coefficient 18 = .ok (.ireturn, 1) by decide +kernel)
theorem sVL_form : SitV RL 73 yX7_form cX7_form 3 (some .int) 2 := ⟨⟨(wb_4 48 (by decide +kernel) rfl), (wb_4 49 (by decide +kernel) rfl), (wb_4 50 (by decide +kernel) rfl), (wb_1 1 (by decide +kernel) rfl), (wb_4 51 (by decide +kernel) rfl)⟩, by decide +kernel⟩
abbrev rmL_form : Room := { frames := 8, cells := 1, slots := 6, locals := 124 }
abbrev hhL_form : List (Nat × Nat × Nat × Nat) := [(0, 10, 13, 19), (0, 10, 17, 13)]
theorem hc_form (l : Launch) {x y : Int32} {I I2 : IM} {L L2 : LM} {code : Nat} {r : Int32} (hOC : OC (fun r => KX7_form l [.ref 0, .int x, .int y] I L r) (fun E => TX7_form l [.ref 0, .int x, .int y] I L E) [exB, exA] code (some (.int r)) I2 L2) (D : va_G) (cy : Nat → ClassId) (h o : Nat) (v0 : Int64) (hoh : h + 181 ≤ o) : vx_Met l yL_form (Cond.codeWith yL_form cL_form 5 (some .int) hhL_form :: WB) rmL_form (va_Pc [.ref h, .int x, .int y, .ref o] (HpP D cy h o v0 I L)) (HpQ D cy h o code r.toInt64 I2 L2) (fun _ _ _ => False) 1 6 (HpF h o) := by
  refine vx_ofWH (cc := cL_form) (maxL := 5) (ret := some .int) (hh := hhL_form) (by decide +kernel) rfl ?_
  intro p e s m args below meth c s₁ B hml hv
  obtain ⟨rfl, hW, hO, hK, hEX⟩ := hv
  have hts0 := atoms_spec (ws := Cond.codeWith yL_form cL_form 5 (some .int) hhL_form :: WB) B.pre
  have hts : ∀ w ∈ WB, w.before _ s = true := fun w hw => hts0 w (List.mem_cons_of_mem _ hw)
  have htb : c.exceptionTable.toList = tableOf hhL_form := vx_table (x := yL_form) B (hts0 _ List.mem_cons_self)
  have hown : s.vm.findClass RL = some m.cls := findClass_of_methodNamed B.named
  have hx := B.exec
  have hb := B.bytes
  have hl := lv_entry ([.ref h, .int x, .int y, .ref o] : List Value) (n := 5) (Nat.le_of_ble_eq_true rfl)
  rw [lg_entry_eq]
  generalize (lg_sl ([.ref h, .int x, .int y, .ref o] : List Value) ++ List.replicate (5 - (lg_sl ([.ref h, .int x, .int y, .ref o] : List Value)).length) Slot.unset).toArray = ls at hl ⊢
  have hl : lv_has ls 5 [(0, .ref h), (1, .int x), (2, .int y), (3, .ref o)] := hl
  refine lv_aload_n hx hb (show decode cL_form 0 = .ok (.aload_n 3, 1) by decide +kernel) rfl (lv_at hl 3 rfl) ?_
  refine lv_iconst (v := 0) hx hb (show decode cL_form 1 = .ok (.iconst 0, 1) by decide +kernel) (by decide) ?_
  refine lv_aload_n hx hb (show decode cL_form 2 = .ok (.aload_n 0, 1) by decide +kernel) rfl (lv_at hl 0 rfl) ?_
  refine lv_iload_n hx hb (show decode cL_form 3 = .ok (.iload_n 1, 1) by decide +kernel) rfl (lv_at hl 1 rfl) ?_
  refine lv_iload_n hx hb (show decode cL_form 4 = .ok (.iload_n 2, 1) by decide +kernel) rfl (lv_at hl 2 rfl) ?_
  have hX : ∀ (i : Nat) (E : String), ([exB, exA] : List String)[i]? = some E → HdX cL_form 5 s 5 c.exceptionTable.toList i E := by
    intro i E hE
    rw [htb]
    match i, hE with
    | 0, hE => cases hE; exact ⟨[], ⟨0, 10, 13, 19⟩, [⟨0, 10, 17, 13⟩], rfl, fun z hz => absurd hz List.not_mem_nil, by decide, by decide, lk_B, cs_B, 15, Or.inr ⟨4, by decide +kernel, by decide, rfl⟩, by decide +kernel, by decide +kernel⟩
    | 1, hE => cases hE; exact ⟨[⟨0, 10, 13, 19⟩], ⟨0, 10, 17, 13⟩, [], rfl, fun z hz => by rw [List.mem_singleton.mp hz]; exact ⟨by decide, exB, lk_B, hEX.2.1⟩, by decide, by decide, lk_A, cs_A, 19, Or.inr ⟨4, by decide +kernel, by decide, rfl⟩, by decide +kernel, by decide +kernel⟩
    | k + 2, hE => simp at hE
  exact hp_main (pcI := 5) (pcE := 21) (off := 11) (T := TX7) (av := [.int x, .int y]) (v0 := v0) ⟨hx, hb, hml, hown, hts, hK⟩ B.returns B.notSynchronized hEX hW hO hoh rfl sVL_form rfl (Nat.le_of_ble_eq_true rfl) hOC rfl (fun _ _ _ => rfl) ⟨Nat.le_of_ble_eq_true rfl, Nat.le_of_ble_eq_true rfl⟩ hl hX (show decode cL_form 5 = .ok (.invokevirtual 73, 3) by decide +kernel) (show decode cL_form 8 = .ok (.i2l, 1) by decide +kernel) (show decode cL_form 9 = .ok (.lastore, 1) by decide +kernel) (show decode cL_form 10 = .ok (.goto 11, 3) by decide +kernel) (by decide) (show decode cL_form 21 = .ok (.iconst 0, 1) by decide +kernel) (show decode cL_form 22 = .ok (.ireturn, 1) by decide +kernel)
theorem sVL_inner : SitV RL 76 yX7_inner cX7_inner 3 (some .long) 2 := ⟨⟨(wb_4 56 (by decide +kernel) rfl), (wb_2 221 (by decide +kernel) rfl), (wb_2 222 (by decide +kernel) rfl), (wb_1 1 (by decide +kernel) rfl), (wb_2 223 (by decide +kernel) rfl)⟩, by decide +kernel⟩
abbrev rmL_inner : Room := { frames := 8, cells := 1, slots := 6, locals := 124 }
abbrev hhL_inner : List (Nat × Nat × Nat × Nat) := [(0, 9, 12, 19)]
theorem hc_inner (l : Launch) {x y : Int32} {I I2 : IM} {L L2 : LM} {code : Nat} {r : Int64} (hOC : OC (fun r => KX7_inner l [.ref 0, .int x, .int y] I L r) (fun E => TX7_inner l [.ref 0, .int x, .int y] I L E) [exB] code (some (.long r)) I2 L2) (D : va_G) (cy : Nat → ClassId) (h o : Nat) (v0 : Int64) (hoh : h + 181 ≤ o) : vx_Met l yL_inner (Cond.codeWith yL_inner cL_inner 5 (some .int) hhL_inner :: WB) rmL_inner (va_Pc [.ref h, .int x, .int y, .ref o] (HpP D cy h o v0 I L)) (HpQ D cy h o code r I2 L2) (fun _ _ _ => False) 1 6 (HpF h o) := by
  refine vx_ofWH (cc := cL_inner) (maxL := 5) (ret := some .int) (hh := hhL_inner) (by decide +kernel) rfl ?_
  intro p e s m args below meth c s₁ B hml hv
  obtain ⟨rfl, hW, hO, hK, hEX⟩ := hv
  have hts0 := atoms_spec (ws := Cond.codeWith yL_inner cL_inner 5 (some .int) hhL_inner :: WB) B.pre
  have hts : ∀ w ∈ WB, w.before _ s = true := fun w hw => hts0 w (List.mem_cons_of_mem _ hw)
  have htb : c.exceptionTable.toList = tableOf hhL_inner := vx_table (x := yL_inner) B (hts0 _ List.mem_cons_self)
  have hown : s.vm.findClass RL = some m.cls := findClass_of_methodNamed B.named
  have hx := B.exec
  have hb := B.bytes
  have hl := lv_entry ([.ref h, .int x, .int y, .ref o] : List Value) (n := 5) (Nat.le_of_ble_eq_true rfl)
  rw [lg_entry_eq]
  generalize (lg_sl ([.ref h, .int x, .int y, .ref o] : List Value) ++ List.replicate (5 - (lg_sl ([.ref h, .int x, .int y, .ref o] : List Value)).length) Slot.unset).toArray = ls at hl ⊢
  have hl : lv_has ls 5 [(0, .ref h), (1, .int x), (2, .int y), (3, .ref o)] := hl
  refine lv_aload_n hx hb (show decode cL_inner 0 = .ok (.aload_n 3, 1) by decide +kernel) rfl (lv_at hl 3 rfl) ?_
  refine lv_iconst (v := 0) hx hb (show decode cL_inner 1 = .ok (.iconst 0, 1) by decide +kernel) (by decide) ?_
  refine lv_aload_n hx hb (show decode cL_inner 2 = .ok (.aload_n 0, 1) by decide +kernel) rfl (lv_at hl 0 rfl) ?_
  refine lv_iload_n hx hb (show decode cL_inner 3 = .ok (.iload_n 1, 1) by decide +kernel) rfl (lv_at hl 1 rfl) ?_
  refine lv_iload_n hx hb (show decode cL_inner 4 = .ok (.iload_n 2, 1) by decide +kernel) rfl (lv_at hl 2 rfl) ?_
  have hX : ∀ (i : Nat) (E : String), ([exB] : List String)[i]? = some E → HdX cL_inner 5 s 5 c.exceptionTable.toList i E := by
    intro i E hE
    rw [htb]
    match i, hE with
    | 0, hE => cases hE; exact ⟨[], ⟨0, 9, 12, 19⟩, [], rfl, fun z hz => absurd hz List.not_mem_nil, by decide, by decide, lk_B, cs_B, 14, Or.inr ⟨4, by decide +kernel, by decide, rfl⟩, by decide +kernel, by decide +kernel⟩
    | k + 1, hE => simp at hE
  exact hp_mainL (pcI := 5) (pcE := 16) (off := 7) (T := TX7) (av := [.int x, .int y]) (v0 := v0) ⟨hx, hb, hml, hown, hts, hK⟩ B.returns B.notSynchronized hEX hW hO hoh rfl sVL_inner rfl (Nat.le_of_ble_eq_true rfl) hOC rfl (fun _ _ _ => rfl) ⟨Nat.le_of_ble_eq_true rfl, Nat.le_of_ble_eq_true rfl⟩ hl hX (show decode cL_inner 5 = .ok (.invokevirtual 76, 3) by decide +kernel) (show decode cL_inner 8 = .ok (.lastore, 1) by decide +kernel) (show decode cL_inner 9 = .ok (.goto 7, 3) by decide +kernel) (by decide) (show decode cL_inner 16 = .ok (.iconst 0, 1) by decide +kernel) (show decode cL_inner 17 = .ok (.ireturn, 1) by decide +kernel)
theorem sVL_decomposable : SitV RL 80 yX7_decomposable cX7_decomposable 3 (some .int) 2 := ⟨⟨(wb_4 60 (by decide +kernel) rfl), (wb_4 61 (by decide +kernel) rfl), (wb_4 62 (by decide +kernel) rfl), (wb_1 1 (by decide +kernel) rfl), (wb_4 63 (by decide +kernel) rfl)⟩, by decide +kernel⟩
abbrev rmL_decomposable : Room := { frames := 8, cells := 1, slots := 6, locals := 166 }
abbrev hhL_decomposable : List (Nat × Nat × Nat × Nat) := [(0, 10, 13, 19), (0, 10, 17, 13)]
theorem hc_decomposable (l : Launch) {x y : Int32} {I I2 : IM} {L L2 : LM} {code : Nat} {r : Int32} (hOC : OC (fun r => KX7_decomposable l [.ref 0, .int x, .int y] I L r) (fun E => TX7_decomposable l [.ref 0, .int x, .int y] I L E) [exB, exA] code (some (.int r)) I2 L2) (D : va_G) (cy : Nat → ClassId) (h o : Nat) (v0 : Int64) (hoh : h + 181 ≤ o) : vx_Met l yL_decomposable (Cond.codeWith yL_decomposable cL_decomposable 5 (some .int) hhL_decomposable :: WB) rmL_decomposable (va_Pc [.ref h, .int x, .int y, .ref o] (HpP D cy h o v0 I L)) (HpQ D cy h o code r.toInt64 I2 L2) (fun _ _ _ => False) 1 6 (HpF h o) := by
  refine vx_ofWH (cc := cL_decomposable) (maxL := 5) (ret := some .int) (hh := hhL_decomposable) (by decide +kernel) rfl ?_
  intro p e s m args below meth c s₁ B hml hv
  obtain ⟨rfl, hW, hO, hK, hEX⟩ := hv
  have hts0 := atoms_spec (ws := Cond.codeWith yL_decomposable cL_decomposable 5 (some .int) hhL_decomposable :: WB) B.pre
  have hts : ∀ w ∈ WB, w.before _ s = true := fun w hw => hts0 w (List.mem_cons_of_mem _ hw)
  have htb : c.exceptionTable.toList = tableOf hhL_decomposable := vx_table (x := yL_decomposable) B (hts0 _ List.mem_cons_self)
  have hown : s.vm.findClass RL = some m.cls := findClass_of_methodNamed B.named
  have hx := B.exec
  have hb := B.bytes
  have hl := lv_entry ([.ref h, .int x, .int y, .ref o] : List Value) (n := 5) (Nat.le_of_ble_eq_true rfl)
  rw [lg_entry_eq]
  generalize (lg_sl ([.ref h, .int x, .int y, .ref o] : List Value) ++ List.replicate (5 - (lg_sl ([.ref h, .int x, .int y, .ref o] : List Value)).length) Slot.unset).toArray = ls at hl ⊢
  have hl : lv_has ls 5 [(0, .ref h), (1, .int x), (2, .int y), (3, .ref o)] := hl
  refine lv_aload_n hx hb (show decode cL_decomposable 0 = .ok (.aload_n 3, 1) by decide +kernel) rfl (lv_at hl 3 rfl) ?_
  refine lv_iconst (v := 0) hx hb (show decode cL_decomposable 1 = .ok (.iconst 0, 1) by decide +kernel) (by decide) ?_
  refine lv_aload_n hx hb (show decode cL_decomposable 2 = .ok (.aload_n 0, 1) by decide +kernel) rfl (lv_at hl 0 rfl) ?_
  refine lv_iload_n hx hb (show decode cL_decomposable 3 = .ok (.iload_n 1, 1) by decide +kernel) rfl (lv_at hl 1 rfl) ?_
  refine lv_iload_n hx hb (show decode cL_decomposable 4 = .ok (.iload_n 2, 1) by decide +kernel) rfl (lv_at hl 2 rfl) ?_
  have hX : ∀ (i : Nat) (E : String), ([exB, exA] : List String)[i]? = some E → HdX cL_decomposable 5 s 5 c.exceptionTable.toList i E := by
    intro i E hE
    rw [htb]
    match i, hE with
    | 0, hE => cases hE; exact ⟨[], ⟨0, 10, 13, 19⟩, [⟨0, 10, 17, 13⟩], rfl, fun z hz => absurd hz List.not_mem_nil, by decide, by decide, lk_B, cs_B, 15, Or.inr ⟨4, by decide +kernel, by decide, rfl⟩, by decide +kernel, by decide +kernel⟩
    | 1, hE => cases hE; exact ⟨[⟨0, 10, 13, 19⟩], ⟨0, 10, 17, 13⟩, [], rfl, fun z hz => by rw [List.mem_singleton.mp hz]; exact ⟨by decide, exB, lk_B, hEX.2.1⟩, by decide, by decide, lk_A, cs_A, 19, Or.inr ⟨4, by decide +kernel, by decide, rfl⟩, by decide +kernel, by decide +kernel⟩
    | k + 2, hE => simp at hE
  exact hp_main (pcI := 5) (pcE := 21) (off := 11) (T := TX7) (av := [.int x, .int y]) (v0 := v0) ⟨hx, hb, hml, hown, hts, hK⟩ B.returns B.notSynchronized hEX hW hO hoh rfl sVL_decomposable rfl (Nat.le_of_ble_eq_true rfl) hOC rfl (fun _ _ _ => rfl) ⟨Nat.le_of_ble_eq_true rfl, Nat.le_of_ble_eq_true rfl⟩ hl hX (show decode cL_decomposable 5 = .ok (.invokevirtual 80, 3) by decide +kernel) (show decode cL_decomposable 8 = .ok (.i2l, 1) by decide +kernel) (show decode cL_decomposable 9 = .ok (.lastore, 1) by decide +kernel) (show decode cL_decomposable 10 = .ok (.goto 11, 3) by decide +kernel) (by decide) (show decode cL_decomposable 21 = .ok (.iconst 0, 1) by decide +kernel) (show decode cL_decomposable 22 = .ok (.ireturn, 1) by decide +kernel)
theorem sVL_factor : SitV RL 83 yX7_factor cX7_factor 4 (some .int) 3 := ⟨⟨(wb_4 68 (by decide +kernel) rfl), (wb_4 69 (by decide +kernel) rfl), (wb_4 70 (by decide +kernel) rfl), (wb_1 1 (by decide +kernel) rfl), (wb_4 71 (by decide +kernel) rfl)⟩, by decide +kernel⟩
abbrev rmL_factor : Room := { frames := 8, cells := 1, slots := 6, locals := 160 }
abbrev hhL_factor : List (Nat × Nat × Nat × Nat) := [(0, 12, 15, 19), (0, 12, 19, 13)]
theorem hc_factor (l : Launch) {x y w : Int32} {I I2 : IM} {L L2 : LM} {code : Nat} {r : Int32} (hOC : OC (fun r => KX7_factor l [.ref 0, .int x, .int y, .int w] I L r) (fun E => TX7_factor l [.ref 0, .int x, .int y, .int w] I L E) [exB, exA] code (some (.int r)) I2 L2) (D : va_G) (cy : Nat → ClassId) (h o : Nat) (v0 : Int64) (hoh : h + 181 ≤ o) : vx_Met l yL_factor (Cond.codeWith yL_factor cL_factor 6 (some .int) hhL_factor :: WB) rmL_factor (va_Pc [.ref h, .int x, .int y, .int w, .ref o] (HpP D cy h o v0 I L)) (HpQ D cy h o code r.toInt64 I2 L2) (fun _ _ _ => False) 1 6 (HpF h o) := by
  refine vx_ofWH (cc := cL_factor) (maxL := 6) (ret := some .int) (hh := hhL_factor) (by decide +kernel) rfl ?_
  intro p e s m args below meth c s₁ B hml hv
  obtain ⟨rfl, hW, hO, hK, hEX⟩ := hv
  have hts0 := atoms_spec (ws := Cond.codeWith yL_factor cL_factor 6 (some .int) hhL_factor :: WB) B.pre
  have hts : ∀ w ∈ WB, w.before _ s = true := fun w hw => hts0 w (List.mem_cons_of_mem _ hw)
  have htb : c.exceptionTable.toList = tableOf hhL_factor := vx_table (x := yL_factor) B (hts0 _ List.mem_cons_self)
  have hown : s.vm.findClass RL = some m.cls := findClass_of_methodNamed B.named
  have hx := B.exec
  have hb := B.bytes
  have hl := lv_entry ([.ref h, .int x, .int y, .int w, .ref o] : List Value) (n := 6) (Nat.le_of_ble_eq_true rfl)
  rw [lg_entry_eq]
  generalize (lg_sl ([.ref h, .int x, .int y, .int w, .ref o] : List Value) ++ List.replicate (6 - (lg_sl ([.ref h, .int x, .int y, .int w, .ref o] : List Value)).length) Slot.unset).toArray = ls at hl ⊢
  have hl : lv_has ls 6 [(0, .ref h), (1, .int x), (2, .int y), (3, .int w), (4, .ref o)] := hl
  refine lv_aload hx hb (show decode cL_factor 0 = .ok (.aload 4, 2) by decide +kernel) (lv_at hl 4 rfl) ?_
  refine lv_iconst (v := 0) hx hb (show decode cL_factor 2 = .ok (.iconst 0, 1) by decide +kernel) (by decide) ?_
  refine lv_aload_n hx hb (show decode cL_factor 3 = .ok (.aload_n 0, 1) by decide +kernel) rfl (lv_at hl 0 rfl) ?_
  refine lv_iload_n hx hb (show decode cL_factor 4 = .ok (.iload_n 1, 1) by decide +kernel) rfl (lv_at hl 1 rfl) ?_
  refine lv_iload_n hx hb (show decode cL_factor 5 = .ok (.iload_n 2, 1) by decide +kernel) rfl (lv_at hl 2 rfl) ?_
  refine lv_iload_n hx hb (show decode cL_factor 6 = .ok (.iload_n 3, 1) by decide +kernel) rfl (lv_at hl 3 rfl) ?_
  have hX : ∀ (i : Nat) (E : String), ([exB, exA] : List String)[i]? = some E → HdX cL_factor 6 s 7 c.exceptionTable.toList i E := by
    intro i E hE
    rw [htb]
    match i, hE with
    | 0, hE => cases hE; exact ⟨[], ⟨0, 12, 15, 19⟩, [⟨0, 12, 19, 13⟩], rfl, fun z hz => absurd hz List.not_mem_nil, by decide, by decide, lk_B, cs_B, 17, Or.inr ⟨5, by decide +kernel, by decide, rfl⟩, by decide +kernel, by decide +kernel⟩
    | 1, hE => cases hE; exact ⟨[⟨0, 12, 15, 19⟩], ⟨0, 12, 19, 13⟩, [], rfl, fun z hz => by rw [List.mem_singleton.mp hz]; exact ⟨by decide, exB, lk_B, hEX.2.1⟩, by decide, by decide, lk_A, cs_A, 21, Or.inr ⟨5, by decide +kernel, by decide, rfl⟩, by decide +kernel, by decide +kernel⟩
    | k + 2, hE => simp at hE
  exact hp_main (pcI := 7) (pcE := 23) (off := 11) (T := TX7) (av := [.int x, .int y, .int w]) (v0 := v0) ⟨hx, hb, hml, hown, hts, hK⟩ B.returns B.notSynchronized hEX hW hO hoh rfl sVL_factor rfl (Nat.le_of_ble_eq_true rfl) hOC rfl (fun _ _ _ => rfl) ⟨Nat.le_of_ble_eq_true rfl, Nat.le_of_ble_eq_true rfl⟩ hl hX (show decode cL_factor 7 = .ok (.invokevirtual 83, 3) by decide +kernel) (show decode cL_factor 10 = .ok (.i2l, 1) by decide +kernel) (show decode cL_factor 11 = .ok (.lastore, 1) by decide +kernel) (show decode cL_factor 12 = .ok (.goto 11, 3) by decide +kernel) (by decide) (show decode cL_factor 23 = .ok (.iconst 0, 1) by decide +kernel) (show decode cL_factor 24 = .ok (.ireturn, 1) by decide +kernel)
theorem sVL_annihilator : SitV RL 86 yX7_annihilator cX7_annihilator 2 (some .int) 1 := ⟨⟨(wb_4 83 (by decide +kernel) rfl), (wb_4 84 (by decide +kernel) rfl), (wb_4 85 (by decide +kernel) rfl), (wb_1 1 (by decide +kernel) rfl), (wb_4 86 (by decide +kernel) rfl)⟩, by decide +kernel⟩
abbrev rmL_annihilator : Room := { frames := 8, cells := 1, slots := 6, locals := 141 }
abbrev hhL_annihilator : List (Nat × Nat × Nat × Nat) := [(0, 9, 12, 19)]
theorem hc_annihilator (l : Launch) {x : Int32} {I I2 : IM} {L L2 : LM} {code : Nat} {r : Int32} (hOC : OC (fun r => KX7_annihilator l [.ref 0, .int x] I L r) (fun E => TX7_annihilator l [.ref 0, .int x] I L E) [exB] code (some (.int r)) I2 L2) (D : va_G) (cy : Nat → ClassId) (h o : Nat) (v0 : Int64) (hoh : h + 181 ≤ o) : vx_Met l yL_annihilator (Cond.codeWith yL_annihilator cL_annihilator 4 (some .int) hhL_annihilator :: WB) rmL_annihilator (va_Pc [.ref h, .int x, .ref o] (HpP D cy h o v0 I L)) (HpQ D cy h o code r.toInt64 I2 L2) (fun _ _ _ => False) 1 6 (HpF h o) := by
  refine vx_ofWH (cc := cL_annihilator) (maxL := 4) (ret := some .int) (hh := hhL_annihilator) (by decide +kernel) rfl ?_
  intro p e s m args below meth c s₁ B hml hv
  obtain ⟨rfl, hW, hO, hK, hEX⟩ := hv
  have hts0 := atoms_spec (ws := Cond.codeWith yL_annihilator cL_annihilator 4 (some .int) hhL_annihilator :: WB) B.pre
  have hts : ∀ w ∈ WB, w.before _ s = true := fun w hw => hts0 w (List.mem_cons_of_mem _ hw)
  have htb : c.exceptionTable.toList = tableOf hhL_annihilator := vx_table (x := yL_annihilator) B (hts0 _ List.mem_cons_self)
  have hown : s.vm.findClass RL = some m.cls := findClass_of_methodNamed B.named
  have hx := B.exec
  have hb := B.bytes
  have hl := lv_entry ([.ref h, .int x, .ref o] : List Value) (n := 4) (Nat.le_of_ble_eq_true rfl)
  rw [lg_entry_eq]
  generalize (lg_sl ([.ref h, .int x, .ref o] : List Value) ++ List.replicate (4 - (lg_sl ([.ref h, .int x, .ref o] : List Value)).length) Slot.unset).toArray = ls at hl ⊢
  have hl : lv_has ls 4 [(0, .ref h), (1, .int x), (2, .ref o)] := hl
  refine lv_aload_n hx hb (show decode cL_annihilator 0 = .ok (.aload_n 2, 1) by decide +kernel) rfl (lv_at hl 2 rfl) ?_
  refine lv_iconst (v := 0) hx hb (show decode cL_annihilator 1 = .ok (.iconst 0, 1) by decide +kernel) (by decide) ?_
  refine lv_aload_n hx hb (show decode cL_annihilator 2 = .ok (.aload_n 0, 1) by decide +kernel) rfl (lv_at hl 0 rfl) ?_
  refine lv_iload_n hx hb (show decode cL_annihilator 3 = .ok (.iload_n 1, 1) by decide +kernel) rfl (lv_at hl 1 rfl) ?_
  have hX : ∀ (i : Nat) (E : String), ([exB] : List String)[i]? = some E → HdX cL_annihilator 4 s 4 c.exceptionTable.toList i E := by
    intro i E hE
    rw [htb]
    match i, hE with
    | 0, hE => cases hE; exact ⟨[], ⟨0, 9, 12, 19⟩, [], rfl, fun z hz => absurd hz List.not_mem_nil, by decide, by decide, lk_B, cs_B, 13, Or.inl ⟨3, by decide +kernel, by decide, rfl⟩, by decide +kernel, by decide +kernel⟩
    | k + 1, hE => simp at hE
  exact hp_main (pcI := 4) (pcE := 15) (off := 6) (T := TX7) (av := [.int x]) (v0 := v0) ⟨hx, hb, hml, hown, hts, hK⟩ B.returns B.notSynchronized hEX hW hO hoh rfl sVL_annihilator rfl (Nat.le_of_ble_eq_true rfl) hOC rfl (fun _ _ _ => rfl) ⟨Nat.le_of_ble_eq_true rfl, Nat.le_of_ble_eq_true rfl⟩ hl hX (show decode cL_annihilator 4 = .ok (.invokevirtual 86, 3) by decide +kernel) (show decode cL_annihilator 7 = .ok (.i2l, 1) by decide +kernel) (show decode cL_annihilator 8 = .ok (.lastore, 1) by decide +kernel) (show decode cL_annihilator 9 = .ok (.goto 6, 3) by decide +kernel) (by decide) (show decode cL_annihilator 15 = .ok (.iconst 0, 1) by decide +kernel) (show decode cL_annihilator 16 = .ok (.ireturn, 1) by decide +kernel)
theorem sVL_basis : SitV RL 89 yX7_basis cX7_basis 5 (some .int) 3 := ⟨⟨(wb_4 90 (by decide +kernel) rfl), (wb_4 91 (by decide +kernel) rfl), (wb_4 92 (by decide +kernel) rfl), (wb_1 1 (by decide +kernel) rfl), (wb_4 93 (by decide +kernel) rfl)⟩, by decide +kernel⟩
abbrev rmL_basis : Room := { frames := 8, cells := 1, slots := 6, locals := 144 }
abbrev hhL_basis : List (Nat × Nat × Nat × Nat) := [(0, 12, 15, 19), (0, 12, 19, 13)]
theorem hc_basis (l : Launch) {x y w : Int32} {I I2 : IM} {L L2 : LM} {code : Nat} {r : Int32} (hOC : OC (fun r => KX7_basis l [.ref 0, .int x, .int y, .int w] I L r) (fun E => TX7_basis l [.ref 0, .int x, .int y, .int w] I L E) [exB, exA] code (some (.int r)) I2 L2) (D : va_G) (cy : Nat → ClassId) (h o : Nat) (v0 : Int64) (hoh : h + 181 ≤ o) : vx_Met l yL_basis (Cond.codeWith yL_basis cL_basis 6 (some .int) hhL_basis :: WB) rmL_basis (va_Pc [.ref h, .int x, .int y, .int w, .ref o] (HpP D cy h o v0 I L)) (HpQ D cy h o code r.toInt64 I2 L2) (fun _ _ _ => False) 1 6 (HpF h o) := by
  refine vx_ofWH (cc := cL_basis) (maxL := 6) (ret := some .int) (hh := hhL_basis) (by decide +kernel) rfl ?_
  intro p e s m args below meth c s₁ B hml hv
  obtain ⟨rfl, hW, hO, hK, hEX⟩ := hv
  have hts0 := atoms_spec (ws := Cond.codeWith yL_basis cL_basis 6 (some .int) hhL_basis :: WB) B.pre
  have hts : ∀ w ∈ WB, w.before _ s = true := fun w hw => hts0 w (List.mem_cons_of_mem _ hw)
  have htb : c.exceptionTable.toList = tableOf hhL_basis := vx_table (x := yL_basis) B (hts0 _ List.mem_cons_self)
  have hown : s.vm.findClass RL = some m.cls := findClass_of_methodNamed B.named
  have hx := B.exec
  have hb := B.bytes
  have hl := lv_entry ([.ref h, .int x, .int y, .int w, .ref o] : List Value) (n := 6) (Nat.le_of_ble_eq_true rfl)
  rw [lg_entry_eq]
  generalize (lg_sl ([.ref h, .int x, .int y, .int w, .ref o] : List Value) ++ List.replicate (6 - (lg_sl ([.ref h, .int x, .int y, .int w, .ref o] : List Value)).length) Slot.unset).toArray = ls at hl ⊢
  have hl : lv_has ls 6 [(0, .ref h), (1, .int x), (2, .int y), (3, .int w), (4, .ref o)] := hl
  refine lv_aload hx hb (show decode cL_basis 0 = .ok (.aload 4, 2) by decide +kernel) (lv_at hl 4 rfl) ?_
  refine lv_iconst (v := 0) hx hb (show decode cL_basis 2 = .ok (.iconst 0, 1) by decide +kernel) (by decide) ?_
  refine lv_aload_n hx hb (show decode cL_basis 3 = .ok (.aload_n 0, 1) by decide +kernel) rfl (lv_at hl 0 rfl) ?_
  refine lv_iload_n hx hb (show decode cL_basis 4 = .ok (.iload_n 1, 1) by decide +kernel) rfl (lv_at hl 1 rfl) ?_
  refine lv_iload_n hx hb (show decode cL_basis 5 = .ok (.iload_n 2, 1) by decide +kernel) rfl (lv_at hl 2 rfl) ?_
  refine lv_iload_n hx hb (show decode cL_basis 6 = .ok (.iload_n 3, 1) by decide +kernel) rfl (lv_at hl 3 rfl) ?_
  have hX : ∀ (i : Nat) (E : String), ([exB, exA] : List String)[i]? = some E → HdX cL_basis 6 s 7 c.exceptionTable.toList i E := by
    intro i E hE
    rw [htb]
    match i, hE with
    | 0, hE => cases hE; exact ⟨[], ⟨0, 12, 15, 19⟩, [⟨0, 12, 19, 13⟩], rfl, fun z hz => absurd hz List.not_mem_nil, by decide, by decide, lk_B, cs_B, 17, Or.inr ⟨5, by decide +kernel, by decide, rfl⟩, by decide +kernel, by decide +kernel⟩
    | 1, hE => cases hE; exact ⟨[⟨0, 12, 15, 19⟩], ⟨0, 12, 19, 13⟩, [], rfl, fun z hz => by rw [List.mem_singleton.mp hz]; exact ⟨by decide, exB, lk_B, hEX.2.1⟩, by decide, by decide, lk_A, cs_A, 21, Or.inr ⟨5, by decide +kernel, by decide, rfl⟩, by decide +kernel, by decide +kernel⟩
    | k + 2, hE => simp at hE
  exact hp_main (pcI := 7) (pcE := 23) (off := 11) (T := TX7) (av := [.int x, .int y, .int w]) (v0 := v0) ⟨hx, hb, hml, hown, hts, hK⟩ B.returns B.notSynchronized hEX hW hO hoh rfl sVL_basis rfl (Nat.le_of_ble_eq_true rfl) hOC rfl (fun _ _ _ => rfl) ⟨Nat.le_of_ble_eq_true rfl, Nat.le_of_ble_eq_true rfl⟩ hl hX (show decode cL_basis 7 = .ok (.invokevirtual 89, 3) by decide +kernel) (show decode cL_basis 10 = .ok (.i2l, 1) by decide +kernel) (show decode cL_basis 11 = .ok (.lastore, 1) by decide +kernel) (show decode cL_basis 12 = .ok (.goto 11, 3) by decide +kernel) (by decide) (show decode cL_basis 23 = .ok (.iconst 0, 1) by decide +kernel) (show decode cL_basis 24 = .ok (.ireturn, 1) by decide +kernel)
theorem sVL_refused : SitV RL 92 yX7_refused cX7_refused 4 (some .int) 3 := ⟨⟨(wb_4 97 (by decide +kernel) rfl), (wb_3 47 (by decide +kernel) rfl), (wb_3 48 (by decide +kernel) rfl), (wb_1 1 (by decide +kernel) rfl), (wb_3 49 (by decide +kernel) rfl)⟩, by decide +kernel⟩
abbrev rmL_refused : Room := { frames := 8, cells := 1, slots := 6, locals := 146 }
abbrev hhL_refused : List (Nat × Nat × Nat × Nat) := [(0, 12, 15, 19), (0, 12, 19, 13)]
theorem hc_refused (l : Launch) {x y w : Int32} {I I2 : IM} {L L2 : LM} {code : Nat} {r : Int32} (hOC : OC (fun r => KX7_refused l [.ref 0, .int x, .int y, .int w] I L r) (fun E => TX7_refused l [.ref 0, .int x, .int y, .int w] I L E) [exB, exA] code (some (.int r)) I2 L2) (D : va_G) (cy : Nat → ClassId) (h o : Nat) (v0 : Int64) (hoh : h + 181 ≤ o) : vx_Met l yL_refused (Cond.codeWith yL_refused cL_refused 6 (some .int) hhL_refused :: WB) rmL_refused (va_Pc [.ref h, .int x, .int y, .int w, .ref o] (HpP D cy h o v0 I L)) (HpQ D cy h o code r.toInt64 I2 L2) (fun _ _ _ => False) 1 6 (HpF h o) := by
  refine vx_ofWH (cc := cL_refused) (maxL := 6) (ret := some .int) (hh := hhL_refused) (by decide +kernel) rfl ?_
  intro p e s m args below meth c s₁ B hml hv
  obtain ⟨rfl, hW, hO, hK, hEX⟩ := hv
  have hts0 := atoms_spec (ws := Cond.codeWith yL_refused cL_refused 6 (some .int) hhL_refused :: WB) B.pre
  have hts : ∀ w ∈ WB, w.before _ s = true := fun w hw => hts0 w (List.mem_cons_of_mem _ hw)
  have htb : c.exceptionTable.toList = tableOf hhL_refused := vx_table (x := yL_refused) B (hts0 _ List.mem_cons_self)
  have hown : s.vm.findClass RL = some m.cls := findClass_of_methodNamed B.named
  have hx := B.exec
  have hb := B.bytes
  have hl := lv_entry ([.ref h, .int x, .int y, .int w, .ref o] : List Value) (n := 6) (Nat.le_of_ble_eq_true rfl)
  rw [lg_entry_eq]
  generalize (lg_sl ([.ref h, .int x, .int y, .int w, .ref o] : List Value) ++ List.replicate (6 - (lg_sl ([.ref h, .int x, .int y, .int w, .ref o] : List Value)).length) Slot.unset).toArray = ls at hl ⊢
  have hl : lv_has ls 6 [(0, .ref h), (1, .int x), (2, .int y), (3, .int w), (4, .ref o)] := hl
  refine lv_aload hx hb (show decode cL_refused 0 = .ok (.aload 4, 2) by decide +kernel) (lv_at hl 4 rfl) ?_
  refine lv_iconst (v := 0) hx hb (show decode cL_refused 2 = .ok (.iconst 0, 1) by decide +kernel) (by decide) ?_
  refine lv_aload_n hx hb (show decode cL_refused 3 = .ok (.aload_n 0, 1) by decide +kernel) rfl (lv_at hl 0 rfl) ?_
  refine lv_iload_n hx hb (show decode cL_refused 4 = .ok (.iload_n 1, 1) by decide +kernel) rfl (lv_at hl 1 rfl) ?_
  refine lv_iload_n hx hb (show decode cL_refused 5 = .ok (.iload_n 2, 1) by decide +kernel) rfl (lv_at hl 2 rfl) ?_
  refine lv_iload_n hx hb (show decode cL_refused 6 = .ok (.iload_n 3, 1) by decide +kernel) rfl (lv_at hl 3 rfl) ?_
  have hX : ∀ (i : Nat) (E : String), ([exB, exA] : List String)[i]? = some E → HdX cL_refused 6 s 7 c.exceptionTable.toList i E := by
    intro i E hE
    rw [htb]
    match i, hE with
    | 0, hE => cases hE; exact ⟨[], ⟨0, 12, 15, 19⟩, [⟨0, 12, 19, 13⟩], rfl, fun z hz => absurd hz List.not_mem_nil, by decide, by decide, lk_B, cs_B, 17, Or.inr ⟨5, by decide +kernel, by decide, rfl⟩, by decide +kernel, by decide +kernel⟩
    | 1, hE => cases hE; exact ⟨[⟨0, 12, 15, 19⟩], ⟨0, 12, 19, 13⟩, [], rfl, fun z hz => by rw [List.mem_singleton.mp hz]; exact ⟨by decide, exB, lk_B, hEX.2.1⟩, by decide, by decide, lk_A, cs_A, 21, Or.inr ⟨5, by decide +kernel, by decide, rfl⟩, by decide +kernel, by decide +kernel⟩
    | k + 2, hE => simp at hE
  exact hp_main (pcI := 7) (pcE := 23) (off := 11) (T := TX7) (av := [.int x, .int y, .int w]) (v0 := v0) ⟨hx, hb, hml, hown, hts, hK⟩ B.returns B.notSynchronized hEX hW hO hoh rfl sVL_refused rfl (Nat.le_of_ble_eq_true rfl) hOC rfl (fun _ _ _ => rfl) ⟨Nat.le_of_ble_eq_true rfl, Nat.le_of_ble_eq_true rfl⟩ hl hX (show decode cL_refused 7 = .ok (.invokevirtual 92, 3) by decide +kernel) (show decode cL_refused 10 = .ok (.i2l, 1) by decide +kernel) (show decode cL_refused 11 = .ok (.lastore, 1) by decide +kernel) (show decode cL_refused 12 = .ok (.goto 11, 3) by decide +kernel) (by decide) (show decode cL_refused 23 = .ok (.iconst 0, 1) by decide +kernel) (show decode cL_refused 24 = .ok (.ireturn, 1) by decide +kernel)
theorem sVL_compare : SitV RL 95 yX7_compare cX7_compare 5 (some .int) 2 := ⟨⟨(wb_4 101 (by decide +kernel) rfl), (wb_3 8 (by decide +kernel) rfl), (wb_3 9 (by decide +kernel) rfl), (wb_1 1 (by decide +kernel) rfl), (wb_3 10 (by decide +kernel) rfl)⟩, by decide +kernel⟩
abbrev rmL_compare : Room := { frames := 8, cells := 1, slots := 6, locals := 126 }
abbrev hhL_compare : List (Nat × Nat × Nat × Nat) := [(0, 10, 13, 19)]
theorem hc_compare (l : Launch) {x y : Int32} {I I2 : IM} {L L2 : LM} {code : Nat} {r : Int32} (hOC : OC (fun r => KX7_compare l [.ref 0, .int x, .int y] I L r) (fun E => TX7_compare l [.ref 0, .int x, .int y] I L E) [exB] code (some (.int r)) I2 L2) (D : va_G) (cy : Nat → ClassId) (h o : Nat) (v0 : Int64) (hoh : h + 181 ≤ o) : vx_Met l yL_compare (Cond.codeWith yL_compare cL_compare 5 (some .int) hhL_compare :: WB) rmL_compare (va_Pc [.ref h, .int x, .int y, .ref o] (HpP D cy h o v0 I L)) (HpQ D cy h o code r.toInt64 I2 L2) (fun _ _ _ => False) 1 6 (HpF h o) := by
  refine vx_ofWH (cc := cL_compare) (maxL := 5) (ret := some .int) (hh := hhL_compare) (by decide +kernel) rfl ?_
  intro p e s m args below meth c s₁ B hml hv
  obtain ⟨rfl, hW, hO, hK, hEX⟩ := hv
  have hts0 := atoms_spec (ws := Cond.codeWith yL_compare cL_compare 5 (some .int) hhL_compare :: WB) B.pre
  have hts : ∀ w ∈ WB, w.before _ s = true := fun w hw => hts0 w (List.mem_cons_of_mem _ hw)
  have htb : c.exceptionTable.toList = tableOf hhL_compare := vx_table (x := yL_compare) B (hts0 _ List.mem_cons_self)
  have hown : s.vm.findClass RL = some m.cls := findClass_of_methodNamed B.named
  have hx := B.exec
  have hb := B.bytes
  have hl := lv_entry ([.ref h, .int x, .int y, .ref o] : List Value) (n := 5) (Nat.le_of_ble_eq_true rfl)
  rw [lg_entry_eq]
  generalize (lg_sl ([.ref h, .int x, .int y, .ref o] : List Value) ++ List.replicate (5 - (lg_sl ([.ref h, .int x, .int y, .ref o] : List Value)).length) Slot.unset).toArray = ls at hl ⊢
  have hl : lv_has ls 5 [(0, .ref h), (1, .int x), (2, .int y), (3, .ref o)] := hl
  refine lv_aload_n hx hb (show decode cL_compare 0 = .ok (.aload_n 3, 1) by decide +kernel) rfl (lv_at hl 3 rfl) ?_
  refine lv_iconst (v := 0) hx hb (show decode cL_compare 1 = .ok (.iconst 0, 1) by decide +kernel) (by decide) ?_
  refine lv_aload_n hx hb (show decode cL_compare 2 = .ok (.aload_n 0, 1) by decide +kernel) rfl (lv_at hl 0 rfl) ?_
  refine lv_iload_n hx hb (show decode cL_compare 3 = .ok (.iload_n 1, 1) by decide +kernel) rfl (lv_at hl 1 rfl) ?_
  refine lv_iload_n hx hb (show decode cL_compare 4 = .ok (.iload_n 2, 1) by decide +kernel) rfl (lv_at hl 2 rfl) ?_
  have hX : ∀ (i : Nat) (E : String), ([exB] : List String)[i]? = some E → HdX cL_compare 5 s 5 c.exceptionTable.toList i E := by
    intro i E hE
    rw [htb]
    match i, hE with
    | 0, hE => cases hE; exact ⟨[], ⟨0, 10, 13, 19⟩, [], rfl, fun z hz => absurd hz List.not_mem_nil, by decide, by decide, lk_B, cs_B, 15, Or.inr ⟨4, by decide +kernel, by decide, rfl⟩, by decide +kernel, by decide +kernel⟩
    | k + 1, hE => simp at hE
  exact hp_main (pcI := 5) (pcE := 17) (off := 7) (T := TX7) (av := [.int x, .int y]) (v0 := v0) ⟨hx, hb, hml, hown, hts, hK⟩ B.returns B.notSynchronized hEX hW hO hoh rfl sVL_compare rfl (Nat.le_of_ble_eq_true rfl) hOC rfl (fun _ _ _ => rfl) ⟨Nat.le_of_ble_eq_true rfl, Nat.le_of_ble_eq_true rfl⟩ hl hX (show decode cL_compare 5 = .ok (.invokevirtual 95, 3) by decide +kernel) (show decode cL_compare 8 = .ok (.i2l, 1) by decide +kernel) (show decode cL_compare 9 = .ok (.lastore, 1) by decide +kernel) (show decode cL_compare 10 = .ok (.goto 7, 3) by decide +kernel) (by decide) (show decode cL_compare 17 = .ok (.iconst 0, 1) by decide +kernel) (show decode cL_compare 18 = .ok (.ireturn, 1) by decide +kernel)
theorem sVL_count : SitV RL 98 yX7_count cX7_count 2 (some .int) 1 := ⟨⟨(wb_4 105 (by decide +kernel) rfl), (wb_1 226 (by decide +kernel) rfl), (wb_1 227 (by decide +kernel) rfl), (wb_1 1 (by decide +kernel) rfl), (wb_1 228 (by decide +kernel) rfl)⟩, by decide +kernel⟩
abbrev rmL_count : Room := { frames := 7, cells := 1, slots := 6, locals := 140 }
abbrev hhL_count : List (Nat × Nat × Nat × Nat) := [(0, 9, 12, 13)]
theorem hc_count (l : Launch) {x : Int32} {I I2 : IM} {L L2 : LM} {code : Nat} {r : Int32} (hOC : OC (fun r => KX7_count l [.ref 0, .int x] I L r) (fun E => TX7_count l [.ref 0, .int x] I L E) [exA] code (some (.int r)) I2 L2) (D : va_G) (cy : Nat → ClassId) (h o : Nat) (v0 : Int64) (hoh : h + 181 ≤ o) : vx_Met l yL_count (Cond.codeWith yL_count cL_count 4 (some .int) hhL_count :: WB) rmL_count (va_Pc [.ref h, .int x, .ref o] (HpP D cy h o v0 I L)) (HpQ D cy h o code r.toInt64 I2 L2) (fun _ _ _ => False) 1 6 (HpF h o) := by
  refine vx_ofWH (cc := cL_count) (maxL := 4) (ret := some .int) (hh := hhL_count) (by decide +kernel) rfl ?_
  intro p e s m args below meth c s₁ B hml hv
  obtain ⟨rfl, hW, hO, hK, hEX⟩ := hv
  have hts0 := atoms_spec (ws := Cond.codeWith yL_count cL_count 4 (some .int) hhL_count :: WB) B.pre
  have hts : ∀ w ∈ WB, w.before _ s = true := fun w hw => hts0 w (List.mem_cons_of_mem _ hw)
  have htb : c.exceptionTable.toList = tableOf hhL_count := vx_table (x := yL_count) B (hts0 _ List.mem_cons_self)
  have hown : s.vm.findClass RL = some m.cls := findClass_of_methodNamed B.named
  have hx := B.exec
  have hb := B.bytes
  have hl := lv_entry ([.ref h, .int x, .ref o] : List Value) (n := 4) (Nat.le_of_ble_eq_true rfl)
  rw [lg_entry_eq]
  generalize (lg_sl ([.ref h, .int x, .ref o] : List Value) ++ List.replicate (4 - (lg_sl ([.ref h, .int x, .ref o] : List Value)).length) Slot.unset).toArray = ls at hl ⊢
  have hl : lv_has ls 4 [(0, .ref h), (1, .int x), (2, .ref o)] := hl
  refine lv_aload_n hx hb (show decode cL_count 0 = .ok (.aload_n 2, 1) by decide +kernel) rfl (lv_at hl 2 rfl) ?_
  refine lv_iconst (v := 0) hx hb (show decode cL_count 1 = .ok (.iconst 0, 1) by decide +kernel) (by decide) ?_
  refine lv_aload_n hx hb (show decode cL_count 2 = .ok (.aload_n 0, 1) by decide +kernel) rfl (lv_at hl 0 rfl) ?_
  refine lv_iload_n hx hb (show decode cL_count 3 = .ok (.iload_n 1, 1) by decide +kernel) rfl (lv_at hl 1 rfl) ?_
  have hX : ∀ (i : Nat) (E : String), ([exA] : List String)[i]? = some E → HdX cL_count 4 s 4 c.exceptionTable.toList i E := by
    intro i E hE
    rw [htb]
    match i, hE with
    | 0, hE => cases hE; exact ⟨[], ⟨0, 9, 12, 13⟩, [], rfl, fun z hz => absurd hz List.not_mem_nil, by decide, by decide, lk_A, cs_A, 13, Or.inl ⟨3, by decide +kernel, by decide, rfl⟩, by decide +kernel, by decide +kernel⟩
    | k + 1, hE => simp at hE
  exact hp_main (pcI := 4) (pcE := 15) (off := 6) (T := TX7) (av := [.int x]) (v0 := v0) ⟨hx, hb, hml, hown, hts, hK⟩ B.returns B.notSynchronized hEX hW hO hoh rfl sVL_count rfl (Nat.le_of_ble_eq_true rfl) hOC rfl (fun _ _ _ => rfl) ⟨Nat.le_of_ble_eq_true rfl, Nat.le_of_ble_eq_true rfl⟩ hl hX (show decode cL_count 4 = .ok (.invokevirtual 98, 3) by decide +kernel) (show decode cL_count 7 = .ok (.i2l, 1) by decide +kernel) (show decode cL_count 8 = .ok (.lastore, 1) by decide +kernel) (show decode cL_count 9 = .ok (.goto 6, 3) by decide +kernel) (by decide) (show decode cL_count 15 = .ok (.iconst 0, 1) by decide +kernel) (show decode cL_count 16 = .ok (.ireturn, 1) by decide +kernel)
theorem sVL_matrixAt : SitV RL 101 yX7_matrixAt cX7_matrixAt 3 (some .int) 2 := ⟨⟨(wb_4 109 (by decide +kernel) rfl), (wb_4 110 (by decide +kernel) rfl), (wb_4 111 (by decide +kernel) rfl), (wb_1 1 (by decide +kernel) rfl), (wb_4 112 (by decide +kernel) rfl)⟩, by decide +kernel⟩
abbrev rmL_matrixAt : Room := { frames := 8, cells := 1, slots := 6, locals := 125 }
abbrev hhL_matrixAt : List (Nat × Nat × Nat × Nat) := [(0, 10, 13, 19)]
theorem hc_matrixAt (l : Launch) {x y : Int32} {I I2 : IM} {L L2 : LM} {code : Nat} {r : Int32} (hOC : OC (fun r => KX7_matrixAt l [.ref 0, .int x, .int y] I L r) (fun E => TX7_matrixAt l [.ref 0, .int x, .int y] I L E) [exB] code (some (.int r)) I2 L2) (D : va_G) (cy : Nat → ClassId) (h o : Nat) (v0 : Int64) (hoh : h + 181 ≤ o) : vx_Met l yL_matrixAt (Cond.codeWith yL_matrixAt cL_matrixAt 5 (some .int) hhL_matrixAt :: WB) rmL_matrixAt (va_Pc [.ref h, .int x, .int y, .ref o] (HpP D cy h o v0 I L)) (HpQ D cy h o code r.toInt64 I2 L2) (fun _ _ _ => False) 1 6 (HpF h o) := by
  refine vx_ofWH (cc := cL_matrixAt) (maxL := 5) (ret := some .int) (hh := hhL_matrixAt) (by decide +kernel) rfl ?_
  intro p e s m args below meth c s₁ B hml hv
  obtain ⟨rfl, hW, hO, hK, hEX⟩ := hv
  have hts0 := atoms_spec (ws := Cond.codeWith yL_matrixAt cL_matrixAt 5 (some .int) hhL_matrixAt :: WB) B.pre
  have hts : ∀ w ∈ WB, w.before _ s = true := fun w hw => hts0 w (List.mem_cons_of_mem _ hw)
  have htb : c.exceptionTable.toList = tableOf hhL_matrixAt := vx_table (x := yL_matrixAt) B (hts0 _ List.mem_cons_self)
  have hown : s.vm.findClass RL = some m.cls := findClass_of_methodNamed B.named
  have hx := B.exec
  have hb := B.bytes
  have hl := lv_entry ([.ref h, .int x, .int y, .ref o] : List Value) (n := 5) (Nat.le_of_ble_eq_true rfl)
  rw [lg_entry_eq]
  generalize (lg_sl ([.ref h, .int x, .int y, .ref o] : List Value) ++ List.replicate (5 - (lg_sl ([.ref h, .int x, .int y, .ref o] : List Value)).length) Slot.unset).toArray = ls at hl ⊢
  have hl : lv_has ls 5 [(0, .ref h), (1, .int x), (2, .int y), (3, .ref o)] := hl
  refine lv_aload_n hx hb (show decode cL_matrixAt 0 = .ok (.aload_n 3, 1) by decide +kernel) rfl (lv_at hl 3 rfl) ?_
  refine lv_iconst (v := 0) hx hb (show decode cL_matrixAt 1 = .ok (.iconst 0, 1) by decide +kernel) (by decide) ?_
  refine lv_aload_n hx hb (show decode cL_matrixAt 2 = .ok (.aload_n 0, 1) by decide +kernel) rfl (lv_at hl 0 rfl) ?_
  refine lv_iload_n hx hb (show decode cL_matrixAt 3 = .ok (.iload_n 1, 1) by decide +kernel) rfl (lv_at hl 1 rfl) ?_
  refine lv_iload_n hx hb (show decode cL_matrixAt 4 = .ok (.iload_n 2, 1) by decide +kernel) rfl (lv_at hl 2 rfl) ?_
  have hX : ∀ (i : Nat) (E : String), ([exB] : List String)[i]? = some E → HdX cL_matrixAt 5 s 5 c.exceptionTable.toList i E := by
    intro i E hE
    rw [htb]
    match i, hE with
    | 0, hE => cases hE; exact ⟨[], ⟨0, 10, 13, 19⟩, [], rfl, fun z hz => absurd hz List.not_mem_nil, by decide, by decide, lk_B, cs_B, 15, Or.inr ⟨4, by decide +kernel, by decide, rfl⟩, by decide +kernel, by decide +kernel⟩
    | k + 1, hE => simp at hE
  exact hp_main (pcI := 5) (pcE := 17) (off := 7) (T := TX7) (av := [.int x, .int y]) (v0 := v0) ⟨hx, hb, hml, hown, hts, hK⟩ B.returns B.notSynchronized hEX hW hO hoh rfl sVL_matrixAt rfl (Nat.le_of_ble_eq_true rfl) hOC rfl (fun _ _ _ => rfl) ⟨Nat.le_of_ble_eq_true rfl, Nat.le_of_ble_eq_true rfl⟩ hl hX (show decode cL_matrixAt 5 = .ok (.invokevirtual 101, 3) by decide +kernel) (show decode cL_matrixAt 8 = .ok (.i2l, 1) by decide +kernel) (show decode cL_matrixAt 9 = .ok (.lastore, 1) by decide +kernel) (show decode cL_matrixAt 10 = .ok (.goto 7, 3) by decide +kernel) (by decide) (show decode cL_matrixAt 17 = .ok (.iconst 0, 1) by decide +kernel) (show decode cL_matrixAt 18 = .ok (.ireturn, 1) by decide +kernel)
theorem sVL_density : SitV RL 104 yX7_density cX7_density 2 (some .float) 1 := ⟨⟨(wb_4 116 (by decide +kernel) rfl), (wb_3 18 (by decide +kernel) rfl), (wb_3 19 (by decide +kernel) rfl), (wb_1 1 (by decide +kernel) rfl), (wb_3 20 (by decide +kernel) rfl)⟩, by decide +kernel⟩
abbrev rmL_density : Room := { frames := 8, cells := 1, slots := 6, locals := 123 }
abbrev hhL_density : List (Nat × Nat × Nat × Nat) := [(0, 9, 12, 19)]
theorem hc_density (l : Launch) {x : Int32} {I I2 : IM} {L L2 : LM} {code : Nat} {r : UInt32} (hf2 : code = 0 → vf_n64 (FP.f2d r)) (hOC : OC (fun r => KX7_density l [.ref 0, .int x] I L r) (fun E => TX7_density l [.ref 0, .int x] I L E) [exB] code (some (.float r)) I2 L2) (D : va_G) (cy : Nat → ClassId) (h o : Nat) (v0 : UInt64) (hoh : h + 181 ≤ o) : vx_Met l yL_density (Cond.codeWith yL_density cL_density 4 (some .int) hhL_density :: WB) rmL_density (va_Pc [.ref h, .int x, .ref o] (HpPD D cy h o v0 I L)) (HpD D cy h o code (FP.f2d r) I2 L2) (fun _ _ _ => False) 1 6 (HpF h o) := by
  refine vx_ofWH (cc := cL_density) (maxL := 4) (ret := some .int) (hh := hhL_density) (by decide +kernel) rfl ?_
  intro p e s m args below meth c s₁ B hml hv
  obtain ⟨rfl, hW, hO, hK, hEX⟩ := hv
  have hts0 := atoms_spec (ws := Cond.codeWith yL_density cL_density 4 (some .int) hhL_density :: WB) B.pre
  have hts : ∀ w ∈ WB, w.before _ s = true := fun w hw => hts0 w (List.mem_cons_of_mem _ hw)
  have htb : c.exceptionTable.toList = tableOf hhL_density := vx_table (x := yL_density) B (hts0 _ List.mem_cons_self)
  have hown : s.vm.findClass RL = some m.cls := findClass_of_methodNamed B.named
  have hx := B.exec
  have hb := B.bytes
  have hl := lv_entry ([.ref h, .int x, .ref o] : List Value) (n := 4) (Nat.le_of_ble_eq_true rfl)
  rw [lg_entry_eq]
  generalize (lg_sl ([.ref h, .int x, .ref o] : List Value) ++ List.replicate (4 - (lg_sl ([.ref h, .int x, .ref o] : List Value)).length) Slot.unset).toArray = ls at hl ⊢
  have hl : lv_has ls 4 [(0, .ref h), (1, .int x), (2, .ref o)] := hl
  refine lv_aload_n hx hb (show decode cL_density 0 = .ok (.aload_n 2, 1) by decide +kernel) rfl (lv_at hl 2 rfl) ?_
  refine lv_iconst (v := 0) hx hb (show decode cL_density 1 = .ok (.iconst 0, 1) by decide +kernel) (by decide) ?_
  refine lv_aload_n hx hb (show decode cL_density 2 = .ok (.aload_n 0, 1) by decide +kernel) rfl (lv_at hl 0 rfl) ?_
  refine lv_iload_n hx hb (show decode cL_density 3 = .ok (.iload_n 1, 1) by decide +kernel) rfl (lv_at hl 1 rfl) ?_
  have hX : ∀ (i : Nat) (E : String), ([exB] : List String)[i]? = some E → HdX cL_density 4 s 4 c.exceptionTable.toList i E := by
    intro i E hE
    rw [htb]
    match i, hE with
    | 0, hE => cases hE; exact ⟨[], ⟨0, 9, 12, 19⟩, [], rfl, fun z hz => absurd hz List.not_mem_nil, by decide, by decide, lk_B, cs_B, 13, Or.inl ⟨3, by decide +kernel, by decide, rfl⟩, by decide +kernel, by decide +kernel⟩
    | k + 1, hE => simp at hE
  exact hp_mainF (pcI := 4) (pcE := 15) (off := 6) (T := TX7) (av := [.int x]) (v0 := v0) ⟨hx, hb, hml, hown, hts, hK⟩ B.returns B.notSynchronized hf2 hEX hW hO hoh rfl sVL_density rfl (Nat.le_of_ble_eq_true rfl) hOC rfl (fun _ _ _ => rfl) ⟨Nat.le_of_ble_eq_true rfl, Nat.le_of_ble_eq_true rfl⟩ hl hX (show decode cL_density 4 = .ok (.invokevirtual 104, 3) by decide +kernel) (show decode cL_density 7 = .ok (.f2d, 1) by decide +kernel) (show decode cL_density 8 = .ok (.dastore, 1) by decide +kernel) (show decode cL_density 9 = .ok (.goto 6, 3) by decide +kernel) (by decide) (show decode cL_density 15 = .ok (.iconst 0, 1) by decide +kernel) (show decode cL_density 16 = .ok (.ireturn, 1) by decide +kernel)
theorem sVL_share : SitV RL 108 yX7_share cX7_share 3 (some .double) 2 := ⟨⟨(wb_4 120 (by decide +kernel) rfl), (wb_3 29 (by decide +kernel) rfl), (wb_3 30 (by decide +kernel) rfl), (wb_1 1 (by decide +kernel) rfl), (wb_3 31 (by decide +kernel) rfl)⟩, by decide +kernel⟩
abbrev rmL_share : Room := { frames := 8, cells := 1, slots := 6, locals := 125 }
abbrev hhL_share : List (Nat × Nat × Nat × Nat) := [(0, 9, 12, 19), (0, 9, 16, 13)]
theorem hc_share (l : Launch) {x y : Int32} {I I2 : IM} {L L2 : LM} {code : Nat} {r : UInt64} (hOC : OC (fun r => KX7_share l [.ref 0, .int x, .int y] I L r) (fun E => TX7_share l [.ref 0, .int x, .int y] I L E) [exB, exA] code (some (.double r)) I2 L2) (D : va_G) (cy : Nat → ClassId) (h o : Nat) (v0 : UInt64) (hoh : h + 181 ≤ o) : vx_Met l yL_share (Cond.codeWith yL_share cL_share 5 (some .int) hhL_share :: WB) rmL_share (va_Pc [.ref h, .int x, .int y, .ref o] (HpPD D cy h o v0 I L)) (HpD D cy h o code r I2 L2) (fun _ _ _ => False) 1 6 (HpF h o) := by
  refine vx_ofWH (cc := cL_share) (maxL := 5) (ret := some .int) (hh := hhL_share) (by decide +kernel) rfl ?_
  intro p e s m args below meth c s₁ B hml hv
  obtain ⟨rfl, hW, hO, hK, hEX⟩ := hv
  have hts0 := atoms_spec (ws := Cond.codeWith yL_share cL_share 5 (some .int) hhL_share :: WB) B.pre
  have hts : ∀ w ∈ WB, w.before _ s = true := fun w hw => hts0 w (List.mem_cons_of_mem _ hw)
  have htb : c.exceptionTable.toList = tableOf hhL_share := vx_table (x := yL_share) B (hts0 _ List.mem_cons_self)
  have hown : s.vm.findClass RL = some m.cls := findClass_of_methodNamed B.named
  have hx := B.exec
  have hb := B.bytes
  have hl := lv_entry ([.ref h, .int x, .int y, .ref o] : List Value) (n := 5) (Nat.le_of_ble_eq_true rfl)
  rw [lg_entry_eq]
  generalize (lg_sl ([.ref h, .int x, .int y, .ref o] : List Value) ++ List.replicate (5 - (lg_sl ([.ref h, .int x, .int y, .ref o] : List Value)).length) Slot.unset).toArray = ls at hl ⊢
  have hl : lv_has ls 5 [(0, .ref h), (1, .int x), (2, .int y), (3, .ref o)] := hl
  refine lv_aload_n hx hb (show decode cL_share 0 = .ok (.aload_n 3, 1) by decide +kernel) rfl (lv_at hl 3 rfl) ?_
  refine lv_iconst (v := 0) hx hb (show decode cL_share 1 = .ok (.iconst 0, 1) by decide +kernel) (by decide) ?_
  refine lv_aload_n hx hb (show decode cL_share 2 = .ok (.aload_n 0, 1) by decide +kernel) rfl (lv_at hl 0 rfl) ?_
  refine lv_iload_n hx hb (show decode cL_share 3 = .ok (.iload_n 1, 1) by decide +kernel) rfl (lv_at hl 1 rfl) ?_
  refine lv_iload_n hx hb (show decode cL_share 4 = .ok (.iload_n 2, 1) by decide +kernel) rfl (lv_at hl 2 rfl) ?_
  have hX : ∀ (i : Nat) (E : String), ([exB, exA] : List String)[i]? = some E → HdX cL_share 5 s 5 c.exceptionTable.toList i E := by
    intro i E hE
    rw [htb]
    match i, hE with
    | 0, hE => cases hE; exact ⟨[], ⟨0, 9, 12, 19⟩, [⟨0, 9, 16, 13⟩], rfl, fun z hz => absurd hz List.not_mem_nil, by decide, by decide, lk_B, cs_B, 14, Or.inr ⟨4, by decide +kernel, by decide, rfl⟩, by decide +kernel, by decide +kernel⟩
    | 1, hE => cases hE; exact ⟨[⟨0, 9, 12, 19⟩], ⟨0, 9, 16, 13⟩, [], rfl, fun z hz => by rw [List.mem_singleton.mp hz]; exact ⟨by decide, exB, lk_B, hEX.2.1⟩, by decide, by decide, lk_A, cs_A, 18, Or.inr ⟨4, by decide +kernel, by decide, rfl⟩, by decide +kernel, by decide +kernel⟩
    | k + 2, hE => simp at hE
  exact hp_mainD (pcI := 5) (pcE := 20) (off := 11) (T := TX7) (av := [.int x, .int y]) (v0 := v0) ⟨hx, hb, hml, hown, hts, hK⟩ B.returns B.notSynchronized hEX hW hO hoh rfl sVL_share rfl (Nat.le_of_ble_eq_true rfl) hOC rfl (fun _ _ _ => rfl) ⟨Nat.le_of_ble_eq_true rfl, Nat.le_of_ble_eq_true rfl⟩ hl hX (show decode cL_share 5 = .ok (.invokevirtual 108, 3) by decide +kernel) (show decode cL_share 8 = .ok (.dastore, 1) by decide +kernel) (show decode cL_share 9 = .ok (.goto 11, 3) by decide +kernel) (by decide) (show decode cL_share 20 = .ok (.iconst 0, 1) by decide +kernel) (show decode cL_share 21 = .ok (.ireturn, 1) by decide +kernel)
