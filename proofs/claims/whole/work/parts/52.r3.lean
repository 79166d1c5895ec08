/-! THE REFERENCE: laying states -/
/-- k places of a row, from lo on, laid anew -/
def rg {α : Type} (I : Nat → Nat → α) (c lo k : Nat) (f : Nat → α) : Nat → Nat → α := fun a j => if a = c ∧ lo ≤ j ∧ j < lo + k then f (j - lo) else I a j
section RG
variable {α : Type} {I : Nat → Nat → α} {c lo k : Nat} {f g : Nat → α}
theorem rg_0 : rg I c lo 0 f = I := by
  funext a j
  simp only [rg]
  rw [if_neg (by omega)]
theorem rg_up {x : α} {q : Nat} (h : x = f k) (hq : q = lo + k) : mu (rg I c lo k f) c q x = rg I c lo (k + 1) f := by
  subst hq
  funext a j
  simp only [mu, rg]
  by_cases e : a = c ∧ j = lo + k
  · rw [if_pos e, if_pos (by omega), h]
    obtain ⟨-, rfl⟩ := e
    rw [show lo + k - lo = k by omega]
  · rw [if_neg e]
    by_cases e2 : a = c ∧ lo ≤ j ∧ j < lo + k
    · rw [if_pos e2, if_pos (by omega)]
    · rw [if_neg e2, if_neg (by omega)]
theorem rg_ne {a : Nat} (h : a ≠ c) : rg I c lo k f a = I a := by funext j; simp [rg, h]
theorem rg_in {j : Nat} (h1 : lo ≤ j) (h2 : j < lo + k) : rg I c lo k f c j = f (j - lo) := by simp [rg, h1, h2]
theorem rg_at {j : Nat} (h2 : j < k) : rg I c lo k f c (lo + j) = f j := by rw [rg_in (by omega) (by omega), show lo + j - lo = j by omega]
theorem rg_out {j : Nat} (h : j < lo ∨ lo + k ≤ j) : rg I c lo k f c j = I c j := by
  simp only [rg]
  rw [if_neg (by omega)]
theorem rg_cong (h : ∀ i, i < k → f i = g i) : rg I c lo k f = rg I c lo k g := by
  funext a j
  simp only [rg]
  by_cases e : a = c ∧ lo ≤ j ∧ j < lo + k
  · rw [if_pos e, if_pos e, h _ (by omega)]
  · rw [if_neg e, if_neg e]
end RG
theorem dm5 : ∀ k, k < 25 → nI k / 5 = nI (k / 5) ∧ nI k - nI k / 5 * 5 = nI (k % 5) := by decide +kernel
theorem nI_inj {a b : Nat} (ha : a < 2 ^ 31) (hb : b < 2 ^ 31) (h : nI a = nI b) : a = b := by
  have := congrArg Int32.toInt h
  rw [nI_toInt ha, nI_toInt hb] at this
  omega
/-- signs, matrix and forms as at first -/
def lpR (I : IM) : IM := rg (rg (rg I 1 1 5 (fun _ => 1)) 1 6 25 (fun k => if k / 5 = k % 5 then 1 else 0)) 1 40 256 (fun _ => 0)
theorem qX8_layPlain (l : Launch) (I : IM) (L : LM) : KX8_layPlain l [.ref 0] I L none (lpR I) L := by
  refine wX8_layPlain l rfl (hz0 (by decide)) (fun V hV => ?_)
  unfold lpR at hV
  refine ru_go hV 2 [] rfl rfl trivial ?_
  refine loop0 (P := fun k => V 2 [(0, .ref 0), (1, .int (nI k))] [] (rg I 1 1 k (fun _ => 1)) L) 5 (fun h => by rw [rg_0] at h; exact h) (fun k hk ih => ?_) ?_
  · refine ru_go hV 12 [(0, 0), (1, 0), ((1+k), 296)] rfl rfl ⟨⟨⟨trivial, nI5_ge hk⟩, (by first | exact rfl | assumption | exact ⟨rfl, rfl⟩ | exact ⟨rfl, rfl, by omega⟩ | exact ⟨by assumption, rfl, by omega⟩ | exact ⟨⟨_, rfl, rfl⟩, by decide, by decide, rfl, by omega⟩ | omega | decide)⟩, ⟨rfl, ix_1 k, by omega⟩⟩ ?_
    rw [nI_1, rg_up rfl rfl]
    exact ih
  generalize rg I 1 1 5 (fun _ => 1) = J at hV ⊢
  refine ru_go hV 5 [(1, 0)] rfl rfl ⟨trivial, (by first | exact rfl | assumption | exact ⟨rfl, rfl⟩ | exact ⟨rfl, rfl, by omega⟩ | exact ⟨by assumption, rfl, by omega⟩ | exact ⟨⟨_, rfl, rfl⟩, by decide, by decide, rfl, by omega⟩ | omega | decide)⟩ ?_
  refine loop0 (P := fun k => V 24 [(0, .ref 0), (1, .int (nI k))] [] (rg J 1 6 k (fun k => if k / 5 = k % 5 then 1 else 0)) L) 25 (fun h => by rw [rg_0] at h; exact h) (fun k hk ih => ?_) ?_
  · obtain ⟨d1, d2⟩ := dm5 k hk
    have ix6 : (6 : Int32) + nI k = nI (6 + k) := by rw [show (6 : Int32) = nI 6 from rfl, nI_add]
    by_cases h : k / 5 = k % 5
    · refine ru_go hV 20 [(0, 0), (1, 0), (0, 0), ((6+k), 296)] rfl rfl ⟨⟨⟨⟨⟨⟨trivial, nI_ge (b := 25) hk (by decide)⟩, (by first | exact rfl | assumption | exact ⟨rfl, rfl⟩ | exact ⟨rfl, rfl, by omega⟩ | exact ⟨by assumption, rfl, by omega⟩ | exact ⟨⟨_, rfl, rfl⟩, by decide, by decide, rfl, by omega⟩ | omega | decide)⟩, (by decide)⟩, (by decide)⟩, (fun e => e (by rw [d2, d1, h]))⟩, ⟨rfl, ix6, by omega⟩⟩ ?_
      rw [nI_1, rg_up (by rw [if_pos h]) rfl]
      exact ih
    · refine ru_go hV 19 [(0, 0), (1, 0), (1, 0), ((6+k), 296)] rfl rfl ⟨⟨⟨⟨⟨⟨trivial, nI_ge (b := 25) hk (by decide)⟩, (by first | exact rfl | assumption | exact ⟨rfl, rfl⟩ | exact ⟨rfl, rfl, by omega⟩ | exact ⟨by assumption, rfl, by omega⟩ | exact ⟨⟨_, rfl, rfl⟩, by decide, by decide, rfl, by omega⟩ | omega | decide)⟩, (by decide)⟩, (by decide)⟩, (fun e => h (nI_inj (by omega) (by omega) (by rw [← d2, ← d1]; exact e)))⟩, ⟨rfl, ix6, by omega⟩⟩ ?_
      rw [nI_1, rg_up (by rw [if_neg h]) rfl]
      exact ih
  generalize rg J 1 6 25 (fun k => if k / 5 = k % 5 then 1 else 0) = J at hV ⊢
  refine ru_go hV 5 [(1, 0)] rfl rfl ⟨trivial, (by first | exact rfl | assumption | exact ⟨rfl, rfl⟩ | exact ⟨rfl, rfl, by omega⟩ | exact ⟨by assumption, rfl, by omega⟩ | exact ⟨⟨_, rfl, rfl⟩, by decide, by decide, rfl, by omega⟩ | omega | decide)⟩ ?_
  refine loop0 (P := fun k => V 62 [(0, .ref 0), (1, .int (nI (40 + k)))] [] (rg J 1 40 k (fun _ => 0)) L) 256 (fun h => by rw [rg_0] at h; exact h) (fun k hk ih => ?_) ?_
  · refine ru_go hV 10 [(0, 0), (1, 0), ((40+k), 296)] rfl rfl ⟨⟨⟨trivial, nI_ge (b := 296) (by omega) (by decide)⟩, (by first | exact rfl | assumption | exact ⟨rfl, rfl⟩ | exact ⟨rfl, rfl, by omega⟩ | exact ⟨by assumption, rfl, by omega⟩ | exact ⟨⟨_, rfl, rfl⟩, by decide, by decide, rfl, by omega⟩ | omega | decide)⟩, (by first | exact rfl | assumption | exact ⟨rfl, rfl⟩ | exact ⟨rfl, rfl, by omega⟩ | exact ⟨by assumption, rfl, by omega⟩ | exact ⟨⟨_, rfl, rfl⟩, by decide, by decide, rfl, by omega⟩ | omega | decide)⟩ ?_
    rw [nI_1, rg_up rfl rfl]
    exact ih
  · refine ru_fin hV 4 [(1, 0)] rfl rfl ⟨trivial, (by first | exact rfl | assumption | exact ⟨rfl, rfl⟩ | exact ⟨rfl, rfl, by omega⟩ | exact ⟨by assumption, rfl, by omega⟩ | exact ⟨⟨_, rfl, rfl⟩, by decide, by decide, rfl, by omega⟩ | omega | decide)⟩ ?_
    exact ⟨rfl, rfl, rfl⟩
/-- what is done first where six states are saved -/
def sv0 (I : IM) (q : Nat) : IM := if q = 6 then mu (rg I 2 0 1480 (fun k => I 2 (k + 296))) 0 2 5 else I
def svQ (q : Nat) : Nat := if q = 6 then 5 else q
/-- the state saved -/
def svR (I : IM) (q : Nat) : IM := mu (rg (sv0 I q) 2 (296 * svQ q) 296 (I 1)) 0 2 (nI (svQ q + 1))
theorem ix_sv (q k : Nat) : (296 : Int32) * nI q + nI k = nI (296 * q + k) := by
  rw [show (296 : Int32) = nI 296 from rfl, nI_mul, nI_add]
theorem qX8_save (l : Launch) {I : IM} {q : Nat} (hq : q ≤ 6) (h2 : I 0 2 = nI q) (L : LM) : KX8_save l [.ref 0] I L none (svR I q) L := by
  refine wX8_save l rfl (hz0 (by decide)) (fun V hV => ?_)
  have rest : ∀ J : IM, J 0 2 = nI (svQ q) → J 1 = I 1 → J = sv0 I q → ∀ lv, (∀ z ∈ [((0 : Nat), Value.ref 0)], z ∈ lv) → V 50 lv [] J L := by
    intro J hJ hJ1 hJ0 lv hlv
    have hs5 : svQ q ≤ 5 := by unfold svQ; split <;> omega
    refine hV.2.2.2.1 50 lv [(0, .ref 0)] [] J L hlv ?_
    refine ru_go hV 2 [] rfl rfl trivial ?_
    refine loop0 (P := fun k => V 52 [(0, .ref 0), (1, .int (nI k))] [] (rg J 2 (296 * svQ q) k (I 1)) L) 296 (fun h => by rw [rg_0] at h; exact h) (fun k hk ih => ?_) ?_
    · have e2 : rg J 2 (296 * svQ q) k (I 1) 0 2 = nI (svQ q) := by rw [rg_ne (by decide)]; exact hJ
      refine ru_go hV 18 [(0, 0), (2, 0), (1, 0), (k, 296), ((296*svQ q+k), 1776)] rfl rfl ⟨⟨⟨⟨⟨⟨trivial, nI_ge (b := 296) (by omega) (by decide)⟩, (by first | exact rfl | assumption | exact ⟨rfl, rfl⟩ | exact ⟨rfl, rfl, by omega⟩ | exact ⟨by assumption, rfl, by omega⟩ | exact ⟨⟨_, rfl, rfl⟩, by decide, by decide, rfl, by omega⟩ | omega | decide)⟩, (by first | exact rfl | assumption | exact ⟨rfl, rfl⟩ | exact ⟨rfl, rfl, by omega⟩ | exact ⟨by assumption, rfl, by omega⟩ | exact ⟨⟨_, rfl, rfl⟩, by decide, by decide, rfl, by omega⟩ | omega | decide)⟩, (by first | exact rfl | assumption | exact ⟨rfl, rfl⟩ | exact ⟨rfl, rfl, by omega⟩ | exact ⟨by assumption, rfl, by omega⟩ | exact ⟨⟨_, rfl, rfl⟩, by decide, by decide, rfl, by omega⟩ | omega | decide)⟩, (by first | exact rfl | assumption | exact ⟨rfl, rfl⟩ | exact ⟨rfl, rfl, by omega⟩ | exact ⟨by assumption, rfl, by omega⟩ | exact ⟨⟨_, rfl, rfl⟩, by decide, by decide, rfl, by omega⟩ | omega | decide)⟩, ⟨rfl, by rw [e2]; exact ix_sv _ k, by omega⟩⟩ ?_
      rw [nI_1, rg_up (by rw [rg_ne (by decide), hJ1]) rfl]
      exact ih
    · have e2 : rg J 2 (296 * svQ q) 296 (I 1) 0 2 = nI (svQ q) := by rw [rg_ne (by decide)]; exact hJ
      refine ru_fin hV 10 [(1, 0)] rfl rfl ⟨⟨⟨trivial, (by first | exact rfl | assumption | exact ⟨rfl, rfl⟩ | exact ⟨rfl, rfl, by omega⟩ | exact ⟨by assumption, rfl, by omega⟩ | exact ⟨⟨_, rfl, rfl⟩, by decide, by decide, rfl, by omega⟩ | omega | decide)⟩, (by first | exact rfl | assumption | exact ⟨rfl, rfl⟩ | exact ⟨rfl, rfl, by omega⟩ | exact ⟨by assumption, rfl, by omega⟩ | exact ⟨⟨_, rfl, rfl⟩, by decide, by decide, rfl, by omega⟩ | omega | decide)⟩, (by first | exact rfl | assumption | exact ⟨rfl, rfl⟩ | exact ⟨rfl, rfl, by omega⟩ | exact ⟨by assumption, rfl, by omega⟩ | exact ⟨⟨_, rfl, rfl⟩, by decide, by decide, rfl, by omega⟩ | omega | decide)⟩ ?_
      rw [e2, nI_1, hJ0]
      exact ⟨rfl, rfl, rfl⟩
  by_cases h : q = 6
  · subst h
    refine ru_go hV 6 [(0, 0)] rfl rfl ⟨⟨trivial, (by first | exact rfl | assumption | exact ⟨rfl, rfl⟩ | exact ⟨rfl, rfl, by omega⟩ | exact ⟨by assumption, rfl, by omega⟩ | exact ⟨⟨_, rfl, rfl⟩, by decide, by decide, rfl, by omega⟩ | omega | decide)⟩, (fun e => e (by rw [h2]; rfl))⟩ ?_
    refine loop0 (P := fun k => V 11 [(0, .ref 0), (1, .int (nI k))] [] (rg I 2 0 k (fun k => I 2 (k + 296))) L) 1480 (fun h => by rw [rg_0] at h; exact h) (fun k hk ih => ?_) ?_
    · refine ru_go hV 15 [(0, 0), (2, 0), (2, 0), ((k+296), 1776), (k, 1776)] rfl rfl ⟨⟨⟨⟨⟨trivial, nI_ge (b := 1480) hk (by decide)⟩, (by first | exact rfl | assumption | exact ⟨rfl, rfl⟩ | exact ⟨rfl, rfl, by omega⟩ | exact ⟨by assumption, rfl, by omega⟩ | exact ⟨⟨_, rfl, rfl⟩, by decide, by decide, rfl, by omega⟩ | omega | decide)⟩, (by first | exact rfl | assumption | exact ⟨rfl, rfl⟩ | exact ⟨rfl, rfl, by omega⟩ | exact ⟨by assumption, rfl, by omega⟩ | exact ⟨⟨_, rfl, rfl⟩, by decide, by decide, rfl, by omega⟩ | omega | decide)⟩, ⟨rfl, by rw [show (296 : Int32) = nI 296 from rfl, nI_add], by omega⟩⟩, (by first | exact rfl | assumption | exact ⟨rfl, rfl⟩ | exact ⟨rfl, rfl, by omega⟩ | exact ⟨by assumption, rfl, by omega⟩ | exact ⟨⟨_, rfl, rfl⟩, by decide, by decide, rfl, by omega⟩ | omega | decide)⟩ ?_
      rw [nI_1, show rg I 2 0 k (fun k => I 2 (k + 296)) 2 (k + 296) = I 2 (k + 296) from rg_out (by omega), rg_up (f := fun k => I 2 (k + 296)) (k := k) (q := k) rfl (by omega)]
      exact ih
    · refine ru_go hV 9 [(1, 0)] rfl rfl ⟨⟨⟨trivial, (by first | exact rfl | assumption | exact ⟨rfl, rfl⟩ | exact ⟨rfl, rfl, by omega⟩ | exact ⟨by assumption, rfl, by omega⟩ | exact ⟨⟨_, rfl, rfl⟩, by decide, by decide, rfl, by omega⟩ | omega | decide)⟩, (by first | exact rfl | assumption | exact ⟨rfl, rfl⟩ | exact ⟨rfl, rfl, by omega⟩ | exact ⟨by assumption, rfl, by omega⟩ | exact ⟨⟨_, rfl, rfl⟩, by decide, by decide, rfl, by omega⟩ | omega | decide)⟩, (by first | exact rfl | assumption | exact ⟨rfl, rfl⟩ | exact ⟨rfl, rfl, by omega⟩ | exact ⟨by assumption, rfl, by omega⟩ | exact ⟨⟨_, rfl, rfl⟩, by decide, by decide, rfl, by omega⟩ | omega | decide)⟩ ?_
      refine rest _ (by rw [mu_self, rg_ne (by decide), h2]; decide) (by rw [mu_ne _ _ (by decide), rg_ne (by decide)]) ?_ _ (fun z hz => by simp at hz; simp [hz])
      rw [sv0, if_pos rfl, rg_ne (by decide), h2]
      rfl
  · refine ru_go hV 4 [(1, 0)] rfl rfl ⟨⟨trivial, (by first | exact rfl | assumption | exact ⟨rfl, rfl⟩ | exact ⟨rfl, rfl, by omega⟩ | exact ⟨by assumption, rfl, by omega⟩ | exact ⟨⟨_, rfl, rfl⟩, by decide, by decide, rfl, by omega⟩ | omega | decide)⟩, (fun e => h (nI_inj (by omega) (by decide) (by rw [← h2]; exact e)))⟩ ?_
    refine rest I (by rw [h2, svQ, if_neg h]) rfl (by rw [sv0, if_neg h]) _ (fun z hz => hz)
theorem svR_ne {I : IM} {q a : Nat} (h0 : a ≠ 0) (h2 : a ≠ 2) : svR I q a = I a := by
  rw [svR, mu_ne _ _ h0, rg_ne h2, sv0]
  split
  · rw [mu_ne _ _ h0, rg_ne h2]
  · rfl
theorem svR_0 {I : IM} {q j : Nat} (h : j ≠ 2) : svR I q 0 j = I 0 j := by
  rw [svR, show ∀ K : IM, mu K 0 2 (nI (svQ q + 1)) 0 j = K 0 j from fun K => by simp [mu, h], rg_ne (by decide), sv0]
  split
  · rw [show ∀ K : IM, mu K 0 2 (5 : Int32) 0 j = K 0 j from fun K => by simp [mu, h], rg_ne (by decide)]
  · rfl
