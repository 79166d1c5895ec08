/-! THE START: both sides are alike -/
theorem nw_1 {d j : Nat} (h : d < 18) : IC (1 + d) j = nwS I0 0 (nI 4) d j := by rw [IC_1 h]
theorem J0_at {k : Nat} : lpR (mu I0 1 0 (nI 4)) 1 k = if 40 ≤ k ∧ k < 40 + 256 then 0 else if 6 ≤ k ∧ k < 6 + 25 then (if (k - 6) / 5 = (k - 6) % 5 then 1 else 0) else if 1 ≤ k ∧ k < 1 + 5 then 1 else if k = 0 then nI 4 else 0 := by
  unfold lpR rg
  simp only [true_and]
  split
  · rfl
  · split
    · rfl
    · split
      · rfl
      · by_cases e : k = 0
        · subst e
          rw [if_pos rfl]
          exact mu_self _ _ _ _
        · rw [if_neg e]
          simp [mu, e, I0]
theorem J0_ne {a : Nat} (h : a ≠ 1) : lpR (mu I0 1 0 (nI 4)) a = I0 a := by
  unfold lpR
  rw [rg_ne h, rg_ne h, rg_ne h, mu_ne _ _ h]
theorem sim0 : SimE IC (lpR (mu I0 1 0 (nI 4))) := by
  have hz : ∀ a j, 166 ≤ a → IC a j = 0 := fun a j h => by rw [IC_hi h]
  have h19 : ∀ j, IC 19 j = 0 := fun j => by
    unfold IC
    rw [if_neg (by omega), if_neg (by omega), if_neg (by omega)]
  have h0 : ∀ j, IC 0 j = 0 := fun j => by
    unfold IC
    rw [if_neg (by omega), if_neg (by omega), if_neg (by omega)]
  have hr : ∀ d j, d < 18 → scP 0 d j → IC (1 + d) j = nwV 0 (nI 4) d j := fun d j h e => by
    rw [nw_1 h]
    exact fb_in e
  have ho : ∀ d j, d < 18 → ¬ scP 0 d j → IC (1 + d) j = 0 := fun d j h e => by
    rw [nw_1 h]
    exact fb_out e
  refine ⟨4, 0, 0, 0, fun _ => 0, ⟨⟨by decide, by decide, ?_, ?_, fun k hk => ?_, fun r hr2 c hc => ?_, fun s hs => fa_zero 4 (fun k hk => ?_) (fun k hk => ?_)⟩, fun j hj => ?_⟩, ⟨by decide, by decide, ?_, ?_, ?_⟩, fun i hi => absurd hi (by omega), fun s hs => ⟨?_, Or.inl ?_⟩, ⟨by decide, ?_, ?_, fun j hj => absurd hj (by omega)⟩, fun j h1 h2 => hz 170 j (by decide)⟩
  · show IC (1 + 0) 0 = nI 4
    rw [hr 0 0 (by decide) (Or.inl ⟨rfl, rfl⟩)]
    rfl
  · rw [J0_at]; rfl
  · rw [hr 10 k (by decide) (by unfold scP; omega), J0_at, if_neg (by omega), if_neg (by omega), if_pos (by omega)]
    unfold nwV
    exact ⟨by rw [if_neg (by decide), if_neg (by decide), if_pos (by decide)], Or.inl rfl⟩
  · rw [show 1 + 12 + r = 1 + (12 + r) by omega, hr (12 + r) c (by omega) (by unfold scP; omega), J0_at, if_neg (by omega), if_pos (by omega)]
    unfold nwV
    rw [if_neg (by omega), if_neg (by omega), if_neg (by omega)]
    by_cases e : r = c
    · rw [if_pos (by omega), if_pos (by omega)]
    · rw [if_neg (by omega), if_neg (by omega)]
  · rw [show 1 + 2 + s = 1 + (2 + s) by omega, hr (2 + s) k (by omega) (by unfold scP; omega)]
    unfold nwV
    rw [if_neg (by omega), if_pos (by omega)]
  · show lpR (mu I0 1 0 (nI 4)) 1 (40 + 32 * s + k) = 0
    rw [J0_at, if_pos (by omega)]
  · rw [ho 17 j (by decide) (by unfold scP; omega), J0_at, if_neg (by omega), if_neg (by omega), if_neg (by omega), if_neg (by omega)]
  · rw [h19]; rfl
  · rw [h19]; rfl
  · rw [J0_ne (by decide)]; rfl
  · rw [hz 166 s (by decide), J0_ne (by decide)]; rfl
  · rw [J0_ne (by decide)]; rfl
  · rw [h0]; rfl
  · rw [J0_ne (by decide)]; rfl
