/-! The class's search: a part's lane is set, the later ones are 0. -/
theorem setLane_L {k l : Nat} (hk : k < 4) : ∀ (d n : Nat) (σ : Sto), d ≤ 4 → d < n → ∃ τ, f_X2_setLane_L6 (nI k) (nI l) n (nI (4 - d)) σ = some τ ∧ (∀ j, τ.1 63 j = if 4 - d ≤ j ∧ j < 4 then (if j = k then nI l else 0) else σ.1 63 j) ∧ (∀ a b, a ≠ 63 → τ.1 a b = σ.1 a b) ∧ τ.2 = σ.2 := by
  intro d
  induction d with
  | zero =>
    intro n σ _ h2
    obtain ⟨n, rfl⟩ : ∃ n', n = n' + 1 := ⟨n - 1, by omega⟩
    rw [f_X2_setLane_L6, if_pos (by decide)]
    exact ⟨σ, rfl, fun j => by rw [if_neg (by omega)], fun _ _ _ => rfl, rfl⟩
  | succ d ih =>
    intro n σ h1 h2
    obtain ⟨n, rfl⟩ : ∃ n', n = n' + 1 := ⟨n - 1, by omega⟩
    have e1 : 4 - d = (4 - (d + 1)) + 1 := by omega
    have step : ∀ v : Int32, v = (if 4 - (d + 1) = k then nI l else 0) → ∃ τ, f_X2_setLane_L29 (f_X2_setLane_L6 (nI k) (nI l) n) (nI k) (nI l) (nI (4 - (d + 1))) v (nI (4 - (d + 1))) σ = some τ ∧ (∀ j, τ.1 63 j = if 4 - (d + 1) ≤ j ∧ j < 4 then (if j = k then nI l else 0) else σ.1 63 j) ∧ (∀ a b, a ≠ 63 → τ.1 a b = σ.1 a b) ∧ τ.2 = σ.2 := by
      intro v hv
      unfold f_X2_setLane_L29
      rw [wr_nI (by show 4 - (d + 1) < 4; omega), bind_s, nI_1, ← e1]
      obtain ⟨τ, t1, t2, t3, t4⟩ := ih n (sI σ 63 (4 - (d + 1)) v) (by omega) (by omega)
      refine ⟨τ, t1, fun j => ?_, fun a b h => by rw [t3 a b h, sI_ne h], by rw [t4]; rfl⟩
      rw [t2 j, sI_at]
      by_cases h : 4 - d ≤ j ∧ j < 4
      · rw [if_pos h, if_pos (show 4 - (d + 1) ≤ j ∧ j < 4 by omega)]
      · rw [if_neg h]
        by_cases h' : j = 4 - (d + 1)
        · rw [if_pos h', if_pos (show 4 - (d + 1) ≤ j ∧ j < 4 by omega), hv, h']
        · rw [if_neg h', if_neg (show ¬ (4 - (d + 1) ≤ j ∧ j < 4) by omega)]
    rw [f_X2_setLane_L6, if_neg (show ¬ (4 : Int32) ≤ nI (4 - (d + 1)) from nI_ge (b := 4) (by omega) (by omega))]
    by_cases hq : 4 - (d + 1) = k
    · rw [if_pos (show nI (4 - (d + 1)) = nI k by rw [hq])]
      exact step (nI l) (by rw [if_pos hq])
    · rw [if_neg (fun z => hq ((nI_eq (by omega) (by omega)).mp z))]
      exact step 0 (by rw [if_neg hq])
theorem setLane8 (σ : Sto) {k l : Nat} (hk : k < 4) : ∃ τ, f_X2_setLane σ (nI k) (nI l) = some τ ∧ (∀ j, τ.1 63 j = if k ≤ j ∧ j < 4 then (if j = k then nI l else 0) else σ.1 63 j) ∧ (∀ a b, a ≠ 63 → τ.1 a b = σ.1 a b) ∧ τ.2 = σ.2 := by
  have e : imax 0 (nI k) = nI (4 - (4 - k)) := (show ∀ k, k < 4 → imax 0 (nI k) = nI (4 - (4 - k)) by decide) k hk
  obtain ⟨τ, t1, t2, t3, t4⟩ := setLane_L (l := l) hk (4 - k) FU σ (by omega) (by unfold FU; omega)
  refine ⟨τ, ?_, fun j => ?_, t3, t4⟩
  · unfold f_X2_setLane
    rw [e]
    exact t1
  · rw [t2 j, show 4 - (4 - k) = k by omega]
