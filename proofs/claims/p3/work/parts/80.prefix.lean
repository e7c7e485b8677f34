/-! Plans with one beginning have one beginning of their swims. -/
theorem pl_pc {A f : Nat → Int32} (t : Int32) : pPc (PL A f) t = pPc A t := by
  unfold pPc pPl
  rw [PL_lo (by omega), PL_lo (by omega), PL_lo (by omega)]
theorem pPos_pl {A f g : Nat → Int32} {k : Nat} (hk : k ≤ 4) (h : ∀ i, i < k → f i = g i) (fl : Int32 → Int32) : ∀ t, t ≤ 10 * k → pPos (PL A f) fl t = pPos (PL A g) fl t := by
  intro t
  induction t with
  | zero =>
    intro _
    rw [pPos, pPos, PL_lo (by omega), PL_lo (by omega)]
  | succ t ih =>
    intro ht
    have e : pLn (PL A f) t = pLn (PL A g) t := by rw [PL_ln, PL_ln, h _ (by omega)]
    rw [pPos, pPos, ih (by omega)]
    unfold pGo
    rw [pl_pc, pl_pc, e, PL_lo (by omega), PL_lo (by omega)]
theorem mtT_pl {A B f g : Nat → Int32} {k : Nat} (hk : k ≤ 4) (h : ∀ i, i < k → f i = g i) (fl : Int32 → Int32) (s : Int32) {t : Nat} (ht : t < 10 * k) : mtT (PL A f) B fl s t = mtT (PL A g) B fl s t := by
  unfold mtT gapT
  rw [PL_ln, PL_ln, h _ (by omega), pPos_pl hk h fl (t + 1) (by omega), PL_lo (by omega), PL_lo (by omega)]
/-- the first minute at which they meet, told by minutes -/
theorem mtD_some {A B : Nat → Int32} {fl : Int32 → Int32} {s : Int32} : ∀ {d : Nat}, d ≤ 60 → ∀ {u : Nat}, 60 - d ≤ u → u < 60 → mtT A B fl s u = true → (∀ t, 60 - d ≤ t → t < u → mtT A B fl s t = false) → mtD A B fl s d = some u := by
  intro d
  induction d with
  | zero => intro _ u h1 h2; omega
  | succ d ih =>
    intro hd u h1 h2 h3 h4
    rw [mtD]
    by_cases hu : u = 59 - d
    · rw [← hu, if_pos h3]
    · rw [h4 (59 - d) (by omega) (by omega), if_neg (by decide)]
      exact ih (by omega) (by omega) h2 h3 (fun t a b => h4 t (by omega) b)
theorem mtD_none {A B : Nat → Int32} {fl : Int32 → Int32} {s : Int32} : ∀ {d : Nat}, d ≤ 60 → (∀ t, 60 - d ≤ t → t < 60 → mtT A B fl s t = false) → mtD A B fl s d = none := by
  intro d
  induction d with
  | zero => intro _ _; rfl
  | succ d ih =>
    intro hd h
    rw [mtD, h (59 - d) (by omega) (by omega), if_neg (by decide)]
    exact ih (by omega) (fun t a b => h t (by omega) b)
theorem met_some {A B : Nat → Int32} {fl : Int32 → Int32} {s : Int32} {u : Nat} (h2 : u < 60) (h3 : mtT A B fl s u = true) (h4 : ∀ t, t < u → mtT A B fl s t = false) : met A B fl s = some u := mtD_some (Nat.le_refl _) (by omega) h2 h3 (fun t _ b => h4 t b)
theorem met_none {A B : Nat → Int32} {fl : Int32 → Int32} {s : Int32} (h : ∀ t, t < 60 → mtT A B fl s t = false) : met A B fl s = none := mtD_none (Nat.le_refl _) (fun t _ b => h t b)
/-- all plans that begin with f's first k lanes meet as f does, if f meets before 10 * k -/
theorem met_pl {A B f g : Nat → Int32} {k : Nat} (hk : k ≤ 4) (h : ∀ i, i < k → f i = g i) (fl : Int32 → Int32) (s : Int32) {u : Nat} (hu : u < 10 * k) (hu6 : u < 60) (h3 : mtT (PL A f) B fl s u = true) (h4 : ∀ t, t < u → mtT (PL A f) B fl s t = false) : met (PL A g) B fl s = some u ∧ metP (PL A g) B fl u = metP (PL A f) B fl u := by
  refine ⟨met_some hu6 (by rw [← mtT_pl hk h fl s hu]; exact h3) (fun t ht => by rw [← mtT_pl hk h fl s (by omega)]; exact h4 t ht), ?_⟩
  unfold metP
  rw [pPos_pl hk h fl (u + 1) (by omega)]
