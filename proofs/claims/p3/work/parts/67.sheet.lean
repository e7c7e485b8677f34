/-! Sheets: sheet, put, move. -/
theorem sh_nsc {k : Nat} (j : Nat) (hk : (73 ≤ k ∧ k ≤ 80) ∨ (90 ≤ k ∧ k ≤ 92)) : scr k j = false := by
  simp only [scr, Bool.or_eq_false_iff, Bool.and_eq_false_iff, beq_eq_false_iff_ne, decide_eq_false_iff_not, ne_eq]
  omega
theorem Inv.sh {σ τ : Sto} (h : Inv σ) (hk : ∀ k j, scr k j = false → ¬ (73 ≤ k ∧ k ≤ 80) → ¬ (90 ≤ k ∧ k ≤ 92) → τ.1 k j = σ.1 k j) (hs : SH τ) : Inv τ := by
  obtain ⟨⟨q1, q2, q3, q4, -, q6⟩, q7⟩ := h
  have e1 : τ.1 81 3 = σ.1 81 3 := hk 81 3 (by decide) (by omega) (by omega)
  refine ⟨⟨q1.keep (fun k j hkj => hk k j (lk_scr (Or.inl ⟨rfl, rfl⟩) hkj j) (by unfold lkc at hkj; omega) (by unfold lkc at hkj; omega)), by rw [hk 0 10 (by decide) (by omega) (by omega), e1]; exact q2, fun hn => (q3 (e1 ▸ hn)).keep (fun k j hkj => hk k j (lk_scr (Or.inr ⟨rfl, rfl⟩) hkj j) (by unfold lkc at hkj; omega) (by unfold lkc at hkj; omega)), q4.keep (hk 65 1 (by decide) (by omega) (by omega)) (hk 81 18 (by decide) (by omega) (by omega)) (fun j => hk 66 j (by simp [scr]) (by omega) (by omega)) (fun j => hk 89 j (by simp [scr]) (by omega) (by omega)), hs, by unfold US; rw [hk 4 0 (by decide) (by omega) (by omega), hk 7 0 (by decide) (by omega) (by omega)]; exact q6⟩, fun k hk' => by rw [hk 68 k (by simp [scr]) (by omega) (by omega), hk 85 k (by simp [scr]) (by omega) (by omega)]; exact q7 k hk'⟩
theorem clear_L {s : Nat} (hs : s < 4) : ∀ (d n : Nat) (σ : Sto), d ≤ 40 → d < n → ∃ τ, f_X4_clear_L18 (73 + 2 * s) n (nI (40 - d)) σ = some τ ∧ (∀ j, τ.1 (74 + 2 * s) j = if 40 - d ≤ j ∧ j < 40 then 0 else σ.1 (74 + 2 * s) j) ∧ ∀ a b, a ≠ 74 + 2 * s → τ.1 a b = σ.1 a b := by
  obtain ⟨-, h2, h3⟩ := sh_f s hs
  intro d
  induction d with
  | zero =>
    intro n σ _ hn
    obtain ⟨n, rfl⟩ : ∃ n', n = n' + 1 := ⟨n - 1, by omega⟩
    rw [f_X4_clear_L18, if_pos (by decide)]
    exact ⟨σ, rfl, fun j => by rw [if_neg (by omega)], fun _ _ _ => rfl⟩
  | succ d ih =>
    intro n σ hd hn
    obtain ⟨n, rfl⟩ : ∃ n', n = n' + 1 := ⟨n - 1, by omega⟩
    have e1 : 40 - d = (40 - (d + 1)) + 1 := by omega
    rw [f_X4_clear_L18, if_neg (show ¬ (40 : Int32) ≤ nI (40 - (d + 1)) from nI_ge (b := 40) (by omega) (by omega)), h2, wr_nI (by rw [h3]; omega), bind_s, nI_1, ← e1]
    obtain ⟨τ, t1, t2, t3⟩ := ih n (sI σ (74 + 2 * s) (40 - (d + 1)) 0) (by omega) (by omega)
    refine ⟨τ, t1, fun j => ?_, fun a b h => by rw [t3 a b h, sI_ne h]⟩
    rw [t2 j, sI_at]
    by_cases h : 40 - d ≤ j ∧ j < 40
    · rw [if_pos h, if_pos (by omega)]
    · rw [if_neg h]
      by_cases h' : j = 40 - (d + 1)
      · rw [if_pos h', if_pos (by omega)]
      · rw [if_neg h', if_neg (by omega)]
theorem clear8 {σ : Sto} {s m : Nat} (hs : s < 4) (hm : m ≤ 40) (w : Int32) : ∃ τ, f_X4_clear σ (73 + 2 * s) w (nI m) = some τ ∧ τ.1 (73 + 2 * s) 2 = w ∧ τ.1 (73 + 2 * s) 1 = nI m ∧ (∀ j, j < 40 → τ.1 (74 + 2 * s) j = 0) ∧ ∀ a b, a ≠ 73 + 2 * s → a ≠ 74 + 2 * s → τ.1 a b = σ.1 a b := by
  obtain ⟨τ, t1, t2, t3⟩ := clear_L hs 40 FU (sI (sI σ (73 + 2 * s) 2 w) (73 + 2 * s) 1 (nI m)) (by omega) (by unfold FU; omega)
  refine ⟨τ, ?_, ?_, ?_, fun j hj => by rw [t2 j, if_pos (by omega)], fun a b h h' => by rw [t3 a b h', sI_ne h, sI_ne h]⟩
  · unfold f_X4_clear f_X8_heldWithin
    have hh : imax 0 (imin 40 (nI m)) = nI m := by
      unfold imax imin
      by_cases h : nI m < 40
      · rw [if_pos h]
        by_cases h0 : (0 : Int32) < nI m
        · rw [if_pos h0]
        · rw [if_neg h0]
          exact Int32.le_antisymm (nI_pos' (by omega)) (Int32.not_lt.mp h0)
      · have : m = 40 := by
          rcases (show m = 40 ∨ m < 40 by omega) with h' | h'
          · exact h'
          · exact absurd (nI_lt (b := 40) h' (by omega)) h
        subst this
        decide
    rw [lp_b, bind_s, lp_b, hh]
    exact t1
  · rw [t3 _ _ (by omega), sI_nj (by decide), sI_at, if_pos rfl]
  · rw [t3 _ _ (by omega), sI_at, if_pos rfl]
theorem sheet9_L {s : Nat} (hs : s < 4) : ∀ (d n : Nat) (σ : Sto), d ≤ 40 → d < n → ∃ τ, f_X9_sheet_L90 (nI s) n (nI (40 - d)) σ = some (1, τ) ∧ (∀ j, τ.1 92 j = if 40 * s + (40 - d) ≤ j ∧ j < 40 * s + 40 then 0 else σ.1 92 j) ∧ ∀ a b, a ≠ 92 → τ.1 a b = σ.1 a b := by
  intro d
  induction d with
  | zero =>
    intro n σ _ hn
    obtain ⟨n, rfl⟩ : ∃ n', n = n' + 1 := ⟨n - 1, by omega⟩
    rw [f_X9_sheet_L90, if_pos (by decide)]
    exact ⟨σ, rfl, fun j => by rw [if_neg (by omega)], fun _ _ _ => rfl⟩
  | succ d ih =>
    intro n σ hd hn
    obtain ⟨n, rfl⟩ : ∃ n', n = n' + 1 := ⟨n - 1, by omega⟩
    have e1 : 40 - d = (40 - (d + 1)) + 1 := by omega
    rw [f_X9_sheet_L90, if_neg (show ¬ (40 : Int32) ≤ nI (40 - (d + 1)) from nI_ge (b := 40) (by omega) (by omega)), mul40 s hs, nI_add, wr_nI (by show 40 * s + (40 - (d + 1)) < 160; omega), bind_s, nI_1, ← e1]
    obtain ⟨τ, t1, t2, t3⟩ := ih n (sI σ 92 (40 * s + (40 - (d + 1))) 0) (by omega) (by omega)
    refine ⟨τ, t1, fun j => ?_, fun a b h => by rw [t3 a b h, sI_ne h]⟩
    rw [t2 j, sI_at]
    by_cases h : 40 * s + (40 - d) ≤ j ∧ j < 40 * s + 40
    · rw [if_pos h, if_pos (by omega)]
    · rw [if_neg h]
      by_cases h' : j = 40 * s + (40 - (d + 1))
      · rw [if_pos h', if_pos (by omega)]
      · rw [if_neg h', if_neg (by omega)]
theorem sheet9 {σ : Sto} {s m : Nat} (hs : s < 4) (w : Int32) : ∃ τ, f_X9_sheet_L86 (nI s) (nI m) (nI s) (sI σ 90 s w) = some (1, τ) ∧ (∀ j, τ.1 90 j = if j = s then w else σ.1 90 j) ∧ (∀ j, τ.1 91 j = if j = s then nI m else σ.1 91 j) ∧ (∀ j, τ.1 92 j = if 40 * s ≤ j ∧ j < 40 * s + 40 then 0 else σ.1 92 j) ∧ ∀ a b, a ≠ 90 → a ≠ 91 → a ≠ 92 → τ.1 a b = σ.1 a b := by
  obtain ⟨τ, t1, t2, t3⟩ := sheet9_L hs 40 FU (sI (sI σ 90 s w) 91 s (nI m)) (by omega) (by unfold FU; omega)
  refine ⟨τ, ?_, fun j => by rw [t3 _ _ (by decide), sI_ne (by decide), sI_at], fun j => by rw [t3 _ _ (by decide), sI_at, sI_ne (by decide)], fun j => by rw [t2 j, sI_ne (by decide), sI_ne (by decide)]; rfl, fun a b h1 h2 h3 => by rw [t3 a b h3, sI_ne h2, sI_ne h1]⟩
  unfold f_X9_sheet_L86
  rw [wr_nI (by show s < 4; exact hs), bind_s]
  exact t1
/-- the sheet is made anew by both -/
theorem sheet_new {σ : Sto} (hI : Inv σ) {s m : Nat} (hs : s < 4) (hm : m ≤ 40) (w : Int32) : ∃ τ υ, f_X4_clear σ (73 + 2 * s) w (nI m) = some τ ∧ f_X9_sheet_L86 (nI s) (nI m) (nI s) (sI τ 90 s w) = some (1, υ) ∧ Inv υ := by
  obtain ⟨τ, t1, t2, t3, t4, t5⟩ := clear8 (σ := σ) hs hm w
  obtain ⟨υ, u1, u2, u3, u4, u5⟩ := sheet9 (σ := τ) (m := m) hs w
  refine ⟨τ, υ, t1, u1, hI.sh (fun k j _ h1 h2 => by rw [u5 k j (by omega) (by omega) (by omega), t5 k j (by omega) (by omega)]) (fun r hr => ?_)⟩
  obtain ⟨q1, q2, q3, q4⟩ := hI.1.2.2.2.2.1 r hr
  by_cases hrs : r = s
  · subst hrs
    refine ⟨?_, ?_, ⟨m, hm, by rw [u3, if_pos rfl]⟩, fun i hi => ?_⟩
    · rw [u5 _ _ (by omega) (by omega) (by omega), t2, u2, if_pos rfl]
    · rw [u5 _ _ (by omega) (by omega) (by omega), t3, u3, if_pos rfl]
    · rw [u5 _ _ (by omega) (by omega) (by omega), t4 i hi, u4, if_pos (by omega)]
  · refine ⟨?_, ?_, ?_, fun i hi => ?_⟩
    · rw [u5 _ _ (by omega) (by omega) (by omega), t5 _ _ (by omega) (by omega), u2, if_neg hrs, t5 _ _ (by omega) (by omega)]; exact q1
    · rw [u5 _ _ (by omega) (by omega) (by omega), t5 _ _ (by omega) (by omega), u3, if_neg hrs, t5 _ _ (by omega) (by omega)]; exact q2
    · rw [u3, if_neg hrs, t5 _ _ (by omega) (by omega)]; exact q3
    · rw [u5 _ _ (by omega) (by omega) (by omega), t5 _ _ (by omega) (by omega), u4, if_neg (by omega), t5 _ _ (by omega) (by omega)]; exact q4 i hi
theorem deref4 {k : Nat} (hk : K0 k = 4) {β : Type} (f : Nat → Option β) : deref 4 (some k) f = f k := by
  show (if K0 k = 4 then f k else none) = f k
  rw [if_pos hk]
theorem isO_40 (v : Int32) : (¬ 0 ≤ v) ∨ (0 ≤ v ∧ ¬ v ≤ 40) ∨ ∃ m, m ≤ 40 ∧ v = nI m := by
  by_cases h : 0 ≤ v
  · by_cases h' : v ≤ 40
    · obtain ⟨m, hm, e⟩ := nI_of (Int32.not_lt.mpr h)
      refine Or.inr (Or.inr ⟨m, ?_, e⟩)
      rw [e] at h'
      exact (nI_leI (b := 40) hm (by omega)).mp h'
    · exact Or.inr (Or.inl ⟨h, h'⟩)
  · exact Or.inl h
theorem s_sheet (a1 a2 a3 : Int32) (b : Bool) : LPr (fun σ => f_X8_sheet σ a1 a2 a3) (fun σ => f_X9_sheet σ a1 a2 a3) b Inv Inv := by
  intro σ hI
  rcases shA8 σ a1 with ⟨hq, e⟩ | ⟨s, hs, rfl, hq, e⟩
  · refine er_LPr (f := fun σ => f_X8_sheet σ a1 a2 a3) (g := fun σ => f_X9_sheet σ a1 a2 a3) (k := 1) hI ?_ ?_
    · show f_X8_sheet σ a1 a2 a3 = _
      unfold f_X8_sheet
      rw [e, bind_s, onN_0, r8_1, bind_s]
    · show f_X9_sheet (rf σ 1) a1 a2 a3 = _
      unfold f_X9_sheet
      rw [sheet_eq, bind_s, hq, if_neg (by decide), r9_1, bind_s]
  · have g8 : a2 = 0 ∨ a2 = 8 ∨ a2 = 16 ∨ a2 = 32 → f_X8_sheet σ (nI s) a2 a3 = f_X8_sheet_L40 a2 a3 (some (73 + 2 * s)) σ := by
      intro h
      unfold f_X8_sheet
      rw [e, bind_s, onN_1]
      rcases h with rfl | rfl | rfl | rfl
      · rw [if_pos rfl]
      · rw [if_neg (by decide), if_pos rfl]
      · rw [if_neg (by decide), if_neg (by decide), if_pos rfl]
      · rw [if_neg (by decide), if_neg (by decide), if_neg (by decide), if_pos rfl]
    have g9 : ∀ τ, a2 = 0 ∨ a2 = 8 ∨ a2 = 16 ∨ a2 = 32 → f_X9_sheet τ (nI s) a2 a3 = f_X9_sheet_L35 (nI s) a2 a3 τ := by
      intro τ h
      unfold f_X9_sheet
      rw [sheet_eq, bind_s, hq, if_pos (by decide)]
      rcases h with rfl | rfl | rfl | rfl
      · rw [if_pos rfl]
      · rw [if_neg (by decide), if_pos rfl]
      · rw [if_neg (by decide), if_neg (by decide), if_pos rfl]
      · rw [if_neg (by decide), if_neg (by decide), if_neg (by decide), if_pos rfl]
    by_cases hw : a2 = 0 ∨ a2 = 8 ∨ a2 = 16 ∨ a2 = 32
    · by_cases h0 : a2 = 0
      · obtain ⟨τ, υ, t1, t2, t3⟩ := sheet_new hI hs (m := 0) (by omega) a2
        refine ⟨(1, τ), (1, υ), ?_, ?_, fun _ => rfl, t3⟩
        · show f_X8_sheet σ (nI s) a2 a3 = _
          rw [g8 hw]
          unfold f_X8_sheet_L40
          rw [if_pos h0, deref4 (sh_f s hs).1, show f_X4_clear σ (73 + 2 * s) 0 0 = some τ by rw [← t1, h0]; rfl, bind_s]
        · show f_X9_sheet τ (nI s) a2 a3 = _
          rw [g9 τ hw]
          unfold f_X9_sheet_L35 f_X9_sheet_L49 f_X9_sheet_L65
          rw [if_pos h0, if_pos h0, wr_nI (by show s < 4; exact hs), bind_s, if_pos h0]
          exact t2
      · rcases isO_40 a3 with h3 | ⟨h3, h4⟩ | ⟨m, hm, rfl⟩
        · refine er_LPr (f := fun σ => f_X8_sheet σ (nI s) a2 a3) (g := fun σ => f_X9_sheet σ (nI s) a2 a3) (k := 3) hI ?_ ?_
          · show f_X8_sheet σ (nI s) a2 a3 = _
            rw [g8 hw]
            unfold f_X8_sheet_L40
            rw [if_neg h0, if_neg h3, r8_3, bind_s]
          · show f_X9_sheet (rf σ 3) (nI s) a2 a3 = _
            rw [g9 _ hw]
            unfold f_X9_sheet_L35
            rw [if_neg h0, if_neg h3, r9_3, bind_s]
        · refine er_LPr (f := fun σ => f_X8_sheet σ (nI s) a2 a3) (g := fun σ => f_X9_sheet σ (nI s) a2 a3) (k := 1) hI ?_ ?_
          · show f_X8_sheet σ (nI s) a2 a3 = _
            rw [g8 hw]
            unfold f_X8_sheet_L40
            rw [if_neg h0, if_pos h3, if_neg h4, r8_1, bind_s]
          · show f_X9_sheet (rf σ 1) (nI s) a2 a3 = _
            rw [g9 _ hw]
            unfold f_X9_sheet_L35 f_X9_sheet_L49
            rw [if_neg h0, if_pos h3, if_neg h0, if_neg h4, r9_1, bind_s]
        · obtain ⟨τ, υ, t1, t2, t3⟩ := sheet_new hI hs hm a2
          have h3 : (0 : Int32) ≤ nI m := nI_pos' (by omega)
          have h4 : nI m ≤ 40 := nI_le (b := 40) hm (by omega)
          refine ⟨(1, τ), (1, υ), ?_, ?_, fun _ => rfl, t3⟩
          · show f_X8_sheet σ (nI s) a2 (nI m) = _
            rw [g8 hw]
            unfold f_X8_sheet_L40
            rw [if_neg h0, if_pos h3, if_pos h4, deref4 (sh_f s hs).1, t1, bind_s]
          · show f_X9_sheet τ (nI s) a2 (nI m) = _
            rw [g9 τ hw]
            unfold f_X9_sheet_L35 f_X9_sheet_L49 f_X9_sheet_L65
            rw [if_neg h0, if_pos h3, if_neg h0, if_pos h4, wr_nI (by show s < 4; exact hs), bind_s, if_neg h0]
            exact t2
    · have n0 : ¬ a2 = 0 := fun z => hw (Or.inl z)
      have n8 : ¬ a2 = 8 := fun z => hw (Or.inr (Or.inl z))
      have n16 : ¬ a2 = 16 := fun z => hw (Or.inr (Or.inr (Or.inl z)))
      have n32 : ¬ a2 = 32 := fun z => hw (Or.inr (Or.inr (Or.inr z)))
      refine er_LPr (f := fun σ => f_X8_sheet σ (nI s) a2 a3) (g := fun σ => f_X9_sheet σ (nI s) a2 a3) (k := 1) hI ?_ ?_
      · show f_X8_sheet σ (nI s) a2 a3 = _
        unfold f_X8_sheet
        rw [e, bind_s, onN_1, if_neg n0, if_neg n8, if_neg n16, if_neg n32, r8_1, bind_s]
      · show f_X9_sheet (rf σ 1) (nI s) a2 a3 = _
        unfold f_X9_sheet
        rw [sheet_eq, bind_s, hq, if_pos (by decide), if_neg n0, if_neg n8, if_neg n16, if_neg n32, r9_1, bind_s]
theorem put_in {σ : Sto} (hI : Inv σ) {s i : Nat} (hs : s < 4) (hi : i < 40) (v : Int32) : Inv (sI (sI σ (74 + 2 * s) i v) 92 (40 * s + i) v) := by
  refine hI.sh (fun k j _ h1 h2 => by rw [sI_ne (by omega), sI_ne (by omega)]) (fun r hr => ?_)
  obtain ⟨q1, q2, q3, q4⟩ := hI.1.2.2.2.2.1 r hr
  refine ⟨?_, ?_, ?_, fun x hx => ?_⟩
  · rw [sI_ne (by omega), sI_ne (by omega), sI_ne (by omega), sI_ne (by omega)]; exact q1
  · rw [sI_ne (by omega), sI_ne (by omega), sI_ne (by omega), sI_ne (by omega)]; exact q2
  · rw [sI_ne (by omega), sI_ne (by omega)]; exact q3
  · rw [sI_ne (show 74 + 2 * r ≠ 92 by omega), sI_at, sI_ne (show 92 ≠ 74 + 2 * s by omega)]
    by_cases h : r = s
    · subst h
      rw [sI_at]
      by_cases hx' : x = i
      · rw [if_pos hx', if_pos (by omega)]
      · rw [if_neg hx', if_neg (by omega)]; exact q4 x hx
    · rw [sI_ne (by omega), if_neg (by omega)]; exact q4 x hx
theorem isO_lt2 {a : Int32} {N : Nat} (hN : N ≤ 40) (h : isO a 0 (nI N - 1) = false) : ∃ p, p < N ∧ a = nI p := by
  obtain ⟨h1, h2⟩ := isO_f h
  obtain ⟨p, hp, rfl⟩ := nI_of (Int32.not_lt.mpr h1)
  refine ⟨p, ?_, rfl⟩
  cases N with
  | zero =>
    rw [Int32.le_iff_toInt_le, nI_toInt hp, show (nI 0 - 1 : Int32).toInt = -1 from rfl] at h2
    omega
  | succ n =>
    rw [nI_pred, nI_leI hp (by omega)] at h2
    omega
def putV (w v : Int32) : Int32 := if w = 8 then i2b v else if w = 16 then i2s v else v
theorem s_put (a1 a2 a3 : Int32) (b : Bool) : LPr (fun σ => f_X8_put σ a1 a2 a3) (fun σ => f_X9_put σ a1 a2 a3) b Inv Inv := by
  intro σ hI
  rcases shA8 σ a1 with ⟨hq, e⟩ | ⟨s, hs, rfl, hq, e⟩
  · refine er_LPr (f := fun σ => f_X8_put σ a1 a2 a3) (g := fun σ => f_X9_put σ a1 a2 a3) (k := 1) hI ?_ ?_
    · show f_X8_put σ a1 a2 a3 = _
      unfold f_X8_put
      rw [e, bind_s, onN_0, r8_1, bind_s]
    · show f_X9_put (rf σ 1) a1 a2 a3 = _
      unfold f_X9_put
      rw [sheet_eq, bind_s, hq, if_neg (by decide), r9_1, bind_s]
  · obtain ⟨c1, c2, ⟨m, hm, c3⟩, c4⟩ := hI.1.2.2.2.2.1 s hs
    by_cases h0 : σ.1 90 s = 0
    · refine er_LPr (f := fun σ => f_X8_put σ (nI s) a2 a3) (g := fun σ => f_X9_put σ (nI s) a2 a3) (k := 2) hI ?_ ?_
      · show f_X8_put σ (nI s) a2 a3 = _
        unfold f_X8_put f_X4_isMissing
        rw [e, bind_s, onN_1, if_pos (sh_f s hs).1, c1, if_pos h0, bind_s, if_pos rfl, r8_2, bind_s]
      · show f_X9_put (rf σ 2) (nI s) a2 a3 = _
        unfold f_X9_put
        rw [sheet_eq, bind_s, hq, if_pos (by decide), rd_nI (by show s < 4; exact hs), bind_s, rf_at (by decide), if_pos h0, r9_2, bind_s]
    · cases hi : isO a2 0 (nI m - 1) with
      | true =>
        refine er_LPr (f := fun σ => f_X8_put σ (nI s) a2 a3) (g := fun σ => f_X9_put σ (nI s) a2 a3) (k := 1) hI ?_ ?_
        · show f_X8_put σ (nI s) a2 a3 = _
          unfold f_X8_put f_X4_isMissing
          rw [e, bind_s, onN_1, if_pos (sh_f s hs).1, c1, if_neg h0, bind_s, if_neg (by decide), out_eq, bind_s, c2, c3, hi, if_pos rfl, r8_1, bind_s]
        · show f_X9_put (rf σ 1) (nI s) a2 a3 = _
          unfold f_X9_put
          rw [sheet_eq, bind_s, hq, if_pos (by decide), rd_nI (by show s < 4; exact hs), bind_s, rf_at (by decide), if_neg h0, rd_nI (by show s < 4; exact hs), bind_s, rf_at (by decide), c3, in_0d, bind_s, hi, if_neg (by decide), r9_1, bind_s]
      | false =>
        obtain ⟨i, hi', rfl⟩ := isO_lt2 hm hi
        refine ⟨(1, sI σ (74 + 2 * s) i (putV (σ.1 90 s) a3)), (1, sI (sI σ (74 + 2 * s) i (putV (σ.1 90 s) a3)) 92 (40 * s + i) (putV (σ.1 90 s) a3)), ?_, ?_, fun _ => rfl, put_in hI hs (by omega) _⟩
        · show f_X8_put σ (nI s) (nI i) a3 = _
          unfold f_X8_put f_X4_isMissing f_X4_write
          rw [e, bind_s, onN_1, if_pos (sh_f s hs).1, c1, if_neg h0, bind_s, if_neg (by decide), out_eq, bind_s, c2, c3, hi, if_neg (by decide), out_eq, bind_s, show isO (nI i) 0 (40 - 1) = false from isO_lit (n := 39) (by omega) (by omega), if_neg (by decide), (sh_f s hs).2.1]
          unfold putV
          by_cases h8 : σ.1 90 s = 8
          · rw [if_pos h8, if_pos h8, wr_nI (by rw [(sh_f s hs).2.2]; omega), bind_s, bind_s]
          · rw [if_neg h8, if_neg h8]
            by_cases h16 : σ.1 90 s = 16
            · rw [if_pos h16, if_pos h16, wr_nI (by rw [(sh_f s hs).2.2]; omega), bind_s, bind_s]
            · rw [if_neg h16, if_neg h16, wr_nI (by rw [(sh_f s hs).2.2]; omega), bind_s, bind_s]
        · show f_X9_put (sI σ (74 + 2 * s) i (putV (σ.1 90 s) a3)) (nI s) (nI i) a3 = _
          unfold f_X9_put f_X9_put_L95
          rw [sheet_eq, bind_s, hq, if_pos (by decide), rd_nI (by show s < 4; exact hs), bind_s, sI_ne (by omega), if_neg h0, rd_nI (by show s < 4; exact hs), bind_s, sI_ne (by omega), c3, in_0d, bind_s, hi, if_pos (by decide), bind_s, mul40 s hs, nI_add]
          generalize hτ : sI σ (74 + 2 * s) i (putV (σ.1 90 s) a3) = τ
          unfold putV
          by_cases h8 : σ.1 90 s = 8
          · rw [if_pos h8, if_pos h8, wr_nI (by show 40 * s + i < 160; omega), bind_s]
          · rw [if_neg h8, if_neg h8, bind_s]
            by_cases h16 : σ.1 90 s = 16
            · rw [if_pos h16, if_pos h16, wr_nI (by show 40 * s + i < 160; omega), bind_s]
            · rw [if_neg h16, if_neg h16, wr_nI (by show 40 * s + i < 160; omega), bind_s]
theorem cp_L1 {s1 x c : Nat} (hs : s1 < 4) (hx : x + c ≤ 40) (v3 v4 : Int32) : ∀ (d n : Nat) (σ : Sto), d ≤ c → d < n → ∃ τ, f_X9_move_L115 (nI s1) (nI x) v3 v4 (nI c) n (nI (c - d)) σ = f_X9_move_L152 v3 v4 (nI c) FU 0 τ ∧ (∀ j, τ.1 93 j = if c - d ≤ j ∧ j < c then σ.1 92 (40 * s1 + x + j) else σ.1 93 j) ∧ ∀ a b, a ≠ 93 → τ.1 a b = σ.1 a b := by
  intro d
  induction d with
  | zero =>
    intro n σ _ hn
    obtain ⟨n, rfl⟩ : ∃ n', n = n' + 1 := ⟨n - 1, by omega⟩
    rw [f_X9_move_L115, if_pos (nI_le (by omega) (by omega))]
    exact ⟨σ, rfl, fun j => by rw [if_neg (by omega)], fun _ _ _ => rfl⟩
  | succ d ih =>
    intro n σ hd hn
    obtain ⟨n, rfl⟩ : ∃ n', n = n' + 1 := ⟨n - 1, by omega⟩
    have e1 : c - d = (c - (d + 1)) + 1 := by omega
    rw [f_X9_move_L115, if_neg (nI_ge (by omega) (by omega)), mul40 s1 hs, nI_add, nI_add, rd_nI (by show 40 * s1 + x + (c - (d + 1)) < 160; omega), bind_s, wr_nI (by show c - (d + 1) < 40; omega), bind_s, nI_1, ← e1]
    obtain ⟨τ, t1, t2, t3⟩ := ih n (sI σ 93 (c - (d + 1)) (σ.1 92 (40 * s1 + x + (c - (d + 1))))) (by omega) (by omega)
    refine ⟨τ, t1, fun j => ?_, fun a b h => by rw [t3 a b h, sI_ne h]⟩
    rw [t2 j, sI_at, sI_ne (by decide)]
    by_cases h : c - d ≤ j ∧ j < c
    · rw [if_pos h, if_pos (by omega)]
    · rw [if_neg h]
      by_cases h' : j = c - (d + 1)
      · rw [if_pos h', if_pos (by omega), h']
      · rw [if_neg h', if_neg (by omega)]
theorem cp_L2 {s2 y c : Nat} (hs : s2 < 4) (hy : y + c ≤ 40) : ∀ (d n : Nat) (σ : Sto), d ≤ c → d < n → ∃ τ, f_X9_move_L152 (nI s2) (nI y) (nI c) n (nI (c - d)) σ = some (nI c, τ) ∧ (∀ j, τ.1 92 j = if 40 * s2 + y + (c - d) ≤ j ∧ j < 40 * s2 + y + c then σ.1 93 (j - (40 * s2 + y)) else σ.1 92 j) ∧ ∀ a b, a ≠ 92 → τ.1 a b = σ.1 a b := by
  intro d
  induction d with
  | zero =>
    intro n σ _ hn
    obtain ⟨n, rfl⟩ : ∃ n', n = n' + 1 := ⟨n - 1, by omega⟩
    rw [f_X9_move_L152, if_pos (nI_le (by omega) (by omega))]
    exact ⟨σ, rfl, fun j => by rw [if_neg (by omega)], fun _ _ _ => rfl⟩
  | succ d ih =>
    intro n σ hd hn
    obtain ⟨n, rfl⟩ : ∃ n', n = n' + 1 := ⟨n - 1, by omega⟩
    have e1 : c - d = (c - (d + 1)) + 1 := by omega
    rw [f_X9_move_L152, if_neg (nI_ge (by omega) (by omega)), rd_nI (by show c - (d + 1) < 40; omega), bind_s, mul40 s2 hs, nI_add, nI_add, wr_nI (by show 40 * s2 + y + (c - (d + 1)) < 160; omega), bind_s, nI_1, ← e1]
    obtain ⟨τ, t1, t2, t3⟩ := ih n (sI σ 92 (40 * s2 + y + (c - (d + 1))) (σ.1 93 (c - (d + 1)))) (by omega) (by omega)
    refine ⟨τ, t1, fun j => ?_, fun a b h => by rw [t3 a b h, sI_ne h]⟩
    rw [t2 j, sI_at, sI_ne (show (93 : Nat) ≠ 92 by decide)]
    by_cases h : 40 * s2 + y + (c - d) ≤ j ∧ j < 40 * s2 + y + c
    · rw [if_pos h, if_pos (by omega)]
    · rw [if_neg h]
      by_cases h' : j = 40 * s2 + y + (c - (d + 1))
      · rw [if_pos h', if_pos (by omega), h', show 40 * s2 + y + (c - (d + 1)) - (40 * s2 + y) = c - (d + 1) by omega]
      · rw [if_neg h', if_neg (by omega)]
theorem cp9 {σ : Sto} {s1 s2 x y c : Nat} (h1 : s1 < 4) (h2 : s2 < 4) (hx : x + c ≤ 40) (hy : y + c ≤ 40) : ∃ τ, f_X9_move_L115 (nI s1) (nI x) (nI s2) (nI y) (nI c) FU 0 σ = some (nI c, τ) ∧ (∀ j, τ.1 92 j = if 40 * s2 + y ≤ j ∧ j < 40 * s2 + y + c then σ.1 92 (40 * s1 + x + (j - (40 * s2 + y))) else σ.1 92 j) ∧ ∀ a b, a ≠ 92 → a ≠ 93 → τ.1 a b = σ.1 a b := by
  obtain ⟨α, a1, a2, a3⟩ := cp_L1 h1 hx (nI s2) (nI y) c FU σ (by omega) (by unfold FU; omega)
  obtain ⟨β, b1, b2, b3⟩ := cp_L2 h2 hy c FU α (by omega) (by unfold FU; omega)
  rw [Nat.sub_self] at a1 b1
  refine ⟨β, a1.trans b1, fun j => ?_, fun a b h h' => by rw [b3 a b h, a3 a b h']⟩
  rw [b2 j]
  by_cases h : 40 * s2 + y ≤ j ∧ j < 40 * s2 + y + c
  · rw [if_pos (by omega), if_pos h, a2, if_pos (by omega)]
  · rw [if_neg (by omega), if_neg h, a3 _ _ (by decide)]
theorem cpA_x {σ : Sto} {a b x y c : Nat} (ha : x + c ≤ Ln0 a) (hb : y + c ≤ Ln0 b) : cpA σ a (nI x) b (nI y) (nI c) = some (sW σ b (fun k => if y ≤ k ∧ k < y + c then σ.1 a (x + (k - y)) else σ.1 b k)) := by
  have l1 := Ln0_lt a
  have l2 := Ln0_lt b
  unfold cpA
  have ex : (nI x).toNatClampNeg = x := nI_clamp (by omega)
  have ey : (nI y).toNatClampNeg = y := nI_clamp (by omega)
  have ec : (nI c).toNatClampNeg = c := nI_clamp (by omega)
  rw [if_pos ⟨nI_pos (by omega), nI_pos (by omega), nI_pos (by omega), by rw [ex, ec]; exact ha, by rw [ey, ec]; exact hb⟩, ex, ey, ec]
  rfl
theorem holds_c {σ : Sto} {k n : Nat} (hn : n ≤ 40) (e : σ.1 k 1 = nI n) (a c : Int32) : (f_X4_holds σ k a c = some false ∧ (a < 0 ∨ c < 0 ∨ nI n - a < c)) ∨ ∃ x m, x + m ≤ n ∧ a = nI x ∧ c = nI m ∧ f_X4_holds σ k a c = some true := by
  unfold f_X4_holds
  by_cases ha : a < 0
  · exact Or.inl ⟨by rw [if_pos ha], Or.inl ha⟩
  · by_cases hc : c < 0
    · exact Or.inl ⟨by rw [if_neg ha, if_pos hc], Or.inr (Or.inl hc)⟩
    · obtain ⟨x, hx, rfl⟩ := nI_of ha
      obtain ⟨m, hm, rfl⟩ := nI_of hc
      rw [if_neg ha, if_neg hc, e]
      by_cases h1 : nI n < nI x
      · have h1' : n < x := (nI_ltI (by omega) hx).mp h1
        refine Or.inl ⟨by rw [if_pos h1], Or.inr (Or.inr ?_)⟩
        rw [Int32.lt_iff_toInt_lt, Int32.toInt_sub, nI_toInt (by omega), nI_toInt hx, nI_toInt hm, Int.bmod_eq_of_le (by omega) (by omega)]
        omega
      · have h1' : x ≤ n := by
          rw [nI_ltI (by omega) hx] at h1
          omega
        rw [if_neg h1]
        by_cases h2 : nI n - nI x < nI m
        · exact Or.inl ⟨by rw [if_pos h2], Or.inr (Or.inr h2)⟩
        · refine Or.inr ⟨x, m, ?_, rfl, rfl, by rw [if_neg h2]⟩
          rw [Int32.lt_iff_toInt_lt, Int32.toInt_sub, nI_toInt (by omega), nI_toInt hx, nI_toInt hm, Int.bmod_eq_of_le (by omega) (by omega)] at h2
          omega
theorem nI_sub {n x : Nat} (h : x ≤ n) (hn : n < 2 ^ 31) : (nI n - nI x : Int32) = nI (n - x) := by
  rw [← Int32.toInt_inj, Int32.toInt_sub, nI_toInt hn, nI_toInt (by omega), nI_toInt (by omega), Int.bmod_eq_of_le (by omega) (by omega)]
  omega
def movE (σ : Sto) (a2 a4 a5 n1 n2 : Int32) (X Y : Option (Int32 × Sto)) : Option (Int32 × Sto) := if a5 < 0 then X else if a2 < 0 then X else if a4 < 0 then X else if n1 - a2 < a5 then X else if a5 ≤ n2 - a4 then Y else X
theorem s_move (a1 a2 a3 a4 a5 : Int32) (b : Bool) : LPr (fun σ => f_X8_move σ a1 a2 a3 a4 a5) (fun σ => f_X9_move σ a1 a2 a3 a4 a5) b Inv Inv := by
  intro σ hI
  have er := fun (k : Nat) (h8 : f_X8_move σ a1 a2 a3 a4 a5 = some (-1000000000 - nI k, rf σ k)) (h9 : f_X9_move (rf σ k) a1 a2 a3 a4 a5 = some (-1000000000 - nI k, fi (rf σ k) k)) => er_LPr (f := fun σ => f_X8_move σ a1 a2 a3 a4 a5) (g := fun σ => f_X9_move σ a1 a2 a3 a4 a5) (b := b) hI h8 h9
  unfold f_X8_move f_X9_move f_X4_isMissing at er
  rcases shA8 σ a1 with ⟨hq, e⟩ | ⟨s, hs, rfl, hq, e⟩
  · rcases shA8 σ a3 with ⟨hq', e'⟩ | ⟨s', hs', rfl, hq', e'⟩
    · exact er 1 (by rw [e, bind_s, e', bind_s, onN_0, r8_1, bind_s]) (by rw [sheet_eq, bind_s, hq, if_neg (by decide), r9_1, bind_s])
    · exact er 1 (by rw [e, bind_s, e', bind_s, onN_0, r8_1, bind_s]) (by rw [sheet_eq, bind_s, hq, if_neg (by decide), r9_1, bind_s])
  · rcases shA8 σ a3 with ⟨hq', e'⟩ | ⟨s', hs', rfl, hq', e'⟩
    · exact er 1 (by rw [e, bind_s, e', bind_s, onN_1, onN_0, r8_1, bind_s]) (by rw [sheet_eq, bind_s, hq, if_pos (by decide), sheet_eq, bind_s, hq', if_neg (by decide), r9_1, bind_s])
    · obtain ⟨c1, c2, ⟨m, hm, c3⟩, c4⟩ := hI.1.2.2.2.2.1 s hs
      obtain ⟨d1, d2, ⟨m', hm', d3⟩, d4⟩ := hI.1.2.2.2.2.1 s' hs'
      have r90 : ∀ (τ : Sto) s, s < 4 → rdA τ 90 (nI s) = some (τ.1 90 s) := fun τ s hs => rd_nI (by show s < 4; exact hs)
      have r91 : ∀ (τ : Sto) s, s < 4 → rdA τ 91 (nI s) = some (τ.1 91 s) := fun τ s hs => rd_nI (by show s < 4; exact hs)
      by_cases h0 : σ.1 90 s = 0
      · exact er 2 (by rw [e, bind_s, e', bind_s, onN_1, onN_1, if_pos (sh_f s hs).1, c1, if_pos h0, bind_s, if_pos rfl, r8_2, bind_s]) (by rw [sheet_eq, bind_s, hq, if_pos (by decide), sheet_eq, bind_s, hq', if_pos (by decide), r90 _ s hs, bind_s, rf_at (by decide), if_pos h0, r9_2, bind_s])
      · by_cases h0' : σ.1 90 s' = 0
        · exact er 2 (by rw [e, bind_s, e', bind_s, onN_1, onN_1, if_pos (sh_f s hs).1, c1, if_neg h0, bind_s, if_neg (by decide), if_pos (sh_f s' hs').1, d1, if_pos h0', bind_s, if_pos rfl, r8_2, bind_s]) (by rw [sheet_eq, bind_s, hq, if_pos (by decide), sheet_eq, bind_s, hq', if_pos (by decide), r90 _ s hs, bind_s, rf_at (by decide), if_neg h0, r90 _ s' hs', bind_s, rf_at (by decide), if_pos h0', r9_2, bind_s])
        · by_cases hw : σ.1 90 s = σ.1 90 s'
          · -- what the reference does next
            have g9 : ∀ τ : Sto, τ.1 90 s = σ.1 90 s → τ.1 90 s' = σ.1 90 s' → τ.1 91 s = nI m → τ.1 91 s' = nI m' → f_X9_move τ (nI s) a2 (nI s') a4 a5 = movE τ a2 a4 a5 (nI m) (nI m') ((f_X9_finds τ (1 : Int32)).bind (fun r108 => some (r108.1, r108.2))) (f_X9_move_L115 (nI s) a2 (nI s') a4 a5 FU 0 τ) := by
              intro τ q1 q2 q3 q4
              unfold f_X9_move movE
              rw [sheet_eq, bind_s, hq, if_pos (by decide), sheet_eq, bind_s, hq', if_pos (by decide), r90 _ s hs, bind_s, q1, if_neg h0, r90 _ s' hs', bind_s, q2, if_neg h0', bind_s, bind_s, if_pos hw, r91 _ s hs, bind_s, q3, r91 _ s' hs', bind_s, q4]
            have g8 : f_X8_move σ (nI s) a2 (nI s') a4 a5 = ((f_X4_holds σ (73 + 2 * s) a2 a5).bind (fun r76 => if r76 = true then ((f_X4_holds σ (73 + 2 * s') a4 a5).bind (fun r88 => if r88 = true then ((cpA σ (A0 (73 + 2 * s) 0) a2 (A0 (73 + 2 * s') 0) a4 a5).bind (fun σ115 => some (a5, σ115))) else (f_X8_refuse σ (1 : Int32)).bind (fun r96 => some (r96.1, r96.2)))) else (f_X8_refuse σ (1 : Int32)).bind (fun r96 => some (r96.1, r96.2)))) := by
              unfold f_X8_move f_X4_isMissing
              rw [e, bind_s, e', bind_s, onN_1, onN_1, if_pos (sh_f s hs).1, c1, if_neg h0, bind_s, if_neg (by decide), if_pos (sh_f s' hs').1, d1, if_neg h0', bind_s, if_neg (by decide), if_pos hw]
            have er' := fun (h8 : f_X8_move σ (nI s) a2 (nI s') a4 a5 = some (-1000000000 - nI 1, rf σ 1)) (h9 : f_X9_move (rf σ 1) (nI s) a2 (nI s') a4 a5 = some (-1000000000 - nI 1, fi (rf σ 1) 1)) => er_LPr (f := fun σ => f_X8_move σ (nI s) a2 (nI s') a4 a5) (g := fun σ => f_X9_move σ (nI s) a2 (nI s') a4 a5) (b := b) hI h8 h9
            have g9r := g9 (rf σ 1) (rf_at (by decide)) (rf_at (by decide)) ((rf_at (by decide)).trans c3) ((rf_at (by decide)).trans d3)
            rw [r9_1, bind_s] at g9r
            rcases holds_c hm (c2.trans c3) a2 a5 with ⟨k1, k2⟩ | ⟨x, c, hx, rfl, rfl, k1⟩
            · refine er' (by rw [g8, k1, bind_s, if_neg (by decide), r8_1, bind_s]) ?_
              rw [g9r]
              unfold movE
              by_cases z5 : a5 < 0
              · rw [if_pos z5]
              · rw [if_neg z5]
                by_cases z2 : a2 < 0
                · rw [if_pos z2]
                · rw [if_neg z2]
                  by_cases z4 : a4 < 0
                  · rw [if_pos z4]
                  · rw [if_neg z4, if_pos ((k2.resolve_left z2).resolve_left z5)]
            · have n5 : ¬ nI c < 0 := nI_pos (by omega)
              have n2 : ¬ nI x < 0 := nI_pos (by omega)
              have nn : ¬ nI m - nI x < nI c := by rw [nI_sub (by omega) (by omega)]; exact nI_nlt (by omega) (by omega)
              rcases holds_c hm' (d2.trans d3) a4 (nI c) with ⟨k3, k4⟩ | ⟨y, c', hy, rfl, hcc, k3⟩
              · refine er' (by rw [g8, k1, bind_s, if_pos rfl, k3, bind_s, if_neg (by decide), r8_1, bind_s]) ?_
                rw [g9r]
                unfold movE
                rw [if_neg n5, if_neg n2]
                by_cases z4 : a4 < 0
                · rw [if_pos z4]
                · rw [if_neg z4, if_neg nn, if_neg (Int32.not_le.mpr ((k4.resolve_left z4).resolve_left n5))]
              · have : c = c' := (nI_eq (by omega) (by omega)).mp hcc
                subst this
                obtain ⟨-, A1, A2⟩ := sh_f s hs
                obtain ⟨-, B1, B2⟩ := sh_f s' hs'
                generalize hτ : sW σ (74 + 2 * s') (fun k => if y ≤ k ∧ k < y + c then σ.1 (74 + 2 * s) (x + (k - y)) else σ.1 (74 + 2 * s') k) = τ
                have oτ : ∀ k j, k ≠ 74 + 2 * s' → τ.1 k j = σ.1 k j := fun k j hk => by rw [← hτ, sW_ne hk]
                obtain ⟨υ, u1, u2, u3⟩ := cp9 (σ := τ) hs hs' (x := x) (y := y) (c := c) (by omega) (by omega)
                refine ⟨(nI c, τ), (nI c, υ), ?_, ?_, fun _ => rfl, hI.sh (fun k j hsc n1 n2 => by rw [u3 k j (by omega) (by rintro rfl; simp [scr] at hsc), oτ k j (by omega)]) (fun r hr => ?_)⟩
                · show f_X8_move σ (nI s) (nI x) (nI s') (nI y) (nI c) = _
                  rw [g8, k1, bind_s, if_pos rfl, k3, bind_s, if_pos rfl, A1, B1, cpA_x (by omega) (by omega), bind_s, hτ]
                · show f_X9_move τ (nI s) (nI x) (nI s') (nI y) (nI c) = _
                  rw [g9 τ (oτ _ _ (by omega)) (oτ _ _ (by omega)) ((oτ _ _ (by omega)).trans c3) ((oτ _ _ (by omega)).trans d3)]
                  unfold movE
                  rw [if_neg n5, if_neg n2, if_neg (nI_pos (by omega)), if_neg nn, nI_sub (by omega) (by omega), if_pos (nI_le (by omega) (by omega))]
                  exact u1
                · obtain ⟨q1, q2, q3, q4⟩ := hI.1.2.2.2.2.1 r hr
                  refine ⟨?_, ?_, ?_, fun i hi => ?_⟩
                  · rw [u3 _ _ (by omega) (by omega), u3 _ _ (by omega) (by omega), oτ _ _ (by omega), oτ _ _ (by omega)]; exact q1
                  · rw [u3 _ _ (by omega) (by omega), u3 _ _ (by omega) (by omega), oτ _ _ (by omega), oτ _ _ (by omega)]; exact q2
                  · rw [u3 _ _ (by omega) (by omega), oτ _ _ (by omega)]; exact q3
                  · rw [u3 _ _ (by omega) (by omega), u2, oτ 92 _ (by omega), oτ 92 _ (by omega)]
                    by_cases hrs : r = s'
                    · subst hrs
                      rw [← hτ, sW_at]
                      by_cases hy' : y ≤ i ∧ i < y + c
                      · rw [if_pos hy', if_pos (by omega), c4 _ (by omega)]
                        exact congrArg _ (by omega)
                      · rw [if_neg hy', if_neg (by omega)]; exact q4 i hi
                    · rw [oτ _ _ (by omega), if_neg (by omega)]; exact q4 i hi
          · exact er 5 (by rw [e, bind_s, e', bind_s, onN_1, onN_1, if_pos (sh_f s hs).1, c1, if_neg h0, bind_s, if_neg (by decide), if_pos (sh_f s' hs').1, d1, if_neg h0', bind_s, if_neg (by decide), if_neg hw, r8_5, bind_s]) (by rw [sheet_eq, bind_s, hq, if_pos (by decide), sheet_eq, bind_s, hq', if_pos (by decide), r90 _ s hs, bind_s, rf_at (by decide), if_neg h0, r90 _ s' hs', bind_s, rf_at (by decide), if_neg h0', bind_s, bind_s, if_neg hw, r9_5, bind_s])
