/-! The whole reader, and text. -/
theorem any_PS {T : Nat → Int32} {L u o D : Nat} {a : Int32} (hp : ∀ d8 d9, D ≤ d8 → D ≤ d9 → PS T L u o (g_X3_readAll d8 5 a) (g_X9_both d9 6 0)) : ∀ d8 d9, D + 5 ≤ d8 → D + 5 ≤ d9 → PS T L u o (g_X3_readAll d8 1 a) (g_X9_both d9 2 0) := by
  have pr : ∀ d8 d9, D + 1 ≤ d8 → D + 1 ≤ d9 → PS T L u o (g_X3_readAll d8 6 a) (g_X9_both d9 4 0) := by
    intro d8 d9 h1 h2
    obtain ⟨d8, rfl⟩ : ∃ k, d8 = k + 1 := ⟨d8 - 1, by omega⟩
    obtain ⟨d9, rfl⟩ : ∃ k, d9 = k + 1 := ⟨d9 - 1, by omega⟩
    exact product_S (r8 := g_X3_readAll d8) (r9 := g_X9_both d9) a (hp d8 d9 (by omega) (by omega))
  have su : ∀ d8 d9, D + 2 ≤ d8 → D + 2 ≤ d9 → PS T L u o (g_X3_readAll d8 7 a) (g_X9_both d9 5 0) := by
    intro d8 d9 h1 h2
    obtain ⟨d8, rfl⟩ : ∃ k, d8 = k + 1 := ⟨d8 - 1, by omega⟩
    obtain ⟨d9, rfl⟩ : ∃ k, d9 = k + 1 := ⟨d9 - 1, by omega⟩
    exact sum_S (r8 := g_X3_readAll d8) (r9 := g_X9_both d9) a (pr d8 d9 (by omega) (by omega))
  have co : ∀ d8 d9, D + 3 ≤ d8 → D + 3 ≤ d9 → PS T L u o (g_X3_readAll d8 3 a) (g_X9_both d9 1 0) := by
    intro d8 d9 h1 h2
    obtain ⟨d8, rfl⟩ : ∃ k, d8 = k + 1 := ⟨d8 - 1, by omega⟩
    obtain ⟨d9, rfl⟩ : ∃ k, d9 = k + 1 := ⟨d9 - 1, by omega⟩
    exact comp_S (r8 := g_X3_readAll d8) (r9 := g_X9_both d9) a (su d8 d9 (by omega) (by omega))
  have al : ∀ d8 d9, D + 4 ≤ d8 → D + 4 ≤ d9 → PS T L u o (g_X3_readAll d8 0 a) (g_X9_both d9 0 0) := by
    intro d8 d9 h1 h2
    obtain ⟨d8, rfl⟩ : ∃ k, d8 = k + 1 := ⟨d8 - 1, by omega⟩
    obtain ⟨d9, rfl⟩ : ∃ k, d9 = k + 1 := ⟨d9 - 1, by omega⟩
    exact all_S (r8 := g_X3_readAll d8) (r9 := g_X9_both d9) a (co d8 d9 (by omega) (by omega))
  intro d8 d9 h1 h2
  obtain ⟨d8, rfl⟩ : ∃ k, d8 = k + 1 := ⟨d8 - 1, by omega⟩
  obtain ⟨d9, rfl⟩ : ∃ k, d9 = k + 1 := ⟨d9 - 1, by omega⟩
  exact any_S (r8 := g_X3_readAll d8) (r9 := g_X9_both d9) a (al d8 d9 (by omega) (by omega))
theorem part_PS {T : Nat → Int32} {L u : Nat} (hu : u = 0 ∨ u = 1) (hT : ∀ i, i < L → isO (T i) 0 255 = false) : ∀ r, r ≤ 5 → ∀ d8 d9, 2 + 7 * r ≤ d8 → 2 + 7 * r ≤ d9 → PS T L u (5 - r) (g_X3_readAll d8 5 (nI (5 - r))) (g_X9_both d9 6 0) := by
  intro r
  induction r with
  | zero =>
    intro _ d8 d9 h1 h2
    obtain ⟨d8, rfl⟩ : ∃ k, d8 = k + 2 := ⟨d8 - 2, by omega⟩
    obtain ⟨d9, rfl⟩ : ∃ k, d9 = k + 2 := ⟨d9 - 2, by omega⟩
    exact part_S hu hT (o := 5) (by omega) (r8 := g_X3_readAll (d8 + 1)) (q8 := g_X3_readAll d8) (r9 := g_X9_both (d9 + 1)) (q9 := g_X9_both d9) (fun _ _ => rfl) (fun _ _ => rfl) (fun _ _ => rfl) (fun h => by omega) (fun h => by omega)
  | succ r ih =>
    intro hr d8 d9 h1 h2
    obtain ⟨d8, rfl⟩ : ∃ k, d8 = k + 2 := ⟨d8 - 2, by omega⟩
    obtain ⟨d9, rfl⟩ : ∃ k, d9 = k + 2 := ⟨d9 - 2, by omega⟩
    have e : 5 - (r + 1) + 1 = 5 - r := by omega
    exact part_S hu hT (o := 5 - (r + 1)) (by omega) (r8 := g_X3_readAll (d8 + 1)) (q8 := g_X3_readAll d8) (r9 := g_X9_both (d9 + 1)) (q9 := g_X9_both d9) (fun _ _ => rfl) (fun _ _ => rfl) (fun _ _ => rfl) (fun _ => by rw [e]; exact ih (by omega) d8 d9 (by omega) (by omega)) (fun _ => by rw [e]; exact any_PS (ih (by omega)) d8 d9 (by omega) (by omega))
theorem top_PS {T : Nat → Int32} {L u : Nat} (hu : u = 0 ∨ u = 1) (hT : ∀ i, i < L → isO (T i) 0 255 = false) : PS T L u 0 (g_X3_readAll 64 1 0) (g_X9_both 64 2 0) := any_PS (D := 37) (a := 0) (part_PS hu hT 5 (by omega)) 64 64 (by omega) (by omega)
/-- the class reads -/
def sc7 (σ τ : Sto) : Prop := ∀ a b, a ≠ 55 → a ≠ 56 → a ≠ 57 → τ.1 a b = σ.1 a b
theorem sc7.fr {σ τ : Sto} (h : sc7 σ τ) : Fr σ τ := fun k j hs => h k j (by rintro rfl; simp [scr] at hs) (by rintro rfl; simp [scr] at hs) (by rintro rfl; simp [scr] at hs)
theorem e9.fr {σ τ : Sto} (h : e9 σ τ) : Fr σ τ := fun k j hs => h k j (by rintro rfl; simp [scr] at hs) (by rintro ⟨rfl, h⟩; rcases h with rfl | rfl | rfl | rfl <;> simp [scr] at hs)
theorem read8 {σ : Sto} {t u : Nat} (ht : t ≤ 50) (hu : u = 0 ∨ u = 1) : ∃ ρ, f_X3_read σ 10 (nI t) (nI u) = (g_X3_readAll 64 1 0 ρ).bind (fun r56 => if r56.1 = true then (if (r56.2.1 55 4) = (r56.2.1 55 3) then (some ((-1 : Int32), r56.2)) else some ((r56.2.1 55 4), r56.2)) else some ((r56.2.1 55 4), r56.2)) ∧ PC (fun i => σ.1 10 i) t u 0 [] ρ ∧ sc7 σ ρ := by
  have eL : imin (imin (nI t) (Int32.ofNat (Ln0 10))) 50 = nI t := (show ∀ t, t ≤ 50 → imin (imin (nI t) (Int32.ofNat (Ln0 10))) 50 = nI t by decide) t ht
  unfold f_X3_read
  rw [eL, lp_b, sI_at, if_pos rfl, cpA_n (by show t ≤ 50; exact ht) (by show t ≤ 50; exact ht), bind_s]
  generalize hα : sW (sI σ 55 3 (nI t)) 57 _ = α
  have a1 : ∀ j, j < t → α.1 57 j = σ.1 10 j := fun j hj => by rw [← hα, sW_at, if_pos hj, sI_ne (by decide)]
  have a2 : α.1 55 3 = nI t := by rw [← hα, sW_ne (by decide), sI_at, if_pos rfl]
  have a3 : sc7 σ α := fun a b h1 h2 h3 => by rw [← hα, sW_ne h3, sI_ne h1]
  refine ⟨sI (sI (sR α 55 5 (some (1004 + u))) 55 4 0) 55 1 0, ?_, ⟨ht, by omega, by simp, ?_, ?_, fun i hi => ?_, ?_, ?_, fun i hi => by simp at hi⟩, fun a b h1 h2 h3 => by rw [sI_ne h1, sI_ne h1]; exact a3 a b h1 h2 h3⟩
  · unfold f_X3_read_L41
    rcases hu with rfl | rfl
    · rw [if_pos (by decide), lp_b, lp_b, lp_b]
    · rw [if_neg (by decide), lp_b, lp_b, lp_b]
  · rw [sI_nj (by decide), sI_nj (by decide)]; exact a2
  · show (if 55 = 55 ∧ 5 = 5 then some (1004 + u) else α.2 55 5) = _
    rw [if_pos ⟨rfl, rfl⟩]
  · rw [sI_ne (by decide), sI_ne (by decide)]; exact a1 i hi
  · rw [sI_nj (by decide), sI_at, if_pos rfl]; rfl
  · rw [sI_at, if_pos rfl]; rfl
def e10 (σ τ : Sto) : Prop := ∀ a b, a ≠ 87 → ¬ (a = 81 ∧ ((5 ≤ b ∧ b ≤ 10) ∨ b = 13)) → τ.1 a b = σ.1 a b
theorem e10.fr {σ τ : Sto} (h : e10 σ τ) : Fr σ τ := fun k j hs => h k j (by rintro rfl; simp [scr] at hs) (by
  rintro ⟨rfl, h⟩
  rcases (show j = 5 ∨ j = 6 ∨ j = 7 ∨ j = 8 ∨ j = 9 ∨ j = 10 ∨ j = 13 by omega) with rfl | rfl | rfl | rfl | rfl | rfl | rfl <;> simp [scr] at hs)
theorem reads9 {σ : Sto} {t u : Nat} (ht : t ≤ 50) (hu : u = 0 ∨ u = 1) : ∃ ρ, f_X9_reads σ 210 (nI t) (nI u) = (g_X9_both 64 2 (0 : Int32) ρ).bind (fun r45 => if 0 ≤ (r45.1 81 8) then (some r45) else if (r45.1 81 7) ≤ (r45.1 81 6) then (some r45) else (f_X9_wrong r45).bind (fun r67 => some r67)) ∧ PF (fun i => σ.1 82 (210 + i)) t u 0 0 [] ρ ∧ e10 σ ρ := by
  unfold f_X9_reads f_X9_reads_L41
  have eb : ∀ τ : Sto, (if nI u = 1 then lp (sI τ 81 10 (b2i true)) (fun σ41 => (g_X9_both 64 2 (0 : Int32) σ41).bind (fun r45 => if 0 ≤ (r45.1 81 8) then (some r45) else if (r45.1 81 7) ≤ (r45.1 81 6) then (some r45) else (f_X9_wrong r45).bind (fun r67 => some r67))) else lp (sI τ 81 10 (b2i false)) (fun σ41 => (g_X9_both 64 2 (0 : Int32) σ41).bind (fun r45 => if 0 ≤ (r45.1 81 8) then (some r45) else if (r45.1 81 7) ≤ (r45.1 81 6) then (some r45) else (f_X9_wrong r45).bind (fun r67 => some r67)))) = (g_X9_both 64 2 (0 : Int32) (sI τ 81 10 (nI u))).bind (fun r45 => if 0 ≤ (r45.1 81 8) then (some r45) else if (r45.1 81 7) ≤ (r45.1 81 6) then (some r45) else (f_X9_wrong r45).bind (fun r67 => some r67)) := by
    intro τ
    rcases hu with rfl | rfl
    · rw [if_neg (by decide), lp_b]; rfl
    · rw [if_pos (by decide), lp_b]; rfl
  rw [lp_b, lp_b, lp_b, lp_b, lp_b, lp_b, eb]
  refine ⟨_, rfl, ⟨ht, by omega, by simp, ?_, ?_, ?_, fun i hi => ?_, ?_, ?_, ?_, ?_, fun i hi => by simp at hi⟩, fun a b h1 h2 => ?_⟩
  · rfl
  · rfl
  · rfl
  · rfl
  · rfl
  · rfl
  · rfl
  · rfl
  · have w : ∀ (τ : Sto) (j : Nat) (v : Int32), ((5 ≤ j ∧ j ≤ 10) ∨ j = 13) → (sI τ 81 j v).1 a b = τ.1 a b := by
      intro τ j v hj
      show (if a = 81 ∧ b = j then v else τ.1 a b) = _
      rw [if_neg (fun z => h2 ⟨z.1, by omega⟩)]
    rw [w _ _ _ (by omega), w _ _ _ (by omega), w _ _ _ (by omega), w _ _ _ (by omega), w _ _ _ (by omega), w _ _ _ (by omega), w _ _ _ (by omega)]
theorem CD.keep3 {k A u : Nat} {σ τ : Sto} (h : CD k A u σ) (h1 : τ.1 k 3 = σ.1 k 3) (h2 : ∀ j, j < 50 → τ.1 (k + 1) j = σ.1 (k + 1) j) (h3 : τ.1 A (88 + u) = σ.1 A (88 + u)) (h4 : ∀ i, i < 50 → τ.1 A (110 + 50 * u + i) = σ.1 A (110 + 50 * u + i)) : CD k A u τ := by
  obtain ⟨n, q1, q2, q3, q4, q5⟩ := h
  refine ⟨n, q1, by rw [h1]; exact q2, by rw [h3]; exact q3, fun i hi => by rw [h2 i (by omega), h4 i (by omega)]; exact q4 i hi, q5.imp id (fun q => ?_)⟩
  rw [show codeL (τ.1 A) u n = codeL (σ.1 A) u n from List.map_congr_left (fun i hi => h4 _ (by have := List.mem_range.mp hi; omega))]
  exact q
/-- a law is laid anew in both -/
theorem Inv.code {σ τ : Sto} (h : Inv σ) {u : Nat} (hu : u = 0 ∨ u = 1) (hc : CD (4 + 3 * u) 82 u τ) (hk : ∀ a b, scr a b = false → a ≠ 82 → a ≠ 5 + 3 * u → ¬ (a = 4 + 3 * u ∧ b = 3) → τ.1 a b = σ.1 a b) (hr : ∀ b, b ≠ 88 + u → ¬ (110 + 50 * u ≤ b ∧ b < 160 + 50 * u) → τ.1 82 b = σ.1 82 b) : Inv τ := by
  obtain ⟨q1, q2, q3, q4, q5, q6, q7, q8⟩ := h.1.1
  have ls : ∀ k j, 1 ≤ k → k ≤ 27 → k ≠ 6 → k ≠ 9 → scr k j = false := fun k j h1 h2 h3 h4 => lk_scr (Or.inl ⟨rfl, rfl⟩) (Or.inl (by omega)) j
  have eN : NN (τ.1 82) = NN (σ.1 82) := by unfold NN; rw [hr 12 (by omega) (by omega)]
  obtain ⟨N, hN, -, hNN⟩ := okv_12 q4
  have other : ∀ u', u' ≤ 1 → u' ≠ u → CD (4 + 3 * u') 82 u' σ → CD (4 + 3 * u') 82 u' τ := fun u' h1 h2 hcd => hcd.keep3 (hk _ _ (ls _ _ (by omega) (by omega) (by omega) (by omega)) (by omega) (by omega) (by omega)) (fun j _ => hk _ _ (ls _ _ (by omega) (by omega) (by omega) (by omega)) (by omega) (by omega) (by omega)) (hr _ (by omega) (by omega)) (fun i hi => hr _ (by omega) (by omega))
  have hL : LR 1 82 τ := by
    refine ⟨fun i hi => ?_, fun q hq => ?_, fun p j hp hj => ?_, fun i => ?_, fun i hi => ?_, fun i hi => ?_, ?_, ?_⟩
    · rw [hk _ _ (ls _ _ (by omega) (by omega) (by omega) (by omega)) (by omega) (by omega) (by omega), hr _ (by omega) (by omega)]; exact q1 i hi
    · rw [hk _ _ (ls _ _ (by omega) (by omega) (by omega) (by omega)) (by omega) (by omega) (by omega), hr _ (by have := mp_lo q hq; omega) (by have := mp_lo q hq; omega)]; exact q2 q hq
    · rw [eN] at hp
      have := q3 p j hp hj
      rw [S8_congr (fun j => hk _ j (ls _ _ (by omega) (by omega) (by omega) (by omega)) (by omega) (by omega) (by omega)) (fun j => hk _ j (ls _ _ (by omega) (by omega) (by omega) (by omega)) (by omega) (by omega) (by omega)), this]
      unfold S9
      rw [hr _ (by omega) (by omega)]
    · by_cases hi : i = 88 + u ∨ (110 + 50 * u ≤ i ∧ i < 160 + 50 * u)
      · unfold okv
        rw [if_neg (by omega), if_neg (by omega), if_neg (by omega), if_neg (by omega), if_neg (by omega), if_neg (by omega)]
      · rw [hr i (by omega) (by omega)]; exact q4 i
    · rw [hk _ _ (ls _ _ (by omega) (by omega) (by omega) (by omega)) (by omega) (by omega) (by omega), hr _ (by omega) (by omega)]; exact q5 i hi
    · rw [hk _ _ (ls _ _ (by omega) (by omega) (by omega) (by omega)) (by omega) (by omega) (by omega), hr _ (by omega) (by omega)]; exact q6 i hi
    · rcases hu with rfl | rfl
      · exact hc
      · exact other 0 (by omega) (by omega) q7
    · rcases hu with rfl | rfl
      · exact other 1 (by omega) (by omega) q8
      · exact hc
  refine ⟨h.1.lake hL (fun a b ha hs _ _ => hk a b hs (by rintro rfl; exact ha (Or.inr rfl)) (by unfold lkc at ha; omega) (by unfold lkc at ha; omega)) ⟨hk 4 0 (by decide) (by decide) (by omega) (by omega), hk 7 0 (by decide) (by decide) (by omega) (by omega)⟩, fun x hx => ?_⟩
  rw [hk 68 x (by simp [scr]) (by decide) (by omega) (by omega), hk 85 x (by simp [scr]) (by decide) (by omega) (by omega)]
  exact h.2 x hx
theorem text9_L {u n : Nat} (hu : u = 0 ∨ u = 1) (hn : n ≤ 50) : ∀ (d m : Nat) (σ : Sto), d ≤ n → d < m → σ.1 81 13 = nI n → ∃ τ, f_X9_text_L71 (nI u) m (nI (n - d)) σ = some (1, τ) ∧ (∀ j, τ.1 82 j = if 110 + 50 * u + (n - d) ≤ j ∧ j < 110 + 50 * u + n then σ.1 87 (j - (110 + 50 * u)) else σ.1 82 j) ∧ ∀ a b, a ≠ 82 → τ.1 a b = σ.1 a b := by
  have eb : (110 + 50 * nI u : Int32) = nI (110 + 50 * u) := by rcases hu with rfl | rfl <;> rfl
  intro d
  induction d with
  | zero =>
    intro m σ _ h2 e
    obtain ⟨m, rfl⟩ : ∃ k, m = k + 1 := ⟨m - 1, by omega⟩
    rw [f_X9_text_L71, e, if_pos (nI_le (by omega) (by omega))]
    exact ⟨σ, rfl, fun j => by rw [if_neg (by omega)], fun _ _ _ => rfl⟩
  | succ d ih =>
    intro m σ h1 h2 e
    obtain ⟨m, rfl⟩ : ∃ k, m = k + 1 := ⟨m - 1, by omega⟩
    have e1 : n - d = (n - (d + 1)) + 1 := by omega
    rw [f_X9_text_L71, e, if_neg (nI_ge (by omega) (by omega)), rd_nI (by show n - (d + 1) < 60; omega), bind_s, eb, nI_add, wr_nI (by show 110 + 50 * u + (n - (d + 1)) < 270; omega), bind_s, nI_1, ← e1]
    obtain ⟨τ, t1, t2, t3⟩ := ih m (sI σ 82 (110 + 50 * u + (n - (d + 1))) (σ.1 87 (n - (d + 1)))) (by omega) (by omega) (by rw [sI_ne (by decide)]; exact e)
    refine ⟨τ, t1, fun j => ?_, fun a b h => by rw [t3 a b h, sI_ne h]⟩
    rw [t2 j, sI_at, sI_ne (by decide)]
    by_cases h : 110 + 50 * u + (n - d) ≤ j ∧ j < 110 + 50 * u + n
    · rw [if_pos h, if_pos (by omega)]
    · rw [if_neg h]
      by_cases h' : j = 110 + 50 * u + (n - (d + 1))
      · rw [if_pos h', if_pos (by omega), h', show 110 + 50 * u + (n - (d + 1)) - (110 + 50 * u) = n - (d + 1) by omega]
      · rw [if_neg h', if_neg (by omega)]
