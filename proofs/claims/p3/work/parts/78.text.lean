theorem s_text_u {σ : Sto} (hI : Inv σ) {u : Nat} (hu : u = 0 ∨ u = 1) (b : Bool) : ∃ r s, f_X8_text σ (nI u) = some r ∧ f_X9_text r.2 (nI u) = some s ∧ (b = true → r.1 = s.1) ∧ Inv s.2 := by
  obtain ⟨t, ht, et⟩ := tape_n hI.1.ok
  have e12 : σ.1 1 12 = nI t := (hI.1.mp (i := 14) (j := 12) (by decide)).trans et
  have hT : ∀ i, i < t → isO (σ.1 10 i) 0 255 = false := by
    intro i hi
    have q := hI.1.ok (210 + i)
    unfold okv at q
    rw [if_neg (by omega), if_neg (by omega), if_neg (by omega), if_neg (by omega), if_neg (by omega), if_pos (by omega)] at q
    rw [show σ.1 10 i = σ.1 82 (210 + i) from hI.1.1.2.2.2.2.2.1 i (by omega)]
    exact not_t q
  have hω := upd_mp hI (i := 14) (j := 12) (by decide) (by decide) (okv_14 (t := 0) (by omega))
  generalize hω' : sI (sI σ 1 12 (nI 0)) 82 14 (nI 0) = ω at hω
  have ω8 : ∀ a b, a ≠ 82 → ¬ (a = 1 ∧ b = 12) → ω.1 a b = σ.1 a b := fun a b h1 h2 => by
    rw [← hω', sI_ne h1]
    show (if a = 1 ∧ b = 12 then _ else σ.1 a b) = _
    rw [if_neg h2]
  have ω12 : ω.1 1 12 = 0 := by rw [← hω', sI_ne (by decide), sI_at, if_pos rfl]; rfl
  have ω9 : ∀ j, ω.1 82 j = if j = 14 then 0 else σ.1 82 j := fun j => by rw [← hω', sI_at, sI_ne (by decide)]; rfl
  obtain ⟨ρ8, R8, hρ8, kρ8⟩ := read8 (σ := σ) ht hu
  have run : ∀ χ : Sto, χ.1 82 = σ.1 82 → ∃ ρ9, f_X9_reads (sI χ 82 14 0) 210 (nI t) (nI u) = (g_X9_both 64 2 (0 : Int32) ρ9).bind (fun r45 => if 0 ≤ (r45.1 81 8) then (some r45) else if (r45.1 81 7) ≤ (r45.1 81 6) then (some r45) else (f_X9_wrong r45).bind (fun r67 => some r67)) ∧ e10 (sI χ 82 14 0) ρ9 ∧ RS bal (fun i => σ.1 10 i) t u 0 0 [] ρ8 ρ9 (g_X3_readAll 64 1 0 ρ8) (g_X9_both 64 2 0 ρ9) := by
    intro χ hχ
    obtain ⟨ρ9, R9, hρ9, kρ9⟩ := reads9 (σ := sI χ 82 14 0) ht hu
    refine ⟨ρ9, R9, kρ9, top_PS hu hT 0 [] ρ8 ρ9 hρ8 ?_⟩
    obtain ⟨h1, h2, h3, h4, h5, h6, h7, h8⟩ := hρ9
    refine ⟨h1, h2, h3, h4, h5, h6, fun i hi => (h7 i hi).trans ?_, h8⟩
    show (sI χ 82 14 0).1 82 (210 + i) = σ.1 10 i
    rw [sI_nj (by omega), hχ]
    exact (hI.1.1.2.2.2.2.2.1 i (by omega)).symm
  obtain ⟨_, _, _, run0⟩ := run σ rfl
  obtain ⟨b8, τ8, x8, k8⟩ : ∃ b8 τ8, g_X3_readAll 64 1 0 ρ8 = some (b8, τ8) ∧ e8 ρ8 τ8 := by
    rcases run0 with ⟨P', ts, τ8, τ9, r1, -, -, -, -, -, r7, -⟩ | ⟨F, τ8, τ9, r1, -, -, -, -, r6, -⟩
    · exact ⟨_, _, r1, r7⟩
    · exact ⟨_, _, r1, r6⟩
  have o8 : ∀ a b, a ≠ 55 → a ≠ 56 → a ≠ 57 → τ8.1 a b = σ.1 a b := fun a b h1 h2 h3 => by rw [k8.2 a b h1 h2, kρ8 a b h1 h2 h3]
  have law : f_X0_lawOf σ 1 (nI u) = some (some (4 + 3 * u)) ∧ K0 (4 + 3 * u) = 1 ∧ A0 (4 + 3 * u) 1 = 5 + 3 * u ∧ Ln0 (5 + 3 * u) = 50 := by
    unfold f_X0_lawOf
    rcases hu with rfl | rfl
    · exact ⟨rfl, by decide, by decide, by decide⟩
    · exact ⟨rfl, by decide, by decide, by decide⟩
  obtain ⟨l1, l2, l3, l4⟩ := law
  rw [x8, bind_s] at R8
  have in01 : isO (nI u) 0 1 = false := isO_lit (n := 1) (by omega) (by omega)
  -- what is left over in both when nothing is laid
  have rest : ∀ (F : Nat) (χ τ9 ρ9 : Sto), F ≤ 50 → χ = sI τ8 1 12 0 → f_X3_read σ 10 (nI t) (nI u) = some (nI F, τ8) → f_X9_reads (sI χ 82 14 0) 210 (nI t) (nI u) = some τ9 → e10 (sI χ 82 14 0) ρ9 → e9 ρ9 τ9 → τ9.1 81 8 = nI F → ∃ r s, f_X8_text σ (nI u) = some r ∧ f_X9_text r.2 (nI u) = some s ∧ (b = true → r.1 = s.1) ∧ Inv s.2 := by
    intro F χ τ9 ρ9 hF hχ R8' R9' k9 k9' e8'
    subst hχ
    refine ⟨(-10 - nI F, sI τ8 1 12 0), (-10 - nI F, τ9), ?_, ?_, fun _ => rfl, hω.fr ?_⟩
    · unfold f_X8_text
      rw [l1, bind_s, onN_1, e12, R8', bind_s, lp_b, if_neg (nI_pos (by omega))]
    · show f_X9_text (sI τ8 1 12 0) (nI u) = _
      unfold f_X9_text
      rw [in_0_1, bind_s, in01, if_pos (by decide), rdA_82_14, bind_s, wrA_82_14, bind_s, sI_ne (by decide), o8 82 14 (by decide) (by decide) (by decide), et, R9', bind_s, e8', if_neg (nI_pos (by omega))]
    · have f0 : Fr ω (sI (sI τ8 1 12 0) 82 14 0) := fun k j hs => by
        by_cases hk : k = 82
        · subst hk
          rw [sI_at, sI_ne (by decide), ω9, o8 82 j (by decide) (by decide) (by decide)]
        · have z : k ≠ 55 ∧ k ≠ 56 ∧ k ≠ 57 := by refine ⟨?_, ?_, ?_⟩ <;> (rintro rfl; simp [scr] at hs)
          rw [sI_ne hk]
          by_cases h1 : k = 1 ∧ j = 12
          · rw [h1.1, h1.2, sI_at, if_pos rfl, ω12]
          · show (if k = 1 ∧ j = 12 then _ else τ8.1 k j) = _
            rw [if_neg h1, o8 k j z.1 z.2.1 z.2.2, ω8 k j hk h1]
      exact (f0.tr k9.fr).tr k9'.fr
  have d1 : (sI τ8 1 12 0).1 82 = σ.1 82 := funext fun j => by rw [sI_ne (by decide), o8 82 j (by decide) (by decide) (by decide)]
  cases b8 with
  | false =>
    rw [if_neg Bool.false_ne_true] at R8
    obtain ⟨ρ9, R9, k9, rs⟩ := run (sI τ8 1 12 0) d1
    rcases rs with ⟨P', ts, τ8', τ9, r1, r2, r3, r4, r5, r6, r7, r8⟩ | ⟨F, τ8', τ9, r1, r2, r3, r4, r5, r6, r7⟩
    · rw [x8] at r1; cases r1
    · rw [x8] at r1
      cases r1
      rw [r2, bind_s, r5, if_pos (nI_pos' (by omega))] at R9
      rw [r4] at R8
      exact rest F _ τ9 ρ9 r3 rfl R8 R9 k9 r7 r5
  | true =>
    rw [if_pos rfl] at R8
    by_cases hpos : τ8.1 55 4 = τ8.1 55 3
    · rw [if_pos hpos] at R8
      generalize hτ : sW (sI (sI τ8 1 12 0) (4 + 3 * u) 3 (τ8.1 55 1)) (5 + 3 * u) (fun k => if k < 50 then τ8.1 56 k else τ8.1 (5 + 3 * u) k) = τ
      have oτ : ∀ a b, a ≠ 5 + 3 * u → ¬ (a = 4 + 3 * u ∧ b = 3) → ¬ (a = 1 ∧ b = 12) → τ.1 a b = τ8.1 a b := fun a b h1 h2 h3 => by
        rw [← hτ, sW_ne h1]
        show (if a = 4 + 3 * u ∧ b = 3 then _ else if a = 1 ∧ b = 12 then _ else τ8.1 a b) = _
        rw [if_neg h2, if_neg h3]
      have dτ : τ.1 82 = σ.1 82 := funext fun j => by rw [oτ 82 j (by omega) (by omega) (by omega), o8 82 j (by decide) (by decide) (by decide)]
      have s8 : f_X8_text σ (nI u) = some (1, τ) := by
        unfold f_X8_text f_X1_take
        rw [l1, bind_s, onN_1, e12, R8, bind_s, lp_b, if_pos (show ((-1 : Int32), (true, τ8).2).1 < 0 from (show (-1 : Int32) < 0 by decide)), if_pos l2, lp_b, sI_ne (by decide), l3, show (50 : Int32) = nI 50 from rfl, cpA_n (by show 50 ≤ 50; omega) (by rw [l4]; omega), bind_s, bind_s]
        rw [← hτ]
        have e : (fun k => if k < 50 then (sI (sI τ8 1 12 0) (4 + 3 * u) 3 (τ8.1 55 1)).1 56 k else (sI (sI τ8 1 12 0) (4 + 3 * u) 3 (τ8.1 55 1)).1 (5 + 3 * u) k) = (fun k => if k < 50 then τ8.1 56 k else τ8.1 (5 + 3 * u) k) := by
          funext k
          rw [sI_ne (by omega), sI_ne (by decide), sI_ne (by omega), sI_ne (by omega)]
        rw [e]
      obtain ⟨ρ9, R9, k9, rs⟩ := run τ dτ
      rcases rs with ⟨P', ts, τ8', τ9, r1, r2, r3, r4, r5, r6, r7, r8⟩ | ⟨F, τ8', τ9, r1, r2, r3, r4, r5, r6, r7⟩
      · rw [x8] at r1
        cases r1
        rw [List.nil_append] at r3 r4
        obtain ⟨c1, c2, c3, c4, c5, c6, c7, c8, c9⟩ := r3
        obtain ⟨g1, g2, g3, g4, g5, g6, g7, g8, g9, g10, g11, g12⟩ := r4
        have hP : P' = t := by
          rw [c7, c4] at hpos
          exact (nI_eq (by omega) (by omega)).mp hpos
        subst hP
        rw [r2, bind_s, g9, if_neg (by decide), g5, g8, if_pos (nI_le (Nat.le_refl _) (by omega))] at R9
        have hn : ts.length ≤ 50 := by omega
        obtain ⟨υ, u1, u2, u3⟩ := text9_L hu hn ts.length FU (sI τ9 82 (88 + u) (nI ts.length)) (by omega) (by unfold FU; omega) (by rw [sI_ne (by decide)]; exact g11)
        rw [Nat.sub_self] at u1 u2
        have z9 : ∀ a b, a ≠ 87 → ¬ (a = 81 ∧ ((5 ≤ b ∧ b ≤ 10) ∨ b = 13)) → τ9.1 a b = (sI τ 82 14 0).1 a b := fun a b h1 h2 => by rw [r8 a b h1 (fun z => h2 ⟨z.1, by omega⟩), k9 a b h1 h2]
        have rυ : ∀ j, υ.1 82 j = if 110 + 50 * u ≤ j ∧ j < 110 + 50 * u + ts.length then ts.getD (j - (110 + 50 * u)) 0 else if j = 88 + u then nI ts.length else if j = 14 then 0 else σ.1 82 j := by
          intro j
          rw [u2 j, sI_ne (by decide), sI_at, z9 82 j (by decide) (by omega), sI_at, dτ]
          by_cases h : 110 + 50 * u ≤ j ∧ j < 110 + 50 * u + ts.length
          · rw [if_pos (by omega), if_pos h, g12 _ (by omega)]
          · rw [if_neg (by omega), if_neg h]
        have oυ : ∀ a b, scr a b = false → a ≠ 82 → υ.1 a b = τ.1 a b := fun a b hs ha => by
          have n87 : a ≠ 87 := by rintro rfl; simp [scr] at hs
          have n81 : ¬ (a = 81 ∧ ((5 ≤ b ∧ b ≤ 10) ∨ b = 13)) := by
            rintro ⟨rfl, h⟩
            rcases (show b = 5 ∨ b = 6 ∨ b = 7 ∨ b = 8 ∨ b = 9 ∨ b = 10 ∨ b = 13 by omega) with rfl | rfl | rfl | rfl | rfl | rfl | rfl <;> simp [scr] at hs
          rw [u3 a b ha, sI_ne ha, z9 a b n87 n81, sI_ne ha]
        have ls : ∀ k j, 1 ≤ k → k ≤ 27 → k ≠ 6 → k ≠ 9 → scr k j = false := fun k j h1 h2 h3 h4 => lk_scr (Or.inl ⟨rfl, rfl⟩) (Or.inl (by omega)) j
        refine ⟨(1, τ), (1, υ), s8, ?_, fun _ => rfl, hω.code hu ?_ (fun a b hs h82 h5 h4 => ?_) (fun j h1 h2 => ?_)⟩
        · show f_X9_text τ (nI u) = _
          unfold f_X9_text
          rw [in_0_1, bind_s, in01, if_pos (by decide), rdA_82_14, bind_s, wrA_82_14, bind_s, dτ, et, R9, bind_s, g9, if_pos (by decide), show (88 + nI u : Int32) = nI (88 + u) from nI_add 88 u, wr_nI (by show 88 + u < 270; omega), bind_s, g11]
          exact u1
        · refine ⟨ts.length, hn, ?_, ?_, fun i hi => ?_, Or.inr ?_⟩
          · rw [oυ _ _ (ls _ _ (by omega) (by omega) (by omega) (by omega)) (by omega), ← hτ, sW_ne (by omega), sI_at, if_pos rfl, c8]
          · rw [rυ, if_neg (by omega), if_pos rfl]
          · rw [show 4 + 3 * u + 1 = 5 + 3 * u by omega, oυ _ _ (ls _ _ (by omega) (by omega) (by omega) (by omega)) (by omega), ← hτ, sW_at, if_pos (by omega), c9 i hi, rυ, if_pos (by omega), show 110 + 50 * u + i - (110 + 50 * u) = i by omega]
          · have e : codeL (υ.1 82) u ts.length = ts := by
              apply List.ext_getElem
              · rw [codeL_len]
              · intro i h1 h2
                have q := codeL_at (V := υ.1 82) (u := u) (n := ts.length) h2
                rw [List.getD_eq_getElem?_getD, List.getElem?_eq_getElem h1] at q
                rw [show (codeL (υ.1 82) u ts.length)[i] = υ.1 82 (110 + 50 * u + i) from q, rυ, if_pos (by omega), show 110 + 50 * u + i - (110 + 50 * u) = i by omega, List.getD_eq_getElem?_getD, List.getElem?_eq_getElem h2]
                rfl
            rw [e]
            have := r6 0 [] rfl
            rw [List.append_nil] at this
            exact this
        · rw [oυ a b hs h82]
          have z : a ≠ 55 ∧ a ≠ 56 ∧ a ≠ 57 := by refine ⟨?_, ?_, ?_⟩ <;> (rintro rfl; simp [scr] at hs)
          by_cases h1 : a = 1 ∧ b = 12
          · rw [h1.1, h1.2, ω12, ← hτ, sW_ne (by omega), sI_ne (by omega), sI_at, if_pos rfl]
          · rw [oτ a b h5 h4 h1, o8 a b z.1 z.2.1 z.2.2, ω8 a b h82 h1]
        · rw [rυ, if_neg (by omega), if_neg h1, ω9]
      · rw [x8] at r1; cases r1
    · rw [if_neg hpos] at R8
      obtain ⟨ρ9, R9, k9, rs⟩ := run (sI τ8 1 12 0) d1
      rcases rs with ⟨P', ts, τ8', τ9, r1, r2, r3, r4, r5, r6, r7, r8⟩ | ⟨F, τ8', τ9, r1, r2, r3, r4, r5, r6, r7⟩
      · rw [x8] at r1
        cases r1
        have hPt : P' < t := by
          have h1 := r3.2.1
          have h2 := r3.2.2.2.1
          have h3 := r3.2.2.2.2.2.2.1
          rcases (show P' = t ∨ P' < t by omega) with rfl | h
          · exact absurd (h3.trans h2.symm) hpos
          · exact h
        rw [r2, bind_s, r4.2.2.2.2.2.2.2.2.1, if_neg (by decide), r4.2.2.2.2.1, r4.2.2.2.2.2.2.2.1, if_neg (nI_ge hPt (by omega)), wrong_f r4, bind_s] at R9
        rw [r3.2.2.2.2.2.2.1] at R8
        exact rest P' _ _ ρ9 (by omega) rfl R8 R9 k9 (r8.tr (e9.w _ (by omega) _)) (by rw [sI_at, if_pos rfl])
      · rw [x8] at r1; cases r1
theorem s_text (a1 : Int32) (b : Bool) : LPr (fun σ => f_X8_text σ a1) (fun σ => f_X9_text σ a1) b Inv Inv := by
  intro σ hI
  by_cases h0 : a1 = 0
  · subst h0
    exact s_text_u hI (u := 0) (Or.inl rfl) b
  · by_cases h1 : a1 = 1
    · subst h1
      exact s_text_u hI (u := 1) (Or.inr rfl) b
    · refine er_LPr (f := fun σ => f_X8_text σ a1) (g := fun σ => f_X9_text σ a1) (k := 1) hI ?_ ?_
      · show f_X8_text σ a1 = _
        unfold f_X8_text f_X0_lawOf
        rw [if_neg h0, if_neg h1, bind_s, onN_0, r8_1, bind_s]
      · show f_X9_text (rf σ 1) a1 = _
        unfold f_X9_text
        rw [in_0_1, bind_s, isO_01 h0 h1, if_neg (by decide), r9_1, bind_s]
