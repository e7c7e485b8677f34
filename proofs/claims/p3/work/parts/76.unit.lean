def nmU (u : Nat) (x : Int32) : Int32 := if u = 0 then (if x = 99 then 0 else if x = 119 then 1 else if x = 108 then 2 else -1) else (if x = 98 then 0 else if x = 121 then 1 else if x = 119 then 2 else -1)
theorem nm8 : ∀ u, u < 2 → ∀ m, m < 256 → f_ixS (1 + u) (i2c (nI m)) = some (nmU u (nI m)) := by decide +kernel
theorem nm9 {T : Nat → Int32} {L u o P : Nat} {c : List Int32} {σ : Sto} (hu : u = 0 ∨ u = 1) (h : PF T L u o P c σ) (x : Int32) : f_X9_nameOf σ x = some (nmU u x) := by
  have e10 := h.2.2.2.2.2.1
  unfold f_X9_nameOf nmU
  rcases hu with rfl | rfl
  · rw [e10, if_pos (show nI 0 = 0 by decide), if_pos rfl]
    by_cases h1 : x = 99
    · rw [if_pos h1, if_pos h1]
    · rw [if_neg h1, if_neg h1]
      by_cases h2 : x = 119
      · rw [if_pos h2, if_pos h2]
      · rw [if_neg h2, if_neg h2]
        by_cases h3 : x = 108
        · rw [if_pos h3, if_pos h3]
        · rw [if_neg h3, if_neg h3]
  · rw [e10, if_neg (show ¬ nI 1 = 0 by decide), if_neg (show ¬ (1 : Nat) = 0 by decide)]
    by_cases h1 : x = 98
    · rw [if_pos h1, if_pos h1]
    · rw [if_neg h1, if_neg h1]
      by_cases h2 : x = 121
      · rw [if_pos h2, if_pos h2]
      · rw [if_neg h2, if_neg h2]
        by_cases h3 : x = 119
        · rw [if_pos h3, if_pos h3]
        · rw [if_neg h3, if_neg h3]
theorem nmU_c (u : Nat) (x : Int32) : nmU u x = -1 ∨ (nmU u x = 0 ∨ nmU u x = 1 ∨ nmU u x = 2) ∧ ¬ x = 33 ∧ ¬ x = 40 := by
  unfold nmU
  by_cases hu : u = 0
  · rw [if_pos hu]
    by_cases h1 : x = 99
    · subst h1; exact Or.inr (by decide)
    · rw [if_neg h1]
      by_cases h2 : x = 119
      · subst h2; exact Or.inr (by decide)
      · rw [if_neg h2]
        by_cases h3 : x = 108
        · subst h3; exact Or.inr (by decide)
        · rw [if_neg h3]; exact Or.inl rfl
  · rw [if_neg hu]
    by_cases h1 : x = 98
    · subst h1; exact Or.inr (by decide)
    · rw [if_neg h1]
      by_cases h2 : x = 121
      · subst h2; exact Or.inr (by decide)
      · rw [if_neg h2]
        by_cases h3 : x = 119
        · subst h3; exact Or.inr (by decide)
        · rw [if_neg h3]; exact Or.inl rfl
theorem nmU_dig : ∀ u, u < 2 → ∀ e, e ≤ 9 → nmU u (nI (48 + e)) = -1 ∧ ¬ nI (48 + e) = 33 ∧ ¬ nI (48 + e) = 40 := by decide +kernel
theorem wrong_f {T : Nat → Int32} {L u o P : Nat} {c : List Int32} {σ : Sto} (h : PF T L u o P c σ) : f_X9_wrong σ = some (sI σ 81 8 (nI P)) := by
  unfold f_X9_wrong f_X9_wrong_L19
  rw [h.2.2.2.2.2.2.2.2.1, if_neg (by decide), h.2.2.2.2.2.2.2.1, lp_b]
theorem wrong_x {F : Nat} (hF : F ≤ 50) {σ : Sto} (h : σ.1 81 8 = nI F) : f_X9_wrong σ = some (sI σ 81 8 (nI F)) := by
  unfold f_X9_wrong f_X9_wrong_L19
  rw [h, if_pos (nI_pos' (by omega)), lp_b]
theorem open_f {T : Nat → Int32} {L u o o' P : Nat} {c : List Int32} {σ : Sto} (h : PF T L u o P c σ) : PF T L u o' P c (sI σ 81 9 (nI o')) := by
  obtain ⟨h1, h2, h3, h4, h5, h6, h7, h8, h9, h10, h11, h12⟩ := h
  exact ⟨h1, h2, h3, by rw [sI_nj (by decide)]; exact h4, by rw [sI_nj (by decide)]; exact h5, by rw [sI_nj (by decide)]; exact h6, fun i hi => by rw [sI_ne (by decide)]; exact h7 i hi, by rw [sI_nj (by decide)]; exact h8, by rw [sI_nj (by decide)]; exact h9, by rw [sI_at, if_pos rfl], by rw [sI_nj (by decide)]; exact h11, fun i hi => by rw [sI_ne (by decide)]; exact h12 i hi⟩
theorem unit_bad {T : Nat → Int32} {L u o P : Nat} {c : List Int32} {σ : Sto} {r9 : Nat → Int32 → Sto → Option Sto} (h : PF T L u o P c σ) (hx : dig (ch T L P) = false) : f_X9_unit_L58 r9 FU 0 0 σ = some (sI σ 81 8 (nI P)) := by
  have hP := h.1
  have hP' := h.2.1
  rw [show FU = 9999 + 1 from rfl, f_X9_unit_L58, if_neg (by decide), here_f h, bind_s, bind_s, dig9, bind_s, hx, if_neg (by decide)]
  unfold f_X9_unit_L110
  rw [if_pos rfl, wrong_f h, bind_s, lay_x (F := P) (by omega) (by rw [sI_at, if_pos rfl]), bind_s]
theorem bal_tok {v : Int32} (h : tokN v = true) : bal [v] := fun k rest q => by
  rw [List.singleton_append, wfh_tok h]
  exact q
theorem tok_num {w : Nat} (h : w ≤ 10002) : tokN (nI w) = true := by
  unfold tokN
  rw [show isO (nI w) 0 10002 = false from isO_lit (n := 10002) h (by omega)]
  rfl
theorem part_S {T : Nat → Int32} {L u o : Nat} (hu : u = 0 ∨ u = 1) (hT : ∀ i, i < L → isO (T i) 0 255 = false) (ho : o ≤ 5) {r8 q8 : Nat → Int32 → Sto → Option (Bool × Sto)} {r9 q9 : Nat → Int32 → Sto → Option Sto}
    (h2 : ∀ a σ, r8 2 a σ = b_X3_readBracket q8 σ a) (h4 : ∀ a σ, r8 4 a σ = b_X3_readNot q8 σ a) (h3 : ∀ a σ, r9 3 a σ = b_X9_opens q9 σ a) (hp : o < 5 → PS T L u (o + 1) (q8 5 (nI (o + 1))) (q9 6 0)) (ha : o < 5 → PS T L u (o + 1) (q8 1 (nI (o + 1))) (q9 2 0)) :
    PS T L u o (fun σ => b_X3_readPart r8 σ (nI o)) (fun σ => b_X9_unit r9 σ) := by
  intro P c σ8 σ9 h8 h9
  have hL := h8.1
  have hPL := h8.2.1
  have hcP := h8.2.2.1
  show RS bal T L u o P c σ8 σ9 (b_X3_readPart r8 σ8 (nI o)) (b_X9_unit r9 σ9)
  unfold b_X3_readPart b_X9_unit
  rw [next_c h8, bind_s, dig8, bind_s, here_f h9, bind_s]
  -- the common end of all faults here
  have bad : RS bal T L u o P c σ8 σ9 (some (false, σ8)) (some (sI σ9 81 8 (nI P))) := Or.inr ⟨P, σ8, _, rfl, rfl, by omega, h8.2.2.2.2.2.2.1, by rw [sI_at, if_pos rfl], e8.rf _, e9.w _ (by omega) _⟩
  cases hx : dig (ch T L P) with
  | true =>
    obtain ⟨e, he, ex⟩ := dig_n hx
    obtain ⟨m1, m2, m3⟩ := nmU_dig u (by omega) e he
    obtain ⟨P', w, τ8, τ9, z1, z2, z3, z4, z5, z6, z7, z8, z9, z10⟩ := number_S (r9 := r9) 4 FU FU 0 P c σ8 σ9 (by omega) (by unfold FU; omega) (by unfold FU; omega) (by decide) h8 h9 (fun _ => hx) (fun z => by omega)
    rw [if_pos rfl, ex, if_neg m2, if_neg m3, nm9 hu h9, bind_s, m1, if_pos (by decide)]
    unfold f_X3_readNumber
    rw [show f_X3_readNumber_L4 FU 0 0 σ8 = some τ8 from z1, bind_s]
    exact Or.inl ⟨P', [nI w], τ8, τ9, rfl, z2, z4, z5, by have := z8 rfl; simp; omega, bal_tok (tok_num (by omega)), z9, z10⟩
  | false =>
    rw [if_neg Bool.false_ne_true]
    by_cases hP : P < L
    · have hb := hT P hP
      have exT : ch T L P = T P := if_pos hP
      obtain ⟨m, hm, em⟩ := isO_nI (n := 255) rfl hb
      rw [← exT] at em
      have e5 := h8.2.2.2.2.1
      rw [em, if_pos (nI_pos' (by omega))]
      rw [e5]
      show RS bal T L u o P c σ8 σ9 ((if 1003 ≤ 1004 + u ∧ 1004 + u < 1006 then (f_ixS (1004 + u - 1003) (i2c (nI m))).bind (fun r32 => f_X3_readPart_L35 r8 (nI o) (nI m) r32 σ8) else none)) _
      rw [if_pos ⟨by omega, by omega⟩, show 1004 + u - 1003 = 1 + u by omega, nm8 u (by omega) m (by omega), bind_s]
      rw [← em]
      obtain ⟨a8, b8⟩ := adv_c h8 hP
      obtain ⟨a9, b9⟩ := adv_f h9 hP
      unfold f_X3_readPart_L35
      rcases nmU_c u (ch T L P) with y | ⟨y, y33, y40⟩
      · rw [y, if_pos (by decide)]
        by_cases h5 : o = 5
        · subst h5
          rw [if_pos (by decide)]
          by_cases x33 : ch T L P = 33
          · rw [if_pos x33, h3]
            unfold b_X9_opens
            rw [h9.2.2.2.2.2.2.2.2.2.1, if_pos (by decide), wrong_f h9, bind_s, bind_s]
            exact bad
          · by_cases x40 : ch T L P = 40
            · rw [if_neg x33, if_pos x40, h3]
              unfold b_X9_opens
              rw [h9.2.2.2.2.2.2.2.2.2.1, if_pos (by decide), wrong_f h9, bind_s, bind_s]
              exact bad
            · rw [if_neg x33, if_neg x40, nm9 hu h9, bind_s, y, if_pos (by decide), unit_bad h9 hx]
              exact bad
        · have ho5 : o < 5 := by omega
          have n5 : ¬ (5 : Int32) ≤ nI o := nI_ge (b := 5) ho5 (by omega)
          have n5' : ¬ nI o = 5 := nI_ne _ 5 rfl (by omega) (by omega) h5
          rw [if_neg n5]
          -- one bracket deeper
          have deep : PF T L u (o + 1) (P + 1) c (sI (sI σ9 81 9 (σ9.1 81 9 + 1)) 81 6 ((sI σ9 81 9 (σ9.1 81 9 + 1)).1 81 6 + 1)) ∧ e9 σ9 (sI (sI σ9 81 9 (σ9.1 81 9 + 1)) 81 6 ((sI σ9 81 9 (σ9.1 81 9 + 1)).1 81 6 + 1)) := by
            rw [h9.2.2.2.2.2.2.2.2.2.1, nI_1]
            obtain ⟨g1, g2⟩ := adv_f (open_f (o' := o + 1) h9) hP
            exact ⟨g1, (e9.w _ (by omega) _).tr g2⟩
          have up9 : ∀ τ : Sto, τ.1 81 9 = nI (o + 1) → f_X9_opens_L70 r9 τ = some (sI τ 81 9 (nI o)) := fun τ e => by
            unfold f_X9_opens_L70
            rw [lp_b, e, nI_pred]
          obtain ⟨d1, d2⟩ := deep
          by_cases x33 : ch T L P = 33
          · rw [if_pos x33, if_pos x33, h3]
            unfold b_X9_opens f_X3_readPart_L78 f_X9_opens_L70
            rw [h9.2.2.2.2.2.2.2.2.2.1] at d1 d2
            rw [h9.2.2.2.2.2.2.2.2.2.1, if_neg n5', lp_b, lp_b, lp_b, if_pos x33, if_pos x33, h4, nI_1]
            unfold b_X3_readNot
            rw [nI_1] at d1 d2
            generalize sI (sI σ9 81 9 (nI (o + 1))) 81 6 ((sI σ9 81 9 (nI (o + 1))).1 81 6 + 1) = σ9' at d1 d2 ⊢
            generalize sI σ8 55 4 (σ8.1 55 4 + 1) = σ8' at a8 b8 ⊢
            rcases hp ho5 (P + 1) c σ8' σ9' a8 d1 with ⟨P', ts, τ8, τ9, r1, r2, r3, r4, r5, r6, r7, r8'⟩ | ⟨F, τ8, τ9, r1, r2, r3, r4, r5, r6, r7⟩
            · have hlen : (c ++ ts).length < P' := by
                rw [List.length_append]
                omega
              obtain ⟨χ8, u1, u2, u3⟩ := add_c r3 hlen 20033
              obtain ⟨χ9, v1, v2, v3⟩ := lay_f r4 hlen 20033
              rw [show cv8 20033 = -33 by decide] at u1
              rw [r1, bind_s, if_pos rfl, u1, bind_s, bind_s, r2, bind_s, v1, bind_s, lp_b, v2.2.2.2.2.2.2.2.2.2.1, nI_pred, bind_s]
              refine Or.inl ⟨P', ts ++ [20033], χ8, _, rfl, rfl, by rw [← List.append_assoc]; exact u2, by rw [← List.append_assoc]; exact open_f v2, by rw [List.length_append, List.length_singleton]; omega, ?_, (b8.tr r7).tr u3, ((d2.tr r8').tr v3).tr (e9.w _ (by omega) _)⟩
              intro h rest q
              rw [List.append_assoc]
              apply r6
              rw [List.singleton_append, wfh_33, Bool.and_eq_true]
              exact ⟨by simp, q⟩
            · rw [r1, bind_s, if_neg Bool.false_ne_true, bind_s, r2, bind_s, lay_x r3 r5, bind_s, lp_b, bind_s]
              exact Or.inr ⟨F, τ8, _, rfl, rfl, r3, r4, by rw [sI_nj (by decide)]; exact r5, b8.tr r6, (d2.tr r7).tr (e9.w _ (by omega) _)⟩
          · by_cases x40 : ch T L P = 40
            · rw [if_neg x33, if_pos x40, if_neg x33, if_pos x40, h3]
              unfold b_X9_opens f_X3_readPart_L78 f_X9_opens_L70
              rw [h9.2.2.2.2.2.2.2.2.2.1] at d1 d2
              rw [h9.2.2.2.2.2.2.2.2.2.1, if_neg n5', lp_b, lp_b, lp_b, if_neg x33, if_neg x33, h2, nI_1]
              unfold b_X3_readBracket
              rw [nI_1] at d1 d2
              generalize sI (sI σ9 81 9 (nI (o + 1))) 81 6 ((sI σ9 81 9 (nI (o + 1))).1 81 6 + 1) = σ9' at d1 d2 ⊢
              generalize sI σ8 55 4 (σ8.1 55 4 + 1) = σ8' at a8 b8 ⊢
              rcases ha ho5 (P + 1) c σ8' σ9' a8 d1 with ⟨P', ts, τ8, τ9, r1, r2, r3, r4, r5, r6, r7, r8'⟩ | ⟨F, τ8, τ9, r1, r2, r3, r4, r5, r6, r7⟩
              · rw [r1, bind_s, if_pos rfl, next_c r3, bind_s, r2, bind_s]
                by_cases x41 : ch T L P' = 41
                · have hP' : P' < L := by
                    rcases Nat.lt_or_ge P' L with h | h
                    · exact h
                    · rw [ch_end (by omega)] at x41
                      exact absurd x41 (by decide)
                  obtain ⟨u1, u2⟩ := adv_c r3 hP'
                  obtain ⟨v1, v2⟩ := adv_f r4 hP'
                  rw [if_pos x41, lp_b, bind_s, takes_t r4 x41, bind_s, if_pos rfl, lp_b, sI_nj (by decide), r4.2.2.2.2.2.2.2.2.2.1, nI_pred, bind_s]
                  exact Or.inl ⟨P' + 1, ts, _, _, rfl, rfl, u1, open_f v1, by omega, r6, (b8.tr r7).tr u2, ((d2.tr r8').tr v2).tr (e9.w _ (by omega) _)⟩
                · rw [if_neg x41, bind_s, takes_f r4 x41, bind_s, if_neg Bool.false_ne_true, wrong_f r4, bind_s, lp_b, bind_s]
                  exact Or.inr ⟨P', τ8, _, rfl, rfl, by have := r3.2.1; omega, r3.2.2.2.2.2.2.1, by rw [sI_nj (by decide), sI_at, if_pos rfl], b8.tr r7, ((d2.tr r8').tr (e9.w _ (by omega) _)).tr (e9.w _ (by omega) _)⟩
              · rw [r1, bind_s, if_neg Bool.false_ne_true, bind_s, r2, bind_s, takes_x r3 r5 (by decide), bind_s, if_neg Bool.false_ne_true, wrong_x r3 r5, bind_s, lp_b, bind_s]
                exact Or.inr ⟨F, τ8, _, rfl, rfl, r3, r4, by rw [sI_nj (by decide), sI_at, if_pos rfl], b8.tr r6, ((d2.tr r7).tr (e9.w _ (by omega) _)).tr (e9.w _ (by omega) _)⟩
            · rw [if_neg x33, if_neg x40, if_neg x33, if_neg x40, nm9 hu h9, bind_s, y, if_pos (by decide), unit_bad h9 hx]
              exact bad
      · have ny : ¬ nmU u (ch T L P) < 0 := by rcases y with q | q | q <;> rw [q] <;> decide
        have ty : tokN (10000 + nmU u (ch T L P)) = true ∧ cv8 (10000 + nmU u (ch T L P)) = -1 - nmU u (ch T L P) := by rcases y with q | q | q <;> rw [q] <;> decide
        rw [if_neg ny, if_neg y33, if_neg y40, nm9 hu h9, bind_s, if_neg ny, lp_b, lp_b]
        generalize sI σ8 55 4 (σ8.1 55 4 + 1) = σ8' at a8 b8 ⊢
        generalize sI σ9 81 6 (σ9.1 81 6 + 1) = σ9' at a9 b9 ⊢
        obtain ⟨χ8, x1, x2, x3⟩ := add_c a8 (by omega) (10000 + nmU u (ch T L P))
        obtain ⟨χ9, y1, y2, y3⟩ := lay_f a9 (by omega) (10000 + nmU u (ch T L P))
        rw [ty.2] at x1
        rw [x1, bind_s, y1, bind_s]
        exact Or.inl ⟨P + 1, [10000 + nmU u (ch T L P)], χ8, χ9, rfl, rfl, x2, y2, by simp, bal_tok ty.1, b8.tr x3, b9.tr y3⟩
    · have exT := ch_end (T := T) hP
      rw [exT, if_neg (by decide)]
      unfold f_X3_readPart_L35
      rw [if_pos (show (-1 : Int32) < 0 by decide), if_neg (show ¬ (-1 : Int32) = 33 by decide), if_neg (show ¬ (-1 : Int32) = 40 by decide), if_neg (show ¬ (-1 : Int32) = 33 by decide), if_neg (show ¬ (-1 : Int32) = 40 by decide), ite_self, nm9 hu h9, bind_s, show nmU u (-1) = -1 by (rcases hu with rfl | rfl <;> decide), if_pos (show (-1 : Int32) < 0 by decide), unit_bad h9 hx]
      exact bad
