theorem comp_S {T : Nat → Int32} {L u o : Nat} {r8 : Nat → Int32 → Sto → Option (Bool × Sto)} {r9 : Nat → Int32 → Sto → Option Sto} (a : Int32) (hs : PS T L u o (r8 7 a) (r9 5 0)) : PS T L u o (fun σ => b_X3_readComparison r8 σ a) (fun σ => b_X9_compared r9 σ) := by
  refine first_S hs (l8 := fun σ => (f_X3_next σ).bind (fun r11 => if r11 = (60 : Int32) then (f_X3_readComparison_L33 r8 a r11 σ) else if r11 = (61 : Int32) then (f_X3_readComparison_L33 r8 a r11 σ) else if r11 = (62 : Int32) then (f_X3_readComparison_L33 r8 a r11 σ) else some (true, σ))) (l9 := fun σ => (f_X9_here σ).bind (fun r5 => if r5 = (60 : Int32) then (f_X9_compared_L27 r9 r5 σ) else if r5 = (61 : Int32) then (f_X9_compared_L27 r9 r5 σ) else if r5 = (62 : Int32) then (f_X9_compared_L27 r9 r5 σ) else some σ)) ?_ ?_
  · intro P c σ8 σ9 h8 h9
    show RS balL T L u o P c σ8 σ9 ((f_X3_next σ8).bind _) ((f_X9_here σ9).bind _)
    rw [next_c h8, bind_s, here_f h9, bind_s]
    by_cases hx : ch T L P = 60 ∨ ch T L P = 61 ∨ ch T L P = 62
    · have hP : P < L := by
        rcases Nat.lt_or_ge P L with h | h
        · exact h
        · rw [ch_end (by omega)] at hx
          exact absurd hx (by decide)
      have e1 : ∀ A B : Option (Bool × Sto), (if ch T L P = 60 then A else if ch T L P = 61 then A else if ch T L P = 62 then A else B) = A := by
        intro A B
        rcases hx with q | q | q
        · rw [if_pos q]
        · rw [q, if_neg (by decide), if_pos rfl]
        · rw [q, if_neg (by decide), if_neg (by decide), if_pos rfl]
      have e2 : ∀ A B : Option Sto, (if ch T L P = 60 then A else if ch T L P = 61 then A else if ch T L P = 62 then A else B) = A := by
        intro A B
        rcases hx with q | q | q
        · rw [if_pos q]
        · rw [q, if_neg (by decide), if_pos rfl]
        · rw [q, if_neg (by decide), if_neg (by decide), if_pos rfl]
      have hop : tokO (20000 + ch T L P) = true ∧ cv8 (20000 + ch T L P) = -(ch T L P) := by
        rcases hx with q | q | q <;> rw [q] <;> decide
      obtain ⟨a8, b8⟩ := adv_c h8 hP
      obtain ⟨a9, b9⟩ := adv_f h9 hP
      rw [e1, e2]
      unfold f_X3_readComparison_L33 f_X9_compared_L27
      rw [lp_b, lp_b]
      generalize sI σ8 55 4 (σ8.1 55 4 + 1) = σ8' at a8 b8 ⊢
      generalize sI σ9 81 6 (σ9.1 81 6 + 1) = σ9' at a9 b9 ⊢
      rcases hs (P + 1) c σ8' σ9' a8 a9 with ⟨P', ts, τ8, τ9, r1, r2, r3, r4, r5, r6, r7, r8'⟩ | ⟨F, τ8, τ9, r1, r2, r3, r4, r5, r6, r7⟩
      · have hlen : (c ++ ts).length < P' := by
          have := h8.2.2.1
          rw [List.length_append]
          omega
        obtain ⟨χ8, x1, x2, x3⟩ := add_c r3 hlen (20000 + ch T L P)
        obtain ⟨χ9, y1, y2, y3⟩ := lay_f r4 hlen (20000 + ch T L P)
        rw [hop.2] at x1
        rw [r1, bind_s, if_pos rfl, x1, bind_s, r2, bind_s, y1, bind_s]
        refine Or.inl ⟨P', ts ++ [20000 + ch T L P], χ8, χ9, rfl, rfl, by rw [← List.append_assoc]; exact x2, by rw [← List.append_assoc]; exact y2, by rw [List.length_append, List.length_singleton]; omega, ?_, (b8.tr r7).tr x3, (b9.tr r8').tr y3⟩
        intro h rest q
        obtain ⟨k1, k2, -⟩ := tokO_not hop.1
        rw [List.append_assoc]
        apply r6
        rw [List.singleton_append, wfh_op (by rw [k1]; decide) k2, if_pos hop.1, Bool.and_eq_true]
        exact ⟨by simp, q⟩
      · refine Or.inr ⟨F, τ8, τ9, ?_, ?_, r3, r4, r5, b8.tr r6, b9.tr r7⟩
        · rw [r1, bind_s, if_neg (by simp)]
        · rw [r2, bind_s, lay_x r3 r5, bind_s]
    · rw [not_or, not_or] at hx
      rw [if_neg hx.1, if_neg hx.2.1, if_neg hx.2.2, if_neg hx.1, if_neg hx.2.1, if_neg hx.2.2]
      exact Or.inl ⟨P, [], σ8, σ9, rfl, rfl, by rw [List.append_nil]; exact h8, by rw [List.append_nil]; exact h9, by simp, fun h rest q => q, e8.rf _, e9.rf _⟩
  · intro F σ hF h
    show (f_X9_here σ).bind _ = _
    rw [here_x hF h, bind_s, if_neg (by decide), if_neg (by decide), if_neg (by decide)]
def dig (x : Int32) : Bool := !isO x 48 57
theorem dig8 (x : Int32) : f_X3_isDigit x = some (dig x) := by
  unfold f_X3_isDigit dig isO
  by_cases h : x < 48
  · rw [if_pos h, decide_eq_true h]; rfl
  · rw [if_neg h, decide_eq_false h]
    by_cases h' : (57 : Int32) < x
    · rw [if_pos h', decide_eq_true h']; rfl
    · rw [if_neg h', decide_eq_false h']; rfl
theorem dig9 (x : Int32) : f_X9_in x.toInt64 (48 : Int64) (57 : Int64) = some (dig x) := in_eq x 48 57
theorem dig_n {x : Int32} (h : dig x = true) : ∃ e, e ≤ 9 ∧ x = nI (48 + e) := by
  have h' : isO x 48 57 = false := by unfold dig at h; cases q : isO x 48 57 <;> simp [q] at h ⊢
  simp only [isO, Bool.or_eq_false_iff, decide_eq_false_iff_not] at h'
  obtain ⟨h1, h2⟩ := h'
  obtain ⟨m, hm, rfl⟩ := nI_of (x := x) (by
    intro z
    apply h1
    rw [Int32.lt_iff_toInt_lt] at z ⊢
    rw [show (0 : Int32).toInt = 0 from rfl] at z
    rw [show (48 : Int32).toInt = 48 from rfl]
    omega)
  have g1 : ¬ nI m < nI 48 := h1
  have g2 : ¬ nI 57 < nI m := h2
  rw [nI_ltI hm (by omega)] at g1
  rw [nI_ltI (by omega) hm] at g2
  exact ⟨m - 48, by omega, congrArg nI (by omega)⟩
theorem num_step : ∀ v, v < 1000 → ∀ e, e ≤ 9 → (nI v * 10 + nI (48 + e) - 48 : Int32) = nI (10 * v + e) ∧ (10 * nI v + nI (48 + e) - 48 : Int32) = nI (10 * v + e) := by
  intro v hv e he
  have e1 : (nI v * 10 : Int32) = nI (10 * v) := (show ∀ v, v < 1000 → (nI v * 10 : Int32) = nI (10 * v) by decide +kernel) v hv
  have e2 : (10 * nI v : Int32) = nI (10 * v) := (show ∀ v, v < 1000 → (10 * nI v : Int32) = nI (10 * v) by decide +kernel) v hv
  have e3 : (nI (10 * v) + nI (48 + e) - 48 : Int32) = nI (10 * v + e) := by
    rw [nI_add, show (48 : Int32) = nI 48 from rfl, nI_sub (by omega) (by omega)]
    exact congrArg nI (by omega)
  rw [e1, e2]
  exact ⟨e3, e3⟩
theorem number_S {T : Nat → Int32} {L u o : Nat} {r9 : Nat → Int32 → Sto → Option Sto} : ∀ (r n n' v P : Nat) (c : List Int32) (σ8 σ9 : Sto), r ≤ 4 → r < n → r < n' → v < 10 ^ (4 - r) → PC T L u P c σ8 → PF T L u o P c σ9 → (r = 4 → dig (ch T L P) = true) → (r < 4 → c.length < P) →
    ∃ P' w τ8 τ9, f_X3_readNumber_L4 n (nI v) (nI (4 - r)) σ8 = some τ8 ∧ f_X9_unit_L58 r9 n' (nI v) (nI (4 - r)) σ9 = some τ9 ∧ w ≤ 9999 ∧ PC T L u P' (c ++ [nI w]) τ8 ∧ PF T L u o P' (c ++ [nI w]) τ9 ∧ P ≤ P' ∧ c.length + 1 ≤ P' ∧ (r = 4 → P + 1 ≤ P') ∧ e8 σ8 τ8 ∧ e9 σ9 τ9 := by
  have fin : ∀ (r v P : Nat) (c : List Int32) (σ8 σ9 : Sto), r < 4 → v < 10000 → PC T L u P c σ8 → PF T L u o P c σ9 → c.length < P → ∃ P' w τ8 τ9, (f_X3_add σ8 (nI v)).bind (fun r50 => some r50) = some τ8 ∧ f_X9_unit_L110 r9 (nI v) (nI (4 - r)) σ9 = some τ9 ∧ w ≤ 9999 ∧ PC T L u P' (c ++ [nI w]) τ8 ∧ PF T L u o P' (c ++ [nI w]) τ9 ∧ P ≤ P' ∧ c.length + 1 ≤ P' ∧ (r = 4 → P + 1 ≤ P') ∧ e8 σ8 τ8 ∧ e9 σ9 τ9 := by
    intro r v P c σ8 σ9 hr hv h8 h9 hc
    obtain ⟨χ8, x1, x2, x3⟩ := add_c h8 hc (nI v)
    obtain ⟨χ9, y1, y2, y3⟩ := lay_f h9 hc (nI v)
    rw [cv8_num hv] at x1
    refine ⟨P, v, χ8, χ9, by rw [x1, bind_s], ?_, by omega, x2, y2, Nat.le_refl _, hc, fun z => by omega, x3, y3⟩
    unfold f_X9_unit_L110
    rw [if_neg (show ¬ nI (4 - r) = 0 from fun z => absurd ((nI_eq (by omega) (by decide)).mp z) (show ¬ 4 - r = 0 by omega)), y1, bind_s]
  intro r
  induction r with
  | zero =>
    intro n n' v P c σ8 σ9 _ h2 h3 hv h8 h9 _ hc
    obtain ⟨n, rfl⟩ : ∃ k, n = k + 1 := ⟨n - 1, by omega⟩
    obtain ⟨n', rfl⟩ : ∃ k, n' = k + 1 := ⟨n' - 1, by omega⟩
    rw [f_X3_readNumber_L4, f_X9_unit_L58, if_pos (by decide), if_pos (by decide)]
    exact fin 0 v P c σ8 σ9 (by omega) (by simpa using hv) h8 h9 (hc (by omega))
  | succ r ih =>
    intro n n' v P c σ8 σ9 h1 h2 h3 hv h8 h9 hd hc
    obtain ⟨n, rfl⟩ : ∃ k, n = k + 1 := ⟨n - 1, by omega⟩
    obtain ⟨n', rfl⟩ : ∃ k, n' = k + 1 := ⟨n' - 1, by omega⟩
    have g4 : ¬ (4 : Int32) ≤ nI (4 - (r + 1)) := nI_ge (b := 4) (by omega) (by omega)
    have e4 : 4 - r = 4 - (r + 1) + 1 := by omega
    rw [f_X3_readNumber_L4, f_X9_unit_L58, if_neg g4, if_neg g4, next_c h8, bind_s, dig8, bind_s, here_f h9, bind_s, bind_s, dig9, bind_s]
    cases hx : dig (ch T L P) with
    | true =>
      have hP : P < L := by
        rcases Nat.lt_or_ge P L with h | h
        · exact h
        · rw [ch_end (by omega)] at hx
          exact absurd hx (by decide)
      obtain ⟨e, he, ex⟩ := dig_n hx
      obtain ⟨a8, b8⟩ := adv_c h8 hP
      obtain ⟨a9, b9⟩ := adv_f h9 hP
      have hv3 : v < 1000 := by
        rcases (show r = 0 ∨ r = 1 ∨ r = 2 ∨ r = 3 by omega) with rfl | rfl | rfl | rfl <;> simp at hv <;> omega
      obtain ⟨s1, s2⟩ := num_step v hv3 e he
      rw [if_pos rfl, if_pos rfl, lp_b, bind_s, lp_b, ex, s1, s2, nI_1, ← e4]
      generalize sI σ8 55 4 (σ8.1 55 4 + 1) = σ8' at a8 b8 ⊢
      generalize sI σ9 81 6 (σ9.1 81 6 + 1) = σ9' at a9 b9 ⊢
      obtain ⟨P', w, τ8, τ9, z1, z2, z3, z4, z5, z6, z7, z8, z9, z10⟩ := ih n n' (10 * v + e) (P + 1) c σ8' σ9' (by omega) (by omega) (by omega) (by
        rcases (show r = 0 ∨ r = 1 ∨ r = 2 ∨ r = 3 by omega) with rfl | rfl | rfl | rfl <;> simp at hv ⊢ <;> omega) a8 a9 (fun z => by omega) (fun _ => by have := h8.2.2.1; omega)
      exact ⟨P', w, τ8, τ9, z1, z2, z3, z4, z5, by omega, z7, fun _ => z6, b8.tr z9, b9.tr z10⟩
    | false =>
      have hr4 : r + 1 < 4 := by
        rcases (show r + 1 = 4 ∨ r + 1 < 4 by omega) with h | h
        · rw [hd h] at hx; cases hx
        · exact h
      rw [if_neg (by decide), if_neg (by decide)]
      refine fin (r + 1) v P c σ8 σ9 hr4 ?_ h8 h9 (hc hr4)
      rcases (show r = 0 ∨ r = 1 ∨ r = 2 by omega) with rfl | rfl | rfl <;> simp at hv <;> omega
