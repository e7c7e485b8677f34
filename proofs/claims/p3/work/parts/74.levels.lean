def opP (x : Int32) : Bool := decide (x = 42 ∨ x = 47 ∨ x = 37)
def opS (x : Int32) : Bool := decide (x = 43 ∨ x = 45)
def opA (x : Int32) : Bool := decide (x = 38)
def opO (x : Int32) : Bool := decide (x = 124)
theorem pc_lt {T : Nat → Int32} {L u P : Nat} {c : List Int32} {σ : Sto} (h : PC T L u P c σ) : (σ.1 55 3 ≤ σ.1 55 4) ↔ ¬ P < L := by
  obtain ⟨h1, h2, h3, h4, h5, h6, h7, h8, h9⟩ := h
  rw [h4, h7, nI_leI (by omega) (by omega)]
  omega
theorem ch_end {T : Nat → Int32} {L P : Nat} (h : ¬ P < L) : ch T L P = -1 := if_neg h
theorem product_S {T : Nat → Int32} {L u o : Nat} {r8 : Nat → Int32 → Sto → Option (Bool × Sto)} {r9 : Nat → Int32 → Sto → Option Sto} (a : Int32) (hs : PS T L u o (r8 5 a) (r9 6 0)) : PS T L u o (fun σ => b_X3_readProduct r8 σ a) (fun σ => b_X9_product r9 σ) := by
  refine first_S hs (l8 := f_X3_readProduct_L10 r8 a FU) (l9 := f_X9_product_L4 r9 FU) ?_ ?_
  · intro P c σ8 σ9 h8 h9
    refine loop_S (ops := opP) hs (l8 := f_X3_readProduct_L10 r8 a) (l9 := f_X9_product_L4 r9) ?_ ?_ ?_ ?_ ?_ ?_ (by decide) 50 FU P c σ8 σ9 (by have := h8.1; omega) (by unfold FU; omega) h8 h9
    · intro n P c σ h hc
      unfold opP at hc
      simp only [decide_eq_false_iff_not, not_or] at hc
      rw [f_X3_readProduct_L10]
      by_cases hP : P < L
      · rw [if_neg (fun z => (pc_lt h).mp z hP), next_c h, bind_s, if_neg hc.1, bind_s, if_neg hc.2.1, bind_s, if_neg hc.2.2]
      · rw [if_pos ((pc_lt h).mpr hP)]
    · intro n P c σ h hP hc
      unfold opP at hc
      simp only [decide_eq_true_eq] at hc
      have e : f_X3_readProduct_L48 r8 (f_X3_readProduct_L10 r8 a n) a σ = (r8 5 a (sI σ 55 4 (σ.1 55 4 + 1))).bind (fun r => if r.1 = true then (f_X3_add r.2 (-(ch T L P))).bind (fun τ => f_X3_readProduct_L10 r8 a n τ) else some (false, r.2)) := by
        unfold f_X3_readProduct_L48
        rw [next_c h, bind_s, lp_b]
      rw [f_X3_readProduct_L10, if_neg (fun z => (pc_lt h).mp z hP), next_c h, bind_s, e]
      rcases hc with q | q | q
      · rw [if_pos q]
      · rw [q, if_neg (by decide), bind_s, if_pos rfl]
      · rw [q, if_neg (by decide), bind_s, if_neg (by decide), bind_s, if_pos rfl]
    · intro n P c σ h hc
      unfold opP at hc
      simp only [decide_eq_false_iff_not, not_or] at hc
      rw [f_X9_product_L4, here_f h, bind_s, if_neg hc.1, bind_s, if_neg hc.2.1, bind_s, if_neg hc.2.2]
    · intro n P c σ h hP hc
      unfold opP at hc
      simp only [decide_eq_true_eq] at hc
      have e : f_X9_product_L31 r9 (f_X9_product_L4 r9 n) σ = (r9 6 0 (sI σ 81 6 (σ.1 81 6 + 1))).bind (fun τ => (f_X9_lay τ (20000 + ch T L P)).bind (fun υ => f_X9_product_L4 r9 n υ)) := by
        unfold f_X9_product_L31
        rw [here_f h, bind_s, lp_b]
      rw [f_X9_product_L4, here_f h, bind_s, e]
      rcases hc with q | q | q
      · rw [if_pos q]
      · rw [q, if_neg (by decide), bind_s, if_pos rfl]
      · rw [q, if_neg (by decide), bind_s, if_neg (by decide), bind_s, if_pos rfl]
    · intro n F σ hF h
      rw [f_X9_product_L4, here_x hF h, bind_s, if_neg (by decide), bind_s, if_neg (by decide), bind_s, if_neg (by decide)]
    · intro x hx
      unfold opP at hx
      simp only [decide_eq_true_eq] at hx
      rcases hx with rfl | rfl | rfl <;> decide
  · intro F σ hF h
    rw [show FU = 9999 + 1 from rfl, f_X9_product_L4, here_x hF h, bind_s, if_neg (by decide), bind_s, if_neg (by decide), bind_s, if_neg (by decide)]
theorem sum_S {T : Nat → Int32} {L u o : Nat} {r8 : Nat → Int32 → Sto → Option (Bool × Sto)} {r9 : Nat → Int32 → Sto → Option Sto} (a : Int32) (hs : PS T L u o (r8 6 a) (r9 4 0)) : PS T L u o (fun σ => b_X3_readSum r8 σ a) (fun σ => b_X9_sum r9 σ) := by
  refine first_S hs (l8 := f_X3_readSum_L10 r8 a FU) (l9 := f_X9_sum_L4 r9 FU) ?_ ?_
  · intro P c σ8 σ9 h8 h9
    refine loop_S (ops := opS) hs (l8 := f_X3_readSum_L10 r8 a) (l9 := f_X9_sum_L4 r9) ?_ ?_ ?_ ?_ ?_ ?_ (by decide) 50 FU P c σ8 σ9 (by have := h8.1; omega) (by unfold FU; omega) h8 h9
    · intro n P c σ h hc
      unfold opS at hc
      simp only [decide_eq_false_iff_not, not_or] at hc
      rw [f_X3_readSum_L10]
      by_cases hP : P < L
      · rw [if_neg (fun z => (pc_lt h).mp z hP), next_c h, bind_s, if_neg hc.1, bind_s, if_neg hc.2]
      · rw [if_pos ((pc_lt h).mpr hP)]
    · intro n P c σ h hP hc
      unfold opS at hc
      simp only [decide_eq_true_eq] at hc
      have e : f_X3_readSum_L39 r8 (f_X3_readSum_L10 r8 a n) a σ = (r8 6 a (sI σ 55 4 (σ.1 55 4 + 1))).bind (fun r => if r.1 = true then (f_X3_add r.2 (-(ch T L P))).bind (fun τ => f_X3_readSum_L10 r8 a n τ) else some (false, r.2)) := by
        unfold f_X3_readSum_L39
        rw [next_c h, bind_s, lp_b]
      rw [f_X3_readSum_L10, if_neg (fun z => (pc_lt h).mp z hP), next_c h, bind_s, e]
      rcases hc with q | q
      · rw [if_pos q]
      · rw [q, if_neg (by decide), bind_s, if_pos rfl]
    · intro n P c σ h hc
      unfold opS at hc
      simp only [decide_eq_false_iff_not, not_or] at hc
      rw [f_X9_sum_L4, here_f h, bind_s, if_neg hc.1, bind_s, if_neg hc.2]
    · intro n P c σ h hP hc
      unfold opS at hc
      simp only [decide_eq_true_eq] at hc
      have e : f_X9_sum_L22 r9 (f_X9_sum_L4 r9 n) σ = (r9 4 0 (sI σ 81 6 (σ.1 81 6 + 1))).bind (fun τ => (f_X9_lay τ (20000 + ch T L P)).bind (fun υ => f_X9_sum_L4 r9 n υ)) := by
        unfold f_X9_sum_L22
        rw [here_f h, bind_s, lp_b]
      rw [f_X9_sum_L4, here_f h, bind_s, e]
      rcases hc with q | q
      · rw [if_pos q]
      · rw [q, if_neg (by decide), bind_s, if_pos rfl]
    · intro n F σ hF h
      rw [f_X9_sum_L4, here_x hF h, bind_s, if_neg (by decide), bind_s, if_neg (by decide)]
    · intro x hx
      unfold opS at hx
      simp only [decide_eq_true_eq] at hx
      rcases hx with rfl | rfl <;> decide
  · intro F σ hF h
    rw [show FU = 9999 + 1 from rfl, f_X9_sum_L4, here_x hF h, bind_s, if_neg (by decide), bind_s, if_neg (by decide)]
theorem takes_t {T : Nat → Int32} {L u o P : Nat} {c : List Int32} {σ : Sto} (h : PF T L u o P c σ) {x : Int32} (hx : ch T L P = x) : f_X9_takes σ x = some (true, sI σ 81 6 (σ.1 81 6 + 1)) := by
  unfold f_X9_takes
  rw [here_f h, bind_s, if_pos hx, lp_b]
theorem takes_f {T : Nat → Int32} {L u o P : Nat} {c : List Int32} {σ : Sto} (h : PF T L u o P c σ) {x : Int32} (hx : ¬ ch T L P = x) : f_X9_takes σ x = some (false, σ) := by
  unfold f_X9_takes
  rw [here_f h, bind_s, if_neg hx]
theorem takes_x {F : Nat} (hF : F ≤ 50) {σ : Sto} (h : σ.1 81 8 = nI F) {x : Int32} (hx : ¬ (-1 : Int32) = x) : f_X9_takes σ x = some (false, σ) := by
  unfold f_X9_takes
  rw [here_x hF h, bind_s, if_neg hx]
theorem all_S {T : Nat → Int32} {L u o : Nat} {r8 : Nat → Int32 → Sto → Option (Bool × Sto)} {r9 : Nat → Int32 → Sto → Option Sto} (a : Int32) (hs : PS T L u o (r8 3 a) (r9 1 0)) : PS T L u o (fun σ => b_X3_readAll r8 σ a) (fun σ => b_X9_both r9 σ) := by
  refine first_S hs (l8 := f_X3_readAll_L10 r8 a FU) (l9 := f_X9_both_L4 r9 FU) ?_ ?_
  · intro P c σ8 σ9 h8 h9
    refine loop_S (ops := opA) hs (l8 := f_X3_readAll_L10 r8 a) (l9 := f_X9_both_L4 r9) ?_ ?_ ?_ ?_ ?_ ?_ (by decide) 50 FU P c σ8 σ9 (by have := h8.1; omega) (by unfold FU; omega) h8 h9
    · intro n P c σ h hc
      have hc' := of_decide_eq_false hc
      rw [f_X3_readAll_L10]
      by_cases hP : P < L
      · rw [if_neg (fun z => (pc_lt h).mp z hP), next_c h, bind_s, if_neg hc']
      · rw [if_pos ((pc_lt h).mpr hP)]
    · intro n P c σ h hP hc
      have hc' := of_decide_eq_true hc
      rw [f_X3_readAll_L10, if_neg (fun z => (pc_lt h).mp z hP), next_c h, bind_s, if_pos hc', lp_b, hc']
    · intro n P c σ h hc
      rw [f_X9_both_L4, takes_f h (of_decide_eq_false hc), bind_s, if_neg Bool.false_ne_true]
    · intro n P c σ h hP hc
      have hc' := of_decide_eq_true hc
      rw [f_X9_both_L4, takes_t h hc', bind_s, if_pos rfl, hc']
      rfl
    · intro n F σ hF h
      rw [f_X9_both_L4, takes_x hF h (by decide), bind_s, if_neg Bool.false_ne_true]
    · intro x hx
      have hx' := of_decide_eq_true hx
      subst hx'
      decide
  · intro F σ hF h
    rw [show FU = 9999 + 1 from rfl, f_X9_both_L4, takes_x hF h (by decide), bind_s, if_neg Bool.false_ne_true]
theorem any_S {T : Nat → Int32} {L u o : Nat} {r8 : Nat → Int32 → Sto → Option (Bool × Sto)} {r9 : Nat → Int32 → Sto → Option Sto} (a : Int32) (hs : PS T L u o (r8 0 a) (r9 0 0)) : PS T L u o (fun σ => b_X3_readAny r8 σ a) (fun σ => b_X9_either r9 σ) := by
  refine first_S hs (l8 := f_X3_readAny_L10 r8 a FU) (l9 := f_X9_either_L4 r9 FU) ?_ ?_
  · intro P c σ8 σ9 h8 h9
    refine loop_S (ops := opO) hs (l8 := f_X3_readAny_L10 r8 a) (l9 := f_X9_either_L4 r9) ?_ ?_ ?_ ?_ ?_ ?_ (by decide) 50 FU P c σ8 σ9 (by have := h8.1; omega) (by unfold FU; omega) h8 h9
    · intro n P c σ h hc
      have hc' := of_decide_eq_false hc
      rw [f_X3_readAny_L10]
      by_cases hP : P < L
      · rw [if_neg (fun z => (pc_lt h).mp z hP), next_c h, bind_s, if_neg hc']
      · rw [if_pos ((pc_lt h).mpr hP)]
    · intro n P c σ h hP hc
      have hc' := of_decide_eq_true hc
      rw [f_X3_readAny_L10, if_neg (fun z => (pc_lt h).mp z hP), next_c h, bind_s, if_pos hc', lp_b, hc']
    · intro n P c σ h hc
      rw [f_X9_either_L4, takes_f h (of_decide_eq_false hc), bind_s, if_neg Bool.false_ne_true]
    · intro n P c σ h hP hc
      have hc' := of_decide_eq_true hc
      rw [f_X9_either_L4, takes_t h hc', bind_s, if_pos rfl, hc']
      rfl
    · intro n F σ hF h
      rw [f_X9_either_L4, takes_x hF h (by decide), bind_s, if_neg Bool.false_ne_true]
    · intro x hx
      have hx' := of_decide_eq_true hx
      subst hx'
      decide
  · intro F σ hF h
    rw [show FU = 9999 + 1 from rfl, f_X9_either_L4, takes_x hF h (by decide), bind_s, if_neg Bool.false_ne_true]
