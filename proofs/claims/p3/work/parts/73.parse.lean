/-! A text read by both: the class's reader stops at once, the reference's goes on with its fault. -/
def ch (T : Nat → Int32) (L P : Nat) : Int32 := if P < L then T P else -1
/-- the class's reader at P, with the code c -/
def PC (T : Nat → Int32) (L u P : Nat) (c : List Int32) (σ : Sto) : Prop := L ≤ 50 ∧ P ≤ L ∧ c.length ≤ P ∧ σ.1 55 3 = nI L ∧ σ.2 55 5 = some (1004 + u) ∧ (∀ i, i < L → σ.1 57 i = T i) ∧ σ.1 55 4 = nI P ∧ σ.1 55 1 = nI c.length ∧ ∀ i, i < c.length → σ.1 56 i = cv8 (c.getD i 0)
/-- the reference's reader at P, with the code c, o brackets deep -/
def PF (T : Nat → Int32) (L u o P : Nat) (c : List Int32) (σ : Sto) : Prop := L ≤ 50 ∧ P ≤ L ∧ c.length ≤ P ∧ σ.1 81 5 = 210 ∧ σ.1 81 7 = nI L ∧ σ.1 81 10 = nI u ∧ (∀ i, i < L → σ.1 82 (210 + i) = T i) ∧ σ.1 81 6 = nI P ∧ σ.1 81 8 = -1 ∧ σ.1 81 9 = nI o ∧ σ.1 81 13 = nI c.length ∧ ∀ i, i < c.length → σ.1 87 i = c.getD i 0
def e8 (σ τ : Sto) : Prop := τ.2 = σ.2 ∧ ∀ a b, a ≠ 55 → a ≠ 56 → τ.1 a b = σ.1 a b
def e9 (σ τ : Sto) : Prop := ∀ a b, a ≠ 87 → ¬ (a = 81 ∧ (b = 6 ∨ b = 8 ∨ b = 9 ∨ b = 13)) → τ.1 a b = σ.1 a b
theorem e8.rf (σ : Sto) : e8 σ σ := ⟨rfl, fun _ _ _ _ => rfl⟩
theorem e9.rf (σ : Sto) : e9 σ σ := fun _ _ _ _ => rfl
theorem e8.tr {σ τ υ : Sto} (h : e8 σ τ) (h' : e8 τ υ) : e8 σ υ := ⟨h'.1.trans h.1, fun a b x y => (h'.2 a b x y).trans (h.2 a b x y)⟩
theorem e9.tr {σ τ υ : Sto} (h : e9 σ τ) (h' : e9 τ υ) : e9 σ υ := fun a b x y => (h' a b x y).trans (h a b x y)
theorem e9.w (σ : Sto) {b : Nat} (hb : b = 6 ∨ b = 8 ∨ b = 9 ∨ b = 13) (v : Int32) : e9 σ (sI σ 81 b v) := fun x y _ h => by
  show (if x = 81 ∧ y = b then v else σ.1 x y) = _
  rw [if_neg (fun z => h ⟨z.1, by omega⟩)]
theorem next_c {T : Nat → Int32} {L u P : Nat} {c : List Int32} {σ : Sto} (h : PC T L u P c σ) : f_X3_next σ = some (ch T L P) := by
  obtain ⟨h1, h2, h3, h4, h5, h6, h7, h8, h9⟩ := h
  unfold f_X3_next f_X3_next_L30 ch
  rw [h7, h4, if_neg (nI_pos (by omega))]
  by_cases h : P < L
  · rw [if_neg (nI_ge (by omega) (by omega)), if_pos (show nI P < 50 from nI_lt (b := 50) (by omega) (by omega)), rd_nI (by show P < 50; omega), bind_s, if_pos h, h6 P h]
  · rw [if_pos (nI_le (by omega) (by omega)), if_neg h]
theorem here_f {T : Nat → Int32} {L u o P : Nat} {c : List Int32} {σ : Sto} (h : PF T L u o P c σ) : f_X9_here σ = some (ch T L P) := by
  obtain ⟨h1, h2, h3, h4, h5, h6, h7, h8, h9, h10, h11, h12⟩ := h
  unfold f_X9_here ch
  rw [h5, h8, h9, h4]
  by_cases h : P < L
  · rw [if_neg (nI_ge (by omega) (by omega)), if_neg (by decide), show (210 + nI P : Int32) = nI (210 + P) from nI_add 210 P, rd_nI (by show 210 + P < 270; omega), bind_s, if_pos h, h7 P h]
  · rw [if_pos (nI_le (by omega) (by omega)), if_neg h]
theorem here_x {F : Nat} (hF : F ≤ 50) {σ : Sto} (h : σ.1 81 8 = nI F) : f_X9_here σ = some (-1) := by
  unfold f_X9_here
  by_cases h1 : σ.1 81 7 ≤ σ.1 81 6
  · rw [if_pos h1]
  · rw [if_neg h1, h, if_pos (nI_pos' (by omega))]
theorem lay_x {F : Nat} (hF : F ≤ 50) {σ : Sto} (h : σ.1 81 8 = nI F) (v : Int32) : f_X9_lay σ v = some σ := by
  unfold f_X9_lay
  rw [h, if_pos (nI_pos' (by omega))]
theorem adv_c {T : Nat → Int32} {L u P : Nat} {c : List Int32} {σ : Sto} (h : PC T L u P c σ) (hP : P < L) : PC T L u (P + 1) c (sI σ 55 4 (σ.1 55 4 + 1)) ∧ e8 σ (sI σ 55 4 (σ.1 55 4 + 1)) := by
  obtain ⟨h1, h2, h3, h4, h5, h6, h7, h8, h9⟩ := h
  rw [h7, nI_1]
  exact ⟨⟨h1, by omega, by omega, by rw [sI_nj (by decide)]; exact h4, h5, fun i hi => by rw [sI_ne (by decide)]; exact h6 i hi, by rw [sI_at, if_pos rfl], by rw [sI_nj (by decide)]; exact h8, fun i hi => by rw [sI_ne (by decide)]; exact h9 i hi⟩, rfl, fun a b h _ => sI_ne h⟩
theorem adv_f {T : Nat → Int32} {L u o P : Nat} {c : List Int32} {σ : Sto} (h : PF T L u o P c σ) (hP : P < L) : PF T L u o (P + 1) c (sI σ 81 6 (σ.1 81 6 + 1)) ∧ e9 σ (sI σ 81 6 (σ.1 81 6 + 1)) := by
  obtain ⟨h1, h2, h3, h4, h5, h6, h7, h8, h9, h10, h11, h12⟩ := h
  rw [h8, nI_1]
  exact ⟨⟨h1, by omega, by omega, by rw [sI_nj (by decide)]; exact h4, by rw [sI_nj (by decide)]; exact h5, by rw [sI_nj (by decide)]; exact h6, fun i hi => by rw [sI_ne (by decide)]; exact h7 i hi, by rw [sI_at, if_pos rfl], by rw [sI_nj (by decide)]; exact h9, by rw [sI_nj (by decide)]; exact h10, by rw [sI_nj (by decide)]; exact h11, fun i hi => by rw [sI_ne (by decide)]; exact h12 i hi⟩, e9.w _ (by omega) _⟩
theorem getD_app {c : List Int32} {v : Int32} {i : Nat} (h : i < c.length) : (c ++ [v]).getD i 0 = c.getD i 0 := by
  rw [List.getD_eq_getElem?_getD, List.getD_eq_getElem?_getD, List.getElem?_append_left h]
theorem getD_end {c : List Int32} {v : Int32} : (c ++ [v]).getD c.length 0 = v := by
  rw [List.getD_eq_getElem?_getD, List.getElem?_append_right (Nat.le_refl _), Nat.sub_self]
  rfl
theorem add_c {T : Nat → Int32} {L u P : Nat} {c : List Int32} {σ : Sto} (h : PC T L u P c σ) (hc : c.length < P) (v : Int32) : ∃ τ, f_X3_add σ (cv8 v) = some τ ∧ PC T L u P (c ++ [v]) τ ∧ e8 σ τ := by
  obtain ⟨h1, h2, h3, h4, h5, h6, h7, h8, h9⟩ := h
  have hl : (c ++ [v]).length = c.length + 1 := by simp
  unfold f_X3_add
  rw [h8, if_neg (show ¬ (50 : Int32) ≤ nI c.length from nI_ge (b := 50) (by omega) (by omega)), wr_nI (by show c.length < 50; omega), bind_s, lp_b, sI_ne (by decide), h8, nI_1]
  refine ⟨_, rfl, ⟨h1, h2, by omega, by rw [sI_nj (by decide), sI_ne (by decide)]; exact h4, h5, fun i hi => by rw [sI_ne (by decide), sI_ne (by decide)]; exact h6 i hi, by rw [sI_nj (by decide), sI_ne (by decide)]; exact h7, by rw [sI_at, if_pos rfl, hl], fun i hi => ?_⟩, rfl, fun a b ha hb => by rw [sI_ne ha, sI_ne hb]⟩
  rw [sI_ne (by decide), sI_at]
  by_cases hi' : i = c.length
  · rw [if_pos hi', hi', getD_end]
  · rw [if_neg hi', getD_app (by omega)]
    exact h9 i (by omega)
theorem lay_f {T : Nat → Int32} {L u o P : Nat} {c : List Int32} {σ : Sto} (h : PF T L u o P c σ) (hc : c.length < P) (v : Int32) : ∃ τ, f_X9_lay σ v = some τ ∧ PF T L u o P (c ++ [v]) τ ∧ e9 σ τ := by
  obtain ⟨h1, h2, h3, h4, h5, h6, h7, h8, h9, h10, h11, h12⟩ := h
  have hl : (c ++ [v]).length = c.length + 1 := by simp
  unfold f_X9_lay
  rw [h9, if_neg (by decide), h11, wr_nI (by show c.length < 60; omega), bind_s, lp_b, sI_ne (by decide), h11, nI_1]
  refine ⟨_, rfl, ⟨h1, h2, by omega, by rw [sI_nj (by decide), sI_ne (by decide)]; exact h4, by rw [sI_nj (by decide), sI_ne (by decide)]; exact h5, by rw [sI_nj (by decide), sI_ne (by decide)]; exact h6, fun i hi => by rw [sI_ne (by decide), sI_ne (by decide)]; exact h7 i hi, by rw [sI_nj (by decide), sI_ne (by decide)]; exact h8, by rw [sI_nj (by decide), sI_ne (by decide)]; exact h9, by rw [sI_nj (by decide), sI_ne (by decide)]; exact h10, by rw [sI_at, if_pos rfl, hl], fun i hi => ?_⟩, fun a b ha hb => ?_⟩
  · rw [sI_ne (by decide), sI_at]
    by_cases hi' : i = c.length
    · rw [if_pos hi', hi', getD_end]
    · rw [if_neg hi', getD_app (by omega)]
      exact h12 i (by omega)
  · rw [e9.w _ (by omega) _ a b ha hb, sI_ne ha]
def bal (ts : List Int32) : Prop := ∀ h rest, wfh rest (h + 1) = true → wfh (ts ++ rest) h = true
def balL (ts : List Int32) : Prop := ∀ h rest, wfh rest (h + 1) = true → wfh (ts ++ rest) (h + 1) = true
/-- both go on alike, or both have found the same fault -/
def RS (B : List Int32 → Prop) (T : Nat → Int32) (L u o P : Nat) (c : List Int32) (σ8 σ9 : Sto) (x8 : Option (Bool × Sto)) (x9 : Option Sto) : Prop :=
  (∃ P' ts τ8 τ9, x8 = some (true, τ8) ∧ x9 = some τ9 ∧ PC T L u P' (c ++ ts) τ8 ∧ PF T L u o P' (c ++ ts) τ9 ∧ P + ts.length ≤ P' ∧ B ts ∧ e8 σ8 τ8 ∧ e9 σ9 τ9) ∨
  (∃ F τ8 τ9, x8 = some (false, τ8) ∧ x9 = some τ9 ∧ F ≤ 50 ∧ τ8.1 55 4 = nI F ∧ τ9.1 81 8 = nI F ∧ e8 σ8 τ8 ∧ e9 σ9 τ9)
def PS (T : Nat → Int32) (L u o : Nat) (g8 : Sto → Option (Bool × Sto)) (g9 : Sto → Option Sto) : Prop := ∀ P c σ8 σ9, PC T L u P c σ8 → PF T L u o P c σ9 → RS bal T L u o P c σ8 σ9 (g8 σ8) (g9 σ9)
theorem loop_S {T : Nat → Int32} {L u o : Nat} {ops : Int32 → Bool} {s8 : Sto → Option (Bool × Sto)} {s9 : Sto → Option Sto} (hs : PS T L u o s8 s9) {l8 : Nat → Sto → Option (Bool × Sto)} {l9 : Nat → Sto → Option Sto}
    (stop8 : ∀ n P c σ, PC T L u P c σ → ops (ch T L P) = false → l8 (n + 1) σ = some (true, σ))
    (step8 : ∀ n P c σ, PC T L u P c σ → P < L → ops (ch T L P) = true → l8 (n + 1) σ = (s8 (sI σ 55 4 (σ.1 55 4 + 1))).bind (fun r => if r.1 = true then (f_X3_add r.2 (-(ch T L P))).bind (fun τ => l8 n τ) else some (false, r.2)))
    (stop9 : ∀ n P c σ, PF T L u o P c σ → ops (ch T L P) = false → l9 (n + 1) σ = some σ)
    (step9 : ∀ n P c σ, PF T L u o P c σ → P < L → ops (ch T L P) = true → l9 (n + 1) σ = (s9 (sI σ 81 6 (σ.1 81 6 + 1))).bind (fun τ => (f_X9_lay τ (20000 + ch T L P)).bind (fun υ => l9 n υ)))
    (fl9 : ∀ n F σ, F ≤ 50 → σ.1 81 8 = nI F → l9 (n + 1) σ = some σ)
    (hops : ∀ x, ops x = true → tokO (20000 + x) = true ∧ cv8 (20000 + x) = -x) (hm : ops (-1) = false) :
    ∀ d n P c σ8 σ9, L - P ≤ d → d < n → PC T L u P c σ8 → PF T L u o P c σ9 → RS balL T L u o P c σ8 σ9 (l8 n σ8) (l9 n σ9) := by
  intro d
  induction d with
  | zero =>
    intro n P c σ8 σ9 hd hn h8 h9
    obtain ⟨n, rfl⟩ : ∃ n', n = n' + 1 := ⟨n - 1, by omega⟩
    have hc : ops (ch T L P) = false := by
      unfold ch
      rw [if_neg (by omega)]
      exact hm
    exact Or.inl ⟨P, [], σ8, σ9, stop8 n P c σ8 h8 hc, stop9 n P c σ9 h9 hc, by rw [List.append_nil]; exact h8, by rw [List.append_nil]; exact h9, by simp, fun h rest q => q, e8.rf _, e9.rf _⟩
  | succ d ih =>
    intro n P c σ8 σ9 hd hn h8 h9
    obtain ⟨n, rfl⟩ : ∃ n', n = n' + 1 := ⟨n - 1, by omega⟩
    cases hc : ops (ch T L P) with
    | false => exact Or.inl ⟨P, [], σ8, σ9, stop8 n P c σ8 h8 hc, stop9 n P c σ9 h9 hc, by rw [List.append_nil]; exact h8, by rw [List.append_nil]; exact h9, by simp, fun h rest q => q, e8.rf _, e9.rf _⟩
    | true =>
      have hP : P < L := by
        rcases Nat.lt_or_ge P L with h | h
        · exact h
        · unfold ch at hc
          rw [if_neg (by omega), hm] at hc
          cases hc
      obtain ⟨o1, o2⟩ := hops _ hc
      obtain ⟨a8, b8⟩ := adv_c h8 hP
      obtain ⟨a9, b9⟩ := adv_f h9 hP
      rw [step8 n P c σ8 h8 hP hc, step9 n P c σ9 h9 hP hc]
      generalize sI σ8 55 4 (σ8.1 55 4 + 1) = σ8' at a8 b8 ⊢
      generalize sI σ9 81 6 (σ9.1 81 6 + 1) = σ9' at a9 b9 ⊢
      rcases hs (P + 1) c σ8' σ9' a8 a9 with ⟨P', ts, τ8, τ9, r1, r2, r3, r4, r5, r6, r7, r8⟩ | ⟨F, τ8, τ9, r1, r2, r3, r4, r5, r6, r7⟩
      · have hlen : (c ++ ts).length < P' := by
          have := h8.2.2.1
          rw [List.length_append]
          omega
        obtain ⟨χ8, x1, x2, x3⟩ := add_c r3 hlen (20000 + ch T L P)
        obtain ⟨χ9, y1, y2, y3⟩ := lay_f r4 hlen (20000 + ch T L P)
        rw [o2] at x1
        rw [r1, bind_s, if_pos rfl, x1, bind_s, r2, bind_s, y1, bind_s]
        rcases ih n P' (c ++ ts ++ [20000 + ch T L P]) χ8 χ9 (by omega) (by omega) x2 y2 with ⟨P2, ts2, ω8, ω9, z1, z2, z3, z4, z5, z6, z7, z8⟩ | ⟨F, ω8, ω9, z1, z2, z3, z4, z5, z6, z7⟩
        · refine Or.inl ⟨P2, ts ++ ((20000 + ch T L P) :: ts2), ω8, ω9, z1, z2, ?_, ?_, ?_, ?_, ((b8.tr r7).tr x3).tr z7, ((b9.tr r8).tr y3).tr z8⟩
          · have e : c ++ (ts ++ ((20000 + ch T L P) :: ts2)) = c ++ ts ++ [20000 + ch T L P] ++ ts2 := by simp
            rw [e]; exact z3
          · have e : c ++ (ts ++ ((20000 + ch T L P) :: ts2)) = c ++ ts ++ [20000 + ch T L P] ++ ts2 := by simp
            rw [e]; exact z4
          · rw [List.length_append, List.length_cons]; omega
          · intro h rest q
            obtain ⟨k1, k2, -⟩ := tokO_not o1
            rw [List.append_assoc]
            apply r6
            rw [List.cons_append, wfh_op (by rw [k1]; decide) k2, if_pos o1, Bool.and_eq_true]
            exact ⟨by simp, z6 h rest q⟩
        · exact Or.inr ⟨F, ω8, ω9, z1, z2, z3, z4, z5, ((b8.tr r7).tr x3).tr z6, ((b9.tr r8).tr y3).tr z7⟩
      · obtain ⟨n, rfl⟩ : ∃ n', n = n' + 1 := ⟨n - 1, by omega⟩
        refine Or.inr ⟨F, τ8, τ9, ?_, ?_, r3, r4, r5, b8.tr r6, b9.tr r7⟩
        · rw [r1, bind_s, if_neg (by simp)]
        · rw [r2, bind_s, lay_x r3 r5, bind_s, fl9 n F τ9 r3 r5]
theorem bal_L {ts ts2 : List Int32} (h : bal ts) (h2 : balL ts2) : bal (ts ++ ts2) := fun k rest q => by
  rw [List.append_assoc]
  exact h k _ (h2 k rest q)
/-- first one, then the loop -/
theorem first_S {T : Nat → Int32} {L u o : Nat} {s8 : Sto → Option (Bool × Sto)} {s9 : Sto → Option Sto} (hs : PS T L u o s8 s9) {l8 : Sto → Option (Bool × Sto)} {l9 : Sto → Option Sto} (hl : ∀ P c σ8 σ9, PC T L u P c σ8 → PF T L u o P c σ9 → RS balL T L u o P c σ8 σ9 (l8 σ8) (l9 σ9)) (fl9 : ∀ F σ, F ≤ 50 → σ.1 81 8 = nI F → l9 σ = some σ) :
    PS T L u o (fun σ => (s8 σ).bind (fun r => if r.1 = true then l8 r.2 else some (false, r.2))) (fun σ => (s9 σ).bind (fun τ => l9 τ)) := by
  intro P c σ8 σ9 h8 h9
  show RS bal T L u o P c σ8 σ9 ((s8 σ8).bind _) ((s9 σ9).bind _)
  rcases hs P c σ8 σ9 h8 h9 with ⟨P', ts, τ8, τ9, r1, r2, r3, r4, r5, r6, r7, r8⟩ | ⟨F, τ8, τ9, r1, r2, r3, r4, r5, r6, r7⟩
  · rw [r1, bind_s, if_pos rfl, r2, bind_s]
    rcases hl P' (c ++ ts) τ8 τ9 r3 r4 with ⟨P2, ts2, ω8, ω9, z1, z2, z3, z4, z5, z6, z7, z8⟩ | ⟨F, ω8, ω9, z1, z2, z3, z4, z5, z6, z7⟩
    · exact Or.inl ⟨P2, ts ++ ts2, ω8, ω9, z1, z2, by rw [← List.append_assoc]; exact z3, by rw [← List.append_assoc]; exact z4, by rw [List.length_append]; omega, bal_L r6 z6, r7.tr z7, r8.tr z8⟩
    · exact Or.inr ⟨F, ω8, ω9, z1, z2, z3, z4, z5, r7.tr z6, r8.tr z7⟩
  · refine Or.inr ⟨F, τ8, τ9, ?_, ?_, r3, r4, r5, r6, r7⟩
    · rw [r1, bind_s, if_neg (by simp)]
    · rw [r2, bind_s, fl9 F τ9 r3 r5]
