/-! What a law gives: its code worked out on a stack, by either. -/
def nmv (a b c : Int32) (k : Nat) : Int32 := if k = 0 then a else if k = 1 then b else c
def dnv (it x y : Int32) : Int32 := (f_X9_done (it - 20000) x y).getD 0
def tkv (a b c it : Int32) : Int32 := if it < 10000 then it else nmv a b c (it - 10000).toNatClampNeg
def evs (a b c : Int32) : List Int32 → List Int32 → List Int32
  | [], st => st
  | it :: r, st => if tokN it = true then evs a b c r (tkv a b c it :: st) else if it = 20033 then (match st with
      | x :: s => evs a b c r ((if x = 0 then 1 else 0) :: s)
      | [] => evs a b c r []) else (match st with
      | y :: x :: s => evs a b c r (dnv it x y :: s)
      | s => evs a b c r s)
theorem evs_tok {a b c it : Int32} {r st : List Int32} (ht : tokN it = true) : evs a b c (it :: r) st = evs a b c r (tkv a b c it :: st) := by simp [evs, ht]
theorem evs_33 {a b c x : Int32} {r s : List Int32} : evs a b c (20033 :: r) (x :: s) = evs a b c r ((if x = 0 then 1 else 0) :: s) := by
  have h : tokN 20033 = false := by decide
  simp [evs, h]
theorem evs_op {a b c it x y : Int32} {r s : List Int32} (ht : ¬ tokN it = true) (hn : ¬ it = 20033) : evs a b c (it :: r) (y :: x :: s) = evs a b c r (dnv it x y :: s) := by simp [evs, ht, hn]
theorem wfh_tok {it : Int32} {r : List Int32} {h : Nat} (ht : tokN it = true) : wfh (it :: r) h = wfh r (h + 1) := by simp [wfh, ht]
theorem wfh_33 {r : List Int32} {h : Nat} : wfh (20033 :: r) h = (decide (1 ≤ h) && wfh r h) := by
  have h : tokN 20033 = false := by decide
  simp [wfh, h]
theorem wfh_op {it : Int32} {r : List Int32} {h : Nat} (ht : ¬ tokN it = true) (hn : ¬ it = 20033) : wfh (it :: r) h = if tokO it = true then decide (2 ≤ h) && wfh r (h - 1) else false := by simp [wfh, ht, hn]
def Rp (f : Nat → Int32) : List Int32 → Prop
  | [] => True
  | x :: s => f s.length = x ∧ Rp f s
theorem Rp.congr {f g : Nat → Int32} : ∀ {s : List Int32}, Rp f s → (∀ q, q < s.length → g q = f q) → Rp g s := by
  intro s
  induction s with
  | nil => intro _ _; trivial
  | cons x s ih =>
    intro h hq
    obtain ⟨h1, h2⟩ := h
    exact ⟨(hq s.length (by simp)).trans h1, ih h2 (fun q hlt => hq q (by simp; omega))⟩
theorem done_some (s x y : Int32) : ∃ v, f_X9_done s x y = some v := by
  unfold f_X9_done f_X9_done_L92
  repeat' split
  all_goals exact ⟨_, rfl⟩
theorem done_dnv (it x y : Int32) : f_X9_done (it - 20000) x y = some (dnv it x y) := by
  obtain ⟨v, h⟩ := done_some (it - 20000) x y
  unfold dnv
  rw [h]
  rfl
theorem tokO_mem {it : Int32} (h : tokO it = true) : it = 20124 ∨ it = 20038 ∨ it = 20060 ∨ it = 20061 ∨ it = 20062 ∨ it = 20043 ∨ it = 20045 ∨ it = 20042 ∨ it = 20047 ∨ it = 20037 := by
  unfold tokO at h
  simpa using h
theorem joined_dnv {it : Int32} (h : tokO it = true) (x y : Int32) : f_X1_joined (cv8 it) x y = some (dnv it x y) := by
  rw [← done_dnv]
  rcases tokO_mem h with rfl | rfl | rfl | rfl | rfl | rfl | rfl | rfl | rfl | rfl
  · rw [show cv8 20124 = -124 by decide, show (20124 - 20000 : Int32) = 124 by decide]; unfold f_X1_joined f_X9_done; rfl
  · rw [show cv8 20038 = -38 by decide, show (20038 - 20000 : Int32) = 38 by decide]; unfold f_X1_joined f_X9_done; rfl
  · rw [show cv8 20060 = -60 by decide, show (20060 - 20000 : Int32) = 60 by decide]; unfold f_X1_joined f_X9_done; rfl
  · rw [show cv8 20061 = -61 by decide, show (20061 - 20000 : Int32) = 61 by decide]; unfold f_X1_joined f_X9_done; rfl
  · rw [show cv8 20062 = -62 by decide, show (20062 - 20000 : Int32) = 62 by decide]; unfold f_X1_joined f_X9_done; rfl
  · rw [show cv8 20043 = -43 by decide, show (20043 - 20000 : Int32) = 43 by decide]; unfold f_X1_joined f_X9_done; rfl
  · rw [show cv8 20045 = -45 by decide, show (20045 - 20000 : Int32) = 45 by decide]; unfold f_X1_joined f_X9_done; rfl
  · rw [show cv8 20042 = -42 by decide, show (20042 - 20000 : Int32) = 42 by decide]; unfold f_X1_joined f_X9_done; rfl
  · rw [show cv8 20047 = -47 by decide, show (20047 - 20000 : Int32) = 47 by decide]; unfold f_X1_joined f_X9_done; rfl
  · rw [show cv8 20037 = -37 by decide, show (20037 - 20000 : Int32) = 37 by decide]; unfold f_X1_joined f_X9_done; rfl
theorem tokN_nI {it : Int32} (h : tokN it = true) : ∃ t, t ≤ 10002 ∧ it = nI t := isO_nI (n := 10002) rfl (not_t h)
theorem tokO_not {it : Int32} (h : tokO it = true) : tokN it = false ∧ ¬ it = 20033 ∧ (20000 : Int32) ≤ it ∧ cv8 it ≤ -33 ∧ ¬ cv8 it = -33 := by
  rcases tokO_mem h with rfl | rfl | rfl | rfl | rfl | rfl | rfl | rfl | rfl | rfl <;> decide +kernel
theorem cv8_num {t : Nat} (h : t < 10000) : cv8 (nI t) = nI t := by
  unfold cv8
  rw [if_pos (show nI t < 10000 from nI_lt (b := 10000) h (by omega))]
theorem val_num {t : Nat} (h : t < 10000) (a b c : Int32) : f_X1_valueOf (nI t) a b c = some (nI t) ∧ ¬ nI t ≤ -33 := by
  have hp : 0 ≤ nI t := nI_pos' (by omega)
  have e0 : (0 : Int32).toInt = 0 := rfl
  have hp' : 0 ≤ (nI t).toInt := by rw [Int32.le_iff_toInt_le, e0] at hp; exact hp
  have ne : ∀ m : Int32, m.toInt < 0 → ¬ nI t = m := fun m hm z => by rw [z] at hp'; omega
  refine ⟨?_, fun z => ?_⟩
  · unfold f_X1_valueOf
    rw [if_neg (ne _ (by decide)), if_neg (ne _ (by decide)), if_neg (ne _ (by decide))]
  · rw [Int32.le_iff_toInt_le, show (-33 : Int32).toInt = -33 from rfl] at z
    omega
theorem val_tok {it : Int32} (h : tokN it = true) (a b c : Int32) : f_X1_valueOf (cv8 it) a b c = some (tkv a b c it) ∧ ¬ cv8 it ≤ -33 := by
  obtain ⟨t, ht, rfl⟩ := tokN_nI h
  by_cases h1 : t < 10000
  · rw [cv8_num h1]
    obtain ⟨q1, q2⟩ := val_num h1 a b c
    refine ⟨q1.trans ?_, q2⟩
    unfold tkv
    rw [if_pos (show nI t < 10000 from nI_lt (b := 10000) h1 (by omega))]
  · rcases (show t = 10000 ∨ t = 10001 ∨ t = 10002 by omega) with rfl | rfl | rfl
    · exact ⟨rfl, by decide +kernel⟩
    · exact ⟨rfl, by decide +kernel⟩
    · exact ⟨rfl, by decide +kernel⟩
theorem wo_A {k : Nat} (hk : k = 4 ∨ k = 7) : A0 k 1 = k + 1 ∧ A0 k 2 = k + 2 ∧ Ln0 (k + 1) = 50 ∧ Ln0 (k + 2) = 50 := by rcases hk with rfl | rfl <;> decide
theorem wo_L {k : Nat} (hk : k = 4 ∨ k = 7) (a b c : Int32) (m : Nat) (hm : m ≤ 50) : ∀ (R : List Int32) (n i : Nat) (st : List Int32) (σ : Sto), R.length < n → i + R.length = m → σ.1 k 3 = nI m → (∀ q, q < R.length → σ.1 (k + 1) (i + q) = cv8 (R.getD q 0)) → wfh R st.length = true → st.length ≤ i → Rp (σ.1 (k + 2)) st →
    ∃ v τ, f_X1_workOut_L6 k a b c n (nI st.length) (nI i) σ = some (v, τ) ∧ evs a b c R st = [v] ∧ ∀ x j, x ≠ k + 2 → τ.1 x j = σ.1 x j := by
  obtain ⟨A1, A2, L1, L2⟩ := wo_A hk
  intro R
  induction R with
  | nil =>
    intro n i st σ h1 h2 h3 h4 h5 h6 h7
    obtain ⟨n, rfl⟩ : ∃ n', n = n' + 1 := ⟨n - 1, by simp at h1; omega⟩
    have hl : st.length = 1 := by simpa [wfh] using h5
    obtain ⟨x, rfl⟩ : ∃ x, st = [x] := by
      match st, hl with
      | [x], _ => exact ⟨x, rfl⟩
    have him : i = m := by simpa using h2
    refine ⟨x, σ, ?_, rfl, fun _ _ _ => rfl⟩
    rw [f_X1_workOut_L6, h3, if_pos (by rw [him]; exact nI_le (Nat.le_refl _) (by omega)), A2, show (0 : Int32) = nI 0 from rfl, rd_nI (by rw [L2]; omega), bind_s, show σ.1 (k + 2) 0 = x from h7.1]
  | cons it R ih =>
    intro n i st σ h1 h2 h3 h4 h5 h6 h7
    obtain ⟨n, rfl⟩ : ∃ n', n = n' + 1 := ⟨n - 1, by simp at h1; omega⟩
    simp only [List.length_cons] at h1 h2 h4
    have hrow : σ.1 (k + 1) i = cv8 it := by have := h4 0 (by omega); simpa using this
    have hrow' : ∀ q, q < R.length → σ.1 (k + 1) (i + 1 + q) = cv8 (R.getD q 0) := fun q hq => by
      have := h4 (q + 1) (by omega)
      rw [show i + (q + 1) = i + 1 + q by omega] at this
      simpa using this
    have g1 : ¬ nI m ≤ nI i := nI_ge (by omega) (by omega)
    have g2 : ¬ (50 : Int32) ≤ nI i := nI_ge (b := 50) (by omega) (by omega)
    rw [f_X1_workOut_L6, h3, if_neg g1, if_neg g2, A1, A2, rd_nI (by rw [L1]; omega), bind_s, hrow]
    unfold f_X1_workOut_L110 f_X1_workOut_L153
    by_cases ht : tokN it = true
    · obtain ⟨v1, v2⟩ := val_tok ht a b c
      rw [wfh_tok ht] at h5
      rw [if_neg v2, if_neg (show ¬ (50 : Int32) ≤ nI st.length from nI_ge (b := 50) (by omega) (by omega)), v1, bind_s, wr_nI (by rw [L2]; omega), bind_s, nI_1, nI_1]
      obtain ⟨v, τ, e1, e2, e3⟩ := ih n (i + 1) (tkv a b c it :: st) (sI σ (k + 2) st.length (tkv a b c it)) (by omega) (by omega) (by rw [sI_ne (by omega)]; exact h3) (fun q hq => by rw [sI_ne (by omega)]; exact hrow' q hq) h5 (by simp; omega) ⟨by rw [sI_at, if_pos rfl], h7.congr (fun q hq => by rw [sI_at, if_neg (by omega)])⟩
      refine ⟨v, τ, e1, ?_, fun x j hx => by rw [e3 x j hx, sI_ne hx]⟩
      rw [evs_tok ht]
      exact e2
    · by_cases hn : it = 20033
      · subst hn
        rw [wfh_33, Bool.and_eq_true, decide_eq_true_eq] at h5
        obtain ⟨x, s, rfl⟩ : ∃ x s, st = x :: s := by
          cases st with
          | nil => simp at h5
          | cons x s => exact ⟨x, s, rfl⟩
        have hlen : (x :: s).length = s.length + 1 := rfl
        rw [if_pos (by decide), if_pos (by decide), hlen, if_neg (show ¬ nI (s.length + 1) < 1 from nI_nlt (b := 1) (by omega) (by simp at h6; omega)), nI_pred, rd_nI (by rw [L2]; simp at h6; omega), bind_s, show σ.1 (k + 2) s.length = x from h7.1]
        have step : ∀ y : Int32, (∃ v τ, f_X1_workOut_L6 k a b c n (nI (s.length + 1)) (nI (i + 1)) (sI σ (k + 2) s.length y) = some (v, τ) ∧ evs a b c R (y :: s) = [v] ∧ ∀ x j, x ≠ k + 2 → τ.1 x j = σ.1 x j) := by
          intro y
          obtain ⟨v, τ, e1, e2, e3⟩ := ih n (i + 1) (y :: s) (sI σ (k + 2) s.length y) (by omega) (by omega) (by rw [sI_ne (by omega)]; exact h3) (fun q hq => by rw [sI_ne (by omega)]; exact hrow' q hq) h5.2 (by simp at h6 ⊢; omega) ⟨by rw [sI_at, if_pos rfl], h7.2.congr (fun q hq => by rw [sI_at, if_neg (by omega)])⟩
          exact ⟨v, τ, e1, e2, fun x j hx => by rw [e3 x j hx, sI_ne hx]⟩
        by_cases hx0 : x = 0
        · rw [if_pos hx0, wr_nI (by rw [L2]; simp at h6; omega), bind_s, nI_1]
          obtain ⟨v, τ, e1, e2, e3⟩ := step 1
          exact ⟨v, τ, e1, by rw [evs_33, if_pos hx0]; exact e2, e3⟩
        · rw [if_neg hx0, wr_nI (by rw [L2]; simp at h6; omega), bind_s, nI_1]
          obtain ⟨v, τ, e1, e2, e3⟩ := step 0
          exact ⟨v, τ, e1, by rw [evs_33, if_neg hx0]; exact e2, e3⟩
      · rw [wfh_op ht hn] at h5
        by_cases ho : tokO it = true
        · rw [if_pos ho, Bool.and_eq_true, decide_eq_true_eq] at h5
          obtain ⟨-, -, -, c1, c2⟩ := tokO_not ho
          obtain ⟨y, x, s, rfl⟩ : ∃ y x s, st = y :: x :: s := by
            match st, h5.1 with
            | y :: x :: s, _ => exact ⟨y, x, s, rfl⟩
          have hlen : (y :: x :: s).length = s.length + 2 := rfl
          simp only [hlen] at h6
          have p1 : (nI (s.length + 2) + -1 : Int32) = nI (s.length + 1) := by
            rw [← Int32.sub_eq_add_neg]
            exact nI_pred (s.length + 1)
          rw [if_pos c1, if_neg c2, hlen, if_neg (show ¬ nI (s.length + 2) < 2 from nI_nlt (b := 2) (by omega) (by omega)), p1, nI_pred, rd_nI (by rw [L2]; omega), bind_s, rd_nI (by rw [L2]; omega), bind_s, show σ.1 (k + 2) s.length = x from h7.2.1, show σ.1 (k + 2) (s.length + 1) = y from h7.1, joined_dnv ho, bind_s, wr_nI (by rw [L2]; omega), bind_s, nI_1]
          obtain ⟨v, τ, e1, e2, e3⟩ := ih n (i + 1) (dnv it x y :: s) (sI σ (k + 2) s.length (dnv it x y)) (by omega) (by omega) (by rw [sI_ne (by omega)]; exact h3) (fun q hq => by rw [sI_ne (by omega)]; exact hrow' q hq) h5.2 (by simp; omega) ⟨by rw [sI_at, if_pos rfl], h7.2.2.congr (fun q hq => by rw [sI_at, if_neg (by omega)])⟩
          exact ⟨v, τ, e1, by rw [evs_op ht hn]; exact e2, fun x j hx => by rw [e3 x j hx, sI_ne hx]⟩
        · rw [if_neg ho] at h5
          cases h5
theorem wk_L (a b c : Int32) (B m : Nat) (hB : B + m ≤ 270) (hm : m ≤ 50) : ∀ (R : List Int32) (n i : Nat) (st : List Int32) (σ : Sto), R.length < n → i + R.length = m → (∀ q, q < R.length → σ.1 82 (B + i + q) = R.getD q 0) → wfh R st.length = true → st.length ≤ i → Rp (σ.1 88) st → σ.1 86 0 = a → σ.1 86 1 = b → σ.1 86 2 = c →
    ∃ v τ, f_X9_worked_L5 (nI B) (nI m) n (nI st.length) (nI (B + i)) σ = some (v, τ) ∧ evs a b c R st = [v] ∧ ∀ x j, x ≠ 88 → τ.1 x j = σ.1 x j := by
  intro R
  induction R with
  | nil =>
    intro n i st σ h1 h2 h4 h5 h6 h7 n0 n1 n2
    obtain ⟨n, rfl⟩ : ∃ n', n = n' + 1 := ⟨n - 1, by simp at h1; omega⟩
    have hl : st.length = 1 := by simpa [wfh] using h5
    obtain ⟨x, rfl⟩ : ∃ x, st = [x] := by
      match st, hl with
      | [x], _ => exact ⟨x, rfl⟩
    have him : i = m := by simpa using h2
    refine ⟨x, σ, ?_, rfl, fun _ _ _ => rfl⟩
    rw [f_X9_worked_L5, nI_add, if_pos (by rw [him]; exact nI_le (Nat.le_refl _) (by omega)), rdA_88_0, bind_s, show σ.1 88 0 = x from h7.1]
  | cons it R ih =>
    intro n i st σ h1 h2 h4 h5 h6 h7 n0 n1 n2
    obtain ⟨n, rfl⟩ : ∃ n', n = n' + 1 := ⟨n - 1, by simp at h1; omega⟩
    simp only [List.length_cons] at h1 h2 h4
    have hrow : σ.1 82 (B + i) = it := by have := h4 0 (by omega); simpa using this
    have hrow' : ∀ q, q < R.length → σ.1 82 (B + (i + 1) + q) = R.getD q 0 := fun q hq => by
      have := h4 (q + 1) (by omega)
      rw [show B + i + (q + 1) = B + (i + 1) + q by omega] at this
      simpa using this
    have g1 : ¬ nI B + nI m ≤ nI (B + i) := by rw [nI_add]; exact nI_ge (by omega) (by omega)
    have e1' : (nI (B + i) + 1 : Int32) = nI (B + (i + 1)) := nI_1 _
    rw [f_X9_worked_L5, if_neg g1, rd_nI (by show B + i < 270; omega), bind_s, hrow]
    unfold f_X9_worked_L97 f_X9_worked_L59 f_X9_worked_L135
    rw [e1']
    by_cases ht : tokN it = true
    · rw [wfh_tok ht] at h5
      obtain ⟨t, ht2, rfl⟩ := tokN_nI ht
      have push : ∃ v τ, ((wrA σ 88 (nI st.length) (tkv a b c (nI t))).bind fun σ59 => f_X9_worked_L5 (nI B) (nI m) n (nI st.length + 1) (nI (B + (i + 1))) σ59) = some (v, τ) ∧ evs a b c (nI t :: R) st = [v] ∧ ∀ x j, x ≠ 88 → τ.1 x j = σ.1 x j := by
        rw [wr_nI (by show st.length < 60; omega), bind_s, nI_1]
        obtain ⟨v, τ, e1, e2, e3⟩ := ih n (i + 1) (tkv a b c (nI t) :: st) (sI σ 88 st.length (tkv a b c (nI t))) (by omega) (by omega) (fun q hq => by rw [sI_ne (by omega)]; exact hrow' q hq) h5 (by simp; omega) ⟨by rw [sI_at, if_pos rfl], h7.congr (fun q hq => by rw [sI_at, if_neg (by omega)])⟩ (by rw [sI_ne (by decide)]; exact n0) (by rw [sI_ne (by decide)]; exact n1) (by rw [sI_ne (by decide)]; exact n2)
        exact ⟨v, τ, e1, by rw [evs_tok ht]; exact e2, fun x j hx => by rw [e3 x j hx, sI_ne hx]⟩
      rw [if_neg (show ¬ (20000 : Int32) ≤ nI t from nI_ge (b := 20000) (by omega) (by omega))]
      by_cases h1 : t < 10000
      · rw [if_neg (show ¬ (10000 : Int32) ≤ nI t from nI_ge (b := 10000) (by omega) (by omega))]
        have et : tkv a b c (nI t) = nI t := by unfold tkv; rw [if_pos (show nI t < 10000 from nI_lt (b := 10000) h1 (by omega))]
        rw [et] at push
        exact push
      · rw [if_pos (show (10000 : Int32) ≤ nI t from nI_le (a := 10000) (by omega) (by omega))]
        rcases (show t = 10000 ∨ t = 10001 ∨ t = 10002 by omega) with rfl | rfl | rfl
        · rw [show (nI 10000 - 10000 : Int32) = nI 0 from rfl, rd_nI (by decide), bind_s, n0]; exact push
        · rw [show (nI 10001 - 10000 : Int32) = nI 1 from rfl, rd_nI (by decide), bind_s, n1]; exact push
        · rw [show (nI 10002 - 10000 : Int32) = nI 2 from rfl, rd_nI (by decide), bind_s, n2]; exact push
    · by_cases hn : it = 20033
      · subst hn
        rw [wfh_33, Bool.and_eq_true, decide_eq_true_eq] at h5
        obtain ⟨x, s, rfl⟩ : ∃ x s, st = x :: s := by
          cases st with
          | nil => simp at h5
          | cons x s => exact ⟨x, s, rfl⟩
        have hlen : (x :: s).length = s.length + 1 := rfl
        simp only [hlen] at h6
        rw [if_pos (by decide), if_pos (by decide), hlen, nI_pred, rd_nI (by show s.length < 60; omega), bind_s, show σ.1 88 s.length = x from h7.1]
        have step : ∀ y : Int32, (∃ v τ, f_X9_worked_L5 (nI B) (nI m) n (nI (s.length + 1)) (nI (B + (i + 1))) (sI σ 88 s.length y) = some (v, τ) ∧ evs a b c R (y :: s) = [v] ∧ ∀ x j, x ≠ 88 → τ.1 x j = σ.1 x j) := by
          intro y
          obtain ⟨v, τ, e1, e2, e3⟩ := ih n (i + 1) (y :: s) (sI σ 88 s.length y) (by omega) (by omega) (fun q hq => by rw [sI_ne (by omega)]; exact hrow' q hq) h5.2 (by simp; omega) ⟨by rw [sI_at, if_pos rfl], h7.2.congr (fun q hq => by rw [sI_at, if_neg (by omega)])⟩ (by rw [sI_ne (by decide)]; exact n0) (by rw [sI_ne (by decide)]; exact n1) (by rw [sI_ne (by decide)]; exact n2)
          exact ⟨v, τ, e1, e2, fun x j hx => by rw [e3 x j hx, sI_ne hx]⟩
        by_cases hx0 : x = 0
        · rw [if_pos hx0, wr_nI (by show s.length < 60; omega), bind_s]
          obtain ⟨v, τ, e1, e2, e3⟩ := step 1
          exact ⟨v, τ, e1, by rw [evs_33, if_pos hx0]; exact e2, e3⟩
        · rw [if_neg hx0, wr_nI (by show s.length < 60; omega), bind_s]
          obtain ⟨v, τ, e1, e2, e3⟩ := step 0
          exact ⟨v, τ, e1, by rw [evs_33, if_neg hx0]; exact e2, e3⟩
      · rw [wfh_op ht hn] at h5
        by_cases ho : tokO it = true
        · rw [if_pos ho, Bool.and_eq_true, decide_eq_true_eq] at h5
          obtain ⟨-, -, c0, -, -⟩ := tokO_not ho
          obtain ⟨y, x, s, rfl⟩ : ∃ y x s, st = y :: x :: s := by
            match st, h5.1 with
            | y :: x :: s, _ => exact ⟨y, x, s, rfl⟩
          have hlen : (y :: x :: s).length = s.length + 2 := rfl
          simp only [hlen] at h6
          have p1 : (nI (s.length + 2) + -1 : Int32) = nI (s.length + 1) := by
            rw [← Int32.sub_eq_add_neg]
            exact nI_pred (s.length + 1)
          rw [if_pos c0, if_neg hn, hlen, p1, nI_pred, rd_nI (by show s.length < 60; omega), bind_s, rd_nI (by show s.length + 1 < 60; omega), bind_s, show σ.1 88 s.length = x from h7.2.1, show σ.1 88 (s.length + 1) = y from h7.1, done_dnv, bind_s, wr_nI (by show s.length < 60; omega), bind_s]
          obtain ⟨v, τ, e1, e2, e3⟩ := ih n (i + 1) (dnv it x y :: s) (sI σ 88 s.length (dnv it x y)) (by omega) (by omega) (fun q hq => by rw [sI_ne (by omega)]; exact hrow' q hq) h5.2 (by simp; omega) ⟨by rw [sI_at, if_pos rfl], h7.2.2.congr (fun q hq => by rw [sI_at, if_neg (by omega)])⟩ (by rw [sI_ne (by decide)]; exact n0) (by rw [sI_ne (by decide)]; exact n1) (by rw [sI_ne (by decide)]; exact n2)
          exact ⟨v, τ, e1, by rw [evs_op ht hn]; exact e2, fun x j hx => by rw [e3 x j hx, sI_ne hx]⟩
        · rw [if_neg ho] at h5
          cases h5
/-- what a use gives, by the row V -/
def gvr (V : Nat → Int32) (u : Nat) (a b c : Int32) : Int32 := if V (88 + u) ≤ 0 then (if u = 0 then a + 2 * b else a / 12) else (evs a b c (codeL V u (V (88 + u)).toNatClampNeg) []).headD 0
def gv (V : Nat → Int32) (u : Nat) (a b c : Int32) : Int32 := if u = 0 then imax (-30) (imin 30 (gvr V u a b c)) else imax 0 (imin 100 (gvr V u a b c))
/-- what the reference's working out stands on -/
def CW (V : Nat → Int32) (u : Nat) : Prop := ∃ n, n ≤ 50 ∧ V (88 + u) = nI n ∧ (n = 0 ∨ wfh (codeL V u n) 0 = true)
theorem CD.cw {k A u : Nat} {σ : Sto} (h : CD k A u σ) : CW (σ.1 A) u := by
  obtain ⟨n, q1, -, q3, -, q5⟩ := h
  exact ⟨n, q1, q3, q5⟩
theorem codeL_len {V : Nat → Int32} {u n : Nat} : (codeL V u n).length = n := by simp [codeL]
theorem codeL_at {V : Nat → Int32} {u n q : Nat} (h : q < n) : (codeL V u n).getD q 0 = V (110 + 50 * u + q) := by simp [codeL, List.getD_eq_getElem?_getD, h]
theorem gvr_some {V : Nat → Int32} {u n : Nat} (h0 : n ≠ 0) (hn : n ≤ 50) (e : V (88 + u) = nI n) (a b c v : Int32) (hv : evs a b c (codeL V u n) [] = [v]) : gvr V u a b c = v := by
  unfold gvr
  rw [e, if_neg (nI_nle (by omega) (by omega)), nI_clamp (by omega), hv]
  rfl
theorem give8 {σ : Sto} {k u : Nat} (hk : k = 4 ∧ u = 0 ∧ σ.1 4 0 = 0 ∨ k = 7 ∧ u = 1 ∧ σ.1 7 0 = 1) (h : CD k 82 u σ) (a b c : Int32) : ∃ τ, f_X1_give σ k a b c = some (gv (σ.1 82) u a b c, τ) ∧ ∀ x j, x ≠ k + 2 → τ.1 x j = σ.1 x j := by
  obtain ⟨n, q1, q2, q3, q4, q5⟩ := h
  have hk2 : k = 4 ∨ k = 7 := by omega
  have raw : ∃ τ, (if σ.1 k 3 ≤ 0 then some ((if u = 0 then a + 2 * b else a / 12), σ) else f_X1_workOut σ k a b c) = some (gvr (σ.1 82) u a b c, τ) ∧ ∀ x j, x ≠ k + 2 → τ.1 x j = σ.1 x j := by
    by_cases h0 : n = 0
    · subst h0
      refine ⟨σ, ?_, fun _ _ _ => rfl⟩
      rw [q2, if_pos (show (nI 0 : Int32) ≤ 0 by decide)]
      unfold gvr
      rw [q3, if_pos (show (nI 0 : Int32) ≤ 0 by decide)]
    · have hw := q5.resolve_left h0
      obtain ⟨v, τ, e1, e2, e3⟩ := wo_L hk2 a b c n q1 (codeL (σ.1 82) u n) FU 0 [] σ (by rw [codeL_len]; unfold FU; omega) (by rw [codeL_len]; omega) q2 (fun q hq => by
        rw [codeL_len] at hq
        rw [Nat.zero_add, q4 q hq, codeL_at hq]) hw (Nat.le_refl _) trivial
      refine ⟨τ, ?_, e3⟩
      rw [q2, if_neg (nI_nle (by omega) (by omega)), gvr_some h0 q1 q3 a b c v e2]
      exact e1
  obtain ⟨τ, t1, t2⟩ := raw
  refine ⟨τ, ?_, t2⟩
  unfold f_X1_give f_X8_heldWithin gv
  rcases hk with ⟨rfl, rfl, hu⟩ | ⟨rfl, rfl, hu⟩
  · rw [if_pos hu, if_pos rfl]
    by_cases h0 : σ.1 4 3 ≤ 0
    · rw [if_pos h0] at t1 ⊢
      rw [if_pos rfl] at t1
      obtain ⟨z1, z2⟩ := Prod.mk.inj (Option.some.inj t1)
      rw [bind_s, z1, z2]
    · rw [if_neg h0] at t1 ⊢
      rw [t1, bind_s, bind_s]
  · have hu' : ¬ σ.1 7 0 = 0 := by rw [hu]; decide
    rw [if_neg hu', if_neg (show ¬ (1 : Nat) = 0 by decide)]
    by_cases h0 : σ.1 7 3 ≤ 0
    · rw [if_pos h0] at t1 ⊢
      rw [if_neg (show ¬ (1 : Nat) = 0 by decide)] at t1
      obtain ⟨z1, z2⟩ := Prod.mk.inj (Option.some.inj t1)
      rw [bind_s, z1, z2]
    · rw [if_neg h0] at t1 ⊢
      rw [t1, bind_s, bind_s]
theorem give9 {σ : Sto} {u : Nat} (hu : u = 0 ∨ u = 1) (h : CW (σ.1 82) u) (a b c : Int32) : ∃ τ, f_X9_gives σ (nI u) a b c = some (gv (σ.1 82) u a b c, τ) ∧ ∀ x j, x ≠ 86 → x ≠ 88 → τ.1 x j = σ.1 x j := by
  obtain ⟨n, q1, q3, q5⟩ := h
  have e88 : (88 + nI u : Int32) = nI (88 + u) := nI_add 88 u
  have fin : ∀ (r : Int32) (τ : Sto), r = gvr (σ.1 82) u a b c → f_X9_gives_L74 (nI u) r τ = some (gv (σ.1 82) u a b c, τ) := by
    intro r τ hr
    subst hr
    unfold f_X9_gives_L74 gv
    rcases hu with rfl | rfl
    · rw [if_pos (by decide), if_pos rfl, held_eq _ _ _ (by decide), bind_s]
    · rw [if_neg (by decide), if_neg (by decide), held_eq _ _ _ (by decide), bind_s]
  have L16 : ∀ vs0 : Int32, vs0 = (if u = 0 then a + 2 * b else a / 12) → ∃ τ, f_X9_gives_L16 (nI u) a b c vs0 σ = some (gv (σ.1 82) u a b c, τ) ∧ ∀ x j, x ≠ 86 → x ≠ 88 → τ.1 x j = σ.1 x j := by
    intro vs0 hv
    unfold f_X9_gives_L16
    rw [e88, rd_nI (by show 88 + u < 270; omega), bind_s, q3]
    by_cases h0 : n = 0
    · subst h0
      rw [if_pos (show (nI 0 : Int32) ≤ 0 by decide)]
      refine ⟨σ, fin _ _ ?_, fun _ _ _ _ => rfl⟩
      rw [hv]
      unfold gvr
      rw [q3, if_pos (show (nI 0 : Int32) ≤ 0 by decide)]
    · rw [if_neg (nI_nle (by omega) (by omega)), wrA_86_0, bind_s, wrA_86_1, bind_s, wrA_86_2, bind_s, rd_nI (by show 88 + u < 270; omega), bind_s]
      generalize hω : sI (sI (sI σ 86 0 a) 86 1 b) 86 2 c = ω
      have w82 : ω.1 82 = σ.1 82 := by rw [← hω]; funext j; rw [sI_ne (by decide), sI_ne (by decide), sI_ne (by decide)]
      have eb : (110 + 50 * nI u : Int32) = nI (110 + 50 * u) := by rcases hu with rfl | rfl <;> rfl
      obtain ⟨v, τ, e1, e2, e3⟩ := wk_L a b c (110 + 50 * u) n (by omega) q1 (codeL (σ.1 82) u n) FU 0 [] ω (by rw [codeL_len]; unfold FU; omega) (by rw [codeL_len]; omega) (fun q hq => by
        rw [codeL_len] at hq
        rw [w82, codeL_at hq, Nat.add_zero]) (q5.resolve_left h0) (Nat.le_refl _) trivial (by rw [← hω]; rfl) (by rw [← hω]; rfl) (by rw [← hω]; rfl)
      rw [w82, q3, eb]
      unfold f_X9_worked
      rw [show f_X9_worked_L5 (nI (110 + 50 * u)) (nI n) FU 0 (nI (110 + 50 * u)) ω = some (v, τ) from e1, bind_s]
      refine ⟨τ, fin _ _ (gvr_some h0 q1 q3 a b c v e2).symm, fun x j h1 h2 => ?_⟩
      rw [e3 x j h2, ← hω, sI_ne h1, sI_ne h1, sI_ne h1]
  unfold f_X9_gives
  rcases hu with rfl | rfl
  · rw [if_pos (by decide)]; exact L16 _ rfl
  · rw [if_neg (by decide)]; exact L16 _ rfl
theorem Iw.cd {σ : Sto} (h : Iw σ) : CD 4 82 0 σ ∧ CD 7 82 1 σ := ⟨h.1.2.2.2.2.2.2.1, h.1.2.2.2.2.2.2.2⟩
/-- what the class's laws and flows stand on -/
def Ic (σ : Sto) : Prop := (∀ i, i < 6 → σ.1 2 i = σ.1 82 i) ∧ CD 4 82 0 σ ∧ CD 7 82 1 σ ∧ US σ
theorem Iw.ic {σ : Sto} (h : Iw σ) : Ic σ := ⟨h.1.1, h.cd.1, h.cd.2, h.2.2.2.2.2⟩
theorem Ic.keep {σ τ : Sto} (h : Ic σ) (hf : ∀ k j, k = 2 ∨ k = 4 ∨ k = 5 ∨ k = 7 ∨ k = 8 ∨ k = 82 → τ.1 k j = σ.1 k j) : Ic τ := by
  obtain ⟨h1, h2, h3, h4⟩ := h
  have d : τ.1 82 = σ.1 82 := funext fun j => hf 82 j (by omega)
  exact ⟨fun i hi => by rw [hf 2 i (by omega), hf 82 i (by omega)]; exact h1 i hi, h2.keep (fun j => hf 4 j (by omega)) (fun j => hf 5 j (by omega)) d, h3.keep (fun j => hf 7 j (by omega)) (fun j => hf 8 j (by omega)) d, by unfold US; rw [hf 4 0 (by omega), hf 7 0 (by omega)]; exact h4⟩
theorem Ic.fr {σ τ : Sto} (h : Ic σ) (hf : Fr σ τ) : Ic τ := h.keep (fun k j hk => hf k j (by rcases hk with rfl | rfl | rfl | rfl | rfl | rfl <;> simp [scr]))
theorem g8f {σ : Sto} (h : Ic σ) (a b c : Int32) : ∃ τ, f_X1_give σ 4 a b c = some (gv (σ.1 82) 0 a b c, τ) ∧ Fr σ τ ∧ ∀ x j, x ≠ 6 → τ.1 x j = σ.1 x j := by
  obtain ⟨τ, t1, t2⟩ := give8 (Or.inl ⟨rfl, rfl, h.2.2.2.1⟩) h.2.1 a b c
  exact ⟨τ, t1, fun k j hs => t2 k j (by rintro rfl; simp [scr] at hs), t2⟩
theorem g8c {σ : Sto} (h : Ic σ) (a b c : Int32) : ∃ τ, f_X1_give σ 7 a b c = some (gv (σ.1 82) 1 a b c, τ) ∧ Fr σ τ ∧ ∀ x j, x ≠ 9 → τ.1 x j = σ.1 x j := by
  obtain ⟨τ, t1, t2⟩ := give8 (Or.inr ⟨rfl, rfl, h.2.2.2.2⟩) h.2.2.1 a b c
  exact ⟨τ, t1, fun k j hs => t2 k j (by rintro rfl; simp [scr] at hs), t2⟩
theorem g9 {σ : Sto} {u : Nat} (hu : u = 0 ∨ u = 1) (h : CW (σ.1 82) u) (a b c : Int32) : ∃ τ, f_X9_gives σ (nI u) a b c = some (gv (σ.1 82) u a b c, τ) ∧ Fr σ τ ∧ ∀ x j, x ≠ 86 → x ≠ 88 → τ.1 x j = σ.1 x j := by
  obtain ⟨τ, t1, t2⟩ := give9 hu h a b c
  exact ⟨τ, t1, fun k j hs => t2 k j (by rintro rfl; simp [scr] at hs) (by rintro rfl; simp [scr] at hs), t2⟩
