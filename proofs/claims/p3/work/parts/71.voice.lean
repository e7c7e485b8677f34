/-! The voices: both run the same bodies in the same order. -/
def body (k m : Nat) : Nat := if m = 0 then (if k = 2 ∨ k = 5 then 30 else 10) else if m = 1 then (if k = 1 then 20 else if k = 4 then 50 else 11) else if m = 2 then (if k = 3 then 40 else if k = 6 then 70 else 12) else (if k = 5 then 60 else if k = 6 then 71 else 13)
theorem body8 (σ : Sto) : ∀ k, k ≤ 6 → ∀ m, m ≤ 3 → f_X7_bodyOf σ (nI k) (nI m) = some (nI (body k m)) := by
  intro k hk m hm
  rcases (show k = 0 ∨ k = 1 ∨ k = 2 ∨ k = 3 ∨ k = 4 ∨ k = 5 ∨ k = 6 by omega) with rfl | rfl | rfl | rfl | rfl | rfl | rfl <;> rcases (show m = 0 ∨ m = 1 ∨ m = 2 ∨ m = 3 by omega) with rfl | rfl | rfl | rfl <;> rfl
def vs (o : Nat) (num par : Int32) : Nat → Nat → Nat → Int32 → Int32 × List Int32
  | 0, _, _, _ => (0, [])
  | f + 1, k, m, x =>
    if body k m = 10 then (x + num, [10])
    else if body k m = 11 then ((vs o num par f o 0 x).1 * 2, 11 :: (vs o num par f o 0 x).2)
    else if body k m = 12 then (x - par, [12])
    else if body k m = 13 then ((vs o num par f o 1 x).1 ^^^ (vs o num par f o 2 x).1, 13 :: ((vs o num par f o 1 x).2 ++ (vs o num par f o 2 x).2))
    else if body k m = 20 then ((vs o num par f 0 1 x).1 - (vs o num par f o 2 1).1, 20 :: ((vs o num par f 0 1 x).2 ++ (vs o num par f o 2 1).2))
    else if body k m = 30 then ((vs o num par f 0 0 x).1 * 3, 30 :: (vs o num par f 0 0 x).2)
    else if body k m = 40 then (-(vs o num par f 0 2 x).1, 40 :: (vs o num par f 0 2 x).2)
    else if body k m = 50 then ((vs o num par f 1 1 (x + 1)).1, 50 :: (vs o num par f 1 1 (x + 1)).2)
    else if body k m = 60 then ((vs o num par f 2 3 x).1 - (vs o num par f o 0 2).1, 60 :: ((vs o num par f 2 3 x).2 ++ (vs o num par f o 0 2).2))
    else if body k m = 70 then ((vs o num par f 3 2 x).1 ^^^ num, 70 :: (vs o num par f 3 2 x).2)
    else ((vs o num par f o 1 x).1 - (vs o num par f 3 3 x).1, 71 :: ((vs o num par f o 1 x).2 ++ (vs o num par f 3 3 x).2))
/-- is the fuel enough? -/
def vok (o : Nat) : Nat → Nat → Nat → Bool
  | 0, _, _ => false
  | f + 1, k, m =>
    if body k m = 10 then true
    else if body k m = 11 then vok o f o 0
    else if body k m = 12 then true
    else if body k m = 13 then vok o f o 1 && vok o f o 2
    else if body k m = 20 then vok o f 0 1 && vok o f o 2
    else if body k m = 30 then vok o f 0 0
    else if body k m = 40 then vok o f 0 2
    else if body k m = 50 then vok o f 1 1
    else if body k m = 60 then vok o f 2 3 && vok o f o 0
    else if body k m = 70 then vok o f 3 2
    else vok o f o 1 && vok o f 3 3
theorem vok_all : ∀ o, o < 7 → ∀ m, m < 4 → vok o 12 o m = true := by decide +kernel
def nt8 (σ : Sto) (v : Int32) : Sto := if (40 : Int32) ≤ σ.1 65 1 then σ else sI (sI σ 66 (σ.1 65 1).toNatClampNeg v) 65 1 (σ.1 65 1 + 1)
def Q8 (o : Nat) (num par : Int32) (σ : Sto) : Prop := (∃ n, n ≤ 40 ∧ σ.1 65 1 = nI n) ∧ σ.1 65 2 = nI o ∧ σ.1 65 3 = num ∧ σ.1 65 4 = par
theorem Q8.nt {o : Nat} {num par : Int32} {σ : Sto} (h : Q8 o num par σ) (v : Int32) : Q8 o num par (nt8 σ v) := by
  obtain ⟨⟨n, hn, e⟩, h2, h3, h4⟩ := h
  unfold nt8
  rw [e]
  by_cases hc : (40 : Int32) ≤ nI n
  · rw [if_pos hc]; exact ⟨⟨n, hn, e⟩, h2, h3, h4⟩
  · rw [if_neg hc, nI_1]
    have hn' : n < 40 := by
      rcases (show n = 40 ∨ n < 40 by omega) with rfl | h'
      · exact absurd (by decide) hc
      · exact h'
    exact ⟨⟨n + 1, by omega, by rw [sI_at, if_pos rfl]⟩, by rw [sI_nj (by decide), sI_ne (by decide)]; exact h2, by rw [sI_nj (by decide), sI_ne (by decide)]; exact h3, by rw [sI_nj (by decide), sI_ne (by decide)]; exact h4⟩
theorem Q8.fold {o : Nat} {num par : Int32} : ∀ (l : List Int32) {σ : Sto}, Q8 o num par σ → Q8 o num par (l.foldl nt8 σ) := by
  intro l
  induction l with
  | nil => intro σ h; exact h
  | cons v l ih => intro σ h; exact ih (h.nt v)
theorem note8 {o : Nat} {num par : Int32} {σ : Sto} (h : Q8 o num par σ) (v : Int32) : f_X7_note σ v = some (nt8 σ v) := by
  obtain ⟨⟨n, hn, e⟩, -⟩ := h
  unfold f_X7_note nt8
  rw [e]
  by_cases hc : (40 : Int32) ≤ nI n
  · rw [if_pos hc, if_pos hc]
  · have hn' : n < 40 := by
      rcases (show n = 40 ∨ n < 40 by omega) with rfl | h'
      · exact absurd (by decide) hc
      · exact h'
    rw [if_neg hc, if_neg hc, wr_nI (by show n < 40; exact hn'), bind_s, lp_b, sI_ne (by decide), e, nI_clamp (by omega)]
theorem say8 {o : Nat} (ho : o ≤ 6) {num par : Int32} : ∀ (f d k m a : Nat) (x : Int32) (σ : Sto), k ≤ 6 → m ≤ 3 → vok o f k m = true → f ≤ d → a + f ≤ 41 → Q8 o num par σ → g_X7_say d 0 (nI k) (nI m) x (nI a) σ = some ((vs o num par f k m x).1, (vs o num par f k m x).2.foldl nt8 σ) := by
  intro f
  induction f with
  | zero => intro d k m a x σ _ _ h; cases h
  | succ f ih =>
    intro d k m a x σ hk hm hv hd ha h
    obtain ⟨d, rfl⟩ : ∃ d', d = d' + 1 := ⟨d - 1, by omega⟩
    have hn := h.nt (nI (body k m))
    have rc : ∀ (k' m' : Nat) (x' : Int32) (τ : Sto), k' ≤ 6 → m' ≤ 3 → vok o f k' m' = true → Q8 o num par τ → g_X7_say d 0 (nI k') (nI m') x' (nI a + 1) τ = some ((vs o num par f k' m' x').1, (vs o num par f k' m' x').2.foldl nt8 τ) := fun k' m' x' τ h1 h2 h3 h4 => by
      rw [nI_1]
      exact ih d k' m' (a + 1) x' τ h1 h2 h3 (by omega) (by omega) h4
    show b_X7_say (g_X7_say d) σ (nI k) (nI m) x (nI a) = _
    unfold b_X7_say
    rw [if_pos (show nI a ≤ 40 from nI_le (b := 40) (by omega) (by omega)), body8 σ k hk m hm, bind_s, note8 h, bind_s]
    rw [vok] at hv
    rw [vs]
    have cases_b : body k m = 10 ∨ body k m = 11 ∨ body k m = 12 ∨ body k m = 13 ∨ body k m = 20 ∨ body k m = 30 ∨ body k m = 40 ∨ body k m = 50 ∨ body k m = 60 ∨ body k m = 70 ∨ body k m = 71 := (show ∀ k, k < 7 → ∀ m, m < 4 → body k m = 10 ∨ body k m = 11 ∨ body k m = 12 ∨ body k m = 13 ∨ body k m = 20 ∨ body k m = 30 ∨ body k m = 40 ∨ body k m = 50 ∨ body k m = 60 ∨ body k m = 70 ∨ body k m = 71 by decide) k (by omega) m (by omega)
    obtain ⟨-, n2, n3, n4⟩ := hn
    have hn := h.nt (nI (body k m))
    rcases cases_b with e | e | e | e | e | e | e | e | e | e | e
    · rw [e] at hn n2 n3 n4 hv ⊢
      rw [if_pos (by decide), n3]
      rfl
    · rw [e] at hn n2 n3 n4 hv ⊢
      rw [if_neg (by decide), if_pos (by decide), n2]
      rw [show g_X7_say d 0 (nI o) 0 x (nI a + 1) (nt8 σ (nI 11)) = _ from rc o 0 x _ ho (by omega) hv hn, bind_s]
      rfl
    · rw [e] at hn n2 n3 n4 hv ⊢
      rw [if_neg (by decide), if_neg (by decide), if_pos (by decide), n4]
      rfl
    · rw [e] at hn n2 n3 n4 hv ⊢
      have hv' : (vok o f o 1 && vok o f o 2) = true := hv
      rw [Bool.and_eq_true] at hv'
      have q := hn.fold (vs o num par f o 1 x).2
      rw [if_neg (by decide), if_neg (by decide), if_neg (by decide), if_pos (by decide), n2, show g_X7_say d 0 (nI o) 1 x (nI a + 1) (nt8 σ (nI 13)) = _ from rc o 1 x _ ho (by omega) hv'.1 hn, bind_s, q.2.1, show g_X7_say d 0 (nI o) 2 x (nI a + 1) _ = _ from rc o 2 x _ ho (by omega) hv'.2 q, bind_s]
      show _ = some ((vs o num par f o 1 x).1 ^^^ (vs o num par f o 2 x).1, (nI 13 :: ((vs o num par f o 1 x).2 ++ (vs o num par f o 2 x).2)).foldl nt8 σ)
      rw [List.foldl_cons, List.foldl_append]
    · rw [e] at hn n2 n3 n4 hv ⊢
      have hv' : (vok o f 0 1 && vok o f o 2) = true := hv
      rw [Bool.and_eq_true] at hv'
      have q := hn.fold (vs o num par f 0 1 x).2
      rw [if_neg (by decide), if_neg (by decide), if_neg (by decide), if_neg (by decide), if_pos (by decide), show g_X7_say d 0 0 1 x (nI a + 1) (nt8 σ (nI 20)) = _ from rc 0 1 x _ (by omega) (by omega) hv'.1 hn, bind_s, q.2.1, show g_X7_say d 0 (nI o) 2 1 (nI a + 1) _ = _ from rc o 2 1 _ ho (by omega) hv'.2 q, bind_s]
      show _ = some ((vs o num par f 0 1 x).1 - (vs o num par f o 2 1).1, (nI 20 :: ((vs o num par f 0 1 x).2 ++ (vs o num par f o 2 1).2)).foldl nt8 σ)
      rw [List.foldl_cons, List.foldl_append]
    · rw [e] at hn n2 n3 n4 hv ⊢
      rw [if_neg (by decide), if_neg (by decide), if_neg (by decide), if_neg (by decide), if_neg (by decide), if_pos (by decide), show g_X7_say d 0 0 0 x (nI a + 1) (nt8 σ (nI 30)) = _ from rc 0 0 x _ (by omega) (by omega) hv hn, bind_s]
      rfl
    · rw [e] at hn n2 n3 n4 hv ⊢
      rw [if_neg (by decide), if_neg (by decide), if_neg (by decide), if_neg (by decide), if_neg (by decide), if_neg (by decide), if_pos (by decide), show g_X7_say d 0 0 2 x (nI a + 1) (nt8 σ (nI 40)) = _ from rc 0 2 x _ (by omega) (by omega) hv hn, bind_s]
      rfl
    · rw [e] at hn n2 n3 n4 hv ⊢
      rw [if_neg (by decide), if_neg (by decide), if_neg (by decide), if_neg (by decide), if_neg (by decide), if_neg (by decide), if_neg (by decide), if_pos (by decide), show g_X7_say d 0 1 1 (x + 1) (nI a + 1) (nt8 σ (nI 50)) = _ from rc 1 1 (x + 1) _ (by omega) (by omega) hv hn, bind_s]
      rfl
    · rw [e] at hn n2 n3 n4 hv ⊢
      have hv' : (vok o f 2 3 && vok o f o 0) = true := hv
      rw [Bool.and_eq_true] at hv'
      have q := hn.fold (vs o num par f 2 3 x).2
      rw [if_neg (by decide), if_neg (by decide), if_neg (by decide), if_neg (by decide), if_neg (by decide), if_neg (by decide), if_neg (by decide), if_neg (by decide), if_pos (by decide), show g_X7_say d 0 2 3 x (nI a + 1) (nt8 σ (nI 60)) = _ from rc 2 3 x _ (by omega) (by omega) hv'.1 hn, bind_s, q.2.1, show g_X7_say d 0 (nI o) 0 2 (nI a + 1) _ = _ from rc o 0 2 _ ho (by omega) hv'.2 q, bind_s]
      show _ = some ((vs o num par f 2 3 x).1 - (vs o num par f o 0 2).1, (nI 60 :: ((vs o num par f 2 3 x).2 ++ (vs o num par f o 0 2).2)).foldl nt8 σ)
      rw [List.foldl_cons, List.foldl_append]
    · rw [e] at hn n2 n3 n4 hv ⊢
      have q := hn.fold (vs o num par f 3 2 x).2
      rw [if_neg (by decide), if_neg (by decide), if_neg (by decide), if_neg (by decide), if_neg (by decide), if_neg (by decide), if_neg (by decide), if_neg (by decide), if_neg (by decide), if_pos (by decide), show g_X7_say d 0 3 2 x (nI a + 1) (nt8 σ (nI 70)) = _ from rc 3 2 x _ (by omega) (by omega) hv hn, bind_s, q.2.2.1]
      rfl
    · rw [e] at hn n2 n3 n4 hv ⊢
      have hv' : (vok o f o 1 && vok o f 3 3) = true := hv
      rw [Bool.and_eq_true] at hv'
      have q := hn.fold (vs o num par f o 1 x).2
      rw [if_neg (by decide), if_neg (by decide), if_neg (by decide), if_neg (by decide), if_neg (by decide), if_neg (by decide), if_neg (by decide), if_neg (by decide), if_neg (by decide), if_neg (by decide), if_pos (by decide), n2, show g_X7_say d 0 (nI o) 1 x (nI a + 1) (nt8 σ (nI 71)) = _ from rc o 1 x _ ho (by omega) hv'.1 hn, bind_s, show g_X7_say d 0 3 3 x (nI a + 1) _ = _ from rc 3 3 x _ (by omega) (by omega) hv'.2 q, bind_s]
      show _ = some ((vs o num par f o 1 x).1 - (vs o num par f 3 3 x).1, (nI 71 :: ((vs o num par f o 1 x).2 ++ (vs o num par f 3 3 x).2)).foldl nt8 σ)
      rw [List.foldl_cons, List.foldl_append]
