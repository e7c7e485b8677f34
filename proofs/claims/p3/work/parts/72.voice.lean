theorem vs_same {o : Nat} {num par : Int32} {k k' m : Nat} (h : body k m = body k' m) (f : Nat) (x : Int32) : vs o num par f k m x = vs o num par f k' m x := by
  cases f with
  | zero => rfl
  | succ f => rw [vs, vs, h]
def nt9 (σ : Sto) (v : Int32) : Sto := if (40 : Int32) ≤ σ.1 81 18 then σ else sI (sI σ 89 (σ.1 81 18).toNatClampNeg v) 81 18 (σ.1 81 18 + 1)
def Q9 (o p : Nat) (par : Int32) (σ : Sto) : Prop := (∃ n, n ≤ 40 ∧ σ.1 81 18 = nI n) ∧ σ.1 81 19 = nI p ∧ S9 (σ.1 82) p 0 = nI o ∧ S9 (σ.1 82) p 1 = par
theorem Q9.nt {o p : Nat} {par : Int32} {σ : Sto} (h : Q9 o p par σ) (v : Int32) : Q9 o p par (nt9 σ v) := by
  obtain ⟨⟨n, hn, e⟩, h2, h3, h4⟩ := h
  unfold nt9
  rw [e]
  by_cases hc : (40 : Int32) ≤ nI n
  · rw [if_pos hc]; exact ⟨⟨n, hn, e⟩, h2, h3, h4⟩
  · rw [if_neg hc, nI_1]
    have hn' : n < 40 := by
      rcases (show n = 40 ∨ n < 40 by omega) with rfl | h'
      · exact absurd (by decide) hc
      · exact h'
    exact ⟨⟨n + 1, by omega, by rw [sI_at, if_pos rfl]⟩, by rw [sI_nj (by decide), sI_ne (by decide)]; exact h2, h3, h4⟩
theorem Q9.fold {o p : Nat} {par : Int32} : ∀ (l : List Int32) {σ : Sto}, Q9 o p par σ → Q9 o p par (l.foldl nt9 σ) := by
  intro l
  induction l with
  | nil => intro σ h; exact h
  | cons v l ih => intro σ h; exact ih (h.nt v)
theorem ran9 {o p : Nat} {par : Int32} {σ : Sto} (h : Q9 o p par σ) (v : Int32) : f_X9_ran σ v = some (nt9 σ v) := by
  obtain ⟨⟨n, hn, e⟩, -⟩ := h
  unfold f_X9_ran nt9
  rw [e]
  by_cases hc : (40 : Int32) ≤ nI n
  · rw [if_pos hc, if_pos hc]
  · have hn' : n < 40 := by
      rcases (show n = 40 ∨ n < 40 by omega) with rfl | h'
      · exact absurd (by decide) hc
      · exact h'
    rw [if_neg hc, if_neg hc, wr_nI (by show n < 40; exact hn'), bind_s, lp_b, sI_ne (by decide), e, nI_clamp (by omega)]
theorem own9 {o p : Nat} {par : Int32} {σ : Sto} (hp : p < 8) (h : Q9 o p par σ) : f_X9_own σ = some (nI o) := by
  unfold f_X9_own
  rw [h.2.1, show f_X9_of σ (nI p) 0 = _ from of_eq hp (j := 0) (by omega), bind_s, h.2.2.1]
theorem par9 {o p : Nat} {par : Int32} {σ : Sto} (hp : p < 8) (h : Q9 o p par σ) : f_X9_of σ (σ.1 81 19) 1 = some par := by
  rw [h.2.1, show f_X9_of σ (nI p) 1 = _ from of_eq hp (j := 1) (by omega), h.2.2.2]
theorem swims9 {o p : Nat} {par : Int32} : ∀ (k : Nat), k ≤ 6 → ∀ (f d : Nat) (x : Int32) (σ : Sto), 2 ≤ f → 4 ≤ d → Q9 o p par σ → g_X9_swims d 0 (nI k) x σ = some ((vs o (nI p) par f k 0 x).1, (vs o (nI p) par f k 0 x).2.foldl nt9 σ) := by
  have w0 : ∀ (f d : Nat) (x : Int32) (σ : Sto), 1 ≤ f → 1 ≤ d → Q9 o p par σ → g_X9_swims d 0 0 x σ = some ((vs o (nI p) par f 0 0 x).1, (vs o (nI p) par f 0 0 x).2.foldl nt9 σ) := by
    intro f d x σ hf hd h
    obtain ⟨d, rfl⟩ : ∃ d', d = d' + 1 := ⟨d - 1, by omega⟩
    obtain ⟨f, rfl⟩ : ∃ f', f = f' + 1 := ⟨f - 1, by omega⟩
    show b_X9_swims (g_X9_swims d) σ 0 x = _
    unfold b_X9_swims
    rw [if_pos rfl, ran9 h, bind_s, (h.nt 10).2.1]
    rfl
  have w1 : ∀ (k : Int32) (n : Nat), (k = 1 ∨ k = 3) → ∀ (f d : Nat) (x : Int32) (σ : Sto), 1 ≤ f → 2 ≤ d → Q9 o p par σ → g_X9_swims d 0 k x σ = some ((vs o (nI p) par f 0 0 x).1, (vs o (nI p) par f 0 0 x).2.foldl nt9 σ) := by
    intro k n hk f d x σ hf hd h
    obtain ⟨d, rfl⟩ : ∃ d', d = d' + 1 := ⟨d - 1, by omega⟩
    show b_X9_swims (g_X9_swims d) σ k x = _
    unfold b_X9_swims
    rcases hk with rfl | rfl
    · rw [if_neg (by decide), if_neg (by decide), show f_X9_above 1 = some 0 from rfl, bind_s, w0 f d x σ hf (by omega) h, bind_s]
    · rw [if_neg (by decide), if_neg (by decide), show f_X9_above 3 = some 0 from rfl, bind_s, w0 f d x σ hf (by omega) h, bind_s]
  have w2 : ∀ (f d : Nat) (x : Int32) (σ : Sto), 2 ≤ f → 2 ≤ d → Q9 o p par σ → g_X9_swims d 0 2 x σ = some ((vs o (nI p) par f 2 0 x).1, (vs o (nI p) par f 2 0 x).2.foldl nt9 σ) := by
    intro f d x σ hf hd h
    obtain ⟨d, rfl⟩ : ∃ d', d = d' + 1 := ⟨d - 1, by omega⟩
    obtain ⟨f, rfl⟩ : ∃ f', f = f' + 1 := ⟨f - 1, by omega⟩
    show b_X9_swims (g_X9_swims d) σ 2 x = _
    unfold b_X9_swims
    rw [if_neg (by decide), if_pos rfl, ran9 h, bind_s, show f_X9_above 2 = some 0 from rfl, bind_s, w0 f d x _ (by omega) (by omega) (h.nt 30), bind_s]
    rfl
  intro k hk f d x σ hf hd h
  rcases (show k = 0 ∨ k = 1 ∨ k = 2 ∨ k = 3 ∨ k = 4 ∨ k = 5 ∨ k = 6 by omega) with rfl | rfl | rfl | rfl | rfl | rfl | rfl
  · exact w0 f d x σ (by omega) (by omega) h
  · rw [vs_same (show body 1 0 = body 0 0 from rfl)]; exact w1 1 0 (Or.inl rfl) f d x σ (by omega) (by omega) h
  · exact w2 f d x σ hf (by omega) h
  · rw [vs_same (show body 3 0 = body 0 0 from rfl)]; exact w1 3 0 (Or.inr rfl) f d x σ (by omega) (by omega) h
  · obtain ⟨d, rfl⟩ : ∃ d', d = d' + 1 := ⟨d - 1, by omega⟩
    rw [vs_same (show body 4 0 = body 0 0 from rfl)]
    show b_X9_swims (g_X9_swims d) σ 4 x = _
    unfold b_X9_swims
    rw [if_neg (by decide), if_neg (by decide), show f_X9_above 4 = some 1 from rfl, bind_s, w1 1 0 (Or.inl rfl) f d x σ (by omega) (by omega) h, bind_s]
  · obtain ⟨d, rfl⟩ : ∃ d', d = d' + 1 := ⟨d - 1, by omega⟩
    rw [vs_same (show body 5 0 = body 2 0 from rfl)]
    show b_X9_swims (g_X9_swims d) σ 5 x = _
    unfold b_X9_swims
    rw [if_neg (by decide), if_neg (by decide), show f_X9_above 5 = some 2 from rfl, bind_s, w2 f d x σ hf (by omega) h, bind_s]
  · obtain ⟨d, rfl⟩ : ∃ d', d = d' + 1 := ⟨d - 1, by omega⟩
    rw [vs_same (show body 6 0 = body 0 0 from rfl)]
    show b_X9_swims (g_X9_swims d) σ 6 x = _
    unfold b_X9_swims
    rw [if_neg (by decide), if_neg (by decide), show f_X9_above 6 = some 3 from rfl, bind_s, w1 3 0 (Or.inr rfl) f d x σ (by omega) (by omega) h, bind_s]
theorem tires9 {o p : Nat} (hp : p < 8) {par : Int32} : ∀ (k : Nat), k ≤ 6 → ∀ (f d : Nat) (x : Int32) (σ : Sto), 3 ≤ f → 4 ≤ d → Q9 o p par σ → g_X9_tires d 0 (nI k) x σ = some ((vs o (nI p) par f k 2 x).1, (vs o (nI p) par f k 2 x).2.foldl nt9 σ) := by
  have w0 : ∀ (f d : Nat) (x : Int32) (σ : Sto), 1 ≤ f → 1 ≤ d → Q9 o p par σ → g_X9_tires d 0 0 x σ = some ((vs o (nI p) par f 0 2 x).1, (vs o (nI p) par f 0 2 x).2.foldl nt9 σ) := by
    intro f d x σ hf hd h
    obtain ⟨d, rfl⟩ : ∃ d', d = d' + 1 := ⟨d - 1, by omega⟩
    obtain ⟨f, rfl⟩ : ∃ f', f = f' + 1 := ⟨f - 1, by omega⟩
    show b_X9_tires (g_X9_tires d) σ 0 x = _
    unfold b_X9_tires
    rw [if_pos rfl, ran9 h, bind_s, par9 hp (h.nt 12), bind_s]
    rfl
  have w1 : ∀ (k : Int32), (k = 1 ∨ k = 2) → ∀ (f d : Nat) (x : Int32) (σ : Sto), 1 ≤ f → 2 ≤ d → Q9 o p par σ → g_X9_tires d 0 k x σ = some ((vs o (nI p) par f 0 2 x).1, (vs o (nI p) par f 0 2 x).2.foldl nt9 σ) := by
    intro k hk f d x σ hf hd h
    obtain ⟨d, rfl⟩ : ∃ d', d = d' + 1 := ⟨d - 1, by omega⟩
    show b_X9_tires (g_X9_tires d) σ k x = _
    unfold b_X9_tires
    rcases hk with rfl | rfl
    · rw [if_neg (by decide), if_neg (by decide), if_neg (by decide), show f_X9_above 1 = some 0 from rfl, bind_s, w0 f d x σ hf (by omega) h, bind_s]
    · rw [if_neg (by decide), if_neg (by decide), if_neg (by decide), show f_X9_above 2 = some 0 from rfl, bind_s, w0 f d x σ hf (by omega) h, bind_s]
  have w3 : ∀ (f d : Nat) (x : Int32) (σ : Sto), 2 ≤ f → 2 ≤ d → Q9 o p par σ → g_X9_tires d 0 3 x σ = some ((vs o (nI p) par f 3 2 x).1, (vs o (nI p) par f 3 2 x).2.foldl nt9 σ) := by
    intro f d x σ hf hd h
    obtain ⟨d, rfl⟩ : ∃ d', d = d' + 1 := ⟨d - 1, by omega⟩
    obtain ⟨f, rfl⟩ : ∃ f', f = f' + 1 := ⟨f - 1, by omega⟩
    show b_X9_tires (g_X9_tires d) σ 3 x = _
    unfold b_X9_tires
    rw [if_neg (by decide), if_pos rfl, ran9 h, bind_s, show f_X9_above 3 = some 0 from rfl, bind_s, w0 f d x _ (by omega) (by omega) (h.nt 40), bind_s]
    rfl
  intro k hk f d x σ hf hd h
  rcases (show k = 0 ∨ k = 1 ∨ k = 2 ∨ k = 3 ∨ k = 4 ∨ k = 5 ∨ k = 6 by omega) with rfl | rfl | rfl | rfl | rfl | rfl | rfl
  · exact w0 f d x σ (by omega) (by omega) h
  · rw [vs_same (show body 1 2 = body 0 2 from rfl)]; exact w1 1 (Or.inl rfl) f d x σ (by omega) (by omega) h
  · rw [vs_same (show body 2 2 = body 0 2 from rfl)]; exact w1 2 (Or.inr rfl) f d x σ (by omega) (by omega) h
  · exact w3 f d x σ (by omega) (by omega) h
  · obtain ⟨d, rfl⟩ : ∃ d', d = d' + 1 := ⟨d - 1, by omega⟩
    rw [vs_same (show body 4 2 = body 0 2 from rfl)]
    show b_X9_tires (g_X9_tires d) σ 4 x = _
    unfold b_X9_tires
    rw [if_neg (by decide), if_neg (by decide), if_neg (by decide), show f_X9_above 4 = some 1 from rfl, bind_s, w1 1 (Or.inl rfl) f d x σ (by omega) (by omega) h, bind_s]
  · obtain ⟨d, rfl⟩ : ∃ d', d = d' + 1 := ⟨d - 1, by omega⟩
    rw [vs_same (show body 5 2 = body 0 2 from rfl)]
    show b_X9_tires (g_X9_tires d) σ 5 x = _
    unfold b_X9_tires
    rw [if_neg (by decide), if_neg (by decide), if_neg (by decide), show f_X9_above 5 = some 2 from rfl, bind_s, w1 2 (Or.inr rfl) f d x σ (by omega) (by omega) h, bind_s]
  · obtain ⟨d, rfl⟩ : ∃ d', d = d' + 1 := ⟨d - 1, by omega⟩
    obtain ⟨f, rfl⟩ : ∃ f', f = f' + 1 := ⟨f - 1, by omega⟩
    show b_X9_tires (g_X9_tires d) σ 6 x = _
    unfold b_X9_tires
    have q := (h.nt 70).fold (vs o (nI p) par f 3 2 x).2
    rw [if_neg (by decide), if_neg (by decide), if_pos rfl, ran9 h, bind_s, show f_X9_above 6 = some 3 from rfl, bind_s, w3 f d x _ (by omega) (by omega) (h.nt 70), bind_s, q.2.1]
    rfl
theorem breathes9 {o p : Nat} (ho : o ≤ 6) (hp : p < 8) {par : Int32} : ∀ (k : Nat), k ≤ 6 → ∀ (f d : Nat) (x : Int32) (σ : Sto), 6 ≤ f → 4 ≤ d → Q9 o p par σ → g_X9_breathes d 0 (nI k) x σ = some ((vs o (nI p) par f k 1 x).1, (vs o (nI p) par f k 1 x).2.foldl nt9 σ) := by
  have w0 : ∀ (f d : Nat) (x : Int32) (σ : Sto), 3 ≤ f → 1 ≤ d → Q9 o p par σ → g_X9_breathes d 0 0 x σ = some ((vs o (nI p) par f 0 1 x).1, (vs o (nI p) par f 0 1 x).2.foldl nt9 σ) := by
    intro f d x σ hf hd h
    obtain ⟨d, rfl⟩ : ∃ d', d = d' + 1 := ⟨d - 1, by omega⟩
    obtain ⟨f, rfl⟩ : ∃ f', f = f' + 1 := ⟨f - 1, by omega⟩
    show b_X9_breathes (g_X9_breathes d) σ 0 x = _
    unfold b_X9_breathes
    rw [if_pos rfl, ran9 h, bind_s, own9 hp (h.nt 11), bind_s, swims9 o ho f 8 x _ (by omega) (by omega) (h.nt 11), bind_s]
    rfl
  have w2 : ∀ (k : Int32), (k = 2 ∨ k = 3) → ∀ (f d : Nat) (x : Int32) (σ : Sto), 3 ≤ f → 2 ≤ d → Q9 o p par σ → g_X9_breathes d 0 k x σ = some ((vs o (nI p) par f 0 1 x).1, (vs o (nI p) par f 0 1 x).2.foldl nt9 σ) := by
    intro k hk f d x σ hf hd h
    obtain ⟨d, rfl⟩ : ∃ d', d = d' + 1 := ⟨d - 1, by omega⟩
    show b_X9_breathes (g_X9_breathes d) σ k x = _
    unfold b_X9_breathes
    rcases hk with rfl | rfl
    · rw [if_neg (by decide), if_neg (by decide), if_pos rfl, show f_X9_above 2 = some 0 from rfl, bind_s, w0 f d x σ hf (by omega) h, bind_s]
    · rw [if_neg (by decide), if_neg (by decide), if_neg (by decide), if_pos rfl, show f_X9_above 3 = some 0 from rfl, bind_s, w0 f d x σ hf (by omega) h, bind_s]
  have w1 : ∀ (f d : Nat) (x : Int32) (σ : Sto), 4 ≤ f → 2 ≤ d → Q9 o p par σ → g_X9_breathes d 0 1 x σ = some ((vs o (nI p) par f 1 1 x).1, (vs o (nI p) par f 1 1 x).2.foldl nt9 σ) := by
    intro f d x σ hf hd h
    obtain ⟨d, rfl⟩ : ∃ d', d = d' + 1 := ⟨d - 1, by omega⟩
    obtain ⟨f, rfl⟩ : ∃ f', f = f' + 1 := ⟨f - 1, by omega⟩
    show b_X9_breathes (g_X9_breathes d) σ 1 x = _
    unfold b_X9_breathes
    have q := (h.nt 20).fold (vs o (nI p) par f 0 1 x).2
    rw [if_neg (by decide), if_pos rfl, ran9 h, bind_s, show f_X9_above 1 = some 0 from rfl, bind_s, w0 f d x _ (by omega) (by omega) (h.nt 20), bind_s, own9 hp q, bind_s, tires9 hp o ho f 8 1 _ (by omega) (by omega) q, bind_s]
    show _ = some ((vs o (nI p) par f 0 1 x).1 - (vs o (nI p) par f o 2 1).1, ((20 : Int32) :: ((vs o (nI p) par f 0 1 x).2 ++ (vs o (nI p) par f o 2 1).2)).foldl nt9 σ)
    rw [List.foldl_cons, List.foldl_append]
  intro k hk f d x σ hf hd h
  rcases (show k = 0 ∨ k = 1 ∨ k = 2 ∨ k = 3 ∨ k = 4 ∨ k = 5 ∨ k = 6 by omega) with rfl | rfl | rfl | rfl | rfl | rfl | rfl
  · exact w0 f d x σ (by omega) (by omega) h
  · exact w1 f d x σ (by omega) (by omega) h
  · rw [vs_same (show body 2 1 = body 0 1 from rfl)]; exact w2 2 (Or.inl rfl) f d x σ (by omega) (by omega) h
  · rw [vs_same (show body 3 1 = body 0 1 from rfl)]; exact w2 3 (Or.inr rfl) f d x σ (by omega) (by omega) h
  · obtain ⟨d, rfl⟩ : ∃ d', d = d' + 1 := ⟨d - 1, by omega⟩
    obtain ⟨f, rfl⟩ : ∃ f', f = f' + 1 := ⟨f - 1, by omega⟩
    show b_X9_breathes (g_X9_breathes d) σ 4 x = _
    unfold b_X9_breathes
    rw [if_neg (by decide), if_neg (by decide), if_neg (by decide), if_neg (by decide), if_pos rfl, ran9 h, bind_s, show f_X9_above 4 = some 1 from rfl, bind_s, w1 f d (x + 1) _ (by omega) (by omega) (h.nt 50), bind_s]
    rfl
  · obtain ⟨d, rfl⟩ : ∃ d', d = d' + 1 := ⟨d - 1, by omega⟩
    rw [vs_same (show body 5 1 = body 0 1 from rfl)]
    show b_X9_breathes (g_X9_breathes d) σ 5 x = _
    unfold b_X9_breathes
    rw [if_neg (by decide), if_neg (by decide), if_neg (by decide), if_neg (by decide), if_neg (by decide), show f_X9_above 5 = some 2 from rfl, bind_s, w2 2 (Or.inl rfl) f d x σ (by omega) (by omega) h, bind_s]
  · obtain ⟨d, rfl⟩ : ∃ d', d = d' + 1 := ⟨d - 1, by omega⟩
    rw [vs_same (show body 6 1 = body 0 1 from rfl)]
    show b_X9_breathes (g_X9_breathes d) σ 6 x = _
    unfold b_X9_breathes
    rw [if_neg (by decide), if_neg (by decide), if_neg (by decide), if_neg (by decide), if_neg (by decide), show f_X9_above 6 = some 3 from rfl, bind_s, w2 3 (Or.inr rfl) f d x σ (by omega) (by omega) h, bind_s]
theorem tells9 {o p : Nat} (ho : o ≤ 6) (hp : p < 8) {par : Int32} : ∀ (k : Nat), k ≤ 6 → ∀ (f d : Nat) (x : Int32) (σ : Sto), 8 ≤ f → 4 ≤ d → Q9 o p par σ → g_X9_tells d 0 (nI k) x σ = some ((vs o (nI p) par f k 3 x).1, (vs o (nI p) par f k 3 x).2.foldl nt9 σ) := by
  have w0 : ∀ (f d : Nat) (x : Int32) (σ : Sto), 7 ≤ f → 1 ≤ d → Q9 o p par σ → g_X9_tells d 0 0 x σ = some ((vs o (nI p) par f 0 3 x).1, (vs o (nI p) par f 0 3 x).2.foldl nt9 σ) := by
    intro f d x σ hf hd h
    obtain ⟨d, rfl⟩ : ∃ d', d = d' + 1 := ⟨d - 1, by omega⟩
    obtain ⟨f, rfl⟩ : ∃ f', f = f' + 1 := ⟨f - 1, by omega⟩
    show b_X9_tells (g_X9_tells d) σ 0 x = _
    unfold b_X9_tells
    have q := (h.nt 13).fold (vs o (nI p) par f o 1 x).2
    rw [if_pos rfl, ran9 h, bind_s, own9 hp (h.nt 13), bind_s, breathes9 ho hp o ho f 8 x _ (by omega) (by omega) (h.nt 13), bind_s, own9 hp q, bind_s, tires9 hp o ho f 8 x _ (by omega) (by omega) q, bind_s]
    show _ = some ((vs o (nI p) par f o 1 x).1 ^^^ (vs o (nI p) par f o 2 x).1, ((13 : Int32) :: ((vs o (nI p) par f o 1 x).2 ++ (vs o (nI p) par f o 2 x).2)).foldl nt9 σ)
    rw [List.foldl_cons, List.foldl_append]
  have w1 : ∀ (k : Int32), (k = 1 ∨ k = 2 ∨ k = 3) → ∀ (f d : Nat) (x : Int32) (σ : Sto), 7 ≤ f → 2 ≤ d → Q9 o p par σ → g_X9_tells d 0 k x σ = some ((vs o (nI p) par f 0 3 x).1, (vs o (nI p) par f 0 3 x).2.foldl nt9 σ) := by
    intro k hk f d x σ hf hd h
    obtain ⟨d, rfl⟩ : ∃ d', d = d' + 1 := ⟨d - 1, by omega⟩
    show b_X9_tells (g_X9_tells d) σ k x = _
    unfold b_X9_tells
    rcases hk with rfl | rfl | rfl
    · rw [if_neg (by decide), if_neg (by decide), if_neg (by decide), show f_X9_above 1 = some 0 from rfl, bind_s, w0 f d x σ hf (by omega) h, bind_s]
    · rw [if_neg (by decide), if_neg (by decide), if_neg (by decide), show f_X9_above 2 = some 0 from rfl, bind_s, w0 f d x σ hf (by omega) h, bind_s]
    · rw [if_neg (by decide), if_neg (by decide), if_neg (by decide), show f_X9_above 3 = some 0 from rfl, bind_s, w0 f d x σ hf (by omega) h, bind_s]
  intro k hk f d x σ hf hd h
  rcases (show k = 0 ∨ k = 1 ∨ k = 2 ∨ k = 3 ∨ k = 4 ∨ k = 5 ∨ k = 6 by omega) with rfl | rfl | rfl | rfl | rfl | rfl | rfl
  · exact w0 f d x σ (by omega) (by omega) h
  · rw [vs_same (show body 1 3 = body 0 3 from rfl)]; exact w1 1 (Or.inl rfl) f d x σ (by omega) (by omega) h
  · rw [vs_same (show body 2 3 = body 0 3 from rfl)]; exact w1 2 (Or.inr (Or.inl rfl)) f d x σ (by omega) (by omega) h
  · rw [vs_same (show body 3 3 = body 0 3 from rfl)]; exact w1 3 (Or.inr (Or.inr rfl)) f d x σ (by omega) (by omega) h
  · obtain ⟨d, rfl⟩ : ∃ d', d = d' + 1 := ⟨d - 1, by omega⟩
    rw [vs_same (show body 4 3 = body 0 3 from rfl)]
    show b_X9_tells (g_X9_tells d) σ 4 x = _
    unfold b_X9_tells
    rw [if_neg (by decide), if_neg (by decide), if_neg (by decide), show f_X9_above 4 = some 1 from rfl, bind_s, w1 1 (Or.inl rfl) f d x σ (by omega) (by omega) h, bind_s]
  · obtain ⟨d, rfl⟩ : ∃ d', d = d' + 1 := ⟨d - 1, by omega⟩
    obtain ⟨f, rfl⟩ : ∃ f', f = f' + 1 := ⟨f - 1, by omega⟩
    show b_X9_tells (g_X9_tells d) σ 5 x = _
    unfold b_X9_tells
    have e2 : vs o (nI p) par f 2 3 x = vs o (nI p) par f 0 3 x := vs_same (by decide) f x
    have q := (h.nt 60).fold (vs o (nI p) par f 0 3 x).2
    rw [if_neg (by decide), if_pos rfl, ran9 h, bind_s, show f_X9_above 5 = some 2 from rfl, bind_s, w1 2 (Or.inr (Or.inl rfl)) f d x _ (by omega) (by omega) (h.nt 60), bind_s, own9 hp q, bind_s, swims9 o ho f 8 2 _ (by omega) (by omega) q, bind_s]
    show _ = some ((vs o (nI p) par f 2 3 x).1 - (vs o (nI p) par f o 0 2).1, ((60 : Int32) :: ((vs o (nI p) par f 2 3 x).2 ++ (vs o (nI p) par f o 0 2).2)).foldl nt9 σ)
    rw [List.foldl_cons, List.foldl_append, e2]
  · obtain ⟨d, rfl⟩ : ∃ d', d = d' + 1 := ⟨d - 1, by omega⟩
    obtain ⟨f, rfl⟩ : ∃ f', f = f' + 1 := ⟨f - 1, by omega⟩
    show b_X9_tells (g_X9_tells d) σ 6 x = _
    unfold b_X9_tells
    have e3 : vs o (nI p) par f 3 3 x = vs o (nI p) par f 0 3 x := vs_same (by decide) f x
    have q := (h.nt 71).fold (vs o (nI p) par f o 1 x).2
    rw [if_neg (by decide), if_neg (by decide), if_pos rfl, ran9 h, bind_s, own9 hp (h.nt 71), bind_s, breathes9 ho hp o ho f 8 x _ (by omega) (by omega) (h.nt 71), bind_s, show f_X9_above 6 = some 3 from rfl, bind_s, w1 3 (Or.inr (Or.inr rfl)) f d x _ (by omega) (by omega) q, bind_s]
    show _ = some ((vs o (nI p) par f o 1 x).1 - (vs o (nI p) par f 3 3 x).1, ((71 : Int32) :: ((vs o (nI p) par f o 1 x).2 ++ (vs o (nI p) par f 3 3 x).2)).foldl nt9 σ)
    rw [List.foldl_cons, List.foldl_append, e3]
/-- the two traces, of two stores -/
def TX (σ8 σ9 : Sto) : Prop := ∃ n, n ≤ 40 ∧ σ8.1 65 1 = nI n ∧ σ9.1 81 18 = nI n ∧ ∀ i, i < n → σ8.1 66 i = σ9.1 89 i
theorem TX.nt {σ8 σ9 : Sto} (h : TX σ8 σ9) (v : Int32) : TX (nt8 σ8 v) (nt9 σ9 v) := by
  obtain ⟨n, hn, e8, e9, hi⟩ := h
  unfold nt8 nt9
  rw [e8, e9]
  by_cases hc : (40 : Int32) ≤ nI n
  · rw [if_pos hc, if_pos hc]; exact ⟨n, hn, e8, e9, hi⟩
  · rw [if_neg hc, if_neg hc, nI_1, nI_clamp (by omega)]
    have hn' : n < 40 := by
      rcases (show n = 40 ∨ n < 40 by omega) with rfl | h'
      · exact absurd (by decide) hc
      · exact h'
    refine ⟨n + 1, by omega, by rw [sI_at, if_pos rfl], by rw [sI_at, if_pos rfl], fun i hin => ?_⟩
    rw [sI_ne (by decide), sI_at, sI_ne (by decide), sI_at]
    by_cases h' : i = n
    · rw [if_pos h', if_pos h']
    · rw [if_neg h', if_neg h']; exact hi i (by omega)
theorem TX.fold : ∀ (l : List Int32) {σ8 σ9 : Sto}, TX σ8 σ9 → TX (l.foldl nt8 σ8) (l.foldl nt9 σ9) := by
  intro l
  induction l with
  | nil => intro _ _ h; exact h
  | cons v l ih => intro _ _ h; exact ih (h.nt v)
theorem nt8_o {σ : Sto} {v : Int32} {k j : Nat} (h : k ≠ 66 ∧ ¬ (k = 65 ∧ j = 1)) : (nt8 σ v).1 k j = σ.1 k j := by
  unfold nt8
  by_cases hc : (40 : Int32) ≤ σ.1 65 1
  · rw [if_pos hc]
  · rw [if_neg hc]
    show (if k = 65 ∧ j = 1 then _ else if k = 66 ∧ _ then _ else σ.1 k j) = _
    rw [if_neg h.2, if_neg (fun z => h.1 z.1)]
theorem nt9_o {σ : Sto} {v : Int32} {k j : Nat} (h : k ≠ 89 ∧ ¬ (k = 81 ∧ j = 18)) : (nt9 σ v).1 k j = σ.1 k j := by
  unfold nt9
  by_cases hc : (40 : Int32) ≤ σ.1 81 18
  · rw [if_pos hc]
  · rw [if_neg hc]
    show (if k = 81 ∧ j = 18 then _ else if k = 89 ∧ _ then _ else σ.1 k j) = _
    rw [if_neg h.2, if_neg (fun z => h.1 z.1)]
theorem fold8_o {k j : Nat} (h : k ≠ 66 ∧ ¬ (k = 65 ∧ j = 1)) : ∀ (l : List Int32) (σ : Sto), (l.foldl nt8 σ).1 k j = σ.1 k j := by
  intro l
  induction l with
  | nil => intro _; rfl
  | cons v l ih => intro σ; rw [List.foldl_cons, ih, nt8_o h]
theorem fold9_o {k j : Nat} (h : k ≠ 89 ∧ ¬ (k = 81 ∧ j = 18)) : ∀ (l : List Int32) (σ : Sto), (l.foldl nt9 σ).1 k j = σ.1 k j := by
  intro l
  induction l with
  | nil => intro _; rfl
  | cons v l ih => intro σ; rw [List.foldl_cons, ih, nt9_o h]
theorem s_voice (a1 a2 a3 : Int32) (b : Bool) : LPr (fun σ => f_X8_voice σ a1 a2 a3) (fun σ => f_X9_voice σ a1 a2 a3) b Inv Inv := by
  intro σ hI
  have er := fun (k : Nat) (h8 : f_X8_voice σ a1 a2 a3 = some (-1000000000 - nI k, rf σ k)) (h9 : f_X9_voice (rf σ k) a1 a2 a3 = some (-1000000000 - nI k, fi (rf σ k) k)) => er_LPr (f := fun σ => f_X8_voice σ a1 a2 a3) (g := fun σ => f_X9_voice σ a1 a2 a3) (b := b) hI h8 h9
  unfold f_X8_voice f_X9_voice at er
  rcases sA8 hI.1 a1 with ⟨hq, e⟩ | ⟨p, hp, hpN, rfl, hq, e⟩
  · exact er 1 (by rw [e, bind_s, onN_0, r8_1, bind_s]) (by rw [isS_eq, rf_at (by decide), bind_s, hq, if_neg (by decide), r9_1, bind_s])
  · cases h2 : isO a2 0 3 with
    | true => exact er 1 (by rw [e, bind_s, onN_1, out_eq, bind_s, h2, if_pos rfl, r8_1, bind_s]) (by rw [isS_eq, rf_at (by decide), bind_s, hq, if_pos (by decide), in_0_3, bind_s, h2, if_neg (by decide), r9_1, bind_s])
    | false =>
      obtain ⟨m, hm, rfl⟩ := isO_nI (n := 3) rfl h2
      obtain ⟨o, ho, eo⟩ := sw_kind hI.1.ok hp
      have s0 : σ.1 (12 + 2 * p) 0 = nI o := (sw8f hI.1 hpN (by omega)).trans eo
      have s1 : σ.1 (12 + 2 * p) 1 = S9 (σ.1 82) p 1 := sw8f hI.1 hpN (by omega)
      generalize hpar : S9 (σ.1 82) p 1 = par at s1
      generalize hρ : sI (sI (sI (sI σ 65 2 (nI o)) 65 4 par) 65 3 (nI p)) 65 1 0 = ρ
      have oρ : ∀ k j, k ≠ 65 → ρ.1 k j = σ.1 k j := fun k j h => by rw [← hρ, sI_ne h, sI_ne h, sI_ne h, sI_ne h]
      have Qρ : Q8 o (nI p) par ρ := by
        rw [← hρ]
        exact ⟨⟨0, by omega, rfl⟩, rfl, rfl, rfl⟩
      have t8 := say8 ho 12 44 o m 0 a3 ρ ho hm (vok_all o (by omega) m (by omega)) (by omega) (by omega) Qρ
      generalize hl : (vs o (nI p) par 12 o m a3).2 = l at t8
      generalize hv : (vs o (nI p) par 12 o m a3).1 = v at t8
      generalize hτ : l.foldl nt8 ρ = τ at t8
      have oτ : ∀ k j, k ≠ 65 → k ≠ 66 → τ.1 k j = σ.1 k j := fun k j h h' => by rw [← hτ, fold8_o ⟨h', fun z => h z.1⟩, oρ k j h]
      generalize hχ : sI (sI τ 81 18 0) 81 19 (nI p) = χ
      have oχ : ∀ k j, k ≠ 81 → χ.1 k j = τ.1 k j := fun k j h => by rw [← hχ, sI_ne h, sI_ne h]
      have dχ : χ.1 82 = σ.1 82 := funext fun j => by rw [oχ 82 j (by decide), oτ 82 j (by decide) (by decide)]
      have Qχ : Q9 o p par χ := by
        refine ⟨⟨0, by omega, ?_⟩, ?_, by rw [dχ]; exact eo, by rw [dχ]; exact hpar⟩
        · rw [← hχ, sI_nj (by decide), sI_at, if_pos rfl]; rfl
        · rw [← hχ, sI_at, if_pos rfl]
      have t9 : f_X9_voice τ (nI p) (nI m) a3 = some (v, l.foldl nt9 χ) := by
        unfold f_X9_voice
        rw [isS_eq, show τ.1 82 12 = σ.1 82 12 from oτ 82 12 (by decide) (by decide), bind_s, hq, if_pos (by decide), in_0_3, bind_s, h2, if_pos (by decide), lp_b, lp_b, hχ, own9 hp Qχ, bind_s, ← hl, ← hv]
        rcases (show m = 0 ∨ m = 1 ∨ m = 2 ∨ m = 3 by omega) with rfl | rfl | rfl | rfl
        · rw [if_pos (by decide), swims9 o ho 12 8 a3 χ (by omega) (by omega) Qχ, bind_s]
        · rw [if_neg (by decide), if_pos (by decide), breathes9 ho hp o ho 12 8 a3 χ (by omega) (by omega) Qχ, bind_s]
        · rw [if_neg (by decide), if_neg (by decide), if_pos (by decide), tires9 hp o ho 12 8 a3 χ (by omega) (by omega) Qχ, bind_s]
        · rw [if_neg (by decide), if_neg (by decide), if_neg (by decide), tells9 ho hp o ho 12 8 a3 χ (by omega) (by omega) Qχ, bind_s]
      have hTX : TX τ (l.foldl nt9 χ) := by
        rw [← hτ]
        exact TX.fold l ⟨0, by omega, by rw [← hρ]; rfl, by rw [← hχ, sI_nj (by decide), sI_at, if_pos rfl]; rfl, fun i hi => by omega⟩
      generalize hυ : l.foldl nt9 χ = υ at t9 hTX
      have oυ : ∀ k j, k ≠ 89 → ¬ (k = 81 ∧ (j = 18 ∨ j = 19)) → υ.1 k j = τ.1 k j := by
        intro k j h h'
        rw [← hυ, fold9_o ⟨h, fun z => h' ⟨z.1, Or.inl z.2⟩⟩, ← hχ]
        show (if k = 81 ∧ j = 19 then _ else if k = 81 ∧ j = 18 then _ else τ.1 k j) = _
        rw [if_neg (fun z => h' ⟨z.1, Or.inr z.2⟩), if_neg (fun z => h' ⟨z.1, Or.inl z.2⟩)]
      refine ⟨(v, τ), (v, υ), ?_, t9, fun _ => rfl, ?_⟩
      · show f_X8_voice σ (nI p) (nI m) a3 = _
        unfold f_X8_voice f_X7_speak
        rw [e, bind_s, onN_1, out_eq, bind_s, h2, if_neg (by decide), if_pos (K12 p hp), lp_b, s0, lp_b, sI_ne (show 12 + 2 * p ≠ 65 by omega), s1, lp_b, lp_b, hρ, Qρ.2.1, show g_X7_say 44 0 (nI o) (nI m) a3 0 ρ = some (v, τ) from t8, bind_s, bind_s]
      · have keep : ∀ k j, k ≠ 65 → k ≠ 66 → k ≠ 89 → ¬ (k = 81 ∧ (j = 18 ∨ j = 19)) → υ.1 k j = σ.1 k j := fun k j h1 h2 h3 h4 => by rw [oυ k j h3 h4, oτ k j h1 h2]
        obtain ⟨⟨q1, q2, q3, q4, q5, q6⟩, q7⟩ := hI
        refine ⟨⟨q1.keep (fun k j hk => keep k j (by unfold lkc at hk; omega) (by unfold lkc at hk; omega) (by unfold lkc at hk; omega) (by unfold lkc at hk; omega)), by rw [keep 0 10 (by decide) (by decide) (by decide) (by omega), keep 81 3 (by decide) (by decide) (by decide) (by omega)]; exact q2, fun hn => (q3 (by rw [keep 81 3 (by decide) (by decide) (by decide) (by omega)] at hn; exact hn)).keep (fun k j hk => keep k j (by unfold lkc at hk; omega) (by unfold lkc at hk; omega) (by unfold lkc at hk; omega) (by unfold lkc at hk; omega)), ?_, q5.keep (fun k j hk => keep k j (by omega) (by omega) (by omega) (by omega)), by unfold US; rw [keep 4 0 (by decide) (by decide) (by decide) (by omega), keep 7 0 (by decide) (by decide) (by decide) (by omega)]; exact q6⟩, fun k hk => by rw [keep 68 k (by decide) (by decide) (by decide) (by omega), keep 85 k (by decide) (by decide) (by decide) (by omega)]; exact q7 k hk⟩
        obtain ⟨n, hn, e8, e9, hi⟩ := hTX
        exact ⟨n, hn, by rw [oυ 65 1 (by decide) (by omega)]; exact e8, e9, fun i hin => by rw [oυ 66 i (by decide) (by omega)]; exact hi i hin⟩
