/-! The minutes of a part, with its lanes set. -/
theorem pv_dg (v : Nat) {i : Nat} (hi : i < 4) : pv v i = nI (dg v i) := by
  unfold pv l4
  rcases (show i = 0 ∨ i = 1 ∨ i = 2 ∨ i = 3 by omega) with rfl | rfl | rfl | rfl <;> rfl
/-- where the search stands -/
def SS (A B : Nat → Int32) (fl : Int32 → Int32) (s : Int32) (q : Nat) (σ : Sto) : Prop := Fl σ fl ∧ σ.2 60 5 = some 58 ∧ σ.2 60 6 = some (12 + 2 * q) ∧ (∀ j, j < 5 → σ.1 62 j = A j) ∧ Eq9 (S8 σ (12 + 2 * q)) B ∧ σ.1 60 7 = s ∧ ∀ t, t < 60 → σ.1 64 t = pPos B fl (t + 1)
def Ch (k : Nat) (σ τ : Sto) : Prop := τ.2 = σ.2 ∧ (∀ i, i < k → τ.1 63 i = σ.1 63 i) ∧ ∀ a b, a ≠ 61 → a ≠ 63 → ¬ (a = 60 ∧ b < 2) → τ.1 a b = σ.1 a b
theorem Ch.rf (k : Nat) (σ : Sto) : Ch k σ σ := ⟨rfl, fun _ _ => rfl, fun _ _ _ _ _ => rfl⟩
theorem Ch.tr {k : Nat} {σ τ υ : Sto} (h : Ch k σ τ) (h' : Ch k τ υ) : Ch k σ υ := ⟨h'.1.trans h.1, fun i hi => (h'.2.1 i hi).trans (h.2.1 i hi), fun a b x y z => (h'.2.2 a b x y z).trans (h.2.2 a b x y z)⟩
theorem Ch.lo {k m : Nat} {σ τ : Sto} (hk : m ≤ k) (h : Ch k σ τ) : Ch m σ τ := ⟨h.1, fun i hi => h.2.1 i (by omega), h.2.2⟩
theorem SS.ch {A B : Nat → Int32} {fl : Int32 → Int32} {s : Int32} {q k : Nat} {σ τ : Sto} (hq : q < 8) (h : SS A B fl s q σ) (c : Ch k σ τ) : SS A B fl s q τ := by
  obtain ⟨h1, h2, h3, h4, h5, h6, h7⟩ := h
  obtain ⟨c1, -, c3⟩ := c
  refine ⟨fun i hi => ?_, by rw [c1]; exact h2, by rw [c1]; exact h3, fun j hj => ?_, ?_, ?_, fun t ht => ?_⟩
  · rw [c3 59 i (by decide) (by decide) (by omega)]; exact h1 i hi
  · rw [c3 62 j (by decide) (by decide) (by omega)]; exact h4 j hj
  · rw [S8_congr (σ := σ) (τ := τ) (fun j => c3 _ j (by omega) (by omega) (by omega)) (fun j => c3 _ j (by omega) (by omega) (by omega))]; exact h5
  · rw [c3 60 7 (by decide) (by decide) (by omega)]; exact h6
  · rw [c3 64 t (by decide) (by decide) (by omega)]; exact h7 t ht
theorem SS.pl {A B : Nat → Int32} {fl : Int32 → Int32} {s : Int32} {q v : Nat} {σ : Sto} (h : SS A B fl s q σ) (h63 : ∀ i, i < 4 → σ.1 63 i = nI (dg v i)) : Eq9 (S8 σ 62) (PL A (pv v)) := by
  intro j hj
  unfold S8 PL
  by_cases h5 : j < 5
  · rw [if_pos h5, if_neg (by omega)]; exact h.2.2.2.1 j h5
  · rw [if_neg h5, if_pos (by omega), pv_dg v (by omega)]; exact h63 (j - 5) (by omega)
theorem BS.ch {σ τ : Sto} {st : Option (Nat × Int32)} (h : BS σ st) (e0 : τ.1 60 0 = σ.1 60 0) (e1 : τ.1 60 1 = σ.1 60 1) (e2 : ∀ i, τ.1 61 i = σ.1 61 i) : BS τ st := by
  refine ⟨fun z => by rw [e0]; exact h.1 z, fun x hx => ?_⟩
  obtain ⟨b1, b2, b3⟩ := h.2 x hx
  exact ⟨by rw [e0]; exact b1, by rw [e1]; exact b2, fun i hi => by rw [e2]; exact b3 i hi⟩
theorem deref5 {β : Type} (f : Nat → Option β) : deref 5 (some 58) f = f 58 := rfl
theorem mins8 {σ : Sto} {A B : Nat → Int32} {fl : Int32 → Int32} {s : Int32} {q v m : Nat} {st : Option (Nat × Int32)} (hq : q < 8) (gA : GR A) (hS : SS A B fl s q σ) (h63 : ∀ i, i < 4 → σ.1 63 i = nI (dg v i)) (hb : BS σ st) (hm : m ≤ 60) (rec : Nat → Int32 → Int32 → Sto → Option Sto) (K : Int32 → Sto → Option Sto) (v1 v2 : Int32) (v3 : Bool) (v4 : Int32) : ∀ (d n t : Nat), t + d = m → d < n →
    (∃ u τ, t ≤ u ∧ u < m ∧ mtT (PL A (pv v)) B fl s u = true ∧ (∀ w, t ≤ w → w < u → mtT (PL A (pv v)) B fl s w = false) ∧ f_X2_tryLanes_L101 rec K v1 v2 v3 v4 (nI m) n (pPos (PL A (pv v)) fl t) false (nI t) σ = f_X2_tryLanes_L146 rec K v1 v2 v3 v4 (pPos (PL A (pv v)) fl (u + 1)) true τ ∧ BS τ (tkB (A 2) v (metP (PL A (pv v)) B fl u) st) ∧ Ch 4 σ τ) ∨
    ((∀ w, t ≤ w → w < m → mtT (PL A (pv v)) B fl s w = false) ∧ f_X2_tryLanes_L101 rec K v1 v2 v3 v4 (nI m) n (pPos (PL A (pv v)) fl t) false (nI t) σ = f_X2_tryLanes_L146 rec K v1 v2 v3 v4 (pPos (PL A (pv v)) fl m) false σ) := by
  have eX := hS.pl h63
  have gX : GR (PL A (pv v)) := gA.pl2 (fun i _ => pv_ok v i)
  have e2 : PL A (pv v) 2 = A 2 := PL_lo (by omega)
  obtain ⟨hF, r5, r6, -, eB, s7, h64⟩ := hS
  generalize PL A (pv v) = X at *
  intro d
  induction d with
  | zero =>
    intro n t h1 h2
    obtain ⟨n, rfl⟩ : ∃ n', n = n' + 1 := ⟨n - 1, by omega⟩
    obtain rfl : t = m := by omega
    refine Or.inr ⟨fun w _ _ => by omega, ?_⟩
    rw [f_X2_tryLanes_L101, if_pos (nI_le (Nat.le_refl _) (by omega))]
  | succ d ih =>
    intro n t h1 h2
    obtain ⟨n, rfl⟩ : ∃ n', n = n' + 1 := ⟨n - 1, by omega⟩
    have ht : t < 60 := by omega
    obtain ⟨τ, t1, t2, t3, t4, t5⟩ := meetsAt8 hq ht r6 eX eB s7 (h64 t ht) h63 hb
    have step : f_X2_tryLanes_L101 rec K v1 v2 v3 v4 (nI m) (n + 1) (pPos X fl t) false (nI t) σ = f_X2_tryLanes_L101 rec K v1 v2 v3 v4 (nI m) n (pPos X fl (t + 1)) (mtT X B fl s t) (nI (t + 1)) τ := by
      rw [f_X2_tryLanes_L101, if_neg (nI_ge (by omega) (by omega)), if_neg (by decide), r5, nmR_b, deref5, next8 (k := 62) (by decide) (eX.gr gX) hF _ ht, bind_s, eX.go, ← pPos, t1, bind_s, nI_1]
    rw [step]
    cases hmt : mtT X B fl s t with
    | true =>
      refine Or.inl ⟨t, τ, Nat.le_refl _, by omega, hmt, fun w _ _ => by omega, ?_, ?_, t4, fun i hi => t5 63 i (by decide) (by omega), fun a b x _ z => t5 a b x z⟩
      · obtain ⟨n, rfl⟩ : ∃ n', n = n' + 1 := ⟨n - 1, by omega⟩
        rw [f_X2_tryLanes_L101]
        by_cases h : nI m ≤ nI (t + 1)
        · rw [if_pos h]
        · rw [if_neg h, if_pos rfl]
      · rw [← e2]; exact t2 hmt
    | false =>
      rw [t3 hmt]
      rcases ih n (t + 1) (by omega) (by omega) with ⟨u, υ, u1, u2, u3, u4, u5, u6, u7⟩ | ⟨u1, u2⟩
      · refine Or.inl ⟨u, υ, by omega, u2, u3, fun w w1 w2 => ?_, u5, u6, u7⟩
        by_cases hw : w = t
        · rw [hw]; exact hmt
        · exact u4 w (by omega) w2
      · refine Or.inr ⟨fun w w1 w2 => ?_, u2⟩
        by_cases hw : w = t
        · rw [hw]; exact hmt
        · exact u1 w (by omega) w2
