/-! A meeting, as either finds it. -/
theorem lp_b {β : Type} (x : Sto) (f : Sto → β) : lp x f = f x := rfl
def gapT (A B : Nat → Int32) (fl : Int32 → Int32) (t : Nat) : Int32 := if A 2 = 0 then pPos B fl t - pPos A fl t else pPos A fl t - pPos B fl t
def mtT (A B : Nat → Int32) (fl : Int32 → Int32) (s : Int32) (t : Nat) : Bool := decide (pLn A t = pLn B t) && !decide (s < gapT A B fl (t + 1))
def mtD (A B : Nat → Int32) (fl : Int32 → Int32) (s : Int32) : Nat → Option Nat
  | 0 => none
  | d + 1 => if mtT A B fl s (59 - d) = true then some (59 - d) else mtD A B fl s d
def met (A B : Nat → Int32) (fl : Int32 → Int32) (s : Int32) : Option Nat := mtD A B fl s 60
def metP (A B : Nat → Int32) (fl : Int32 → Int32) (u : Nat) : Int32 := (pPos A fl (u + 1) + pPos B fl (u + 1)) / 2
theorem mtD_lt {A B : Nat → Int32} {fl : Int32 → Int32} {s : Int32} : ∀ {d u : Nat}, d ≤ 60 → mtD A B fl s d = some u → u < 60 := by
  intro d
  induction d with
  | zero => intro u _ h; cases h
  | succ d ih =>
    intro u hd h
    rw [mtD] at h
    by_cases hm : mtT A B fl s (59 - d) = true
    · rw [if_pos hm] at h
      cases h
      omega
    · rw [if_neg hm] at h
      exact ih (by omega) h
theorem met_lt {A B : Nat → Int32} {fl : Int32 → Int32} {s : Int32} {u : Nat} (h : met A B fl s = some u) : u < 60 := mtD_lt (Nat.le_refl _) h
theorem Eq9.gap {A B A' B' : Nat → Int32} (h : Eq9 A A') (h' : Eq9 B B') (fl : Int32 → Int32) (t : Nat) : gapT A B fl t = gapT A' B' fl t := by unfold gapT; rw [h 2 (by omega), h.pos, h'.pos]
theorem Eq9.mT {A B A' B' : Nat → Int32} (h : Eq9 A A') (h' : Eq9 B B') (fl : Int32 → Int32) (s : Int32) (t : Nat) : mtT A B fl s t = mtT A' B' fl s t := by unfold mtT; rw [h.ln, h'.ln, h.gap h']
theorem Eq9.mD {A B A' B' : Nat → Int32} (h : Eq9 A A') (h' : Eq9 B B') (fl : Int32 → Int32) (s : Int32) : ∀ d, mtD A B fl s d = mtD A' B' fl s d := by
  intro d
  induction d with
  | zero => rfl
  | succ d ih => rw [mtD, mtD, h.mT h', ih]
theorem Eq9.me {A B A' B' : Nat → Int32} (h : Eq9 A A') (h' : Eq9 B B') (fl : Int32 → Int32) (s : Int32) : met A B fl s = met A' B' fl s := h.mD h' fl s 60
theorem Eq9.mP {A B A' B' : Nat → Int32} (h : Eq9 A A') (h' : Eq9 B B') (fl : Int32 → Int32) (u : Nat) : metP A B fl u = metP A' B' fl u := by unfold metP; rw [h.pos, h'.pos]
/-- the flows matter only in the six lanes -/
theorem meets_L {k1 k2 : Nat} (hk1 : K0 k1 = 6) (hk2 : K0 k2 = 6) {A B : Nat → Int32} (hA : GR A) (hB : GR B) {fl : Int32 → Int32} (s : Int32) : ∀ (d n : Nat) (σ : Sto), d < n → d ≤ 60 → Fl σ fl → S8 σ k1 = A → S8 σ k2 = B → σ.1 58 4 = pPos A fl (60 - d) → σ.1 58 5 = pPos B fl (60 - d) →
    ∃ τ, f_X5_meets_L9 k1 k2 s n (nI (60 - d)) σ = some ((mtD A B fl s d).isSome, τ) ∧ (∀ a b, a ≠ 58 → τ.1 a b = σ.1 a b) ∧ ∀ u, mtD A B fl s d = some u → τ.1 58 1 = nI u ∧ τ.1 58 2 = metP A B fl u ∧ τ.1 58 3 = pLn A u := by
  have n1 : k1 ≠ 58 := by rintro rfl; revert hk1; decide
  have n1' : k1 + 1 ≠ 58 := by intro h; have : k1 = 57 := by omega
                               subst this; revert hk1; decide
  have n2 : k2 ≠ 58 := by rintro rfl; revert hk2; decide
  have n2' : k2 + 1 ≠ 58 := by intro h; have : k2 = 57 := by omega
                               subst this; revert hk2; decide
  intro d
  induction d with
  | zero =>
    intro n σ h1 _ _ _ _ _ _
    obtain ⟨n, rfl⟩ : ∃ n', n = n' + 1 := ⟨n - 1, by omega⟩
    refine ⟨σ, ?_, fun _ _ _ => rfl, fun u hu => by cases hu⟩
    rw [f_X5_meets_L9, if_pos (by decide)]
    rfl
  | succ d ih =>
    intro n σ h1 h2 hf e1 e2 e4 e5
    obtain ⟨n, rfl⟩ : ∃ n', n = n' + 1 := ⟨n - 1, by omega⟩
    obtain ⟨t, ht, hd⟩ : ∃ t, t < 60 ∧ d = 59 - t := ⟨59 - d, by omega, by omega⟩
    have hu1 : 60 - (d + 1) = t := by omega
    have hu2 : 60 - d = t + 1 := by omega
    rw [hu1] at e4 e5 ⊢
    have hstep : mtD A B fl s (d + 1) = if mtT A B fl s t = true then some t else mtD A B fl s d := by rw [mtD, show 59 - d = t by omega]
    generalize h1' : sI σ 58 4 (pPos A fl (t + 1)) = σ1
    generalize h2' : sI σ1 58 5 (pPos B fl (t + 1)) = σ2
    have o1 : ∀ a b, a ≠ 58 → σ1.1 a b = σ.1 a b := fun a b h => by rw [← h1', sI_ne h]
    have o2 : ∀ a b, a ≠ 58 → σ2.1 a b = σ.1 a b := fun a b h => by rw [← h2', sI_ne h, o1 a b h]
    have a1 : ∀ {τ : Sto}, (∀ a b, a ≠ 58 → τ.1 a b = σ.1 a b) → S8 τ k1 = A ∧ S8 τ k2 = B ∧ Fl τ fl := fun {τ} o => ⟨by rw [← e1]; exact S8_congr (fun j => o _ j n1) (fun j => o _ j n1'), by rw [← e2]; exact S8_congr (fun j => o _ j n2) (fun j => o _ j n2'), fun i hi => by rw [o 59 i (by decide)]; exact hf i hi⟩
    obtain ⟨p1, p2, p3⟩ := a1 (τ := σ1) o1
    obtain ⟨q1, q2, q3⟩ := a1 (τ := σ2) o2
    have x1 : f_X5_placeNext σ k1 (σ.1 58 4) (nI t) = some (pPos A fl (t + 1)) := by
      rw [e4, next8 hk1 (by rw [e1]; exact hA) hf _ ht, e1, pPos]
    have x2 : f_X5_placeNext σ1 k2 (σ1.1 58 5) (nI t) = some (pPos B fl (t + 1)) := by
      rw [show σ1.1 58 5 = pPos B fl t by rw [← h1', sI_nj (by decide), e5], next8 hk2 (by rw [p2]; exact hB) p3 _ ht, p2, pPos]
    have x3 : f_X6_laneIn σ2 k1 (nI t) = some (pLn A t) := by rw [lane8 hk1 ht, q1]
    have x4 : f_X6_laneIn σ2 k2 (nI t) = some (pLn B t) := by rw [lane8 hk2 ht, q2]
    have g4 : σ2.1 58 4 = pPos A fl (t + 1) := by rw [← h2', sI_nj (by decide), ← h1', sI_at, if_pos rfl]
    have g5 : σ2.1 58 5 = pPos B fl (t + 1) := by rw [← h2', sI_at, if_pos rfl]
    have x5 : f_X5_gap σ2 k1 = some (gapT A B fl (t + 1)) := by
      unfold f_X5_gap gapT
      rw [show σ2.1 k1 2 = A 2 by rw [← q1]; rfl, g4, g5]
      by_cases h : A 2 = 0
      · rw [if_pos h, if_pos h]
      · rw [if_neg h, if_neg h]
    have next : mtT A B fl s t = false → ∃ τ, f_X5_meets_L9 k1 k2 s n (nI t + 1) σ2 = some ((mtD A B fl s (d + 1)).isSome, τ) ∧ (∀ a b, a ≠ 58 → τ.1 a b = σ.1 a b) ∧ ∀ u, mtD A B fl s (d + 1) = some u → τ.1 58 1 = nI u ∧ τ.1 58 2 = metP A B fl u ∧ τ.1 58 3 = pLn A u := by
      intro hm
      rw [hstep, hm, if_neg (by decide), nI_1, ← hu2]
      obtain ⟨τ, t1, t2, t3⟩ := ih n σ2 (by omega) (by omega) q3 q1 q2 (by rw [g4, hu2]) (by rw [g5, hu2])
      exact ⟨τ, t1, fun a b h => by rw [t2 a b h, o2 a b h], t3⟩
    rw [f_X5_meets_L9, if_neg (show ¬ (60 : Int32) ≤ nI t from nI_ge (b := 60) ht (by omega)), x1, bind_s, lp_b, h1', x2, bind_s, lp_b, h2', x3, bind_s, x4, bind_s]
    unfold f_X5_meets_L103
    by_cases hl : pLn A t = pLn B t
    · rw [if_pos hl, x5, bind_s]
      by_cases hg : s < gapT A B fl (t + 1)
      · rw [if_pos hg]
        exact next (by unfold mtT; rw [decide_eq_true hg]; simp)
      · have hm : mtT A B fl s t = true := by unfold mtT; rw [decide_eq_true hl, decide_eq_false hg]; rfl
        rw [if_neg hg, hstep, hm, if_pos rfl, lp_b]
        generalize h3' : sI σ2 58 1 (nI t) = σ3
        have z4 : σ3.1 58 4 = pPos A fl (t + 1) := by rw [← h3', sI_nj (by decide), g4]
        have z5 : σ3.1 58 5 = pPos B fl (t + 1) := by rw [← h3', sI_nj (by decide), g5]
        rw [lp_b, z4, z5]
        generalize h4' : sI σ3 58 2 ((pPos A fl (t + 1) + pPos B fl (t + 1)) / 2) = σ4
        have o4 : ∀ a b, a ≠ 58 → σ4.1 a b = σ.1 a b := fun a b h => by rw [← h4', sI_ne h, ← h3', sI_ne h, o2 a b h]
        rw [lane8 hk1 ht, (a1 o4).1, bind_s, lp_b]
        refine ⟨_, rfl, fun a b h => by rw [sI_ne h, o4 a b h], fun u hu => ?_⟩
        cases hu
        refine ⟨?_, ?_, by rw [sI_at, if_pos rfl]⟩
        · rw [sI_nj (by decide), ← h4', sI_nj (by decide), ← h3', sI_at, if_pos rfl]
        · rw [sI_nj (by decide), ← h4', sI_at, if_pos rfl]
          rfl
    · rw [if_neg hl]
      exact next (by unfold mtT; rw [decide_eq_false hl]; rfl)
theorem meets8 {k1 k2 : Nat} (hk1 : K0 k1 = 6) (hk2 : K0 k2 = 6) {σ : Sto} {A B : Nat → Int32} (hA : GR A) (hB : GR B) (eA : Eq9 (S8 σ k1) A) (eB : Eq9 (S8 σ k2) B) {fl : Int32 → Int32} (hf : Fl σ fl) (s : Int32) :
    ∃ τ, f_X5_meets σ k1 k2 s = some ((met A B fl s).isSome, τ) ∧ (∀ a b, a ≠ 58 → τ.1 a b = σ.1 a b) ∧ ∀ u, met A B fl s = some u → τ.1 58 1 = nI u ∧ τ.1 58 2 = metP A B fl u ∧ τ.1 58 3 = pLn A u := by
  have n1 : k1 ≠ 58 := by rintro rfl; revert hk1; decide
  have n1' : k1 + 1 ≠ 58 := by intro h; have : k1 = 57 := by omega
                               subst this; revert hk1; decide
  have n2 : k2 ≠ 58 := by rintro rfl; revert hk2; decide
  have n2' : k2 + 1 ≠ 58 := by intro h; have : k2 = 57 := by omega
                               subst this; revert hk2; decide
  generalize h1' : sI σ 58 4 (pPos (S8 σ k1) fl 0) = σ1
  generalize h2' : sI σ1 58 5 (pPos (S8 σ k2) fl 0) = σ2
  have o1 : ∀ a b, a ≠ 58 → σ1.1 a b = σ.1 a b := fun a b h => by rw [← h1', sI_ne h]
  have o2 : ∀ a b, a ≠ 58 → σ2.1 a b = σ.1 a b := fun a b h => by rw [← h2', sI_ne h, o1 a b h]
  have b2 : S8 σ1 k2 = S8 σ k2 := S8_congr (fun j => o1 _ j n2) (fun j => o1 _ j n2')
  have c1 : S8 σ2 k1 = S8 σ k1 := S8_congr (fun j => o2 _ j n1) (fun j => o2 _ j n1')
  have c2 : S8 σ2 k2 = S8 σ k2 := S8_congr (fun j => o2 _ j n2) (fun j => o2 _ j n2')
  obtain ⟨τ, t1, t2, t3⟩ := meets_L hk1 hk2 (eA.gr hA) (eB.gr hB) (fl := fl) s 60 FU σ2 (by unfold FU; omega) (by omega) (fun i hi => by rw [o2 59 i (by decide)]; exact hf i hi) c1 c2 (by rw [← h2', sI_nj (by decide), ← h1', sI_at, if_pos rfl]) (by rw [← h2', sI_at, if_pos rfl])
  have em : mtD (S8 σ k1) (S8 σ k2) fl s 60 = met A B fl s := eA.me eB fl s
  rw [em] at t1 t3
  refine ⟨τ, ?_, fun a b h => by rw [t2 a b h, o2 a b h], fun u hu => ?_⟩
  · unfold f_X5_meets f_X5_begin
    rw [shore8 (fl := fl), bind_s, lp_b, h1', shore8 (fl := fl), bind_s, b2, lp_b, h2', bind_s]
    exact t1
  · obtain ⟨v1, v2, v3⟩ := t3 u hu
    exact ⟨v1, by rw [v2, eA.mP eB], by rw [v3, eA.ln]⟩
