/-! The search from its beginning. -/
theorem cpA_r {σ τ : Sto} {a b : Nat} {i j n : Int32} (h : cpA σ a i b j n = some τ) : τ.2 = σ.2 := by
  unfold cpA at h
  split at h
  · cases h; rfl
  · cases h
theorem bind_r {x : Option Sto} {σ τ : Sto} (h : x.bind (fun σ51 => some σ51) = some τ) (hx : ∀ υ, x = some υ → υ.2 = σ.2) : τ.2 = σ.2 := by
  cases x with
  | none => cases h
  | some υ => cases h; exact hx _ rfl
theorem copy6_r {σ τ : Sto} {t k : Nat} (h : f_X6_copy σ t k = some τ) : τ.2 = σ.2 := by
  unfold f_X6_copy at h
  simp only [lp_b] at h
  exact bind_r h (fun υ hυ => (cpA_r hυ).trans rfl)
theorem seek_L {B : Nat → Int32} {fl : Int32 → Int32} {q : Nat} (hq : q < 8) (gB : GR B) : ∀ (d n t : Nat) (σ : Sto), t + d = 60 → d < n → Fl σ fl → Eq9 (S8 σ (12 + 2 * q)) B → (∀ w, w < t → σ.1 64 w = pPos B fl (w + 1)) →
    ∃ τ, f_X2_seek_L43 (12 + 2 * q) n (pPos B fl t) (nI t) σ = (f_X6_shore τ 62).bind (fun r85 => (g_X2_tryLanes 8 0 (0 : Int32) r85 τ).bind (fun r88 => some r88)) ∧ τ.2 = σ.2 ∧ (∀ w, w < 60 → τ.1 64 w = pPos B fl (w + 1)) ∧ ∀ a b, a ≠ 64 → τ.1 a b = σ.1 a b := by
  intro d
  induction d with
  | zero =>
    intro n t σ h1 h2 _ _ h64
    obtain ⟨n, rfl⟩ : ∃ n', n = n' + 1 := ⟨n - 1, by omega⟩
    obtain rfl : t = 60 := by omega
    refine ⟨σ, ?_, rfl, h64, fun _ _ _ => rfl⟩
    rw [f_X2_seek_L43, if_pos (show (60 : Int32) ≤ nI 60 by decide)]
  | succ d ih =>
    intro n t σ h1 h2 hF hB h64
    obtain ⟨n, rfl⟩ : ∃ n', n = n' + 1 := ⟨n - 1, by omega⟩
    have ht : t < 60 := by omega
    have o : ∀ a b, a ≠ 64 → (sI σ 64 t (pPos B fl (t + 1))).1 a b = σ.1 a b := fun a b h => sI_ne h
    obtain ⟨τ, t1, t2, t3, t4⟩ := ih n (t + 1) (sI σ 64 t (pPos B fl (t + 1))) (by omega) (by omega) (fun i hi => by rw [o 59 i (by decide)]; exact hF i hi) (by rw [S8_congr (fun j => o _ j (by omega)) (fun j => o _ j (by omega))]; exact hB) (fun w hw => by
      rw [sI_at]
      by_cases h : w = t
      · rw [if_pos h, h]
      · rw [if_neg h]; exact h64 w (by omega))
    refine ⟨τ, ?_, t2, t3, fun a b h => by rw [t4 a b h, o a b h]⟩
    rw [f_X2_seek_L43, if_neg (show ¬ (60 : Int32) ≤ nI t from nI_ge (b := 60) ht (by omega)), next8 (K12 q hq) (hB.gr gB) hF _ ht, bind_s, hB.go, ← pPos, wr_nI (by show t < 60; exact ht), bind_s, nI_1, t1]
theorem seek8 {σ : Sto} {A B : Nat → Int32} {fl : Int32 → Int32} (s : Int32) {p q : Nat} (hp : p < 8) (hq : q < 8) (gA : GR A) (gB : GR B) (hF : Fl σ fl) (hA : Eq9 (S8 σ (12 + 2 * p)) A) (hB : Eq9 (S8 σ (12 + 2 * q)) B) :
    ∃ τ, f_X2_seek σ (12 + 2 * p) (12 + 2 * q) s = some τ ∧ BS τ (bpN A B fl s 0 1296 none) ∧ ∀ a b, a ≠ 60 → a ≠ 61 → a ≠ 62 → a ≠ 63 → a ≠ 64 → τ.1 a b = σ.1 a b := by
  generalize hα : sI (sI (sI (sR (sR σ 60 5 (some 58)) 60 6 (some (12 + 2 * q))) 60 7 s) 60 0 0) 60 1 0 = α
  have a1 : ∀ a b, a ≠ 60 → α.1 a b = σ.1 a b := fun a b h => by rw [← hα, sI_ne h, sI_ne h, sI_ne h]; rfl
  have a2 : α.1 60 0 = 0 := by rw [← hα, sI_nj (by decide), sI_at, if_pos rfl]
  have a7 : α.1 60 7 = s := by rw [← hα, sI_nj (by decide), sI_nj (by decide), sI_at, if_pos rfl]
  have a5 : α.2 60 5 = some 58 ∧ α.2 60 6 = some (12 + 2 * q) := by rw [← hα]; exact ⟨rfl, rfl⟩
  obtain ⟨β, b1, b2, b3⟩ := copy6g α (t := 62) (k := 12 + 2 * p) (by decide) (K12 p hp) (by omega)
  have b4 : β.2 = α.2 := copy6_r b1
  have eB : Eq9 (S8 β (12 + 2 * q)) B := by
    rw [S8_congr (fun j => b3 _ j (by omega) (by omega)) (fun j => b3 _ j (by omega) (by omega)), S8_congr (fun j => a1 _ j (by omega)) (fun j => a1 _ j (by omega))]
    exact hB
  have eA : Eq9 (S8 β 62) A := b2.tr (by
    rw [S8_congr (fun j => a1 _ j (by omega)) (fun j => a1 _ j (by omega))]
    exact hA)
  have hFβ : Fl β fl := fun i hi => by rw [b3 59 i (by decide) (by decide), a1 59 i (by decide)]; exact hF i hi
  obtain ⟨γ, c1, c2, c3, c4⟩ := seek_L (fl := fl) hq gB 60 FU 0 β (by omega) (by unfold FU; omega) hFβ eB (fun w hw => by omega)
  have eA' : ∀ j, j < 5 → γ.1 62 j = A j := fun j hj => by
    rw [c4 62 j (by decide)]
    have h := eA j (by omega)
    unfold S8 at h
    rw [if_pos hj] at h
    exact h
  have hS : SS A B fl s q γ := ⟨fun i hi => by rw [c4 59 i (by decide)]; exact hFβ i hi, by rw [c2, b4]; exact a5.1, by rw [c2, b4]; exact a5.2, eA', by rw [S8_congr (fun j => c4 _ j (by omega)) (fun j => c4 _ j (by omega))]; exact eB, by rw [c4 60 7 (by decide), b3 60 7 (by decide) (by decide)]; exact a7, c3⟩
  have hb : BS γ none := ⟨fun _ => by rw [c4 60 0 (by decide), b3 60 0 (by decide) (by decide)]; exact a2, fun x hx => by cases hx⟩
  obtain ⟨δ, d1, d2, d3⟩ := try8 hq gA 3 0 8 (by omega) (by omega) 0 γ none (by omega) (by decide) hS hb (fun i hi => by omega) (fun w hw => by omega)
  have e0 : pPos (PL A (pv 0)) fl (10 * 0) = pPos A fl 0 := by
    rw [show 10 * 0 = 0 by omega, pPos, pPos, PL_lo (by omega)]
  have esh : f_X6_shore γ 62 = some (pPos A fl 0) := by
    rw [shore8 (fl := fl), pPos, pPos, show S8 γ 62 2 = A 2 from eA' 2 (by omega)]
  refine ⟨δ, ?_, d2, fun a b h0 h1 h2 h3 h4 => by rw [d3.2.2 a b h1 h3 (fun z => h0 z.1), c4 a b h4, b3 a b h2 h3, a1 a b h0]⟩
  unfold f_X2_seek
  simp only [lp_b]
  rw [hα, b1, bind_s, shore8 (fl := fl), bind_s, eB.pos, show (0 : Int32) = nI 0 from rfl, c1, esh, bind_s]
  rw [e0] at d1
  rw [show (0 : Int32) = nI 0 from rfl, d1, bind_s]
