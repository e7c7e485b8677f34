/-! Lakes copied whole: image, restore; a new swimmer. -/
theorem copy6g (σ : Sto) {t k : Nat} (ht : K0 t = 6) (hk : K0 k = 6) (hd : t + 1 < k ∨ k + 1 < t) : ∃ τ, f_X6_copy σ t k = some τ ∧ Eq9 (S8 τ t) (S8 σ k) ∧ ∀ a b, a ≠ t → a ≠ t + 1 → τ.1 a b = σ.1 a b := by
  obtain ⟨k1, k2, -⟩ := sw6 hk
  obtain ⟨t1, t2, -⟩ := sw6 ht
  have hkt : k ≠ t := by omega
  unfold f_X6_copy
  simp only [lp_b, sI_ne hkt]
  generalize hρ : sI (sI (sI (sI (sI σ t 0 (σ.1 k 0)) t 1 (σ.1 k 1)) t 2 (σ.1 k 2)) t 3 (σ.1 k 3)) t 4 (σ.1 k 4) = ρ
  have r1 : ∀ a b, a ≠ t → ρ.1 a b = σ.1 a b := fun a b h => by rw [← hρ, sI_ne h, sI_ne h, sI_ne h, sI_ne h, sI_ne h]
  have r2 : ∀ j, j < 5 → ρ.1 t j = σ.1 k j := by
    intro j hj
    rw [← hρ, sI_at, sI_at, sI_at, sI_at, sI_at]
    rcases (show j = 0 ∨ j = 1 ∨ j = 2 ∨ j = 3 ∨ j = 4 by omega) with rfl | rfl | rfl | rfl | rfl <;> rfl
  rw [k1, t1, show (4 : Int32) = nI 4 from rfl, cpA_n (by omega) (by omega), bind_s]
  refine ⟨_, rfl, fun j hj => ?_, fun a b h1 h2 => by rw [sW_ne h2, r1 a b h1]⟩
  unfold S8
  by_cases h : j < 5
  · rw [if_pos h, if_pos h, sW_ne (by omega), r2 j h]
  · rw [if_neg h, if_neg h, sW_at, if_pos (by omega), r1 _ _ (by omega)]
theorem x1copy (σ : Sto) {k m : Nat} (hk : k = 4 ∨ k = 7 ∨ k = 31 ∨ k = 34) (hm : m = 4 ∨ m = 7 ∨ m = 31 ∨ m = 34) (hkm : k ≠ m) : ∃ τ, f_X1_copy σ k m = some τ ∧ τ.1 k 3 = σ.1 m 3 ∧ (∀ i, i < 50 → τ.1 (k + 1) i = σ.1 (m + 1) i) ∧ ∀ a b, ¬ (a = k ∧ b = 3) → a ≠ k + 1 → τ.1 a b = σ.1 a b := by
  have f : ∀ x, x = 4 ∨ x = 7 ∨ x = 31 ∨ x = 34 → A0 x 1 = x + 1 ∧ Ln0 (x + 1) = 50 := by rintro x (rfl | rfl | rfl | rfl) <;> decide
  obtain ⟨k1, k2⟩ := f k hk
  obtain ⟨m1, m2⟩ := f m hm
  unfold f_X1_copy
  rw [lp_b, k1, m1, show (50 : Int32) = nI 50 from rfl, cpA_n (by omega) (by omega), bind_s]
  refine ⟨_, rfl, ?_, fun i hi => ?_, fun a b h1 h2 => ?_⟩
  · rw [sW_ne (by omega), sI_at, if_pos rfl]
  · rw [sW_at, if_pos hi, sI_ne (by omega)]
  · rw [sW_ne h2]
    show (if a = k ∧ b = 3 then _ else σ.1 a b) = _
    rw [if_neg h1]
theorem lake_f : ∀ p, p < 8 → R0 3 p = some (12 + 2 * p) ∧ R0 30 p = some (39 + 2 * p) ∧ K0 (12 + 2 * p) = 6 ∧ K0 (39 + 2 * p) = 6 := by decide
theorem sA_k {σ : Sto} {k0 N p : Nat} (hk0 : k0 = 1 ∨ k0 = 28) (hN : N ≤ 8) (e : σ.1 k0 8 = nI N) (hp : p < N) : f_X0_swimmerAt σ k0 (nI p) = some (some (k0 + 11 + 2 * p)) := by
  unfold f_X0_swimmerAt
  rw [out_eq, bind_s, e, isO_ge hN hp, if_neg (by decide), if_pos (show nI p < 8 from nI_lt (b := 8) (by omega) (by omega))]
  rcases hk0 with rfl | rfl
  · rw [show A0 1 7 = 3 by decide, rdR_nI (by show p < 8; omega), bind_s, (lake_f p (by omega)).1, show 1 + 11 + 2 * p = 12 + 2 * p by omega]
  · rw [show A0 28 7 = 30 by decide, rdR_nI (by show p < 8; omega), bind_s, (lake_f p (by omega)).2.1, show 28 + 11 + 2 * p = 39 + 2 * p by omega]
theorem sw_K {k0 p : Nat} (hk0 : k0 = 1 ∨ k0 = 28) (hp : p < 8) : K0 (k0 + 11 + 2 * p) = 6 := by
  obtain ⟨-, -, h1, h2⟩ := lake_f p hp
  rcases hk0 with rfl | rfl
  · rw [show 1 + 11 + 2 * p = 12 + 2 * p by omega]; exact h1
  · rw [show 28 + 11 + 2 * p = 39 + 2 * p by omega]; exact h2
theorem swc_L {k0 k1 N : Nat} (hk : (k0 = 28 ∧ k1 = 1) ∨ (k0 = 1 ∧ k1 = 28)) (hN : N ≤ 8) : ∀ (d n : Nat) (σ : Sto), d ≤ N → d < n → σ.1 k0 8 = nI N → σ.1 k1 8 = nI N → ∃ τ, f_X0_copy_L149 k0 k1 n (nI (N - d)) σ = some τ ∧ (∀ p, N - d ≤ p → p < N → Eq9 (S8 τ (k0 + 11 + 2 * p)) (S8 σ (k1 + 11 + 2 * p))) ∧ ∀ a b, ¬ (k0 + 11 + 2 * (N - d) ≤ a ∧ a < k0 + 11 + 2 * N) → τ.1 a b = σ.1 a b := by
  intro d
  induction d with
  | zero =>
    intro n σ _ hn e0 _
    obtain ⟨n, rfl⟩ : ∃ n', n = n' + 1 := ⟨n - 1, by omega⟩
    rw [f_X0_copy_L149, e0, if_pos (nI_le (by omega) (by omega))]
    exact ⟨σ, rfl, fun p h1 h2 => by omega, fun _ _ _ => rfl⟩
  | succ d ih =>
    intro n σ hd hn e0 e1
    obtain ⟨n, rfl⟩ : ∃ n', n = n' + 1 := ⟨n - 1, by omega⟩
    have e : N - d = (N - (d + 1)) + 1 := by omega
    have hpN : N - (d + 1) < N := by omega
    obtain ⟨τ, t1, t2, t3⟩ := copy6g σ (t := k0 + 11 + 2 * (N - (d + 1))) (k := k1 + 11 + 2 * (N - (d + 1))) (sw_K (by omega) (by omega)) (sw_K (by omega) (by omega)) (by omega)
    obtain ⟨υ, u1, u2, u3⟩ := ih n τ (by omega) (by omega) (by rw [t3 _ _ (by omega) (by omega)]; exact e0) (by rw [t3 _ _ (by omega) (by omega)]; exact e1)
    rw [f_X0_copy_L149, e0, if_neg (nI_ge (by omega) (by omega)), sA_k (by omega) hN e0 hpN, bind_s, sA_k (by omega) hN e1 hpN, bind_s, onN_1, onN_1, if_pos (sw_K (by omega) (by omega)), if_pos (sw_K (by omega) (by omega)), t1, bind_s]
    unfold f_X0_copy_L185
    rw [nI_1, ← e]
    refine ⟨υ, u1, fun p h1 h2 => ?_, fun a b h => by rw [u3 a b (by omega), t3 a b (by omega) (by omega)]⟩
    by_cases hp : p = N - (d + 1)
    · subst hp
      rw [S8_congr (fun j => u3 _ j (by omega)) (fun j => u3 _ j (by omega))]
      exact t2
    · refine (u2 p (by omega) h2).tr (fun j hj => ?_)
      rw [S8_congr (fun j => t3 _ j (by omega) (by omega)) (fun j => t3 _ j (by omega) (by omega))]
theorem x0copy (σ : Sto) {k0 k1 N : Nat} (hk : (k0 = 28 ∧ k1 = 1) ∨ (k0 = 1 ∧ k1 = 28)) (hN : N ≤ 8) (eN : σ.1 k1 8 = nI N) :
    ∃ τ, f_X0_copy σ k0 k1 = some τ ∧ (∀ q ∈ mpL, τ.1 k0 q.2 = σ.1 k1 q.2) ∧ (∀ i, i < 6 → τ.1 (k0 + 1) i = σ.1 (k1 + 1) i) ∧ (∀ i, i < 50 → τ.1 (k0 + 9) i = σ.1 (k1 + 9) i) ∧ (∀ i, i < 20 → τ.1 (k0 + 10) i = σ.1 (k1 + 10) i) ∧ (τ.1 (k0 + 3) 3 = σ.1 (k1 + 3) 3 ∧ ∀ i, i < 50 → τ.1 (k0 + 4) i = σ.1 (k1 + 4) i) ∧ (τ.1 (k0 + 6) 3 = σ.1 (k1 + 6) 3 ∧ ∀ i, i < 50 → τ.1 (k0 + 7) i = σ.1 (k1 + 7) i) ∧ (∀ p, p < N → Eq9 (S8 τ (k0 + 11 + 2 * p)) (S8 σ (k1 + 11 + 2 * p))) ∧ (∀ j, j ≠ 3 → τ.1 (k0 + 3) j = σ.1 (k0 + 3) j ∧ τ.1 (k0 + 6) j = σ.1 (k0 + 6) j) ∧ ∀ a b, ¬ (k0 ≤ a ∧ a ≤ k0 + 26) → τ.1 a b = σ.1 a b := by
  have hne : k1 ≠ k0 := by omega
  have A : A0 k0 9 = k0 + 3 ∧ A0 k0 10 = k0 + 6 ∧ A0 k0 0 = k0 + 1 ∧ A0 k0 11 = k0 + 9 ∧ A0 k0 13 = k0 + 10 ∧ A0 k1 9 = k1 + 3 ∧ A0 k1 10 = k1 + 6 ∧ A0 k1 0 = k1 + 1 ∧ A0 k1 11 = k1 + 9 ∧ A0 k1 13 = k1 + 10 := by rcases hk with ⟨rfl, rfl⟩ | ⟨rfl, rfl⟩ <;> decide
  have L : Ln0 (k0 + 1) = 6 ∧ Ln0 (k0 + 9) = 50 ∧ Ln0 (k0 + 10) = 20 ∧ Ln0 (k1 + 1) = 6 ∧ Ln0 (k1 + 9) = 50 ∧ Ln0 (k1 + 10) = 20 := by rcases hk with ⟨rfl, rfl⟩ | ⟨rfl, rfl⟩ <;> decide
  obtain ⟨A1, A2, A3, A4, A5, B1, B2, B3, B4, B5⟩ := A
  obtain ⟨L1, L2, L3, M1, M2, M3⟩ := L
  unfold f_X0_copy
  simp only [lp_b, sI_ne hne]
  generalize hρ : sI (sI (sI (sI (sI (sI (sI (sI (sI (sI σ k0 1 (σ.1 k1 1)) k0 2 (σ.1 k1 2)) k0 3 (σ.1 k1 3)) k0 4 (σ.1 k1 4)) k0 5 (σ.1 k1 5)) k0 6 (σ.1 k1 6)) k0 8 (σ.1 k1 8)) k0 12 (σ.1 k1 12)) k0 14 (σ.1 k1 14)) k0 15 (σ.1 k1 15) = ρ
  have r1 : ∀ a b, a ≠ k0 → ρ.1 a b = σ.1 a b := fun a b h => by rw [← hρ, sI_ne h, sI_ne h, sI_ne h, sI_ne h, sI_ne h, sI_ne h, sI_ne h, sI_ne h, sI_ne h, sI_ne h]
  have r2 : ∀ q ∈ mpL, ρ.1 k0 q.2 = σ.1 k1 q.2 := by
    intro q hq
    rw [← hρ, sI_at, sI_at, sI_at, sI_at, sI_at, sI_at, sI_at, sI_at, sI_at, sI_at]
    simp only [mpL, List.mem_cons, List.not_mem_nil, or_false] at hq
    rcases hq with rfl | rfl | rfl | rfl | rfl | rfl | rfl | rfl | rfl | rfl <;> rfl
  obtain ⟨α, a1, a2, a3, a4⟩ := x1copy ρ (k := k0 + 3) (m := k1 + 3) (by omega) (by omega) (by omega)
  obtain ⟨β, b1, b2, b3, b4⟩ := x1copy α (k := k0 + 6) (m := k1 + 6) (by omega) (by omega) (by omega)
  rw [A1, A2, A3, A4, A5, B1, B2, B3, B4, B5, a1, bind_s, b1, bind_s, show (6 : Int32) = nI 6 from rfl, show (50 : Int32) = nI 50 from rfl, show (20 : Int32) = nI 20 from rfl, cpA_n (by omega) (by omega), bind_s, cpA_n (by omega) (by omega), bind_s, cpA_n (by omega) (by omega), bind_s]
  generalize hγ : sW (sW (sW β (k0 + 1) _) (k0 + 9) _) (k0 + 10) _ = γ
  have g1 : ∀ i, i < 6 → γ.1 (k0 + 1) i = β.1 (k1 + 1) i := fun i hi => by rw [← hγ, sW_ne (by omega), sW_ne (by omega), sW_at, if_pos hi]
  have g2 : ∀ i, i < 50 → γ.1 (k0 + 9) i = β.1 (k1 + 9) i := fun i hi => by rw [← hγ, sW_ne (by omega), sW_at, if_pos hi, sW_ne (by omega)]
  have g3 : ∀ i, i < 20 → γ.1 (k0 + 10) i = β.1 (k1 + 10) i := fun i hi => by rw [← hγ, sW_at, if_pos hi, sW_ne (by omega), sW_ne (by omega)]
  have g4 : ∀ a b, a ≠ k0 + 1 → a ≠ k0 + 9 → a ≠ k0 + 10 → γ.1 a b = β.1 a b := fun a b h1 h2 h3 => by rw [← hγ, sW_ne h3, sW_ne h2, sW_ne h1]
  have o : ∀ a b, ¬ (k0 ≤ a ∧ a ≤ k0 + 10) → γ.1 a b = σ.1 a b := fun a b h => by rw [g4 a b (by omega) (by omega) (by omega), b4 a b (by omega) (by omega), a4 a b (by omega) (by omega), r1 a b (by omega)]
  have oβ : ∀ a b, ¬ (k0 ≤ a ∧ a ≤ k0 + 10) → β.1 a b = σ.1 a b := fun a b h => by rw [b4 a b (by omega) (by omega), a4 a b (by omega) (by omega), r1 a b (by omega)]
  have gk : ∀ j, γ.1 k0 j = ρ.1 k0 j := fun j => by rw [g4 _ _ (by omega) (by omega) (by omega), b4 _ _ (by omega) (by omega), a4 _ _ (by omega) (by omega)]
  obtain ⟨τ, t1, t2, t3⟩ := swc_L hk hN N FU γ (by omega) (by unfold FU; omega) (by rw [gk, r2 (12, 8) (by decide)]; exact eN) (by rw [o _ _ (by omega)]; exact eN)
  rw [Nat.sub_self] at t1 t2 t3
  have tl : ∀ a b, a < k0 + 11 → τ.1 a b = γ.1 a b := fun a b h => t3 a b (by omega)
  refine ⟨τ, t1, fun q hq => ?_, fun i hi => ?_, fun i hi => ?_, fun i hi => ?_, ⟨?_, fun i hi => ?_⟩, ⟨?_, fun i hi => ?_⟩, fun p hp => ?_, fun j hj => ⟨?_, ?_⟩, fun a b h => by rw [t3 a b (by omega), o a b (by omega)]⟩
  · rw [tl _ _ (by omega), gk, r2 q hq]
  · rw [tl _ _ (by omega), g1 i hi, oβ _ _ (by omega)]
  · rw [tl _ _ (by omega), g2 i hi, oβ _ _ (by omega)]
  · rw [tl _ _ (by omega), g3 i hi, oβ _ _ (by omega)]
  · rw [tl _ _ (by omega), g4 _ _ (by omega) (by omega) (by omega), b4 _ _ (by omega) (by omega), a2, r1 _ _ (by omega)]
  · rw [tl _ _ (by omega), g4 _ _ (by omega) (by omega) (by omega), b4 _ _ (by omega) (by omega), show k0 + 4 = k0 + 3 + 1 by omega, a3 i hi, r1 _ _ (by omega)]
  · rw [tl _ _ (by omega), g4 _ _ (by omega) (by omega) (by omega), b2, a4 _ _ (by omega) (by omega), r1 _ _ (by omega)]
  · rw [tl _ _ (by omega), g4 _ _ (by omega) (by omega) (by omega), show k0 + 7 = k0 + 6 + 1 by omega, b3 i hi, a4 _ _ (by omega) (by omega), r1 _ _ (by omega)]
  · refine (t2 p (by omega) hp).tr (fun j hj => ?_)
    rw [S8_congr (fun j => o _ j (by omega)) (fun j => o _ j (by omega))]
  · rw [tl _ _ (by omega), g4 _ _ (by omega) (by omega) (by omega), b4 _ _ (by omega) (by omega), a4 _ _ (by omega) (by omega), r1 _ _ (by omega)]
  · rw [tl _ _ (by omega), g4 _ _ (by omega) (by omega) (by omega), b4 _ _ (by omega) (by omega), a4 _ _ (by omega) (by omega), r1 _ _ (by omega)]
theorem CD.copy {k k' A A' u : Nat} (hu : u ≤ 1) {σ υ : Sto} (h : CD k A u σ) (h1 : υ.1 k' 3 = σ.1 k 3) (h2 : ∀ i, i < 50 → υ.1 (k' + 1) i = σ.1 (k + 1) i) (h3 : ∀ i, i < 270 → υ.1 A' i = σ.1 A i) : CD k' A' u υ := by
  obtain ⟨n, q1, q2, q3, q4, q5⟩ := h
  refine ⟨n, q1, by rw [h1]; exact q2, by rw [h3 _ (by omega)]; exact q3, fun i hi => by rw [h2 i (by omega), h3 _ (by omega)]; exact q4 i hi, q5.imp id (fun q => ?_)⟩
  rw [show codeL (υ.1 A') u n = codeL (σ.1 A) u n from List.map_congr_left (fun i hi => h3 _ (by have := List.mem_range.mp hi; omega))]
  exact q
theorem okv_hi {i : Nat} (h : 270 ≤ i) (v : Int32) : okv i v = true := by
  unfold okv
  rw [if_neg (by omega), if_neg (by omega), if_neg (by omega), if_neg (by omega), if_neg (by omega), if_neg (by omega)]
/-- a lake copied by both -/
theorem LR.copy {k0 k1 A A' : Nat} {σ τ υ : Sto} (hk : (k0 = 28 ∧ k1 = 1 ∧ A = 82 ∧ A' = 84) ∨ (k0 = 1 ∧ k1 = 28 ∧ A = 84 ∧ A' = 82)) (h : LR k1 A σ) (e : f_X0_copy σ k0 k1 = some τ) (hr : ∀ i, i < 270 → υ.1 A' i = σ.1 A i) (hl : ∀ a b, k0 ≤ a → a ≤ k0 + 26 → υ.1 a b = τ.1 a b) : LR k0 A' υ := by
  obtain ⟨h1, h2, h3, h4, h5, h6, h7, h8⟩ := h
  obtain ⟨N, hN, eA, eN⟩ := okv_12 h4
  have e8 : σ.1 k1 8 = nI N := (h2 (12, 8) (by decide)).trans eA
  obtain ⟨τ', t1, t2, t3, t4, t5, t6, t7, t8, -, -⟩ := x0copy σ (k0 := k0) (k1 := k1) (by omega) hN e8
  rw [e] at t1
  cases t1
  have eN' : NN (υ.1 A') = N := by unfold NN; rw [hr 12 (by decide), eA, nI_clamp (by omega)]
  refine ⟨fun i hi => ?_, fun q hq => ?_, fun p j hp hj => ?_, fun i => ?_, fun i hi => ?_, fun i hi => ?_, h7.copy (by decide) ?_ (fun i hi => ?_) hr, h8.copy (by decide) ?_ (fun i hi => ?_) hr⟩
  · rw [hl _ _ (by omega) (by omega), t3 i hi, hr _ (by omega)]; exact h1 i hi
  · rw [hl _ _ (by omega) (by omega), t2 q hq, hr _ (by have := mp_lo q hq; omega)]; exact h2 q hq
  · rw [eN'] at hp
    rw [S8_congr (fun j => hl _ j (by omega) (by omega)) (fun j => hl _ j (by omega) (by omega)), t8 p hp j hj]
    unfold S9
    rw [hr _ (by omega)]
    exact h3 p j (by rw [eN]; exact hp) hj
  · by_cases hi : i < 270
    · rw [hr i hi]; exact h4 i
    · exact okv_hi (by omega) _
  · rw [hl _ _ (by omega) (by omega), t5 i hi, hr _ (by omega)]; exact h5 i hi
  · rw [hl _ _ (by omega) (by omega), t4 i hi, hr _ (by omega)]; exact h6 i hi
  · rw [hl _ _ (by omega) (by omega)]; exact t6.1
  · rw [hl _ _ (by omega) (by omega)]; exact t6.2 i hi
  · rw [hl _ _ (by omega) (by omega)]; exact t7.1
  · rw [hl _ _ (by omega) (by omega)]; exact t7.2 i hi
theorem s_image (b : Bool) : LPr (fun σ => f_X8_image σ) (fun σ => f_X9_image σ) b Inv Inv := by
  intro σ hI
  obtain ⟨N, hN, -, e8, -⟩ := hI.1.N
  obtain ⟨τ, t1, t2, t3, t4, t5, t6, t7, t8, t9, t10⟩ := x0copy σ (k0 := 28) (k1 := 1) (Or.inl ⟨rfl, rfl⟩) hN e8
  generalize hτ' : sI τ 0 10 (τ.1 0 10 + 1) = τ'
  have o1 : ∀ a b, a ≠ 0 → τ'.1 a b = τ.1 a b := fun a b h => by rw [← hτ', sI_ne h]
  obtain ⟨χ, c1, c2, c3⟩ := copies9 (a := 82) (b := 84) (by decide) (by decide) (by decide) τ'
  have e0 : τ.1 0 10 = σ.1 81 3 := by rw [t10 0 10 (by omega)]; exact hI.1.2.1
  have e81 : χ.1 81 3 = σ.1 81 3 := by rw [c3 81 3 (by decide), o1 81 3 (by decide), t10 81 3 (by omega)]
  refine ⟨(τ.1 0 10 + 1, τ'), (σ.1 81 3 + 1, sI χ 81 3 (σ.1 81 3 + 1)), ?_, ?_, fun _ => by show τ.1 0 10 + 1 = _; rw [e0], ?_⟩
  · show f_X8_image σ = _
    unfold f_X8_image
    rw [t1, bind_s, lp_b, hτ', ← hτ', sI_at, if_pos rfl]
  · show f_X9_image τ' = _
    unfold f_X9_image
    rw [c1, bind_s, lp_b, e81, sI_at, if_pos rfl]
  · have keep : ∀ a b, ¬ (28 ≤ a ∧ a ≤ 54) → a ≠ 84 → a ≠ 0 → ¬ (a = 81 ∧ b = 3) → (sI χ 81 3 (σ.1 81 3 + 1)).1 a b = σ.1 a b := by
      intro a b h1 h2 h3 h4
      show (if a = 81 ∧ b = 3 then _ else χ.1 a b) = _
      rw [if_neg h4, c3 a b h2, o1 a b h3, t10 a b (by omega)]
    obtain ⟨⟨q1, q2, q3, q4, q5, q6⟩, q7⟩ := hI
    refine ⟨⟨q1.keep (fun k j hk => keep k j (by unfold lkc at hk; omega) (by unfold lkc at hk; omega) (by unfold lkc at hk; omega) (by unfold lkc at hk; omega)), ?_, fun _ => ?_, q4.keep (keep _ _ (by omega) (by decide) (by decide) (by omega)) (keep _ _ (by omega) (by decide) (by decide) (by omega)) (fun j => keep _ _ (by omega) (by decide) (by decide) (by omega)) (fun j => keep _ _ (by omega) (by decide) (by decide) (by omega)), q5.keep (fun k j hk => keep k j (by omega) (by omega) (by omega) (by omega)), by unfold US; rw [keep 4 0 (by omega) (by decide) (by decide) (by omega), keep 7 0 (by omega) (by decide) (by decide) (by omega)]; exact q6⟩, fun k hk => by rw [keep 68 k (by omega) (by decide) (by decide) (by omega), keep 85 k (by omega) (by decide) (by decide) (by omega)]; exact q7 k hk⟩
    · rw [sI_ne (by decide), sI_at, if_pos rfl, c3 0 10 (by decide), ← hτ', sI_at, if_pos rfl, e0]
    · refine LR.copy (k0 := 28) (k1 := 1) (A := 82) (A' := 84) (Or.inl ⟨rfl, rfl, rfl, rfl⟩) q1 t1 (fun i hi => ?_) (fun a b h1 h2 => ?_)
      · rw [sI_ne (by decide), c2 i, if_pos hi, o1 82 i (by decide), t10 82 i (by omega)]
      · rw [sI_ne (by omega), c3 a b (by omega), o1 a b (by omega)]
theorem s_restore (b : Bool) : LPr (fun σ => f_X8_restore σ) (fun σ => f_X9_restore σ) b Inv Inv := by
  intro σ hI
  have e0 : σ.1 0 10 = σ.1 81 3 := hI.1.2.1
  by_cases h0 : σ.1 81 3 = 0
  · refine er_LPr (f := fun σ => f_X8_restore σ) (g := fun σ => f_X9_restore σ) (k := 2) hI ?_ ?_
    · show f_X8_restore σ = _
      unfold f_X8_restore
      rw [e0, if_pos h0, r8_2, bind_s]
    · show f_X9_restore (rf σ 2) = _
      unfold f_X9_restore
      rw [rf_at (by decide), if_pos h0, r9_2, bind_s]
  · have hL := hI.1.2.2.1 h0
    obtain ⟨N, hN, eA, eN⟩ := okv_12 hL.2.2.2.1
    have e8 : σ.1 28 8 = nI N := (hL.2.1 (12, 8) (by decide)).trans eA
    obtain ⟨τ, t1, t2, t3, t4, t5, t6, t7, t8, t9, t10⟩ := x0copy σ (k0 := 1) (k1 := 28) (Or.inr ⟨rfl, rfl⟩) hN e8
    obtain ⟨χ, c1, c2, c3⟩ := copies9 (a := 84) (b := 82) (by decide) (by decide) (by decide) τ
    have hχ : LR 1 82 χ := LR.copy (k0 := 1) (k1 := 28) (A := 84) (A' := 82) (Or.inr ⟨rfl, rfl, rfl, rfl⟩) hL t1 (fun i hi => by rw [c2 i, if_pos hi, t10 84 i (by omega)]) (fun a b h1 h2 => c3 a b (by omega))
    refine ⟨(τ.1 1 4, τ), (χ.1 82 11, χ), ?_, ?_, fun _ => ?_, ?_⟩
    · show f_X8_restore σ = _
      unfold f_X8_restore
      rw [e0, if_neg h0, t1, bind_s]
    · show f_X9_restore τ = _
      unfold f_X9_restore
      rw [t10 81 3 (by omega), if_neg h0, c1, bind_s, rdA_82_11, bind_s]
    · show τ.1 1 4 = χ.1 82 11
      rw [← c3 1 4 (by decide)]
      exact hχ.2.1 (11, 4) (by decide)
    · have keep : ∀ a b, ¬ (1 ≤ a ∧ a ≤ 27) → a ≠ 82 → χ.1 a b = σ.1 a b := fun a b h1 h2 => by rw [c3 a b h2, t10 a b (by omega)]
      refine ⟨hI.1.lake hχ (fun k j h1 h2 _ _ => ?_) ⟨by rw [c3 4 0 (by decide)]; exact (t9 0 (by decide)).1, by rw [c3 7 0 (by decide)]; exact (t9 0 (by decide)).2⟩, fun k hk => by rw [keep 68 k (by omega) (by decide), keep 85 k (by omega) (by decide)]; exact hI.2 k hk⟩
      have hk : ¬ (1 ≤ k ∧ k ≤ 27) := by
        intro hk
        have : k = 6 ∨ k = 9 := by unfold lkc at h1; omega
        rcases this with rfl | rfl <;> simp [scr] at h2
      exact keep k j hk (by unfold lkc at h1; omega)
