theorem keepTo_G {t : Nat} (t1 : A0 t 5 = t + 1 ∧ Ln0 (t + 1) = 4) (l : Int32) : ∀ (d n : Nat) (σ : Sto), d ≤ 4 → d < n → ∃ τ, f_X6_keepTo_L2 t l n (nI (4 - d)) σ = some τ ∧ (∀ j, τ.1 (t + 1) j = if 4 - d ≤ j ∧ j < 4 then l else σ.1 (t + 1) j) ∧ ∀ a b, a ≠ t + 1 → τ.1 a b = σ.1 a b := by
  intro d
  induction d with
  | zero =>
    intro n σ _ h2
    obtain ⟨n, rfl⟩ : ∃ n', n = n' + 1 := ⟨n - 1, by omega⟩
    rw [f_X6_keepTo_L2, if_pos (by decide)]
    exact ⟨σ, rfl, fun j => by rw [if_neg (by omega)], fun _ _ _ => rfl⟩
  | succ d ih =>
    intro n σ h1 h2
    obtain ⟨n, rfl⟩ : ∃ n', n = n' + 1 := ⟨n - 1, by omega⟩
    have e1 : 4 - d = (4 - (d + 1)) + 1 := by omega
    rw [f_X6_keepTo_L2, if_neg (show ¬ (4 : Int32) ≤ nI (4 - (d + 1)) from nI_ge (b := 4) (by omega) (by omega)), t1.1, wr_nI (by rw [t1.2]; omega), bind_s, nI_1, ← e1]
    obtain ⟨τ, u1, u2, u3⟩ := ih n (sI σ (t + 1) (4 - (d + 1)) l) (by omega) (by omega)
    refine ⟨τ, u1, fun j => ?_, fun a b h => by rw [u3 a b h, sI_ne h]⟩
    rw [u2 j, sI_at]
    by_cases h : 4 - d ≤ j ∧ j < 4
    · rw [if_pos h, if_pos (by omega)]
    · rw [if_neg h]
      by_cases h' : j = 4 - (d + 1)
      · rw [if_pos h', if_pos (by omega)]
      · rw [if_neg h', if_neg (by omega)]
def nw (a b : Int32) (j : Nat) : Int32 := if j = 0 then a / 10 else if j = 1 then irem a 10 else if j = 2 then b else if j = 3 then 10 else 0
theorem begin8 (σ : Sto) {k : Nat} (hk : K0 k = 6) (a b : Int32) : ∃ τ, f_X6_begin σ k a b = some τ ∧ (∀ j, j < 9 → S8 τ k j = nw a b j) ∧ ∀ x y, x ≠ k → x ≠ k + 1 → τ.1 x y = σ.1 x y := by
  obtain ⟨k1, k2, -⟩ := sw6 hk
  unfold f_X6_begin f_X6_turnInto
  simp only [lp_b, bind_s]
  generalize hρ : sI (sI (sI (sI (sI σ k 0 (a / 10)) k 1 (irem a 10)) k 2 b) k 3 10) k 4 0 = ρ
  obtain ⟨τ, t1, t2, t3⟩ := keepTo_G (t := k) ⟨k1, k2⟩ 0 4 FU ρ (by omega) (by unfold FU; omega)
  unfold f_X6_keepTo
  rw [show f_X6_keepTo_L2 k 0 FU 0 ρ = some τ from t1, bind_s]
  refine ⟨τ, rfl, fun j hj => ?_, fun x y h1 h2 => by rw [t3 x y h2, ← hρ, sI_ne h1, sI_ne h1, sI_ne h1, sI_ne h1, sI_ne h1]⟩
  unfold S8
  by_cases h : j < 5
  · rw [if_pos h, t3 _ _ (by omega), ← hρ, sI_at, sI_at, sI_at, sI_at, sI_at]
    rcases (show j = 0 ∨ j = 1 ∨ j = 2 ∨ j = 3 ∨ j = 4 by omega) with rfl | rfl | rfl | rfl | rfl <;> rfl
  · rw [if_neg h, t2, if_pos (by omega)]
    unfold nw
    rw [if_neg (by omega), if_neg (by omega), if_neg (by omega), if_neg (by omega)]
theorem new9_L {p N : Nat} (hp : p < 8) : ∀ (d n : Nat) (σ : Sto), d ≤ 4 → d < n → σ.1 82 12 = nI N → ∃ τ, f_X9_swimmer_L99 (nI p) n (nI (4 - d)) σ = some (nI p, τ) ∧ τ.1 82 12 = nI (N + 1) ∧ (∀ j, j ≠ 12 → τ.1 82 j = if 16 + 9 * p + 5 + (4 - d) ≤ j ∧ j < 16 + 9 * p + 9 then 0 else σ.1 82 j) ∧ ∀ a b, a ≠ 82 → τ.1 a b = σ.1 a b := by
  intro d
  induction d with
  | zero =>
    intro n σ _ hn e
    obtain ⟨n, rfl⟩ : ∃ n', n = n' + 1 := ⟨n - 1, by omega⟩
    rw [f_X9_swimmer_L99, if_pos (by decide), rdA_82_12, bind_s, wrA_82_12, bind_s, e, nI_1]
    exact ⟨_, rfl, by rw [sI_at, if_pos rfl], fun j hj => by rw [sI_nj hj, if_neg (by omega)], fun a b h => sI_ne h⟩
  | succ d ih =>
    intro n σ hd hn e
    obtain ⟨n, rfl⟩ : ∃ n', n = n' + 1 := ⟨n - 1, by omega⟩
    have e1 : 4 - d = (4 - (d + 1)) + 1 := by omega
    rw [f_X9_swimmer_L99, if_neg (show ¬ (4 : Int32) ≤ nI (4 - (d + 1)) from nI_ge (b := 4) (by omega) (by omega)), show (5 + nI (4 - (d + 1)) : Int32) = nI (5 + (4 - (d + 1))) from nI_add 5 _, bec_eq hp (by omega), bind_s, nI_1, ← e1]
    obtain ⟨τ, t1, t2, t3, t4⟩ := ih n (sI σ 82 (16 + 9 * p + (5 + (4 - (d + 1)))) 0) (by omega) (by omega) (by rw [sI_nj (by omega)]; exact e)
    refine ⟨τ, t1, t2, fun j hj => ?_, fun a b h => by rw [t4 a b h, sI_ne h]⟩
    rw [t3 j hj, sI_at]
    by_cases h : 16 + 9 * p + 5 + (4 - d) ≤ j ∧ j < 16 + 9 * p + 9
    · rw [if_pos h, if_pos (by omega)]
    · rw [if_neg h]
      by_cases h' : j = 16 + 9 * p + (5 + (4 - (d + 1)))
      · rw [if_pos h', if_pos (by omega)]
      · rw [if_neg h', if_neg (by omega)]
theorem nw_ok {k : Nat} (hk : k ≤ 69) {b : Int32} (hb : isO b 0 1 = false) : ∀ j, j < 9 → oks j (nw (nI k) b j) = true := by
  intro j hj
  rcases (show j = 0 ∨ j = 1 ∨ j = 2 ∨ j = 3 ∨ j = 4 ∨ 5 ≤ j by omega) with rfl | rfl | rfl | rfl | rfl | h
  · exact km_ok k hk
  · unfold oks; rw [if_neg (by omega), if_neg (by omega), if_neg (by omega), if_neg (by omega)]
  · show oks 2 b = true
    unfold oks
    rw [if_neg (by omega), if_pos rfl, hb]
    rfl
  · show oks 3 10 = true
    decide
  · unfold oks; rw [if_neg (by omega), if_neg (by omega), if_neg (by omega), if_neg (by omega)]
  · unfold nw
    rw [if_neg (by omega), if_neg (by omega), if_neg (by omega), if_neg (by omega)]
    unfold oks
    rw [if_neg (by omega), if_neg (by omega), if_neg (by omega), if_pos h]
    decide
theorem s_swimmer (a1 a2 : Int32) (b : Bool) : LPr (fun σ => f_X8_swimmer σ a1 a2) (fun σ => f_X9_swimmer σ a1 a2) b Inv Inv := by
  intro σ hI
  obtain ⟨N, hN, e9, e8, eN⟩ := hI.1.N
  have er := fun (k : Nat) (h8 : f_X8_swimmer σ a1 a2 = some (-1000000000 - nI k, rf σ k)) (h9 : f_X9_swimmer (rf σ k) a1 a2 = some (-1000000000 - nI k, fi (rf σ k) k)) => er_LPr (f := fun σ => f_X8_swimmer σ a1 a2) (g := fun σ => f_X9_swimmer σ a1 a2) (b := b) hI h8 h9
  unfold f_X8_swimmer f_X9_swimmer at er
  cases h1 : isO a1 0 69 with
  | true => exact er 1 (by rw [out_eq, bind_s, h1, if_pos rfl, r8_1, bind_s]) (by rw [in_0_69, bind_s, h1, if_neg (by decide), r9_1, bind_s])
  | false =>
    cases h2 : isO a2 0 1 with
    | true => exact er 1 (by rw [out_eq, bind_s, h1, if_neg (by decide), out_eq, bind_s, h2, if_pos rfl, r8_1, bind_s]) (by rw [in_0_69, bind_s, h1, if_pos (by decide), in_0_1, bind_s, h2, if_neg (by decide), r9_1, bind_s])
    | false =>
      obtain ⟨k, hk, rfl⟩ := isO_nI (n := 69) rfl h1
      by_cases h8 : N = 8
      · subst h8
        exact er 4 (by rw [out_eq, bind_s, h1, if_neg (by decide), out_eq, bind_s, h2, if_neg (by decide), e8, if_neg (by decide), r8_4, bind_s]) (by rw [in_0_69, bind_s, h1, if_pos (by decide), in_0_1, bind_s, h2, if_pos (by decide), rdA_82_12, bind_s, rf_at (by decide), e9, if_pos (by decide), r9_4, bind_s])
      · have hN8 : N < 8 := by omega
        generalize hρ : sI σ 1 8 (nI (N + 1)) = ρ
        have oρ : ∀ a b, a ≠ 1 → ρ.1 a b = σ.1 a b := fun a b h => by rw [← hρ, sI_ne h]
        obtain ⟨τ, t1, t2, t3⟩ := begin8 ρ (K12 N hN8) (nI k) a2
        have oτ : ∀ a b, a ≠ 1 → a ≠ 12 + 2 * N → a ≠ 13 + 2 * N → τ.1 a b = σ.1 a b := fun a b h h' h'' => by rw [t3 a b h' (by omega), oρ a b h]
        have dτ : τ.1 82 = σ.1 82 := funext fun j => oτ 82 j (by decide) (by omega) (by omega)
        generalize hχ : sI (sI (sI (sI (sI τ 82 (16 + 9 * N + 0) (nI k / 10)) 82 (16 + 9 * N + 1) (irem (nI k) 10)) 82 (16 + 9 * N + 2) a2) 82 (16 + 9 * N + 3) 10) 82 (16 + 9 * N + 4) 0 = χ
        have cχ : ∀ j, χ.1 82 j = if 16 + 9 * N ≤ j ∧ j < 16 + 9 * N + 5 then nw (nI k) a2 (j - (16 + 9 * N)) else σ.1 82 j := by
          intro j
          rw [← hχ, sI_at, sI_at, sI_at, sI_at, sI_at, dτ]
          by_cases h : 16 + 9 * N ≤ j ∧ j < 16 + 9 * N + 5
          · rw [if_pos h]
            rcases (show j = 16 + 9 * N + 0 ∨ j = 16 + 9 * N + 1 ∨ j = 16 + 9 * N + 2 ∨ j = 16 + 9 * N + 3 ∨ j = 16 + 9 * N + 4 by omega) with rfl | rfl | rfl | rfl | rfl
            · rw [if_neg (by omega), if_neg (by omega), if_neg (by omega), if_neg (by omega), if_pos rfl, show 16 + 9 * N + 0 - (16 + 9 * N) = 0 by omega]; rfl
            · rw [if_neg (by omega), if_neg (by omega), if_neg (by omega), if_pos rfl, show 16 + 9 * N + 1 - (16 + 9 * N) = 1 by omega]; rfl
            · rw [if_neg (by omega), if_neg (by omega), if_pos rfl, show 16 + 9 * N + 2 - (16 + 9 * N) = 2 by omega]; rfl
            · rw [if_neg (by omega), if_pos rfl, show 16 + 9 * N + 3 - (16 + 9 * N) = 3 by omega]; rfl
            · rw [if_pos rfl, show 16 + 9 * N + 4 - (16 + 9 * N) = 4 by omega]; rfl
          · rw [if_neg h, if_neg (by omega), if_neg (by omega), if_neg (by omega), if_neg (by omega), if_neg (by omega)]
        have oχ : ∀ a b, a ≠ 82 → χ.1 a b = τ.1 a b := fun a b h => by rw [← hχ, sI_ne h, sI_ne h, sI_ne h, sI_ne h, sI_ne h]
        obtain ⟨υ, u1, u2, u3, u4⟩ := new9_L (p := N) (N := N) hN8 4 FU χ (by omega) (by unfold FU; omega) (by rw [cχ, if_neg (by omega)]; exact e9)
        have rυ : ∀ j, j ≠ 12 → υ.1 82 j = if 16 + 9 * N ≤ j ∧ j < 16 + 9 * N + 9 then nw (nI k) a2 (j - (16 + 9 * N)) else σ.1 82 j := by
          intro j hj
          rw [u3 j hj, cχ]
          by_cases h : 16 + 9 * N ≤ j ∧ j < 16 + 9 * N + 9
          · rw [if_pos h]
            by_cases h' : 16 + 9 * N + 5 ≤ j
            · rw [if_pos (by omega)]
              unfold nw
              rw [if_neg (by omega), if_neg (by omega), if_neg (by omega), if_neg (by omega)]
            · rw [if_neg (by omega), if_pos (by omega)]
          · rw [if_neg h, if_neg (by omega), if_neg (by omega)]
        have oυ : ∀ a b, a ≠ 82 → υ.1 a b = τ.1 a b := fun a b h => by rw [u4 a b h, oχ a b h]
        refine ⟨(nI N, τ), (nI N, υ), ?_, ?_, fun _ => rfl, ?_⟩
        · show f_X8_swimmer σ (nI k) a2 = _
          unfold f_X8_swimmer
          rw [out_eq, bind_s, h1, if_neg (by decide), out_eq, bind_s, h2, if_neg (by decide), e8, if_pos (show nI N < 8 from nI_lt (b := 8) hN8 (by omega)), lp_b, nI_1, hρ, show f_X0_swimmerAt ρ 1 (nI N) = some (some (1 + 11 + 2 * N)) from sA_k (Or.inl rfl) (show N + 1 ≤ 8 by omega) (by rw [← hρ, sI_at, if_pos rfl]) (by omega), bind_s, onN_1, show 1 + 11 + 2 * N = 12 + 2 * N by omega, if_pos (K12 N hN8), t1, bind_s]
        · show f_X9_swimmer τ (nI k) a2 = _
          unfold f_X9_swimmer
          rw [in_0_69, bind_s, h1, if_pos (by decide), in_0_1, bind_s, h2, if_pos (by decide), rdA_82_12, bind_s, dτ, e9, if_neg (show ¬ nI N = 8 from nI_ne _ 8 rfl (by omega) (by omega) h8), bind_s]
          rw [show f_X9_becomes τ (nI N) 0 (nI k / 10) = _ from bec_eq hN8 (j := 0) (by omega) _, bind_s, show ∀ τ, f_X9_becomes τ (nI N) 1 (irem (nI k) 10) = _ from fun τ => bec_eq hN8 (j := 1) (by omega) _, bind_s, show ∀ τ, f_X9_becomes τ (nI N) 2 a2 = _ from fun τ => bec_eq hN8 (j := 2) (by omega) _, bind_s, show ∀ τ, f_X9_becomes τ (nI N) 3 10 = _ from fun τ => bec_eq hN8 (j := 3) (by omega) _, bind_s, show ∀ τ, f_X9_becomes τ (nI N) 4 0 = _ from fun τ => bec_eq hN8 (j := 4) (by omega) _, bind_s, hχ]
          exact u1
        · obtain ⟨q1, q2, q3, q4, q5, q6, q7, q8⟩ := hI.1.1
          have eN' : NN (υ.1 82) = N + 1 := by unfold NN; rw [u2, nI_clamp (by omega)]
          have k1 : ∀ j, j ≠ 8 → υ.1 1 j = σ.1 1 j := fun j hj => by rw [oυ 1 j (by decide), t3 1 j (by omega) (by omega), ← hρ, sI_nj hj]
          have k0 : ∀ a b, a ≠ 82 → a ≠ 1 → a ≠ 12 + 2 * N → a ≠ 13 + 2 * N → υ.1 a b = σ.1 a b := fun a b h1 h2 h3 h4 => by rw [oυ a b h1, oτ a b h2 h3 h4]
          have hL : LR 1 82 υ := by
            refine ⟨fun i hi => ?_, fun q hq => ?_, fun p j hp hj => ?_, fun i => ?_, fun i hi => ?_, fun i hi => ?_, q7.keep2 (by decide) (fun j => k0 _ j (by decide) (by decide) (by omega) (by omega)) (fun j => k0 _ j (by decide) (by decide) (by omega) (by omega)) (fun i hi => by rw [rυ i (by omega), if_neg (by omega)]), q8.keep2 (by decide) (fun j => k0 _ j (by decide) (by decide) (by omega) (by omega)) (fun j => k0 _ j (by decide) (by decide) (by omega) (by omega)) (fun i hi => by rw [rυ i (by omega), if_neg (by omega)])⟩
            · rw [k0 _ _ (by decide) (by decide) (by omega) (by omega), rυ i (by omega), if_neg (by omega)]; exact q1 i hi
            · by_cases hq12 : q = (12, 8)
              · subst hq12
                show υ.1 1 8 = υ.1 82 12
                rw [u2, oυ 1 8 (by decide), t3 1 8 (by omega) (by omega), ← hρ, sI_at, if_pos rfl]
              · have hx : q.2 ≠ 8 ∧ q.1 ≠ 12 := (show ∀ q ∈ mpL, q ≠ (12, 8) → q.2 ≠ 8 ∧ q.1 ≠ 12 by decide) q hq hq12
                rw [k1 _ hx.1, rυ _ hx.2, if_neg (by have := mp_lo q hq; omega)]
                exact q2 q hq
            · rw [eN'] at hp
              rw [show 1 + 11 + 2 * p = 12 + 2 * p by omega]
              by_cases hpN : p = N
              · subst hpN
                rw [S8_congr (fun j => oυ _ j (by omega)) (fun j => oυ _ j (by omega)), t2 j hj]
                unfold S9
                rw [rυ _ (by omega), if_pos (by omega), show 16 + 9 * p + j - (16 + 9 * p) = j by omega]
              · rw [S8_congr (fun j => k0 _ j (by omega) (by omega) (by omega) (by omega)) (fun j => k0 _ j (by omega) (by omega) (by omega) (by omega))]
                unfold S9
                rw [rυ _ (by omega), if_neg (by omega)]
                have := q3 p j (by rw [eN]; omega) hj
                rw [show 1 + 11 + 2 * p = 12 + 2 * p by omega] at this
                exact this
            · by_cases h12 : i = 12
              · subst h12
                rw [u2]
                unfold okv
                rw [if_neg (by decide), if_pos rfl, show isO (nI (N + 1)) 0 8 = false from isO_lit (n := 8) (by omega) (by omega)]
                rfl
              · rw [rυ i h12]
                by_cases h : 16 + 9 * N ≤ i ∧ i < 16 + 9 * N + 9
                · rw [if_pos h]
                  have := okv_sw hN8 (j := i - (16 + 9 * N)) (by omega) (nw_ok hk h2 (i - (16 + 9 * N)) (by omega))
                  rw [show 16 + 9 * N + (i - (16 + 9 * N)) = i by omega] at this
                  exact this
                · rw [if_neg h]; exact q4 i
            · rw [k0 _ _ (by decide) (by decide) (by omega) (by omega), rυ _ (by omega), if_neg (by omega)]; exact q5 i hi
            · rw [k0 _ _ (by decide) (by decide) (by omega) (by omega), rυ _ (by omega), if_neg (by omega)]; exact q6 i hi
          refine ⟨hI.1.lake hL (fun a b ha _ _ _ => ?_) ⟨k0 _ _ (by decide) (by decide) (by omega) (by omega), k0 _ _ (by decide) (by decide) (by omega) (by omega)⟩, fun x hx => ?_⟩
          · unfold lkc at ha
            exact k0 a b (by omega) (by omega) (by omega) (by omega)
          · rw [k0 68 x (by decide) (by decide) (by omega) (by omega), k0 85 x (by decide) (by decide) (by omega) (by omega)]
            exact hI.2 x hx
