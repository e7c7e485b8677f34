def hitL (A B : Nat → Int32) (fl : Int32 → Int32) (s a3 a4 : Int32) (i : Nat) : Bool := match mL A B fl s i with
  | none => false
  | some u => decide (nI u = a3) && decide (mP A B fl i u = a4)
def dyO (a5 : Int32) (x : Nat × Nat) : Int32 ⊕ Nat := if a5 = 0 then .inl (nI x.1) else if x.1 = 0 then .inr 2 else .inl (nI x.2)
theorem eleven : ∀ i, i < 6 → (10 * nI i + nI i : Int32) = nI (11 * i) := by decide
theorem nI_z {c : Nat} (hc : c < 2 ^ 31) : nI c = 0 ↔ c = 0 := nI_eq hc (by decide)
theorem diary8_L {A B : Nat → Int32} {fl : Int32 → Int32} {s a3 a4 a5 : Int32} {p q : Nat} (hp : p < 8) (hq : q < 8) (gA : GR A) (gB : GR B) : ∀ (d n : Nat) (x : Nat × Nat) (σ : Sto), d ≤ 6 → d < n → x.1 + d ≤ 6 → HD σ A B fl s p q →
    C8 (f_X8_diary_L95 a3 a4 a5 (some (12 + 2 * p)) (some (12 + 2 * q)) n (nI x.1) (nI x.2) (nI (6 - d)) σ) σ (dyO a5 (dyS (hitL A B fl s a3 a4) d x)) := by
  intro d
  induction d with
  | zero =>
    intro n x σ _ h2 hx _
    obtain ⟨n, rfl⟩ : ∃ n', n = n' + 1 := ⟨n - 1, by omega⟩
    rw [f_X8_diary_L95, if_pos (by decide), dyS]
    unfold dyO
    by_cases h5 : a5 = 0
    · rw [if_pos h5, if_pos h5]; exact ⟨σ, rfl, Fr.rf σ⟩
    · rw [if_neg h5, if_neg h5]
      by_cases hc : x.1 = 0
      · rw [if_pos hc, if_pos ((nI_z (by omega)).mpr hc), r8_2, bind_s]; exact ⟨σ, rfl, Fr.rf σ⟩
      · rw [if_neg hc, if_neg (fun z => hc ((nI_z (by omega)).mp z))]; exact ⟨σ, rfl, Fr.rf σ⟩
  | succ d ih =>
    intro n x σ h1 h2 hx h
    obtain ⟨n, rfl⟩ : ∃ n', n = n' + 1 := ⟨n - 1, by omega⟩
    have e1 : 6 - (d + 1) = 5 - d := by omega
    have e2 : 6 - d = (5 - d) + 1 := by omega
    obtain ⟨τ, t1, t2, t3⟩ := inLane8 hp hq gA gB h (i := 5 - d) (by omega)
    have f := t2.fr
    have hτ := h.sc hp hq t2
    rw [e1, f_X8_diary_L95, if_neg (show ¬ (6 : Int32) ≤ nI (5 - d) from nI_ge (b := 6) (by omega) (by omega)), deref6 (K12 p hp), deref6 (K12 q hq), t1, bind_s, dyS]
    unfold f_X8_diary_L156 f_X8_diary_L161
    rw [nI_1, nI_1, ← e2, eleven _ (by omega)]
    have hH : hitL A B fl s a3 a4 (5 - d) = (match mL A B fl s (5 - d) with
      | none => false
      | some u => decide (nI u = a3) && decide (mP A B fl (5 - d) u = a4)) := rfl
    have stay : hitL A B fl s a3 a4 (5 - d) = false → C8 (f_X8_diary_L95 a3 a4 a5 (some (12 + 2 * p)) (some (12 + 2 * q)) n (nI x.1) (nI x.2) (nI (6 - d)) τ) σ (dyO a5 (dyS (hitL A B fl s a3 a4) d (if hitL A B fl s a3 a4 (5 - d) = true then (x.1 + 1, if x.1 = 0 then 11 * (5 - d) else x.2) else x))) := by
      intro hF
      rw [hF, if_neg (by decide)]
      exact (ih n x τ (by omega) (by omega) (by omega) hτ).fr f
    cases hm : mL A B fl s (5 - d) with
    | none =>
      rw [hm] at hH
      rw [if_neg (show ¬ (none : Option Nat).isSome = true by decide)]
      exact stay hH
    | some u =>
      rw [hm] at hH
      obtain ⟨v1, v2⟩ := t3 u hm
      rw [if_pos (show (some u).isSome = true from rfl), v1, v2]
      by_cases q1 : nI u = a3
      · rw [if_pos q1]
        by_cases q2 : mP A B fl (5 - d) u = a4
        · have hT : hitL A B fl s a3 a4 (5 - d) = true := by rw [hH]; show (decide (nI u = a3) && decide (mP A B fl (5 - d) u = a4)) = true; rw [decide_eq_true q1, decide_eq_true q2]; rfl
          rw [if_pos q2, hT, if_pos rfl]
          have := (ih n (x.1 + 1, if x.1 = 0 then 11 * (5 - d) else x.2) τ (by omega) (by omega) (by show x.1 + 1 + d ≤ 6; omega) hτ).fr f
          by_cases hc : x.1 = 0
          · rw [if_pos ((nI_z (by omega)).mpr hc)]
            rw [if_pos hc] at this ⊢
            exact this
          · rw [if_neg (fun z => hc ((nI_z (by omega)).mp z))]
            rw [if_neg hc] at this ⊢
            exact this
        · rw [if_neg q2]
          exact stay (by rw [hH]; show (decide (nI u = a3) && decide (mP A B fl (5 - d) u = a4)) = false; rw [decide_eq_false q2, Bool.and_false])
      · rw [if_neg q1]
        exact stay (by rw [hH]; show (decide (nI u = a3) && decide (mP A B fl (5 - d) u = a4)) = false; rw [decide_eq_false q1, Bool.false_and])
theorem pair6 : ∀ e, e < 36 → (nI e / 6 : Int32) = nI (e / 6) ∧ irem (nI e) 6 = nI (e % 6) ∧ (10 * nI (e / 6) + nI (e % 6) : Int32) = nI (10 * (e / 6) + e % 6) := by decide +kernel
theorem diary9_L {σ0 : Sto} {V : Nat → Int32} (h0 : σ0.1 82 = V) (ok : ∀ i, okv i (V i) = true) (hc : CW V 0) {p q : Nat} (hp : p < 8) (hq : q < 8) (hu : ¬ S9 V p 2 = S9 V q 2) {a3 a4 a5 : Int32} : ∀ (d n : Nat) (x : Nat × Nat) (v7 : Int32) (σ : Sto), d ≤ 36 → d < n → x.1 + d ≤ 36 → x.2 < 100 → (x.1 = 0 → v7 = -1) → (¬ x.1 = 0 → v7 = nI x.2) → HS σ0 V p q σ →
    C9 (f_X9_diary_L71 (nI p) (nI q) a3 a4 a5 n (nI x.1) v7 (nI (36 - d)) σ) σ0 (dyO a5 (dyR (hitL (S9 V p) (S9 V q) (flV V (V 6)) (V 7) a3 a4) d x)) := by
  intro d
  induction d with
  | zero =>
    intro n x v7 σ _ h2 hx hx2 h5 h6 h
    obtain ⟨n, rfl⟩ : ∃ n', n = n' + 1 := ⟨n - 1, by omega⟩
    obtain ⟨τ, t1, t2⟩ := h.back hp hq h0
    rw [f_X9_diary_L71, if_pos (by decide), t1, bind_s, dyR]
    unfold dyO
    by_cases hz : a5 = 0
    · rw [if_pos hz, if_pos hz]; exact ⟨τ, rfl, t2⟩
    · rw [if_neg hz, if_neg hz]
      by_cases hc : x.1 = 0
      · rw [if_pos hc, h5 hc, if_neg (by decide), r9_2, bind_s]; exact ⟨τ, rfl, t2⟩
      · rw [if_neg hc, h6 hc, if_pos (nI_pos' (by omega))]; exact ⟨τ, rfl, t2⟩
  | succ d ih =>
    intro n x v7 σ h1 h2 hx hx2 h5 h6 h
    obtain ⟨n, rfl⟩ : ∃ n', n = n' + 1 := ⟨n - 1, by omega⟩
    have e1 : 36 - (d + 1) = 35 - d := by omega
    have e2 : 36 - d = (35 - d) + 1 := by omega
    obtain ⟨p1, p2, p3⟩ := pair6 (35 - d) (by omega)
    have ha : (35 - d) / 6 < 6 := by omega
    have hb : (35 - d) % 6 < 6 := by omega
    obtain ⟨α, β, τ, w1, w2, w3, w4, w5⟩ := two9 ok hc hp hq hu h ha hb
    rw [e1, f_X9_diary_L71, if_neg (show ¬ (36 : Int32) ≤ nI (35 - d) from nI_ge (b := 36) (by omega) (by omega)), p1, p2, w1, bind_s, w2, bind_s, w3, bind_s, dyR]
    unfold f_X9_diary_L181 f_X9_diary_L183
    rw [nI_1, nI_1, ← e2, p3]
    generalize hh : ((35 - d) / 6 == (35 - d) % 6 && hitL (S9 V p) (S9 V q) (flV V (V 6)) (V 7) a3 a4 ((35 - d) / 6)) = hit
    have hx10 : 10 * ((35 - d) / 6) + (35 - d) % 6 < 100 := by omega
    generalize 10 * ((35 - d) / 6) + (35 - d) % 6 = ten at hx10 ⊢
    have stay : hit = false → C9 (f_X9_diary_L71 (nI p) (nI q) a3 a4 a5 n (nI x.1) v7 (nI (36 - d)) τ) σ0 (dyO a5 (dyR (hitL (S9 V p) (S9 V q) (flV V (V 6)) (V 7) a3 a4) d (if hit = true then (x.1 + 1, if x.1 = 0 then ten else x.2) else x))) := by
      intro hF
      rw [hF, if_neg (by decide)]
      exact ih n x v7 τ (by omega) (by omega) (by omega) hx2 h5 h6 w4
    by_cases hab : (35 - d) / 6 = (35 - d) % 6
    · rw [← hab] at w5 hh ⊢
      generalize (35 - d) / 6 = i at ha w5 hh ⊢
      rw [beq_self_eq_true, Bool.true_and] at hh
      have em : met (PL (S9 V p) (fun _ => nI i)) (PL (S9 V q) (fun _ => nI i)) (flV V (V 6)) (V 7) = mL (S9 V p) (S9 V q) (flV V (V 6)) (V 7) i := rfl
      rw [em] at w5 ⊢
      have hH : hitL (S9 V p) (S9 V q) (flV V (V 6)) (V 7) a3 a4 i = (match mL (S9 V p) (S9 V q) (flV V (V 6)) (V 7) i with
        | none => false
        | some u => decide (nI u = a3) && decide (mP (S9 V p) (S9 V q) (flV V (V 6)) i u = a4)) := rfl
      rw [hh] at hH
      cases hm : mL (S9 V p) (S9 V q) (flV V (V 6)) (V 7) i with
      | none =>
        rw [hm] at hH
        rw [if_neg (show ¬ (none : Option Nat).isSome = true by decide)]
        exact stay hH
      | some u =>
        rw [hm] at hH
        obtain ⟨v1, v2⟩ := w5 u hm
        rw [if_pos (show (some u).isSome = true from rfl), v1, v2]
        by_cases q1 : nI u = a3
        · rw [if_pos q1]
          by_cases q2 : mP (S9 V p) (S9 V q) (flV V (V 6)) i u = a4
          · have hT : hit = true := by rw [hH]; show (decide (nI u = a3) && decide (mP (S9 V p) (S9 V q) (flV V (V 6)) i u = a4)) = true; rw [decide_eq_true q1, decide_eq_true q2]; rfl
            rw [show metP (PL (S9 V p) (fun _ => nI i)) (PL (S9 V q) (fun _ => nI i)) (flV V (V 6)) u = a4 from q2, if_pos rfl, hT, if_pos rfl]
            by_cases hc : x.1 = 0
            · rw [h5 hc, if_neg (by decide), if_pos hc]
              exact ih n (x.1 + 1, ten) (nI ten) τ (by omega) (by omega) (by show x.1 + 1 + d ≤ 36; omega) hx10 (fun z => by cases z) (fun _ => rfl) w4
            · rw [h6 hc, if_pos (nI_pos' (by omega)), if_neg hc]
              exact ih n (x.1 + 1, x.2) (nI x.2) τ (by omega) (by omega) (by show x.1 + 1 + d ≤ 36; omega) hx2 (fun z => by cases z) (fun _ => rfl) w4
          · rw [if_neg (show ¬ metP (PL (S9 V p) (fun _ => nI i)) (PL (S9 V q) (fun _ => nI i)) (flV V (V 6)) u = a4 from q2)]
            exact stay (by rw [hH]; show (decide (nI u = a3) && decide (mP (S9 V p) (S9 V q) (flV V (V 6)) i u = a4)) = false; rw [decide_eq_false q2, Bool.and_false])
        · rw [if_neg q1]
          exact stay (by rw [hH]; show (decide (nI u = a3) && decide (mP (S9 V p) (S9 V q) (flV V (V 6)) i u = a4)) = false; rw [decide_eq_false q1, Bool.false_and])
    · rw [no_meet (nI_ne6 ha hb hab), if_neg (show ¬ (none : Option Nat).isSome = true by decide)]
      exact stay (by rw [← hh, beq_eq_false_iff_ne.mpr hab, Bool.false_and])
theorem s_diary (a1 a2 a3 a4 a5 : Int32) (b : Bool) : LPr (fun σ => f_X8_diary σ a1 a2 a3 a4 a5) (fun σ => f_X9_diary σ a1 a2 a3 a4 a5) b Inv Inv := by
  refine pr_ro (fun σ => if unl (σ.1 82) a1 a2 = true then (if isO a3 0 59 = true then .inr 1 else if isO a4 0 1200 = true then .inr 1 else if isO a5 0 1 = true then .inr 1 else dyO a5 (dyS (hitL (S9 (σ.1 82) a1.toNatClampNeg) (S9 (σ.1 82) a2.toNatClampNeg) (flV (σ.1 82) (σ.1 82 6)) (σ.1 82 7) a3 a4) 6 (0, 0))) else .inr 1) (fun σ τ h => by show _ = _; rw [h.d]) (fun σ h => ?_) (fun σ h => ?_) b
  · show C8 (f_X8_diary σ a1 a2 a3 a4 a5) σ _
    unfold f_X8_diary
    rcases unl_c h a1 a2 with ⟨hn, ⟨r5, r15, e1, e2, e3⟩, -⟩ | ⟨p, q, hp, hq, hpN, hqN, rfl, rfl, hu, hn, e1, e2, e3, -⟩
    · simp only [hn, Bool.false_eq_true, if_false]
      exact ⟨σ, by rw [e1, bind_s, e2, bind_s, e3, bind_s, if_neg (by decide), r8_1, bind_s], Fr.rf σ⟩
    · simp only [hn, if_true]
      rw [e1, bind_s, e2, bind_s, e3, bind_s, if_pos rfl, out_eq, bind_s]
      cases h3 : isO a3 0 59 with
      | true => exact ⟨σ, by rw [if_pos rfl, r8_1, bind_s], Fr.rf σ⟩
      | false =>
        rw [if_neg (by decide), out_eq, bind_s]
        simp only [Bool.false_eq_true, if_false]
        cases h4 : isO a4 0 1200 with
        | true => exact ⟨σ, by rw [if_pos rfl, r8_1, bind_s], Fr.rf σ⟩
        | false =>
          rw [if_neg (by decide), out_eq, bind_s]
          simp only [Bool.false_eq_true, if_false]
          cases h5 : isO a5 0 1 with
          | true => exact ⟨σ, by rw [if_pos rfl, r8_1, bind_s], Fr.rf σ⟩
          | false =>
            simp only [Bool.false_eq_true, if_false]
            obtain ⟨τ, t1, t2, t3⟩ := feel_eq h.ic (σ.1 1 1)
            have hf : Fl τ (flV (σ.1 82) (σ.1 82 6)) := by rw [← h.mp (i := 6) (j := 1) (by decide)]; exact t2
            have hd : HD τ (S9 (σ.1 82) p) (S9 (σ.1 82) q) (flV (σ.1 82) (σ.1 82 6)) (σ.1 82 7) p q := ⟨hf, by rw [swm_fr t3 hp]; exact sw_Eq9 h hpN, by rw [swm_fr t3 hq]; exact sw_Eq9 h hqN, by rw [t3 1 2 (by decide) (by decide)]; exact h.mp (i := 7) (j := 2) (by decide)⟩
            rw [t1, bind_s, nI_clamp (by omega), nI_clamp (by omega)]
            exact (diary8_L hp hq (gr9 h.ok hp) (gr9 h.ok hq) 6 FU (0, 0) τ (by omega) (by unfold FU; omega) (by decide) hd).fr (feel_fr t3)
  · show C9 (f_X9_diary σ a1 a2 a3 a4 a5) σ _
    unfold f_X9_diary
    rcases unl_c h a1 a2 with ⟨hn, -, e3⟩ | ⟨p, q, hp, hq, hpN, hqN, rfl, rfl, hu, hn, -, -, -, e3⟩
    · simp only [hn, Bool.false_eq_true, if_false]
      exact ⟨σ, by rw [e3, bind_s, if_neg (by decide), r9_1, bind_s], Fr.rf σ⟩
    · simp only [hn, if_true]
      rw [e3, bind_s, if_pos rfl, in_0_59, bind_s]
      cases h3 : isO a3 0 59 with
      | true => exact ⟨σ, by rw [if_neg (by decide), r9_1, bind_s], Fr.rf σ⟩
      | false =>
        rw [if_pos (by decide), in_0_1200, bind_s]
        simp only [Bool.false_eq_true, if_false]
        cases h4 : isO a4 0 1200 with
        | true => exact ⟨σ, by rw [if_neg (by decide), r9_1, bind_s], Fr.rf σ⟩
        | false =>
          rw [if_pos (by decide), in_0_1, bind_s]
          simp only [Bool.false_eq_true, if_false]
          cases h5 : isO a5 0 1 with
          | true => exact ⟨σ, by rw [if_neg (by decide), r9_1, bind_s], Fr.rf σ⟩
          | false =>
            simp only [Bool.false_eq_true, if_false]
            obtain ⟨α, a1', a2', a3'⟩ := HS.st (σ := σ) p q
            rw [if_pos (by decide), a1', bind_s, nI_clamp (by omega), nI_clamp (by omega), ← dy_eq]
            exact diary9_L rfl h.ok h.cd.1.cw hp hq hu 36 FU (0, 0) (-1) α (by omega) (by unfold FU; omega) (by decide) (by decide) (fun _ => rfl) (fun z => absurd rfl z) a2'
