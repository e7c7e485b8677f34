theorem sA_eq {σ τ : Sto} (h : σ.1 1 8 = τ.1 1 8) (a : Int32) : f_X0_swimmerAt σ 1 a = f_X0_swimmerAt τ 1 a := by
  unfold f_X0_swimmerAt
  rw [h]
theorem YS.sA {σ8 σ9 ω : Sto} (h : YS σ8 σ9 ω) (a : Int32) : f_X0_swimmerAt σ8 1 a = f_X0_swimmerAt ω 1 a := sA_eq (h.1 1 8 (by decide) (by decide)).symm a
theorem YS.unl9 {σ8 σ9 ω : Sto} (h : YS σ8 σ9 ω) (a1 a2 : Int32) : f_X9_areUnlike σ9 a1 a2 = f_X9_areUnlike ω a1 a2 := by
  have o : ∀ a b, f_X9_of σ9 a b = f_X9_of ω a b := by
    intro a b
    unfold f_X9_of rdA
    rw [h.2.1]
  unfold f_X9_areUnlike
  rw [isS_eq, isS_eq, isS_eq, isS_eq, h.2.1, o, o]
theorem year_go {σ8 σ9 ω : Sto} (h : YS σ8 σ9 ω) (h11 : ¬ σ9.1 82 11 = 9999) {p q : Nat} (hp : p < 8) (hq : q < 8) (hpN : p < NN (σ9.1 82)) (hqN : q < NN (σ9.1 82)) (hu : ¬ S9 (σ9.1 82) p 2 = S9 (σ9.1 82) q 2) (e1 : f_X0_swimmerAt σ8 1 (nI p) = some (some (12 + 2 * p))) (e2 : f_X0_swimmerAt σ8 1 (nI q) = some (some (12 + 2 * q))) :
    ∃ σ8' σ9' ω', f_X8_letYearGoBy σ8 (nI p) (nI q) = some σ8' ∧ f_X9_goesBy σ9 (nI p) (nI q) = some σ9' ∧ YS σ8' σ9' ω' ∧ K8 σ8 σ8' ∧ K9 σ9 σ9' := by
  have hpq : p ≠ q := by rintro rfl; exact hu rfl
  have eA0 := h.rs hpN
  have eB0 := h.rs hqN
  have e3 : f_X8_areUnlike σ8 (some (12 + 2 * p)) (some (12 + 2 * q)) = some true := by
    unfold f_X8_areUnlike
    rw [onN_1, onN_1, if_pos (K12 p hp), if_pos (K12 q hq), if_neg (fun z => hu ((eA0 2 (by omega)).symm.trans (z.trans (eB0 2 (by omega)))))]
  obtain ⟨τ, t1, t2, t3⟩ := feel_eq h.2.2.2.1 (σ8.1 1 1)
  have hw : σ8.1 1 1 = σ9.1 82 6 := h.r (i := 6) (by decide)
  have hf : Fl τ (flV (σ9.1 82) (σ9.1 82 6)) := fun i hi => by rw [t2 i hi, h.2.2.2.2.1.fl h.cw.1 _ hi, hw]
  have eA : Eq9 (S8 τ (12 + 2 * p)) (S9 (σ9.1 82) p) := by rw [swm_fr t3 hp]; exact eA0
  have eB : Eq9 (S8 τ (12 + 2 * q)) (S9 (σ9.1 82) q) := by rw [swm_fr t3 hq]; exact eB0
  obtain ⟨υ, u1, u2, u3⟩ := meets8 (K12 p hp) (K12 q hq) (gr9 h.ok hp) (gr9 h.ok hq) eA eB hf (σ9.1 82 7)
  have e12 : τ.1 1 2 = σ9.1 82 7 := by rw [t3 1 2 (by decide) (by decide)]; exact h.r (i := 7) (by decide)
  have f8 : Fr σ8 υ := fun k j hs => by rw [u2 k j (by rintro rfl; simp [scr] at hs)]; exact feel_fr t3 k j hs
  obtain ⟨χ, x1, x2, x3⟩ := swim9 h.cw.1 hp hq (gr9 h.ok hp) (gr9 h.ok hq) hu
  have y0 := (h.s8 f8).f9 x2.fr
  have d0 : χ.1 82 = σ9.1 82 := x2.d
  unfold f_X8_letYearGoBy f_X9_goesBy
  rw [e1, bind_s, e2, bind_s, e3, bind_s, if_pos rfl, t1, bind_s, deref6 (K12 p hp), deref6 (K12 q hq), e12, u1, bind_s, x1, bind_s]
  cases hm : met (S9 (σ9.1 82) p) (S9 (σ9.1 82) q) (flV (σ9.1 82) (σ9.1 82 6)) (σ9.1 82 7) with
  | none =>
    obtain ⟨α, β, γ, z1, z2, z3, z4, z5⟩ := share_go y0 (by rw [d0]; exact h11)
    refine ⟨α, β, γ, ?_, ?_, z3, f8.k8.tr z4, x2.fr.k9.tr z5⟩
    · rw [if_neg (show ¬ (none : Option Nat).isSome = true by decide)]; exact z1
    · rw [if_neg (show ¬ (none : Option Nat).isSome = true by decide)]; exact z2
  | some u =>
    obtain ⟨-, v2, -⟩ := u3 u hm
    obtain ⟨-, w2⟩ := x3 u hm
    generalize metP (S9 (σ9.1 82) p) (S9 (σ9.1 82) q) (flV (σ9.1 82) (σ9.1 82 6)) u = P at v2 w2
    have y1 := y0.mp (i := 8) (j := 3) (by decide) (by decide) (v := P) (ok_free (by decide) _)
    have fr4 : ∀ v, oks 4 v = true := fun v => by unfold oks; rw [if_neg (by omega), if_neg (by omega), if_neg (by omega), if_neg (by omega)]
    have hn1 : NN ((sI χ 82 8 P).1 82) = NN (σ9.1 82) := by unfold NN; rw [sI_nj (by decide), d0]
    have k1 : (sI υ 1 3 P).1 (12 + 2 * p) 4 = S9 ((sI χ 82 8 P).1 82) p 4 := y1.rs (by rw [hn1]; exact hpN) 4 (by omega)
    generalize hc1 : imin 9999 (S9 ((sI χ 82 8 P).1 82) p 4 + 1) = c1
    have y2 := y1.sw hp (j := 4) (by omega) (v := c1) (fr4 _)
    have hn2 : NN ((sI (sI χ 82 8 P) 82 (16 + 9 * p + 4) c1).1 82) = NN (σ9.1 82) := by unfold NN; rw [sI_nj (by omega), sI_nj (by decide), d0]
    have k2 : (sI (sI υ 1 3 P) (12 + 2 * p) 4 c1).1 (12 + 2 * q) 4 = S9 ((sI (sI χ 82 8 P) 82 (16 + 9 * p + 4) c1).1 82) q 4 := y2.rs (by rw [hn2]; exact hqN) 4 (by omega)
    generalize hc2 : imin 9999 (S9 ((sI (sI χ 82 8 P) 82 (16 + 9 * p + 4) c1).1 82) q 4 + 1) = c2
    have y3 := y2.sw hq (j := 4) (by omega) (v := c2) (fr4 _)
    obtain ⟨α, β, γ, z1, z2, z3, z4, z5⟩ := share_go y3 (by rw [sI_nj (by omega), sI_nj (by omega), sI_nj (by omega), d0]; exact h11)
    have o1 : f_X9_of (sI χ 82 8 P) (nI p) 4 = some (S9 ((sI χ 82 8 P).1 82) p 4) := of_eq hp (j := 4) (by omega)
    have o2 : f_X9_of (sI (sI χ 82 8 P) 82 (16 + 9 * p + 4) c1) (nI q) 4 = some (S9 ((sI (sI χ 82 8 P) 82 (16 + 9 * p + 4) c1).1 82) q 4) := of_eq hq (j := 4) (by omega)
    have b1 : f_X9_becomes (sI χ 82 8 P) (nI p) 4 c1 = some (sI (sI χ 82 8 P) 82 (16 + 9 * p + 4) c1) := bec_eq hp (j := 4) (by omega) _
    have b2 : f_X9_becomes (sI (sI χ 82 8 P) 82 (16 + 9 * p + 4) c1) (nI q) 4 c2 = some (sI (sI (sI χ 82 8 P) 82 (16 + 9 * p + 4) c1) 82 (16 + 9 * q + 4) c2) := bec_eq hq (j := 4) (by omega) _
    refine ⟨α, β, γ, ?_, ?_, z3, (((f8.k8.tr (K8.w _ (by decide))).tr (K8.w _ (by omega))).tr (K8.w _ (by omega))).tr z4, (((x2.fr.k9.tr (K9.w _)).tr (K9.w _)).tr (K9.w _)).tr z5⟩
    · rw [if_pos (show (some u).isSome = true from rfl), v2, lp_b, k1, hc1, lp_b, k2, hc2, lp_b]
      exact z1
    · rw [if_pos (show (some u).isSome = true from rfl), w2, wrA_82_8, bind_s, o1, bind_s, imin_lesser, bind_s, hc1, b1, bind_s, o2, bind_s, imin_lesser, bind_s, hc2, b2, bind_s]
      exact z2
theorem why_c {σ8 σ9 ω : Sto} (h : YS σ8 σ9 ω) (a1 a2 : Int32) : (unl (σ9.1 82) a1 a2 = false ∧ f_X8_whyNoYear σ8 a1 a2 = some 1 ∧ f_X9_areUnlike σ9 a1 a2 = some false) ∨
    (f_X9_areUnlike σ9 a1 a2 = some true ∧ ∃ p q, p < 8 ∧ q < 8 ∧ p < NN (σ9.1 82) ∧ q < NN (σ9.1 82) ∧ a1 = nI p ∧ a2 = nI q ∧ ¬ S9 (σ9.1 82) p 2 = S9 (σ9.1 82) q 2 ∧ f_X0_swimmerAt σ8 1 a1 = some (some (12 + 2 * p)) ∧ f_X0_swimmerAt σ8 1 a2 = some (some (12 + 2 * q)) ∧ ((σ9.1 82 11 = 9999 ∧ f_X8_whyNoYear σ8 a1 a2 = some 3) ∨ (¬ σ9.1 82 11 = 9999 ∧ f_X8_whyNoYear σ8 a1 a2 = some 0))) := by
  have e8 : ∀ p q r5 r15, f_X8_areUnlike ω r5 r15 = some p → f_X8_areUnlike σ8 r5 r15 = some q → (∀ k, r5 = some k → ω.1 k 2 = σ8.1 k 2) → (∀ k, r15 = some k → ω.1 k 2 = σ8.1 k 2) → p = q := by
    intro p q r5 r15 h1 h2 h3 h4
    cases r5 with
    | none => exact Option.some.inj (h1.symm.trans h2)
    | some k =>
      cases r15 with
      | none => exact Option.some.inj (h1.symm.trans h2)
      | some k' =>
        unfold f_X8_areUnlike at h1 h2
        rw [onN_1, onN_1, h3 k rfl, h4 k' rfl] at h1
        rw [onN_1, onN_1] at h2
        exact Option.some.inj (h1.symm.trans h2)
  rw [h.unl9]
  have hin := h.2.2.1.1
  have d := h.2.1
  rcases unl_c hin a1 a2 with ⟨hn, ⟨r5, r15, e1, e2, e3⟩, e4⟩ | ⟨p, q, hp, hq, hpN, hqN, rfl, rfl, hu, hn, e1, e2, e3, e4⟩
  · refine Or.inl ⟨by rw [← d]; exact hn, ?_, e4⟩
    have sw : ∀ a r k, f_X0_swimmerAt ω 1 a = some r → r = some k → ω.1 k 2 = σ8.1 k 2 := by
      intro a r k q1 q2
      rcases sA8 hin a with ⟨-, e⟩ | ⟨p, hp, -, -, -, e⟩
      · rw [e] at q1
        have := Option.some.inj q1
        rw [← this] at q2
        cases q2
      · rw [e] at q1
        have := Option.some.inj q1
        rw [← this] at q2
        cases q2
        exact h.1 _ _ (by omega) (lk_scr (Or.inl ⟨rfl, rfl⟩) (Or.inl (by omega)) 2)
    have e3' : f_X8_areUnlike σ8 r5 r15 = some false := by
      rw [← e3]
      cases r5 with
      | none => rfl
      | some k =>
        cases r15 with
        | none => rfl
        | some k' =>
          unfold f_X8_areUnlike
          rw [onN_1, onN_1, onN_1, onN_1, sw a1 _ k e1 rfl, sw a2 _ k' e2 rfl]
    unfold f_X8_whyNoYear
    rw [h.sA, e1, bind_s, h.sA, e2, bind_s, e3', bind_s, if_neg (by decide)]
  · rw [d] at hu hpN hqN
    refine Or.inr ⟨e4, p, q, hp, hq, hpN, hqN, rfl, rfl, hu, by rw [h.sA, e1], by rw [h.sA, e2], ?_⟩
    have e3' : f_X8_areUnlike σ8 (some (12 + 2 * p)) (some (12 + 2 * q)) = some true := by
      unfold f_X8_areUnlike
      rw [onN_1, onN_1, if_pos (K12 p hp), if_pos (K12 q hq), if_neg (fun z => hu ((h.rs hpN 2 (by omega)).symm.trans (z.trans (h.rs hqN 2 (by omega)))))]
    obtain ⟨y, hy, ey⟩ := year_n h.ok
    have r4 : σ8.1 1 4 = nI y := (h.r (i := 11) (by decide)).trans ey
    have w : f_X8_whyNoYear σ8 (nI p) (nI q) = if nI y < 9999 then some 0 else some 3 := by
      unfold f_X8_whyNoYear
      rw [h.sA, e1, bind_s, h.sA, e2, bind_s, e3', bind_s, if_pos rfl, r4]
    by_cases hy9 : y = 9999
    · subst hy9
      exact Or.inl ⟨ey, by rw [w, if_neg (by decide)]⟩
    · refine Or.inr ⟨by rw [ey]; exact nI_ne _ 9999 rfl (by omega) (by omega) hy9, ?_⟩
      rw [w, if_pos (show nI y < 9999 from nI_lt (b := 9999) (by omega) (by omega))]
theorem YS.self9 {σ8 σ9 ω : Sto} (h : YS σ8 σ9 ω) (i : Nat) : YS σ8 (sI σ9 82 i (σ9.1 82 i)) ω := h.s9 (by
    funext b
    rw [sI_at]
    by_cases hb : b = i
    · rw [if_pos hb, hb]
    · rw [if_neg hb]) (fun k j hk hk' => by rw [sI_ne (by omega)])
theorem er_LPr {f g : Sto → Option (Int32 × Sto)} {b : Bool} {σ : Sto} {k : Nat} (hI : Inv σ) (h8 : f σ = some (-1000000000 - nI k, rf σ k)) (h9 : g (rf σ k) = some (-1000000000 - nI k, fi (rf σ k) k)) : ∃ r s, f σ = some r ∧ g r.2 = some s ∧ (b = true → r.1 = s.1) ∧ Inv s.2 :=
  ⟨_, _, h8, h9, fun _ => rfl, inv_err hI (Fr.rf _) (Fr.rf _)⟩
theorem s_year (a1 a2 : Int32) (b : Bool) : LPr (fun σ => f_X8_year σ a1 a2) (fun σ => f_X9_year σ a1 a2) b Inv Inv := by
  intro σ hI
  have y0 := YS.st hI (K8.rf σ)
  rcases why_c y0 a1 a2 with ⟨-, e8, e9⟩ | ⟨e9, p, q, hp, hq, hpN, hqN, rfl, rfl, hu, e1, e2, ⟨h11, e8⟩ | ⟨h11, e8⟩⟩
  · refine er_LPr (f := fun σ => f_X8_year σ a1 a2) (g := fun σ => f_X9_year σ a1 a2) (k := 1) hI ?_ ?_
    · show f_X8_year σ a1 a2 = _
      unfold f_X8_year
      rw [e8, bind_s, if_neg (by decide), r8_1, bind_s]
    · show f_X9_year (rf σ 1) a1 a2 = _
      unfold f_X9_year f_X9_aYear
      rw [show f_X9_areUnlike (rf σ 1) a1 a2 = some false from e9, bind_s, if_neg (by decide), r9_1, bind_s, bind_s]
  · refine er_LPr (f := fun σ => f_X8_year σ (nI p) (nI q)) (g := fun σ => f_X9_year σ (nI p) (nI q)) (k := 3) hI ?_ ?_
    · show f_X8_year σ (nI p) (nI q) = _
      unfold f_X8_year
      rw [e8, bind_s, if_neg (by decide), r8_3, bind_s]
    · show f_X9_year (rf σ 3) (nI p) (nI q) = _
      unfold f_X9_year f_X9_aYear
      rw [show f_X9_areUnlike (rf σ 3) (nI p) (nI q) = some true from e9, bind_s, if_pos rfl, rdA_82_11, bind_s, if_pos (show (rf σ 3).1 82 11 = 9999 from h11), r9_3, bind_s, bind_s]
  · refine fin_ys (f := fun σ => f_X8_year σ (nI p) (nI q)) (g := fun σ => f_X9_year σ (nI p) (nI q)) hI (fun σ9 hk => ?_)
    have y1 := YS.st hI hk
    have d : σ9.1 82 = σ.1 82 := funext fun j => hk 82 j (by omega)
    obtain ⟨α, β, γ, z1, z2, z3, z4, z5⟩ := year_go (y1.self9 6) (p := p) (q := q) (by rw [sI_nj (by decide), d]; exact h11) hp hq (by unfold NN; rw [sI_nj (by decide), d]; exact hpN) (by unfold NN; rw [sI_nj (by decide), d]; exact hqN) (by unfold S9; rw [sI_nj (by omega), sI_nj (by omega), d]; exact hu) e1 e2
    refine ⟨β.1 82 8, α, β, γ, ?_, ?_, z3, z4, (K9.w _).tr z5⟩
    · show f_X8_year σ (nI p) (nI q) = _
      unfold f_X8_year
      rw [e8, bind_s, if_pos rfl, z1, bind_s, z3.r (i := 8) (by decide)]
    · show f_X9_year σ9 (nI p) (nI q) = _
      unfold f_X9_year f_X9_aYear
      rw [y1.unl9, e9, bind_s, if_pos rfl, rdA_82_11, bind_s, d, if_neg h11, if_neg (by decide), rdA_82_6, bind_s]
      unfold f_X9_aYear_L63
      rw [wrA_82_6, bind_s, z2, bind_s, rdA_82_8, bind_s, bind_s]
theorem s_loose (a1 a2 : Int32) (b : Bool) : LPr (fun σ => f_X8_loose σ a1 a2) (fun σ => f_X9_loose σ a1 a2) b Inv Inv := by
  intro σ hI
  have y0 := YS.st hI (K8.rf σ)
  rcases why_c y0 a1 a2 with ⟨-, e8, e9⟩ | ⟨e9, p, q, hp, hq, hpN, hqN, rfl, rfl, hu, e1, e2, ⟨h11, e8⟩ | ⟨h11, e8⟩⟩
  · refine er_LPr (f := fun σ => f_X8_loose σ a1 a2) (g := fun σ => f_X9_loose σ a1 a2) (k := 1) hI ?_ ?_
    · show f_X8_loose σ a1 a2 = _
      unfold f_X8_loose
      rw [e8, bind_s, if_neg (by decide), r8_1, bind_s]
    · show f_X9_loose (rf σ 1) a1 a2 = _
      unfold f_X9_loose f_X9_aYear
      rw [show f_X9_areUnlike (rf σ 1) a1 a2 = some false from e9, bind_s, if_neg (by decide), r9_1, bind_s, bind_s]
  · refine er_LPr (f := fun σ => f_X8_loose σ (nI p) (nI q)) (g := fun σ => f_X9_loose σ (nI p) (nI q)) (k := 3) hI ?_ ?_
    · show f_X8_loose σ (nI p) (nI q) = _
      unfold f_X8_loose
      rw [e8, bind_s, if_neg (by decide), r8_3, bind_s]
    · show f_X9_loose (rf σ 3) (nI p) (nI q) = _
      unfold f_X9_loose f_X9_aYear
      rw [show f_X9_areUnlike (rf σ 3) (nI p) (nI q) = some true from e9, bind_s, if_pos rfl, rdA_82_11, bind_s, if_pos (show (rf σ 3).1 82 11 = 9999 from h11), r9_3, bind_s, bind_s]
  · refine fin_ys (f := fun σ => f_X8_loose σ (nI p) (nI q)) (g := fun σ => f_X9_loose σ (nI p) (nI q)) hI (fun σ9 hk => ?_)
    have y1 := YS.st hI hk
    have d : σ9.1 82 = σ.1 82 := funext fun j => hk 82 j (by omega)
    generalize hx : σ9.1 82 13 * 1103515245 + 12345 = x
    have y2 := y1.mp (i := 13) (j := 15) (by decide) (by decide) (v := x) (ok_free (by decide) _)
    generalize hw : irem (iushr x 8) 7 - 3 = w
    have y3 := y2.mp (i := 6) (j := 1) (by decide) (by decide) (v := w) (ok_free (by decide) _)
    have dd : ∀ i, i ≠ 6 → i ≠ 13 → (sI (sI σ9 82 13 x) 82 6 w).1 82 i = σ.1 82 i := fun i h1 h2 => by rw [sI_nj h1, sI_nj h2, d]
    have hs : ∀ r, S9 ((sI (sI σ9 82 13 x) 82 6 w).1 82) r 2 = S9 (σ.1 82) r 2 := fun r => dd _ (by omega) (by omega)
    obtain ⟨α, β, γ, z1, z2, z3, z4, z5⟩ := year_go y3 (p := p) (q := q) (by rw [dd _ (by decide) (by decide)]; exact h11) hp hq (by unfold NN; rw [dd _ (by decide) (by decide)]; exact hpN) (by unfold NN; rw [dd _ (by decide) (by decide)]; exact hqN) (by rw [hs, hs]; exact hu) (by rw [← e1]; exact sA_eq (by rw [sI_nj (by decide), sI_nj (by decide)]) _) (by rw [← e2]; exact sA_eq (by rw [sI_nj (by decide), sI_nj (by decide)]) _)
    refine ⟨β.1 82 8, α, β, γ, ?_, ?_, z3, ((K8.w _ (by decide)).tr (K8.w _ (by decide))).tr z4, ((K9.w _).tr (K9.w _)).tr z5⟩
    · show f_X8_loose σ (nI p) (nI q) = _
      unfold f_X8_loose f_X0_draw
      rw [e8, bind_s, if_pos rfl, lp_b, y1.r (i := 13) (j := 15) (by decide), hx, bind_s]
      show lp (sI (sI σ 1 15 x) 1 1 (irem (iushr ((sI σ 1 15 x).1 1 15) 8) 7 - 3)) _ = _
      rw [show (sI σ 1 15 x).1 1 15 = x by rw [sI_at, if_pos rfl], hw, lp_b, z1, bind_s, z3.r (i := 8) (by decide)]
    · show f_X9_loose σ9 (nI p) (nI q) = _
      unfold f_X9_loose f_X9_aYear f_X9_drawn
      rw [y1.unl9, e9, bind_s, if_pos rfl, rdA_82_11, bind_s, d, if_neg h11, if_pos rfl, rdA_82_13, bind_s, hx, wrA_82_13, bind_s, rdA_82_13, bind_s, bind_s]
      unfold f_X9_aYear_L63
      rw [show (sI σ9 82 13 x).1 82 13 = x by rw [sI_at, if_pos rfl], hw, wrA_82_6, bind_s, z2, bind_s, rdA_82_8, bind_s, bind_s]
theorem shA8 (σ : Sto) (a : Int32) : (isO a 0 3 = true ∧ f_X8_sheetAt σ a = some none) ∨ ∃ s, s < 4 ∧ a = nI s ∧ isO a 0 3 = false ∧ f_X8_sheetAt σ a = some (some (73 + 2 * s)) := by
  unfold f_X8_sheetAt
  rw [out_eq, bind_s]
  cases h : isO a 0 3 with
  | true => exact Or.inl ⟨rfl, by rw [if_pos rfl]⟩
  | false =>
    obtain ⟨s, hs, rfl⟩ := isO_nI (n := 3) rfl h
    refine Or.inr ⟨s, by omega, rfl, rfl, ?_⟩
    rw [if_neg (by decide), rdR_nI (by show s < 4; omega), bind_s, (show ∀ s, s < 4 → R0 67 s = some (73 + 2 * s) by decide) s (by omega)]
theorem sh_f : ∀ s, s < 4 → K0 (73 + 2 * s) = 4 ∧ A0 (73 + 2 * s) 0 = 74 + 2 * s ∧ Ln0 (74 + 2 * s) = 40 := by decide
theorem sh_rd {σ : Sto} {s i : Nat} (hs : s < 4) (hi : i < 40) : f_X4_read σ (73 + 2 * s) (nI i) = some (σ.1 (74 + 2 * s) i) := by
  obtain ⟨-, h2, h3⟩ := sh_f s hs
  unfold f_X4_read
  rw [out_eq, bind_s, show isO (nI i) 0 (40 - 1) = false from isO_lit (n := 39) (by omega) (by omega), if_neg (by decide), h2, rd_nI (by rw [h3]; exact hi), bind_s]
theorem YS.sh {σ8 σ9 ω : Sto} (h : YS σ8 σ9 ω) {s : Nat} (hs : s < 4) : σ8.1 (73 + 2 * s) 2 = σ9.1 90 s ∧ σ8.1 (73 + 2 * s) 1 = σ9.1 91 s ∧ (∃ n, n ≤ 40 ∧ σ9.1 91 s = nI n) ∧ ∀ i, i < 40 → σ8.1 (74 + 2 * s) i = σ9.1 92 (40 * s + i) := by
  obtain ⟨q1, q2, q3, q4⟩ := h.2.2.1.1.2.2.2.2.1 s hs
  have nsc : ∀ k j, (73 ≤ k ∧ k ≤ 80) ∨ (90 ≤ k ∧ k ≤ 92) → scr k j = false := by
    intro k j hk
    simp only [scr, Bool.or_eq_false_iff, Bool.and_eq_false_iff, beq_eq_false_iff_ne, decide_eq_false_iff_not, ne_eq]
    omega
  have e8 : ∀ k j, (73 ≤ k ∧ k ≤ 80) → σ8.1 k j = ω.1 k j := fun k j hk => (h.1 k j (by omega) (nsc k j (Or.inl hk))).symm
  have e9 : ∀ k j, (90 ≤ k ∧ k ≤ 92) → σ9.1 k j = ω.1 k j := fun k j hk => (h.2.2.2.2.2 k j hk.1 hk.2).trans (h.1 k j (by omega) (nsc k j (Or.inr hk))).symm
  refine ⟨by rw [e8 _ _ (by omega), e9 _ _ (by omega)]; exact q1, by rw [e8 _ _ (by omega), e9 _ _ (by omega)]; exact q2, by rw [e9 _ _ (by omega)]; exact q3, fun i hi => by rw [e8 _ _ (by omega), e9 _ _ (by omega)]; exact q4 i hi⟩
theorem mul40 : ∀ s, s < 4 → (40 * nI s : Int32) = nI (40 * s) := by decide
theorem mul2 : ∀ i, i ≤ 40 → (2 * nI i + 2 : Int32) = nI (2 * i + 2) := by decide +kernel
theorem years_L {s : Nat} (hs : s < 4) : ∀ (n i : Nat) (σ8 σ9 ω : Sto), i ≤ 20 → 20 < n + i → YS σ8 σ9 ω → ∃ v σ8' σ9' ω', f_X8_years_L34 (73 + 2 * s) n (nI i) (nI (2 * i)) σ8 = some (v, σ8') ∧ f_X9_years_L35 (nI s) n (nI i) (nI (40 * s + 2 * i)) σ9 = some (v, σ9') ∧ YS σ8' σ9' ω' ∧ K8 σ8 σ8' ∧ K9 σ9 σ9' := by
  intro n
  induction n with
  | zero => intro i _ _ _ h1 h2; omega
  | succ n ih =>
    intro i σ8 σ9 ω h1 h2 h
    obtain ⟨-, c1, ⟨m, hm, c2⟩, c3⟩ := h.sh hs
    rw [f_X8_years_L34, f_X9_years_L35, rd_nI (by show s < 4; exact hs), bind_s, mul2 i (by omega), nI_1, nI_1, c1, c2]
    by_cases hmi : m ≤ 2 * i + 1
    · rw [if_pos (nI_le hmi (by omega)), if_pos (show nI m < nI (2 * i + 2) from (nI_ltI (by omega) (by omega)).mpr (by omega))]
      exact ⟨_, _, _, _, rfl, rfl, h, K8.rf _, K9.rf _⟩
    · rw [if_neg (nI_ge (by omega) (by omega)), if_neg (nI_nlt (by omega) (by omega)), sh_rd hs (by omega), bind_s, sh_rd hs (by omega), bind_s, c3 _ (by omega), c3 _ (by omega), rdA_82_11, bind_s, rd_nI (by show 40 * s + 2 * i < 160; omega), bind_s, nI_1, rd_nI (by show 40 * s + 2 * i + 1 < 160; omega), bind_s, bind_s, bind_s]
      generalize σ9.1 92 (40 * s + 2 * i) = a1
      rw [show 40 * s + (2 * i + 1) = 40 * s + 2 * i + 1 by omega]
      generalize σ9.1 92 (40 * s + 2 * i + 1) = a2
      obtain ⟨y, hy, ey⟩ := year_n h.ok
      rcases why_c h a1 a2 with ⟨-, e8, e9⟩ | ⟨e9, p, q, hp, hq, hpN, hqN, rfl, rfl, hu, e1, e2, ⟨h11, e8⟩ | ⟨h11, e8⟩⟩
      · refine ⟨_, _, _, _, by rw [e8, bind_s, if_neg (by decide)], ?_, h, K8.rf _, K9.rf _⟩
        by_cases h9 : (9999 : Int32) ≤ σ9.1 82 11
        · rw [if_pos h9]
        · rw [if_neg h9, e9, bind_s, if_neg (by decide)]
      · refine ⟨_, _, _, _, by rw [e8, bind_s, if_neg (by decide)], ?_, h, K8.rf _, K9.rf _⟩
        rw [if_pos (by rw [h11]; decide)]
      · have h9 : ¬ (9999 : Int32) ≤ σ9.1 82 11 := by
          rw [ey] at h11 ⊢
          exact nI_ge (b := 9999) (by
            rcases (show y = 9999 ∨ y < 9999 by omega) with rfl | h'
            · exact absurd rfl h11
            · exact h') (by omega)
        obtain ⟨α, β, γ, z1, z2, z3, z4, z5⟩ := year_go h h11 hp hq hpN hqN hu e1 e2
        obtain ⟨v, α', β', γ', w1, w2, w3, w4, w5⟩ := ih (i + 1) α β γ (by omega) (by omega) z3
        refine ⟨v, α', β', γ', ?_, ?_, w3, z4.tr w4, z5.tr w5⟩
        · rw [e8, bind_s, if_pos rfl, z1, bind_s, show (nI (2 * i) + 2 : Int32) = nI (2 * (i + 1)) from nI_add (2 * i) 2]
          exact w1
        · rw [if_neg h9, e9, bind_s, if_pos rfl, z2, bind_s, show (nI (40 * s + 2 * i) + 2 : Int32) = nI (40 * s + 2 * (i + 1)) from nI_add (40 * s + 2 * i) 2]
          exact w2
theorem s_years (a1 : Int32) (b : Bool) : LPr (fun σ => f_X8_years σ a1) (fun σ => f_X9_years σ a1) b Inv Inv := by
  intro σ hI
  rcases shA8 σ a1 with ⟨hq, e⟩ | ⟨s, hs, rfl, hq, e⟩
  · refine er_LPr (f := fun σ => f_X8_years σ a1) (g := fun σ => f_X9_years σ a1) (k := 1) hI ?_ ?_
    · show f_X8_years σ a1 = _
      unfold f_X8_years
      rw [e, bind_s, onN_0, r8_1, bind_s]
    · show f_X9_years (rf σ 1) a1 = _
      unfold f_X9_years
      rw [sheet_eq, bind_s, hq, if_neg (by decide), r9_1, bind_s]
  · obtain ⟨c0, -, -, -⟩ := (YS.st hI (K8.rf σ)).sh hs
    by_cases h0 : σ.1 90 s = 0
    · refine er_LPr (f := fun σ => f_X8_years σ (nI s)) (g := fun σ => f_X9_years σ (nI s)) (k := 2) hI ?_ ?_
      · show f_X8_years σ (nI s) = _
        unfold f_X8_years f_X4_isMissing
        rw [e, bind_s, onN_1, if_pos (sh_f s hs).1, c0, if_pos h0, bind_s, if_pos rfl, r8_2, bind_s]
      · show f_X9_years (rf σ 2) (nI s) = _
        unfold f_X9_years
        rw [sheet_eq, bind_s, hq, if_pos (by decide), rd_nI (by show s < 4; exact hs), bind_s, rf_at (by decide), if_pos h0, r9_2, bind_s]
    · refine fin_ys (f := fun σ => f_X8_years σ (nI s)) (g := fun σ => f_X9_years σ (nI s)) hI (fun σ9 hk => ?_)
      have y1 := YS.st hI hk
      obtain ⟨v, α, β, γ, z1, z2, z3, z4, z5⟩ := years_L hs FU 0 σ σ9 σ (by omega) (by unfold FU; omega) y1
      refine ⟨v, α, β, γ, ?_, ?_, z3, z4, z5⟩
      · show f_X8_years σ (nI s) = _
        unfold f_X8_years f_X4_isMissing
        rw [e, bind_s, onN_1, if_pos (sh_f s hs).1, c0, if_neg h0, bind_s, if_neg (by decide)]
        exact z1
      · show f_X9_years σ9 (nI s) = _
        unfold f_X9_years
        rw [sheet_eq, bind_s, hq, if_pos (by decide), rd_nI (by show s < 4; exact hs), bind_s, hk 90 s (by omega), if_neg h0, mul40 s hs]
        exact z2
