theorem met_sym {A B : Nat → Int32} (hA : A 2 = 0) (hB : ¬ B 2 = 0) (fl : Int32 → Int32) (s : Int32) : met B A fl s = met A B fl s := by
  have hm : ∀ t, mtT B A fl s t = mtT A B fl s t := by
    intro t
    unfold mtT gapT
    rw [if_pos hA, if_neg hB]
    by_cases h : pLn A t = pLn B t
    · rw [decide_eq_true h, decide_eq_true h.symm]
    · rw [decide_eq_false h, decide_eq_false (fun z => h z.symm)]
  have hd : ∀ d, mtD B A fl s d = mtD A B fl s d := by
    intro d
    induction d with
    | zero => rfl
    | succ d ih => rw [mtD, mtD, hm, ih]
  exact hd 60
theorem metP_sym (A B : Nat → Int32) (fl : Int32 → Int32) (u : Nat) : metP B A fl u = metP A B fl u := by unfold metP; rw [Int32.add_comm]
/-- what a swim of the reference leaves alone -/
def Fs (σ τ : Sto) : Prop := ∀ a b, a ≠ 86 → a ≠ 88 → ¬ (a = 81 ∧ (b = 15 ∨ b = 16)) → τ.1 a b = σ.1 a b
theorem Fs.fr {σ τ : Sto} (h : Fs σ τ) : Fr σ τ := fun k j hs => h k j (by rintro rfl; simp [scr] at hs) (by rintro rfl; simp [scr] at hs) (by rintro ⟨rfl, rfl | rfl⟩ <;> simp [scr] at hs)
theorem Fs.tr {σ τ υ : Sto} (h : Fs σ τ) (h' : Fs τ υ) : Fs σ υ := fun a b x y z => (h' a b x y z).trans (h a b x y z)
theorem Fs.d {σ τ : Sto} (h : Fs σ τ) : τ.1 82 = σ.1 82 := funext fun j => h 82 j (by decide) (by decide) (by omega)
theorem swim_L {V : Nat → Int32} (hc : CW V 0) {p q : Nat} (hp : p < 8) (hq : q < 8) (gA : GR (S9 V p)) (gB : GR (S9 V q)) (hs : S9 V p 2 = 0) : ∀ (d n : Nat) (σ : Sto), d < n → d ≤ 60 → σ.1 82 = V →
    ∃ τ, f_X9_swim_L38 (nI p) (nI q) n (pPos (S9 V p) (flV V (V 6)) (60 - d)) (pPos (S9 V q) (flV V (V 6)) (60 - d)) (nI (60 - d)) σ = some ((mtD (S9 V p) (S9 V q) (flV V (V 6)) (V 7) d).isSome, τ) ∧ Fs σ τ ∧ ∀ u, mtD (S9 V p) (S9 V q) (flV V (V 6)) (V 7) d = some u → τ.1 81 15 = nI u ∧ τ.1 81 16 = metP (S9 V p) (S9 V q) (flV V (V 6)) u := by
  generalize hA : S9 V p = A at *
  generalize hB : S9 V q = B at *
  generalize hF : flV V (V 6) = fl at *
  intro d
  induction d with
  | zero =>
    intro n σ h1 _ _
    obtain ⟨n, rfl⟩ : ∃ n', n = n' + 1 := ⟨n - 1, by omega⟩
    refine ⟨σ, ?_, fun _ _ _ _ _ => rfl, fun u hu => by cases hu⟩
    rw [f_X9_swim_L38, if_pos (by decide)]
    rfl
  | succ d ih =>
    intro n σ h1 h2 h3
    obtain ⟨n, rfl⟩ : ∃ n', n = n' + 1 := ⟨n - 1, by omega⟩
    obtain ⟨t, ht, hd⟩ : ∃ t, t < 60 ∧ d = 59 - t := ⟨59 - d, by omega, by omega⟩
    have hu1 : 60 - (d + 1) = t := by omega
    have hu2 : 60 - d = t + 1 := by omega
    rw [hu1]
    have hstep : mtD A B fl (V 7) (d + 1) = if mtT A B fl (V 7) t = true then some t else mtD A B fl (V 7) d := by rw [mtD, show 59 - d = t by omega]
    obtain ⟨σ1, x1, o1⟩ := goes9 (σ := σ) (by rw [h3]; exact hc) hp (by rw [h3, hA]; exact gA) (pPos A fl t) (t := t) ht
    rw [h3, hA, hF] at x1
    have d1 : σ1.1 82 = V := by rw [← h3]; funext j; exact o1 82 j (by decide) (by decide)
    obtain ⟨σ2, x2, o2⟩ := goes9 (σ := σ1) (by rw [d1]; exact hc) hq (by rw [d1, hB]; exact gB) (pPos B fl t) (t := t) ht
    rw [d1, hB, hF] at x2
    have d2 : σ2.1 82 = V := by rw [← d1]; funext j; exact o2 82 j (by decide) (by decide)
    have f2 : Fs σ σ2 := fun a b h h' _ => by rw [o2 a b h h', o1 a b h h']
    have x3 : f_X9_laneOf σ2 (nI p) (nI t) = some (pLn A t) := by rw [lane9 hp ht, d2, hA]
    have x4 : f_X9_laneOf σ2 (nI q) (nI t) = some (pLn B t) := by rw [lane9 hq ht, d2, hB]
    have x5 : (pGo B fl (pPos B fl t) t - pGo A fl (pPos A fl t) t) = gapT A B fl (t + 1) := by
      unfold gapT
      rw [if_pos hs, pPos, pPos]
    have next : mtT A B fl (V 7) t = false → ∃ τ, f_X9_swim_L38 (nI p) (nI q) n (pGo A fl (pPos A fl t) t) (pGo B fl (pPos B fl t) t) (nI t + 1) σ2 = some ((mtD A B fl (V 7) (d + 1)).isSome, τ) ∧ Fs σ τ ∧ ∀ u, mtD A B fl (V 7) (d + 1) = some u → τ.1 81 15 = nI u ∧ τ.1 81 16 = metP A B fl u := by
      intro hm
      rw [hstep, hm, if_neg (by decide), nI_1]
      obtain ⟨τ, t1, t2, t3⟩ := ih n σ2 (by omega) (by omega) d2
      rw [hu2, pPos, pPos] at t1
      exact ⟨τ, t1, f2.tr t2, t3⟩
    rw [f_X9_swim_L38, if_neg (show ¬ (60 : Int32) ≤ nI t from nI_ge (b := 60) ht (by omega)), x1, bind_s, x2, bind_s, x3, bind_s, x4, bind_s]
    unfold f_X9_swim_L120
    by_cases hl : pLn A t = pLn B t
    · rw [if_pos hl, rdA_82_7, bind_s, d2, x5]
      by_cases hg : V 7 < gapT A B fl (t + 1)
      · rw [if_pos hg]
        exact next (by unfold mtT; rw [decide_eq_true hg]; simp)
      · have hm : mtT A B fl (V 7) t = true := by unfold mtT; rw [decide_eq_true hl, decide_eq_false hg]; rfl
        rw [if_neg hg, hstep, hm, if_pos rfl, lp_b, lp_b]
        refine ⟨_, rfl, fun a b h h' hn => ?_, fun u hu => ?_⟩
        · have e1 : ∀ (σ : Sto) (j : Nat) (v : Int32), j = 15 ∨ j = 16 → (sI σ 81 j v).1 a b = σ.1 a b := by
            intro σ j v hj
            show (if a = 81 ∧ b = j then v else σ.1 a b) = _
            rw [if_neg (fun z => hn ⟨z.1, by omega⟩)]
          rw [e1 _ _ _ (Or.inr rfl), e1 _ _ _ (Or.inl rfl)]
          exact f2 a b h h' hn
        · cases hu
          refine ⟨by rw [sI_nj (by decide), sI_at, if_pos rfl], ?_⟩
          rw [sI_at, if_pos rfl]
          unfold metP
          rw [pPos, pPos]
    · rw [if_neg hl]
      exact next (by unfold mtT; rw [decide_eq_false hl]; rfl)
theorem pq_sum : ∀ p, p < 8 → ∀ q, q < 8 → (nI p + nI q - nI p : Int32) = nI q ∧ (nI p + nI q - nI q : Int32) = nI p := by decide +kernel
theorem swim9 {σ : Sto} (hc : CW (σ.1 82) 0) {p q : Nat} (hp : p < 8) (hq : q < 8) (gA : GR (S9 (σ.1 82) p)) (gB : GR (S9 (σ.1 82) q)) (hu : ¬ S9 (σ.1 82) p 2 = S9 (σ.1 82) q 2) :
    ∃ τ, f_X9_swim σ (nI p) (nI q) = some ((met (S9 (σ.1 82) p) (S9 (σ.1 82) q) (flV (σ.1 82) (σ.1 82 6)) (σ.1 82 7)).isSome, τ) ∧ Fs σ τ ∧ ∀ u, met (S9 (σ.1 82) p) (S9 (σ.1 82) q) (flV (σ.1 82) (σ.1 82 6)) (σ.1 82 7) = some u → τ.1 81 15 = nI u ∧ τ.1 81 16 = metP (S9 (σ.1 82) p) (S9 (σ.1 82) q) (flV (σ.1 82) (σ.1 82 6)) u := by
  generalize hσ : sI σ 81 15 (-1) = σ1
  have d1 : σ1.1 82 = σ.1 82 := by rw [← hσ]; funext j; rw [sI_ne (by decide)]
  have f1 : Fs σ σ1 := fun a b h h' hn => by
    rw [← hσ]
    show (if a = 81 ∧ b = 15 then _ else σ.1 a b) = _
    rw [if_neg (fun z => hn ⟨z.1, Or.inl z.2⟩)]
  have o2 : f_X9_of σ (nI p) 2 = some (S9 (σ.1 82) p 2) := of_eq hp (j := 2) (by omega)
  obtain ⟨s1, s2⟩ := pq_sum p hp q hq
  unfold f_X9_swim f_X9_swim_L14
  rw [o2, bind_s]
  by_cases hs : S9 (σ.1 82) p 2 = 0
  · rw [if_pos hs, lp_b, hσ, s1]
    obtain ⟨τ, t1, t2, t3⟩ := swim_L hc hp hq gA gB hs 60 FU σ1 (by unfold FU; omega) (by omega) d1
    have hq2 : ¬ S9 (σ.1 82) q 2 = 0 := fun z => hu (hs.trans z.symm)
    rw [show 60 - 60 = 0 from rfl, pPos, pPos, if_pos hs, if_neg hq2] at t1
    exact ⟨τ, t1, f1.tr t2, t3⟩
  · have hq2 : S9 (σ.1 82) q 2 = 0 := by
      rcases gB.side with h | h
      · exact h
      · rcases gA.side with h' | h'
        · exact absurd h' hs
        · exact absurd (h'.trans h.symm) hu
    rw [if_neg hs, lp_b, hσ, s2, met_sym hq2 hs]
    obtain ⟨τ, t1, t2, t3⟩ := swim_L hc hq hp gB gA hq2 60 FU σ1 (by unfold FU; omega) (by omega) d1
    rw [show 60 - 60 = 0 from rfl, pPos, pPos, if_pos hq2, if_neg hs] at t1
    exact ⟨τ, t1, f1.tr t2, fun u hu => by rw [← metP_sym]; exact t3 u hu⟩
/-- two numbers are of swimmers from unlike sides -/
def unl (V : Nat → Int32) (a1 a2 : Int32) : Bool := !isO a1 0 (V 12 - 1) && (!isO a2 0 (V 12 - 1) && !decide (S9 V a1.toNatClampNeg 2 = S9 V a2.toNatClampNeg 2))
theorem unl_c {σ : Sto} (h : Iw σ) (a1 a2 : Int32) : (unl (σ.1 82) a1 a2 = false ∧ (∃ r5 r15, f_X0_swimmerAt σ 1 a1 = some r5 ∧ f_X0_swimmerAt σ 1 a2 = some r15 ∧ f_X8_areUnlike σ r5 r15 = some false) ∧ f_X9_areUnlike σ a1 a2 = some false) ∨
    ∃ p q, p < 8 ∧ q < 8 ∧ p < NN (σ.1 82) ∧ q < NN (σ.1 82) ∧ a1 = nI p ∧ a2 = nI q ∧ ¬ S9 (σ.1 82) p 2 = S9 (σ.1 82) q 2 ∧ unl (σ.1 82) a1 a2 = true ∧ f_X0_swimmerAt σ 1 a1 = some (some (12 + 2 * p)) ∧ f_X0_swimmerAt σ 1 a2 = some (some (12 + 2 * q)) ∧ f_X8_areUnlike σ (some (12 + 2 * p)) (some (12 + 2 * q)) = some true ∧ f_X9_areUnlike σ a1 a2 = some true := by
  have u9 : f_X9_areUnlike σ a1 a2 = some (unl (σ.1 82) a1 a2) := by
    unfold f_X9_areUnlike unl
    rcases sA8 h a1 with ⟨q, -⟩ | ⟨p, hp, hpN, rfl, q, -⟩
    · rw [isS_eq, bind_s, q, if_neg (by decide)]; rfl
    · rw [isS_eq, bind_s, q, if_pos (by decide)]
      rcases sA8 h a2 with ⟨q', -⟩ | ⟨p', hp', hpN', rfl, q', -⟩
      · rw [isS_eq, bind_s, q', if_neg (by decide)]; rfl
      · have o2 : f_X9_of σ (nI p) 2 = some (S9 (σ.1 82) p 2) := of_eq hp (j := 2) (by omega)
        have o2' : f_X9_of σ (nI p') 2 = some (S9 (σ.1 82) p' 2) := of_eq hp' (j := 2) (by omega)
        rw [isS_eq, bind_s, q', if_pos (by decide), o2, bind_s, o2', bind_s, nI_clamp (by omega), nI_clamp (by omega)]
        by_cases e : S9 (σ.1 82) p 2 = S9 (σ.1 82) p' 2
        · rw [if_pos e, decide_eq_true e]; rfl
        · rw [if_neg e, decide_eq_false e]; rfl
  rcases sA8 h a1 with ⟨q, e⟩ | ⟨p, hp, hpN, rfl, q, e⟩
  · have hn : unl (σ.1 82) a1 a2 = false := by unfold unl; rw [q]; rfl
    refine Or.inl ⟨hn, ?_, by rw [u9, hn]⟩
    rcases sA8 h a2 with ⟨-, e'⟩ | ⟨p', -, -, -, -, e'⟩
    · exact ⟨_, _, e, e', rfl⟩
    · exact ⟨_, _, e, e', rfl⟩
  · rcases sA8 h a2 with ⟨q', e'⟩ | ⟨p', hp', hpN', rfl, q', e'⟩
    · have hn : unl (σ.1 82) (nI p) a2 = false := by unfold unl; rw [q, q']; rfl
      exact Or.inl ⟨hn, ⟨_, _, e, e', rfl⟩, by rw [u9, hn]⟩
    · have f1 : σ.1 (12 + 2 * p) 2 = S9 (σ.1 82) p 2 := sw8f h hpN (by omega)
      have f2 : σ.1 (12 + 2 * p') 2 = S9 (σ.1 82) p' 2 := sw8f h hpN' (by omega)
      have a8 : f_X8_areUnlike σ (some (12 + 2 * p)) (some (12 + 2 * p')) = if S9 (σ.1 82) p 2 = S9 (σ.1 82) p' 2 then some false else some true := by
        unfold f_X8_areUnlike
        rw [onN_1, onN_1, if_pos (K12 p hp), if_pos (K12 p' hp'), f1, f2]
      by_cases ee : S9 (σ.1 82) p 2 = S9 (σ.1 82) p' 2
      · have hn : unl (σ.1 82) (nI p) (nI p') = false := by unfold unl; rw [q, q', nI_clamp (by omega), nI_clamp (by omega), decide_eq_true ee]; rfl
        exact Or.inl ⟨hn, ⟨_, _, e, e', by rw [a8, if_pos ee]⟩, by rw [u9, hn]⟩
      · have hn : unl (σ.1 82) (nI p) (nI p') = true := by unfold unl; rw [q, q', nI_clamp (by omega), nI_clamp (by omega), decide_eq_false ee]; rfl
        exact Or.inr ⟨p, p', hp, hp', hpN, hpN', rfl, rfl, ee, hn, e, e', by rw [a8, if_neg ee], by rw [u9, hn]⟩
theorem deref6 {k : Nat} (hk : K0 k = 6) {β : Type} (f : Nat → Option β) : deref 6 (some k) f = f k := by
  show (if K0 k = 6 then f k else none) = f k
  rw [if_pos hk]
theorem s_meet (a1 a2 a3 : Int32) (b : Bool) : LPr (fun σ => f_X8_meet σ a1 a2 a3) (fun σ => f_X9_meet σ a1 a2 a3) b Inv Inv := by
  refine pr_ro (fun σ => if unl (σ.1 82) a1 a2 = true then (if isO a3 0 2 = true then .inr 1 else match met (S9 (σ.1 82) a1.toNatClampNeg) (S9 (σ.1 82) a2.toNatClampNeg) (flV (σ.1 82) (σ.1 82 6)) (σ.1 82 7) with
      | none => .inr 2
      | some u => .inl (if a3 = 0 then nI u else if a3 = 1 then metP (S9 (σ.1 82) a1.toNatClampNeg) (S9 (σ.1 82) a2.toNatClampNeg) (flV (σ.1 82) (σ.1 82 6)) u else pLn (S9 (σ.1 82) a1.toNatClampNeg) u)) else .inr 1) (fun σ τ h => by show _ = _; rw [h.d]) (fun σ h => ?_) (fun σ h => ?_) b
  · show C8 (f_X8_meet σ a1 a2 a3) σ _
    unfold f_X8_meet
    rcases unl_c h a1 a2 with ⟨hn, ⟨r5, r15, e1, e2, e3⟩, -⟩ | ⟨p, q, hp, hq, hpN, hqN, rfl, rfl, hu, hn, e1, e2, e3, -⟩
    · simp only [hn, Bool.false_eq_true, if_false]
      exact ⟨σ, by rw [e1, bind_s, e2, bind_s, e3, bind_s, if_neg (by decide), r8_1, bind_s], Fr.rf σ⟩
    · simp only [hn, if_true]
      rw [e1, bind_s, e2, bind_s, e3, bind_s, if_pos rfl, out_eq, bind_s]
      cases h3 : isO a3 0 2 with
      | true => exact ⟨σ, by rw [if_pos rfl, r8_1, bind_s], Fr.rf σ⟩
      | false =>
        obtain ⟨τ, t1, t2, t3⟩ := feel_eq h.ic (σ.1 1 1)
        have hf : Fl τ (flV (σ.1 82) (σ.1 82 6)) := by rw [← h.mp (i := 6) (j := 1) (by decide)]; exact t2
        have eA : Eq9 (S8 τ (12 + 2 * p)) (S9 (σ.1 82) p) := by rw [swm_fr t3 hp]; exact sw_Eq9 h hpN
        have eB : Eq9 (S8 τ (12 + 2 * q)) (S9 (σ.1 82) q) := by rw [swm_fr t3 hq]; exact sw_Eq9 h hqN
        obtain ⟨υ, u1, u2, u3⟩ := meets8 (K12 p hp) (K12 q hq) (gr9 h.ok hp) (gr9 h.ok hq) eA eB hf (τ.1 1 2)
        have e12 : τ.1 1 2 = σ.1 82 7 := by rw [t3 1 2 (by decide) (by decide)]; exact h.mp (i := 7) (j := 2) (by decide)
        rw [e12] at u1 u3
        have f : Fr σ υ := fun k j hs => by rw [u2 k j (by rintro rfl; simp [scr] at hs)]; exact feel_fr t3 k j hs
        rw [if_neg (by decide), t1, bind_s, deref6 (K12 p hp), deref6 (K12 q hq), e12, u1, bind_s, nI_clamp (by omega), nI_clamp (by omega)]
        simp only [Bool.false_eq_true, if_false]
        cases hm : met (S9 (σ.1 82) p) (S9 (σ.1 82) q) (flV (σ.1 82) (σ.1 82 6)) (σ.1 82 7) with
        | none => exact ⟨υ, by rw [if_neg (show ¬ (none : Option Nat).isSome = true by decide), r8_2, bind_s], f⟩
        | some u =>
          obtain ⟨v1, v2, v3⟩ := u3 u hm
          refine ⟨υ, ?_, f⟩
          rw [if_pos (show (some u).isSome = true from rfl)]
          by_cases h0 : a3 = 0
          · rw [if_pos h0, if_pos h0]; show some (υ.1 58 1, υ) = _; rw [v1]
          · rw [if_neg h0, if_neg h0]
            by_cases h1 : a3 = 1
            · rw [if_pos h1, if_pos h1]; show some (υ.1 58 2, υ) = _; rw [v2]
            · rw [if_neg h1, if_neg h1]; show some (υ.1 58 3, υ) = _; rw [v3]
  · show C9 (f_X9_meet σ a1 a2 a3) σ _
    unfold f_X9_meet
    rcases unl_c h a1 a2 with ⟨hn, -, e3⟩ | ⟨p, q, hp, hq, hpN, hqN, rfl, rfl, hu, hn, -, -, -, e3⟩
    · simp only [hn, Bool.false_eq_true, if_false]
      exact ⟨σ, by rw [e3, bind_s, if_neg (by decide), r9_1, bind_s], Fr.rf σ⟩
    · simp only [hn, if_true]
      rw [e3, bind_s, if_pos rfl, in_0_2, bind_s]
      cases h3 : isO a3 0 2 with
      | true => exact ⟨σ, by rw [if_neg (by decide), r9_1, bind_s], Fr.rf σ⟩
      | false =>
        obtain ⟨τ, t1, t2, t3⟩ := swim9 h.cd.1.cw hp hq (gr9 h.ok hp) (gr9 h.ok hq) hu
        rw [if_pos (by decide), t1, bind_s, nI_clamp (by omega), nI_clamp (by omega)]
        simp only [Bool.false_eq_true, if_false]
        cases hm : met (S9 (σ.1 82) p) (S9 (σ.1 82) q) (flV (σ.1 82) (σ.1 82 6)) (σ.1 82 7) with
        | none => exact ⟨τ, by rw [if_neg (show ¬ (none : Option Nat).isSome = true by decide), r9_2, bind_s], t2.fr⟩
        | some u =>
          obtain ⟨v1, v2⟩ := t3 u hm
          refine ⟨τ, ?_, t2.fr⟩
          rw [if_pos (show (some u).isSome = true from rfl)]
          by_cases h0 : a3 = 0
          · rw [if_pos h0, if_pos h0]; show some (τ.1 81 15, τ) = _; rw [v1]
          · rw [if_neg h0, if_neg h0]
            by_cases h1 : a3 = 1
            · rw [if_pos h1, if_pos h1]; show some (τ.1 81 16, τ) = _; rw [v2]
            · rw [if_neg h1, if_neg h1]
              show (f_X9_laneOf τ (nI p) (τ.1 81 15)).bind _ = _
              rw [v1, lane9 hp (met_lt hm), bind_s, t2.d]
