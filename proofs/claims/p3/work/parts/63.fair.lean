def fairS (A B : Nat → Int32) (fl : Int32 → Int32) (s : Int32) : Int32 ⊕ Nat := match met A B fl s with
  | none => .inr 2
  | some u => match met (upv A 2 (B 2)) (upv B 2 (A 2)) fl s with
    | none => .inr 2
    | some u' => .inl (metP A B fl u + metP (upv A 2 (B 2)) (upv B 2 (A 2)) fl u' - 1200)
theorem ok2 {A : Nat → Int32} (h : GR A) : oks 2 (A 2) = true := h 2 (by omega)
theorem other {A B : Nat → Int32} (hA : GR A) (hB : GR B) (hu : ¬ A 2 = B 2) : 1 - A 2 = B 2 ∧ 1 - B 2 = A 2 := by
  rcases hA.side with h | h <;> rcases hB.side with h' | h'
  · exact absurd (h.trans h'.symm) hu
  · rw [h, h']; decide
  · rw [h, h']; decide
  · exact absurd (h.trans h'.symm) hu
theorem change9 {σ : Sto} {A B : Nat → Int32} {p q : Nat} (hp : p < 8) (hq : q < 8) (hpq : q ≠ p) (hA : Eq9 (S9 (σ.1 82) p) A) (hB : Eq9 (S9 (σ.1 82) q) B) (h1 : 1 - A 2 = B 2) (h2 : 1 - B 2 = A 2) :
    f_X9_changeSides σ (nI p) (nI q) = some (sI (sI σ 82 (16 + 9 * p + 2) (B 2)) 82 (16 + 9 * q + 2) (A 2)) := by
  have o1 : f_X9_of σ (nI p) 2 = some (A 2) := by rw [← hA 2 (by omega)]; exact of_eq hp (j := 2) (by omega)
  have o2 : f_X9_of (sI σ 82 (16 + 9 * p + 2) (B 2)) (nI q) 2 = some (B 2) := by
    rw [show f_X9_of (sI σ 82 (16 + 9 * p + 2) (B 2)) (nI q) 2 = _ from of_eq hq (j := 2) (by omega), ← hB 2 (by omega)]
    unfold S9
    rw [sI_nj (by omega)]
  unfold f_X9_changeSides
  rw [o1, bind_s, h1, show f_X9_becomes σ (nI p) 2 (B 2) = _ from bec_eq hp (j := 2) (by omega) _, bind_s, o2, bind_s, h2, show f_X9_becomes (sI σ 82 (16 + 9 * p + 2) (B 2)) (nI q) 2 (A 2) = _ from bec_eq hq (j := 2) (by omega) _, bind_s]
theorem S9_two {W : Nat → Int32} {A B : Nat → Int32} {p q i : Nat} (hi : i < 9) (hpq : q ≠ p) (hA : Eq9 (S9 W p) A) (hB : Eq9 (S9 W q) B) (v w : Int32) {W' : Nat → Int32} (h : ∀ j, W' j = if j = 16 + 9 * q + i then w else if j = 16 + 9 * p + i then v else W j) : Eq9 (S9 W' p) (upv A i v) ∧ Eq9 (S9 W' q) (upv B i w) := by
  refine ⟨fun j hj => ?_, fun j hj => ?_⟩
  · unfold upv
    show W' (16 + 9 * p + j) = _
    rw [h, if_neg (by omega)]
    by_cases hj' : j = i
    · rw [if_pos (by omega), if_pos hj']
    · rw [if_neg (by omega), if_neg hj']; exact hA j hj
  · unfold upv
    show W' (16 + 9 * q + j) = _
    rw [h]
    by_cases hj' : j = i
    · rw [if_pos (by omega), if_pos hj']
    · rw [if_neg (by omega), if_neg (by omega), if_neg hj']; exact hB j hj
theorem fair8 {τ : Sto} {A B : Nat → Int32} {fl : Int32 → Int32} {s : Int32} {p q : Nat} (hp : p < 8) (hq : q < 8) (gA : GR A) (gB : GR B) (eA : Eq9 (S8 τ (12 + 2 * p)) A) (eB : Eq9 (S8 τ (12 + 2 * q)) B) (hf : Fl τ fl) (hs : τ.1 1 2 = s) :
    C8 ((f_X5_meets τ (12 + 2 * p) (12 + 2 * q) (τ.1 1 2)).bind (fun r66 => if r66.1 = true then ((f_X6_copy r66.2 69 (12 + 2 * p)).bind (fun r92 => lp (sI r92 69 2 (r92.1 (12 + 2 * q) 2)) (fun σ104 => (f_X6_copy σ104 71 (12 + 2 * q)).bind (fun r113 => lp (sI r113 71 2 (r113.1 (12 + 2 * p) 2)) (fun σ124 => (f_X5_meets σ124 69 71 (σ124.1 1 2)).bind (fun r146 => if r146.1 = true then (some ((((r66.2.1 58 2) + (r146.2.1 58 2)) - (1200 : Int32)), r146.2)) else (f_X8_refuse r146.2 (2 : Int32)).bind (fun r154 => some (r154.1, r154.2)))))))) else (f_X8_refuse r66.2 (2 : Int32)).bind (fun r74 => some (r74.1, r74.2)))) τ (fairS A B fl s) := by
  obtain ⟨υ, u1, u2, u3⟩ := meets8 (K12 p hp) (K12 q hq) gA gB eA eB hf s
  have f1 : Fr τ υ := fun k j hs => u2 k j (by rintro rfl; simp [scr] at hs)
  rw [hs, u1, bind_s]
  unfold fairS
  cases hm : met A B fl s with
  | none =>
    rw [if_neg (show ¬ (none : Option Nat).isSome = true by decide), r8_2, bind_s]
    exact ⟨υ, rfl, f1⟩
  | some u =>
    obtain ⟨-, v2, -⟩ := u3 u hm
    obtain ⟨α, a1, a2, a3⟩ := copy6 υ (t := 69) (Or.inl rfl) (K12 p hp) (by omega)
    have eA' : Eq9 (S8 υ (12 + 2 * p)) A := by rw [S8_congr (fun j => u2 _ j (by omega)) (fun j => u2 _ j (by omega))]; exact eA
    have eB' : Eq9 (S8 υ (12 + 2 * q)) B := by rw [S8_congr (fun j => u2 _ j (by omega)) (fun j => u2 _ j (by omega))]; exact eB
    have b2 : α.1 (12 + 2 * q) 2 = B 2 := by rw [a3 _ _ (by omega) (by omega)]; exact eB' 2 (by omega)
    rw [if_pos (show (some u).isSome = true from rfl), a1, bind_s, lp_b, b2]
    generalize hβ : sI α 69 2 (B 2) = β
    have w69 : Eq9 (S8 β 69) (upv A 2 (B 2)) := by
      rw [← hβ]
      exact (S8_up (by omega) _).tr ((a2.tr eA').up 2 _)
    have oβ : ∀ x y, x ≠ 69 → x ≠ 70 → β.1 x y = υ.1 x y := fun x y h1 h2 => by rw [← hβ, sI_ne h1, a3 x y h1 h2]
    obtain ⟨γ, c1, c2, c3⟩ := copy6 β (t := 71) (Or.inr rfl) (K12 q hq) (by omega)
    have a2' : γ.1 (12 + 2 * p) 2 = A 2 := by rw [c3 _ _ (by omega) (by omega), oβ _ _ (by omega) (by omega)]; exact eA' 2 (by omega)
    rw [c1, bind_s, lp_b, a2']
    generalize hδ : sI γ 71 2 (A 2) = δ
    have oδ : ∀ x y, x ≠ 71 → x ≠ 72 → δ.1 x y = β.1 x y := fun x y h1 h2 => by rw [← hδ, sI_ne h1, c3 x y h1 h2]
    have w71 : Eq9 (S8 δ 71) (upv B 2 (A 2)) := by
      rw [← hδ]
      refine (S8_up (by omega) _).tr ((c2.tr ?_).up 2 _)
      rw [S8_congr (fun j => oβ _ j (by omega) (by omega)) (fun j => oβ _ j (by omega) (by omega))]
      exact eB'
    have w69' : Eq9 (S8 δ 69) (upv A 2 (B 2)) := by rw [S8_congr (fun j => oδ 69 j (by decide) (by decide)) (fun j => oδ 70 j (by decide) (by decide))]; exact w69
    obtain ⟨ε, d1, d2, d3⟩ := meets8 (k1 := 69) (k2 := 71) (by decide) (by decide) (gA.up (ok2 gB)) (gB.up (ok2 gA)) w69' w71 (fl := fl) (fun x hx => by rw [oδ 59 x (by decide) (by decide), oβ 59 x (by decide) (by decide), u2 59 x (by decide)]; exact hf x hx) s
    have fε : Fr τ ε := fun k j hs => by
      have z : k ≠ 58 ∧ k ≠ 69 ∧ k ≠ 70 ∧ k ≠ 71 ∧ k ≠ 72 := by refine ⟨?_, ?_, ?_, ?_, ?_⟩ <;> (rintro rfl; simp [scr] at hs)
      rw [d2 k j z.1, oδ k j z.2.2.2.1 z.2.2.2.2, oβ k j z.2.1 z.2.2.1, u2 k j z.1]
    rw [show δ.1 1 2 = s by rw [oδ 1 2 (by decide) (by decide), oβ 1 2 (by decide) (by decide), u2 1 2 (by decide)]; exact hs, d1, bind_s]
    show C8 (if (met (upv A 2 (B 2)) (upv B 2 (A 2)) fl s).isSome = true then some (υ.1 58 2 + ε.1 58 2 - 1200, ε) else _) τ (match met (upv A 2 (B 2)) (upv B 2 (A 2)) fl s with
      | none => .inr 2
      | some u' => .inl (metP A B fl u + metP (upv A 2 (B 2)) (upv B 2 (A 2)) fl u' - 1200))
    cases hm' : met (upv A 2 (B 2)) (upv B 2 (A 2)) fl s with
    | none =>
      rw [if_neg (show ¬ (none : Option Nat).isSome = true by decide), r8_2, bind_s]
      exact ⟨ε, rfl, fε⟩
    | some u' =>
      obtain ⟨-, w2, -⟩ := d3 u' hm'
      rw [if_pos (show (some u').isSome = true from rfl), v2, w2]
      exact ⟨ε, rfl, fε⟩
theorem s_fair (a1 a2 : Int32) (b : Bool) : LPr (fun σ => f_X8_fair σ a1 a2) (fun σ => f_X9_fair σ a1 a2) b Inv Inv := by
  refine pr_ro (fun σ => if unl (σ.1 82) a1 a2 = true then fairS (S9 (σ.1 82) a1.toNatClampNeg) (S9 (σ.1 82) a2.toNatClampNeg) (flV (σ.1 82) (σ.1 82 6)) (σ.1 82 7) else .inr 1) (fun σ τ h => by show _ = _; rw [h.d]) (fun σ h => ?_) (fun σ h => ?_) b
  · show C8 (f_X8_fair σ a1 a2) σ _
    unfold f_X8_fair
    rcases unl_c h a1 a2 with ⟨hn, ⟨r5, r15, e1, e2, e3⟩, -⟩ | ⟨p, q, hp, hq, hpN, hqN, rfl, rfl, hu, hn, e1, e2, e3, -⟩
    · simp only [hn, Bool.false_eq_true, if_false]
      exact ⟨σ, by rw [e1, bind_s, e2, bind_s, e3, bind_s, if_neg (by decide), r8_1, bind_s], Fr.rf σ⟩
    · simp only [hn, if_true]
      obtain ⟨τ, t1, t2, t3⟩ := feel_eq h.ic (σ.1 1 1)
      have hf : Fl τ (flV (σ.1 82) (σ.1 82 6)) := by rw [← h.mp (i := 6) (j := 1) (by decide)]; exact t2
      have eA : Eq9 (S8 τ (12 + 2 * p)) (S9 (σ.1 82) p) := by rw [swm_fr t3 hp]; exact sw_Eq9 h hpN
      have eB : Eq9 (S8 τ (12 + 2 * q)) (S9 (σ.1 82) q) := by rw [swm_fr t3 hq]; exact sw_Eq9 h hqN
      rw [e1, bind_s, e2, bind_s, e3, bind_s, if_pos rfl, t1, bind_s, deref6 (K12 p hp), deref6 (K12 q hq), nI_clamp (by omega), nI_clamp (by omega)]
      exact (fair8 hp hq (gr9 h.ok hp) (gr9 h.ok hq) eA eB hf (by rw [t3 1 2 (by decide) (by decide)]; exact h.mp (i := 7) (j := 2) (by decide))).fr (feel_fr t3)
  · show C9 (f_X9_fair σ a1 a2) σ _
    unfold f_X9_fair
    rcases unl_c h a1 a2 with ⟨hn, -, e3⟩ | ⟨p, q, hp, hq, hpN, hqN, rfl, rfl, hu, hn, -, -, -, e3⟩
    · simp only [hn, Bool.false_eq_true, if_false]
      exact ⟨σ, by rw [e3, bind_s, if_neg (by decide), r9_1, bind_s], Fr.rf σ⟩
    · simp only [hn, if_true]
      have hpq : q ≠ p := by rintro rfl; exact hu rfl
      have gA := gr9 h.ok hp
      have gB := gr9 h.ok hq
      obtain ⟨x1, x2⟩ := other gA gB hu
      rw [e3, bind_s, if_pos rfl, nI_clamp (by omega), nI_clamp (by omega)]
      obtain ⟨α, t1, t2, t3⟩ := swim9 h.cd.1.cw hp hq gA gB hu
      have hc := h.cd.1.cw
      have ok := h.ok
      generalize hV : σ.1 82 = V at *
      have dα : α.1 82 = V := t2.d.trans hV
      have c1 := change9 (σ := α) (A := S9 V p) (B := S9 V q) hp hq hpq (by rw [dα]; exact Eq9.rf _) (by rw [dα]; exact Eq9.rf _) x1 x2
      rw [t1, bind_s, c1, bind_s]
      generalize hβ : sI (sI α 82 (16 + 9 * p + 2) (S9 V q 2)) 82 (16 + 9 * q + 2) (S9 V p 2) = β
      have rβ : ∀ j, β.1 82 j = if j = 16 + 9 * q + 2 then S9 V p 2 else if j = 16 + 9 * p + 2 then S9 V q 2 else V j := fun j => by rw [← hβ, sI_at, sI_at, dα]
      obtain ⟨eA, eB⟩ := S9_two (by omega) hpq (Eq9.rf (S9 V p)) (Eq9.rf (S9 V q)) (S9 V q 2) (S9 V p 2) (W' := β.1 82) rβ
      have lo : ∀ j, j < 16 ∨ 88 ≤ j → β.1 82 j = V j := fun j hj => by rw [rβ, if_neg (by omega), if_neg (by omega)]
      obtain ⟨γ, s1, s2, s3⟩ := swimW (σ := β) (V := V) (w := V 6) (s := V 7) rfl ⟨fun x hx => lo x (by omega), fun x hx => lo x (by omega)⟩ hc (lo 6 (by omega)) (lo 7 (by omega)) hp hq eA eB (gA.up (ok2 gB)) (gB.up (ok2 gA)) (by rw [upv_at, upv_at]; exact fun z => hu z.symm)
      have dγ : γ.1 82 = β.1 82 := s2.d
      have c2 := change9 (σ := γ) (A := upv (S9 V p) 2 (S9 V q 2)) (B := upv (S9 V q) 2 (S9 V p 2)) hp hq hpq (by rw [dγ]; exact eA) (by rw [dγ]; exact eB) (by rw [upv_at, upv_at]; exact x2) (by rw [upv_at, upv_at]; exact x1)
      rw [s1, bind_s, c2, bind_s, upv_at, upv_at]
      generalize hδ : sI (sI γ 82 (16 + 9 * p + 2) (S9 V p 2)) 82 (16 + 9 * q + 2) (S9 V q 2) = δ
      have fδ : Fr σ δ := by
        intro k j hs
        by_cases hk : k = 82
        · subst hk
          rw [← hδ, sI_at, sI_at, dγ, rβ, hV]
          by_cases h1 : j = 16 + 9 * q + 2
          · rw [if_pos h1, h1]; rfl
          · rw [if_neg h1, if_neg h1]
            by_cases h2 : j = 16 + 9 * p + 2
            · rw [if_pos h2, h2]; rfl
            · rw [if_neg h2, if_neg h2]
        · rw [← hδ, sI_ne hk, sI_ne hk, s2.fr k j hs, ← hβ, sI_ne hk, sI_ne hk, t2.fr k j hs]
      have e16 : δ.1 81 16 = γ.1 81 16 := by rw [← hδ, sI_ne (by decide), sI_ne (by decide)]
      unfold fairS
      cases hm : met (S9 V p) (S9 V q) (flV V (V 6)) (V 7) with
      | none =>
        rw [if_neg (show ¬ (none : Option Nat).isSome = true by decide), r9_2, bind_s]
        exact ⟨δ, rfl, fδ⟩
      | some u =>
        obtain ⟨-, w2⟩ := t3 u hm
        rw [if_pos (show (some u).isSome = true from rfl)]
        show C9 (if (met (upv (S9 V p) 2 (S9 V q 2)) (upv (S9 V q) 2 (S9 V p 2)) (flV V (V 6)) (V 7)).isSome = true then some (α.1 81 16 + δ.1 81 16 - 1200, δ) else _) σ (match met (upv (S9 V p) 2 (S9 V q 2)) (upv (S9 V q) 2 (S9 V p 2)) (flV V (V 6)) (V 7) with
          | none => .inr 2
          | some u' => .inl (metP (S9 V p) (S9 V q) (flV V (V 6)) u + metP (upv (S9 V p) 2 (S9 V q 2)) (upv (S9 V q) 2 (S9 V p 2)) (flV V (V 6)) u' - 1200))
        cases hm' : met (upv (S9 V p) 2 (S9 V q 2)) (upv (S9 V q) 2 (S9 V p 2)) (flV V (V 6)) (V 7) with
        | none =>
          rw [if_neg (show ¬ (none : Option Nat).isSome = true by decide), r9_2, bind_s]
          exact ⟨δ, rfl, fδ⟩
        | some u' =>
          obtain ⟨-, w2'⟩ := s3 u' hm'
          rw [if_pos (show (some u').isSome = true from rfl), e16, w2, w2']
          exact ⟨δ, rfl, fδ⟩
-- judge
def jdS (f g : Nat → Int32) (n : Nat) : Nat → Nat
  | 0 => n
  | d + 1 => if f (n - (d + 1)) = g (n - (d + 1)) then jdS f g n d else n - (d + 1)
theorem judge8_L {k : Nat} (hk : K0 k = 6) {σ : Sto} {A : Nat → Int32} (gA : GR A) (eA : Eq9 (S8 σ k) A) {fl : Int32 → Int32} (hf : Fl σ fl) {s m : Nat} (hs : s < 4) (hm : m ≤ 40) (hn : σ.1 (73 + 2 * s) 1 = nI m) : ∀ (d n : Nat), d ≤ m → d < n →
    f_X8_judge_L72 (73 + 2 * s) k n (pPos A fl (m - d)) (nI (m - d)) σ = some (nI (jdS (fun t => σ.1 (74 + 2 * s) t) (pPos A fl) m d), σ) := by
  intro d
  induction d with
  | zero =>
    intro n _ h2
    obtain ⟨n, rfl⟩ : ∃ n', n = n' + 1 := ⟨n - 1, by omega⟩
    rw [f_X8_judge_L72, hn, if_pos (nI_le (by omega) (by omega)), jdS]
  | succ d ih =>
    intro n h1 h2
    obtain ⟨n, rfl⟩ : ∃ n', n = n' + 1 := ⟨n - 1, by omega⟩
    have e1 : m - d = (m - (d + 1)) + 1 := by omega
    rw [f_X8_judge_L72, hn, if_neg (nI_ge (by omega) (by omega)), sh_rd hs (by omega), bind_s, jdS]
    by_cases h : σ.1 (74 + 2 * s) (m - (d + 1)) = pPos A fl (m - (d + 1))
    · rw [if_pos h, if_pos h, next8 hk (eA.gr gA) hf _ (by omega), bind_s, nI_1, eA.go]
      have := ih n (by omega) (by omega)
      rw [e1, pPos] at this
      exact this
    · rw [if_neg h, if_neg h]
theorem judge9_L {V : Nat → Int32} (hV : ∀ i, okv i (V i) = true) (hc : CW V 0) {p : Nat} (hp : p < 8) {s m : Nat} (hs : s < 4) (hm : m ≤ 40) (f : Nat → Int32) : ∀ (d n : Nat) (σ : Sto), d ≤ m → d < n → σ.1 82 = V → σ.1 91 s = nI m → (∀ t, t < 40 → σ.1 92 (40 * s + t) = f t) →
    ∃ τ, f_X9_judge_L56 (nI s) (nI p) n (pPos (S9 V p) (flV V (V 6)) (m - d)) (nI (m - d)) σ = some (nI (jdS f (pPos (S9 V p) (flV V (V 6))) m d), τ) ∧ ∀ a b, a ≠ 86 → a ≠ 88 → τ.1 a b = σ.1 a b := by
  intro d
  induction d with
  | zero =>
    intro n σ _ h2 _ hn _
    obtain ⟨n, rfl⟩ : ∃ n', n = n' + 1 := ⟨n - 1, by omega⟩
    refine ⟨σ, ?_, fun _ _ _ _ => rfl⟩
    rw [f_X9_judge_L56, rd_nI (by show s < 4; exact hs), bind_s, hn, if_pos (nI_le (by omega) (by omega)), jdS]
    rfl
  | succ d ih =>
    intro n σ h1 h2 h3 hn hr
    obtain ⟨n, rfl⟩ : ∃ n', n = n' + 1 := ⟨n - 1, by omega⟩
    have e1 : m - d = (m - (d + 1)) + 1 := by omega
    rw [f_X9_judge_L56, rd_nI (by show s < 4; exact hs), bind_s, hn, if_neg (nI_ge (by omega) (by omega)), mul40 s hs, nI_add, rd_nI (by show 40 * s + (m - (d + 1)) < 160; omega), bind_s, hr _ (by omega), jdS]
    by_cases h : f (m - (d + 1)) = pPos (S9 V p) (flV V (V 6)) (m - (d + 1))
    · obtain ⟨τ, t1, t2⟩ := goes9 (σ := σ) (by rw [h3]; exact hc) hp (by rw [h3]; exact gr9 hV hp) (pPos (S9 V p) (flV V (V 6)) (m - (d + 1))) (t := m - (d + 1)) (by omega)
      rw [h3] at t1
      obtain ⟨υ, u1, u2⟩ := ih n τ (by omega) (by omega) (by rw [← h3]; funext i; exact t2 82 i (by decide) (by decide)) (by rw [t2 91 s (by decide) (by decide)]; exact hn) (fun t ht => by rw [t2 92 _ (by decide) (by decide)]; exact hr t ht)
      rw [if_pos h, if_pos h, t1, bind_s, nI_1]
      refine ⟨υ, ?_, fun a b ha hb => by rw [u2 a b ha hb, t2 a b ha hb]⟩
      rw [← u1, e1, pPos]
    · rw [if_neg h, if_neg h]
      exact ⟨σ, rfl, fun _ _ _ _ => rfl⟩
theorem s_judge (a1 a2 : Int32) (b : Bool) : LPr (fun σ => f_X8_judge σ a1 a2) (fun σ => f_X9_judge σ a1 a2) b Inv Inv := by
  refine pr_ro (fun σ => if isO a1 0 3 = true then .inr 1 else if isO a2 0 (σ.1 82 12 - 1) = true then .inr 1 else if σ.1 90 a1.toNatClampNeg = 0 then .inr 2 else .inl (nI (jdS (fun t => σ.1 92 (40 * a1.toNatClampNeg + t)) (pPos (S9 (σ.1 82) a2.toNatClampNeg) (flV (σ.1 82) (σ.1 82 6))) (σ.1 91 a1.toNatClampNeg).toNatClampNeg (σ.1 91 a1.toNatClampNeg).toNatClampNeg))) (fun σ τ h => by
      show _ = _
      have e92 : τ.1 92 = σ.1 92 := funext fun j => h 92 j (by omega)
      rw [h.d, h 90 _ (by omega), h 91 _ (by omega), e92]) (fun σ h => ?_) (fun σ h => ?_) b
  · show C8 (f_X8_judge σ a1 a2) σ _
    unfold f_X8_judge f_X4_isMissing
    rcases shA8 σ a1 with ⟨q1, e1⟩ | ⟨s, hs, rfl, q1, e1⟩
    · simp only [q1, if_true]
      rcases sA8 h a2 with ⟨q, e⟩ | ⟨p, hp, hpN, rfl, q, e⟩
      · exact ⟨σ, by rw [e1, bind_s, e, bind_s, onN_0, r8_1, bind_s], Fr.rf σ⟩
      · exact ⟨σ, by rw [e1, bind_s, e, bind_s, onN_0, r8_1, bind_s], Fr.rf σ⟩
    · simp only [q1, Bool.false_eq_true, if_false]
      rcases sA8 h a2 with ⟨q, e⟩ | ⟨p, hp, hpN, rfl, q, e⟩
      · simp only [q, if_true]
        exact ⟨σ, by rw [e1, bind_s, e, bind_s, onN_1, onN_0, r8_1, bind_s], Fr.rf σ⟩
      · simp only [q, Bool.false_eq_true, if_false]
        obtain ⟨c1, c2, ⟨m, hm, c3⟩, c4⟩ := h.2.2.2.2.1 s hs
        rw [e1, bind_s, e, bind_s, onN_1, onN_1, if_pos (sh_f s hs).1, c1, nI_clamp (by omega), nI_clamp (by omega)]
        by_cases h0 : σ.1 90 s = 0
        · rw [if_pos h0, if_pos h0, bind_s, if_pos rfl, r8_2, bind_s]
          exact ⟨σ, rfl, Fr.rf σ⟩
        · obtain ⟨τ, t1, t2, t3⟩ := feel_eq h.ic (σ.1 1 1)
          have hf : Fl τ (flV (σ.1 82) (σ.1 82 6)) := by rw [← h.mp (i := 6) (j := 1) (by decide)]; exact t2
          have eA : Eq9 (S8 τ (12 + 2 * p)) (S9 (σ.1 82) p) := by rw [swm_fr t3 hp]; exact sw_Eq9 h hpN
          have := judge8_L (K12 p hp) (gr9 h.ok hp) eA hf hs hm (by rw [t3 _ _ (by omega) (by omega), c2, c3]) m FU (by omega) (by unfold FU; omega)
          rw [Nat.sub_self] at this
          have ej : ∀ d, d ≤ m → jdS (fun t => τ.1 (74 + 2 * s) t) (pPos (S9 (σ.1 82) p) (flV (σ.1 82) (σ.1 82 6))) m d = jdS (fun t => σ.1 92 (40 * s + t)) (pPos (S9 (σ.1 82) p) (flV (σ.1 82) (σ.1 82 6))) m d := by
            intro d
            induction d with
            | zero => intro _; rfl
            | succ d ih =>
              intro hd
              rw [jdS, jdS, ih (by omega), t3 _ _ (by omega) (by omega), show σ.1 (74 + 2 * s) (m - (d + 1)) = σ.1 92 (40 * s + (m - (d + 1))) from c4 _ (by omega)]
          rw [if_neg h0, if_neg h0, bind_s, if_neg (by decide), t1, bind_s, if_pos (K12 p hp), shore8 (fl := flV (σ.1 82) (σ.1 82 6)), bind_s, eA.pos, c3, nI_clamp (by omega), ← ej m (by omega)]
          exact ⟨τ, this, feel_fr t3⟩
  · show C9 (f_X9_judge σ a1 a2) σ _
    unfold f_X9_judge f_X9_judge_L52
    rcases shA8 σ a1 with ⟨q1, -⟩ | ⟨s, hs, rfl, q1, -⟩
    · simp only [q1, if_true]
      exact ⟨σ, by rw [sheet_eq, bind_s, q1, if_neg (by decide), r9_1, bind_s], Fr.rf σ⟩
    · simp only [q1, Bool.false_eq_true, if_false]
      rcases sA8 h a2 with ⟨q, e⟩ | ⟨p, hp, hpN, rfl, q, e⟩
      · simp only [q, if_true]
        exact ⟨σ, by rw [sheet_eq, bind_s, q1, if_pos (by decide), isS_eq, bind_s, q, if_neg (by decide), r9_1, bind_s], Fr.rf σ⟩
      · simp only [q, Bool.false_eq_true, if_false]
        obtain ⟨c1, c2, ⟨m, hm, c3⟩, c4⟩ := h.2.2.2.2.1 s hs
        rw [sheet_eq, bind_s, q1, if_pos (by decide), isS_eq, bind_s, q, if_pos (by decide), rd_nI (by show s < 4; exact hs), bind_s, nI_clamp (by omega), nI_clamp (by omega)]
        by_cases h0 : σ.1 90 s = 0
        · rw [if_pos h0, if_pos h0, r9_2, bind_s]
          exact ⟨σ, rfl, Fr.rf σ⟩
        · have o2 : f_X9_of σ (nI p) 2 = some (S9 (σ.1 82) p 2) := of_eq hp (j := 2) (by omega)
          obtain ⟨τ, t1, t2⟩ := judge9_L h.ok h.cd.1.cw hp hs hm (fun t => σ.1 92 (40 * s + t)) m FU σ (by omega) (by unfold FU; omega) rfl c3 (fun _ _ => rfl)
          rw [Nat.sub_self] at t1
          rw [if_neg h0, if_neg h0, o2, bind_s, c3, nI_clamp (by omega)]
          refine ⟨τ, ?_, fr_9 t2⟩
          rw [← t1, pPos]
          by_cases hs2 : S9 (σ.1 82) p 2 = 0
          · rw [if_pos hs2, if_pos hs2]; rfl
          · rw [if_neg hs2, if_neg hs2]; rfl
