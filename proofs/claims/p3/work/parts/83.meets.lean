theorem nmR_b {γ : Type} (x : Option Nat) (f : Option Nat → γ) : nmR x f = f x := rfl
/-- the best so far, as the class keeps it -/
def BS (σ : Sto) (st : Option (Nat × Int32)) : Prop := (st = none → σ.1 60 0 = 0) ∧ ∀ x, st = some x → ¬ σ.1 60 0 = 0 ∧ σ.1 60 1 = x.2 ∧ ∀ i, i < 4 → σ.1 61 i = nI (dg x.1 i)
/-- a minute of the search: meetsAt -/
theorem meetsAt8 {σ : Sto} {A B : Nat → Int32} {fl : Int32 → Int32} {s : Int32} {q t v : Nat} {st : Option (Nat × Int32)} (hq : q < 8) (ht : t < 60) (hr : σ.2 60 6 = some (12 + 2 * q)) (hA : Eq9 (S8 σ 62) A) (hB : Eq9 (S8 σ (12 + 2 * q)) B) (hs : σ.1 60 7 = s) (h64 : σ.1 64 t = pPos B fl (t + 1)) (h63 : ∀ i, i < 4 → σ.1 63 i = nI (dg v i)) (hb : BS σ st) :
    ∃ τ, f_X2_meetsAt σ (pPos A fl (t + 1)) (nI t) = some (mtT A B fl s t, τ) ∧ (mtT A B fl s t = true → BS τ (tkB (A 2) v (metP A B fl t) st)) ∧ (mtT A B fl s t = false → τ = σ) ∧ τ.2 = σ.2 ∧ ∀ a b, a ≠ 61 → ¬ (a = 60 ∧ b < 2) → τ.1 a b = σ.1 a b := by
  have e62 : σ.1 62 2 = A 2 := hA 2 (by omega)
  have put : ∀ P : Int32, ∃ τ, f_X2_meetsAt_L115 P σ = some (true, τ) ∧ BS τ (some (v, P)) ∧ τ.2 = σ.2 ∧ ∀ a b, a ≠ 61 → ¬ (a = 60 ∧ b < 2) → τ.1 a b = σ.1 a b := by
    intro P
    unfold f_X2_meetsAt_L115
    rw [lp_b, lp_b, show (4 : Int32) = nI 4 from rfl, cpA_n (by decide) (by decide), bind_s]
    refine ⟨_, rfl, ⟨(fun h => (by cases h)), fun x hx => ?_⟩, rfl, fun a b h1 h2 => ?_⟩
    · cases hx
      refine ⟨?_, ?_, fun i hi => ?_⟩
      · rw [sW_ne (by decide), sI_nj (by decide), sI_at, if_pos rfl]; decide
      · rw [sW_ne (by decide), sI_at, if_pos rfl]
      · rw [sW_at, if_pos hi, sI_ne (by decide), sI_ne (by decide)]; exact h63 i hi
    · rw [sW_ne h1]
      show (if a = 60 ∧ b = 1 then P else if a = 60 ∧ b = 0 then 1 else σ.1 a b) = _
      rw [if_neg (fun z => h2 ⟨z.1, by omega⟩), if_neg (fun z => h2 ⟨z.1, by omega⟩)]
  have l69 : ∀ g : Int32, g = gapT A B fl (t + 1) → ∃ τ, f_X2_meetsAt_L69 (pPos A fl (t + 1)) (pPos B fl (t + 1)) g σ = some (!decide (s < gapT A B fl (t + 1)), τ) ∧ ((!decide (s < gapT A B fl (t + 1))) = true → BS τ (tkB (A 2) v (metP A B fl t) st)) ∧ ((!decide (s < gapT A B fl (t + 1))) = false → τ = σ) ∧ τ.2 = σ.2 ∧ ∀ a b, a ≠ 61 → ¬ (a = 60 ∧ b < 2) → τ.1 a b = σ.1 a b := by
    intro g hg
    subst hg
    unfold f_X2_meetsAt_L69
    rw [hs]
    by_cases hgs : gapT A B fl (t + 1) ≤ s
    · have hn : ¬ s < gapT A B fl (t + 1) := Int32.not_lt.mpr hgs
      rw [if_pos hgs, decide_eq_false hn]
      obtain ⟨τ, t1, t2, t3, t4⟩ := put (metP A B fl t)
      cases st with
      | none =>
        rw [if_pos (hb.1 rfl)]
        exact ⟨τ, t1, fun _ => t2, (fun z => (by cases z)), t3, t4⟩
      | some x =>
        obtain ⟨b1, b2, b3⟩ := hb.2 x rfl
        rw [if_neg b1, e62, b2, bt8, bind_s]
        show ∃ τ, (if bt (A 2) (metP A B fl t) x.2 = true then _ else _) = _ ∧ (_ → BS τ (if bt (A 2) (metP A B fl t) x.2 = true then some (v, metP A B fl t) else some x)) ∧ _
        cases hbt : bt (A 2) (metP A B fl t) x.2 with
        | true =>
          rw [if_pos rfl, if_pos rfl]
          exact ⟨τ, t1, fun _ => t2, (fun z => (by cases z)), t3, t4⟩
        | false =>
          rw [if_neg (by decide), if_neg (by decide)]
          exact ⟨σ, rfl, fun _ => hb, (fun z => (by cases z)), rfl, fun _ _ _ _ => rfl⟩
    · rw [if_neg hgs, decide_eq_true (Int32.not_le.mp hgs)]
      exact ⟨σ, rfl, (fun z => (by cases z)), fun _ => rfl, rfl, fun _ _ _ _ => rfl⟩
  unfold f_X2_meetsAt
  rw [hr]
  rw [nmR_b, onN_1, out_eq, bind_s, show isO (nI t) 0 (60 - 1) = false from isO_lit (n := 59) (by omega) (by omega), if_neg (by decide), lane8 (k := 62) (by decide) ht, bind_s]
  rw [nmR_b, deref6 (K12 q hq), lane8 (K12 q hq) ht, bind_s, hA.ln, hB.ln]
  unfold mtT
  by_cases hl : pLn A t = pLn B t
  · rw [if_pos hl, rd_nI (by show t < 60; exact ht), bind_s, h64, e62, decide_eq_true hl, Bool.true_and]
    by_cases h0 : A 2 = 0
    · rw [if_pos h0]
      exact l69 _ (by unfold gapT; rw [if_pos h0])
    · rw [if_neg h0]
      exact l69 _ (by unfold gapT; rw [if_neg h0])
  · rw [if_neg hl, decide_eq_false hl, Bool.false_and]
    exact ⟨σ, rfl, (fun z => (by cases z)), fun _ => rfl, rfl, fun _ _ _ _ => rfl⟩
