/-! bestPlan, by class and by reference. -/
theorem isO_m1 {a : Int32} (h : isO a (-1) 3 = false) : a = -1 ∨ ∃ i, i < 4 ∧ a = nI i := by
  obtain ⟨h1, h2⟩ := isO_f h
  by_cases hn : a < 0
  · left
    rw [Int32.lt_iff_toInt_lt] at hn
    rw [Int32.le_iff_toInt_le] at h1
    rw [show (0 : Int32).toInt = 0 by decide] at hn
    rw [show (-1 : Int32).toInt = -1 by decide] at h1
    rw [← Int32.toInt_inj, show (-1 : Int32).toInt = -1 by decide]
    omega
  · right
    obtain ⟨j, hj, e⟩ := isO_nI (n := 3) (v := a) (h := 3) rfl (by
      unfold isO
      rw [decide_eq_false hn, decide_eq_false (Int32.not_lt.mpr h2)]
      rfl)
    exact ⟨j, by omega, e⟩
theorem bpN_lt {A B : Nat → Int32} {fl : Int32 → Int32} {s : Int32} : ∀ (n a : Nat) (st : Option (Nat × Int32)), a + n ≤ 1296 → (∀ x, st = some x → x.1 < 1296) → ∀ x, bpN A B fl s a n st = some x → x.1 < 1296 := by
  intro n
  induction n with
  | zero => intro a st _ h x hx; exact h x hx
  | succ n ih =>
    intro a st h1 h x hx
    rw [bpN] at hx
    refine ih (a + 1) _ (by omega) (fun y hy => ?_) x hx
    unfold stB at hy
    cases hm : met (PL A (pv a)) B fl s with
    | none => rw [hm] at hy; exact h y hy
    | some u =>
      rw [hm] at hy
      cases st with
      | none => cases hy; show a < 1296; omega
      | some z =>
        have hy' : (if bt (A 2) (metP (PL A (pv a)) B fl u) z.2 = true then some (a, metP (PL A (pv a)) B fl u) else some z) = some y := hy
        by_cases hb : bt (A 2) (metP (PL A (pv a)) B fl u) z.2 = true
        · rw [if_pos hb] at hy'; cases hy'; show a < 1296; omega
        · rw [if_neg hb] at hy'; cases hy'; exact h _ rfl
def bestS (V : Nat → Int32) (a1 a2 a3 : Int32) : Int32 ⊕ Nat := if unl V a1 a2 = true then (if isO a3 (-1) 3 = true then .inr 1 else outB a3 (bpS (S9 V a1.toNatClampNeg) (S9 V a2.toNatClampNeg) (flV V (V 6)) (V 7) 1296 none)) else .inr 1
theorem best9_W {d : Nat} (hd : d = 1296) {σ0 : Sto} {V : Nat → Int32} (h0 : σ0.1 82 = V) (ok : ∀ i, okv i (V i) = true) (hc : CW V 0) {p q : Nat} (hp : p < 8) (hq : q < 8) (hu : ¬ S9 V p 2 = S9 V q 2) {a3 : Int32} (ha : a3 = -1 ∨ ∃ i, i < 4 ∧ a3 = nI i) {st : Option (Nat × Int32)} (hX : bpS (S9 V p) (S9 V q) (flV V (V 6)) (V 7) d none = st) {σ : Sto} (h : HS σ0 V p p σ) :
    C9 (f_X9_bestPlan_L49 (nI p) (nI q) a3 FU (-1) 0 (nI 0) σ) σ0 (outB a3 st) := by
  have e := best9_L h0 ok hc hp hq hu ha d FU none (-1) 0 σ (by omega) (by unfold FU; omega) (fun _ => rfl) (fun x hx => by cases hx) h
  rw [hX, show 1296 - d = 0 by omega] at e
  exact e
theorem s_bestPlan (a1 a2 a3 : Int32) (b : Bool) : LPr (fun σ => f_X8_bestPlan σ a1 a2 a3) (fun σ => f_X9_bestPlan σ a1 a2 a3) b Inv Inv := by
  refine pr_ro (fun σ => bestS (σ.1 82) a1 a2 a3) (fun σ τ h => by show _ = _; rw [h.d]) (fun σ h => ?_) (fun σ h => ?_) b
  · show C8 (f_X8_bestPlan σ a1 a2 a3) σ (bestS (σ.1 82) a1 a2 a3)
    unfold f_X8_bestPlan bestS
    rcases unl_c h a1 a2 with ⟨hn, ⟨r5, r15, e1, e2, e3⟩, -⟩ | ⟨p, q, hp, hq, hpN, hqN, rfl, rfl, hu, hn, e1, e2, e3, -⟩
    · rw [hn, if_neg (by decide)]
      exact ⟨σ, by rw [e1, bind_s, e2, bind_s, e3, bind_s, if_neg (by decide), r8_1, bind_s], Fr.rf σ⟩
    · rw [hn, if_pos rfl, e1, bind_s, e2, bind_s, e3, bind_s, if_pos rfl, out_eq, bind_s]
      cases h3 : isO a3 (-1) 3 with
      | true =>
        rw [if_pos rfl, if_pos rfl]
        exact ⟨σ, by rw [r8_1, bind_s], Fr.rf σ⟩
      | false =>
        rw [if_neg (by decide), if_neg (by decide), nI_clamp (by omega), nI_clamp (by omega)]
        generalize hX : bpS (S9 (σ.1 82) p) (S9 (σ.1 82) q) (flV (σ.1 82) (σ.1 82 6)) (σ.1 82 7) 1296 none = st
        rw [bpS_N 1296 none (Nat.le_refl _), Nat.sub_self] at hX
        obtain ⟨τ, t1, t2, t3⟩ := feel_eq h.ic (σ.1 1 1)
        have hf : Fl τ (flV (σ.1 82) (σ.1 82 6)) := by rw [← h.mp (i := 6) (j := 1) (by decide)]; exact t2
        have eA : Eq9 (S8 τ (12 + 2 * p)) (S9 (σ.1 82) p) := by rw [swm_fr t3 hp]; exact sw_Eq9 h hpN
        have eB : Eq9 (S8 τ (12 + 2 * q)) (S9 (σ.1 82) q) := by rw [swm_fr t3 hq]; exact sw_Eq9 h hqN
        have e7 : τ.1 1 2 = σ.1 82 7 := by rw [t3 1 2 (by decide) (by decide)]; exact h.mp (i := 7) (j := 2) (by decide)
        obtain ⟨υ, u1, u2, u3⟩ := seek8 (σ.1 82 7) hp hq (gr9 h.ok hp) (gr9 h.ok hq) hf eA eB
        have f : Fr σ υ := (feel_fr t3).tr (fun k j hs => u3 k j (by rintro rfl; simp [scr] at hs) (by rintro rfl; simp [scr] at hs) (by rintro rfl; simp [scr] at hs) (by rintro rfl; simp [scr] at hs) (by rintro rfl; simp [scr] at hs))
        rw [t1, bind_s, deref6 (K12 p hp), deref6 (K12 q hq), e7, u1, bind_s]
        have lt := bpN_lt (A := S9 (σ.1 82) p) (B := S9 (σ.1 82) q) (fl := flV (σ.1 82) (σ.1 82 6)) (s := σ.1 82 7) 1296 0 none (by omega) (fun x hx => by cases hx)
        rw [hX] at u2 lt
        cases st with
        | none =>
          rw [u2.1 rfl, if_pos rfl, r8_2, bind_s]
          exact ⟨υ, rfl, f⟩
        | some x =>
          obtain ⟨w1, w2, w3⟩ := u2.2 x rfl
          rw [if_neg w1]
          show C8 _ σ (.inl (if 0 ≤ a3 then nI (dg x.1 a3.toNatClampNeg) else x.2))
          rcases isO_m1 h3 with rfl | ⟨i, hi, rfl⟩
          · rw [if_neg (by decide), if_neg (by decide), w2]
            exact ⟨υ, rfl, f⟩
          · rw [if_pos (nI_pos' (by omega)), if_pos (nI_pos' (by omega)), nI_clamp (by omega)]
            unfold f_X2_bestLane
            rw [out_eq, bind_s, show isO (nI i) 0 (4 - 1) = false from isO_lit (n := 3) (by omega) (by omega), if_neg (by decide), rd_nI (by show i < 4; exact hi), bind_s, bind_s, w3 i hi]
            exact ⟨υ, rfl, f⟩
  · show C9 (f_X9_bestPlan σ a1 a2 a3) σ (bestS (σ.1 82) a1 a2 a3)
    unfold f_X9_bestPlan bestS
    rcases unl_c h a1 a2 with ⟨hn, -, e3⟩ | ⟨p, q, hp, hq, hpN, hqN, rfl, rfl, hu, hn, -, -, -, e3⟩
    · rw [hn, if_neg (by decide)]
      exact ⟨σ, by rw [e3, bind_s, if_neg (by decide), r9_1, bind_s], Fr.rf σ⟩
    · rw [hn, if_pos rfl, e3, bind_s, if_pos rfl, in_m1_3, bind_s]
      cases h3 : isO a3 (-1) 3 with
      | true =>
        rw [if_neg (by decide), if_pos rfl]
        exact ⟨σ, by rw [r9_1, bind_s], Fr.rf σ⟩
      | false =>
        rw [if_pos (by decide), if_neg (by decide), nI_clamp (by omega), nI_clamp (by omega)]
        generalize hX : bpS (S9 (σ.1 82) p) (S9 (σ.1 82) q) (flV (σ.1 82) (σ.1 82 6)) (σ.1 82 7) 1296 none = st
        obtain ⟨α, a1', a2', a3'⟩ := HS.st (σ := σ) p p
        rw [a1', bind_s]
        exact best9_W rfl rfl h.ok h.cd.1.cw hp hq hu (isO_m1 h3) hX a2'
