theorem imin_le {a b s : Int32} : imin a b ≤ s ↔ a ≤ s ∨ b ≤ s := by
  unfold imin
  simp only [Int32.le_iff_toInt_le, Int32.lt_iff_toInt_lt]
  by_cases h : b.toInt < a.toInt
  · rw [if_pos h]; omega
  · rw [if_neg h]; omega
theorem imax_le {a b s : Int32} : imax a b ≤ s ↔ a ≤ s ∧ b ≤ s := by
  unfold imax
  simp only [Int32.le_iff_toInt_le, Int32.lt_iff_toInt_lt]
  by_cases h : a.toInt < b.toInt
  · rw [if_pos h]; omega
  · rw [if_neg h]; omega
theorem le_imin {a b s : Int32} (h1 : s ≤ a) (h2 : s ≤ b) : s ≤ imin a b := by
  unfold imin
  by_cases h : b < a
  · rw [if_pos h]; exact h2
  · rw [if_neg h]; exact h1
theorem le_imax (a b : Int32) : a ≤ imax a b := by
  unfold imax
  by_cases h : a < b
  · rw [if_pos h]; exact Int32.le_of_lt h
  · rw [if_neg h]; exact Int32.le_refl a
def lgD (A B : Nat → Int32) (fl : Int32 → Int32) : Nat → Int32 → Int32
  | 0, acc => acc
  | d + 1, acc => lgD A B fl d (if pLn A (59 - d) = pLn B (59 - d) then imin acc (imax 0 (gapT A B fl (59 - d + 1))) else acc)
theorem lg_pos {A B : Nat → Int32} {fl : Int32 → Int32} : ∀ (d : Nat) (acc : Int32), 0 ≤ acc → 0 ≤ lgD A B fl d acc := by
  intro d
  induction d with
  | zero => intro acc h; exact h
  | succ d ih =>
    intro acc h
    rw [lgD]
    by_cases hl : pLn A (59 - d) = pLn B (59 - d)
    · rw [if_pos hl]; exact ih _ (le_imin h (le_imax _ _))
    · rw [if_neg hl]; exact ih _ h
theorem lg_met {A B : Nat → Int32} {fl : Int32 → Int32} {s : Int32} (hs : 0 ≤ s) : ∀ (d : Nat) (acc : Int32), lgD A B fl d acc ≤ s ↔ acc ≤ s ∨ (mtD A B fl s d).isSome = true := by
  intro d
  induction d with
  | zero => intro acc; rw [lgD, mtD]; simp
  | succ d ih =>
    intro acc
    rw [lgD, mtD, ih]
    unfold mtT
    by_cases hl : pLn A (59 - d) = pLn B (59 - d)
    · rw [if_pos hl, decide_eq_true hl, imin_le, imax_le]
      by_cases hg : s < gapT A B fl (59 - d + 1)
      · rw [decide_eq_true hg, if_neg (by decide)]
        have hn : ¬ gapT A B fl (59 - d + 1) ≤ s := Int32.not_le.mpr hg
        simp [hn]
      · rw [decide_eq_false hg, if_pos (by decide)]
        have hn : gapT A B fl (59 - d + 1) ≤ s := Int32.not_lt.mp hg
        simp [hn, hs]
    · rw [if_neg hl, decide_eq_false hl, Bool.false_and, if_neg (by decide)]
theorem least_L {k1 k2 : Nat} (hk1 : K0 k1 = 6) (hk2 : K0 k2 = 6) {A B : Nat → Int32} (hA : GR A) (hB : GR B) {fl : Int32 → Int32} : ∀ (d n : Nat) (acc : Int32) (σ : Sto), d < n → d ≤ 60 → Fl σ fl → S8 σ k1 = A → S8 σ k2 = B → σ.1 58 4 = pPos A fl (60 - d) → σ.1 58 5 = pPos B fl (60 - d) →
    ∃ τ, f_X5_leastGap_L13 k1 k2 n acc (nI (60 - d)) σ = some (lgD A B fl d acc, τ) ∧ (∀ a b, a ≠ 58 → τ.1 a b = σ.1 a b) := by
  have n1 : k1 ≠ 58 := by rintro rfl; revert hk1; decide
  have n1' : k1 + 1 ≠ 58 := by intro h; have : k1 = 57 := by omega
                               subst this; revert hk1; decide
  have n2 : k2 ≠ 58 := by rintro rfl; revert hk2; decide
  have n2' : k2 + 1 ≠ 58 := by intro h; have : k2 = 57 := by omega
                               subst this; revert hk2; decide
  intro d
  induction d with
  | zero =>
    intro n acc σ h1 _ _ _ _ _ _
    obtain ⟨n, rfl⟩ : ∃ n', n = n' + 1 := ⟨n - 1, by omega⟩
    refine ⟨σ, ?_, fun _ _ _ => rfl⟩
    rw [f_X5_leastGap_L13, if_pos (by decide)]
    rfl
  | succ d ih =>
    intro n acc σ h1 h2 hf e1 e2 e4 e5
    obtain ⟨n, rfl⟩ : ∃ n', n = n' + 1 := ⟨n - 1, by omega⟩
    obtain ⟨t, ht, hd⟩ : ∃ t, t < 60 ∧ d = 59 - t := ⟨59 - d, by omega, by omega⟩
    have hu1 : 60 - (d + 1) = t := by omega
    have hu2 : 60 - d = t + 1 := by omega
    rw [hu1] at e4 e5 ⊢
    rw [lgD, show 59 - d = t by omega]
    generalize h1' : sI σ 58 4 (pPos A fl (t + 1)) = σ1
    generalize h2' : sI σ1 58 5 (pPos B fl (t + 1)) = σ2
    have o1 : ∀ a b, a ≠ 58 → σ1.1 a b = σ.1 a b := fun a b h => by rw [← h1', sI_ne h]
    have o2 : ∀ a b, a ≠ 58 → σ2.1 a b = σ.1 a b := fun a b h => by rw [← h2', sI_ne h, o1 a b h]
    have a1 : ∀ {τ : Sto}, (∀ a b, a ≠ 58 → τ.1 a b = σ.1 a b) → S8 τ k1 = A ∧ S8 τ k2 = B ∧ Fl τ fl := fun {τ} o => ⟨by rw [← e1]; exact S8_congr (fun j => o _ j n1) (fun j => o _ j n1'), by rw [← e2]; exact S8_congr (fun j => o _ j n2) (fun j => o _ j n2'), fun i hi => by rw [o 59 i (by decide)]; exact hf i hi⟩
    obtain ⟨p1, p2, p3⟩ := a1 (τ := σ1) o1
    obtain ⟨q1, q2, q3⟩ := a1 (τ := σ2) o2
    have x1 : f_X5_placeNext σ k1 (σ.1 58 4) (nI t) = some (pPos A fl (t + 1)) := by
      rw [e4, next8 hk1 (by rw [e1]; exact hA) hf _ ht, e1, pPos]
    have x2 : f_X5_placeNext σ1 k2 (σ1.1 58 5) (nI t) = some (pPos B fl (t + 1)) := by
      rw [show σ1.1 58 5 = pPos B fl t by rw [← h1', sI_nj (by decide), e5], next8 hk2 (by rw [p2]; exact hB) p3 _ ht, p2, pPos]
    have x3 : f_X6_laneIn σ2 k1 (nI t) = some (pLn A t) := by rw [lane8 hk1 ht, q1]
    have x4 : f_X6_laneIn σ2 k2 (nI t) = some (pLn B t) := by rw [lane8 hk2 ht, q2]
    have g4 : σ2.1 58 4 = pPos A fl (t + 1) := by rw [← h2', sI_nj (by decide), ← h1', sI_at, if_pos rfl]
    have g5 : σ2.1 58 5 = pPos B fl (t + 1) := by rw [← h2', sI_at, if_pos rfl]
    have x5 : f_X5_gap σ2 k1 = some (gapT A B fl (t + 1)) := by
      unfold f_X5_gap gapT
      rw [show σ2.1 k1 2 = A 2 by rw [← q1]; rfl, g4, g5]
      by_cases h : A 2 = 0
      · rw [if_pos h, if_pos h]
      · rw [if_neg h, if_neg h]
    have next : ∀ acc', ∃ τ, f_X5_leastGap_L13 k1 k2 n acc' (nI t + 1) σ2 = some (lgD A B fl d acc', τ) ∧ (∀ a b, a ≠ 58 → τ.1 a b = σ.1 a b) := by
      intro acc'
      rw [nI_1, ← hu2]
      obtain ⟨τ, t1, t2⟩ := ih n acc' σ2 (by omega) (by omega) q3 q1 q2 (by rw [g4, hu2]) (by rw [g5, hu2])
      exact ⟨τ, t1, fun a b h => by rw [t2 a b h, o2 a b h]⟩
    rw [f_X5_leastGap_L13, if_neg (show ¬ (60 : Int32) ≤ nI t from nI_ge (b := 60) ht (by omega)), x1, bind_s, lp_b, h1', x2, bind_s, lp_b, h2', x3, bind_s, x4, bind_s]
    unfold f_X5_leastGap_L79
    by_cases hl : pLn A t = pLn B t
    · rw [if_pos hl, if_pos hl, x5, bind_s]
      exact next _
    · rw [if_neg hl, if_neg hl]
      exact next _
theorem Eq9.lg {A B A' B' : Nat → Int32} (h : Eq9 A A') (h' : Eq9 B B') (fl : Int32 → Int32) : ∀ d acc, lgD A B fl d acc = lgD A' B' fl d acc := by
  intro d
  induction d with
  | zero => intro acc; rfl
  | succ d ih => intro acc; rw [lgD, lgD, ih, h.ln, h'.ln, h.gap h']
theorem least8 {k1 k2 : Nat} (hk1 : K0 k1 = 6) (hk2 : K0 k2 = 6) {σ : Sto} {A B : Nat → Int32} (hA : GR A) (hB : GR B) (eA : Eq9 (S8 σ k1) A) (eB : Eq9 (S8 σ k2) B) {fl : Int32 → Int32} (hf : Fl σ fl) :
    ∃ τ, f_X5_leastGap σ k1 k2 = some (lgD A B fl 60 1200, τ) ∧ (∀ a b, a ≠ 58 → τ.1 a b = σ.1 a b) := by
  have n1 : k1 ≠ 58 := by rintro rfl; revert hk1; decide
  have n1' : k1 + 1 ≠ 58 := by intro h; have : k1 = 57 := by omega
                               subst this; revert hk1; decide
  have n2 : k2 ≠ 58 := by rintro rfl; revert hk2; decide
  have n2' : k2 + 1 ≠ 58 := by intro h; have : k2 = 57 := by omega
                               subst this; revert hk2; decide
  generalize h1' : sI σ 58 4 (pPos (S8 σ k1) fl 0) = σ1
  generalize h2' : sI σ1 58 5 (pPos (S8 σ k2) fl 0) = σ2
  have o1 : ∀ a b, a ≠ 58 → σ1.1 a b = σ.1 a b := fun a b h => by rw [← h1', sI_ne h]
  have o2 : ∀ a b, a ≠ 58 → σ2.1 a b = σ.1 a b := fun a b h => by rw [← h2', sI_ne h, o1 a b h]
  have b2 : S8 σ1 k2 = S8 σ k2 := S8_congr (fun j => o1 _ j n2) (fun j => o1 _ j n2')
  have c1 : S8 σ2 k1 = S8 σ k1 := S8_congr (fun j => o2 _ j n1) (fun j => o2 _ j n1')
  have c2 : S8 σ2 k2 = S8 σ k2 := S8_congr (fun j => o2 _ j n2) (fun j => o2 _ j n2')
  obtain ⟨τ, t1, t2⟩ := least_L hk1 hk2 (eA.gr hA) (eB.gr hB) (fl := fl) 60 FU 1200 σ2 (by unfold FU; omega) (by omega) (fun i hi => by rw [o2 59 i (by decide)]; exact hf i hi) c1 c2 (by rw [← h2', sI_nj (by decide), ← h1', sI_at, if_pos rfl]) (by rw [← h2', sI_at, if_pos rfl])
  rw [eA.lg eB] at t1
  refine ⟨τ, ?_, fun a b h => by rw [t2 a b h, o2 a b h]⟩
  unfold f_X5_leastGap f_X5_begin
  rw [shore8 (fl := fl), bind_s, lp_b, h1', shore8 (fl := fl), bind_s, b2, lp_b, h2', bind_s]
  exact t1
def lsO (g : Int32) : Int32 ⊕ Nat := if g ≤ 200 then .inl g else .inr 2
theorem least9_L {V : Nat → Int32} (ok : ∀ i, okv i (V i) = true) (hc : CW V 0) {p q : Nat} (hp : p < 8) (hq : q < 8) (hu : ¬ S9 V p 2 = S9 V q 2) {σ0 : Sto} (h0 : σ0.1 82 = V) {g : Nat} (hg : g < 2 ^ 31) (eg : lgD (S9 V p) (S9 V q) (flV V (V 6)) 60 1200 = nI g) : ∀ (n i : Nat) (σ : Sto), i ≤ g → i ≤ 201 → 201 < n + i → K9 σ0 σ → (∀ j, j ≠ 7 → σ.1 82 j = V j) → σ.1 82 7 = nI i →
    C9 (f_X9_leastSight_L34 (nI p) (nI q) (V 7) n (nI i) σ) σ0 (lsO (nI g)) := by
  have fin : ∀ (i : Nat) (σ : Sto), i ≤ 201 → K9 σ0 σ → (∀ j, j ≠ 7 → σ.1 82 j = V j) → (i = g ∨ (i = 201 ∧ 201 ≤ g)) → C9 (f_X9_leastSight_L66 (V 7) (nI i) σ) σ0 (lsO (nI g)) := by
    intro i σ hi hk hV hx
    have f : Fr σ0 (sI σ 82 7 (V 7)) := by
      intro a b hs
      by_cases ha : a = 82
      · subst ha
        rw [sI_at, h0]
        by_cases hb : b = 7
        · rw [if_pos hb, hb]
        · rw [if_neg hb, hV b hb]
      · rw [sI_ne ha, hk a b ha hs]
    unfold f_X9_leastSight_L66 lsO
    rw [wrA_82_7, bind_s]
    by_cases h2 : g ≤ 200
    · have : i = g := by omega
      subst this
      rw [if_pos (show nI i ≤ 200 from nI_le (b := 200) h2 (by omega)), if_pos (show nI i ≤ 200 from nI_le (b := 200) h2 (by omega))]
      exact ⟨_, rfl, f⟩
    · have : i = 201 := by omega
      subst this
      rw [if_neg (show ¬ nI g ≤ 200 from nI_ge (a := 200) (by omega) (by omega)), if_neg (by decide), r9_2, bind_s]
      exact ⟨_, rfl, f⟩
  intro n
  induction n with
  | zero => intro i σ _ h1 h2; omega
  | succ n ih =>
    intro i σ hi h1 h2 hk hV h7
    rw [f_X9_leastSight_L34]
    by_cases h : i = 201
    · subst h
      rw [if_pos (by decide)]
      exact fin 201 σ (by omega) hk hV (by omega)
    · obtain ⟨υ, t1, t2, t3⟩ := swimW (σ := σ) (V := V) (A := S9 V p) (B := S9 V q) (w := V 6) (s := nI i) rfl ⟨fun i hi => hV i (by omega), fun i hi => hV i (by omega)⟩ hc (hV 6 (by decide)) h7 hp hq (fun j hj => hV _ (by omega)) (fun j hj => hV _ (by omega)) (gr9 ok hp) (gr9 ok hq) hu
      have hs : (met (S9 V p) (S9 V q) (flV V (V 6)) (nI i)).isSome = true ↔ g ≤ i := by
        have q := lg_met (A := S9 V p) (B := S9 V q) (fl := flV V (V 6)) (s := nI i) (nI_pos' (by omega)) 60 1200
        rw [eg, nI_leI (by omega) (by omega)] at q
        have hn : ¬ (1200 : Int32) ≤ nI i := nI_ge (b := 1200) (by omega) (by omega)
        constructor
        · intro z; exact q.mpr (Or.inr z)
        · intro z; exact (q.mp z).resolve_left hn
      rw [if_neg (show ¬ (201 : Int32) ≤ nI i from nI_ge (b := 201) (by omega) (by omega)), t1, bind_s]
      by_cases hgi : g ≤ i
      · rw [if_pos (hs.mpr hgi)]
        exact fin i υ h1 (hk.tr t2.fr.k9) (fun j hj => by rw [t2.d]; exact hV j hj) (by omega)
      · rw [if_neg (fun z => hgi (hs.mp z)), nI_1, wrA_82_7, bind_s]
        exact ih (i + 1) _ (by omega) (by omega) (by omega) (hk.tr (t2.fr.k9.tr (K9.w _))) (fun j hj => by rw [sI_nj hj, t2.d]; exact hV j hj) (by rw [sI_at, if_pos rfl])
theorem s_leastSight (a1 a2 : Int32) (b : Bool) : LPr (fun σ => f_X8_leastSight σ a1 a2) (fun σ => f_X9_leastSight σ a1 a2) b Inv Inv := by
  refine pr_ro (fun σ => if unl (σ.1 82) a1 a2 = true then lsO (lgD (S9 (σ.1 82) a1.toNatClampNeg) (S9 (σ.1 82) a2.toNatClampNeg) (flV (σ.1 82) (σ.1 82 6)) 60 1200) else .inr 1) (fun σ τ h => by show _ = _; rw [h.d]) (fun σ h => ?_) (fun σ h => ?_) b
  · show C8 (f_X8_leastSight σ a1 a2) σ _
    unfold f_X8_leastSight
    rcases unl_c h a1 a2 with ⟨hn, ⟨r5, r15, e1, e2, e3⟩, -⟩ | ⟨p, q, hp, hq, hpN, hqN, rfl, rfl, hu, hn, e1, e2, e3, -⟩
    · simp only [hn, Bool.false_eq_true, if_false]
      exact ⟨σ, by rw [e1, bind_s, e2, bind_s, e3, bind_s, if_neg (by decide), r8_1, bind_s], Fr.rf σ⟩
    · simp only [hn, if_true]
      obtain ⟨τ, t1, t2, t3⟩ := feel_eq h.ic (σ.1 1 1)
      have hf : Fl τ (flV (σ.1 82) (σ.1 82 6)) := by rw [← h.mp (i := 6) (j := 1) (by decide)]; exact t2
      have eA : Eq9 (S8 τ (12 + 2 * p)) (S9 (σ.1 82) p) := by rw [swm_fr t3 hp]; exact sw_Eq9 h hpN
      have eB : Eq9 (S8 τ (12 + 2 * q)) (S9 (σ.1 82) q) := by rw [swm_fr t3 hq]; exact sw_Eq9 h hqN
      obtain ⟨υ, u1, u2⟩ := least8 (K12 p hp) (K12 q hq) (gr9 h.ok hp) (gr9 h.ok hq) eA eB hf
      have f : Fr σ υ := fun k j hs => by rw [u2 k j (by rintro rfl; simp [scr] at hs)]; exact feel_fr t3 k j hs
      rw [e1, bind_s, e2, bind_s, e3, bind_s, if_pos rfl, t1, bind_s, deref6 (K12 p hp), deref6 (K12 q hq), u1, bind_s, nI_clamp (by omega), nI_clamp (by omega)]
      unfold lsO
      by_cases hg : lgD (S9 (σ.1 82) p) (S9 (σ.1 82) q) (flV (σ.1 82) (σ.1 82 6)) 60 1200 ≤ 200
      · rw [if_pos hg, if_pos hg]; exact ⟨υ, rfl, f⟩
      · rw [if_neg hg, if_neg hg]; exact ⟨υ, by rw [r8_2, bind_s], f⟩
  · show C9 (f_X9_leastSight σ a1 a2) σ _
    unfold f_X9_leastSight
    rcases unl_c h a1 a2 with ⟨hn, -, e3⟩ | ⟨p, q, hp, hq, hpN, hqN, rfl, rfl, hu, hn, -, -, -, e3⟩
    · simp only [hn, Bool.false_eq_true, if_false]
      exact ⟨σ, by rw [e3, bind_s, if_neg (by decide), r9_1, bind_s], Fr.rf σ⟩
    · simp only [hn, if_true]
      obtain ⟨g, hg, eg⟩ := nI_of (Int32.not_lt.mpr (lg_pos (A := S9 (σ.1 82) p) (B := S9 (σ.1 82) q) (fl := flV (σ.1 82) (σ.1 82 6)) 60 1200 (by decide)))
      rw [e3, bind_s, if_pos rfl, rdA_82_7, bind_s, wrA_82_7, bind_s, nI_clamp (by omega), nI_clamp (by omega), eg]
      exact least9_L h.ok h.cd.1.cw hp hq hu rfl hg eg FU 0 _ (by omega) (by omega) (by unfold FU; omega) (K9.w _) (fun j hj => sI_nj hj) (by rw [sI_at, if_pos rfl]; rfl)
-- send
def sndS (V q : Nat → Int32) (fl : Int32 → Int32) : Nat → Option (Nat × Int32) → Option (Nat × Int32)
  | 0, st => st
  | d + 1, st => sndS V q fl d (if 7 - d < NN V ∧ ¬ S9 V (7 - d) 2 = q 2 then (match met (S9 V (7 - d)) q fl (V 7) with
    | none => st
    | some u => match st with
      | none => some (7 - d, metP (S9 V (7 - d)) q fl u)
      | some x => if bt (S9 V (7 - d) 2) (metP (S9 V (7 - d)) q fl u) x.2 = true then some (7 - d, metP (S9 V (7 - d)) q fl u) else some x) else st)
def sndO (st : Option (Nat × Int32)) : Int32 ⊕ Nat := match st with
  | none => .inr 2
  | some x => .inl (nI x.1)
theorem snd_end {V q : Nat → Int32} {fl : Int32 → Int32} : ∀ (d : Nat) (st : Option (Nat × Int32)), d ≤ 8 → NN V ≤ 8 - d → sndS V q fl d st = st := by
  intro d
  induction d with
  | zero => intro st _ _; rfl
  | succ d ih =>
    intro st h1 h2
    rw [sndS, if_neg (by omega)]
    exact ih st (by omega) (by omega)
theorem sA8n {σ : Sto} (h : Iw σ) {i : Nat} (hi : i < 8) : f_X0_swimmerAt σ 1 (nI i) = some (if i < NN (σ.1 82) then some (12 + 2 * i) else none) := by
  obtain ⟨N, hN, e9, e8, eN⟩ := h.N
  by_cases hiN : i < NN (σ.1 82)
  · rw [if_pos hiN]
    rcases sA8 h (nI i) with ⟨q, -⟩ | ⟨p, hp, hpN, hpi, q, e⟩
    · rw [e9, isO_ge hN (by omega)] at q
      cases q
    · have : i = p := (nI_eq (by omega) (by omega)).mp hpi
      subst this
      exact e
  · rw [if_neg hiN]
    rcases sA8 h (nI i) with ⟨q, e⟩ | ⟨p, hp, hpN, hpi, q, e⟩
    · exact e
    · have : i = p := (nI_eq (by omega) (by omega)).mp hpi
      omega
theorem send8_L {V : Nat → Int32} {q : Nat} (hq : q < 8) (hqN : q < NN V) : ∀ (d n : Nat) (st : Option (Nat × Int32)) (v3 v4 : Int32) (σ : Sto), d ≤ 8 → d < n → Iw σ → σ.1 82 = V → Fl σ (flV V (V 6)) → (st = none → v3 = -1) → (∀ x, st = some x → x.1 < 8 ∧ v3 = nI x.1 ∧ v4 = x.2) →
    C8 (f_X8_send_L45 (some (12 + 2 * q)) n v3 v4 (nI (8 - d)) σ) σ (sndO (sndS V (S9 V q) (flV V (V 6)) d st)) := by
  intro d
  induction d with
  | zero =>
    intro n st v3 v4 σ _ h2 hI hV hf h5 h6
    obtain ⟨n, rfl⟩ : ∃ n', n = n' + 1 := ⟨n - 1, by omega⟩
    rw [f_X8_send_L45, if_pos (by decide)]
    cases st with
    | none =>
      rw [h5 rfl, if_neg (by decide), r8_2, bind_s]
      exact ⟨σ, rfl, Fr.rf σ⟩
    | some x =>
      obtain ⟨x1, x2, x3⟩ := h6 x rfl
      rw [x2, if_pos (nI_pos' (by omega))]
      exact ⟨σ, rfl, Fr.rf σ⟩
  | succ d ih =>
    intro n st v3 v4 σ h1 h2 hI hV hf h5 h6
    obtain ⟨n, rfl⟩ : ∃ n', n = n' + 1 := ⟨n - 1, by omega⟩
    obtain ⟨i, hi, hd⟩ : ∃ i, i < 8 ∧ d = 7 - i := ⟨7 - d, by omega, by omega⟩
    have ei : 7 - d = i := by omega
    have e8 : 8 - (d + 1) = i := by omega
    have e8' : 8 - d = i + 1 := by omega
    have ok : ∀ i, okv i (V i) = true := by rw [← hV]; exact hI.ok
    have eq := sw_Eq9 hI (p := q) (by rw [hV]; exact hqN)
    rw [hV] at eq
    have hi8 := sA8n hI hi
    rw [hV] at hi8
    rw [sndS, ei, e8, f_X8_send_L45, if_neg (show ¬ (8 : Int32) ≤ nI i from nI_ge (b := 8) hi (by omega)), hi8, bind_s]
    unfold f_X8_send_L128 f_X8_send_L116 f_X8_send_L128
    rw [nI_1, ← e8']
    by_cases hiN : i < NN V
    · have ep := sw_Eq9 hI (p := i) (by rw [hV]; exact hiN)
      rw [hV] at ep
      have a8 : f_X8_areUnlike σ (some (12 + 2 * i)) (some (12 + 2 * q)) = if S9 V i 2 = S9 V q 2 then some false else some true := by
        unfold f_X8_areUnlike
        rw [onN_1, onN_1, if_pos (K12 i hi), if_pos (K12 q hq), show σ.1 (12 + 2 * i) 2 = _ from ep 2 (by omega), show σ.1 (12 + 2 * q) 2 = _ from eq 2 (by omega)]
      rw [if_pos hiN, a8]
      by_cases hu : S9 V i 2 = S9 V q 2
      · rw [if_pos hu, bind_s, if_neg (by decide), if_neg (fun z => z.2 hu)]
        exact ih n st v3 v4 σ (by omega) (by omega) hI hV hf h5 h6
      · rw [if_neg hu, bind_s, if_pos rfl, if_pos ⟨hiN, hu⟩]
        obtain ⟨υ, t2, t3, t4⟩ := meets8 (K12 i hi) (K12 q hq) (gr9 ok hi) (gr9 ok hq) ep eq hf (V 7)
        have f : Fr σ υ := fun k j hs => t3 k j (by rintro rfl; simp [scr] at hs)
        have hIυ : Iw υ := hI.fr (fun k j hs _ _ => f k j hs)
        have hVυ : υ.1 82 = V := f.d.trans hV
        have hfυ : Fl υ (flV V (V 6)) := fun x hx => by rw [t3 59 x (by decide)]; exact hf x hx
        have hside : υ.1 (12 + 2 * i) 2 = S9 V i 2 := by rw [t3 _ _ (by omega)]; exact ep 2 (by omega)
        rw [deref6 (K12 i hi), deref6 (K12 q hq), show σ.1 1 2 = V 7 from (hI.mp (i := 7) (j := 2) (by decide)).trans (by rw [hV]), t2, bind_s]
        cases hm : met (S9 V i) (S9 V q) (flV V (V 6)) (V 7) with
        | none =>
          rw [if_neg (show ¬ (none : Option Nat).isSome = true by decide)]
          exact (ih n st v3 v4 υ (by omega) (by omega) hIυ hVυ hfυ h5 h6).fr f
        | some u =>
          obtain ⟨-, v2, -⟩ := t4 u hm
          rw [if_pos (show (some u).isSome = true from rfl)]
          cases st with
          | none =>
            rw [h5 rfl, if_pos (by decide), v2]
            exact (ih n (some (i, metP (S9 V i) (S9 V q) (flV V (V 6)) u)) _ _ υ (by omega) (by omega) hIυ hVυ hfυ (fun h => by cases h) (fun x hx => by cases hx; exact ⟨hi, rfl, rfl⟩)).fr f
          | some x =>
            obtain ⟨x1, x2, x3⟩ := h6 x rfl
            rw [x2, if_neg (nI_pos (by omega)), hside, v2, bt8, bind_s, x3]
            cases hb : bt (S9 V i 2) (metP (S9 V i) (S9 V q) (flV V (V 6)) u) x.2 with
            | true =>
              rw [if_pos rfl]
              simp only [hb, if_true]
              exact (ih n (some (i, metP (S9 V i) (S9 V q) (flV V (V 6)) u)) _ _ υ (by omega) (by omega) hIυ hVυ hfυ (fun h => by cases h) (fun x hx => by cases hx; exact ⟨hi, rfl, rfl⟩)).fr f
            | false =>
              rw [if_neg (by decide)]
              simp only [hb, Bool.false_eq_true, if_false]
              exact (ih n (some x) _ _ υ (by omega) (by omega) hIυ hVυ hfυ (fun h => by cases h) (fun y hy => by cases hy; exact ⟨x1, rfl, rfl⟩)).fr f
    · have a8 : f_X8_areUnlike σ none (some (12 + 2 * q)) = some false := rfl
      rw [if_neg hiN, a8, bind_s, if_neg (by decide), if_neg (fun z => hiN z.1)]
      exact ih n st v3 v4 σ (by omega) (by omega) hI hV hf h5 h6
theorem send9_L {V : Nat → Int32} (ok : ∀ i, okv i (V i) = true) (hc : CW V 0) {N q : Nat} (hN : N ≤ 8) (hVN : V 12 = nI N) (eN : NN V = N) (hq : q < 8) : ∀ (d n : Nat) (st : Option (Nat × Int32)) (v2 v3 : Int32) (σ : Sto), d ≤ 8 → d < n → σ.1 82 = V → (st = none → v2 = -1) → (∀ x, st = some x → x.1 < 8 ∧ v2 = nI x.1 ∧ v3 = x.2) →
    C9 (f_X9_send_L21 (nI q) n v2 v3 (nI (8 - d)) σ) σ (sndO (sndS V (S9 V q) (flV V (V 6)) d st)) := by
  have fin : ∀ (st : Option (Nat × Int32)) (v2 v3 : Int32) (σ : Sto), (st = none → v2 = -1) → (∀ x, st = some x → x.1 < 8 ∧ v2 = nI x.1 ∧ v3 = x.2) → C9 (if 0 ≤ v2 then (some (v2, σ)) else (f_X9_finds σ (2 : Int32)).bind (fun r101 => some (r101.1, r101.2))) σ (sndO st) := by
    intro st v2 v3 σ h5 h6
    cases st with
    | none =>
      rw [h5 rfl, if_neg (by decide), r9_2, bind_s]
      exact ⟨σ, rfl, Fr.rf σ⟩
    | some x =>
      obtain ⟨x1, x2, x3⟩ := h6 x rfl
      rw [x2, if_pos (nI_pos' (by omega))]
      exact ⟨σ, rfl, Fr.rf σ⟩
  intro d
  induction d with
  | zero =>
    intro n st v2 v3 σ _ h2 hV h5 h6
    obtain ⟨n, rfl⟩ : ∃ n', n = n' + 1 := ⟨n - 1, by omega⟩
    rw [f_X9_send_L21, rdA_82_12, bind_s, hV, hVN, if_pos (nI_le (by omega) (by omega)), sndS]
    exact fin st v2 v3 σ h5 h6
  | succ d ih =>
    intro n st v2 v3 σ h1 h2 hV h5 h6
    obtain ⟨n, rfl⟩ : ∃ n', n = n' + 1 := ⟨n - 1, by omega⟩
    obtain ⟨i, hi, hd⟩ : ∃ i, i < 8 ∧ d = 7 - i := ⟨7 - d, by omega, by omega⟩
    have ei : 7 - d = i := by omega
    have e8 : 8 - (d + 1) = i := by omega
    have e8' : 8 - d = i + 1 := by omega
    rw [f_X9_send_L21, rdA_82_12, bind_s, hV, hVN]
    by_cases hiN : i < N
    · have o1 : f_X9_of σ (nI i) 2 = some (S9 V i 2) := by rw [← hV]; exact of_eq hi (j := 2) (by omega)
      have o2 : f_X9_of σ (nI q) 2 = some (S9 V q 2) := by rw [← hV]; exact of_eq hq (j := 2) (by omega)
      rw [sndS, ei, e8, if_neg (nI_ge hiN (by omega)), o1, bind_s, o2, bind_s]
      unfold f_X9_send_L89 f_X9_send_L81 f_X9_send_L89
      rw [nI_1, ← e8']
      by_cases hu : S9 V i 2 = S9 V q 2
      · rw [if_pos hu, if_neg (fun z => z.2 hu)]
        exact ih n st v2 v3 σ (by omega) (by omega) hV h5 h6
      · rw [if_neg hu, if_pos ⟨by omega, hu⟩]
        obtain ⟨υ, t1, t2, t3⟩ := swim9 (σ := σ) (by rw [hV]; exact hc) hi hq (by rw [hV]; exact gr9 ok hi) (by rw [hV]; exact gr9 ok hq) (by rw [hV]; exact hu)
        rw [hV] at t1 t3
        have hVυ : υ.1 82 = V := t2.d.trans hV
        have o3 : f_X9_of υ (nI i) 2 = some (S9 V i 2) := by rw [← hVυ]; exact of_eq hi (j := 2) (by omega)
        have cf : ∀ {x o}, C9 x υ o → C9 x σ o := by
          intro x o h
          cases o with
          | inl v => obtain ⟨χ, u1, u2⟩ := h; exact ⟨χ, u1, t2.fr.tr u2⟩
          | inr k => obtain ⟨χ, u1, u2⟩ := h; exact ⟨χ, u1, t2.fr.tr u2⟩
        rw [t1, bind_s]
        cases hm : met (S9 V i) (S9 V q) (flV V (V 6)) (V 7) with
        | none =>
          rw [if_neg (show ¬ (none : Option Nat).isSome = true by decide)]
          exact cf (ih n st v2 v3 υ (by omega) (by omega) hVυ h5 h6)
        | some u =>
          obtain ⟨-, w2⟩ := t3 u hm
          rw [if_pos (show (some u).isSome = true from rfl)]
          cases st with
          | none =>
            rw [h5 rfl, if_pos (by decide), w2]
            exact cf (ih n (some (i, metP (S9 V i) (S9 V q) (flV V (V 6)) u)) _ _ υ (by omega) (by omega) hVυ (fun h => by cases h) (fun x hx => by cases hx; exact ⟨hi, rfl, rfl⟩))
          | some x =>
            obtain ⟨x1, x2, x3⟩ := h6 x rfl
            rw [x2, if_neg (nI_pos (by omega)), o3, bind_s, w2, bt9, bind_s, x3]
            cases hb : bt (S9 V i 2) (metP (S9 V i) (S9 V q) (flV V (V 6)) u) x.2 with
            | true =>
              rw [if_pos rfl]
              simp only [hb, if_true]
              exact cf (ih n (some (i, metP (S9 V i) (S9 V q) (flV V (V 6)) u)) _ _ υ (by omega) (by omega) hVυ (fun h => by cases h) (fun x hx => by cases hx; exact ⟨hi, rfl, rfl⟩))
            | false =>
              rw [if_neg (by decide)]
              simp only [hb, Bool.false_eq_true, if_false]
              exact cf (ih n (some x) _ _ υ (by omega) (by omega) hVυ (fun h => by cases h) (fun y hy => by cases hy; exact ⟨x1, rfl, rfl⟩))
    · rw [e8, if_pos (nI_le (by omega) (by omega)), snd_end (d + 1) st h1 (by omega)]
      exact fin st v2 v3 σ h5 h6
theorem s_send (a1 : Int32) (b : Bool) : LPr (fun σ => f_X8_send σ a1) (fun σ => f_X9_send σ a1) b Inv Inv := by
  refine pr_ro (fun σ => if isO a1 0 (σ.1 82 12 - 1) = true then .inr 1 else sndO (sndS (σ.1 82) (S9 (σ.1 82) a1.toNatClampNeg) (flV (σ.1 82) (σ.1 82 6)) 8 none)) (fun σ τ h => by show _ = _; rw [h.d]) (fun σ h => ?_) (fun σ h => ?_) b
  · show C8 (f_X8_send σ a1) σ _
    unfold f_X8_send
    rcases sA8 h a1 with ⟨hq, e⟩ | ⟨q, hq8, hqN, rfl, hq, e⟩
    · simp only [hq, if_true]
      exact ⟨σ, by rw [e, bind_s, onN_0, r8_1, bind_s], Fr.rf σ⟩
    · simp only [hq, Bool.false_eq_true, if_false]
      obtain ⟨τ, t1, t2, t3⟩ := feel_eq h.ic (σ.1 1 1)
      have f := feel_fr t3
      have hf : Fl τ (flV (σ.1 82) (σ.1 82 6)) := by rw [← h.mp (i := 6) (j := 1) (by decide)]; exact t2
      rw [e, bind_s, onN_1, t1, bind_s, nI_clamp (by omega)]
      exact (send8_L hq8 hqN 8 FU none (-1) 0 τ (by omega) (by unfold FU; omega) (h.fr (fun k j hs _ _ => f k j hs)) f.d hf (fun _ => rfl) (fun x hx => by cases hx)).fr f
  · show C9 (f_X9_send σ a1) σ _
    unfold f_X9_send
    rcases sA8 h a1 with ⟨hq, e⟩ | ⟨q, hq8, hqN, rfl, hq, e⟩
    · simp only [hq, if_true]
      exact ⟨σ, by rw [isS_eq, bind_s, hq, if_neg (by decide), r9_1, bind_s], Fr.rf σ⟩
    · simp only [hq, Bool.false_eq_true, if_false]
      obtain ⟨N, hN, e9, -, eN⟩ := h.N
      rw [isS_eq, bind_s, hq, if_pos (by decide), nI_clamp (by omega)]
      exact send9_L h.ok h.cd.1.cw hN e9 eN hq8 8 FU none (-1) 0 σ (by omega) (by unfold FU; omega) rfl (fun _ => rfl) (fun x hx => by cases hx)
