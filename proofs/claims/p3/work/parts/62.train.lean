/-! Stand-ins and copies of rows: training, fair. -/
theorem cpA_n {σ : Sto} {a b n : Nat} (ha : n ≤ Ln0 a) (hb : n ≤ Ln0 b) : cpA σ a 0 b 0 (nI n) = some (sW σ b (fun k => if k < n then σ.1 a k else σ.1 b k)) := by
  have := Ln0_lt a
  unfold cpA
  have e : (nI n).toNatClampNeg = n := nI_clamp (by omega)
  rw [if_pos ⟨by decide, by decide, nI_pos (by omega), by rw [e]; show 0 + n ≤ _; omega, by rw [e]; show 0 + n ≤ _; omega⟩, e]
  have e2 : va_cpy (σ.1 a) (σ.1 b) 0 0 n = (fun k => if k < n then σ.1 a k else σ.1 b k) := by
    funext k
    unfold va_cpy
    by_cases h : k < n
    · rw [if_pos (by omega), if_pos h]; simp
    · rw [if_neg (by omega), if_neg h]
  show some (sW σ b (va_cpy (σ.1 a) (σ.1 b) 0 0 n)) = _
  rw [e2]
theorem sW_at {σ : Sto} {k j : Nat} {f : Nat → Int32} : (sW σ k f).1 k j = f j := by
  show (if k = k then f j else σ.1 k j) = _
  rw [if_pos rfl]
theorem sW_ne {σ : Sto} {k a j : Nat} {f : Nat → Int32} (h : a ≠ k) : (sW σ k f).1 a j = σ.1 a j := by
  show (if a = k then f j else σ.1 a j) = _
  rw [if_neg h]
theorem copy6 (σ : Sto) {t k : Nat} (ht : t = 69 ∨ t = 71) (hk : K0 k = 6) (hb : k ≤ 26) : ∃ τ, f_X6_copy σ t k = some τ ∧ Eq9 (S8 τ t) (S8 σ k) ∧ ∀ a b, a ≠ t → a ≠ t + 1 → τ.1 a b = σ.1 a b := by
  obtain ⟨k1, k2, -⟩ := sw6 hk
  have t1 : A0 t 5 = t + 1 ∧ Ln0 (t + 1) = 4 := by rcases ht with rfl | rfl <;> decide
  have hkt : k ≠ t := by omega
  unfold f_X6_copy
  simp only [lp_b, sI_ne hkt]
  generalize hρ : sI (sI (sI (sI (sI σ t 0 (σ.1 k 0)) t 1 (σ.1 k 1)) t 2 (σ.1 k 2)) t 3 (σ.1 k 3)) t 4 (σ.1 k 4) = ρ
  have r1 : ∀ a b, a ≠ t → ρ.1 a b = σ.1 a b := fun a b h => by rw [← hρ, sI_ne h, sI_ne h, sI_ne h, sI_ne h, sI_ne h]
  have r2 : ∀ j, j < 5 → ρ.1 t j = σ.1 k j := by
    intro j hj
    rw [← hρ, sI_at, sI_at, sI_at, sI_at, sI_at]
    rcases (show j = 0 ∨ j = 1 ∨ j = 2 ∨ j = 3 ∨ j = 4 by omega) with rfl | rfl | rfl | rfl | rfl <;> rfl
  rw [k1, t1.1, show (4 : Int32) = nI 4 from rfl, cpA_n (by omega) (by omega), bind_s]
  refine ⟨_, rfl, fun j hj => ?_, fun a b h1 h2 => by rw [sW_ne h2, r1 a b h1]⟩
  unfold S8
  by_cases h : j < 5
  · rw [if_pos h, if_pos h, sW_ne (by omega), r2 j h]
  · rw [if_neg h, if_neg h, sW_at, if_pos (by omega), r1 _ _ (by omega)]
theorem Eq9.rf (A : Nat → Int32) : Eq9 A A := fun _ _ => rfl
theorem Eq9.tr {A B C : Nat → Int32} (h : Eq9 A B) (h' : Eq9 B C) : Eq9 A C := fun j hj => (h j hj).trans (h' j hj)
theorem Eq9.up {A B : Nat → Int32} (h : Eq9 A B) (i : Nat) (v : Int32) : Eq9 (upv A i v) (upv B i v) := fun j hj => by
  unfold upv
  rw [h j hj]
theorem S8_up {σ : Sto} {k i : Nat} (hi : i < 5) (v : Int32) : Eq9 (S8 (sI σ k i v) k) (upv (S8 σ k) i v) := by
  intro j hj
  unfold upv
  show S8 (sI σ k i v) k j = if j = i then v else S8 σ k j
  unfold S8
  by_cases h : j < 5
  · rw [if_pos h, if_pos h, sI_at]
  · rw [if_neg h, if_neg h, sI_ne (by omega), if_neg (by omega)]
theorem GR.up {A : Nat → Int32} (h : GR A) {i : Nat} {v : Int32} (hv : oks i v = true) : GR (upv A i v) := fun j hj => by
  unfold upv
  by_cases hj' : j = i
  · rw [if_pos hj', hj']; exact hv
  · rw [if_neg hj']; exact h j hj
theorem S9_up {W V : Nat → Int32} {p i : Nat} (h : ∀ j, j ≠ 16 + 9 * p + i → W j = V j) {v : Int32} (h' : W (16 + 9 * p + i) = v) (hi : i < 9) : Eq9 (S9 W p) (upv (S9 V p) i v) ∧ ∀ q, q ≠ p → Eq9 (S9 W q) (S9 V q) := by
  refine ⟨fun j hj => ?_, fun q hq j hj => ?_⟩
  · unfold S9 upv
    by_cases hj' : j = i
    · rw [if_pos hj', hj', h']
    · rw [if_neg hj', h _ (by omega)]
  · unfold S9
    rw [h _ (by omega)]
/-- is the place well enough, with this skill? -/
def trP (A B : Nat → Int32) (fl : Int32 → Int32) (s a : Int32) (i : Nat) : Bool := match met (upv A 3 (nI i)) B fl s with
  | none => false
  | some u => !bt (A 2) a (metP (upv A 3 (nI i)) B fl u)
def trF (A B : Nat → Int32) (fl : Int32 → Int32) (s a : Int32) : Nat → Option Nat
  | 0 => none
  | d + 1 => if trP A B fl s a (30 - d) = true then some (30 - d) else trF A B fl s a d
def trO (o : Option Nat) : Int32 ⊕ Nat := match o with
  | none => .inr 2
  | some i => .inl (nI i)
theorem ok3 {i : Nat} (hi : i ≤ 30) : oks 3 (nI i) = true := by
  unfold oks
  rw [if_neg (by omega), if_neg (by omega), if_pos rfl, show isO (nI i) 0 30 = false from isO_lit (n := 30) hi (by omega)]
  rfl
theorem train8_L {A B : Nat → Int32} {fl : Int32 → Int32} {s a : Int32} (gA : GR A) (gB : GR B) {k q : Nat} (hk : k ≤ 26) (hq : q < 8) : ∀ (d n : Nat) (σ : Sto), d ≤ 31 → d < n → Fl σ fl → (∀ j, j < 9 → j ≠ 3 → S8 σ 69 j = A j) → Eq9 (S8 σ (12 + 2 * q)) B → σ.1 1 2 = s → σ.1 k 2 = A 2 →
    C8 (f_X8_training_L77 a k (some (12 + 2 * q)) n (nI (31 - d)) σ) σ (trO (trF A B fl s a d)) := by
  intro d
  induction d with
  | zero =>
    intro n σ _ h2 _ _ _ _ _
    obtain ⟨n, rfl⟩ : ∃ n', n = n' + 1 := ⟨n - 1, by omega⟩
    rw [f_X8_training_L77, if_pos (by decide), r8_2, bind_s]
    exact ⟨σ, rfl, Fr.rf σ⟩
  | succ d ih =>
    intro n σ h1 h2 hf hA hB hs hside
    obtain ⟨n, rfl⟩ : ∃ n', n = n' + 1 := ⟨n - 1, by omega⟩
    obtain ⟨i, hi, hd⟩ : ∃ i, i ≤ 30 ∧ d = 30 - i := ⟨30 - d, by omega, by omega⟩
    have e1 : 31 - (d + 1) = i := by omega
    have e2 : 31 - d = i + 1 := by omega
    have e3 : 30 - d = i := by omega
    generalize hρ : sI σ 69 3 (nI i) = ρ
    have o1 : ∀ x y, x ≠ 69 → ρ.1 x y = σ.1 x y := fun x y h => by rw [← hρ, sI_ne h]
    have eA : Eq9 (S8 ρ 69) (upv A 3 (nI i)) := by
      intro j hj
      rw [← hρ, S8_up (by omega) _ j hj]
      unfold upv
      by_cases h3 : j = 3
      · rw [if_pos h3, if_pos h3]
      · rw [if_neg h3, if_neg h3, hA j hj h3]
    have eB : Eq9 (S8 ρ (12 + 2 * q)) B := by rw [S8_congr (fun j => o1 _ j (by omega)) (fun j => o1 _ j (by omega))]; exact hB
    obtain ⟨υ, u1, u2, u3⟩ := meets8 (k1 := 69) (by decide) (K12 q hq) (gA.up (ok3 hi)) gB eA eB (fl := fl) (fun x hx => by rw [o1 59 x (by decide)]; exact hf x hx) s
    have f : Fr σ υ := fun x y hs => by rw [u2 x y (by rintro rfl; simp [scr] at hs), o1 x y (by rintro rfl; simp [scr] at hs)]
    have next : C8 (f_X8_training_L77 a k (some (12 + 2 * q)) n (nI (i + 1)) υ) σ (trO (trF A B fl s a d)) := by
      rw [← e2]
      exact (ih n υ (by omega) (by omega) (fun x hx => by rw [u2 59 x (by decide), o1 59 x (by decide)]; exact hf x hx) (fun j hj h3 => by
        rw [S8_congr (fun j => u2 69 j (by decide)) (fun j => u2 70 j (by decide)), eA j hj, upv_ne h3]) (by rw [S8_congr (fun j => u2 _ j (by omega)) (fun j => u2 _ j (by omega))]; exact eB) (by rw [u2 1 2 (by decide), o1 1 2 (by decide)]; exact hs) (by rw [u2 k 2 (by omega), o1 k 2 (by omega)]; exact hside)).fr f
    rw [trF, e3, e1, f_X8_training_L77, if_neg (show ¬ (30 : Int32) < nI i from nI_nlt (a := 30) hi (by omega)), lp_b, hρ, deref6 (K12 q hq), show ρ.1 1 2 = s by rw [o1 1 2 (by decide)]; exact hs, u1, bind_s]
    unfold f_X8_training_L138
    rw [nI_1]
    have hP : trP A B fl s a i = (match met (upv A 3 (nI i)) B fl s with
      | none => false
      | some u => !bt (A 2) a (metP (upv A 3 (nI i)) B fl u)) := rfl
    cases hm : met (upv A 3 (nI i)) B fl s with
    | none =>
      rw [hm] at hP
      have hF : trP A B fl s a i = false := hP
      rw [if_neg (show ¬ (none : Option Nat).isSome = true by decide), hF, if_neg (by decide)]
      exact next
    | some u =>
      rw [hm] at hP
      obtain ⟨-, v2, -⟩ := u3 u hm
      rw [if_pos (show (some u).isSome = true from rfl), show υ.1 k 2 = A 2 by rw [u2 k 2 (by omega), o1 k 2 (by omega)]; exact hside, v2, bt8, bind_s]
      cases hb : bt (A 2) a (metP (upv A 3 (nI i)) B fl u) with
      | true =>
        have hF : trP A B fl s a i = false := by rw [hP]; show (!bt _ _ _) = false; rw [hb]; rfl
        rw [if_pos rfl, hF, if_neg (by decide)]
        exact next
      | false =>
        have hT : trP A B fl s a i = true := by rw [hP]; show (!bt _ _ _) = true; rw [hb]; rfl
        rw [if_neg (by decide), hT, if_pos rfl]
        exact ⟨υ, rfl, f⟩
theorem train9_L {V : Nat → Int32} (ok : ∀ i, okv i (V i) = true) (hc : CW V 0) {p q : Nat} (hp : p < 8) (hq : q < 8) (hu : ¬ S9 V p 2 = S9 V q 2) {a : Int32} {σ0 : Sto} (h0 : σ0.1 82 = V) : ∀ (i n : Nat) (v6 : Int32) (σ : Sto), i ≤ 31 → i < n → K9 σ0 σ → (∀ j, j ≠ 16 + 9 * p + 3 → σ.1 82 j = V j) → (trF (S9 V p) (S9 V q) (flV V (V 6)) (V 7) a (31 - i) = none → v6 = -1) → (∀ x, trF (S9 V p) (S9 V q) (flV V (V 6)) (V 7) a (31 - i) = some x → x ≤ 30 ∧ v6 = nI x) →
    C9 (f_X9_training_L50 (nI p) (nI q) a (S9 V p 3) (S9 V p 2) n v6 (nI i - 1) σ) σ0 (trO (trF (S9 V p) (S9 V q) (flV V (V 6)) (V 7) a 31)) := by
  have hpq : q ≠ p := by rintro rfl; exact hu rfl
  intro i
  induction i with
  | zero =>
    intro n v6 σ _ h2 hk hV h5 h6
    obtain ⟨n, rfl⟩ : ∃ n', n = n' + 1 := ⟨n - 1, by omega⟩
    have f : Fr σ0 (sI σ 82 (16 + 9 * p + 3) (S9 V p 3)) := by
      intro x y hs
      by_cases hx : x = 82
      · subst hx
        rw [sI_at, h0]
        by_cases hy : y = 16 + 9 * p + 3
        · rw [if_pos hy, hy]; rfl
        · rw [if_neg hy, hV y hy]
      · rw [sI_ne hx, hk x y hx hs]
    rw [f_X9_training_L50, if_pos (by decide), show f_X9_becomes σ (nI p) 3 (S9 V p 3) = _ from bec_eq hp (j := 3) (by omega) _, bind_s]
    cases ho : trF (S9 V p) (S9 V q) (flV V (V 6)) (V 7) a 31 with
    | none =>
      rw [h5 ho, if_neg (by decide), r9_2, bind_s]
      exact ⟨_, rfl, f⟩
    | some x =>
      obtain ⟨x1, x2⟩ := h6 x ho
      rw [x2, if_pos (nI_pos' (by omega))]
      exact ⟨_, rfl, f⟩
  | succ i ih =>
    intro n v6 σ h1 h2 hk hV h5 h6
    obtain ⟨n, rfl⟩ : ∃ n', n = n' + 1 := ⟨n - 1, by omega⟩
    have e1 : 31 - i = (31 - (i + 1)) + 1 := by omega
    have e2 : 30 - (31 - (i + 1)) = i := by omega
    have hstep : trF (S9 V p) (S9 V q) (flV V (V 6)) (V 7) a (31 - i) = if trP (S9 V p) (S9 V q) (flV V (V 6)) (V 7) a i = true then some i else trF (S9 V p) (S9 V q) (flV V (V 6)) (V 7) a (31 - (i + 1)) := by rw [e1, trF, e2]
    have hW : ∀ j, j ≠ 16 + 9 * p + 3 → (sI σ 82 (16 + 9 * p + 3) (nI i)).1 82 j = V j := fun j hj => by rw [sI_nj hj]; exact hV j hj
    obtain ⟨q1, q2⟩ := S9_up hW (v := nI i) (by rw [sI_at, if_pos rfl]) (by omega)
    obtain ⟨υ, t1, t2, t3⟩ := swimW (σ := sI σ 82 (16 + 9 * p + 3) (nI i)) (V := V) (w := V 6) (s := V 7) rfl ⟨fun x hx => hW x (by omega), fun x hx => hW x (by omega)⟩ hc (hW 6 (by omega)) (hW 7 (by omega)) hp hq q1 (q2 q hpq) ((gr9 ok hp).up (ok3 (by omega))) (gr9 ok hq) hu
    have kυ : K9 σ0 υ := hk.tr ((K9.w _).tr t2.fr.k9)
    have hVυ : ∀ j, j ≠ 16 + 9 * p + 3 → υ.1 82 j = V j := fun j hj => by rw [t2.d]; exact hW j hj
    rw [f_X9_training_L50, nI_pred, if_neg (nI_pos (by omega)), show f_X9_becomes σ (nI p) 3 (nI i) = _ from bec_eq hp (j := 3) (by omega) _, bind_s, t1, bind_s]
    unfold f_X9_training_L90 f_X9_training_L92
    rw [show (nI i + -1 : Int32) = nI i - 1 from (Int32.sub_eq_add_neg _ _).symm]
    have hP : trP (S9 V p) (S9 V q) (flV V (V 6)) (V 7) a i = (match met (upv (S9 V p) 3 (nI i)) (S9 V q) (flV V (V 6)) (V 7) with
      | none => false
      | some u => !bt (S9 V p 2) a (metP (upv (S9 V p) 3 (nI i)) (S9 V q) (flV V (V 6)) u)) := rfl
    have keep : trP (S9 V p) (S9 V q) (flV V (V 6)) (V 7) a i = false → C9 (f_X9_training_L50 (nI p) (nI q) a (S9 V p 3) (S9 V p 2) n v6 (nI i - 1) υ) σ0 (trO (trF (S9 V p) (S9 V q) (flV V (V 6)) (V 7) a 31)) := by
      intro hF
      rw [hF, if_neg (by decide)] at hstep
      exact ih n v6 υ (by omega) (by omega) kυ hVυ (by rw [hstep]; exact h5) (by rw [hstep]; exact h6)
    cases hm : met (upv (S9 V p) 3 (nI i)) (S9 V q) (flV V (V 6)) (V 7) with
    | none =>
      rw [hm] at hP
      rw [if_neg (show ¬ (none : Option Nat).isSome = true by decide)]
      exact keep hP
    | some u =>
      rw [hm] at hP
      obtain ⟨-, v2⟩ := t3 u hm
      rw [if_pos (show (some u).isSome = true from rfl), v2, bt9, bind_s]
      cases hb : bt (S9 V p 2) a (metP (upv (S9 V p) 3 (nI i)) (S9 V q) (flV V (V 6)) u) with
      | true =>
        rw [if_pos rfl]
        exact keep (by rw [hP]; show (!bt _ _ _) = false; rw [hb]; rfl)
      | false =>
        rw [if_neg (by decide)]
        have hT : trP (S9 V p) (S9 V q) (flV V (V 6)) (V 7) a i = true := by rw [hP]; show (!bt _ _ _) = true; rw [hb]; rfl
        rw [hT, if_pos rfl] at hstep
        exact ih n (nI i) υ (by omega) (by omega) kυ hVυ (by rw [hstep]; intro z; cases z) (by rw [hstep]; intro x hx; cases hx; exact ⟨by omega, rfl⟩)
theorem s_training (a1 a2 a3 : Int32) (b : Bool) : LPr (fun σ => f_X8_training σ a1 a2 a3) (fun σ => f_X9_training σ a1 a2 a3) b Inv Inv := by
  refine pr_ro (fun σ => if unl (σ.1 82) a1 a2 = true then (if isO a3 0 1200 = true then .inr 1 else trO (trF (S9 (σ.1 82) a1.toNatClampNeg) (S9 (σ.1 82) a2.toNatClampNeg) (flV (σ.1 82) (σ.1 82 6)) (σ.1 82 7) a3 31)) else .inr 1) (fun σ τ h => by show _ = _; rw [h.d]) (fun σ h => ?_) (fun σ h => ?_) b
  · show C8 (f_X8_training σ a1 a2 a3) σ _
    unfold f_X8_training
    rcases unl_c h a1 a2 with ⟨hn, ⟨r5, r15, e1, e2, e3⟩, -⟩ | ⟨p, q, hp, hq, hpN, hqN, rfl, rfl, hu, hn, e1, e2, e3, -⟩
    · simp only [hn, Bool.false_eq_true, if_false]
      exact ⟨σ, by rw [e1, bind_s, e2, bind_s, e3, bind_s, if_neg (by decide), r8_1, bind_s], Fr.rf σ⟩
    · simp only [hn, if_true]
      rw [e1, bind_s, e2, bind_s, e3, bind_s, if_pos rfl, out_eq, bind_s]
      cases h3 : isO a3 0 1200 with
      | true => exact ⟨σ, by rw [if_pos rfl, r8_1, bind_s], Fr.rf σ⟩
      | false =>
        obtain ⟨τ, t1, t2, t3⟩ := feel_eq h.ic (σ.1 1 1)
        have hf : Fl τ (flV (σ.1 82) (σ.1 82 6)) := by rw [← h.mp (i := 6) (j := 1) (by decide)]; exact t2
        have eA : Eq9 (S8 τ (12 + 2 * p)) (S9 (σ.1 82) p) := by rw [swm_fr t3 hp]; exact sw_Eq9 h hpN
        have eB : Eq9 (S8 τ (12 + 2 * q)) (S9 (σ.1 82) q) := by rw [swm_fr t3 hq]; exact sw_Eq9 h hqN
        obtain ⟨υ, u1, u2, u3⟩ := copy6 τ (t := 69) (Or.inl rfl) (K12 p hp) (by omega)
        have f : Fr σ υ := fun k j hs => by rw [u3 k j (by rintro rfl; simp [scr] at hs) (by rintro rfl; simp [scr] at hs)]; exact feel_fr t3 k j hs
        rw [if_neg (by decide), t1, bind_s, deref6 (K12 p hp), u1, bind_s, nI_clamp (by omega), nI_clamp (by omega)]
        simp only [Bool.false_eq_true, if_false]
        exact (train8_L (gr9 h.ok hp) (gr9 h.ok hq) (k := 12 + 2 * p) (by omega) hq 31 FU υ (by omega) (by unfold FU; omega) (fun x hx => by rw [u3 59 x (by decide) (by decide)]; exact hf x hx) (fun j hj _ => (u2.tr eA) j hj) (by rw [S8_congr (fun j => u3 _ j (by omega) (by omega)) (fun j => u3 _ j (by omega) (by omega))]; exact eB) (by rw [u3 1 2 (by decide) (by decide), t3 1 2 (by decide) (by decide)]; exact h.mp (i := 7) (j := 2) (by decide)) (by rw [u3 _ _ (by omega) (by omega)]; exact eA 2 (by omega))).fr f
  · show C9 (f_X9_training σ a1 a2 a3) σ _
    unfold f_X9_training
    rcases unl_c h a1 a2 with ⟨hn, -, e3⟩ | ⟨p, q, hp, hq, hpN, hqN, rfl, rfl, hu, hn, -, -, -, e3⟩
    · simp only [hn, Bool.false_eq_true, if_false]
      exact ⟨σ, by rw [e3, bind_s, if_neg (by decide), r9_1, bind_s], Fr.rf σ⟩
    · simp only [hn, if_true]
      rw [e3, bind_s, if_pos rfl, in_0_1200, bind_s]
      cases h3 : isO a3 0 1200 with
      | true => exact ⟨σ, by rw [if_neg (by decide), r9_1, bind_s], Fr.rf σ⟩
      | false =>
        have o3 : f_X9_of σ (nI p) 3 = some (S9 (σ.1 82) p 3) := of_eq hp (j := 3) (by omega)
        have o2 : f_X9_of σ (nI p) 2 = some (S9 (σ.1 82) p 2) := of_eq hp (j := 2) (by omega)
        rw [if_pos (by decide), o3, bind_s, o2, bind_s, nI_clamp (by omega), nI_clamp (by omega)]
        simp only [Bool.false_eq_true, if_false]
        exact train9_L h.ok h.cd.1.cw hp hq hu rfl 31 FU (-1) σ (by omega) (by unfold FU; omega) (K9.rf _) (fun _ _ => rfl) (fun _ => rfl) (fun x hx => by cases hx)
