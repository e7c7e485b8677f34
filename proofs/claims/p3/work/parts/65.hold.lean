/-! Plans of one lane, and of any: hold, diary. -/
def PL (A f : Nat → Int32) : Nat → Int32 := fun j => if 5 ≤ j ∧ j < 9 then f (j - 5) else A j
def l4 (a b c d : Int32) : Nat → Int32 := fun i => if i = 0 then a else if i = 1 then b else if i = 2 then c else d
theorem l4_c (v : Int32) (i : Nat) : l4 v v v v i = v := by
  unfold l4
  rw [ite_self, ite_self, ite_self]
theorem Eq9.pl2 {A B f : Nat → Int32} (h : Eq9 A B) : Eq9 (PL A f) (PL B f) := fun j hj => by
  unfold PL
  rw [h j hj]
theorem PL_ln {A f : Nat → Int32} {t : Nat} : pLn (PL A f) t = f (min 3 (t / 10)) := by
  unfold pLn PL
  rw [if_pos (by omega), show 5 + min 3 (t / 10) - 5 = min 3 (t / 10) by omega]
theorem PL_lo {A f : Nat → Int32} {j : Nat} (hj : j < 5) : PL A f j = A j := by
  unfold PL
  rw [if_neg (by omega)]
theorem GR.pl2 {A f : Nat → Int32} (h : GR A) (hf : ∀ i, i < 4 → ∃ l, l < 6 ∧ f i = nI l) : GR (PL A f) := fun j hj => by
  unfold PL
  by_cases h5 : 5 ≤ j ∧ j < 9
  · rw [if_pos h5]
    obtain ⟨l, hl, e⟩ := hf (j - 5) (by omega)
    unfold oks
    rw [if_neg (by omega), if_neg (by omega), if_neg (by omega), if_pos (by omega), e, show isO (nI l) 0 5 = false from isO_lit (n := 5) (by omega) (by omega)]
    rfl
  · rw [if_neg h5]; exact h j hj
/-- in unlike lanes nobody meets -/
theorem no_meet {A B : Nat → Int32} {a b : Int32} (h : ¬ a = b) (fl : Int32 → Int32) (s : Int32) : met (PL A (fun _ => a)) (PL B (fun _ => b)) fl s = none := by
  have hd : ∀ d, mtD (PL A (fun _ => a)) (PL B (fun _ => b)) fl s d = none := by
    intro d
    induction d with
    | zero => rfl
    | succ d ih =>
      rw [mtD, ih, if_neg]
      unfold mtT
      rw [PL_ln, PL_ln, decide_eq_false h, Bool.false_and]
      decide
  exact hd 60
theorem keepTo_L {t : Nat} (ht : t = 69 ∨ t = 71) (l : Int32) : ∀ (d n : Nat) (σ : Sto), d ≤ 4 → d < n → ∃ τ, f_X6_keepTo_L2 t l n (nI (4 - d)) σ = some τ ∧ (∀ j, τ.1 (t + 1) j = if 4 - d ≤ j ∧ j < 4 then l else σ.1 (t + 1) j) ∧ ∀ a b, a ≠ t + 1 → τ.1 a b = σ.1 a b := by
  have t1 : A0 t 5 = t + 1 ∧ Ln0 (t + 1) = 4 := by rcases ht with rfl | rfl <;> decide
  intro d
  induction d with
  | zero =>
    intro n σ _ h2
    obtain ⟨n, rfl⟩ : ∃ n', n = n' + 1 := ⟨n - 1, by omega⟩
    rw [f_X6_keepTo_L2, if_pos (by decide)]
    exact ⟨σ, rfl, fun j => by rw [if_neg (by omega)], fun _ _ _ => rfl⟩
  | succ d ih =>
    intro n σ h1 h2
    obtain ⟨n, rfl⟩ : ∃ n', n = n' + 1 := ⟨n - 1, by omega⟩
    have e1 : 4 - d = (4 - (d + 1)) + 1 := by omega
    rw [f_X6_keepTo_L2, if_neg (show ¬ (4 : Int32) ≤ nI (4 - (d + 1)) from nI_ge (b := 4) (by omega) (by omega)), t1.1, wr_nI (by rw [t1.2]; omega), bind_s, nI_1, ← e1]
    obtain ⟨τ, u1, u2, u3⟩ := ih n (sI σ (t + 1) (4 - (d + 1)) l) (by omega) (by omega)
    refine ⟨τ, u1, fun j => ?_, fun a b h => by rw [u3 a b h, sI_ne h]⟩
    rw [u2 j, sI_at]
    by_cases h : 4 - d ≤ j ∧ j < 4
    · rw [if_pos h, if_pos (by omega)]
    · rw [if_neg h]
      by_cases h' : j = 4 - (d + 1)
      · rw [if_pos h', if_pos (by omega)]
      · rw [if_neg h', if_neg (by omega)]
theorem keepTo8 (σ : Sto) {t : Nat} (ht : t = 69 ∨ t = 71) (l : Int32) : ∃ τ, f_X6_keepTo σ t l = some τ ∧ Eq9 (S8 τ t) (PL (S8 σ t) (fun _ => l)) ∧ ∀ a b, a ≠ t + 1 → τ.1 a b = σ.1 a b := by
  obtain ⟨τ, t1, t2, t3⟩ := keepTo_L ht l 4 FU σ (by omega) (by unfold FU; omega)
  refine ⟨τ, t1, fun j hj => ?_, t3⟩
  unfold PL
  show S8 τ t j = if 5 ≤ j ∧ j < 9 then l else S8 σ t j
  unfold S8
  by_cases h : j < 5
  · rw [if_pos h, if_pos h, if_neg (by omega), t3 _ _ (by omega)]
  · rw [if_neg h, if_neg h, if_pos (by omega), t2, if_pos (by omega)]
/-- what the class's two stand-ins see -/
def sc5 (σ τ : Sto) : Prop := ∀ a b, a ≠ 58 → a ≠ 69 → a ≠ 70 → a ≠ 71 → a ≠ 72 → τ.1 a b = σ.1 a b
theorem sc5.fr {σ τ : Sto} (h : sc5 σ τ) : Fr σ τ := fun k j hs => h k j (by rintro rfl; simp [scr] at hs) (by rintro rfl; simp [scr] at hs) (by rintro rfl; simp [scr] at hs) (by rintro rfl; simp [scr] at hs) (by rintro rfl; simp [scr] at hs)
theorem sc5.tr {σ τ υ : Sto} (h : sc5 σ τ) (h' : sc5 τ υ) : sc5 σ υ := fun a b h1 h2 h3 h4 h5 => (h' a b h1 h2 h3 h4 h5).trans (h a b h1 h2 h3 h4 h5)
/-- where the class stands while it asks about plans -/
def HD (σ : Sto) (A B : Nat → Int32) (fl : Int32 → Int32) (s : Int32) (p q : Nat) : Prop := Fl σ fl ∧ Eq9 (S8 σ (12 + 2 * p)) A ∧ Eq9 (S8 σ (12 + 2 * q)) B ∧ σ.1 1 2 = s
theorem HD.sc {σ τ : Sto} {A B : Nat → Int32} {fl : Int32 → Int32} {s : Int32} {p q : Nat} (h : HD σ A B fl s p q) (hp : p < 8) (hq : q < 8) (f : sc5 σ τ) : HD τ A B fl s p q := by
  obtain ⟨h1, h2, h3, h4⟩ := h
  exact ⟨fun x hx => by rw [f 59 x (by decide) (by decide) (by decide) (by decide) (by decide)]; exact h1 x hx, by rw [S8_congr (fun j => f _ j (by omega) (by omega) (by omega) (by omega) (by omega)) (fun j => f _ j (by omega) (by omega) (by omega) (by omega) (by omega))]; exact h2, by rw [S8_congr (fun j => f _ j (by omega) (by omega) (by omega) (by omega) (by omega)) (fun j => f _ j (by omega) (by omega) (by omega) (by omega) (by omega))]; exact h3, by rw [f 1 2 (by decide) (by decide) (by decide) (by decide) (by decide)]; exact h4⟩
def mL (A B : Nat → Int32) (fl : Int32 → Int32) (s : Int32) (i : Nat) : Option Nat := met (PL A (fun _ => nI i)) (PL B (fun _ => nI i)) fl s
def mP (A B : Nat → Int32) (fl : Int32 → Int32) (i u : Nat) : Int32 := metP (PL A (fun _ => nI i)) (PL B (fun _ => nI i)) fl u
theorem inLane8 {σ : Sto} {A B : Nat → Int32} {fl : Int32 → Int32} {s : Int32} {p q : Nat} (hp : p < 8) (hq : q < 8) (gA : GR A) (gB : GR B) (h : HD σ A B fl s p q) {i : Nat} (hi : i < 6) :
    ∃ τ, f_X8_meetInLane σ (nI i) (12 + 2 * p) (12 + 2 * q) = some ((mL A B fl s i).isSome, τ) ∧ sc5 σ τ ∧ ∀ u, mL A B fl s i = some u → τ.1 58 1 = nI u ∧ τ.1 58 2 = mP A B fl i u := by
  obtain ⟨h1, h2, h3, h4⟩ := h
  obtain ⟨a, a1, a2, a3⟩ := copy6 σ (t := 69) (Or.inl rfl) (K12 p hp) (by omega)
  obtain ⟨b, b1, b2, b3⟩ := keepTo8 a (t := 69) (Or.inl rfl) (nI i)
  obtain ⟨c, c1, c2, c3⟩ := copy6 b (t := 71) (Or.inr rfl) (K12 q hq) (by omega)
  obtain ⟨d, d1, d2, d3⟩ := keepTo8 c (t := 71) (Or.inr rfl) (nI i)
  have ob : ∀ x y, x ≠ 69 → x ≠ 70 → b.1 x y = σ.1 x y := fun x y h h' => by rw [b3 x y h', a3 x y h h']
  have od : ∀ x y, x ≠ 71 → x ≠ 72 → d.1 x y = b.1 x y := fun x y h h' => by rw [d3 x y h', c3 x y h h']
  have eA : Eq9 (S8 d 69) (PL A (fun _ => nI i)) := by
    rw [S8_congr (fun j => od 69 j (by decide) (by decide)) (fun j => od 70 j (by decide) (by decide))]
    exact b2.tr ((a2.tr h2).pl2)
  have eB : Eq9 (S8 d 71) (PL B (fun _ => nI i)) := by
    refine d2.tr ((c2.tr ?_).pl2)
    rw [S8_congr (fun j => ob _ j (by omega) (by omega)) (fun j => ob _ j (by omega) (by omega))]
    exact h3
  obtain ⟨e, e1, e2, e3⟩ := meets8 (k1 := 69) (k2 := 71) (by decide) (by decide) (gA.pl2 (fun _ _ => ⟨i, hi, rfl⟩)) (gB.pl2 (fun _ _ => ⟨i, hi, rfl⟩)) eA eB (fl := fl) (fun x hx => by rw [od 59 x (by decide) (by decide), ob 59 x (by decide) (by decide)]; exact h1 x hx) s
  refine ⟨e, ?_, fun x y n1 n2 n3 n4 n5 => by rw [e2 x y n1, od x y n4 n5, ob x y n2 n3], fun u hu => by obtain ⟨v1, v2, -⟩ := e3 u hu; exact ⟨v1, v2⟩⟩
  unfold f_X8_meetInLane
  rw [a1, bind_s, b1, bind_s, c1, bind_s, d1, bind_s, show d.1 1 2 = s by rw [od 1 2 (by decide) (by decide), ob 1 2 (by decide) (by decide)]; exact h4, e1, bind_s]
  rfl
theorem plans9 {σ : Sto} {p : Nat} (hp : p < 8) (a b c d : Int32) : ∃ τ, f_X9_plans σ (nI p) a b c d = some τ ∧ (∀ j, τ.1 82 j = if 16 + 9 * p + 5 ≤ j ∧ j < 16 + 9 * p + 9 then l4 a b c d (j - (16 + 9 * p + 5)) else σ.1 82 j) ∧ ∀ k j, k ≠ 82 → τ.1 k j = σ.1 k j := by
  unfold f_X9_plans
  rw [show f_X9_becomes σ (nI p) 5 a = _ from bec_eq hp (j := 5) (by omega) _, bind_s]
  generalize hα : sI σ 82 (16 + 9 * p + 5) a = α
  rw [show f_X9_becomes α (nI p) 6 b = _ from bec_eq hp (j := 6) (by omega) _, bind_s]
  generalize hβ : sI α 82 (16 + 9 * p + 6) b = β
  rw [show f_X9_becomes β (nI p) 7 c = _ from bec_eq hp (j := 7) (by omega) _, bind_s]
  generalize hγ : sI β 82 (16 + 9 * p + 7) c = γ
  rw [show f_X9_becomes γ (nI p) 8 d = _ from bec_eq hp (j := 8) (by omega) _, bind_s]
  refine ⟨_, rfl, fun j => ?_, fun k j hk => by rw [sI_ne hk, ← hγ, sI_ne hk, ← hβ, sI_ne hk, ← hα, sI_ne hk]⟩
  rw [sI_at, ← hγ, sI_at, ← hβ, sI_at, ← hα, sI_at]
  unfold l4
  by_cases h : 16 + 9 * p + 5 ≤ j ∧ j < 16 + 9 * p + 9
  · rw [if_pos h]
    rcases (show j = 16 + 9 * p + 5 ∨ j = 16 + 9 * p + 6 ∨ j = 16 + 9 * p + 7 ∨ j = 16 + 9 * p + 8 by omega) with rfl | rfl | rfl | rfl
    · rw [if_neg (by omega), if_neg (by omega), if_neg (by omega), if_pos rfl, if_pos (by omega)]
    · rw [if_neg (by omega), if_neg (by omega), if_pos rfl, if_neg (by omega), if_pos (by omega)]
    · rw [if_neg (by omega), if_pos rfl, if_neg (by omega), if_neg (by omega), if_pos (by omega)]
    · rw [if_pos rfl, if_neg (by omega), if_neg (by omega), if_neg (by omega)]
  · rw [if_neg h, if_neg (by omega), if_neg (by omega), if_neg (by omega), if_neg (by omega)]
/-- where the reference stands while it asks about plans: its row was V -/
def HS (σ0 : Sto) (V : Nat → Int32) (p q : Nat) (σ : Sto) : Prop := K9 σ0 σ ∧ (∀ j, j < 270 → σ.1 83 j = V j) ∧ ∀ j, ¬ (16 + 9 * p + 5 ≤ j ∧ j < 16 + 9 * p + 9) → ¬ (16 + 9 * q + 5 ≤ j ∧ j < 16 + 9 * q + 9) → σ.1 82 j = V j
theorem HS.back {σ0 σ : Sto} {V : Nat → Int32} {p q : Nat} (hp : p < 8) (hq : q < 8) (h : HS σ0 V p q σ) (h0 : σ0.1 82 = V) : ∃ τ, f_X9_copies σ 83 82 = some τ ∧ Fr σ0 τ := back9 h0 h.1 h.2.1 (fun j hj => h.2.2 j (by omega) (by omega))
theorem HS.st {σ : Sto} (p q : Nat) : ∃ τ, f_X9_copies σ 82 83 = some τ ∧ HS σ (σ.1 82) p q τ ∧ τ.1 82 = σ.1 82 := by
  obtain ⟨τ, t1, t2, t3⟩ := copies9 (a := 82) (b := 83) (by decide) (by decide) (by decide) σ
  exact ⟨τ, t1, ⟨fun k j hk hs => t3 k j (by rintro rfl; simp [scr] at hs), fun j hj => by rw [t2 j, if_pos hj], fun j _ _ => t3 82 j (by decide)⟩, funext fun j => t3 82 j (by decide)⟩
/-- both plans are set, and they swim -/
theorem two9 {σ0 σ : Sto} {V : Nat → Int32} (ok : ∀ i, okv i (V i) = true) (hc : CW V 0) {p q : Nat} (hp : p < 8) (hq : q < 8) (hu : ¬ S9 V p 2 = S9 V q 2) (h : HS σ0 V p q σ) {a b : Nat} (ha : a < 6) (hb : b < 6) :
    ∃ α β τ, f_X9_plans σ (nI p) (nI a) (nI a) (nI a) (nI a) = some α ∧ f_X9_plans α (nI q) (nI b) (nI b) (nI b) (nI b) = some β ∧ f_X9_swim β (nI p) (nI q) = some ((met (PL (S9 V p) (fun _ => nI a)) (PL (S9 V q) (fun _ => nI b)) (flV V (V 6)) (V 7)).isSome, τ) ∧ HS σ0 V p q τ ∧ ∀ u, met (PL (S9 V p) (fun _ => nI a)) (PL (S9 V q) (fun _ => nI b)) (flV V (V 6)) (V 7) = some u → τ.1 81 15 = nI u ∧ τ.1 81 16 = metP (PL (S9 V p) (fun _ => nI a)) (PL (S9 V q) (fun _ => nI b)) (flV V (V 6)) u := by
  have hpq : q ≠ p := by rintro rfl; exact hu rfl
  obtain ⟨h1, h2, h3⟩ := h
  obtain ⟨α, a1, a2, a3⟩ := plans9 (σ := σ) hp (nI a) (nI a) (nI a) (nI a)
  obtain ⟨β, b1, b2, b3⟩ := plans9 (σ := α) hq (nI b) (nI b) (nI b) (nI b)
  have lo : ∀ j, ¬ (16 + 9 * p + 5 ≤ j ∧ j < 16 + 9 * p + 9) → ¬ (16 + 9 * q + 5 ≤ j ∧ j < 16 + 9 * q + 9) → β.1 82 j = V j := fun j n1 n2 => by rw [b2, if_neg n2, a2, if_neg n1, h3 j n1 n2]
  have eA : Eq9 (S9 (β.1 82) p) (PL (S9 V p) (fun _ => nI a)) := by
    intro j hj
    unfold PL
    show β.1 82 (16 + 9 * p + j) = _
    by_cases h5 : 5 ≤ j ∧ j < 9
    · rw [if_pos h5, b2, if_neg (by omega), a2, if_pos (by omega), l4_c]
    · rw [if_neg h5, lo _ (by omega) (by omega)]; rfl
  have eB : Eq9 (S9 (β.1 82) q) (PL (S9 V q) (fun _ => nI b)) := by
    intro j hj
    unfold PL
    show β.1 82 (16 + 9 * q + j) = _
    by_cases h5 : 5 ≤ j ∧ j < 9
    · rw [if_pos h5, b2, if_pos (by omega), l4_c]
    · rw [if_neg h5, lo _ (by omega) (by omega)]; rfl
  obtain ⟨τ, t1, t2, t3⟩ := swimW (σ := β) (V := V) (w := V 6) (s := V 7) rfl ⟨fun x hx => lo x (by omega) (by omega), fun x hx => lo x (by omega) (by omega)⟩ hc (lo 6 (by omega) (by omega)) (lo 7 (by omega) (by omega)) hp hq eA eB ((gr9 ok hp).pl2 (fun _ _ => ⟨a, ha, rfl⟩)) ((gr9 ok hq).pl2 (fun _ _ => ⟨b, hb, rfl⟩)) (by rw [PL_lo (by omega), PL_lo (by omega)]; exact hu)
  have kβ : K9 σ0 β := fun k j hk hs => by rw [b3 k j hk, a3 k j hk, h1 k j hk hs]
  exact ⟨α, β, τ, a1, b1, t1, ⟨kβ.tr t2.fr.k9, fun j hj => by rw [t2 83 j (by decide) (by decide) (by omega), b3 83 j (by decide), a3 83 j (by decide), h2 j hj], fun j n1 n2 => by rw [t2.d, lo j n1 n2]⟩, t3⟩
theorem nI_ne6 {a b : Nat} (ha : a < 6) (hb : b < 6) (h : a ≠ b) : ¬ nI a = nI b := fun z => h ((nI_eq (by omega) (by omega)).mp z)
-- hold
def worst (A B : Nat → Int32) (fl : Int32 → Int32) (s v8 : Int32) (i : Nat) : Int32 := match mL A B fl s i with
  | none => v8
  | some u => if bt (A 2) v8 (mP A B fl i u) = true then mP A B fl i u else v8
theorem bt_asym {s a b : Int32} (h : bt s a b = true) : bt s b a = false := by
  unfold bt at h ⊢
  by_cases hs : s = 0
  · rw [if_pos hs] at h ⊢
    have h' : ¬ a ≤ b := of_decide_eq_false (by cases q : decide (a ≤ b) <;> simp [q] at h ⊢)
    rw [decide_eq_true (Int32.le_of_lt (Int32.not_le.mp h'))]
    rfl
  · rw [if_neg hs] at h ⊢
    have h' : ¬ b ≤ a := of_decide_eq_false (by cases q : decide (b ≤ a) <;> simp [q] at h ⊢)
    rw [decide_eq_true (Int32.le_of_lt (Int32.not_le.mp h'))]
    rfl
theorem bt_conn {s a b : Int32} (h : bt s a b = false) (h' : bt s b a = false) : a = b := by
  unfold bt at h h'
  by_cases hs : s = 0
  · rw [if_pos hs] at h h'
    have q : a ≤ b := of_decide_eq_true (by cases q : decide (a ≤ b) <;> simp [q] at h ⊢)
    have q' : b ≤ a := of_decide_eq_true (by cases q : decide (b ≤ a) <;> simp [q] at h' ⊢)
    exact Int32.le_antisymm q q'
  · rw [if_neg hs] at h h'
    have q : b ≤ a := of_decide_eq_true (by cases q : decide (b ≤ a) <;> simp [q] at h ⊢)
    have q' : a ≤ b := of_decide_eq_true (by cases q : decide (a ≤ b) <;> simp [q] at h' ⊢)
    exact Int32.le_antisymm q' q
theorem bt_rf (s a : Int32) : bt s a a = false := by
  unfold bt
  by_cases hs : s = 0
  · rw [if_pos hs, decide_eq_true (Int32.le_refl a)]; rfl
  · rw [if_neg hs, decide_eq_true (Int32.le_refl a)]; rfl
def holdS (A B : Nat → Int32) (fl : Int32 → Int32) (s v8 : Int32) : Nat → Int32 × Int32 → Int32 × Int32
  | 0, st => st
  | d + 1, st => holdS A B fl s v8 d (if bt (A 2) (worst A B fl s v8 (5 - d)) st.2 = true then (nI (5 - d), worst A B fl s v8 (5 - d)) else st)
theorem worst8 {σ : Sto} {A B : Nat → Int32} {fl : Int32 → Int32} {s v8 : Int32} {p q : Nat} (hp : p < 8) (hq : q < 8) (gA : GR A) (gB : GR B) (h : HD σ A B fl s p q) (h3 : σ.1 1 3 = v8) {i : Nat} (hi : i < 6) :
    ∃ τ, f_X8_worstPlaceIn σ (nI i) (12 + 2 * p) (12 + 2 * q) = some (worst A B fl s v8 i, τ) ∧ sc5 σ τ := by
  obtain ⟨τ, t1, t2, t3⟩ := inLane8 hp hq gA gB h hi
  refine ⟨τ, ?_, t2⟩
  unfold f_X8_worstPlaceIn worst
  rw [t1, bind_s, h3]
  cases hm : mL A B fl s i with
  | none => rw [if_neg (show ¬ (none : Option Nat).isSome = true by decide)]
  | some u =>
    obtain ⟨-, v2⟩ := t3 u hm
    rw [if_pos (show (some u).isSome = true from rfl), show τ.1 (12 + 2 * p) 2 = A 2 from ((h.sc hp hq t2).2.1 2 (by omega)), v2, bt8, bind_s]
    show _ = some ((if bt (A 2) v8 (mP A B fl i u) = true then mP A B fl i u else v8), τ)
    cases hb : bt (A 2) v8 (mP A B fl i u) with
    | true => rw [if_pos rfl, if_pos rfl]
    | false => rw [if_neg (by decide), if_neg (by decide)]
def holO (a3 : Int32) (x : Int32 × Int32) : Int32 ⊕ Nat := .inl (if a3 = 0 then x.1 else x.2)
theorem hold8_L {A B : Nat → Int32} {fl : Int32 → Int32} {s v8 a3 : Int32} {p q : Nat} (hp : p < 8) (hq : q < 8) (gA : GR A) (gB : GR B) : ∀ (d n : Nat) (v6 v7 : Int32) (σ : Sto), d ≤ 5 → d < n → HD σ A B fl s p q → σ.1 1 3 = v8 →
    ∃ τ, f_X8_hold_L80 a3 (12 + 2 * p) (12 + 2 * q) n v6 v7 (nI (6 - d)) σ = some ((if a3 = 0 then (holdS A B fl s v8 d (v6, v7)).1 else (holdS A B fl s v8 d (v6, v7)).2), τ) ∧ sc5 σ τ := by
  intro d
  induction d with
  | zero =>
    intro n v6 v7 σ _ h2 h h3
    obtain ⟨n, rfl⟩ : ∃ n', n = n' + 1 := ⟨n - 1, by omega⟩
    rw [f_X8_hold_L80, if_pos (by decide), holdS]
    by_cases ha : a3 = 0
    · rw [if_pos ha, if_pos ha]; exact ⟨σ, rfl, fun _ _ _ _ _ _ _ => rfl⟩
    · rw [if_neg ha, if_neg ha]; exact ⟨σ, rfl, fun _ _ _ _ _ _ _ => rfl⟩
  | succ d ih =>
    intro n v6 v7 σ h1 h2 h h3
    obtain ⟨n, rfl⟩ : ∃ n', n = n' + 1 := ⟨n - 1, by omega⟩
    have e1 : 6 - (d + 1) = 5 - d := by omega
    have e2 : 6 - d = (5 - d) + 1 := by omega
    obtain ⟨τ, t1, t2⟩ := worst8 hp hq gA gB h h3 (i := 5 - d) (by omega)
    have hτ := h.sc hp hq t2
    have h3τ : τ.1 1 3 = v8 := by rw [t2 1 3 (by decide) (by decide) (by decide) (by decide) (by decide)]; exact h3
    rw [e1, f_X8_hold_L80, if_neg (show ¬ (6 : Int32) ≤ nI (5 - d) from nI_ge (b := 6) (by omega) (by omega)), t1, bind_s, show τ.1 (12 + 2 * p) 2 = A 2 from hτ.2.1 2 (by omega), bt8, bind_s, holdS]
    unfold f_X8_hold_L122
    rw [nI_1, ← e2]
    cases hb : bt (A 2) (worst A B fl s v8 (5 - d)) v7 with
    | true =>
      simp only [hb, if_true]
      obtain ⟨υ, u1, u2⟩ := ih n (nI (5 - d)) (worst A B fl s v8 (5 - d)) τ (by omega) (by omega) hτ h3τ
      exact ⟨υ, u1, t2.tr u2⟩
    | false =>
      simp only [hb, Bool.false_eq_true, if_false]
      obtain ⟨υ, u1, u2⟩ := ih n v6 v7 τ (by omega) (by omega) hτ h3τ
      exact ⟨υ, u1, t2.tr u2⟩
def enE (E v8 : Int32) (i j : Nat) : Int32 := if i = j then E else v8
def wsR (sd E v8 : Int32) (i : Nat) : Nat → Int32 → Int32
  | 0, x => x
  | d + 1, x => wsR sd E v8 i d (if bt sd x (enE E v8 i (5 - d)) = true then enE E v8 i (5 - d) else x)
theorem wsR_eq {sd E v8 : Int32} {i : Nat} (hi : i < 6) : wsR sd E v8 i 5 (enE E v8 i 0) = if bt sd v8 E = true then E else v8 := by
  cases h1 : bt sd v8 E with
  | true =>
    have h2 := bt_asym h1
    rcases (show i = 0 ∨ i = 1 ∨ i = 2 ∨ i = 3 ∨ i = 4 ∨ i = 5 by omega) with rfl | rfl | rfl | rfl | rfl | rfl <;> simp [wsR, enE, h1, h2, bt_rf]
  | false =>
    cases h2 : bt sd E v8 with
    | true =>
      rcases (show i = 0 ∨ i = 1 ∨ i = 2 ∨ i = 3 ∨ i = 4 ∨ i = 5 by omega) with rfl | rfl | rfl | rfl | rfl | rfl <;> simp [wsR, enE, h1, h2, bt_rf]
    | false =>
      have := bt_conn h1 h2
      subst this
      rcases (show i = 0 ∨ i = 1 ∨ i = 2 ∨ i = 3 ∨ i = 4 ∨ i = 5 by omega) with rfl | rfl | rfl | rfl | rfl | rfl <;> simp [wsR, enE, bt_rf]
def endE (A B : Nat → Int32) (fl : Int32 → Int32) (s v8 : Int32) (i : Nat) : Int32 := match mL A B fl s i with
  | none => v8
  | some u => mP A B fl i u
theorem worst_E {A B : Nat → Int32} {fl : Int32 → Int32} {s v8 : Int32} {i : Nat} : worst A B fl s v8 i = if bt (A 2) v8 (endE A B fl s v8 i) = true then endE A B fl s v8 i else v8 := by
  unfold worst endE
  cases mL A B fl s i with
  | none => rw [bt_rf, if_neg (by decide)]
  | some u => rfl
theorem endOf9 {σ0 σ : Sto} {V : Nat → Int32} (ok : ∀ i, okv i (V i) = true) (hc : CW V 0) {p q : Nat} (hp : p < 8) (hq : q < 8) (hu : ¬ S9 V p 2 = S9 V q 2) (h : HS σ0 V p q σ) {a b : Nat} (ha : a < 6) (hb : b < 6) :
    ∃ τ, f_X9_endOf σ (nI p) (nI q) (nI a) (nI b) = some (enE (endE (S9 V p) (S9 V q) (flV V (V 6)) (V 7) (V 8) a) (V 8) a b, τ) ∧ HS σ0 V p q τ := by
  obtain ⟨α, β, τ, h1, h2, h3, h4, h5⟩ := two9 ok hc hp hq hu h ha hb
  refine ⟨τ, ?_, h4⟩
  unfold f_X9_endOf
  rw [h1, bind_s, h2, bind_s, h3, bind_s]
  have e8 : τ.1 82 8 = V 8 := h4.2.2 8 (by omega) (by omega)
  by_cases hab : a = b
  · subst hab
    unfold enE endE
    rw [if_pos rfl]
    have em : met (PL (S9 V p) (fun _ => nI a)) (PL (S9 V q) (fun _ => nI a)) (flV V (V 6)) (V 7) = mL (S9 V p) (S9 V q) (flV V (V 6)) (V 7) a := rfl
    rw [em] at h5 ⊢
    cases hm : mL (S9 V p) (S9 V q) (flV V (V 6)) (V 7) a with
    | none => rw [if_neg (show ¬ (none : Option Nat).isSome = true by decide), rdA_82_8, bind_s, e8]
    | some u =>
      obtain ⟨-, v2⟩ := h5 u hm
      rw [if_pos (show (some u).isSome = true from rfl), v2]
      rfl
  · unfold enE
    rw [no_meet (nI_ne6 ha hb hab), if_neg (show ¬ (none : Option Nat).isSome = true by decide), rdA_82_8, bind_s, e8, if_neg hab]
theorem hold9_in {σ0 : Sto} {V : Nat → Int32} (ok : ∀ i, okv i (V i) = true) (hc : CW V 0) {p q : Nat} (hp : p < 8) (hq : q < 8) (hu : ¬ S9 V p 2 = S9 V q 2) (K : Int32 → Int32 → Int32 → Sto → Option (Int32 × Sto)) (a3 v5 v6 : Int32) {i : Nat} (hi : i < 6) : ∀ (d n : Nat) (x : Int32) (σ : Sto), d ≤ 5 → d < n → HS σ0 V p q σ →
    ∃ τ, HS σ0 V p q τ ∧ f_X9_hold_L74 K (nI p) (nI q) a3 (S9 V p 2) v5 v6 (nI i) n x (nI (6 - d)) σ = (if v5 < 0 ∨ bt (S9 V p 2) (wsR (S9 V p 2) (endE (S9 V p) (S9 V q) (flV V (V 6)) (V 7) (V 8) i) (V 8) i d x) v6 = true then K (nI i) (wsR (S9 V p 2) (endE (S9 V p) (S9 V q) (flV V (V 6)) (V 7) (V 8) i) (V 8) i d x) (nI (i + 1)) τ else K v5 v6 (nI (i + 1)) τ) := by
  intro d
  induction d with
  | zero =>
    intro n x σ _ h2 h
    obtain ⟨n, rfl⟩ : ∃ n', n = n' + 1 := ⟨n - 1, by omega⟩
    refine ⟨σ, h, ?_⟩
    rw [f_X9_hold_L74, if_pos (by decide), wsR]
    unfold f_X9_hold_L137 f_X9_hold_L145
    rw [nI_1]
    by_cases h5 : v5 < 0
    · rw [if_pos h5, if_pos (Or.inl h5)]
    · rw [if_neg h5, bt9, bind_s]
      cases hb : bt (S9 V p 2) x v6 with
      | true => rw [if_pos rfl, if_pos (Or.inr rfl)]
      | false => rw [if_neg (by decide), if_neg (fun z => z.elim h5 (by decide))]
  | succ d ih =>
    intro n x σ h1 h2 h
    obtain ⟨n, rfl⟩ : ∃ n', n = n' + 1 := ⟨n - 1, by omega⟩
    have e1 : 6 - (d + 1) = 5 - d := by omega
    have e2 : 6 - d = (5 - d) + 1 := by omega
    obtain ⟨τ, t1, t2⟩ := endOf9 ok hc hp hq hu h hi (b := 5 - d) (by omega)
    rw [e1, f_X9_hold_L74, if_neg (show ¬ (6 : Int32) ≤ nI (5 - d) from nI_ge (b := 6) (by omega) (by omega)), t1, bind_s, bt9, bind_s, wsR]
    unfold f_X9_hold_L112
    rw [nI_1, ← e2]
    cases hb : bt (S9 V p 2) x (enE (endE (S9 V p) (S9 V q) (flV V (V 6)) (V 7) (V 8) i) (V 8) i (5 - d)) with
    | true =>
      simp only [hb, if_true]
      exact ih n _ τ (by omega) (by omega) t2
    | false =>
      simp only [hb, Bool.false_eq_true, if_false]
      exact ih n _ τ (by omega) (by omega) t2
theorem hold9_step {σ0 σ : Sto} {V : Nat → Int32} (ok : ∀ i, okv i (V i) = true) (hc : CW V 0) {p q : Nat} (hp : p < 8) (hq : q < 8) (hu : ¬ S9 V p 2 = S9 V q 2) (h : HS σ0 V p q σ) (a3 v5 v6 : Int32) (n : Nat) {i : Nat} (hi : i < 6) :
    ∃ τ, HS σ0 V p q τ ∧ f_X9_hold_L53 (nI p) (nI q) a3 (S9 V p 2) (n + 1) v5 v6 (nI i) σ = (if v5 < 0 ∨ bt (S9 V p 2) (worst (S9 V p) (S9 V q) (flV V (V 6)) (V 7) (V 8) i) v6 = true then f_X9_hold_L53 (nI p) (nI q) a3 (S9 V p 2) n (nI i) (worst (S9 V p) (S9 V q) (flV V (V 6)) (V 7) (V 8) i) (nI (i + 1)) τ else f_X9_hold_L53 (nI p) (nI q) a3 (S9 V p 2) n v5 v6 (nI (i + 1)) τ) := by
  obtain ⟨α, a1, a2⟩ := endOf9 ok hc hp hq hu h hi (b := 0) (by omega)
  obtain ⟨τ, t1, t2⟩ := hold9_in ok hc hp hq hu (f_X9_hold_L53 (nI p) (nI q) a3 (S9 V p 2) n) a3 v5 v6 hi 5 FU _ α (by omega) (by unfold FU; omega) a2
  rw [wsR_eq hi, ← worst_E] at t2
  refine ⟨τ, t1, ?_⟩
  rw [f_X9_hold_L53, if_neg (show ¬ (6 : Int32) ≤ nI i from nI_ge (b := 6) hi (by omega)), show f_X9_endOf σ (nI p) (nI q) (nI i) 0 = _ from a1, bind_s]
  exact t2
theorem hold9_L {σ0 : Sto} {V : Nat → Int32} (h0 : σ0.1 82 = V) (ok : ∀ i, okv i (V i) = true) (hc : CW V 0) {p q : Nat} (hp : p < 8) (hq : q < 8) (hu : ¬ S9 V p 2 = S9 V q 2) (a3 : Int32) : ∀ (d n : Nat) (x : Nat) (v6 : Int32) (σ : Sto), d ≤ 5 → d < n → x < 6 → HS σ0 V p q σ →
    ∃ τ, f_X9_hold_L53 (nI p) (nI q) a3 (S9 V p 2) n (nI x) v6 (nI (6 - d)) σ = some ((if a3 = 0 then (holdS (S9 V p) (S9 V q) (flV V (V 6)) (V 7) (V 8) d (nI x, v6)).1 else (holdS (S9 V p) (S9 V q) (flV V (V 6)) (V 7) (V 8) d (nI x, v6)).2), τ) ∧ Fr σ0 τ := by
  intro d
  induction d with
  | zero =>
    intro n x v6 σ _ h2 hx h
    obtain ⟨n, rfl⟩ : ∃ n', n = n' + 1 := ⟨n - 1, by omega⟩
    obtain ⟨τ, t1, t2⟩ := h.back hp hq h0
    rw [f_X9_hold_L53, if_pos (by decide), t1, bind_s, holdS]
    by_cases ha : a3 = 0
    · rw [if_pos ha, if_pos ha]; exact ⟨τ, rfl, t2⟩
    · rw [if_neg ha, if_neg ha]; exact ⟨τ, rfl, t2⟩
  | succ d ih =>
    intro n x v6 σ h1 h2 hx h
    obtain ⟨n, rfl⟩ : ∃ n', n = n' + 1 := ⟨n - 1, by omega⟩
    have e1 : 6 - (d + 1) = 5 - d := by omega
    have e2 : 6 - d = (5 - d) + 1 := by omega
    obtain ⟨τ, t1, t2⟩ := hold9_step ok hc hp hq hu h a3 (nI x) v6 n (i := 5 - d) (by omega)
    rw [e1, t2, holdS, ← e2]
    cases hb : bt (S9 V p 2) (worst (S9 V p) (S9 V q) (flV V (V 6)) (V 7) (V 8) (5 - d)) v6 with
    | true =>
      simp only [hb, or_true, if_true]
      exact ih n (5 - d) _ τ (by omega) (by omega) (by omega) t1
    | false =>
      rw [if_neg (fun z => z.elim (nI_pos (by omega)) (by decide))]
      simp only [hb, Bool.false_eq_true, if_false]
      exact ih n x _ τ (by omega) (by omega) hx t1
theorem s_hold (a1 a2 a3 : Int32) (b : Bool) : LPr (fun σ => f_X8_hold σ a1 a2 a3) (fun σ => f_X9_hold σ a1 a2 a3) b Inv Inv := by
  refine pr_ro (fun σ => if unl (σ.1 82) a1 a2 = true then (if isO a3 0 1 = true then .inr 1 else .inl (if a3 = 0 then (holdS (S9 (σ.1 82) a1.toNatClampNeg) (S9 (σ.1 82) a2.toNatClampNeg) (flV (σ.1 82) (σ.1 82 6)) (σ.1 82 7) (σ.1 82 8) 5 (0, worst (S9 (σ.1 82) a1.toNatClampNeg) (S9 (σ.1 82) a2.toNatClampNeg) (flV (σ.1 82) (σ.1 82 6)) (σ.1 82 7) (σ.1 82 8) 0)).1 else (holdS (S9 (σ.1 82) a1.toNatClampNeg) (S9 (σ.1 82) a2.toNatClampNeg) (flV (σ.1 82) (σ.1 82 6)) (σ.1 82 7) (σ.1 82 8) 5 (0, worst (S9 (σ.1 82) a1.toNatClampNeg) (S9 (σ.1 82) a2.toNatClampNeg) (flV (σ.1 82) (σ.1 82 6)) (σ.1 82 7) (σ.1 82 8) 0)).2)) else .inr 1) (fun σ τ h => by show _ = _; rw [h.d]) (fun σ h => ?_) (fun σ h => ?_) b
  · show C8 (f_X8_hold σ a1 a2 a3) σ _
    unfold f_X8_hold
    rcases unl_c h a1 a2 with ⟨hn, ⟨r5, r15, e1, e2, e3⟩, -⟩ | ⟨p, q, hp, hq, hpN, hqN, rfl, rfl, hu, hn, e1, e2, e3, -⟩
    · simp only [hn, Bool.false_eq_true, if_false]
      exact ⟨σ, by rw [e1, bind_s, e2, bind_s, e3, bind_s, if_neg (by decide), r8_1, bind_s], Fr.rf σ⟩
    · simp only [hn, if_true]
      rw [e1, bind_s, e2, bind_s, e3, bind_s, if_pos rfl, out_eq, bind_s]
      cases h3 : isO a3 0 1 with
      | true => exact ⟨σ, by rw [if_pos rfl, r8_1, bind_s], Fr.rf σ⟩
      | false =>
        obtain ⟨τ, t1, t2, t3⟩ := feel_eq h.ic (σ.1 1 1)
        have hf : Fl τ (flV (σ.1 82) (σ.1 82 6)) := by rw [← h.mp (i := 6) (j := 1) (by decide)]; exact t2
        have hd : HD τ (S9 (σ.1 82) p) (S9 (σ.1 82) q) (flV (σ.1 82) (σ.1 82 6)) (σ.1 82 7) p q := ⟨hf, by rw [swm_fr t3 hp]; exact sw_Eq9 h hpN, by rw [swm_fr t3 hq]; exact sw_Eq9 h hqN, by rw [t3 1 2 (by decide) (by decide)]; exact h.mp (i := 7) (j := 2) (by decide)⟩
        have e8 : τ.1 1 3 = σ.1 82 8 := by rw [t3 1 3 (by decide) (by decide)]; exact h.mp (i := 8) (j := 3) (by decide)
        obtain ⟨υ, u1, u2⟩ := worst8 hp hq (gr9 h.ok hp) (gr9 h.ok hq) hd e8 (i := 0) (by omega)
        obtain ⟨χ, x1, x2⟩ := hold8_L (v8 := σ.1 82 8) (a3 := a3) hp hq (gr9 h.ok hp) (gr9 h.ok hq) 5 FU 0 (worst (S9 (σ.1 82) p) (S9 (σ.1 82) q) (flV (σ.1 82) (σ.1 82 6)) (σ.1 82 7) (σ.1 82 8) 0) υ (by omega) (by unfold FU; omega) (hd.sc hp hq u2) (by rw [u2 1 3 (by decide) (by decide) (by decide) (by decide) (by decide)]; exact e8)
        rw [if_neg (by decide), t1, bind_s, deref6 (K12 p hp), deref6 (K12 q hq), show f_X8_worstPlaceIn τ 0 _ _ = _ from u1, bind_s, nI_clamp (by omega), nI_clamp (by omega)]
        exact ⟨χ, x1, (feel_fr t3).tr (u2.fr.tr x2.fr)⟩
  · show C9 (f_X9_hold σ a1 a2 a3) σ _
    unfold f_X9_hold
    rcases unl_c h a1 a2 with ⟨hn, -, e3⟩ | ⟨p, q, hp, hq, hpN, hqN, rfl, rfl, hu, hn, -, -, -, e3⟩
    · simp only [hn, Bool.false_eq_true, if_false]
      exact ⟨σ, by rw [e3, bind_s, if_neg (by decide), r9_1, bind_s], Fr.rf σ⟩
    · simp only [hn, if_true]
      rw [e3, bind_s, if_pos rfl, in_0_1, bind_s]
      cases h3 : isO a3 0 1 with
      | true => exact ⟨σ, by rw [if_neg (by decide), r9_1, bind_s], Fr.rf σ⟩
      | false =>
        obtain ⟨α, a1', a2', a3'⟩ := HS.st (σ := σ) p q
        have o2 : f_X9_of α (nI p) 2 = some (S9 (σ.1 82) p 2) := by rw [← a3']; exact of_eq hp (j := 2) (by omega)
        obtain ⟨τ, t1, t2⟩ := hold9_step h.ok h.cd.1.cw hp hq hu a2' a3 (-1) 0 9999 (i := 0) (by omega)
        obtain ⟨υ, u1, u2⟩ := hold9_L rfl h.ok h.cd.1.cw hp hq hu a3 5 9999 0 (worst (S9 (σ.1 82) p) (S9 (σ.1 82) q) (flV (σ.1 82) (σ.1 82 6)) (σ.1 82 7) (σ.1 82 8) 0) τ (by omega) (by omega) (by omega) t1
        rw [if_pos (by decide), a1', bind_s, o2, bind_s, nI_clamp (by omega), nI_clamp (by omega)]
        refine ⟨υ, ?_, u2⟩
        rw [show f_X9_hold_L53 (nI p) (nI q) a3 (S9 (σ.1 82) p 2) FU (-1) 0 0 α = _ from t2, if_pos (Or.inl (by decide))]
        exact u1
-- diary
def dyS (hit : Nat → Bool) : Nat → Nat × Nat → Nat × Nat
  | 0, x => x
  | d + 1, x => dyS hit d (if hit (5 - d) = true then (x.1 + 1, if x.1 = 0 then 11 * (5 - d) else x.2) else x)
def dyR (hit : Nat → Bool) : Nat → Nat × Nat → Nat × Nat
  | 0, x => x
  | e + 1, x => dyR hit e (if ((35 - e) / 6 == (35 - e) % 6 && hit ((35 - e) / 6)) = true then (x.1 + 1, if x.1 = 0 then 10 * ((35 - e) / 6) + (35 - e) % 6 else x.2) else x)
theorem dy_eq (hit : Nat → Bool) : dyR hit 36 (0, 0) = dyS hit 6 (0, 0) := rfl
