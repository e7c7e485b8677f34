/-! The invariant between the class's cells and the reference's, and what may change without touching it. -/
def scr (k j : Nat) : Bool := k == 6 || k == 9 || k == 33 || k == 36 || (decide (55 ≤ k) && decide (k ≤ 64)) || (decide (69 ≤ k) && decide (k ≤ 72)) || (k == 65 && decide (2 ≤ j)) || (k == 81 && ((decide (5 ≤ j) && decide (j ≤ 10)) || j == 13 || j == 15 || j == 16 || j == 19)) || k == 83 || k == 86 || k == 87 || k == 88 || k == 93
def Fr (σ τ : Sto) : Prop := ∀ k j, scr k j = false → τ.1 k j = σ.1 k j
theorem Fr.rf (σ : Sto) : Fr σ σ := fun _ _ _ => rfl
theorem Fr.tr {σ τ υ : Sto} (h1 : Fr σ τ) (h2 : Fr τ υ) : Fr σ υ := fun k j h => (h2 k j h).trans (h1 k j h)
theorem Fr.i {σ τ : Sto} {k j : Nat} {v : Int32} (h : Fr σ τ) (hs : scr k j = true) : Fr σ (sI τ k j v) := by
  intro a b hab
  have hne : ¬ (a = k ∧ b = j) := by
    rintro ⟨rfl, rfl⟩
    rw [hs] at hab
    cases hab
  show (if a = k ∧ b = j then v else τ.1 a b) = _
  rw [if_neg hne]
  exact h a b hab
theorem Fr.w {σ τ : Sto} {k : Nat} {f : Nat → Int32} (h : Fr σ τ) (hs : ∀ j, scr k j = true) : Fr σ (sW τ k f) := by
  intro a b hab
  have hne : ¬ a = k := by
    rintro rfl
    rw [hs] at hab
    cases hab
  show (if a = k then f b else τ.1 a b) = _
  rw [if_neg hne]
  exact h a b hab
theorem Fr.r {σ τ : Sto} {k j : Nat} {v : Option Nat} (h : Fr σ τ) : Fr σ (sR τ k j v) := h
theorem scr_82 (j : Nat) : scr 82 j = false := by simp [scr]
theorem Fr.d {σ τ : Sto} (h : Fr σ τ) : τ.1 82 = σ.1 82 := funext fun j => h 82 j (scr_82 j)
/-- a swimmer's nine numbers, of the class's cell k -/
def S8 (σ : Sto) (k j : Nat) : Int32 := if j < 5 then σ.1 k j else σ.1 (k + 1) (j - 5)
/-- a swimmer's nine numbers, of the reference's row -/
def S9 (V : Nat → Int32) (p j : Nat) : Int32 := V (16 + 9 * p + j)
def NN (V : Nat → Int32) : Nat := (V 12).toNatClampNeg
def oks (j : Nat) (v : Int32) : Bool := if j = 0 then !isO v 0 6 else if j = 2 then !isO v 0 1 else if j = 3 then !isO v 0 30 else if 5 ≤ j then !isO v 0 5 else true
def okv (i : Nat) (v : Int32) : Bool := if i = 11 then !isO v 0 9999 else if i = 12 then !isO v 0 8 else if i = 14 then !isO v 0 50 else if i = 15 then !isO v 0 20 else if 16 ≤ i ∧ i < 88 then oks ((i - 16) % 9) v else if 210 ≤ i ∧ i < 260 then !isO v 0 255 else true
def cv8 (v : Int32) : Int32 := if v < 10000 then v else if v < 20000 then -1 - (v - 10000) else -(v - 20000)
def tokN (v : Int32) : Bool := !isO v 0 10002
def tokO (v : Int32) : Bool := decide (v ∈ ([20124, 20038, 20060, 20061, 20062, 20043, 20045, 20042, 20047, 20037] : List Int32))
def wfh : List Int32 → Nat → Bool
  | [], h => h == 1
  | it :: r, h => if tokN it = true then wfh r (h + 1) else if it = 20033 then decide (1 ≤ h) && wfh r h else if tokO it = true then decide (2 ≤ h) && wfh r (h - 1) else false
def codeL (V : Nat → Int32) (u n : Nat) : List Int32 := (List.range n).map (fun i => V (110 + 50 * u + i))
/-- a law of the lake: class cell k (its row k + 1), the reference's row A, use u -/
def CD (k A u : Nat) (σ : Sto) : Prop := ∃ n, n ≤ 50 ∧ σ.1 k 3 = nI n ∧ σ.1 A (88 + u) = nI n ∧ (∀ i, i < n → σ.1 (k + 1) i = cv8 (σ.1 A (110 + 50 * u + i))) ∧ (n = 0 ∨ wfh (codeL (σ.1 A) u n) 0 = true)
def mpL : List (Nat × Nat) := [(6, 1), (7, 2), (8, 3), (9, 5), (10, 6), (11, 4), (12, 8), (13, 15), (14, 12), (15, 14)]
/-- a lake of the class, at cell k0, and a row A of the reference -/
def LR (k0 A : Nat) (σ : Sto) : Prop :=
  (∀ i, i < 6 → σ.1 (k0 + 1) i = σ.1 A i) ∧ (∀ q ∈ mpL, σ.1 k0 q.2 = σ.1 A q.1) ∧ (∀ p j, p < NN (σ.1 A) → j < 9 → S8 σ (k0 + 11 + 2 * p) j = S9 (σ.1 A) p j) ∧ (∀ i, okv i (σ.1 A i) = true) ∧
  (∀ i, i < 20 → σ.1 (k0 + 10) i = σ.1 A (90 + i)) ∧ (∀ i, i < 50 → σ.1 (k0 + 9) i = σ.1 A (210 + i)) ∧ CD (k0 + 3) A 0 σ ∧ CD (k0 + 6) A 1 σ
def TR (σ : Sto) : Prop := ∃ n, n ≤ 40 ∧ σ.1 65 1 = nI n ∧ σ.1 81 18 = nI n ∧ ∀ i, i < n → σ.1 66 i = σ.1 89 i
def SH (σ : Sto) : Prop := ∀ s, s < 4 → σ.1 (73 + 2 * s) 2 = σ.1 90 s ∧ σ.1 (73 + 2 * s) 1 = σ.1 91 s ∧ (∃ n, n ≤ 40 ∧ σ.1 91 s = nI n) ∧ ∀ i, i < 40 → σ.1 (74 + 2 * s) i = σ.1 92 (40 * s + i)
def ER (σ : Sto) : Prop := ∀ k, k < 6 → σ.1 68 k = σ.1 85 k
def US (σ : Sto) : Prop := σ.1 4 0 = 0 ∧ σ.1 7 0 = 1
def Iw (σ : Sto) : Prop := LR 1 82 σ ∧ σ.1 0 10 = σ.1 81 3 ∧ (σ.1 81 3 ≠ 0 → LR 28 84 σ) ∧ TR σ ∧ SH σ ∧ US σ
def Inv (σ : Sto) : Prop := Iw σ ∧ ER σ
theorem okv_12 {V : Nat → Int32} (h : ∀ i, okv i (V i) = true) : ∃ n, n ≤ 8 ∧ V 12 = nI n ∧ NN V = n := by
  have h12 := h 12
  unfold okv at h12
  rw [if_neg (by decide), if_pos rfl] at h12
  obtain ⟨n, hn, e⟩ := isO_nI (n := 8) (h := 8) rfl (by cases hq : isO (V 12) 0 8 <;> simp [hq] at h12 ⊢)
  exact ⟨n, hn, e, by unfold NN; rw [e, nI_clamp (by omega)]⟩
/-- the cells that a lake and its row consist of -/
def lkc (k0 A k : Nat) : Prop := (k0 ≤ k ∧ k ≤ k0 + 26 ∧ k ≠ k0 + 5 ∧ k ≠ k0 + 8) ∨ k = A
theorem CD.keep {k A u : Nat} {σ τ : Sto} (h : CD k A u σ) (h1 : ∀ j, τ.1 k j = σ.1 k j) (h2 : ∀ j, τ.1 (k + 1) j = σ.1 (k + 1) j) (h3 : τ.1 A = σ.1 A) : CD k A u τ := by
  obtain ⟨n, q1, q2, q3, q4, q5⟩ := h
  exact ⟨n, q1, by rw [h1]; exact q2, by rw [h3]; exact q3, fun i hi => by rw [h2, h3]; exact q4 i hi, by rw [h3]; exact q5⟩
theorem LR.keep {k0 A : Nat} {σ τ : Sto} (h : LR k0 A σ) (hk : ∀ k j, lkc k0 A k → τ.1 k j = σ.1 k j) : LR k0 A τ := by
  obtain ⟨h1, h2, h3, h4, h5, h6, h7, h8⟩ := h
  have hA : τ.1 A = σ.1 A := funext fun j => hk A j (Or.inr rfl)
  obtain ⟨N, hN, -, hNN⟩ := okv_12 h4
  refine ⟨fun i hi => ?_, fun q hq => ?_, fun p j hp hj => ?_, fun i => by rw [hA]; exact h4 i, fun i hi => ?_, fun i hi => ?_, h7.keep (fun j => hk _ j (Or.inl (by omega))) (fun j => hk _ j (Or.inl (by omega))) hA, h8.keep (fun j => hk _ j (Or.inl (by omega))) (fun j => hk _ j (Or.inl (by omega))) hA⟩
  · rw [hk (k0 + 1) i (Or.inl (by omega)), hA]; exact h1 i hi
  · rw [hk k0 q.2 (Or.inl (by omega)), hA]; exact h2 q hq
  · rw [hA] at hp ⊢
    rw [← h3 p j hp hj]
    unfold S8
    rw [hk _ j (Or.inl (by omega)), hk _ (j - 5) (Or.inl (by omega))]
  · rw [hk (k0 + 10) i (Or.inl (by omega)), hA]; exact h5 i hi
  · rw [hk (k0 + 9) i (Or.inl (by omega)), hA]; exact h6 i hi
theorem lk_scr {k0 A k : Nat} (h : (k0 = 1 ∧ A = 82) ∨ (k0 = 28 ∧ A = 84)) (hk : lkc k0 A k) (j : Nat) : scr k j = false := by
  have hc : (k ≤ 54 ∧ k ≠ 6 ∧ k ≠ 9 ∧ k ≠ 33 ∧ k ≠ 36) ∨ k = 82 ∨ k = 84 := by
    unfold lkc at hk
    omega
  simp only [scr, Bool.or_eq_false_iff, Bool.and_eq_false_iff, beq_eq_false_iff_ne, decide_eq_false_iff_not, ne_eq]
  omega
theorem TR.keep {σ τ : Sto} (h : TR σ) (h1 : τ.1 65 1 = σ.1 65 1) (h2 : τ.1 81 18 = σ.1 81 18) (h3 : ∀ j, τ.1 66 j = σ.1 66 j) (h4 : ∀ j, τ.1 89 j = σ.1 89 j) : TR τ := by
  obtain ⟨n, q1, q2, q3, q4⟩ := h
  exact ⟨n, q1, by rw [h1]; exact q2, by rw [h2]; exact q3, fun i hi => by rw [h3, h4]; exact q4 i hi⟩
theorem SH.keep {σ τ : Sto} (h : SH σ) (hk : ∀ k j, (73 ≤ k ∧ k ≤ 80) ∨ (90 ≤ k ∧ k ≤ 92) → τ.1 k j = σ.1 k j) : SH τ := by
  intro s hs
  obtain ⟨q1, q2, q3, q4⟩ := h s hs
  refine ⟨?_, ?_, ?_, fun i hi => ?_⟩
  · rw [hk _ _ (Or.inl (by omega)), hk 90 s (Or.inr (by omega))]; exact q1
  · rw [hk _ _ (Or.inl (by omega)), hk 91 s (Or.inr (by omega))]; exact q2
  · rw [hk 91 s (Or.inr (by omega))]; exact q3
  · rw [hk _ _ (Or.inl (by omega)), hk 92 _ (Or.inr (by omega))]; exact q4 i hi
/-- what else than the lake stays -/
theorem Iw.lake {σ τ : Sto} (h : Iw σ) (hL : LR 1 82 τ) (hk : ∀ k j, ¬ lkc 1 82 k → scr k j = false → k ≠ 68 → k ≠ 85 → τ.1 k j = σ.1 k j) (hu : τ.1 4 0 = σ.1 4 0 ∧ τ.1 7 0 = σ.1 7 0) : Iw τ := by
  obtain ⟨-, q2, q3, q4, q5, q6⟩ := h
  have e1 : τ.1 81 3 = σ.1 81 3 := hk 81 3 (by unfold lkc; omega) (by decide) (by decide) (by decide)
  refine ⟨hL, by rw [hk 0 10 (by unfold lkc; omega) (by decide) (by decide) (by decide), e1]; exact q2, fun hn => (q3 (e1 ▸ hn)).keep (fun k j hkj => hk k j ?_ (lk_scr (Or.inr ⟨rfl, rfl⟩) hkj j) ?_ ?_), q4.keep (hk 65 1 (by unfold lkc; omega) (by decide) (by decide) (by decide)) (hk 81 18 (by unfold lkc; omega) (by decide) (by decide) (by decide)) (fun j => hk 66 j (by unfold lkc; omega) (by simp [scr]) (by decide) (by decide)) (fun j => hk 89 j (by unfold lkc; omega) (by simp [scr]) (by decide) (by decide)), q5.keep (fun k j hkj => hk k j ?_ ?_ ?_ ?_), by unfold US; rw [hu.1, hu.2]; exact q6⟩
  · unfold lkc at hkj ⊢; omega
  · unfold lkc at hkj; omega
  · unfold lkc at hkj; omega
  · unfold lkc; omega
  · simp only [scr, Bool.or_eq_false_iff, Bool.and_eq_false_iff, beq_eq_false_iff_ne, decide_eq_false_iff_not, ne_eq]
    omega
  · omega
  · omega
theorem Iw.fr {σ τ : Sto} (h : Iw σ) (hf : ∀ k j, scr k j = false → k ≠ 68 → k ≠ 85 → τ.1 k j = σ.1 k j) : Iw τ :=
  h.lake (h.1.keep (fun k j hk => hf k j (lk_scr (Or.inl ⟨rfl, rfl⟩) hk j) (by unfold lkc at hk; omega) (by unfold lkc at hk; omega))) (fun k j _ h2 h3 h4 => hf k j h2 h3 h4) ⟨hf 4 0 (by decide) (by decide) (by decide), hf 7 0 (by decide) (by decide) (by decide)⟩
theorem ER.fr {σ τ : Sto} (h : ER σ) (hf : Fr σ τ) : ER τ := fun k hk => by rw [hf 68 k (by simp [scr]), hf 85 k (by simp [scr])]; exact h k hk
theorem Inv.fr {σ τ : Sto} (h : Inv σ) (hf : Fr σ τ) : Inv τ := ⟨h.1.fr (fun k j hs _ _ => hf k j hs), h.2.fr hf⟩
theorem rf_at {σ : Sto} {e k j : Nat} (h : k ≠ 68) : (rf σ e).1 k j = σ.1 k j := by
  show (if k = 68 ∧ j = e then _ else σ.1 k j) = _
  rw [if_neg (fun q => h q.1)]
theorem fi_at {σ : Sto} {e k j : Nat} (h : k ≠ 85) : (fi σ e).1 k j = σ.1 k j := by
  show (if k = 85 ∧ j = e then _ else σ.1 k j) = _
  rw [if_neg (fun q => h q.1)]
theorem Iw.rf {σ τ : Sto} {e : Nat} (h : Iw σ) (hf : Fr σ τ) : Iw (rf τ e) := h.fr (fun k j hs h1 _ => by rw [rf_at h1]; exact hf k j hs)
theorem inv_err {σ σ1 σ2 : Sto} {e : Nat} (h : Inv σ) (h1 : Fr σ σ1) (h2 : Fr (rf σ1 e) σ2) : Inv (fi σ2 e) := by
  refine ⟨h.1.fr (fun k j hs n1 n2 => by rw [fi_at n2, h2 k j hs, rf_at n1]; exact h1 k j hs), fun k hk => ?_⟩
  rw [fi_at (by decide), h2 68 k (by simp [scr])]
  have q := h.2 k hk
  show (if 68 = 68 ∧ k = e then σ1.1 68 e + 1 else σ1.1 68 k) = (if 85 = 85 ∧ k = e then σ2.1 85 e + 1 else σ2.1 85 k)
  by_cases hke : k = e
  · subst hke
    rw [if_pos ⟨rfl, rfl⟩, if_pos ⟨rfl, rfl⟩, h2 85 k (by simp [scr]), rf_at (by decide), h1 85 k (by simp [scr]), h1 68 k (by simp [scr]), q]
  · rw [if_neg (fun z => hke z.2), if_neg (fun z => hke z.2), h2 85 k (by simp [scr]), rf_at (by decide), h1 85 k (by simp [scr]), h1 68 k (by simp [scr]), q]
/-- how a call that changes nothing but scratch cells ends: with an answer, or an ERROR -/
def C8 (x : Option (Int32 × Sto)) (σ : Sto) (o : Int32 ⊕ Nat) : Prop := match o with
  | .inl v => ∃ τ, x = some (v, τ) ∧ Fr σ τ
  | .inr k => ∃ τ, x = some (-1000000000 - nI k, rf τ k) ∧ Fr σ τ
def C9 (x : Option (Int32 × Sto)) (σ : Sto) (o : Int32 ⊕ Nat) : Prop := match o with
  | .inl v => ∃ τ, x = some (v, τ) ∧ Fr σ τ
  | .inr k => ∃ τ, x = some (-1000000000 - nI k, fi τ k) ∧ Fr σ τ
def sameRow (σ τ : Sto) : Prop := ∀ k j, k = 82 ∨ k = 90 ∨ k = 91 ∨ k = 92 ∨ (k = 81 ∧ j = 18) ∨ k = 89 → τ.1 k j = σ.1 k j
theorem pr_ro {f g : Sto → Option (Int32 × Sto)} (S : Sto → Int32 ⊕ Nat) (hS : ∀ σ τ, sameRow σ τ → S τ = S σ) (h8 : ∀ σ, Iw σ → C8 (f σ) σ (S σ)) (h9 : ∀ σ, Iw σ → C9 (g σ) σ (S σ)) (b : Bool) : LPr f g b Inv Inv := by
  intro σ hI
  have q8 := h8 σ hI.1
  cases hs : S σ with
  | inl v =>
    rw [hs] at q8
    obtain ⟨τ, t1, t2⟩ := q8
    have q9 := h9 τ (hI.fr t2).1
    rw [hS σ τ (fun k j hk => t2 k j (by rcases hk with rfl | rfl | rfl | rfl | ⟨rfl, rfl⟩ | rfl <;> simp [scr])), hs] at q9
    obtain ⟨υ, u1, u2⟩ := q9
    exact ⟨_, _, t1, u1, fun _ => rfl, hI.fr (t2.tr u2)⟩
  | inr k =>
    rw [hs] at q8
    obtain ⟨τ, t1, t2⟩ := q8
    have q9 := h9 (rf τ k) (hI.1.rf t2)
    rw [hS σ (rf τ k) (fun a j hk => by rw [rf_at (by omega)]; exact t2 a j (by rcases hk with rfl | rfl | rfl | rfl | ⟨rfl, rfl⟩ | rfl <;> simp [scr])), hs] at q9
    obtain ⟨υ, u1, u2⟩ := q9
    exact ⟨_, _, t1, u1, fun _ => rfl, inv_err hI t2 u2⟩
/-! Swimmers' cells and rows; how a written place keeps the lake's relation. -/
theorem sw6 {k : Nat} (hk : K0 k = 6) : A0 k 5 = k + 1 ∧ Ln0 (k + 1) = 4 ∧ K0 (k + 1) = 20 := (show ∀ k, k < NC → K0 k = 6 → A0 k 5 = k + 1 ∧ Ln0 (k + 1) = 4 ∧ K0 (k + 1) = 20 by decide +kernel) k (K0_lt hk (by decide)) hk
theorem K12 : ∀ p, p < 8 → K0 (12 + 2 * p) = 6 := by decide
theorem R3_12 : ∀ p, p < 8 → R0 3 p = some (12 + 2 * p) := by decide
theorem mul9 : ∀ p, p < 8 → (16 + 9 * nI p : Int32) = nI (16 + 9 * p) := by decide +kernel
theorem isO_lt {p N : Nat} (hN : N ≤ 8) : isO (nI p) 0 (nI N - 1) = false → p < 2 ^ 31 → p < N := by
  intro h hp
  obtain ⟨-, h2⟩ := isO_f h
  cases N with
  | zero =>
    rw [Int32.le_iff_toInt_le, nI_toInt hp, show (nI 0 - 1 : Int32).toInt = -1 from rfl] at h2
    omega
  | succ n =>
    rw [nI_pred, nI_leI hp (by omega)] at h2
    omega
theorem isO_ge {p N : Nat} (hN : N ≤ 8) (hp : p < N) : isO (nI p) 0 (nI N - 1) = false := by
  cases N with
  | zero => omega
  | succ n =>
    simp only [isO, Bool.or_eq_false_iff, decide_eq_false_iff_not]
    exact ⟨nI_pos (by omega), by rw [nI_pred]; exact nI_nlt (by omega) (by omega)⟩
theorem isO_lit {p n : Nat} (hp : p ≤ n) (hn : n < 2 ^ 31) : isO (nI p) 0 (nI n) = false := by
  simp only [isO, Bool.or_eq_false_iff, decide_eq_false_iff_not]
  exact ⟨nI_pos (by omega), nI_nlt (by omega) (by omega)⟩
theorem Iw.N {σ : Sto} (h : Iw σ) : ∃ N, N ≤ 8 ∧ σ.1 82 12 = nI N ∧ σ.1 1 8 = nI N ∧ NN (σ.1 82) = N := by
  obtain ⟨N, h1, h2, h3⟩ := okv_12 h.1.2.2.2.1
  exact ⟨N, h1, h2, (h.1.2.1 (12, 8) (by decide)).trans h2, h3⟩
/-- a swimmer's number, or none -/
theorem sA8 {σ : Sto} (h : Iw σ) (a : Int32) : (isO a 0 (σ.1 82 12 - 1) = true ∧ f_X0_swimmerAt σ 1 a = some none) ∨ ∃ p, p < 8 ∧ p < NN (σ.1 82) ∧ a = nI p ∧ isO a 0 (σ.1 82 12 - 1) = false ∧ f_X0_swimmerAt σ 1 a = some (some (12 + 2 * p)) := by
  obtain ⟨N, hN, e9, e8, eN⟩ := h.N
  cases hq : isO a 0 (σ.1 82 12 - 1) with
  | true => exact Or.inl ⟨rfl, sAt_none (by rw [e8, ← e9]; exact hq)⟩
  | false =>
    obtain ⟨h1, h2⟩ := isO_f hq
    obtain ⟨p, hp, rfl⟩ := nI_of (Int32.not_lt.mpr h1)
    have hpN := isO_lt hN (by rw [← e9]; exact hq) hp
    refine Or.inr ⟨p, by omega, by omega, rfl, rfl, ?_⟩
    unfold f_X0_swimmerAt
    rw [out_eq, bind_s, e8, ← e9, hq, if_neg (by decide), if_pos (show nI p < 8 from nI_lt (b := 8) (by omega) (by omega)), show A0 1 7 = 3 by decide, rdR_nI (by show p < 8; omega), bind_s, R3_12 p (by omega)]
theorem sw8 {σ : Sto} (h : Iw σ) {p j : Nat} (hp : p < NN (σ.1 82)) (hj : j < 9) : S8 σ (12 + 2 * p) j = S9 (σ.1 82) p j := by
  have := h.1.2.2.1 p j hp hj
  rw [show 1 + 11 + 2 * p = 12 + 2 * p by omega] at this
  exact this
theorem sw8f {σ : Sto} (h : Iw σ) {p j : Nat} (hp : p < NN (σ.1 82)) (hj : j < 5) : σ.1 (12 + 2 * p) j = S9 (σ.1 82) p j := by
  rw [← sw8 h hp (by omega)]
  unfold S8
  rw [if_pos hj]
theorem sw8l {σ : Sto} (h : Iw σ) {p j : Nat} (hp : p < NN (σ.1 82)) (hj : j < 4) : σ.1 (13 + 2 * p) j = S9 (σ.1 82) p (5 + j) := by
  rw [← sw8 h hp (by omega)]
  unfold S8
  rw [if_neg (by omega), show 12 + 2 * p + 1 = 13 + 2 * p by omega, show 5 + j - 5 = j by omega]
theorem of_eq {σ : Sto} {p j : Nat} (hp : p < 8) (hj : j < 9) : f_X9_of σ (nI p) (nI j) = some (S9 (σ.1 82) p j) := by
  unfold f_X9_of S9
  rw [mul9 p hp, nI_add, rd_nI (by show 16 + 9 * p + j < 270; omega), bind_s]
theorem bec_eq {σ : Sto} {p j : Nat} (hp : p < 8) (hj : j < 9) (v : Int32) : f_X9_becomes σ (nI p) (nI j) v = some (sI σ 82 (16 + 9 * p + j) v) := by
  unfold f_X9_becomes
  rw [mul9 p hp, nI_add, wr_nI (by show 16 + 9 * p + j < 270; omega), bind_s]
theorem oks_of {V : Nat → Int32} (h : ∀ i, okv i (V i) = true) {p j : Nat} (hp : p < 8) (hj : j < 9) : oks j (S9 V p j) = true := by
  have q := h (16 + 9 * p + j)
  unfold okv at q
  rw [if_neg (by omega), if_neg (by omega), if_neg (by omega), if_neg (by omega), if_pos (by omega), show (16 + 9 * p + j - 16) % 9 = j by omega] at q
  exact q
theorem Iw.ok {σ : Sto} (h : Iw σ) : ∀ i, okv i (σ.1 82 i) = true := h.1.2.2.2.1
theorem not_t {b : Bool} (h : (!b) = true) : b = false := by cases b <;> simp_all
theorem sw_lane {V : Nat → Int32} (h : ∀ i, okv i (V i) = true) {p j : Nat} (hp : p < 8) (hj : j < 4) : ∃ l, l < 6 ∧ S9 V p (5 + j) = nI l := by
  have q := oks_of h hp (j := 5 + j) (by omega)
  unfold oks at q
  rw [if_neg (by omega), if_neg (by omega), if_neg (by omega), if_pos (by omega)] at q
  obtain ⟨l, h1, h2⟩ := isO_nI (n := 5) rfl (not_t q)
  exact ⟨l, by omega, h2⟩
theorem sw_side {V : Nat → Int32} (h : ∀ i, okv i (V i) = true) {p : Nat} (hp : p < 8) : S9 V p 2 = 0 ∨ S9 V p 2 = 1 := by
  have q := oks_of h hp (j := 2) (by omega)
  unfold oks at q
  rw [if_neg (by omega), if_pos rfl] at q
  obtain ⟨l, h1, h2⟩ := isO_nI (n := 1) rfl (not_t q)
  rw [h2]
  rcases (show l = 0 ∨ l = 1 by omega) with rfl | rfl
  · exact Or.inl rfl
  · exact Or.inr rfl
theorem sw_kind {V : Nat → Int32} (h : ∀ i, okv i (V i) = true) {p : Nat} (hp : p < 8) : ∃ a, a ≤ 6 ∧ S9 V p 0 = nI a := by
  have q := oks_of h hp (j := 0) (by omega)
  unfold oks at q
  rw [if_pos rfl] at q
  obtain ⟨l, h1, h2⟩ := isO_nI (n := 6) rfl (not_t q)
  exact ⟨l, h1, h2⟩
theorem sw_skill {V : Nat → Int32} (h : ∀ i, okv i (V i) = true) {p : Nat} (hp : p < 8) : ∃ a, a ≤ 30 ∧ S9 V p 3 = nI a := by
  have q := oks_of h hp (j := 3) (by omega)
  unfold oks at q
  rw [if_neg (by omega), if_neg (by omega), if_pos rfl] at q
  obtain ⟨l, h1, h2⟩ := isO_nI (n := 30) rfl (not_t q)
  exact ⟨l, h1, h2⟩
theorem CD.keep2 {k A u : Nat} (hu : u ≤ 1) {σ τ : Sto} (h : CD k A u σ) (h1 : ∀ j, τ.1 k j = σ.1 k j) (h2 : ∀ j, τ.1 (k + 1) j = σ.1 (k + 1) j) (h3 : ∀ i, (88 ≤ i ∧ i < 90) ∨ (110 ≤ i ∧ i < 210) → τ.1 A i = σ.1 A i) : CD k A u τ := by
  obtain ⟨n, q1, q2, q3, q4, q5⟩ := h
  refine ⟨n, q1, by rw [h1]; exact q2, by rw [h3 _ (by omega)]; exact q3, fun i hi => by rw [h2, h3 _ (by omega)]; exact q4 i hi, q5.imp id (fun q => ?_)⟩
  have e : codeL (τ.1 A) u n = codeL (σ.1 A) u n := List.map_congr_left (fun i hi => h3 _ (by have := List.mem_range.mp hi; omega))
  rw [e]
  exact q
theorem mp_lo : ∀ q ∈ mpL, 6 ≤ q.1 ∧ q.1 < 16 := by decide
/-- one place of the row and its mirror are written -/
theorem LR.upd {σ τ : Sto} (h : LR 1 82 σ) (i0 : Nat) (v : Int32) (hi : i0 < 88 ∨ (90 ≤ i0 ∧ i0 < 110) ∨ 210 ≤ i0) (h12 : i0 ≠ 12) (hok : okv i0 v = true) (hA : ∀ x, τ.1 82 x = if x = i0 then v else σ.1 82 x) (e1 : ∀ x, x < 6 → τ.1 2 x = if x = i0 then v else σ.1 2 x) (e2 : ∀ q ∈ mpL, τ.1 1 q.2 = if q.1 = i0 then v else σ.1 1 q.2)
    (e3 : ∀ p j, p < 8 → j < 9 → S8 τ (12 + 2 * p) j = if 16 + 9 * p + j = i0 then v else S8 σ (12 + 2 * p) j) (e5 : ∀ x, x < 20 → τ.1 11 x = if 90 + x = i0 then v else σ.1 11 x) (e6 : ∀ x, x < 50 → τ.1 10 x = if 210 + x = i0 then v else σ.1 10 x) (e7 : ∀ k j, k = 4 ∨ k = 5 ∨ k = 7 ∨ k = 8 → τ.1 k j = σ.1 k j) : LR 1 82 τ := by
  obtain ⟨h1, h2, h3, h4, h5, h6, h7, h8⟩ := h
  obtain ⟨N, hN, -, hNN⟩ := okv_12 h4
  have hNN' : NN (τ.1 82) = NN (σ.1 82) := by unfold NN; rw [hA, if_neg (Ne.symm h12)]
  refine ⟨fun i hi' => ?_, fun q hq => ?_, fun p j hp hj => ?_, fun i => ?_, fun i hi' => ?_, fun i hi' => ?_, h7.keep2 (by decide) (fun j => e7 4 j (by omega)) (fun j => e7 5 j (by omega)) (fun i hi' => by rw [hA, if_neg (by omega)]), h8.keep2 (by decide) (fun j => e7 7 j (by omega)) (fun j => e7 8 j (by omega)) (fun i hi' => by rw [hA, if_neg (by omega)])⟩
  · show τ.1 2 i = _
    rw [e1 i hi', hA, show σ.1 2 i = σ.1 82 i from h1 i hi']
  · rw [e2 q hq, hA, show σ.1 1 q.2 = σ.1 82 q.1 from h2 q hq]
  · rw [hNN'] at hp
    have := h3 p j hp hj
    rw [show 1 + 11 + 2 * p = 12 + 2 * p by omega] at this ⊢
    rw [e3 p j (by omega) hj, this]
    unfold S9
    rw [hA]
  · rw [hA]
    by_cases hx : i = i0
    · subst hx; rw [if_pos rfl]; exact hok
    · rw [if_neg hx]; exact h4 i
  · show τ.1 11 i = _
    rw [e5 i hi', hA, show σ.1 11 i = σ.1 82 (90 + i) from h5 i hi']
  · show τ.1 10 i = _
    rw [e6 i hi', hA, show σ.1 10 i = σ.1 82 (210 + i) from h6 i hi']
theorem sI_ne {σ : Sto} {k j a b : Nat} {v : Int32} (h : a ≠ k) : (sI σ k j v).1 a b = σ.1 a b := by
  show (if a = k ∧ b = j then v else σ.1 a b) = _
  rw [if_neg (fun q => h q.1)]
theorem sI_nj {σ : Sto} {k j a b : Nat} {v : Int32} (h : b ≠ j) : (sI σ k j v).1 a b = σ.1 a b := by
  show (if a = k ∧ b = j then v else σ.1 a b) = _
  rw [if_neg (fun q => h q.2)]
theorem sI_at {σ : Sto} {k j b : Nat} {v : Int32} : (sI σ k j v).1 k b = if b = j then v else σ.1 k b := by
  show (if k = k ∧ b = j then v else σ.1 k b) = _
  by_cases h : b = j
  · rw [if_pos ⟨rfl, h⟩, if_pos h]
  · rw [if_neg (fun q => h q.2), if_neg h]
theorem S8_ne {σ : Sto} {k j a b : Nat} {v : Int32} (h : a ≠ k) (h' : a + 1 ≠ k) : S8 (sI σ k j v) a b = S8 σ a b := by
  unfold S8
  rw [sI_ne h, sI_ne h']
/-- two cells are written, both of the lake and its row: what else stays -/
theorem Inv.two {σ : Sto} (h : Inv σ) {k j i : Nat} {v w : Int32} (hk : lkc 1 82 k) (hk4 : k ≠ 4 ∧ k ≠ 7 ∧ k ≠ 82) (hL : LR 1 82 (sI (sI σ k j v) 82 i w)) : Inv (sI (sI σ k j v) 82 i w) := by
  refine ⟨h.1.lake hL (fun a b ha hs _ _ => ?_) ⟨?_, ?_⟩, fun a ha => ?_⟩
  · rw [sI_ne (by rintro rfl; exact ha (Or.inr rfl)), sI_ne (by rintro rfl; exact ha hk)]
  · rw [sI_ne (by decide), sI_ne (Ne.symm hk4.1)]
  · rw [sI_ne (by decide), sI_ne (Ne.symm hk4.2.1)]
  · have n68 : (68 : Nat) ≠ k := by rintro rfl; unfold lkc at hk; omega
    have n85 : (85 : Nat) ≠ k := by rintro rfl; unfold lkc at hk; omega
    rw [sI_ne (by decide), sI_ne n68, sI_ne (by decide), sI_ne n85]
    exact h.2 a ha
theorem upd_cur {σ : Sto} (h : Inv σ) {i : Nat} (hi : i < 6) (v : Int32) : Inv (sI (sI σ 2 i v) 82 i v) := by
  refine h.two (Or.inl (by omega)) (by decide) (h.1.1.upd i v (by omega) (by omega) ?_ (fun x => by rw [sI_at, sI_ne (by decide)]) (fun x hx => by rw [sI_ne (by decide), sI_at]) (fun q hq => by rw [sI_ne (by decide), sI_ne (by decide), if_neg (by have := mp_lo q hq; omega)]) (fun p j hp hj => by rw [S8_ne (by omega) (by omega), S8_ne (by omega) (by omega), if_neg (by omega)]) (fun x hx => by rw [sI_ne (by decide), sI_ne (by decide), if_neg (by omega)]) (fun x hx => by rw [sI_ne (by decide), sI_ne (by decide), if_neg (by omega)]) (fun k j hk => by rw [sI_ne (by omega), sI_ne (by omega)]))
  unfold okv
  rw [if_neg (by omega), if_neg (by omega), if_neg (by omega), if_neg (by omega), if_neg (by omega), if_neg (by omega)]
theorem upd_mp {σ : Sto} (h : Inv σ) {i j : Nat} (hm : (i, j) ∈ mpL) (h12 : i ≠ 12) {v : Int32} (hok : okv i v = true) : Inv (sI (sI σ 1 j v) 82 i v) := by
  have hl := mp_lo _ hm
  have inj : ∀ q ∈ mpL, (q.1 = i ↔ q.2 = j) := by
    intro q hq
    exact (show ∀ q ∈ mpL, ∀ r ∈ mpL, (q.1 = r.1 ↔ q.2 = r.2) by decide) q hq _ hm
  exact h.two (Or.inl (by omega)) (by decide) (h.1.1.upd i v (by omega) h12 hok (fun x => by rw [sI_at, sI_ne (by decide)]) (fun x hx => by rw [sI_ne (by decide), sI_ne (by decide), if_neg (by omega)]) (fun q hq => by
      rw [sI_ne (by decide), sI_at]
      by_cases hq2 : q.2 = j
      · rw [if_pos hq2, if_pos ((inj q hq).mpr hq2)]
      · rw [if_neg hq2, if_neg (fun z => hq2 ((inj q hq).mp z))]) (fun p j hp hj => by rw [S8_ne (by omega) (by omega), S8_ne (by omega) (by omega), if_neg (by omega)]) (fun x hx => by rw [sI_ne (by decide), sI_ne (by decide), if_neg (by omega)]) (fun x hx => by rw [sI_ne (by decide), sI_ne (by decide), if_neg (by omega)]) (fun k j hk => by rw [sI_ne (by omega), sI_ne (by omega)]))
theorem okv_sw {p j : Nat} (hp : p < 8) (hj : j < 9) {v : Int32} (h : oks j v = true) : okv (16 + 9 * p + j) v = true := by
  unfold okv
  rw [if_neg (by omega), if_neg (by omega), if_neg (by omega), if_neg (by omega), if_pos (by omega), show (16 + 9 * p + j - 16) % 9 = j by omega]
  exact h
theorem upd_swf {σ : Sto} (h : Inv σ) {p j : Nat} (hp : p < 8) (hj : j < 5) {v : Int32} (hok : oks j v = true) : Inv (sI (sI σ (12 + 2 * p) j v) 82 (16 + 9 * p + j) v) := by
  refine h.two (Or.inl (by omega)) (by omega) (h.1.1.upd (16 + 9 * p + j) v (by omega) (by omega) (okv_sw hp (by omega) hok) (fun x => by rw [sI_at, sI_ne (by omega)]) (fun x hx => by rw [sI_ne (by decide), sI_ne (by omega), if_neg (by omega)]) (fun q hq => by rw [sI_ne (by decide), sI_ne (by omega), if_neg (by have := mp_lo q hq; omega)]) (fun q i hq hi => ?_) (fun x hx => by rw [sI_ne (by decide), sI_ne (by omega), if_neg (by omega)]) (fun x hx => by rw [sI_ne (by decide), sI_ne (by omega), if_neg (by omega)]) (fun k j hk => by rw [sI_ne (by omega), sI_ne (by omega)]))
  rw [S8_ne (by omega) (by omega)]
  unfold S8
  by_cases hq2 : q = p
  · subst hq2
    rw [sI_at, sI_ne (by omega)]
    by_cases hi5 : i < 5
    · rw [if_pos hi5, if_pos hi5]
      by_cases hij : i = j
      · rw [if_pos hij, if_pos (by omega)]
      · rw [if_neg hij, if_neg (by omega)]
    · rw [if_neg hi5, if_neg hi5, if_neg (by omega)]
  · rw [sI_ne (by omega), sI_ne (by omega), if_neg (show ¬ 16 + 9 * q + i = 16 + 9 * p + j by omega)]
theorem upd_swl {σ : Sto} (h : Inv σ) {p j : Nat} (hp : p < 8) (hj : j < 4) {v : Int32} (hok : oks (5 + j) v = true) : Inv (sI (sI σ (13 + 2 * p) j v) 82 (16 + 9 * p + (5 + j)) v) := by
  refine h.two (Or.inl (by omega)) (by omega) (h.1.1.upd (16 + 9 * p + (5 + j)) v (by omega) (by omega) (okv_sw hp (by omega) hok) (fun x => by rw [sI_at, sI_ne (by omega)]) (fun x hx => by rw [sI_ne (by decide), sI_ne (by omega), if_neg (by omega)]) (fun q hq => by rw [sI_ne (by decide), sI_ne (by omega), if_neg (by have := mp_lo q hq; omega)]) (fun q i hq hi => ?_) (fun x hx => by rw [sI_ne (by decide), sI_ne (by omega), if_neg (by omega)]) (fun x hx => by rw [sI_ne (by decide), sI_ne (by omega), if_neg (by omega)]) (fun k j hk => by rw [sI_ne (by omega), sI_ne (by omega)]))
  rw [S8_ne (by omega) (by omega)]
  unfold S8
  by_cases hq2 : q = p
  · subst hq2
    rw [sI_ne (show 12 + 2 * q ≠ 13 + 2 * q by omega), show 12 + 2 * q + 1 = 13 + 2 * q by omega, sI_at]
    by_cases hi5 : i < 5
    · rw [if_pos hi5, if_pos hi5, if_neg (by omega)]
    · rw [if_neg hi5, if_neg hi5]
      by_cases hij : i - 5 = j
      · rw [if_pos hij, if_pos (by omega)]
      · rw [if_neg hij, if_neg (by omega)]
  · rw [sI_ne (by omega), sI_ne (by omega), if_neg (show ¬ 16 + 9 * q + i = 16 + 9 * p + (5 + j) by omega)]
theorem upd_wait {σ : Sto} (h : Inv σ) {i : Nat} (hi : i < 20) (v : Int32) : Inv (sI (sI σ 11 i v) 82 (90 + i) v) := by
  refine h.two (Or.inl (by omega)) (by decide) (h.1.1.upd (90 + i) v (by omega) (by omega) ?_ (fun x => by rw [sI_at, sI_ne (by decide)]) (fun x hx => by rw [sI_ne (by decide), sI_ne (by decide), if_neg (by omega)]) (fun q hq => by rw [sI_ne (by decide), sI_ne (by decide), if_neg (by have := mp_lo q hq; omega)]) (fun p j hp hj => by rw [S8_ne (by omega) (by omega), S8_ne (by omega) (by omega), if_neg (by omega)]) (fun x hx => by
      rw [sI_ne (by decide), sI_at]
      by_cases hx : x = i
      · rw [if_pos hx, if_pos (by omega)]
      · rw [if_neg hx, if_neg (by omega)]) (fun x hx => by rw [sI_ne (by decide), sI_ne (by decide), if_neg (by omega)]) (fun k j hk => by rw [sI_ne (by omega), sI_ne (by omega)]))
  unfold okv
  rw [if_neg (by omega), if_neg (by omega), if_neg (by omega), if_neg (by omega), if_neg (by omega), if_neg (by omega)]
theorem upd_tape {σ : Sto} (h : Inv σ) {i : Nat} (hi : i < 50) {v : Int32} (hv : isO v 0 255 = false) : Inv (sI (sI σ 10 i v) 82 (210 + i) v) := by
  refine h.two (Or.inl (by omega)) (by decide) (h.1.1.upd (210 + i) v (by omega) (by omega) ?_ (fun x => by rw [sI_at, sI_ne (by decide)]) (fun x hx => by rw [sI_ne (by decide), sI_ne (by decide), if_neg (by omega)]) (fun q hq => by rw [sI_ne (by decide), sI_ne (by decide), if_neg (by have := mp_lo q hq; omega)]) (fun p j hp hj => by rw [S8_ne (by omega) (by omega), S8_ne (by omega) (by omega), if_neg (by omega)]) (fun x hx => by rw [sI_ne (by decide), sI_ne (by decide), if_neg (by omega)]) (fun x hx => by
      rw [sI_ne (by decide), sI_at]
      by_cases hx : x = i
      · rw [if_pos hx, if_pos (by omega)]
      · rw [if_neg hx, if_neg (by omega)]) (fun k j hk => by rw [sI_ne (by omega), sI_ne (by omega)]))
  unfold okv
  rw [if_neg (by omega), if_neg (by omega), if_neg (by omega), if_neg (by omega), if_neg (by omega), if_pos (by omega), hv]
  rfl
theorem sI_comm {σ : Sto} {k j k' j' : Nat} {v w : Int32} (h : k ≠ k') : sI (sI σ k j v) k' j' w = sI (sI σ k' j' w) k j v := by
  refine Prod.ext ?_ rfl
  funext a b
  show (if a = k' ∧ b = j' then w else if a = k ∧ b = j then v else σ.1 a b) = (if a = k ∧ b = j then v else if a = k' ∧ b = j' then w else σ.1 a b)
  by_cases h1 : a = k ∧ b = j
  · rw [if_pos h1, if_pos h1, if_neg (fun q => h (h1.1.symm.trans q.1))]
  · rw [if_neg h1, if_neg h1]
theorem nI_ne {a : Nat} (v : Int32) (c : Nat) (hv : v = nI c) (ha : a < 2 ^ 31) (hc : c < 2 ^ 31) (h : a ≠ c) : ¬ nI a = v := fun z => h ((nI_eq ha hc).mp (z.trans hv))
/-! The calls that look at one cell or two. -/
theorem Iw.mp {σ : Sto} (h : Iw σ) {i j : Nat} (hm : (i, j) ∈ mpL) : σ.1 1 j = σ.1 82 i := h.1.2.1 (i, j) hm
theorem notO {v l h : Int32} (q : isO v l h = false) : (!isO v l h) = true := by rw [q]; rfl
theorem s_current (a1 : Int32) (a2 : Int32) (b : Bool) : LPr (fun σ => f_X8_current σ a1 a2) (fun σ => f_X9_current σ a1 a2) b Inv Inv := by
  intro σ hI
  cases h1 : isO a1 0 5 with
  | true =>
    refine ⟨(-1000000001, rf σ 1), (-1000000001, fi (rf σ 1) 1), ?_, ?_, fun _ => rfl, inv_err hI (Fr.rf _) (Fr.rf _)⟩
    · show f_X8_current σ a1 a2 = _
      unfold f_X8_current
      rw [out_eq, bind_s, h1, if_pos (by decide), refuse_1, bind_s]
    · show f_X9_current (rf σ 1) a1 a2 = _
      unfold f_X9_current
      rw [lane_eq, bind_s, h1, if_neg (by decide), finds_1, bind_s]
  | false =>
    cases h2 : isO a2 (-9) 9 with
    | true =>
      refine ⟨(-1000000001, rf σ 1), (-1000000001, fi (rf σ 1) 1), ?_, ?_, fun _ => rfl, inv_err hI (Fr.rf _) (Fr.rf _)⟩
      · show f_X8_current σ a1 a2 = _
        unfold f_X8_current
        rw [out_eq, bind_s, h1, if_neg (by decide), out_eq, bind_s, h2, if_pos (by decide), refuse_1, bind_s]
      · show f_X9_current (rf σ 1) a1 a2 = _
        unfold f_X9_current
        rw [lane_eq, bind_s, h1, if_pos (by decide), in_m9_9, bind_s, h2, if_neg (by decide), finds_1, bind_s]
    | false =>
      obtain ⟨j, hj, rfl⟩ := isO_nI (n := 5) rfl h1
      refine ⟨(σ.1 2 j, sI σ 2 j a2), (σ.1 82 j, sI (sI σ 2 j a2) 82 j a2), ?_, ?_, fun _ => hI.1.1.1 j (by omega), upd_cur hI (by omega) a2⟩
      · show f_X8_current σ (nI j) a2 = _
        unfold f_X8_current
        rw [out_eq, bind_s, h1, if_neg (by decide), out_eq, bind_s, h2, if_neg (by decide), rd_nI (by show j < 6; omega), bind_s, wr_nI (by show j < 6; omega), bind_s]
      · show f_X9_current (sI σ 2 j a2) (nI j) a2 = _
        unfold f_X9_current
        rw [lane_eq, bind_s, h1, if_pos (by decide), in_m9_9, bind_s, h2, if_pos (by decide), Int32.zero_add, rd_nI (by show j < 270; omega), bind_s, wr_nI (by show j < 270; omega), bind_s, sI_ne (by decide)]
theorem s_set (a1 : Int32) (a2 : Int32) (b : Bool) : LPr (fun σ => f_X8_set σ a1 a2) (fun σ => f_X9_set σ a1 a2) b Inv Inv := by
  intro σ hI
  by_cases h0 : a1 = 0
  · subst h0
    cases h2 : isO a2 (-3) 3 with
    | false =>
      refine ⟨(σ.1 1 1, sI σ 1 1 a2), (σ.1 82 6, sI (sI σ 1 1 a2) 82 6 a2), ?_, ?_, fun _ => hI.1.mp (i := 6) (by decide), upd_mp hI (by decide) (by decide) rfl⟩
      · show f_X8_set σ 0 a2 = _
        unfold f_X8_set
        rw [if_pos (by decide), out_eq, bind_s, h2, if_neg (by decide), lp_eq]
      · show f_X9_set (sI σ 1 1 a2) 0 a2 = _
        unfold f_X9_set f_X9_set_L57
        rw [if_pos (by decide), in_m3_3, bind_s, h2, if_pos (by decide), show (6 + 0 : Int32) = 6 from rfl, rdA_82_6, bind_s, wrA_82_6, bind_s, sI_ne (by decide)]
    | true =>
      refine ⟨(-1000000001, rf σ 1), (-1000000001, fi (rf σ 1) 1), ?_, ?_, fun _ => rfl, inv_err hI (Fr.rf _) (Fr.rf _)⟩
      · show f_X8_set σ 0 a2 = _
        unfold f_X8_set f_X8_set_L33 f_X8_set_L68 f_X8_set_L103
        rw [if_pos (by decide), out_eq, bind_s, h2, if_pos (by decide), if_neg (by decide), if_neg (by decide), refuse_1, bind_s]
      · show f_X9_set (rf σ 1) 0 a2 = _
        unfold f_X9_set f_X9_set_L57
        rw [if_pos (by decide), in_m3_3, bind_s, h2, if_neg (by decide), finds_1, bind_s]
  · by_cases h1 : a1 = 1
    · subst h1
      cases h2 : isO a2 0 200 with
      | false =>
        refine ⟨(σ.1 1 2, sI σ 1 2 a2), (σ.1 82 7, sI (sI σ 1 2 a2) 82 7 a2), ?_, ?_, fun _ => hI.1.mp (i := 7) (by decide), upd_mp hI (by decide) (by decide) rfl⟩
        · show f_X8_set σ 1 a2 = _
          unfold f_X8_set f_X8_set_L33
          rw [if_neg h0, if_pos (by decide), out_eq, bind_s, h2, if_neg (by decide), lp_eq]
        · show f_X9_set (sI σ 1 2 a2) 1 a2 = _
          unfold f_X9_set f_X9_set_L57
          rw [if_neg h0, if_pos (by decide), in_0_200, bind_s, h2, if_pos (by decide), show (6 + 1 : Int32) = 7 from rfl, rdA_82_7, bind_s, show (7 : Int32) = nI 7 from rfl, wr_nI (by decide), bind_s, sI_ne (by decide)]
      | true =>
        refine ⟨(-1000000001, rf σ 1), (-1000000001, fi (rf σ 1) 1), ?_, ?_, fun _ => rfl, inv_err hI (Fr.rf _) (Fr.rf _)⟩
        · show f_X8_set σ 1 a2 = _
          unfold f_X8_set f_X8_set_L33 f_X8_set_L68 f_X8_set_L103
          rw [if_neg h0, if_pos (by decide), out_eq, bind_s, h2, if_pos (by decide), if_neg (by decide), refuse_1, bind_s]
        · show f_X9_set (rf σ 1) 1 a2 = _
          unfold f_X9_set f_X9_set_L57
          rw [if_neg h0, if_pos (by decide), in_0_200, bind_s, h2, if_neg (by decide), finds_1, bind_s]
    · by_cases h3 : a1 = 2
      · subst h3
        cases h2 : isO a2 0 1200 with
        | false =>
          refine ⟨(σ.1 1 3, sI σ 1 3 a2), (σ.1 82 8, sI (sI σ 1 3 a2) 82 8 a2), ?_, ?_, fun _ => hI.1.mp (i := 8) (by decide), upd_mp hI (by decide) (by decide) rfl⟩
          · show f_X8_set σ 2 a2 = _
            unfold f_X8_set f_X8_set_L33 f_X8_set_L68
            rw [if_neg h0, if_neg h1, if_pos (by decide), out_eq, bind_s, h2, if_neg (by decide), lp_eq]
          · show f_X9_set (sI σ 1 3 a2) 2 a2 = _
            unfold f_X9_set f_X9_set_L57
            rw [if_neg h0, if_neg h1, if_pos (by decide), in_0_1200, bind_s, h2, if_pos (by decide), if_pos (by decide), show (6 + 2 : Int32) = 8 from rfl, rdA_82_8, bind_s, wrA_82_8, bind_s, sI_ne (by decide)]
        | true =>
          refine ⟨(-1000000001, rf σ 1), (-1000000001, fi (rf σ 1) 1), ?_, ?_, fun _ => rfl, inv_err hI (Fr.rf _) (Fr.rf _)⟩
          · show f_X8_set σ 2 a2 = _
            unfold f_X8_set f_X8_set_L33 f_X8_set_L68 f_X8_set_L103
            rw [if_neg h0, if_neg h1, if_pos (by decide), out_eq, bind_s, h2, if_pos (by decide), refuse_1, bind_s]
          · show f_X9_set (rf σ 1) 2 a2 = _
            unfold f_X9_set f_X9_set_L56 f_X9_set_L57
            rw [if_neg h0, if_neg h1, if_pos (by decide), in_0_1200, bind_s, h2, if_neg (by decide), if_neg (by decide), finds_1, bind_s]
      · refine ⟨(-1000000001, rf σ 1), (-1000000001, fi (rf σ 1) 1), ?_, ?_, fun _ => rfl, inv_err hI (Fr.rf _) (Fr.rf _)⟩
        · show f_X8_set σ a1 a2 = _
          unfold f_X8_set f_X8_set_L33 f_X8_set_L68 f_X8_set_L103
          rw [if_neg h0, if_neg h1, if_neg h3, refuse_1, bind_s]
        · show f_X9_set (rf σ 1) a1 a2 = _
          unfold f_X9_set f_X9_set_L56 f_X9_set_L57
          rw [if_neg h0, if_neg h1, if_neg h3, if_neg (by decide), finds_1, bind_s]
theorem s_seed (a1 : Int32) (b : Bool) : LPr (fun σ => f_X8_seed σ a1) (fun σ => f_X9_seed σ a1) b Inv Inv := by
  intro σ hI
  refine ⟨(σ.1 1 15, sI σ 1 15 a1), (σ.1 82 13, sI (sI σ 1 15 a1) 82 13 a1), ?_, ?_, fun _ => hI.1.mp (i := 13) (by decide), upd_mp hI (by decide) (by decide) rfl⟩
  · show f_X8_seed σ a1 = _
    unfold f_X8_seed
    rw [lp_eq]
  · show f_X9_seed (sI σ 1 15 a1) a1 = _
    unfold f_X9_seed
    rw [rdA_82_13, bind_s, wrA_82_13, bind_s, sI_ne (by decide)]
theorem s_tell (a1 : Int32) (b : Bool) : LPr (fun σ => f_X8_tell σ a1) (fun σ => f_X9_tell σ a1) b Inv Inv := by
  intro σ hI
  obtain ⟨w, hw, e9⟩ := isO_nI (n := 20) rfl (not_t (show (!isO (σ.1 82 15) 0 20) = true from hI.1.ok 15))
  have e8 : σ.1 1 14 = nI w := (hI.1.mp (i := 15) (by decide)).trans e9
  by_cases h20 : w = 20
  · subst h20
    refine ⟨(-1000000004, rf σ 4), (-1000000004, fi (rf σ 4) 4), ?_, ?_, fun _ => rfl, inv_err hI (Fr.rf _) (Fr.rf _)⟩
    · show f_X8_tell σ a1 = _
      unfold f_X8_tell
      rw [out_eq, bind_s, e8, if_pos (by decide), refuse_4, bind_s]
    · show f_X9_tell (rf σ 4) a1 = _
      unfold f_X9_tell
      rw [rdA_82_15, bind_s, rf_at (by decide), e9, if_pos (by decide), finds_4, bind_s]
  · have i1 := upd_wait hI (i := w) (by omega) a1
    have i2 := upd_mp i1 (i := 15) (j := 14) (by decide) (by decide) (v := nI (w + 1)) (notO (isO_lit (n := 20) (by omega) (by omega)))
    refine ⟨(nI (w + 1), sI (sI σ 11 w a1) 1 14 (nI (w + 1))), (nI (w + 1), sI (sI (sI (sI σ 11 w a1) 1 14 (nI (w + 1))) 82 (90 + w) a1) 82 15 (nI (w + 1))), ?_, ?_, fun _ => rfl, ?_⟩
    · show f_X8_tell σ a1 = _
      unfold f_X8_tell
      rw [out_eq, bind_s, e8, show isO (nI w) 0 19 = false from isO_lit (n := 19) (by omega) (by omega), if_neg (by decide), wr_nI (by show w < 20; omega), bind_s, lp_eq, nI_1, sI_at, if_pos rfl]
    · show f_X9_tell (sI (sI σ 11 w a1) 1 14 (nI (w + 1))) a1 = _
      unfold f_X9_tell
      have n20 : ¬ nI w = 20 := fun q => h20 ((nI_eq (a := w) (b := 20) (by omega) (by omega)).mp q)
      rw [rdA_82_15, bind_s, sI_ne (by decide), sI_ne (by decide), e9, if_neg n20, bind_s, show (90 : Int32) = nI 90 from rfl, nI_add, wr_nI (by show 90 + w < 270; omega), bind_s, rdA_82_15, bind_s, sI_at, if_neg (by omega), sI_ne (by decide), sI_ne (by decide), e9, nI_1, wrA_82_15, bind_s, rdA_82_15, bind_s, sI_at, if_pos rfl]
    · rw [sI_comm (σ := sI σ 11 w a1) (show (82 : Nat) ≠ 1 by decide)] at i2
      exact i2
theorem s_told (a1 : Int32) (b : Bool) : LPr (fun σ => f_X8_told σ a1) (fun σ => f_X9_told σ a1) b Inv Inv := by
  intro σ hI
  cases h : isO a1 1 5 with
  | true =>
    refine ⟨(-1000000001, rf σ 1), (-1000000001, fi (rf σ 1) 1), ?_, ?_, fun _ => rfl, inv_err hI (Fr.rf _) (Fr.rf _)⟩
    · show f_X8_told σ a1 = _
      unfold f_X8_told
      rw [out_eq, bind_s, h, if_pos (by decide), refuse_1, bind_s]
    · show f_X9_told (rf σ 1) a1 = _
      unfold f_X9_told
      rw [in_1_5, bind_s, h, if_neg (by decide), finds_1, bind_s]
  | false =>
    obtain ⟨q1, q2⟩ := isO_f h
    obtain ⟨j, hj, rfl⟩ := nI_of2 (M := 5) (n := 5) rfl (Int32.not_lt.mpr (Int32.le_trans (by decide) q1)) q2
    refine ⟨(σ.1 68 j, σ), (σ.1 85 j, σ), ?_, ?_, fun _ => hI.2 j (by omega), hI⟩
    · show f_X8_told σ (nI j) = _
      unfold f_X8_told
      rw [out_eq, bind_s, h, if_neg (by decide), rd_nI (by show j < 6; omega), bind_s]
    · show f_X9_told σ (nI j) = _
      unfold f_X9_told
      rw [in_1_5, bind_s, h, if_pos (by decide), rd_nI (by show j < 6; omega), bind_s]
theorem s_count (a1 : Int32) (b : Bool) : LPr (fun σ => f_X8_count σ a1) (fun σ => f_X9_count σ a1) b Inv Inv := by
  intro σ hI
  by_cases h0 : a1 = 0
  · refine ⟨(σ.1 1 4, σ), (σ.1 82 11, σ), ?_, ?_, fun _ => hI.1.mp (i := 11) (by decide), hI⟩
    · show f_X8_count σ a1 = _
      unfold f_X8_count
      rw [if_pos h0]
    · show f_X9_count σ a1 = _
      unfold f_X9_count
      rw [if_pos h0, rdA_82_11, bind_s]
  by_cases h1 : a1 = 1
  · refine ⟨(σ.1 1 8, σ), (σ.1 82 12, σ), ?_, ?_, fun _ => hI.1.mp (i := 12) (by decide), hI⟩
    · show f_X8_count σ a1 = _
      unfold f_X8_count
      rw [if_neg h0, if_pos h1]
    · show f_X9_count σ a1 = _
      unfold f_X9_count
      rw [if_neg h0, if_pos h1, rdA_82_12, bind_s]
  by_cases h2 : a1 = 2
  · refine ⟨(σ.1 1 3, σ), (σ.1 82 8, σ), ?_, ?_, fun _ => hI.1.mp (i := 8) (by decide), hI⟩
    · show f_X8_count σ a1 = _
      unfold f_X8_count
      rw [if_neg h0, if_neg h1, if_pos h2]
    · show f_X9_count σ a1 = _
      unfold f_X9_count
      rw [if_neg h0, if_neg h1, if_pos h2, rdA_82_8, bind_s]
  by_cases h3 : a1 = 3
  · refine ⟨(σ.1 1 5, σ), (σ.1 82 9, σ), ?_, ?_, fun _ => hI.1.mp (i := 9) (by decide), hI⟩
    · show f_X8_count σ a1 = _
      unfold f_X8_count
      rw [if_neg h0, if_neg h1, if_neg h2, if_pos h3]
    · show f_X9_count σ a1 = _
      unfold f_X9_count
      rw [if_neg h0, if_neg h1, if_neg h2, if_pos h3, rdA_82_9, bind_s]
  by_cases h4 : a1 = 4
  · refine ⟨(σ.1 1 6, σ), (σ.1 82 10, σ), ?_, ?_, fun _ => hI.1.mp (i := 10) (by decide), hI⟩
    · show f_X8_count σ a1 = _
      unfold f_X8_count
      rw [if_neg h0, if_neg h1, if_neg h2, if_neg h3, if_pos h4]
    · show f_X9_count σ a1 = _
      unfold f_X9_count
      rw [if_neg h0, if_neg h1, if_neg h2, if_neg h3, if_pos h4, rdA_82_10, bind_s]
  by_cases h5 : a1 = 5
  · refine ⟨(σ.1 1 1, σ), (σ.1 82 6, σ), ?_, ?_, fun _ => hI.1.mp (i := 6) (by decide), hI⟩
    · show f_X8_count σ a1 = _
      unfold f_X8_count
      rw [if_neg h0, if_neg h1, if_neg h2, if_neg h3, if_neg h4, if_pos h5]
    · show f_X9_count σ a1 = _
      unfold f_X9_count
      rw [if_neg h0, if_neg h1, if_neg h2, if_neg h3, if_neg h4, if_pos h5, rdA_82_6, bind_s]
  by_cases h6 : a1 = 6
  · refine ⟨(σ.1 1 2, σ), (σ.1 82 7, σ), ?_, ?_, fun _ => hI.1.mp (i := 7) (by decide), hI⟩
    · show f_X8_count σ a1 = _
      unfold f_X8_count
      rw [if_neg h0, if_neg h1, if_neg h2, if_neg h3, if_neg h4, if_neg h5, if_pos h6]
    · show f_X9_count σ a1 = _
      unfold f_X9_count
      rw [if_neg h0, if_neg h1, if_neg h2, if_neg h3, if_neg h4, if_neg h5, if_pos h6, rdA_82_7, bind_s]
  by_cases h7 : a1 = 7
  · refine ⟨(σ.1 1 12, σ), (σ.1 82 14, σ), ?_, ?_, fun _ => hI.1.mp (i := 14) (by decide), hI⟩
    · show f_X8_count σ a1 = _
      unfold f_X8_count
      rw [if_neg h0, if_neg h1, if_neg h2, if_neg h3, if_neg h4, if_neg h5, if_neg h6, if_pos h7]
    · show f_X9_count σ a1 = _
      unfold f_X9_count
      rw [if_neg h0, if_neg h1, if_neg h2, if_neg h3, if_neg h4, if_neg h5, if_neg h6, if_pos h7, rdA_82_14, bind_s]
  by_cases h8 : a1 = 8
  · refine ⟨(σ.1 1 14, σ), (σ.1 82 15, σ), ?_, ?_, fun _ => hI.1.mp (i := 15) (by decide), hI⟩
    · show f_X8_count σ a1 = _
      unfold f_X8_count
      rw [if_neg h0, if_neg h1, if_neg h2, if_neg h3, if_neg h4, if_neg h5, if_neg h6, if_neg h7, if_pos h8]
    · show f_X9_count σ a1 = _
      unfold f_X9_count
      rw [if_neg h0, if_neg h1, if_neg h2, if_neg h3, if_neg h4, if_neg h5, if_neg h6, if_neg h7, if_pos h8, rdA_82_15, bind_s]
  by_cases h9 : a1 = 9
  · refine ⟨(σ.1 65 1, σ), (σ.1 81 18, σ), ?_, ?_, fun _ => ?_, hI⟩
    · show f_X8_count σ a1 = _
      unfold f_X8_count
      rw [if_neg h0, if_neg h1, if_neg h2, if_neg h3, if_neg h4, if_neg h5, if_neg h6, if_neg h7, if_neg h8, if_pos h9]
    · show f_X9_count σ a1 = _
      unfold f_X9_count
      rw [if_neg h0, if_neg h1, if_neg h2, if_neg h3, if_neg h4, if_neg h5, if_neg h6, if_neg h7, if_neg h8, if_pos h9]
    · obtain ⟨n, -, t1, t2, -⟩ := hI.1.2.2.2.1
      exact t1.trans t2.symm
  by_cases h10 : a1 = 10
  · refine ⟨(σ.1 1 15, σ), (σ.1 82 13, σ), ?_, ?_, fun _ => hI.1.mp (i := 13) (by decide), hI⟩
    · show f_X8_count σ a1 = _
      unfold f_X8_count
      rw [if_neg h0, if_neg h1, if_neg h2, if_neg h3, if_neg h4, if_neg h5, if_neg h6, if_neg h7, if_neg h8, if_neg h9, if_pos h10]
    · show f_X9_count σ a1 = _
      unfold f_X9_count
      rw [if_neg h0, if_neg h1, if_neg h2, if_neg h3, if_neg h4, if_neg h5, if_neg h6, if_neg h7, if_neg h8, if_neg h9, if_pos h10, rdA_82_13, bind_s]
  refine ⟨(-1000000001, rf σ 1), (-1000000001, fi (rf σ 1) 1), ?_, ?_, fun _ => rfl, inv_err hI (Fr.rf _) (Fr.rf _)⟩
  · show f_X8_count σ a1 = _
    unfold f_X8_count
    rw [if_neg h0, if_neg h1, if_neg h2, if_neg h3, if_neg h4, if_neg h5, if_neg h6, if_neg h7, if_neg h8, if_neg h9, if_neg h10, refuse_1, bind_s]
  · show f_X9_count (rf σ 1) a1 = _
    unfold f_X9_count
    rw [if_neg h0, if_neg h1, if_neg h2, if_neg h3, if_neg h4, if_neg h5, if_neg h6, if_neg h7, if_neg h8, if_neg h9, if_neg h10, finds_1, bind_s]
theorem s_trace (a1 : Int32) (b : Bool) : LPr (fun σ => f_X8_trace σ a1) (fun σ => f_X9_trace σ a1) b Inv Inv := by
  intro σ hI
  obtain ⟨n, hn, t1, t2, t3⟩ := hI.1.2.2.2.1
  cases h : isO a1 0 (nI n - 1) with
  | true =>
    refine ⟨(-1000000002, rf σ 2), (-1000000002, fi (rf σ 2) 2), ?_, ?_, fun _ => rfl, inv_err hI (Fr.rf _) (Fr.rf _)⟩
    · show f_X8_trace σ a1 = _
      unfold f_X8_trace
      rw [out_eq, bind_s, t1, h, if_pos (by decide), refuse_2, bind_s]
    · show f_X9_trace (rf σ 2) a1 = _
      unfold f_X9_trace
      rw [in_0d, bind_s, rf_at (by decide), t2, h, if_neg (by decide), finds_2, bind_s]
  | false =>
    obtain ⟨q1, q2⟩ := isO_f h
    obtain ⟨j, hj, rfl⟩ := nI_of (Int32.not_lt.mpr q1)
    have hjn : j < n := by
      cases n with
      | zero =>
        rw [Int32.le_iff_toInt_le, nI_toInt hj, show (nI 0 - 1 : Int32).toInt = -1 from rfl] at q2
        omega
      | succ n =>
        rw [nI_pred, nI_leI hj (by omega)] at q2
        omega
    refine ⟨(σ.1 66 j, σ), (σ.1 89 j, σ), ?_, ?_, fun _ => t3 j hjn, hI⟩
    · show f_X8_trace σ (nI j) = _
      unfold f_X8_trace
      rw [out_eq, bind_s, t1, h, if_neg (by decide), if_pos (show nI j < 40 from nI_lt (b := 40) (by omega) (by omega)), rd_nI (by show j < 40; omega), bind_s]
    · show f_X9_trace σ (nI j) = _
      unfold f_X9_trace
      rw [in_0d, bind_s, t2, h, if_pos (by decide), rd_nI (by show j < 40; omega), bind_s]
theorem s_ofSwimmer (a1 : Int32) (a2 : Int32) (b : Bool) : LPr (fun σ => f_X8_ofSwimmer σ a1 a2) (fun σ => f_X9_ofSwimmer σ a1 a2) b Inv Inv := by
  intro σ hI
  rcases sA8 hI.1 a1 with ⟨q, e⟩ | ⟨p, hp, hpN, rfl, q, e⟩
  · refine ⟨(-1000000001, rf σ 1), (-1000000001, fi (rf σ 1) 1), ?_, ?_, fun _ => rfl, inv_err hI (Fr.rf _) (Fr.rf _)⟩
    · show f_X8_ofSwimmer σ a1 a2 = _
      unfold f_X8_ofSwimmer
      rw [e, bind_s, onN_0, refuse_1, bind_s]
    · show f_X9_ofSwimmer (rf σ 1) a1 a2 = _
      unfold f_X9_ofSwimmer
      rw [isS_eq, bind_s, rf_at (by decide), q, if_neg (by decide), finds_1, bind_s]
  · cases h2 : isO a2 0 8 with
    | true =>
      refine ⟨(-1000000001, rf σ 1), (-1000000001, fi (rf σ 1) 1), ?_, ?_, fun _ => rfl, inv_err hI (Fr.rf _) (Fr.rf _)⟩
      · show f_X8_ofSwimmer σ (nI p) a2 = _
        unfold f_X8_ofSwimmer
        rw [e, bind_s, onN_1, out_eq, bind_s, h2, if_pos (by decide), refuse_1, bind_s]
      · show f_X9_ofSwimmer (rf σ 1) (nI p) a2 = _
        unfold f_X9_ofSwimmer
        rw [isS_eq, bind_s, rf_at (by decide), q, if_pos (by decide), in_0_8, bind_s, h2, if_neg (by decide), finds_1, bind_s]
    | false =>
      obtain ⟨j, hj, rfl⟩ := isO_nI (n := 8) rfl h2
      refine ⟨(S9 (σ.1 82) p j, σ), (S9 (σ.1 82) p j, σ), ?_, ?_, fun _ => rfl, hI⟩
      · show f_X8_ofSwimmer σ (nI p) (nI j) = _
        unfold f_X8_ofSwimmer
        rw [e, bind_s, onN_1, out_eq, bind_s, h2, if_neg (by decide)]
        have s6 := sw6 (K12 p hp)
        rcases (show j = 0 ∨ j = 1 ∨ j = 2 ∨ j = 3 ∨ j = 4 ∨ 5 ≤ j by omega) with rfl | rfl | rfl | rfl | rfl | h5
        · rw [if_pos (by decide), if_pos (K12 p hp), sw8f hI.1 hpN (by omega)]
        · rw [if_neg (by decide), if_pos (by decide), if_pos (K12 p hp), sw8f hI.1 hpN (by omega)]
        · rw [if_neg (by decide), if_neg (by decide), if_pos (by decide), if_pos (K12 p hp), sw8f hI.1 hpN (by omega)]
        · rw [if_neg (by decide), if_neg (by decide), if_neg (by decide), if_pos (by decide), if_pos (K12 p hp), sw8f hI.1 hpN (by omega)]
        · rw [if_neg (by decide), if_neg (by decide), if_neg (by decide), if_neg (by decide), if_pos (by decide), if_pos (K12 p hp), sw8f hI.1 hpN (by omega)]
        · have ne : ∀ c, c < 5 → ¬ nI j = nI c := fun c hc z => by have := (nI_eq (a := j) (b := c) (by omega) (by omega)).mp z; omega
          obtain ⟨i, rfl⟩ : ∃ i, j = 5 + i := ⟨j - 5, by omega⟩
          have es : (nI (5 + i) - 5 : Int32) = nI i := by
            rcases (show i = 0 ∨ i = 1 ∨ i = 2 ∨ i = 3 by omega) with rfl | rfl | rfl | rfl <;> decide
          rw [if_neg (show ¬ nI (5 + i) = 0 from ne 0 (by omega)), if_neg (show ¬ nI (5 + i) = 1 from ne 1 (by omega)), if_neg (show ¬ nI (5 + i) = 2 from ne 2 (by omega)), if_neg (show ¬ nI (5 + i) = 3 from ne 3 (by omega)), if_neg (show ¬ nI (5 + i) = 4 from ne 4 (by omega)), if_pos (K12 p hp), es]
          unfold f_X6_laneOf
          rw [if_neg (nI_pos (by omega)), if_pos (show nI i < 4 from nI_lt (b := 4) (by omega) (by omega)), s6.1, rd_nI (by rw [s6.2.1]; omega), bind_s, bind_s, show 12 + 2 * p + 1 = 13 + 2 * p by omega, sw8l hI.1 hpN (by omega)]
      · show f_X9_ofSwimmer σ (nI p) (nI j) = _
        unfold f_X9_ofSwimmer
        rw [isS_eq, bind_s, q, if_pos (by decide), in_0_8, bind_s, h2, if_pos (by decide), of_eq hp (by omega), bind_s]
theorem s_train (a1 : Int32) (a2 : Int32) (b : Bool) : LPr (fun σ => f_X8_train σ a1 a2) (fun σ => f_X9_train σ a1 a2) b Inv Inv := by
  intro σ hI
  rcases sA8 hI.1 a1 with ⟨q, e⟩ | ⟨p, hp, hpN, rfl, q, e⟩
  · refine ⟨(-1000000001, rf σ 1), (-1000000001, fi (rf σ 1) 1), ?_, ?_, fun _ => rfl, inv_err hI (Fr.rf _) (Fr.rf _)⟩
    · show f_X8_train σ a1 a2 = _
      unfold f_X8_train
      rw [e, bind_s, onN_0, refuse_1, bind_s]
    · show f_X9_train (rf σ 1) a1 a2 = _
      unfold f_X9_train
      rw [isS_eq, bind_s, rf_at (by decide), q, if_neg (by decide), finds_1, bind_s]
  · cases h2 : isO a2 0 30 with
    | true =>
      refine ⟨(-1000000001, rf σ 1), (-1000000001, fi (rf σ 1) 1), ?_, ?_, fun _ => rfl, inv_err hI (Fr.rf _) (Fr.rf _)⟩
      · show f_X8_train σ (nI p) a2 = _
        unfold f_X8_train
        rw [e, bind_s, onN_1, out_eq, bind_s, h2, if_pos (by decide), refuse_1, bind_s]
      · show f_X9_train (rf σ 1) (nI p) a2 = _
        unfold f_X9_train
        rw [isS_eq, bind_s, rf_at (by decide), q, if_pos (by decide), in_0_30, bind_s, h2, if_neg (by decide), finds_1, bind_s]
    | false =>
      refine ⟨(σ.1 (12 + 2 * p) 3, sI σ (12 + 2 * p) 3 a2), (S9 (σ.1 82) p 3, sI (sI σ (12 + 2 * p) 3 a2) 82 (16 + 9 * p + 3) a2), ?_, ?_, fun _ => sw8f hI.1 hpN (by omega), upd_swf hI hp (by omega) (notO h2)⟩
      · show f_X8_train σ (nI p) a2 = _
        unfold f_X8_train
        rw [e, bind_s, onN_1, out_eq, bind_s, h2, if_neg (by decide), if_pos (K12 p hp), lp_eq]
      · show f_X9_train (sI σ (12 + 2 * p) 3 a2) (nI p) a2 = _
        unfold f_X9_train
        rw [isS_eq, bind_s, sI_ne (by omega), q, if_pos (by decide), in_0_30, bind_s, h2, if_pos (by decide), show (3 : Int32) = nI 3 from rfl, of_eq hp (by omega), bind_s, bec_eq hp (by omega), bind_s]
        unfold S9
        rw [sI_ne (by omega)]
theorem s_plan (a1 : Int32) (a2 : Int32) (a3 : Int32) (b : Bool) : LPr (fun σ => f_X8_plan σ a1 a2 a3) (fun σ => f_X9_plan σ a1 a2 a3) b Inv Inv := by
  intro σ hI
  rcases sA8 hI.1 a1 with ⟨q, e⟩ | ⟨p, hp, hpN, rfl, q, e⟩
  · refine ⟨(-1000000001, rf σ 1), (-1000000001, fi (rf σ 1) 1), ?_, ?_, fun _ => rfl, inv_err hI (Fr.rf _) (Fr.rf _)⟩
    · show f_X8_plan σ a1 a2 a3 = _
      unfold f_X8_plan
      rw [e, bind_s, onN_0, refuse_1, bind_s]
    · show f_X9_plan (rf σ 1) a1 a2 a3 = _
      unfold f_X9_plan
      rw [isS_eq, bind_s, rf_at (by decide), q, if_neg (by decide), finds_1, bind_s]
  · cases h2 : isO a2 0 3 with
    | true =>
      refine ⟨(-1000000001, rf σ 1), (-1000000001, fi (rf σ 1) 1), ?_, ?_, fun _ => rfl, inv_err hI (Fr.rf _) (Fr.rf _)⟩
      · show f_X8_plan σ (nI p) a2 a3 = _
        unfold f_X8_plan
        rw [e, bind_s, onN_1, out_eq, bind_s, h2, if_pos (by decide), refuse_1, bind_s]
      · show f_X9_plan (rf σ 1) (nI p) a2 a3 = _
        unfold f_X9_plan
        rw [isS_eq, bind_s, rf_at (by decide), q, if_pos (by decide), in_0_3, bind_s, h2, if_neg (by decide), finds_1, bind_s]
    | false =>
      cases h3 : isO a3 0 5 with
      | true =>
        refine ⟨(-1000000001, rf σ 1), (-1000000001, fi (rf σ 1) 1), ?_, ?_, fun _ => rfl, inv_err hI (Fr.rf _) (Fr.rf _)⟩
        · show f_X8_plan σ (nI p) a2 a3 = _
          unfold f_X8_plan
          rw [e, bind_s, onN_1, out_eq, bind_s, h2, if_neg (by decide), out_eq, bind_s, h3, if_pos (by decide), refuse_1, bind_s]
        · show f_X9_plan (rf σ 1) (nI p) a2 a3 = _
          unfold f_X9_plan
          rw [isS_eq, bind_s, rf_at (by decide), q, if_pos (by decide), in_0_3, bind_s, h2, if_pos (by decide), lane_eq, bind_s, h3, if_neg (by decide), finds_1, bind_s]
      | false =>
        obtain ⟨j, hj, rfl⟩ := isO_nI (n := 3) rfl h2
        have s6 := sw6 (K12 p hp)
        have ok5 : oks (5 + j) a3 = true := by
          unfold oks
          rw [if_neg (by omega), if_neg (by omega), if_neg (by omega), if_pos (by omega)]
          exact notO h3
        refine ⟨(σ.1 (13 + 2 * p) j, sI σ (13 + 2 * p) j a3), (S9 (σ.1 82) p (5 + j), sI (sI σ (13 + 2 * p) j a3) 82 (16 + 9 * p + (5 + j)) a3), ?_, ?_, fun _ => sw8l hI.1 hpN (by omega), upd_swl hI hp (by omega) ok5⟩
        · show f_X8_plan σ (nI p) (nI j) a3 = _
          unfold f_X8_plan
          rw [e, bind_s, onN_1, out_eq, bind_s, h2, if_neg (by decide), out_eq, bind_s, h3, if_neg (by decide), if_pos (K12 p hp), s6.1, rd_nI (by rw [s6.2.1]; omega), bind_s, wr_nI (by rw [s6.2.1]; omega), bind_s, show 12 + 2 * p + 1 = 13 + 2 * p by omega]
        · show f_X9_plan (sI σ (13 + 2 * p) j a3) (nI p) (nI j) a3 = _
          unfold f_X9_plan
          rw [isS_eq, bind_s, sI_ne (by omega), q, if_pos (by decide), in_0_3, bind_s, h2, if_pos (by decide), lane_eq, bind_s, h3, if_pos (by decide), show (5 : Int32) = nI 5 from rfl, nI_add, of_eq hp (by omega), bind_s, bec_eq hp (by omega), bind_s]
          unfold S9
          rw [sI_ne (by omega)]
theorem km_ok : ∀ k, k ≤ 69 → oks 0 (nI k / 10) = true := by decide +kernel
theorem s_become (a1 : Int32) (a2 : Int32) (b : Bool) : LPr (fun σ => f_X8_become σ a1 a2) (fun σ => f_X9_become σ a1 a2) b Inv Inv := by
  intro σ hI
  rcases sA8 hI.1 a1 with ⟨q, e⟩ | ⟨p, hp, hpN, rfl, q, e⟩
  · refine ⟨(-1000000001, rf σ 1), (-1000000001, fi (rf σ 1) 1), ?_, ?_, fun _ => rfl, inv_err hI (Fr.rf _) (Fr.rf _)⟩
    · show f_X8_become σ a1 a2 = _
      unfold f_X8_become
      rw [e, bind_s, onN_0, refuse_1, bind_s]
    · show f_X9_become (rf σ 1) a1 a2 = _
      unfold f_X9_become
      rw [isS_eq, bind_s, rf_at (by decide), q, if_neg (by decide), finds_1, bind_s]
  · cases h2 : isO a2 0 69 with
    | true =>
      refine ⟨(-1000000001, rf σ 1), (-1000000001, fi (rf σ 1) 1), ?_, ?_, fun _ => rfl, inv_err hI (Fr.rf _) (Fr.rf _)⟩
      · show f_X8_become σ (nI p) a2 = _
        unfold f_X8_become
        rw [e, bind_s, onN_1, out_eq, bind_s, h2, if_pos (by decide), refuse_1, bind_s]
      · show f_X9_become (rf σ 1) (nI p) a2 = _
        unfold f_X9_become
        rw [isS_eq, bind_s, rf_at (by decide), q, if_pos (by decide), in_0_69, bind_s, h2, if_neg (by decide), finds_1, bind_s]
    | false =>
      obtain ⟨m, hm, rfl⟩ := isO_nI (n := 69) rfl h2
      have i1 := upd_swf hI hp (j := 0) (by omega) (v := nI m / 10) (km_ok m hm)
      have i2 := upd_swf i1 hp (j := 1) (by omega) (v := irem (nI m) 10) rfl
      refine ⟨(σ.1 (12 + 2 * p) 0, sI (sI σ (12 + 2 * p) 0 (nI m / 10)) (12 + 2 * p) 1 (irem (nI m) 10)), (S9 (σ.1 82) p 0, sI (sI (sI (sI σ (12 + 2 * p) 0 (nI m / 10)) (12 + 2 * p) 1 (irem (nI m) 10)) 82 (16 + 9 * p + 0) (nI m / 10)) 82 (16 + 9 * p + 1) (irem (nI m) 10)), ?_, ?_, fun _ => sw8f hI.1 hpN (by omega), ?_⟩
      · show f_X8_become σ (nI p) (nI m) = _
        unfold f_X8_become f_X6_turnInto
        rw [e, bind_s, onN_1, out_eq, bind_s, h2, if_neg (by decide), if_pos (K12 p hp), lp_eq, lp_eq, bind_s]
      · show f_X9_become (sI (sI σ (12 + 2 * p) 0 (nI m / 10)) (12 + 2 * p) 1 (irem (nI m) 10)) (nI p) (nI m) = _
        unfold f_X9_become
        rw [isS_eq, bind_s, sI_ne (by omega), sI_ne (by omega), q, if_pos (by decide), in_0_69, bind_s, h2, if_pos (by decide), show (0 : Int32) = nI 0 from rfl, of_eq hp (by omega), bind_s, bec_eq hp (by omega), bind_s, show (1 : Int32) = nI 1 from rfl, bec_eq hp (by omega), bind_s]
        unfold S9
        rw [sI_ne (by omega), sI_ne (by omega)]
      · rw [sI_comm (σ := sI σ (12 + 2 * p) 0 (nI m / 10)) (show (82 : Nat) ≠ 12 + 2 * p by omega)] at i2
        exact i2
def under (k t : Nat) : Bool := t == 0 || t == k || t == (if k < 4 then 0 else k - 3)
theorem und_L : ∀ n k t i, k ≤ 6 → t ≤ 6 → i ≤ 3 → 10 < n + i → (∀ m, m < i → True) → True := fun _ _ _ _ _ _ _ _ _ => trivial
theorem und_step (σ : Sto) (t : Int32) (n k i : Nat) (hk : k ≤ 6) (hi : i < 7) : f_X8_isUnder_L4 σ t (n + 1) (nI k) (nI i) = if nI k = t then some true else f_X8_isUnder_L4 σ t n (abv k) (nI (i + 1)) := by
  rw [f_X8_isUnder_L4, if_neg (show ¬ (7 : Int32) ≤ nI i from nI_ge (b := 7) (by omega) (by omega)), out_eq, bind_s, show isO (nI k) 0 6 = false from isO_lit (n := 6) (by omega) (by omega), if_neg (by decide), rdC_nI (by omega) (by omega), bind_s, nI_1]
theorem und_end (σ : Sto) (t : Int32) (n i : Nat) (hi : i < 7) : f_X8_isUnder_L4 σ t (n + 1) (-1) (nI i) = some false := by
  rw [f_X8_isUnder_L4, if_neg (show ¬ (7 : Int32) ≤ nI i from nI_ge (b := 7) (by omega) (by omega)), out_eq, bind_s, if_pos (by decide)]
theorem und_eq (σ : Sto) : ∀ k, k ≤ 6 → ∀ t, t ≤ 6 → f_X8_isUnder σ (nI k) (nI t) = some (under k t) := by
  intro k hk t ht
  unfold f_X8_isUnder
  have ne : ∀ a, a ≤ 6 → (nI a = nI t ↔ a = t) := fun a ha => nI_eq (by omega) (by omega)
  rw [show FU = 9996 + 1 + 1 + 1 + 1 from rfl, show (0 : Int32) = nI 0 from rfl]
  rcases (show k = 0 ∨ k = 1 ∨ k = 2 ∨ k = 3 ∨ k = 4 ∨ k = 5 ∨ k = 6 by omega) with rfl | rfl | rfl | rfl | rfl | rfl | rfl
  · rw [und_step _ _ _ 0 _ (by omega) (by omega), show abv 0 = -1 from rfl, und_end _ _ _ _ (by omega)]
    by_cases h : 0 = t
    · subst h; rfl
    · rw [if_neg (fun z => h ((ne 0 (by omega)).mp z))]
      have : under 0 t = false := by unfold under; simp; omega
      rw [this]
  all_goals
    rw [und_step _ _ _ _ _ (by omega) (by omega)]
    simp only [show abv 1 = nI 0 from rfl, show abv 2 = nI 0 from rfl, show abv 3 = nI 0 from rfl, show abv 4 = nI 1 from rfl, show abv 5 = nI 2 from rfl, show abv 6 = nI 3 from rfl]
    rw [und_step _ _ _ _ _ (by omega) (by omega)]
    simp only [show abv 0 = -1 from rfl, show abv 1 = nI 0 from rfl, show abv 2 = nI 0 from rfl, show abv 3 = nI 0 from rfl]
    first
      | rw [und_end _ _ _ _ (by omega)]
      | rw [und_step _ _ _ _ _ (by omega) (by omega), show abv 0 = -1 from rfl, und_end _ _ _ _ (by omega)]
    rcases (show t = 0 ∨ t = 1 ∨ t = 2 ∨ t = 3 ∨ t = 4 ∨ t = 5 ∨ t = 6 by omega) with rfl | rfl | rfl | rfl | rfl | rfl | rfl <;> decide +kernel
theorem above_eq : ∀ k, k ≤ 6 → f_X9_above (nI k) = some (nI (if k < 4 then 0 else k - 3)) := by
  intro k hk
  rcases (show k = 0 ∨ k = 1 ∨ k = 2 ∨ k = 3 ∨ k = 4 ∨ k = 5 ∨ k = 6 by omega) with rfl | rfl | rfl | rfl | rfl | rfl | rfl <;> decide +kernel
theorem s_as (a1 : Int32) (a2 : Int32) (b : Bool) : LPr (fun σ => f_X8_as σ a1 a2) (fun σ => f_X9_as σ a1 a2) b Inv Inv := by
  intro σ hI
  rcases sA8 hI.1 a1 with ⟨q, e⟩ | ⟨p, hp, hpN, rfl, q, e⟩
  · refine ⟨(-1000000001, rf σ 1), (-1000000001, fi (rf σ 1) 1), ?_, ?_, fun _ => rfl, inv_err hI (Fr.rf _) (Fr.rf _)⟩
    · show f_X8_as σ a1 a2 = _
      unfold f_X8_as
      rw [e, bind_s, onN_0, refuse_1, bind_s]
    · show f_X9_as (rf σ 1) a1 a2 = _
      unfold f_X9_as
      rw [isS_eq, bind_s, rf_at (by decide), q, if_neg (by decide), finds_1, bind_s]
  · cases h2 : isO a2 0 6 with
    | true =>
      refine ⟨(-1000000001, rf σ 1), (-1000000001, fi (rf σ 1) 1), ?_, ?_, fun _ => rfl, inv_err hI (Fr.rf _) (Fr.rf _)⟩
      · show f_X8_as σ (nI p) a2 = _
        unfold f_X8_as
        rw [e, bind_s, onN_1, out_eq, bind_s, h2, if_pos (by decide), refuse_1, bind_s]
      · show f_X9_as (rf σ 1) (nI p) a2 = _
        unfold f_X9_as
        rw [isS_eq, bind_s, rf_at (by decide), q, if_pos (by decide), in_0_6, bind_s, h2, if_neg (by decide), finds_1, bind_s]
    | false =>
      obtain ⟨t, ht, rfl⟩ := isO_nI (n := 6) rfl h2
      obtain ⟨k, hk, ek⟩ := sw_kind hI.1.ok hp
      have e8 : f_X8_as σ (nI p) (nI t) = if under k t = true then some (σ.1 (12 + 2 * p) 1, σ) else some (-1000000005, rf σ 5) := by
        unfold f_X8_as
        rw [e, bind_s, onN_1, out_eq, bind_s, h2, if_neg (by decide), if_pos (K12 p hp), sw8f hI.1 hpN (by omega), ek, und_eq σ k hk t ht, bind_s, refuse_5, bind_s]
      have e9 : ∀ τ : Sto, τ.1 82 = σ.1 82 → f_X9_as τ (nI p) (nI t) = if under k t = true then some (S9 (σ.1 82) p 1, τ) else some (-1000000005, fi τ 5) := by
        intro τ hτ
        unfold f_X9_as f_X9_as_L50
        rw [isS_eq, bind_s, hτ, q, if_pos (by decide), in_0_6, bind_s, h2, if_pos (by decide), show f_X9_of τ (nI p) 0 = _ from of_eq hp (j := 0) (by omega), bind_s, hτ, ek, above_eq k hk, bind_s, show f_X9_of τ (nI p) 1 = _ from of_eq hp (j := 1) (by omega), bind_s, hτ, finds_5, bind_s]
        by_cases c0 : t = 0
        · subst c0
          rw [if_pos (by decide), if_pos (by unfold under; rfl)]
        · rw [if_neg (show ¬ nI t = 0 from fun z => c0 ((nI_eq (a := t) (b := 0) (by omega) (by omega)).mp z))]
          by_cases c1 : t = k
          · subst c1
            rw [if_pos rfl, if_pos (by unfold under; simp)]
          · rw [if_neg (fun z => c1 ((nI_eq (by omega) (by omega)).mp z))]
            by_cases c2 : t = if k < 4 then 0 else k - 3
            · rw [if_pos (by rw [← c2]), if_pos (by unfold under; simp [c2])]
            · rw [if_neg (fun z => c2 ((nI_eq (by omega) (by split <;> omega)).mp z)), if_neg (by unfold under; simp [c0, c1, c2])]
      by_cases hu : under k t = true
      · rw [if_pos hu] at e8
        refine ⟨_, _, e8, (e9 σ rfl).trans (if_pos hu), fun _ => sw8f hI.1 hpN (by omega), hI⟩
      · rw [if_neg hu] at e8
        refine ⟨_, _, e8, (e9 (rf σ 5) (funext fun j => rf_at (by decide))).trans (if_neg hu), fun _ => rfl, inv_err hI (Fr.rf _) (Fr.rf _)⟩
/-! What a law gives: its code worked out on a stack, by either. -/
def nmv (a b c : Int32) (k : Nat) : Int32 := if k = 0 then a else if k = 1 then b else c
def dnv (it x y : Int32) : Int32 := (f_X9_done (it - 20000) x y).getD 0
def tkv (a b c it : Int32) : Int32 := if it < 10000 then it else nmv a b c (it - 10000).toNatClampNeg
def evs (a b c : Int32) : List Int32 → List Int32 → List Int32
  | [], st => st
  | it :: r, st => if tokN it = true then evs a b c r (tkv a b c it :: st) else if it = 20033 then (match st with
      | x :: s => evs a b c r ((if x = 0 then 1 else 0) :: s)
      | [] => evs a b c r []) else (match st with
      | y :: x :: s => evs a b c r (dnv it x y :: s)
      | s => evs a b c r s)
theorem evs_tok {a b c it : Int32} {r st : List Int32} (ht : tokN it = true) : evs a b c (it :: r) st = evs a b c r (tkv a b c it :: st) := by simp [evs, ht]
theorem evs_33 {a b c x : Int32} {r s : List Int32} : evs a b c (20033 :: r) (x :: s) = evs a b c r ((if x = 0 then 1 else 0) :: s) := by
  have h : tokN 20033 = false := by decide
  simp [evs, h]
theorem evs_op {a b c it x y : Int32} {r s : List Int32} (ht : ¬ tokN it = true) (hn : ¬ it = 20033) : evs a b c (it :: r) (y :: x :: s) = evs a b c r (dnv it x y :: s) := by simp [evs, ht, hn]
theorem wfh_tok {it : Int32} {r : List Int32} {h : Nat} (ht : tokN it = true) : wfh (it :: r) h = wfh r (h + 1) := by simp [wfh, ht]
theorem wfh_33 {r : List Int32} {h : Nat} : wfh (20033 :: r) h = (decide (1 ≤ h) && wfh r h) := by
  have h : tokN 20033 = false := by decide
  simp [wfh, h]
theorem wfh_op {it : Int32} {r : List Int32} {h : Nat} (ht : ¬ tokN it = true) (hn : ¬ it = 20033) : wfh (it :: r) h = if tokO it = true then decide (2 ≤ h) && wfh r (h - 1) else false := by simp [wfh, ht, hn]
def Rp (f : Nat → Int32) : List Int32 → Prop
  | [] => True
  | x :: s => f s.length = x ∧ Rp f s
theorem Rp.congr {f g : Nat → Int32} : ∀ {s : List Int32}, Rp f s → (∀ q, q < s.length → g q = f q) → Rp g s := by
  intro s
  induction s with
  | nil => intro _ _; trivial
  | cons x s ih =>
    intro h hq
    obtain ⟨h1, h2⟩ := h
    exact ⟨(hq s.length (by simp)).trans h1, ih h2 (fun q hlt => hq q (by simp; omega))⟩
theorem done_some (s x y : Int32) : ∃ v, f_X9_done s x y = some v := by
  unfold f_X9_done f_X9_done_L92
  repeat' split
  all_goals exact ⟨_, rfl⟩
theorem done_dnv (it x y : Int32) : f_X9_done (it - 20000) x y = some (dnv it x y) := by
  obtain ⟨v, h⟩ := done_some (it - 20000) x y
  unfold dnv
  rw [h]
  rfl
theorem tokO_mem {it : Int32} (h : tokO it = true) : it = 20124 ∨ it = 20038 ∨ it = 20060 ∨ it = 20061 ∨ it = 20062 ∨ it = 20043 ∨ it = 20045 ∨ it = 20042 ∨ it = 20047 ∨ it = 20037 := by
  unfold tokO at h
  simpa using h
theorem joined_dnv {it : Int32} (h : tokO it = true) (x y : Int32) : f_X1_joined (cv8 it) x y = some (dnv it x y) := by
  rw [← done_dnv]
  rcases tokO_mem h with rfl | rfl | rfl | rfl | rfl | rfl | rfl | rfl | rfl | rfl
  · rw [show cv8 20124 = -124 by decide, show (20124 - 20000 : Int32) = 124 by decide]; unfold f_X1_joined f_X9_done; rfl
  · rw [show cv8 20038 = -38 by decide, show (20038 - 20000 : Int32) = 38 by decide]; unfold f_X1_joined f_X9_done; rfl
  · rw [show cv8 20060 = -60 by decide, show (20060 - 20000 : Int32) = 60 by decide]; unfold f_X1_joined f_X9_done; rfl
  · rw [show cv8 20061 = -61 by decide, show (20061 - 20000 : Int32) = 61 by decide]; unfold f_X1_joined f_X9_done; rfl
  · rw [show cv8 20062 = -62 by decide, show (20062 - 20000 : Int32) = 62 by decide]; unfold f_X1_joined f_X9_done; rfl
  · rw [show cv8 20043 = -43 by decide, show (20043 - 20000 : Int32) = 43 by decide]; unfold f_X1_joined f_X9_done; rfl
  · rw [show cv8 20045 = -45 by decide, show (20045 - 20000 : Int32) = 45 by decide]; unfold f_X1_joined f_X9_done; rfl
  · rw [show cv8 20042 = -42 by decide, show (20042 - 20000 : Int32) = 42 by decide]; unfold f_X1_joined f_X9_done; rfl
  · rw [show cv8 20047 = -47 by decide, show (20047 - 20000 : Int32) = 47 by decide]; unfold f_X1_joined f_X9_done; rfl
  · rw [show cv8 20037 = -37 by decide, show (20037 - 20000 : Int32) = 37 by decide]; unfold f_X1_joined f_X9_done; rfl
theorem tokN_nI {it : Int32} (h : tokN it = true) : ∃ t, t ≤ 10002 ∧ it = nI t := isO_nI (n := 10002) rfl (not_t h)
theorem tokO_not {it : Int32} (h : tokO it = true) : tokN it = false ∧ ¬ it = 20033 ∧ (20000 : Int32) ≤ it ∧ cv8 it ≤ -33 ∧ ¬ cv8 it = -33 := by
  rcases tokO_mem h with rfl | rfl | rfl | rfl | rfl | rfl | rfl | rfl | rfl | rfl <;> decide +kernel
theorem cv8_num {t : Nat} (h : t < 10000) : cv8 (nI t) = nI t := by
  unfold cv8
  rw [if_pos (show nI t < 10000 from nI_lt (b := 10000) h (by omega))]
theorem val_num {t : Nat} (h : t < 10000) (a b c : Int32) : f_X1_valueOf (nI t) a b c = some (nI t) ∧ ¬ nI t ≤ -33 := by
  have hp : 0 ≤ nI t := nI_pos' (by omega)
  have e0 : (0 : Int32).toInt = 0 := rfl
  have hp' : 0 ≤ (nI t).toInt := by rw [Int32.le_iff_toInt_le, e0] at hp; exact hp
  have ne : ∀ m : Int32, m.toInt < 0 → ¬ nI t = m := fun m hm z => by rw [z] at hp'; omega
  refine ⟨?_, fun z => ?_⟩
  · unfold f_X1_valueOf
    rw [if_neg (ne _ (by decide)), if_neg (ne _ (by decide)), if_neg (ne _ (by decide))]
  · rw [Int32.le_iff_toInt_le, show (-33 : Int32).toInt = -33 from rfl] at z
    omega
theorem val_tok {it : Int32} (h : tokN it = true) (a b c : Int32) : f_X1_valueOf (cv8 it) a b c = some (tkv a b c it) ∧ ¬ cv8 it ≤ -33 := by
  obtain ⟨t, ht, rfl⟩ := tokN_nI h
  by_cases h1 : t < 10000
  · rw [cv8_num h1]
    obtain ⟨q1, q2⟩ := val_num h1 a b c
    refine ⟨q1.trans ?_, q2⟩
    unfold tkv
    rw [if_pos (show nI t < 10000 from nI_lt (b := 10000) h1 (by omega))]
  · rcases (show t = 10000 ∨ t = 10001 ∨ t = 10002 by omega) with rfl | rfl | rfl
    · exact ⟨rfl, by decide +kernel⟩
    · exact ⟨rfl, by decide +kernel⟩
    · exact ⟨rfl, by decide +kernel⟩
theorem wo_A {k : Nat} (hk : k = 4 ∨ k = 7) : A0 k 1 = k + 1 ∧ A0 k 2 = k + 2 ∧ Ln0 (k + 1) = 50 ∧ Ln0 (k + 2) = 50 := by rcases hk with rfl | rfl <;> decide
theorem wo_L {k : Nat} (hk : k = 4 ∨ k = 7) (a b c : Int32) (m : Nat) (hm : m ≤ 50) : ∀ (R : List Int32) (n i : Nat) (st : List Int32) (σ : Sto), R.length < n → i + R.length = m → σ.1 k 3 = nI m → (∀ q, q < R.length → σ.1 (k + 1) (i + q) = cv8 (R.getD q 0)) → wfh R st.length = true → st.length ≤ i → Rp (σ.1 (k + 2)) st →
    ∃ v τ, f_X1_workOut_L6 k a b c n (nI st.length) (nI i) σ = some (v, τ) ∧ evs a b c R st = [v] ∧ ∀ x j, x ≠ k + 2 → τ.1 x j = σ.1 x j := by
  obtain ⟨A1, A2, L1, L2⟩ := wo_A hk
  intro R
  induction R with
  | nil =>
    intro n i st σ h1 h2 h3 h4 h5 h6 h7
    obtain ⟨n, rfl⟩ : ∃ n', n = n' + 1 := ⟨n - 1, by simp at h1; omega⟩
    have hl : st.length = 1 := by simpa [wfh] using h5
    obtain ⟨x, rfl⟩ : ∃ x, st = [x] := by
      match st, hl with
      | [x], _ => exact ⟨x, rfl⟩
    have him : i = m := by simpa using h2
    refine ⟨x, σ, ?_, rfl, fun _ _ _ => rfl⟩
    rw [f_X1_workOut_L6, h3, if_pos (by rw [him]; exact nI_le (Nat.le_refl _) (by omega)), A2, show (0 : Int32) = nI 0 from rfl, rd_nI (by rw [L2]; omega), bind_s, show σ.1 (k + 2) 0 = x from h7.1]
  | cons it R ih =>
    intro n i st σ h1 h2 h3 h4 h5 h6 h7
    obtain ⟨n, rfl⟩ : ∃ n', n = n' + 1 := ⟨n - 1, by simp at h1; omega⟩
    simp only [List.length_cons] at h1 h2 h4
    have hrow : σ.1 (k + 1) i = cv8 it := by have := h4 0 (by omega); simpa using this
    have hrow' : ∀ q, q < R.length → σ.1 (k + 1) (i + 1 + q) = cv8 (R.getD q 0) := fun q hq => by
      have := h4 (q + 1) (by omega)
      rw [show i + (q + 1) = i + 1 + q by omega] at this
      simpa using this
    have g1 : ¬ nI m ≤ nI i := nI_ge (by omega) (by omega)
    have g2 : ¬ (50 : Int32) ≤ nI i := nI_ge (b := 50) (by omega) (by omega)
    rw [f_X1_workOut_L6, h3, if_neg g1, if_neg g2, A1, A2, rd_nI (by rw [L1]; omega), bind_s, hrow]
    unfold f_X1_workOut_L110 f_X1_workOut_L153
    by_cases ht : tokN it = true
    · obtain ⟨v1, v2⟩ := val_tok ht a b c
      rw [wfh_tok ht] at h5
      rw [if_neg v2, if_neg (show ¬ (50 : Int32) ≤ nI st.length from nI_ge (b := 50) (by omega) (by omega)), v1, bind_s, wr_nI (by rw [L2]; omega), bind_s, nI_1, nI_1]
      obtain ⟨v, τ, e1, e2, e3⟩ := ih n (i + 1) (tkv a b c it :: st) (sI σ (k + 2) st.length (tkv a b c it)) (by omega) (by omega) (by rw [sI_ne (by omega)]; exact h3) (fun q hq => by rw [sI_ne (by omega)]; exact hrow' q hq) h5 (by simp; omega) ⟨by rw [sI_at, if_pos rfl], h7.congr (fun q hq => by rw [sI_at, if_neg (by omega)])⟩
      refine ⟨v, τ, e1, ?_, fun x j hx => by rw [e3 x j hx, sI_ne hx]⟩
      rw [evs_tok ht]
      exact e2
    · by_cases hn : it = 20033
      · subst hn
        rw [wfh_33, Bool.and_eq_true, decide_eq_true_eq] at h5
        obtain ⟨x, s, rfl⟩ : ∃ x s, st = x :: s := by
          cases st with
          | nil => simp at h5
          | cons x s => exact ⟨x, s, rfl⟩
        have hlen : (x :: s).length = s.length + 1 := rfl
        rw [if_pos (by decide), if_pos (by decide), hlen, if_neg (show ¬ nI (s.length + 1) < 1 from nI_nlt (b := 1) (by omega) (by simp at h6; omega)), nI_pred, rd_nI (by rw [L2]; simp at h6; omega), bind_s, show σ.1 (k + 2) s.length = x from h7.1]
        have step : ∀ y : Int32, (∃ v τ, f_X1_workOut_L6 k a b c n (nI (s.length + 1)) (nI (i + 1)) (sI σ (k + 2) s.length y) = some (v, τ) ∧ evs a b c R (y :: s) = [v] ∧ ∀ x j, x ≠ k + 2 → τ.1 x j = σ.1 x j) := by
          intro y
          obtain ⟨v, τ, e1, e2, e3⟩ := ih n (i + 1) (y :: s) (sI σ (k + 2) s.length y) (by omega) (by omega) (by rw [sI_ne (by omega)]; exact h3) (fun q hq => by rw [sI_ne (by omega)]; exact hrow' q hq) h5.2 (by simp at h6 ⊢; omega) ⟨by rw [sI_at, if_pos rfl], h7.2.congr (fun q hq => by rw [sI_at, if_neg (by omega)])⟩
          exact ⟨v, τ, e1, e2, fun x j hx => by rw [e3 x j hx, sI_ne hx]⟩
        by_cases hx0 : x = 0
        · rw [if_pos hx0, wr_nI (by rw [L2]; simp at h6; omega), bind_s, nI_1]
          obtain ⟨v, τ, e1, e2, e3⟩ := step 1
          exact ⟨v, τ, e1, by rw [evs_33, if_pos hx0]; exact e2, e3⟩
        · rw [if_neg hx0, wr_nI (by rw [L2]; simp at h6; omega), bind_s, nI_1]
          obtain ⟨v, τ, e1, e2, e3⟩ := step 0
          exact ⟨v, τ, e1, by rw [evs_33, if_neg hx0]; exact e2, e3⟩
      · rw [wfh_op ht hn] at h5
        by_cases ho : tokO it = true
        · rw [if_pos ho, Bool.and_eq_true, decide_eq_true_eq] at h5
          obtain ⟨-, -, -, c1, c2⟩ := tokO_not ho
          obtain ⟨y, x, s, rfl⟩ : ∃ y x s, st = y :: x :: s := by
            match st, h5.1 with
            | y :: x :: s, _ => exact ⟨y, x, s, rfl⟩
          have hlen : (y :: x :: s).length = s.length + 2 := rfl
          simp only [hlen] at h6
          have p1 : (nI (s.length + 2) + -1 : Int32) = nI (s.length + 1) := by
            rw [← Int32.sub_eq_add_neg]
            exact nI_pred (s.length + 1)
          rw [if_pos c1, if_neg c2, hlen, if_neg (show ¬ nI (s.length + 2) < 2 from nI_nlt (b := 2) (by omega) (by omega)), p1, nI_pred, rd_nI (by rw [L2]; omega), bind_s, rd_nI (by rw [L2]; omega), bind_s, show σ.1 (k + 2) s.length = x from h7.2.1, show σ.1 (k + 2) (s.length + 1) = y from h7.1, joined_dnv ho, bind_s, wr_nI (by rw [L2]; omega), bind_s, nI_1]
          obtain ⟨v, τ, e1, e2, e3⟩ := ih n (i + 1) (dnv it x y :: s) (sI σ (k + 2) s.length (dnv it x y)) (by omega) (by omega) (by rw [sI_ne (by omega)]; exact h3) (fun q hq => by rw [sI_ne (by omega)]; exact hrow' q hq) h5.2 (by simp; omega) ⟨by rw [sI_at, if_pos rfl], h7.2.2.congr (fun q hq => by rw [sI_at, if_neg (by omega)])⟩
          exact ⟨v, τ, e1, by rw [evs_op ht hn]; exact e2, fun x j hx => by rw [e3 x j hx, sI_ne hx]⟩
        · rw [if_neg ho] at h5
          cases h5
theorem wk_L (a b c : Int32) (B m : Nat) (hB : B + m ≤ 270) (hm : m ≤ 50) : ∀ (R : List Int32) (n i : Nat) (st : List Int32) (σ : Sto), R.length < n → i + R.length = m → (∀ q, q < R.length → σ.1 82 (B + i + q) = R.getD q 0) → wfh R st.length = true → st.length ≤ i → Rp (σ.1 88) st → σ.1 86 0 = a → σ.1 86 1 = b → σ.1 86 2 = c →
    ∃ v τ, f_X9_worked_L5 (nI B) (nI m) n (nI st.length) (nI (B + i)) σ = some (v, τ) ∧ evs a b c R st = [v] ∧ ∀ x j, x ≠ 88 → τ.1 x j = σ.1 x j := by
  intro R
  induction R with
  | nil =>
    intro n i st σ h1 h2 h4 h5 h6 h7 n0 n1 n2
    obtain ⟨n, rfl⟩ : ∃ n', n = n' + 1 := ⟨n - 1, by simp at h1; omega⟩
    have hl : st.length = 1 := by simpa [wfh] using h5
    obtain ⟨x, rfl⟩ : ∃ x, st = [x] := by
      match st, hl with
      | [x], _ => exact ⟨x, rfl⟩
    have him : i = m := by simpa using h2
    refine ⟨x, σ, ?_, rfl, fun _ _ _ => rfl⟩
    rw [f_X9_worked_L5, nI_add, if_pos (by rw [him]; exact nI_le (Nat.le_refl _) (by omega)), rdA_88_0, bind_s, show σ.1 88 0 = x from h7.1]
  | cons it R ih =>
    intro n i st σ h1 h2 h4 h5 h6 h7 n0 n1 n2
    obtain ⟨n, rfl⟩ : ∃ n', n = n' + 1 := ⟨n - 1, by simp at h1; omega⟩
    simp only [List.length_cons] at h1 h2 h4
    have hrow : σ.1 82 (B + i) = it := by have := h4 0 (by omega); simpa using this
    have hrow' : ∀ q, q < R.length → σ.1 82 (B + (i + 1) + q) = R.getD q 0 := fun q hq => by
      have := h4 (q + 1) (by omega)
      rw [show B + i + (q + 1) = B + (i + 1) + q by omega] at this
      simpa using this
    have g1 : ¬ nI B + nI m ≤ nI (B + i) := by rw [nI_add]; exact nI_ge (by omega) (by omega)
    have e1' : (nI (B + i) + 1 : Int32) = nI (B + (i + 1)) := nI_1 _
    rw [f_X9_worked_L5, if_neg g1, rd_nI (by show B + i < 270; omega), bind_s, hrow]
    unfold f_X9_worked_L97 f_X9_worked_L59 f_X9_worked_L135
    rw [e1']
    by_cases ht : tokN it = true
    · rw [wfh_tok ht] at h5
      obtain ⟨t, ht2, rfl⟩ := tokN_nI ht
      have push : ∃ v τ, ((wrA σ 88 (nI st.length) (tkv a b c (nI t))).bind fun σ59 => f_X9_worked_L5 (nI B) (nI m) n (nI st.length + 1) (nI (B + (i + 1))) σ59) = some (v, τ) ∧ evs a b c (nI t :: R) st = [v] ∧ ∀ x j, x ≠ 88 → τ.1 x j = σ.1 x j := by
        rw [wr_nI (by show st.length < 60; omega), bind_s, nI_1]
        obtain ⟨v, τ, e1, e2, e3⟩ := ih n (i + 1) (tkv a b c (nI t) :: st) (sI σ 88 st.length (tkv a b c (nI t))) (by omega) (by omega) (fun q hq => by rw [sI_ne (by omega)]; exact hrow' q hq) h5 (by simp; omega) ⟨by rw [sI_at, if_pos rfl], h7.congr (fun q hq => by rw [sI_at, if_neg (by omega)])⟩ (by rw [sI_ne (by decide)]; exact n0) (by rw [sI_ne (by decide)]; exact n1) (by rw [sI_ne (by decide)]; exact n2)
        exact ⟨v, τ, e1, by rw [evs_tok ht]; exact e2, fun x j hx => by rw [e3 x j hx, sI_ne hx]⟩
      rw [if_neg (show ¬ (20000 : Int32) ≤ nI t from nI_ge (b := 20000) (by omega) (by omega))]
      by_cases h1 : t < 10000
      · rw [if_neg (show ¬ (10000 : Int32) ≤ nI t from nI_ge (b := 10000) (by omega) (by omega))]
        have et : tkv a b c (nI t) = nI t := by unfold tkv; rw [if_pos (show nI t < 10000 from nI_lt (b := 10000) h1 (by omega))]
        rw [et] at push
        exact push
      · rw [if_pos (show (10000 : Int32) ≤ nI t from nI_le (a := 10000) (by omega) (by omega))]
        rcases (show t = 10000 ∨ t = 10001 ∨ t = 10002 by omega) with rfl | rfl | rfl
        · rw [show (nI 10000 - 10000 : Int32) = nI 0 from rfl, rd_nI (by decide), bind_s, n0]; exact push
        · rw [show (nI 10001 - 10000 : Int32) = nI 1 from rfl, rd_nI (by decide), bind_s, n1]; exact push
        · rw [show (nI 10002 - 10000 : Int32) = nI 2 from rfl, rd_nI (by decide), bind_s, n2]; exact push
    · by_cases hn : it = 20033
      · subst hn
        rw [wfh_33, Bool.and_eq_true, decide_eq_true_eq] at h5
        obtain ⟨x, s, rfl⟩ : ∃ x s, st = x :: s := by
          cases st with
          | nil => simp at h5
          | cons x s => exact ⟨x, s, rfl⟩
        have hlen : (x :: s).length = s.length + 1 := rfl
        simp only [hlen] at h6
        rw [if_pos (by decide), if_pos (by decide), hlen, nI_pred, rd_nI (by show s.length < 60; omega), bind_s, show σ.1 88 s.length = x from h7.1]
        have step : ∀ y : Int32, (∃ v τ, f_X9_worked_L5 (nI B) (nI m) n (nI (s.length + 1)) (nI (B + (i + 1))) (sI σ 88 s.length y) = some (v, τ) ∧ evs a b c R (y :: s) = [v] ∧ ∀ x j, x ≠ 88 → τ.1 x j = σ.1 x j) := by
          intro y
          obtain ⟨v, τ, e1, e2, e3⟩ := ih n (i + 1) (y :: s) (sI σ 88 s.length y) (by omega) (by omega) (fun q hq => by rw [sI_ne (by omega)]; exact hrow' q hq) h5.2 (by simp; omega) ⟨by rw [sI_at, if_pos rfl], h7.2.congr (fun q hq => by rw [sI_at, if_neg (by omega)])⟩ (by rw [sI_ne (by decide)]; exact n0) (by rw [sI_ne (by decide)]; exact n1) (by rw [sI_ne (by decide)]; exact n2)
          exact ⟨v, τ, e1, e2, fun x j hx => by rw [e3 x j hx, sI_ne hx]⟩
        by_cases hx0 : x = 0
        · rw [if_pos hx0, wr_nI (by show s.length < 60; omega), bind_s]
          obtain ⟨v, τ, e1, e2, e3⟩ := step 1
          exact ⟨v, τ, e1, by rw [evs_33, if_pos hx0]; exact e2, e3⟩
        · rw [if_neg hx0, wr_nI (by show s.length < 60; omega), bind_s]
          obtain ⟨v, τ, e1, e2, e3⟩ := step 0
          exact ⟨v, τ, e1, by rw [evs_33, if_neg hx0]; exact e2, e3⟩
      · rw [wfh_op ht hn] at h5
        by_cases ho : tokO it = true
        · rw [if_pos ho, Bool.and_eq_true, decide_eq_true_eq] at h5
          obtain ⟨-, -, c0, -, -⟩ := tokO_not ho
          obtain ⟨y, x, s, rfl⟩ : ∃ y x s, st = y :: x :: s := by
            match st, h5.1 with
            | y :: x :: s, _ => exact ⟨y, x, s, rfl⟩
          have hlen : (y :: x :: s).length = s.length + 2 := rfl
          simp only [hlen] at h6
          have p1 : (nI (s.length + 2) + -1 : Int32) = nI (s.length + 1) := by
            rw [← Int32.sub_eq_add_neg]
            exact nI_pred (s.length + 1)
          rw [if_pos c0, if_neg hn, hlen, p1, nI_pred, rd_nI (by show s.length < 60; omega), bind_s, rd_nI (by show s.length + 1 < 60; omega), bind_s, show σ.1 88 s.length = x from h7.2.1, show σ.1 88 (s.length + 1) = y from h7.1, done_dnv, bind_s, wr_nI (by show s.length < 60; omega), bind_s]
          obtain ⟨v, τ, e1, e2, e3⟩ := ih n (i + 1) (dnv it x y :: s) (sI σ 88 s.length (dnv it x y)) (by omega) (by omega) (fun q hq => by rw [sI_ne (by omega)]; exact hrow' q hq) h5.2 (by simp; omega) ⟨by rw [sI_at, if_pos rfl], h7.2.2.congr (fun q hq => by rw [sI_at, if_neg (by omega)])⟩ (by rw [sI_ne (by decide)]; exact n0) (by rw [sI_ne (by decide)]; exact n1) (by rw [sI_ne (by decide)]; exact n2)
          exact ⟨v, τ, e1, by rw [evs_op ht hn]; exact e2, fun x j hx => by rw [e3 x j hx, sI_ne hx]⟩
        · rw [if_neg ho] at h5
          cases h5
/-- what a use gives, by the row V -/
def gvr (V : Nat → Int32) (u : Nat) (a b c : Int32) : Int32 := if V (88 + u) ≤ 0 then (if u = 0 then a + 2 * b else a / 12) else (evs a b c (codeL V u (V (88 + u)).toNatClampNeg) []).headD 0
def gv (V : Nat → Int32) (u : Nat) (a b c : Int32) : Int32 := if u = 0 then imax (-30) (imin 30 (gvr V u a b c)) else imax 0 (imin 100 (gvr V u a b c))
/-- what the reference's working out stands on -/
def CW (V : Nat → Int32) (u : Nat) : Prop := ∃ n, n ≤ 50 ∧ V (88 + u) = nI n ∧ (n = 0 ∨ wfh (codeL V u n) 0 = true)
theorem CD.cw {k A u : Nat} {σ : Sto} (h : CD k A u σ) : CW (σ.1 A) u := by
  obtain ⟨n, q1, -, q3, -, q5⟩ := h
  exact ⟨n, q1, q3, q5⟩
theorem codeL_len {V : Nat → Int32} {u n : Nat} : (codeL V u n).length = n := by simp [codeL]
theorem codeL_at {V : Nat → Int32} {u n q : Nat} (h : q < n) : (codeL V u n).getD q 0 = V (110 + 50 * u + q) := by simp [codeL, List.getD_eq_getElem?_getD, h]
theorem gvr_some {V : Nat → Int32} {u n : Nat} (h0 : n ≠ 0) (hn : n ≤ 50) (e : V (88 + u) = nI n) (a b c v : Int32) (hv : evs a b c (codeL V u n) [] = [v]) : gvr V u a b c = v := by
  unfold gvr
  rw [e, if_neg (nI_nle (by omega) (by omega)), nI_clamp (by omega), hv]
  rfl
theorem give8 {σ : Sto} {k u : Nat} (hk : k = 4 ∧ u = 0 ∧ σ.1 4 0 = 0 ∨ k = 7 ∧ u = 1 ∧ σ.1 7 0 = 1) (h : CD k 82 u σ) (a b c : Int32) : ∃ τ, f_X1_give σ k a b c = some (gv (σ.1 82) u a b c, τ) ∧ ∀ x j, x ≠ k + 2 → τ.1 x j = σ.1 x j := by
  obtain ⟨n, q1, q2, q3, q4, q5⟩ := h
  have hk2 : k = 4 ∨ k = 7 := by omega
  have raw : ∃ τ, (if σ.1 k 3 ≤ 0 then some ((if u = 0 then a + 2 * b else a / 12), σ) else f_X1_workOut σ k a b c) = some (gvr (σ.1 82) u a b c, τ) ∧ ∀ x j, x ≠ k + 2 → τ.1 x j = σ.1 x j := by
    by_cases h0 : n = 0
    · subst h0
      refine ⟨σ, ?_, fun _ _ _ => rfl⟩
      rw [q2, if_pos (show (nI 0 : Int32) ≤ 0 by decide)]
      unfold gvr
      rw [q3, if_pos (show (nI 0 : Int32) ≤ 0 by decide)]
    · have hw := q5.resolve_left h0
      obtain ⟨v, τ, e1, e2, e3⟩ := wo_L hk2 a b c n q1 (codeL (σ.1 82) u n) FU 0 [] σ (by rw [codeL_len]; unfold FU; omega) (by rw [codeL_len]; omega) q2 (fun q hq => by
        rw [codeL_len] at hq
        rw [Nat.zero_add, q4 q hq, codeL_at hq]) hw (Nat.le_refl _) trivial
      refine ⟨τ, ?_, e3⟩
      rw [q2, if_neg (nI_nle (by omega) (by omega)), gvr_some h0 q1 q3 a b c v e2]
      exact e1
  obtain ⟨τ, t1, t2⟩ := raw
  refine ⟨τ, ?_, t2⟩
  unfold f_X1_give f_X8_heldWithin gv
  rcases hk with ⟨rfl, rfl, hu⟩ | ⟨rfl, rfl, hu⟩
  · rw [if_pos hu, if_pos rfl]
    by_cases h0 : σ.1 4 3 ≤ 0
    · rw [if_pos h0] at t1 ⊢
      rw [if_pos rfl] at t1
      obtain ⟨z1, z2⟩ := Prod.mk.inj (Option.some.inj t1)
      rw [bind_s, z1, z2]
    · rw [if_neg h0] at t1 ⊢
      rw [t1, bind_s, bind_s]
  · have hu' : ¬ σ.1 7 0 = 0 := by rw [hu]; decide
    rw [if_neg hu', if_neg (show ¬ (1 : Nat) = 0 by decide)]
    by_cases h0 : σ.1 7 3 ≤ 0
    · rw [if_pos h0] at t1 ⊢
      rw [if_neg (show ¬ (1 : Nat) = 0 by decide)] at t1
      obtain ⟨z1, z2⟩ := Prod.mk.inj (Option.some.inj t1)
      rw [bind_s, z1, z2]
    · rw [if_neg h0] at t1 ⊢
      rw [t1, bind_s, bind_s]
theorem give9 {σ : Sto} {u : Nat} (hu : u = 0 ∨ u = 1) (h : CW (σ.1 82) u) (a b c : Int32) : ∃ τ, f_X9_gives σ (nI u) a b c = some (gv (σ.1 82) u a b c, τ) ∧ ∀ x j, x ≠ 86 → x ≠ 88 → τ.1 x j = σ.1 x j := by
  obtain ⟨n, q1, q3, q5⟩ := h
  have e88 : (88 + nI u : Int32) = nI (88 + u) := nI_add 88 u
  have fin : ∀ (r : Int32) (τ : Sto), r = gvr (σ.1 82) u a b c → f_X9_gives_L74 (nI u) r τ = some (gv (σ.1 82) u a b c, τ) := by
    intro r τ hr
    subst hr
    unfold f_X9_gives_L74 gv
    rcases hu with rfl | rfl
    · rw [if_pos (by decide), if_pos rfl, held_eq _ _ _ (by decide), bind_s]
    · rw [if_neg (by decide), if_neg (by decide), held_eq _ _ _ (by decide), bind_s]
  have L16 : ∀ vs0 : Int32, vs0 = (if u = 0 then a + 2 * b else a / 12) → ∃ τ, f_X9_gives_L16 (nI u) a b c vs0 σ = some (gv (σ.1 82) u a b c, τ) ∧ ∀ x j, x ≠ 86 → x ≠ 88 → τ.1 x j = σ.1 x j := by
    intro vs0 hv
    unfold f_X9_gives_L16
    rw [e88, rd_nI (by show 88 + u < 270; omega), bind_s, q3]
    by_cases h0 : n = 0
    · subst h0
      rw [if_pos (show (nI 0 : Int32) ≤ 0 by decide)]
      refine ⟨σ, fin _ _ ?_, fun _ _ _ _ => rfl⟩
      rw [hv]
      unfold gvr
      rw [q3, if_pos (show (nI 0 : Int32) ≤ 0 by decide)]
    · rw [if_neg (nI_nle (by omega) (by omega)), wrA_86_0, bind_s, wrA_86_1, bind_s, wrA_86_2, bind_s, rd_nI (by show 88 + u < 270; omega), bind_s]
      generalize hω : sI (sI (sI σ 86 0 a) 86 1 b) 86 2 c = ω
      have w82 : ω.1 82 = σ.1 82 := by rw [← hω]; funext j; rw [sI_ne (by decide), sI_ne (by decide), sI_ne (by decide)]
      have eb : (110 + 50 * nI u : Int32) = nI (110 + 50 * u) := by rcases hu with rfl | rfl <;> rfl
      obtain ⟨v, τ, e1, e2, e3⟩ := wk_L a b c (110 + 50 * u) n (by omega) q1 (codeL (σ.1 82) u n) FU 0 [] ω (by rw [codeL_len]; unfold FU; omega) (by rw [codeL_len]; omega) (fun q hq => by
        rw [codeL_len] at hq
        rw [w82, codeL_at hq, Nat.add_zero]) (q5.resolve_left h0) (Nat.le_refl _) trivial (by rw [← hω]; rfl) (by rw [← hω]; rfl) (by rw [← hω]; rfl)
      rw [w82, q3, eb]
      unfold f_X9_worked
      rw [show f_X9_worked_L5 (nI (110 + 50 * u)) (nI n) FU 0 (nI (110 + 50 * u)) ω = some (v, τ) from e1, bind_s]
      refine ⟨τ, fin _ _ (gvr_some h0 q1 q3 a b c v e2).symm, fun x j h1 h2 => ?_⟩
      rw [e3 x j h2, ← hω, sI_ne h1, sI_ne h1, sI_ne h1]
  unfold f_X9_gives
  rcases hu with rfl | rfl
  · rw [if_pos (by decide)]; exact L16 _ rfl
  · rw [if_neg (by decide)]; exact L16 _ rfl
theorem Iw.cd {σ : Sto} (h : Iw σ) : CD 4 82 0 σ ∧ CD 7 82 1 σ := ⟨h.1.2.2.2.2.2.2.1, h.1.2.2.2.2.2.2.2⟩
/-- what the class's laws and flows stand on -/
def Ic (σ : Sto) : Prop := (∀ i, i < 6 → σ.1 2 i = σ.1 82 i) ∧ CD 4 82 0 σ ∧ CD 7 82 1 σ ∧ US σ
theorem Iw.ic {σ : Sto} (h : Iw σ) : Ic σ := ⟨h.1.1, h.cd.1, h.cd.2, h.2.2.2.2.2⟩
theorem Ic.keep {σ τ : Sto} (h : Ic σ) (hf : ∀ k j, k = 2 ∨ k = 4 ∨ k = 5 ∨ k = 7 ∨ k = 8 ∨ k = 82 → τ.1 k j = σ.1 k j) : Ic τ := by
  obtain ⟨h1, h2, h3, h4⟩ := h
  have d : τ.1 82 = σ.1 82 := funext fun j => hf 82 j (by omega)
  exact ⟨fun i hi => by rw [hf 2 i (by omega), hf 82 i (by omega)]; exact h1 i hi, h2.keep (fun j => hf 4 j (by omega)) (fun j => hf 5 j (by omega)) d, h3.keep (fun j => hf 7 j (by omega)) (fun j => hf 8 j (by omega)) d, by unfold US; rw [hf 4 0 (by omega), hf 7 0 (by omega)]; exact h4⟩
theorem Ic.fr {σ τ : Sto} (h : Ic σ) (hf : Fr σ τ) : Ic τ := h.keep (fun k j hk => hf k j (by rcases hk with rfl | rfl | rfl | rfl | rfl | rfl <;> simp [scr]))
theorem g8f {σ : Sto} (h : Ic σ) (a b c : Int32) : ∃ τ, f_X1_give σ 4 a b c = some (gv (σ.1 82) 0 a b c, τ) ∧ Fr σ τ ∧ ∀ x j, x ≠ 6 → τ.1 x j = σ.1 x j := by
  obtain ⟨τ, t1, t2⟩ := give8 (Or.inl ⟨rfl, rfl, h.2.2.2.1⟩) h.2.1 a b c
  exact ⟨τ, t1, fun k j hs => t2 k j (by rintro rfl; simp [scr] at hs), t2⟩
theorem g8c {σ : Sto} (h : Ic σ) (a b c : Int32) : ∃ τ, f_X1_give σ 7 a b c = some (gv (σ.1 82) 1 a b c, τ) ∧ Fr σ τ ∧ ∀ x j, x ≠ 9 → τ.1 x j = σ.1 x j := by
  obtain ⟨τ, t1, t2⟩ := give8 (Or.inr ⟨rfl, rfl, h.2.2.2.2⟩) h.2.2.1 a b c
  exact ⟨τ, t1, fun k j hs => t2 k j (by rintro rfl; simp [scr] at hs), t2⟩
theorem g9 {σ : Sto} {u : Nat} (hu : u = 0 ∨ u = 1) (h : CW (σ.1 82) u) (a b c : Int32) : ∃ τ, f_X9_gives σ (nI u) a b c = some (gv (σ.1 82) u a b c, τ) ∧ Fr σ τ ∧ ∀ x j, x ≠ 86 → x ≠ 88 → τ.1 x j = σ.1 x j := by
  obtain ⟨τ, t1, t2⟩ := give9 hu h a b c
  exact ⟨τ, t1, fun k j hs => t2 k j (by rintro rfl; simp [scr] at hs) (by rintro rfl; simp [scr] at hs), t2⟩
/-! Paces, lanes, places: a swim of either as one thing over a swimmer's nine numbers. -/
theorem r8_1 (σ : Sto) : f_X8_refuse σ 1 = some (-1000000000 - nI 1, rf σ 1) := refuse_nI (k := 1) (by decide) (by decide)
theorem r8_2 (σ : Sto) : f_X8_refuse σ 2 = some (-1000000000 - nI 2, rf σ 2) := refuse_nI (k := 2) (by decide) (by decide)
theorem r8_3 (σ : Sto) : f_X8_refuse σ 3 = some (-1000000000 - nI 3, rf σ 3) := refuse_nI (k := 3) (by decide) (by decide)
theorem r8_4 (σ : Sto) : f_X8_refuse σ 4 = some (-1000000000 - nI 4, rf σ 4) := refuse_nI (k := 4) (by decide) (by decide)
theorem r8_5 (σ : Sto) : f_X8_refuse σ 5 = some (-1000000000 - nI 5, rf σ 5) := refuse_nI (k := 5) (by decide) (by decide)
theorem r9_1 (σ : Sto) : f_X9_finds σ 1 = some (-1000000000 - nI 1, fi σ 1) := finds_nI (k := 1) (by decide)
theorem r9_2 (σ : Sto) : f_X9_finds σ 2 = some (-1000000000 - nI 2, fi σ 2) := finds_nI (k := 2) (by decide)
theorem r9_3 (σ : Sto) : f_X9_finds σ 3 = some (-1000000000 - nI 3, fi σ 3) := finds_nI (k := 3) (by decide)
theorem r9_4 (σ : Sto) : f_X9_finds σ 4 = some (-1000000000 - nI 4, fi σ 4) := finds_nI (k := 4) (by decide)
theorem r9_5 (σ : Sto) : f_X9_finds σ 5 = some (-1000000000 - nI 5, fi σ 5) := finds_nI (k := 5) (by decide)
theorem sameRow.d {σ τ : Sto} (h : sameRow σ τ) : τ.1 82 = σ.1 82 := funext fun j => h 82 j (Or.inl rfl)
theorem isO_01 {a : Int32} (h0 : ¬ a = 0) (h1 : ¬ a = 1) : isO a 0 1 = true := by
  cases h : isO a 0 1 with
  | true => rfl
  | false =>
    obtain ⟨j, hj, rfl⟩ := isO_nI (n := 1) rfl h
    rcases (show j = 0 ∨ j = 1 by omega) with rfl | rfl
    · exact absurd rfl h0
    · exact absurd rfl h1
theorem s_law (a1 a2 a3 a4 : Int32) (b : Bool) : LPr (fun σ => f_X8_law σ a1 a2 a3 a4) (fun σ => f_X9_law σ a1 a2 a3 a4) b Inv Inv := by
  refine pr_ro (fun σ => if a1 = 0 then .inl (gv (σ.1 82) 0 a2 a3 a4) else if a1 = 1 then .inl (gv (σ.1 82) 1 a2 a3 a4) else .inr 1) (fun σ τ h => by show _ = _; rw [h.d]) (fun σ h => ?_) (fun σ h => ?_) b
  · show C8 (f_X8_law σ a1 a2 a3 a4) σ _
    unfold f_X8_law f_X0_lawOf
    by_cases h0 : a1 = 0
    · simp only [if_pos h0]
      obtain ⟨τ, t1, t2, -⟩ := g8f h.ic a2 a3 a4
      refine ⟨τ, ?_, t2⟩
      rw [bind_s, onN_1, if_pos (by decide), show A0 1 9 = 4 by decide, t1, bind_s]
    · by_cases h1 : a1 = 1
      · simp only [if_neg h0, if_pos h1]
        obtain ⟨τ, t1, t2, -⟩ := g8c h.ic a2 a3 a4
        refine ⟨τ, ?_, t2⟩
        rw [bind_s, onN_1, if_pos (by decide), show A0 1 10 = 7 by decide, t1, bind_s]
      · simp only [if_neg h0, if_neg h1]
        refine ⟨σ, ?_, Fr.rf σ⟩
        rw [bind_s, onN_0, r8_1, bind_s]
  · show C9 (f_X9_law σ a1 a2 a3 a4) σ _
    unfold f_X9_law
    by_cases h0 : a1 = 0
    · subst h0
      obtain ⟨τ, t1, t2, -⟩ := g9 (Or.inl rfl) h.cd.1.cw a2 a3 a4
      simp only [if_pos]
      refine ⟨τ, ?_, t2⟩
      rw [in_0_1, bind_s, if_pos (by decide), show f_X9_gives σ 0 a2 a3 a4 = _ from t1, bind_s]
    · by_cases h1 : a1 = 1
      · subst h1
        obtain ⟨τ, t1, t2, -⟩ := g9 (Or.inr rfl) h.cd.2.cw a2 a3 a4
        simp only [if_neg h0, if_pos]
        refine ⟨τ, ?_, t2⟩
        rw [in_0_1, bind_s, if_pos (by decide), show f_X9_gives σ 1 a2 a3 a4 = _ from t1, bind_s]
      · simp only [if_neg h0, if_neg h1]
        refine ⟨σ, ?_, Fr.rf σ⟩
        rw [in_0_1, bind_s, isO_01 h0 h1, if_neg (by decide), r9_1, bind_s]
/-- the flow of a lane, with a wind -/
def flV (V : Nat → Int32) (w l : Int32) : Int32 := gv V 0 (V l.toNatClampNeg) w l
theorem flowOf8 {σ : Sto} (h : Ic σ) {i : Nat} (hi : i < 6) (w : Int32) : ∃ τ, f_X0_flowOf σ 1 (nI i) w = some (flV (σ.1 82) w (nI i), τ) ∧ Fr σ τ ∧ ∀ x j, x ≠ 6 → τ.1 x j = σ.1 x j := by
  obtain ⟨τ, t1, t2, t3⟩ := g8f h (σ.1 82 i) w (nI i)
  refine ⟨τ, ?_, t2, t3⟩
  unfold f_X0_flowOf flV
  rw [out_eq, bind_s, show isO (nI i) 0 5 = false from isO_lit (n := 5) (by omega) (by omega), if_neg (by decide), show A0 1 0 = 2 by decide, rd_nI (by show i < 6; omega), bind_s, show A0 1 9 = 4 by decide, show σ.1 2 i = σ.1 82 i from h.1 i hi, t1, bind_s, nI_clamp (by omega)]
theorem flowOf9 {σ : Sto} (h : CW (σ.1 82) 0) {i : Nat} (hi : i < 6) : ∃ τ, f_X9_flowOf σ (nI i) = some (flV (σ.1 82) (σ.1 82 6) (nI i), τ) ∧ Fr σ τ ∧ ∀ x j, x ≠ 86 → x ≠ 88 → τ.1 x j = σ.1 x j := by
  obtain ⟨τ, t1, t2, t3⟩ := g9 (Or.inl rfl) h (σ.1 82 i) (σ.1 82 6) (nI i)
  refine ⟨τ, ?_, t2, t3⟩
  unfold f_X9_flowOf flV
  rw [Int32.zero_add, rd_nI (by show i < 270; omega), bind_s, rdA_82_6, bind_s, show f_X9_gives σ 0 _ _ _ = _ from t1, bind_s, nI_clamp (by omega)]
theorem s_flow (a1 : Int32) (b : Bool) : LPr (fun σ => f_X8_flow σ a1) (fun σ => f_X9_flow σ a1) b Inv Inv := by
  refine pr_ro (fun σ => if isO a1 0 5 = true then .inr 1 else .inl (flV (σ.1 82) (σ.1 82 6) a1)) (fun σ τ h => by show _ = _; rw [h.d]) (fun σ h => ?_) (fun σ h => ?_) b
  · show C8 (f_X8_flow σ a1) σ _
    unfold f_X8_flow
    cases hq : isO a1 0 5 with
    | true =>
      refine ⟨σ, ?_, Fr.rf σ⟩
      rw [out_eq, bind_s, hq, if_pos rfl, r8_1, bind_s]
    | false =>
      obtain ⟨j, hj, rfl⟩ := isO_nI (n := 5) rfl hq
      obtain ⟨τ, t1, t2, -⟩ := flowOf8 h.ic (i := j) (by omega) (σ.1 1 1)
      refine ⟨τ, ?_, t2⟩
      rw [out_eq, bind_s, hq, if_neg (by decide), t1, bind_s, show σ.1 1 1 = σ.1 82 6 from h.mp (i := 6) (by decide)]
  · show C9 (f_X9_flow σ a1) σ _
    unfold f_X9_flow
    cases hq : isO a1 0 5 with
    | true =>
      refine ⟨σ, ?_, Fr.rf σ⟩
      rw [lane_eq, bind_s, hq, if_neg (by decide), r9_1, bind_s]
    | false =>
      obtain ⟨j, hj, rfl⟩ := isO_nI (n := 5) rfl hq
      obtain ⟨τ, t1, t2, -⟩ := flowOf9 h.cd.1.cw (i := j) (by omega)
      refine ⟨τ, ?_, t2⟩
      rw [lane_eq, bind_s, hq, if_pos (by decide), t1, bind_s]
theorem feel_L {V : Nat → Int32} (w : Int32) : ∀ (n j : Nat) (σ : Sto), j ≤ 6 → 6 < n + j → Ic σ → σ.1 82 = V → (∀ i, i < j → σ.1 59 i = flV V w (nI i)) → ∃ τ, f_X5_feel_L2 1 w n (nI j) σ = some τ ∧ (∀ i, i < 6 → τ.1 59 i = flV V w (nI i)) ∧ (∀ x y, x ≠ 6 → x ≠ 59 → τ.1 x y = σ.1 x y) := by
  intro n
  induction n with
  | zero => intro j σ h1 h2; omega
  | succ n ih =>
    intro j σ h1 h2 h3 h4 h5
    rw [f_X5_feel_L2]
    by_cases h : j = 6
    · subst h
      rw [if_pos (by decide)]
      exact ⟨σ, rfl, h5, fun _ _ _ _ => rfl⟩
    · obtain ⟨τ, t1, t2, t3⟩ := flowOf8 h3 (i := j) (by omega) w
      rw [if_neg (show ¬ (6 : Int32) ≤ nI j from nI_ge (b := 6) (by omega) (by omega)), t1, bind_s, wr_nI (by show j < 6; omega), bind_s, nI_1]
      have f1 : Fr σ (sI τ 59 j (flV (σ.1 82) w (nI j))) := t2.i (by simp [scr])
      obtain ⟨υ, u1, u2, u3⟩ := ih (j + 1) (sI τ 59 j (flV (σ.1 82) w (nI j))) (by omega) (by omega) (h3.fr f1) (f1.d.trans h4) (fun i hi => by
        rw [sI_at]
        by_cases hij : i = j
        · subst hij; rw [if_pos rfl, h4]
        · rw [if_neg hij, t3 59 i (by decide)]; exact h5 i (by omega))
      exact ⟨υ, u1, u2, fun x y hx hy => by rw [u3 x y hx hy, sI_ne hy, t3 x y hx]⟩
theorem feel_eq {σ : Sto} (h : Ic σ) (w : Int32) : ∃ τ, f_X5_feel σ 1 w = some τ ∧ (∀ i, i < 6 → τ.1 59 i = flV (σ.1 82) w (nI i)) ∧ (∀ x y, x ≠ 6 → x ≠ 59 → τ.1 x y = σ.1 x y) := feel_L w FU 0 σ (by omega) (by unfold FU; omega) h rfl (fun i hi => by omega)
theorem feel_fr {σ τ : Sto} (h : ∀ x y, x ≠ 6 → x ≠ 59 → τ.1 x y = σ.1 x y) : Fr σ τ := fun k j hs => h k j (by rintro rfl; simp [scr] at hs) (by rintro rfl; simp [scr] at hs)
-- paces
def GR (R : Nat → Int32) : Prop := ∀ j, j < 9 → oks j (R j) = true
def pPl (R : Nat → Int32) (t : Int32) : Int32 := if (5 : Int32) ≤ 20 + R 3 - t / 4 then 20 + R 3 - t / 4 else 5
def pPc (R : Nat → Int32) (t : Int32) : Int32 :=
  if R 0 = 1 then (if R 1 ≤ t then pPl R t / 2 else pPl R t + 20) else if R 0 = 2 then pPl R t + R 1 else if R 0 = 3 then 5 else if R 0 = 4 then (if (3 : Int32) < t then (if R 1 ≤ t then pPl R t / 2 else pPl R t + 20) else 0) else if R 0 = 5 then 20 + R 3 + R 1 else if R 0 = 6 then (if irem t 10 = R 1 then 0 else 5) else pPl R t
def pLn (R : Nat → Int32) (t : Nat) : Int32 := R (5 + min 3 (t / 10))
theorem GR.skill {R : Nat → Int32} (h : GR R) : ∃ a, a ≤ 30 ∧ R 3 = nI a := by
  have q := h 3 (by omega)
  unfold oks at q
  rw [if_neg (by omega), if_neg (by omega), if_pos rfl] at q
  obtain ⟨l, h1, h2⟩ := isO_nI (n := 30) rfl (not_t q)
  exact ⟨l, h1, h2⟩
theorem GR.lane {R : Nat → Int32} (h : GR R) {j : Nat} (hj : j < 4) : ∃ l, l < 6 ∧ R (5 + j) = nI l := by
  have q := h (5 + j) (by omega)
  unfold oks at q
  rw [if_neg (by omega), if_neg (by omega), if_neg (by omega), if_pos (by omega)] at q
  obtain ⟨l, h1, h2⟩ := isO_nI (n := 5) rfl (not_t q)
  exact ⟨l, by omega, h2⟩
theorem GR.side {R : Nat → Int32} (h : GR R) : R 2 = 0 ∨ R 2 = 1 := by
  have q := h 2 (by omega)
  unfold oks at q
  rw [if_neg (by omega), if_pos rfl] at q
  obtain ⟨l, h1, h2⟩ := isO_nI (n := 1) rfl (not_t q)
  rw [h2]
  rcases (show l = 0 ∨ l = 1 by omega) with rfl | rfl
  · exact Or.inl rfl
  · exact Or.inr rfl
theorem GR.pLn {R : Nat → Int32} (h : GR R) (t : Nat) : ∃ l, l < 6 ∧ pLn R t = nI l := h.lane (j := min 3 (t / 10)) (by omega)
theorem gr9 {V : Nat → Int32} (h : ∀ i, okv i (V i) = true) {p : Nat} (hp : p < 8) : GR (S9 V p) := fun _ hj => oks_of h hp hj
theorem steady0 : ∀ a, a ≤ 30 → (20 + nI a - 0 / 4 : Int32) = 20 + nI a ∧ (5 : Int32) ≤ 20 + nI a := by decide +kernel
theorem pace8 {σ : Sto} {k : Nat} (h : GR (S8 σ k)) (t : Int32) : f_X6_paceIn σ k t = some (pPc (S8 σ k) t) := by
  obtain ⟨a, ha, e3⟩ := h.skill
  obtain ⟨z1, z2⟩ := steady0 a ha
  have r0 : S8 σ k 0 = σ.1 k 0 := rfl
  have r1 : S8 σ k 1 = σ.1 k 1 := rfl
  have r3 : S8 σ k 3 = σ.1 k 3 := rfl
  have pl : ∀ t, f_X6_plainPace σ k t = some (pPl (S8 σ k) t) := by
    intro t
    unfold f_X6_plainPace pPl
    rw [r3]
    by_cases hc : (5 : Int32) ≤ 20 + σ.1 k 3 - t / 4
    · rw [if_pos hc, if_pos hc]
    · rw [if_neg hc, if_neg hc]
  have st : pPl (S8 σ k) 0 = 20 + σ.1 k 3 := by
    unfold pPl
    rw [← r3, e3, z1, if_pos z2]
  unfold f_X6_paceIn
  rw [pl t, bind_s]
  have e : (if σ.1 k 1 ≤ t then f_X6_paceIn_L24 σ k t (pPl (S8 σ k) t) (pPl (S8 σ k) t / 2) else f_X6_paceIn_L24 σ k t (pPl (S8 σ k) t) (pPl (S8 σ k) t + 20)) = f_X6_paceIn_L24 σ k t (pPl (S8 σ k) t) (if σ.1 k 1 ≤ t then pPl (S8 σ k) t / 2 else pPl (S8 σ k) t + 20) := by
    by_cases h1 : σ.1 k 1 ≤ t
    · rw [if_pos h1, if_pos h1]
    · rw [if_neg h1, if_neg h1]
  rw [e]
  unfold f_X6_paceIn_L24 pPc
  rw [pl 0, bind_s, st, r0, r1, r3]
  generalize (if σ.1 k 1 ≤ t then pPl (S8 σ k) t / 2 else pPl (S8 σ k) t + 20) = sp
  generalize pPl (S8 σ k) t = pp
  by_cases k1 : σ.1 k 0 = 1
  · rw [if_pos k1, if_pos k1]
  rw [if_neg k1, if_neg k1]
  by_cases k2 : σ.1 k 0 = 2
  · rw [if_pos k2, if_pos k2]
  rw [if_neg k2, if_neg k2]
  by_cases k3 : σ.1 k 0 = 3
  · rw [if_pos k3, if_pos k3]
  rw [if_neg k3, if_neg k3]
  by_cases k4 : σ.1 k 0 = 4
  · rw [if_pos k4, if_pos k4]
    by_cases h3 : (3 : Int32) < t
    · rw [if_pos h3, if_pos h3]
    · rw [if_neg h3, if_neg h3]
  rw [if_neg k4, if_neg k4]
  by_cases k5 : σ.1 k 0 = 5
  · rw [if_pos k5, if_pos k5]
  rw [if_neg k5, if_neg k5]
  by_cases k6 : σ.1 k 0 = 6
  · rw [if_pos k6, if_pos k6]
    by_cases hm : irem t 10 = σ.1 k 1
    · rw [if_pos hm, if_pos hm]
    · rw [if_neg hm, if_neg hm]
  rw [if_neg k6, if_neg k6]
theorem greater_eq (x : Int32) : f_X9_greater 5 x = some (if (5 : Int32) ≤ x then x else 5) := by
  unfold f_X9_greater
  by_cases h : (5 : Int32) ≤ x
  · rw [if_pos h, if_pos h]
  · rw [if_neg h, if_neg h]
theorem pace9 {σ : Sto} {p : Nat} (hp : p < 8) (t : Int32) : f_X9_paceOf σ (nI p) t = some (pPc (S9 (σ.1 82) p) t) := by
  have o0 : f_X9_of σ (nI p) 0 = some (S9 (σ.1 82) p 0) := of_eq hp (j := 0) (by omega)
  have o1 : f_X9_of σ (nI p) 1 = some (S9 (σ.1 82) p 1) := of_eq hp (j := 1) (by omega)
  have o3 : f_X9_of σ (nI p) 3 = some (S9 (σ.1 82) p 3) := of_eq hp (j := 3) (by omega)
  unfold f_X9_paceOf
  rw [o1, bind_s, o3, bind_s, greater_eq, bind_s]
  have ep : (if (5 : Int32) ≤ 20 + S9 (σ.1 82) p 3 - t / 4 then 20 + S9 (σ.1 82) p 3 - t / 4 else 5) = pPl (S9 (σ.1 82) p) t := rfl
  rw [ep]
  have e : (if S9 (σ.1 82) p 1 ≤ t then f_X9_paceOf_L43 σ (nI p) t (S9 (σ.1 82) p 1) (pPl (S9 (σ.1 82) p) t) (pPl (S9 (σ.1 82) p) t / 2) else f_X9_paceOf_L43 σ (nI p) t (S9 (σ.1 82) p 1) (pPl (S9 (σ.1 82) p) t) (pPl (S9 (σ.1 82) p) t + 20)) = f_X9_paceOf_L43 σ (nI p) t (S9 (σ.1 82) p 1) (pPl (S9 (σ.1 82) p) t) (if S9 (σ.1 82) p 1 ≤ t then pPl (S9 (σ.1 82) p) t / 2 else pPl (S9 (σ.1 82) p) t + 20) := by
    by_cases h1 : S9 (σ.1 82) p 1 ≤ t
    · rw [if_pos h1, if_pos h1]
    · rw [if_neg h1, if_neg h1]
  rw [e]
  unfold f_X9_paceOf_L43 pPc
  rw [o0, bind_s]
  generalize (if S9 (σ.1 82) p 1 ≤ t then pPl (S9 (σ.1 82) p) t / 2 else pPl (S9 (σ.1 82) p) t + 20) = sp
  generalize pPl (S9 (σ.1 82) p) t = pp
  by_cases k1 : S9 (σ.1 82) p 0 = 1
  · rw [if_pos k1, if_pos k1]
  rw [if_neg k1, if_neg k1]
  by_cases k2 : S9 (σ.1 82) p 0 = 2
  · rw [if_pos k2, if_pos k2]
  rw [if_neg k2, if_neg k2]
  by_cases k3 : S9 (σ.1 82) p 0 = 3
  · rw [if_pos k3, if_pos k3]
  rw [if_neg k3, if_neg k3]
  by_cases k4 : S9 (σ.1 82) p 0 = 4
  · rw [if_pos k4, if_pos k4]
    by_cases h3 : (3 : Int32) < t
    · rw [if_pos h3, if_pos h3]
    · rw [if_neg h3, if_neg h3]
  rw [if_neg k4, if_neg k4]
  by_cases k5 : S9 (σ.1 82) p 0 = 5
  · rw [if_pos k5, if_pos k5, o3, bind_s]
  rw [if_neg k5, if_neg k5]
  by_cases k6 : S9 (σ.1 82) p 0 = 6
  · rw [if_pos k6, if_pos k6]
    by_cases hm : irem t 10 = S9 (σ.1 82) p 1
    · rw [if_pos hm, if_pos hm]
    · rw [if_neg hm, if_neg hm]
  rw [if_neg k6, if_neg k6]
theorem div10 : ∀ t, t < 60 → (nI t / 10 : Int32) = nI (t / 10) := by decide +kernel
theorem lane8 {σ : Sto} {k : Nat} (hk : K0 k = 6) {t : Nat} (ht : t < 60) : f_X6_laneIn σ k (nI t) = some (pLn (S8 σ k) t) := by
  obtain ⟨A, Ln, -⟩ := sw6 hk
  have lo : ∀ i, i < 4 → f_X6_laneOf σ k (nI i) = some (S8 σ k (5 + i)) := by
    intro i hi
    unfold f_X6_laneOf S8
    rw [if_neg (nI_pos (by omega)), if_pos (show nI i < 4 from nI_lt (b := 4) hi (by omega)), A, rd_nI (by rw [Ln]; omega), bind_s, if_neg (by omega), show 5 + i - 5 = i by omega]
  unfold f_X6_laneIn pLn
  rw [div10 t ht]
  by_cases h4 : t / 10 < 4
  · rw [if_neg (show ¬ (4 : Int32) ≤ nI (t / 10) from nI_ge (b := 4) h4 (by omega)), lo _ h4, bind_s, show min 3 (t / 10) = t / 10 by omega]
  · rw [if_pos (show (4 : Int32) ≤ nI (t / 10) from nI_le (a := 4) (by omega) (by omega)), show f_X6_laneOf σ k 3 = _ from lo 3 (by omega), bind_s, show min 3 (t / 10) = 3 by omega]
theorem lane9 {σ : Sto} {p : Nat} (hp : p < 8) {t : Nat} (ht : t < 60) : f_X9_laneOf σ (nI p) (nI t) = some (pLn (S9 (σ.1 82) p) t) := by
  unfold f_X9_laneOf f_X9_lesser pLn
  rw [div10 t ht]
  by_cases h3 : t / 10 ≤ 3
  · rw [if_pos (show nI (t / 10) ≤ 3 from nI_le (b := 3) h3 (by omega)), bind_s, show (5 : Int32) = nI 5 from rfl, nI_add, of_eq hp (by omega), bind_s, show min 3 (t / 10) = t / 10 by omega]
  · rw [if_neg (show ¬ nI (t / 10) ≤ 3 from nI_ge (a := 3) (by omega) (by omega)), bind_s, show (5 + 3 : Int32) = nI 8 from rfl, of_eq hp (by omega), bind_s, show min 3 (t / 10) = 3 by omega]
def pGo (R : Nat → Int32) (fl : Int32 → Int32) (x : Int32) (t : Nat) : Int32 := imax 0 (imin 1200 (x + (if R 2 = 0 then pPc R (nI t) else -(pPc R (nI t))) + fl (pLn R t)))
def pPos (R : Nat → Int32) (fl : Int32 → Int32) : Nat → Int32
  | 0 => if R 2 = 0 then 0 else 1200
  | t + 1 => pGo R fl (pPos R fl t) t
/-- the class's flows are those of fl -/
def Fl (σ : Sto) (fl : Int32 → Int32) : Prop := ∀ i, i < 6 → σ.1 59 i = fl (nI i)
theorem next8 {σ : Sto} {k : Nat} (hk : K0 k = 6) (h : GR (S8 σ k)) {fl : Int32 → Int32} (hf : Fl σ fl) (x : Int32) {t : Nat} (ht : t < 60) : f_X5_placeNext σ k x (nI t) = some (pGo (S8 σ k) fl x t) := by
  obtain ⟨l, hl, el⟩ := h.pLn t
  have fi_ : f_X5_flowIn σ (nI l) = some (fl (nI l)) := by
    unfold f_X5_flowIn
    rw [out_eq, bind_s, show isO (nI l) 0 (6 - 1) = false from isO_lit (n := 5) (by omega) (by omega), if_neg (by decide), rd_nI (by show l < 6; omega), bind_s, hf l hl]
  unfold f_X5_placeNext f_X5_placeNext_L22 pGo f_X8_heldWithin
  rw [pace8 h, bind_s, show S8 σ k 2 = σ.1 k 2 from rfl]
  by_cases hs : σ.1 k 2 = 0
  · rw [if_pos hs, if_pos hs, lane8 hk ht, bind_s, el, fi_, bind_s, bind_s]
  · rw [if_neg hs, if_neg hs, lane8 hk ht, bind_s, el, fi_, bind_s, bind_s]
theorem goes9 {σ : Sto} (hc : CW (σ.1 82) 0) {p : Nat} (hp : p < 8) (h : GR (S9 (σ.1 82) p)) (x : Int32) {t : Nat} (ht : t < 60) : ∃ τ, f_X9_goes σ (nI p) x (nI t) = some (pGo (S9 (σ.1 82) p) (flV (σ.1 82) (σ.1 82 6)) x t, τ) ∧ ∀ a b, a ≠ 86 → a ≠ 88 → τ.1 a b = σ.1 a b := by
  obtain ⟨l, hl, el⟩ := h.pLn t
  obtain ⟨τ, t1, t2, t3⟩ := flowOf9 hc hl
  refine ⟨τ, ?_, t3⟩
  have o2 : f_X9_of σ (nI p) 2 = some (S9 (σ.1 82) p 2) := of_eq hp (j := 2) (by omega)
  unfold f_X9_goes f_X9_goes_L26 pGo
  rw [pace9 hp, bind_s, o2, bind_s]
  by_cases hs : S9 (σ.1 82) p 2 = 0
  · rw [if_pos hs, if_pos hs, lane9 hp ht, bind_s, el, t1, bind_s, held_eq _ _ _ (by decide), bind_s]
  · rw [if_neg hs, if_neg hs, lane9 hp ht, bind_s, el, t1, bind_s, held_eq _ _ _ (by decide), bind_s]
theorem shore8 {σ : Sto} {k : Nat} {fl : Int32 → Int32} : f_X6_shore σ k = some (pPos (S8 σ k) fl 0) := by
  unfold f_X6_shore
  show _ = some (if S8 σ k 2 = 0 then 0 else 1200)
  rw [show S8 σ k 2 = σ.1 k 2 from rfl]
  by_cases h : σ.1 k 2 = 0
  · rw [if_pos h, if_pos h]
  · rw [if_neg h, if_neg h]
theorem S8_congr {σ τ : Sto} {k : Nat} (h1 : ∀ j, τ.1 k j = σ.1 k j) (h2 : ∀ j, τ.1 (k + 1) j = σ.1 (k + 1) j) : S8 τ k = S8 σ k := by
  funext j
  unfold S8
  rw [h1, h2]
theorem sw_eq {σ : Sto} (h : Iw σ) {p : Nat} (hp : p < NN (σ.1 82)) (j : Nat) (hj : j < 9) : S8 σ (12 + 2 * p) j = S9 (σ.1 82) p j := sw8 h hp hj
/-- functions of a swimmer look at nine numbers alone -/
def Eq9 (A B : Nat → Int32) : Prop := ∀ j, j < 9 → A j = B j
theorem Eq9.gr {A B : Nat → Int32} (h : Eq9 A B) (g : GR B) : GR A := fun j hj => by rw [h j hj]; exact g j hj
theorem Eq9.pl {A B : Nat → Int32} (h : Eq9 A B) (t : Int32) : pPl A t = pPl B t := by unfold pPl; rw [h 3 (by omega)]
theorem Eq9.pc {A B : Nat → Int32} (h : Eq9 A B) (t : Int32) : pPc A t = pPc B t := by unfold pPc; rw [h.pl, h 0 (by omega), h 1 (by omega), h 3 (by omega)]
theorem Eq9.ln {A B : Nat → Int32} (h : Eq9 A B) (t : Nat) : pLn A t = pLn B t := h _ (by omega)
theorem Eq9.go {A B : Nat → Int32} (h : Eq9 A B) (fl : Int32 → Int32) (x : Int32) (t : Nat) : pGo A fl x t = pGo B fl x t := by unfold pGo; rw [h.pc, h.ln, h 2 (by omega)]
theorem Eq9.pos {A B : Nat → Int32} (h : Eq9 A B) (fl : Int32 → Int32) : ∀ t, pPos A fl t = pPos B fl t := by
  intro t
  induction t with
  | zero => unfold pPos; rw [h 2 (by omega)]
  | succ t ih => unfold pPos; rw [ih, h.go]
theorem sw_Eq9 {σ : Sto} (h : Iw σ) {p : Nat} (hp : p < NN (σ.1 82)) : Eq9 (S8 σ (12 + 2 * p)) (S9 (σ.1 82) p) := fun j hj => sw8 h hp hj
theorem swm_fr {σ τ : Sto} (h : ∀ x y, x ≠ 6 → x ≠ 59 → τ.1 x y = σ.1 x y) {p : Nat} (hp : p < 8) : S8 τ (12 + 2 * p) = S8 σ (12 + 2 * p) := S8_congr (fun j => h _ j (by omega) (by omega)) (fun j => h _ j (by omega) (by omega))
theorem s_pace (a1 a2 : Int32) (b : Bool) : LPr (fun σ => f_X8_pace σ a1 a2) (fun σ => f_X9_pace σ a1 a2) b Inv Inv := by
  refine pr_ro (fun σ => if isO a1 0 (σ.1 82 12 - 1) = true then .inr 1 else if isO a2 0 59 = true then .inr 1 else .inl (pPc (S9 (σ.1 82) a1.toNatClampNeg) a2)) (fun σ τ h => by show _ = _; rw [h.d]) (fun σ h => ?_) (fun σ h => ?_) b
  · show C8 (f_X8_pace σ a1 a2) σ _
    unfold f_X8_pace
    rcases sA8 h a1 with ⟨q, e⟩ | ⟨p, hp, hpN, rfl, q, e⟩
    · simp only [q, if_true]
      exact ⟨σ, by rw [e, bind_s, onN_0, r8_1, bind_s], Fr.rf σ⟩
    · simp only [q, Bool.false_eq_true, if_false]
      cases h2 : isO a2 0 59 with
      | true => exact ⟨σ, by rw [e, bind_s, onN_1, out_eq, bind_s, h2, if_pos rfl, r8_1, bind_s], Fr.rf σ⟩
      | false =>
        refine ⟨σ, ?_, Fr.rf σ⟩
        rw [e, bind_s, onN_1, out_eq, bind_s, h2, if_neg (by decide), if_pos (K12 p hp), pace8 ((sw_Eq9 h hpN).gr (gr9 h.ok hp)), bind_s, (sw_Eq9 h hpN).pc, nI_clamp (by omega)]
  · show C9 (f_X9_pace σ a1 a2) σ _
    unfold f_X9_pace
    rcases sA8 h a1 with ⟨q, e⟩ | ⟨p, hp, hpN, rfl, q, e⟩
    · simp only [q, if_true]
      exact ⟨σ, by rw [isS_eq, bind_s, q, if_neg (by decide), r9_1, bind_s], Fr.rf σ⟩
    · simp only [q, Bool.false_eq_true, if_false]
      cases h2 : isO a2 0 59 with
      | true => exact ⟨σ, by rw [isS_eq, bind_s, q, if_pos (by decide), in_0_59, bind_s, h2, if_neg (by decide), r9_1, bind_s], Fr.rf σ⟩
      | false => exact ⟨σ, by rw [isS_eq, bind_s, q, if_pos (by decide), in_0_59, bind_s, h2, if_pos (by decide), pace9 hp, bind_s, nI_clamp (by omega)], Fr.rf σ⟩
theorem behind_L {σ : Sto} {k : Nat} (hk : K0 k = 6) (h : GR (S8 σ k)) {fl : Int32 → Int32} (hf : Fl σ fl) {m : Nat} (hm : m ≤ 60) : ∀ (n j : Nat), j ≤ m → m < n + j → f_X5_placeBehind_L8 σ k (nI m) n (pPos (S8 σ k) fl j) (nI j) = some (pPos (S8 σ k) fl m) := by
  intro n
  induction n with
  | zero => intro j h1 h2; omega
  | succ n ih =>
    intro j h1 h2
    rw [f_X5_placeBehind_L8]
    by_cases hj : j = m
    · subst hj
      rw [if_pos (nI_le (Nat.le_refl _) (by omega))]
    · rw [if_neg (nI_ge (by omega) (by omega)), next8 hk h hf _ (by omega), bind_s, nI_1]
      exact ih (j + 1) (by omega) (by omega)
theorem where_L {V : Nat → Int32} (hV : ∀ i, okv i (V i) = true) (hc : CW V 0) {p : Nat} (hp : p < 8) {m : Nat} (hm : m ≤ 60) : ∀ (n j : Nat) (σ : Sto), j ≤ m → m < n + j → σ.1 82 = V → ∃ τ, f_X9_where_L46 (nI p) (nI m) n (pPos (S9 V p) (flV V (V 6)) j) (nI j) σ = some (pPos (S9 V p) (flV V (V 6)) m, τ) ∧ ∀ a b, a ≠ 86 → a ≠ 88 → τ.1 a b = σ.1 a b := by
  intro n
  induction n with
  | zero => intro j σ h1 h2; omega
  | succ n ih =>
    intro j σ h1 h2 h3
    rw [f_X9_where_L46]
    by_cases hj : j = m
    · subst hj
      rw [if_pos (nI_le (Nat.le_refl _) (by omega))]
      exact ⟨σ, rfl, fun _ _ _ _ => rfl⟩
    · obtain ⟨τ, t1, t2⟩ := goes9 (σ := σ) (by rw [h3]; exact hc) hp (by rw [h3]; exact gr9 hV hp) (pPos (S9 V p) (flV V (V 6)) j) (t := j) (by omega)
      rw [h3] at t1
      rw [if_neg (nI_ge (by omega) (by omega)), t1, bind_s, nI_1]
      obtain ⟨υ, u1, u2⟩ := ih (j + 1) τ (by omega) (by omega) (by rw [← h3]; funext i; exact t2 82 i (by decide) (by decide))
      refine ⟨υ, ?_, fun a b ha hb => by rw [u2 a b ha hb, t2 a b ha hb]⟩
      rw [← u1, pPos]
theorem fr_9 {σ τ : Sto} (h : ∀ a b, a ≠ 86 → a ≠ 88 → τ.1 a b = σ.1 a b) : Fr σ τ := fun k j hs => h k j (by rintro rfl; simp [scr] at hs) (by rintro rfl; simp [scr] at hs)
theorem s_where (a1 a2 : Int32) (b : Bool) : LPr (fun σ => f_X8_where σ a1 a2) (fun σ => f_X9_where σ a1 a2) b Inv Inv := by
  refine pr_ro (fun σ => if isO a1 0 (σ.1 82 12 - 1) = true then .inr 1 else if isO a2 0 60 = true then .inr 1 else .inl (pPos (S9 (σ.1 82) a1.toNatClampNeg) (flV (σ.1 82) (σ.1 82 6)) a2.toNatClampNeg)) (fun σ τ h => by show _ = _; rw [h.d]) (fun σ h => ?_) (fun σ h => ?_) b
  · show C8 (f_X8_where σ a1 a2) σ _
    unfold f_X8_where
    rcases sA8 h a1 with ⟨q, e⟩ | ⟨p, hp, hpN, rfl, q, e⟩
    · simp only [q, if_true]
      exact ⟨σ, by rw [e, bind_s, onN_0, r8_1, bind_s], Fr.rf σ⟩
    · simp only [q, Bool.false_eq_true, if_false]
      cases h2 : isO a2 0 60 with
      | true => exact ⟨σ, by rw [e, bind_s, onN_1, out_eq, bind_s, h2, if_pos rfl, r8_1, bind_s], Fr.rf σ⟩
      | false =>
        obtain ⟨m, hm, rfl⟩ := isO_nI (n := 60) rfl h2
        obtain ⟨τ, t1, t2, t3⟩ := feel_eq h.ic (σ.1 1 1)
        have hf : Fl τ (flV (σ.1 82) (σ.1 82 6)) := by rw [← h.mp (i := 6) (j := 1) (by decide)]; exact t2
        have e9 : Eq9 (S8 τ (12 + 2 * p)) (S9 (σ.1 82) p) := by rw [swm_fr t3 hp]; exact sw_Eq9 h hpN
        refine ⟨τ, ?_, feel_fr t3⟩
        unfold f_X5_placeBehind
        rw [e, bind_s, onN_1, out_eq, bind_s, h2, if_neg (by decide), t1, bind_s, if_pos (K12 p hp), shore8 (fl := flV (σ.1 82) (σ.1 82 6)), bind_s, show (0 : Int32) = nI 0 from rfl, behind_L (K12 p hp) (e9.gr (gr9 h.ok hp)) hf hm FU 0 (by omega) (by unfold FU; omega), bind_s, e9.pos, nI_clamp (by omega), nI_clamp (by omega)]
  · show C9 (f_X9_where σ a1 a2) σ _
    unfold f_X9_where f_X9_where_L42
    rcases sA8 h a1 with ⟨q, e⟩ | ⟨p, hp, hpN, rfl, q, e⟩
    · simp only [q, if_true]
      exact ⟨σ, by rw [isS_eq, bind_s, q, if_neg (by decide), r9_1, bind_s], Fr.rf σ⟩
    · simp only [q, Bool.false_eq_true, if_false]
      cases h2 : isO a2 0 60 with
      | true => exact ⟨σ, by rw [isS_eq, bind_s, q, if_pos (by decide), in_0_60, bind_s, h2, if_neg (by decide), r9_1, bind_s], Fr.rf σ⟩
      | false =>
        obtain ⟨m, hm, rfl⟩ := isO_nI (n := 60) rfl h2
        obtain ⟨τ, t1, t2⟩ := where_L h.ok h.cd.1.cw hp hm FU 0 σ (by omega) (by unfold FU; omega) rfl
        have o2 : f_X9_of σ (nI p) 2 = some (S9 (σ.1 82) p 2) := of_eq hp (j := 2) (by omega)
        refine ⟨τ, ?_, fr_9 t2⟩
        rw [isS_eq, bind_s, q, if_pos (by decide), in_0_60, bind_s, h2, if_pos (by decide), o2, bind_s, nI_clamp (by omega), nI_clamp (by omega), ← t1]
        unfold pPos
        by_cases hs : S9 (σ.1 82) p 2 = 0
        · rw [if_pos hs, if_pos hs]; rfl
        · rw [if_neg hs, if_neg hs]; rfl
/-! A meeting, as either finds it. -/
theorem lp_b {β : Type} (x : Sto) (f : Sto → β) : lp x f = f x := rfl
def gapT (A B : Nat → Int32) (fl : Int32 → Int32) (t : Nat) : Int32 := if A 2 = 0 then pPos B fl t - pPos A fl t else pPos A fl t - pPos B fl t
def mtT (A B : Nat → Int32) (fl : Int32 → Int32) (s : Int32) (t : Nat) : Bool := decide (pLn A t = pLn B t) && !decide (s < gapT A B fl (t + 1))
def mtD (A B : Nat → Int32) (fl : Int32 → Int32) (s : Int32) : Nat → Option Nat
  | 0 => none
  | d + 1 => if mtT A B fl s (59 - d) = true then some (59 - d) else mtD A B fl s d
def met (A B : Nat → Int32) (fl : Int32 → Int32) (s : Int32) : Option Nat := mtD A B fl s 60
def metP (A B : Nat → Int32) (fl : Int32 → Int32) (u : Nat) : Int32 := (pPos A fl (u + 1) + pPos B fl (u + 1)) / 2
theorem mtD_lt {A B : Nat → Int32} {fl : Int32 → Int32} {s : Int32} : ∀ {d u : Nat}, d ≤ 60 → mtD A B fl s d = some u → u < 60 := by
  intro d
  induction d with
  | zero => intro u _ h; cases h
  | succ d ih =>
    intro u hd h
    rw [mtD] at h
    by_cases hm : mtT A B fl s (59 - d) = true
    · rw [if_pos hm] at h
      cases h
      omega
    · rw [if_neg hm] at h
      exact ih (by omega) h
theorem met_lt {A B : Nat → Int32} {fl : Int32 → Int32} {s : Int32} {u : Nat} (h : met A B fl s = some u) : u < 60 := mtD_lt (Nat.le_refl _) h
theorem Eq9.gap {A B A' B' : Nat → Int32} (h : Eq9 A A') (h' : Eq9 B B') (fl : Int32 → Int32) (t : Nat) : gapT A B fl t = gapT A' B' fl t := by unfold gapT; rw [h 2 (by omega), h.pos, h'.pos]
theorem Eq9.mT {A B A' B' : Nat → Int32} (h : Eq9 A A') (h' : Eq9 B B') (fl : Int32 → Int32) (s : Int32) (t : Nat) : mtT A B fl s t = mtT A' B' fl s t := by unfold mtT; rw [h.ln, h'.ln, h.gap h']
theorem Eq9.mD {A B A' B' : Nat → Int32} (h : Eq9 A A') (h' : Eq9 B B') (fl : Int32 → Int32) (s : Int32) : ∀ d, mtD A B fl s d = mtD A' B' fl s d := by
  intro d
  induction d with
  | zero => rfl
  | succ d ih => rw [mtD, mtD, h.mT h', ih]
theorem Eq9.me {A B A' B' : Nat → Int32} (h : Eq9 A A') (h' : Eq9 B B') (fl : Int32 → Int32) (s : Int32) : met A B fl s = met A' B' fl s := h.mD h' fl s 60
theorem Eq9.mP {A B A' B' : Nat → Int32} (h : Eq9 A A') (h' : Eq9 B B') (fl : Int32 → Int32) (u : Nat) : metP A B fl u = metP A' B' fl u := by unfold metP; rw [h.pos, h'.pos]
/-- the flows matter only in the six lanes -/
theorem meets_L {k1 k2 : Nat} (hk1 : K0 k1 = 6) (hk2 : K0 k2 = 6) {A B : Nat → Int32} (hA : GR A) (hB : GR B) {fl : Int32 → Int32} (s : Int32) : ∀ (d n : Nat) (σ : Sto), d < n → d ≤ 60 → Fl σ fl → S8 σ k1 = A → S8 σ k2 = B → σ.1 58 4 = pPos A fl (60 - d) → σ.1 58 5 = pPos B fl (60 - d) →
    ∃ τ, f_X5_meets_L9 k1 k2 s n (nI (60 - d)) σ = some ((mtD A B fl s d).isSome, τ) ∧ (∀ a b, a ≠ 58 → τ.1 a b = σ.1 a b) ∧ ∀ u, mtD A B fl s d = some u → τ.1 58 1 = nI u ∧ τ.1 58 2 = metP A B fl u ∧ τ.1 58 3 = pLn A u := by
  have n1 : k1 ≠ 58 := by rintro rfl; revert hk1; decide
  have n1' : k1 + 1 ≠ 58 := by intro h; have : k1 = 57 := by omega
                               subst this; revert hk1; decide
  have n2 : k2 ≠ 58 := by rintro rfl; revert hk2; decide
  have n2' : k2 + 1 ≠ 58 := by intro h; have : k2 = 57 := by omega
                               subst this; revert hk2; decide
  intro d
  induction d with
  | zero =>
    intro n σ h1 _ _ _ _ _ _
    obtain ⟨n, rfl⟩ : ∃ n', n = n' + 1 := ⟨n - 1, by omega⟩
    refine ⟨σ, ?_, fun _ _ _ => rfl, fun u hu => by cases hu⟩
    rw [f_X5_meets_L9, if_pos (by decide)]
    rfl
  | succ d ih =>
    intro n σ h1 h2 hf e1 e2 e4 e5
    obtain ⟨n, rfl⟩ : ∃ n', n = n' + 1 := ⟨n - 1, by omega⟩
    obtain ⟨t, ht, hd⟩ : ∃ t, t < 60 ∧ d = 59 - t := ⟨59 - d, by omega, by omega⟩
    have hu1 : 60 - (d + 1) = t := by omega
    have hu2 : 60 - d = t + 1 := by omega
    rw [hu1] at e4 e5 ⊢
    have hstep : mtD A B fl s (d + 1) = if mtT A B fl s t = true then some t else mtD A B fl s d := by rw [mtD, show 59 - d = t by omega]
    generalize h1' : sI σ 58 4 (pPos A fl (t + 1)) = σ1
    generalize h2' : sI σ1 58 5 (pPos B fl (t + 1)) = σ2
    have o1 : ∀ a b, a ≠ 58 → σ1.1 a b = σ.1 a b := fun a b h => by rw [← h1', sI_ne h]
    have o2 : ∀ a b, a ≠ 58 → σ2.1 a b = σ.1 a b := fun a b h => by rw [← h2', sI_ne h, o1 a b h]
    have a1 : ∀ {τ : Sto}, (∀ a b, a ≠ 58 → τ.1 a b = σ.1 a b) → S8 τ k1 = A ∧ S8 τ k2 = B ∧ Fl τ fl := fun {τ} o => ⟨by rw [← e1]; exact S8_congr (fun j => o _ j n1) (fun j => o _ j n1'), by rw [← e2]; exact S8_congr (fun j => o _ j n2) (fun j => o _ j n2'), fun i hi => by rw [o 59 i (by decide)]; exact hf i hi⟩
    obtain ⟨p1, p2, p3⟩ := a1 (τ := σ1) o1
    obtain ⟨q1, q2, q3⟩ := a1 (τ := σ2) o2
    have x1 : f_X5_placeNext σ k1 (σ.1 58 4) (nI t) = some (pPos A fl (t + 1)) := by
      rw [e4, next8 hk1 (by rw [e1]; exact hA) hf _ ht, e1, pPos]
    have x2 : f_X5_placeNext σ1 k2 (σ1.1 58 5) (nI t) = some (pPos B fl (t + 1)) := by
      rw [show σ1.1 58 5 = pPos B fl t by rw [← h1', sI_nj (by decide), e5], next8 hk2 (by rw [p2]; exact hB) p3 _ ht, p2, pPos]
    have x3 : f_X6_laneIn σ2 k1 (nI t) = some (pLn A t) := by rw [lane8 hk1 ht, q1]
    have x4 : f_X6_laneIn σ2 k2 (nI t) = some (pLn B t) := by rw [lane8 hk2 ht, q2]
    have g4 : σ2.1 58 4 = pPos A fl (t + 1) := by rw [← h2', sI_nj (by decide), ← h1', sI_at, if_pos rfl]
    have g5 : σ2.1 58 5 = pPos B fl (t + 1) := by rw [← h2', sI_at, if_pos rfl]
    have x5 : f_X5_gap σ2 k1 = some (gapT A B fl (t + 1)) := by
      unfold f_X5_gap gapT
      rw [show σ2.1 k1 2 = A 2 by rw [← q1]; rfl, g4, g5]
      by_cases h : A 2 = 0
      · rw [if_pos h, if_pos h]
      · rw [if_neg h, if_neg h]
    have next : mtT A B fl s t = false → ∃ τ, f_X5_meets_L9 k1 k2 s n (nI t + 1) σ2 = some ((mtD A B fl s (d + 1)).isSome, τ) ∧ (∀ a b, a ≠ 58 → τ.1 a b = σ.1 a b) ∧ ∀ u, mtD A B fl s (d + 1) = some u → τ.1 58 1 = nI u ∧ τ.1 58 2 = metP A B fl u ∧ τ.1 58 3 = pLn A u := by
      intro hm
      rw [hstep, hm, if_neg (by decide), nI_1, ← hu2]
      obtain ⟨τ, t1, t2, t3⟩ := ih n σ2 (by omega) (by omega) q3 q1 q2 (by rw [g4, hu2]) (by rw [g5, hu2])
      exact ⟨τ, t1, fun a b h => by rw [t2 a b h, o2 a b h], t3⟩
    rw [f_X5_meets_L9, if_neg (show ¬ (60 : Int32) ≤ nI t from nI_ge (b := 60) ht (by omega)), x1, bind_s, lp_b, h1', x2, bind_s, lp_b, h2', x3, bind_s, x4, bind_s]
    unfold f_X5_meets_L103
    by_cases hl : pLn A t = pLn B t
    · rw [if_pos hl, x5, bind_s]
      by_cases hg : s < gapT A B fl (t + 1)
      · rw [if_pos hg]
        exact next (by unfold mtT; rw [decide_eq_true hg]; simp)
      · have hm : mtT A B fl s t = true := by unfold mtT; rw [decide_eq_true hl, decide_eq_false hg]; rfl
        rw [if_neg hg, hstep, hm, if_pos rfl, lp_b]
        generalize h3' : sI σ2 58 1 (nI t) = σ3
        have z4 : σ3.1 58 4 = pPos A fl (t + 1) := by rw [← h3', sI_nj (by decide), g4]
        have z5 : σ3.1 58 5 = pPos B fl (t + 1) := by rw [← h3', sI_nj (by decide), g5]
        rw [lp_b, z4, z5]
        generalize h4' : sI σ3 58 2 ((pPos A fl (t + 1) + pPos B fl (t + 1)) / 2) = σ4
        have o4 : ∀ a b, a ≠ 58 → σ4.1 a b = σ.1 a b := fun a b h => by rw [← h4', sI_ne h, ← h3', sI_ne h, o2 a b h]
        rw [lane8 hk1 ht, (a1 o4).1, bind_s, lp_b]
        refine ⟨_, rfl, fun a b h => by rw [sI_ne h, o4 a b h], fun u hu => ?_⟩
        cases hu
        refine ⟨?_, ?_, by rw [sI_at, if_pos rfl]⟩
        · rw [sI_nj (by decide), ← h4', sI_nj (by decide), ← h3', sI_at, if_pos rfl]
        · rw [sI_nj (by decide), ← h4', sI_at, if_pos rfl]
          rfl
    · rw [if_neg hl]
      exact next (by unfold mtT; rw [decide_eq_false hl]; rfl)
theorem meets8 {k1 k2 : Nat} (hk1 : K0 k1 = 6) (hk2 : K0 k2 = 6) {σ : Sto} {A B : Nat → Int32} (hA : GR A) (hB : GR B) (eA : Eq9 (S8 σ k1) A) (eB : Eq9 (S8 σ k2) B) {fl : Int32 → Int32} (hf : Fl σ fl) (s : Int32) :
    ∃ τ, f_X5_meets σ k1 k2 s = some ((met A B fl s).isSome, τ) ∧ (∀ a b, a ≠ 58 → τ.1 a b = σ.1 a b) ∧ ∀ u, met A B fl s = some u → τ.1 58 1 = nI u ∧ τ.1 58 2 = metP A B fl u ∧ τ.1 58 3 = pLn A u := by
  have n1 : k1 ≠ 58 := by rintro rfl; revert hk1; decide
  have n1' : k1 + 1 ≠ 58 := by intro h; have : k1 = 57 := by omega
                               subst this; revert hk1; decide
  have n2 : k2 ≠ 58 := by rintro rfl; revert hk2; decide
  have n2' : k2 + 1 ≠ 58 := by intro h; have : k2 = 57 := by omega
                               subst this; revert hk2; decide
  generalize h1' : sI σ 58 4 (pPos (S8 σ k1) fl 0) = σ1
  generalize h2' : sI σ1 58 5 (pPos (S8 σ k2) fl 0) = σ2
  have o1 : ∀ a b, a ≠ 58 → σ1.1 a b = σ.1 a b := fun a b h => by rw [← h1', sI_ne h]
  have o2 : ∀ a b, a ≠ 58 → σ2.1 a b = σ.1 a b := fun a b h => by rw [← h2', sI_ne h, o1 a b h]
  have b2 : S8 σ1 k2 = S8 σ k2 := S8_congr (fun j => o1 _ j n2) (fun j => o1 _ j n2')
  have c1 : S8 σ2 k1 = S8 σ k1 := S8_congr (fun j => o2 _ j n1) (fun j => o2 _ j n1')
  have c2 : S8 σ2 k2 = S8 σ k2 := S8_congr (fun j => o2 _ j n2) (fun j => o2 _ j n2')
  obtain ⟨τ, t1, t2, t3⟩ := meets_L hk1 hk2 (eA.gr hA) (eB.gr hB) (fl := fl) s 60 FU σ2 (by unfold FU; omega) (by omega) (fun i hi => by rw [o2 59 i (by decide)]; exact hf i hi) c1 c2 (by rw [← h2', sI_nj (by decide), ← h1', sI_at, if_pos rfl]) (by rw [← h2', sI_at, if_pos rfl])
  have em : mtD (S8 σ k1) (S8 σ k2) fl s 60 = met A B fl s := eA.me eB fl s
  rw [em] at t1 t3
  refine ⟨τ, ?_, fun a b h => by rw [t2 a b h, o2 a b h], fun u hu => ?_⟩
  · unfold f_X5_meets f_X5_begin
    rw [shore8 (fl := fl), bind_s, lp_b, h1', shore8 (fl := fl), bind_s, b2, lp_b, h2', bind_s]
    exact t1
  · obtain ⟨v1, v2, v3⟩ := t3 u hu
    exact ⟨v1, by rw [v2, eA.mP eB], by rw [v3, eA.ln]⟩
theorem met_sym {A B : Nat → Int32} (hA : A 2 = 0) (hB : ¬ B 2 = 0) (fl : Int32 → Int32) (s : Int32) : met B A fl s = met A B fl s := by
  have hm : ∀ t, mtT B A fl s t = mtT A B fl s t := by
    intro t
    unfold mtT gapT
    rw [if_pos hA, if_neg hB]
    by_cases h : pLn A t = pLn B t
    · rw [decide_eq_true h, decide_eq_true h.symm]
    · rw [decide_eq_false h, decide_eq_false (fun z => h z.symm)]
  have hd : ∀ d, mtD B A fl s d = mtD A B fl s d := by
    intro d
    induction d with
    | zero => rfl
    | succ d ih => rw [mtD, mtD, hm, ih]
  exact hd 60
theorem metP_sym (A B : Nat → Int32) (fl : Int32 → Int32) (u : Nat) : metP B A fl u = metP A B fl u := by unfold metP; rw [Int32.add_comm]
/-- what a swim of the reference leaves alone -/
def Fs (σ τ : Sto) : Prop := ∀ a b, a ≠ 86 → a ≠ 88 → ¬ (a = 81 ∧ (b = 15 ∨ b = 16)) → τ.1 a b = σ.1 a b
theorem Fs.fr {σ τ : Sto} (h : Fs σ τ) : Fr σ τ := fun k j hs => h k j (by rintro rfl; simp [scr] at hs) (by rintro rfl; simp [scr] at hs) (by rintro ⟨rfl, rfl | rfl⟩ <;> simp [scr] at hs)
theorem Fs.tr {σ τ υ : Sto} (h : Fs σ τ) (h' : Fs τ υ) : Fs σ υ := fun a b x y z => (h' a b x y z).trans (h a b x y z)
theorem Fs.d {σ τ : Sto} (h : Fs σ τ) : τ.1 82 = σ.1 82 := funext fun j => h 82 j (by decide) (by decide) (by omega)
theorem swim_L {V : Nat → Int32} (hc : CW V 0) {p q : Nat} (hp : p < 8) (hq : q < 8) (gA : GR (S9 V p)) (gB : GR (S9 V q)) (hs : S9 V p 2 = 0) : ∀ (d n : Nat) (σ : Sto), d < n → d ≤ 60 → σ.1 82 = V →
    ∃ τ, f_X9_swim_L38 (nI p) (nI q) n (pPos (S9 V p) (flV V (V 6)) (60 - d)) (pPos (S9 V q) (flV V (V 6)) (60 - d)) (nI (60 - d)) σ = some ((mtD (S9 V p) (S9 V q) (flV V (V 6)) (V 7) d).isSome, τ) ∧ Fs σ τ ∧ ∀ u, mtD (S9 V p) (S9 V q) (flV V (V 6)) (V 7) d = some u → τ.1 81 15 = nI u ∧ τ.1 81 16 = metP (S9 V p) (S9 V q) (flV V (V 6)) u := by
  generalize hA : S9 V p = A at *
  generalize hB : S9 V q = B at *
  generalize hF : flV V (V 6) = fl at *
  intro d
  induction d with
  | zero =>
    intro n σ h1 _ _
    obtain ⟨n, rfl⟩ : ∃ n', n = n' + 1 := ⟨n - 1, by omega⟩
    refine ⟨σ, ?_, fun _ _ _ _ _ => rfl, fun u hu => by cases hu⟩
    rw [f_X9_swim_L38, if_pos (by decide)]
    rfl
  | succ d ih =>
    intro n σ h1 h2 h3
    obtain ⟨n, rfl⟩ : ∃ n', n = n' + 1 := ⟨n - 1, by omega⟩
    obtain ⟨t, ht, hd⟩ : ∃ t, t < 60 ∧ d = 59 - t := ⟨59 - d, by omega, by omega⟩
    have hu1 : 60 - (d + 1) = t := by omega
    have hu2 : 60 - d = t + 1 := by omega
    rw [hu1]
    have hstep : mtD A B fl (V 7) (d + 1) = if mtT A B fl (V 7) t = true then some t else mtD A B fl (V 7) d := by rw [mtD, show 59 - d = t by omega]
    obtain ⟨σ1, x1, o1⟩ := goes9 (σ := σ) (by rw [h3]; exact hc) hp (by rw [h3, hA]; exact gA) (pPos A fl t) (t := t) ht
    rw [h3, hA, hF] at x1
    have d1 : σ1.1 82 = V := by rw [← h3]; funext j; exact o1 82 j (by decide) (by decide)
    obtain ⟨σ2, x2, o2⟩ := goes9 (σ := σ1) (by rw [d1]; exact hc) hq (by rw [d1, hB]; exact gB) (pPos B fl t) (t := t) ht
    rw [d1, hB, hF] at x2
    have d2 : σ2.1 82 = V := by rw [← d1]; funext j; exact o2 82 j (by decide) (by decide)
    have f2 : Fs σ σ2 := fun a b h h' _ => by rw [o2 a b h h', o1 a b h h']
    have x3 : f_X9_laneOf σ2 (nI p) (nI t) = some (pLn A t) := by rw [lane9 hp ht, d2, hA]
    have x4 : f_X9_laneOf σ2 (nI q) (nI t) = some (pLn B t) := by rw [lane9 hq ht, d2, hB]
    have x5 : (pGo B fl (pPos B fl t) t - pGo A fl (pPos A fl t) t) = gapT A B fl (t + 1) := by
      unfold gapT
      rw [if_pos hs, pPos, pPos]
    have next : mtT A B fl (V 7) t = false → ∃ τ, f_X9_swim_L38 (nI p) (nI q) n (pGo A fl (pPos A fl t) t) (pGo B fl (pPos B fl t) t) (nI t + 1) σ2 = some ((mtD A B fl (V 7) (d + 1)).isSome, τ) ∧ Fs σ τ ∧ ∀ u, mtD A B fl (V 7) (d + 1) = some u → τ.1 81 15 = nI u ∧ τ.1 81 16 = metP A B fl u := by
      intro hm
      rw [hstep, hm, if_neg (by decide), nI_1]
      obtain ⟨τ, t1, t2, t3⟩ := ih n σ2 (by omega) (by omega) d2
      rw [hu2, pPos, pPos] at t1
      exact ⟨τ, t1, f2.tr t2, t3⟩
    rw [f_X9_swim_L38, if_neg (show ¬ (60 : Int32) ≤ nI t from nI_ge (b := 60) ht (by omega)), x1, bind_s, x2, bind_s, x3, bind_s, x4, bind_s]
    unfold f_X9_swim_L120
    by_cases hl : pLn A t = pLn B t
    · rw [if_pos hl, rdA_82_7, bind_s, d2, x5]
      by_cases hg : V 7 < gapT A B fl (t + 1)
      · rw [if_pos hg]
        exact next (by unfold mtT; rw [decide_eq_true hg]; simp)
      · have hm : mtT A B fl (V 7) t = true := by unfold mtT; rw [decide_eq_true hl, decide_eq_false hg]; rfl
        rw [if_neg hg, hstep, hm, if_pos rfl, lp_b, lp_b]
        refine ⟨_, rfl, fun a b h h' hn => ?_, fun u hu => ?_⟩
        · have e1 : ∀ (σ : Sto) (j : Nat) (v : Int32), j = 15 ∨ j = 16 → (sI σ 81 j v).1 a b = σ.1 a b := by
            intro σ j v hj
            show (if a = 81 ∧ b = j then v else σ.1 a b) = _
            rw [if_neg (fun z => hn ⟨z.1, by omega⟩)]
          rw [e1 _ _ _ (Or.inr rfl), e1 _ _ _ (Or.inl rfl)]
          exact f2 a b h h' hn
        · cases hu
          refine ⟨by rw [sI_nj (by decide), sI_at, if_pos rfl], ?_⟩
          rw [sI_at, if_pos rfl]
          unfold metP
          rw [pPos, pPos]
    · rw [if_neg hl]
      exact next (by unfold mtT; rw [decide_eq_false hl]; rfl)
theorem pq_sum : ∀ p, p < 8 → ∀ q, q < 8 → (nI p + nI q - nI p : Int32) = nI q ∧ (nI p + nI q - nI q : Int32) = nI p := by decide +kernel
theorem swim9 {σ : Sto} (hc : CW (σ.1 82) 0) {p q : Nat} (hp : p < 8) (hq : q < 8) (gA : GR (S9 (σ.1 82) p)) (gB : GR (S9 (σ.1 82) q)) (hu : ¬ S9 (σ.1 82) p 2 = S9 (σ.1 82) q 2) :
    ∃ τ, f_X9_swim σ (nI p) (nI q) = some ((met (S9 (σ.1 82) p) (S9 (σ.1 82) q) (flV (σ.1 82) (σ.1 82 6)) (σ.1 82 7)).isSome, τ) ∧ Fs σ τ ∧ ∀ u, met (S9 (σ.1 82) p) (S9 (σ.1 82) q) (flV (σ.1 82) (σ.1 82 6)) (σ.1 82 7) = some u → τ.1 81 15 = nI u ∧ τ.1 81 16 = metP (S9 (σ.1 82) p) (S9 (σ.1 82) q) (flV (σ.1 82) (σ.1 82 6)) u := by
  generalize hσ : sI σ 81 15 (-1) = σ1
  have d1 : σ1.1 82 = σ.1 82 := by rw [← hσ]; funext j; rw [sI_ne (by decide)]
  have f1 : Fs σ σ1 := fun a b h h' hn => by
    rw [← hσ]
    show (if a = 81 ∧ b = 15 then _ else σ.1 a b) = _
    rw [if_neg (fun z => hn ⟨z.1, Or.inl z.2⟩)]
  have o2 : f_X9_of σ (nI p) 2 = some (S9 (σ.1 82) p 2) := of_eq hp (j := 2) (by omega)
  obtain ⟨s1, s2⟩ := pq_sum p hp q hq
  unfold f_X9_swim f_X9_swim_L14
  rw [o2, bind_s]
  by_cases hs : S9 (σ.1 82) p 2 = 0
  · rw [if_pos hs, lp_b, hσ, s1]
    obtain ⟨τ, t1, t2, t3⟩ := swim_L hc hp hq gA gB hs 60 FU σ1 (by unfold FU; omega) (by omega) d1
    have hq2 : ¬ S9 (σ.1 82) q 2 = 0 := fun z => hu (hs.trans z.symm)
    rw [show 60 - 60 = 0 from rfl, pPos, pPos, if_pos hs, if_neg hq2] at t1
    exact ⟨τ, t1, f1.tr t2, t3⟩
  · have hq2 : S9 (σ.1 82) q 2 = 0 := by
      rcases gB.side with h | h
      · exact h
      · rcases gA.side with h' | h'
        · exact absurd h' hs
        · exact absurd (h'.trans h.symm) hu
    rw [if_neg hs, lp_b, hσ, s2, met_sym hq2 hs]
    obtain ⟨τ, t1, t2, t3⟩ := swim_L hc hq hp gB gA hq2 60 FU σ1 (by unfold FU; omega) (by omega) d1
    rw [show 60 - 60 = 0 from rfl, pPos, pPos, if_pos hq2, if_neg hs] at t1
    exact ⟨τ, t1, f1.tr t2, fun u hu => by rw [← metP_sym]; exact t3 u hu⟩
/-- two numbers are of swimmers from unlike sides -/
def unl (V : Nat → Int32) (a1 a2 : Int32) : Bool := !isO a1 0 (V 12 - 1) && (!isO a2 0 (V 12 - 1) && !decide (S9 V a1.toNatClampNeg 2 = S9 V a2.toNatClampNeg 2))
theorem unl_c {σ : Sto} (h : Iw σ) (a1 a2 : Int32) : (unl (σ.1 82) a1 a2 = false ∧ (∃ r5 r15, f_X0_swimmerAt σ 1 a1 = some r5 ∧ f_X0_swimmerAt σ 1 a2 = some r15 ∧ f_X8_areUnlike σ r5 r15 = some false) ∧ f_X9_areUnlike σ a1 a2 = some false) ∨
    ∃ p q, p < 8 ∧ q < 8 ∧ p < NN (σ.1 82) ∧ q < NN (σ.1 82) ∧ a1 = nI p ∧ a2 = nI q ∧ ¬ S9 (σ.1 82) p 2 = S9 (σ.1 82) q 2 ∧ unl (σ.1 82) a1 a2 = true ∧ f_X0_swimmerAt σ 1 a1 = some (some (12 + 2 * p)) ∧ f_X0_swimmerAt σ 1 a2 = some (some (12 + 2 * q)) ∧ f_X8_areUnlike σ (some (12 + 2 * p)) (some (12 + 2 * q)) = some true ∧ f_X9_areUnlike σ a1 a2 = some true := by
  have u9 : f_X9_areUnlike σ a1 a2 = some (unl (σ.1 82) a1 a2) := by
    unfold f_X9_areUnlike unl
    rcases sA8 h a1 with ⟨q, -⟩ | ⟨p, hp, hpN, rfl, q, -⟩
    · rw [isS_eq, bind_s, q, if_neg (by decide)]; rfl
    · rw [isS_eq, bind_s, q, if_pos (by decide)]
      rcases sA8 h a2 with ⟨q', -⟩ | ⟨p', hp', hpN', rfl, q', -⟩
      · rw [isS_eq, bind_s, q', if_neg (by decide)]; rfl
      · have o2 : f_X9_of σ (nI p) 2 = some (S9 (σ.1 82) p 2) := of_eq hp (j := 2) (by omega)
        have o2' : f_X9_of σ (nI p') 2 = some (S9 (σ.1 82) p' 2) := of_eq hp' (j := 2) (by omega)
        rw [isS_eq, bind_s, q', if_pos (by decide), o2, bind_s, o2', bind_s, nI_clamp (by omega), nI_clamp (by omega)]
        by_cases e : S9 (σ.1 82) p 2 = S9 (σ.1 82) p' 2
        · rw [if_pos e, decide_eq_true e]; rfl
        · rw [if_neg e, decide_eq_false e]; rfl
  rcases sA8 h a1 with ⟨q, e⟩ | ⟨p, hp, hpN, rfl, q, e⟩
  · have hn : unl (σ.1 82) a1 a2 = false := by unfold unl; rw [q]; rfl
    refine Or.inl ⟨hn, ?_, by rw [u9, hn]⟩
    rcases sA8 h a2 with ⟨-, e'⟩ | ⟨p', -, -, -, -, e'⟩
    · exact ⟨_, _, e, e', rfl⟩
    · exact ⟨_, _, e, e', rfl⟩
  · rcases sA8 h a2 with ⟨q', e'⟩ | ⟨p', hp', hpN', rfl, q', e'⟩
    · have hn : unl (σ.1 82) (nI p) a2 = false := by unfold unl; rw [q, q']; rfl
      exact Or.inl ⟨hn, ⟨_, _, e, e', rfl⟩, by rw [u9, hn]⟩
    · have f1 : σ.1 (12 + 2 * p) 2 = S9 (σ.1 82) p 2 := sw8f h hpN (by omega)
      have f2 : σ.1 (12 + 2 * p') 2 = S9 (σ.1 82) p' 2 := sw8f h hpN' (by omega)
      have a8 : f_X8_areUnlike σ (some (12 + 2 * p)) (some (12 + 2 * p')) = if S9 (σ.1 82) p 2 = S9 (σ.1 82) p' 2 then some false else some true := by
        unfold f_X8_areUnlike
        rw [onN_1, onN_1, if_pos (K12 p hp), if_pos (K12 p' hp'), f1, f2]
      by_cases ee : S9 (σ.1 82) p 2 = S9 (σ.1 82) p' 2
      · have hn : unl (σ.1 82) (nI p) (nI p') = false := by unfold unl; rw [q, q', nI_clamp (by omega), nI_clamp (by omega), decide_eq_true ee]; rfl
        exact Or.inl ⟨hn, ⟨_, _, e, e', by rw [a8, if_pos ee]⟩, by rw [u9, hn]⟩
      · have hn : unl (σ.1 82) (nI p) (nI p') = true := by unfold unl; rw [q, q', nI_clamp (by omega), nI_clamp (by omega), decide_eq_false ee]; rfl
        exact Or.inr ⟨p, p', hp, hp', hpN, hpN', rfl, rfl, ee, hn, e, e', by rw [a8, if_neg ee], by rw [u9, hn]⟩
theorem deref6 {k : Nat} (hk : K0 k = 6) {β : Type} (f : Nat → Option β) : deref 6 (some k) f = f k := by
  show (if K0 k = 6 then f k else none) = f k
  rw [if_pos hk]
theorem s_meet (a1 a2 a3 : Int32) (b : Bool) : LPr (fun σ => f_X8_meet σ a1 a2 a3) (fun σ => f_X9_meet σ a1 a2 a3) b Inv Inv := by
  refine pr_ro (fun σ => if unl (σ.1 82) a1 a2 = true then (if isO a3 0 2 = true then .inr 1 else match met (S9 (σ.1 82) a1.toNatClampNeg) (S9 (σ.1 82) a2.toNatClampNeg) (flV (σ.1 82) (σ.1 82 6)) (σ.1 82 7) with
      | none => .inr 2
      | some u => .inl (if a3 = 0 then nI u else if a3 = 1 then metP (S9 (σ.1 82) a1.toNatClampNeg) (S9 (σ.1 82) a2.toNatClampNeg) (flV (σ.1 82) (σ.1 82 6)) u else pLn (S9 (σ.1 82) a1.toNatClampNeg) u)) else .inr 1) (fun σ τ h => by show _ = _; rw [h.d]) (fun σ h => ?_) (fun σ h => ?_) b
  · show C8 (f_X8_meet σ a1 a2 a3) σ _
    unfold f_X8_meet
    rcases unl_c h a1 a2 with ⟨hn, ⟨r5, r15, e1, e2, e3⟩, -⟩ | ⟨p, q, hp, hq, hpN, hqN, rfl, rfl, hu, hn, e1, e2, e3, -⟩
    · simp only [hn, Bool.false_eq_true, if_false]
      exact ⟨σ, by rw [e1, bind_s, e2, bind_s, e3, bind_s, if_neg (by decide), r8_1, bind_s], Fr.rf σ⟩
    · simp only [hn, if_true]
      rw [e1, bind_s, e2, bind_s, e3, bind_s, if_pos rfl, out_eq, bind_s]
      cases h3 : isO a3 0 2 with
      | true => exact ⟨σ, by rw [if_pos rfl, r8_1, bind_s], Fr.rf σ⟩
      | false =>
        obtain ⟨τ, t1, t2, t3⟩ := feel_eq h.ic (σ.1 1 1)
        have hf : Fl τ (flV (σ.1 82) (σ.1 82 6)) := by rw [← h.mp (i := 6) (j := 1) (by decide)]; exact t2
        have eA : Eq9 (S8 τ (12 + 2 * p)) (S9 (σ.1 82) p) := by rw [swm_fr t3 hp]; exact sw_Eq9 h hpN
        have eB : Eq9 (S8 τ (12 + 2 * q)) (S9 (σ.1 82) q) := by rw [swm_fr t3 hq]; exact sw_Eq9 h hqN
        obtain ⟨υ, u1, u2, u3⟩ := meets8 (K12 p hp) (K12 q hq) (gr9 h.ok hp) (gr9 h.ok hq) eA eB hf (τ.1 1 2)
        have e12 : τ.1 1 2 = σ.1 82 7 := by rw [t3 1 2 (by decide) (by decide)]; exact h.mp (i := 7) (j := 2) (by decide)
        rw [e12] at u1 u3
        have f : Fr σ υ := fun k j hs => by rw [u2 k j (by rintro rfl; simp [scr] at hs)]; exact feel_fr t3 k j hs
        rw [if_neg (by decide), t1, bind_s, deref6 (K12 p hp), deref6 (K12 q hq), e12, u1, bind_s, nI_clamp (by omega), nI_clamp (by omega)]
        simp only [Bool.false_eq_true, if_false]
        cases hm : met (S9 (σ.1 82) p) (S9 (σ.1 82) q) (flV (σ.1 82) (σ.1 82 6)) (σ.1 82 7) with
        | none => exact ⟨υ, by rw [if_neg (show ¬ (none : Option Nat).isSome = true by decide), r8_2, bind_s], f⟩
        | some u =>
          obtain ⟨v1, v2, v3⟩ := u3 u hm
          refine ⟨υ, ?_, f⟩
          rw [if_pos (show (some u).isSome = true from rfl)]
          by_cases h0 : a3 = 0
          · rw [if_pos h0, if_pos h0]; show some (υ.1 58 1, υ) = _; rw [v1]
          · rw [if_neg h0, if_neg h0]
            by_cases h1 : a3 = 1
            · rw [if_pos h1, if_pos h1]; show some (υ.1 58 2, υ) = _; rw [v2]
            · rw [if_neg h1, if_neg h1]; show some (υ.1 58 3, υ) = _; rw [v3]
  · show C9 (f_X9_meet σ a1 a2 a3) σ _
    unfold f_X9_meet
    rcases unl_c h a1 a2 with ⟨hn, -, e3⟩ | ⟨p, q, hp, hq, hpN, hqN, rfl, rfl, hu, hn, -, -, -, e3⟩
    · simp only [hn, Bool.false_eq_true, if_false]
      exact ⟨σ, by rw [e3, bind_s, if_neg (by decide), r9_1, bind_s], Fr.rf σ⟩
    · simp only [hn, if_true]
      rw [e3, bind_s, if_pos rfl, in_0_2, bind_s]
      cases h3 : isO a3 0 2 with
      | true => exact ⟨σ, by rw [if_neg (by decide), r9_1, bind_s], Fr.rf σ⟩
      | false =>
        obtain ⟨τ, t1, t2, t3⟩ := swim9 h.cd.1.cw hp hq (gr9 h.ok hp) (gr9 h.ok hq) hu
        rw [if_pos (by decide), t1, bind_s, nI_clamp (by omega), nI_clamp (by omega)]
        simp only [Bool.false_eq_true, if_false]
        cases hm : met (S9 (σ.1 82) p) (S9 (σ.1 82) q) (flV (σ.1 82) (σ.1 82 6)) (σ.1 82 7) with
        | none => exact ⟨τ, by rw [if_neg (show ¬ (none : Option Nat).isSome = true by decide), r9_2, bind_s], t2.fr⟩
        | some u =>
          obtain ⟨v1, v2⟩ := t3 u hm
          refine ⟨τ, ?_, t2.fr⟩
          rw [if_pos (show (some u).isSome = true from rfl)]
          by_cases h0 : a3 = 0
          · rw [if_pos h0, if_pos h0]; show some (τ.1 81 15, τ) = _; rw [v1]
          · rw [if_neg h0, if_neg h0]
            by_cases h1 : a3 = 1
            · rw [if_pos h1, if_pos h1]; show some (τ.1 81 16, τ) = _; rw [v2]
            · rw [if_neg h1, if_neg h1]
              show (f_X9_laneOf τ (nI p) (τ.1 81 15)).bind _ = _
              rw [v1, lane9 hp (met_lt hm), bind_s, t2.d]
/-! Years: the class and the reference go on side by side. -/
theorem imin_lesser (a b : Int32) : f_X9_lesser a b = some (imin a b) := by
  unfold f_X9_lesser imin
  by_cases h1 : b ≤ a
  · rw [if_pos h1]
    by_cases h2 : b < a
    · rw [if_pos h2]
    · rw [if_neg h2, show b = a from Int32.le_antisymm h1 (Int32.not_lt.mp h2)]
  · rw [if_neg h1, if_neg (fun h2 => h1 (Int32.le_of_lt h2))]
def Vc (V0 V : Nat → Int32) : Prop := (∀ i, i < 6 → V0 i = V i) ∧ ∀ i, (88 ≤ i ∧ i < 90) ∨ (110 ≤ i ∧ i < 210) → V0 i = V i
theorem Vc.gv {V0 V : Nat → Int32} (h : Vc V0 V) {u : Nat} (hu : u ≤ 1) (hc : CW V u) (a b c : Int32) : gv V0 u a b c = gv V u a b c := by
  obtain ⟨n, q1, q2, -⟩ := hc
  have e : gvr V0 u a b c = gvr V u a b c := by
    unfold gvr
    rw [h.2 (88 + u) (by omega), q2, nI_clamp (by omega), show codeL V0 u n = codeL V u n from List.map_congr_left (fun i hi => h.2 _ (by have := List.mem_range.mp hi; omega))]
  show (if u = 0 then imax (-30) (imin 30 (gvr V0 u a b c)) else imax 0 (imin 100 (gvr V0 u a b c))) = _
  rw [e]
  rfl
theorem Vc.fl {V0 V : Nat → Int32} (h : Vc V0 V) (hc : CW V 0) (w : Int32) {i : Nat} (hi : i < 6) : flV V0 w (nI i) = flV V w (nI i) := by
  unfold flV
  rw [h.gv (by omega) hc, nI_clamp (by omega), h.1 i hi]
/-- the class stands at σ8, the reference at σ9; ω is the class's cells with the reference's row -/
def YS (σ8 σ9 ω : Sto) : Prop := (∀ k j, k ≠ 82 → scr k j = false → ω.1 k j = σ8.1 k j) ∧ ω.1 82 = σ9.1 82 ∧ Inv ω ∧ Ic σ8 ∧ Vc (σ8.1 82) (σ9.1 82) ∧ ∀ k j, 90 ≤ k → k ≤ 92 → σ9.1 k j = σ8.1 k j
theorem YS.s8 {σ8 σ8' σ9 ω : Sto} (h : YS σ8 σ9 ω) (f : Fr σ8 σ8') : YS σ8' σ9 ω := by
  obtain ⟨h1, h2, h3, h4, h5, h6⟩ := h
  exact ⟨fun k j hk hs => by rw [f k j hs]; exact h1 k j hk hs, h2, h3, h4.fr f, by rw [f.d]; exact h5, fun k j hk hk' => by rw [f k j (by rcases (show k = 90 ∨ k = 91 ∨ k = 92 by omega) with rfl | rfl | rfl <;> simp [scr])]; exact h6 k j hk hk'⟩
theorem YS.s9 {σ8 σ9 σ9' ω : Sto} (h : YS σ8 σ9 ω) (f : σ9'.1 82 = σ9.1 82) (f' : ∀ k j, 90 ≤ k → k ≤ 92 → σ9'.1 k j = σ9.1 k j) : YS σ8 σ9' ω := by
  obtain ⟨h1, h2, h3, h4, h5, h6⟩ := h
  exact ⟨h1, by rw [f]; exact h2, h3, h4, by rw [f]; exact h5, fun k j hk hk' => by rw [f' k j hk hk']; exact h6 k j hk hk'⟩
theorem YS.f9 {σ8 σ9 σ9' ω : Sto} (h : YS σ8 σ9 ω) (f : Fr σ9 σ9') : YS σ8 σ9' ω := h.s9 f.d (fun k j hk hk' => f k j (by rcases (show k = 90 ∨ k = 91 ∨ k = 92 by omega) with rfl | rfl | rfl <;> simp [scr]))
theorem YS.two {σ8 σ9 ω : Sto} (h : YS σ8 σ9 ω) {k j i : Nat} {v : Int32} (hI : Inv (sI (sI ω k j v) 82 i v)) (hk : k ≠ 2 ∧ k ≠ 4 ∧ k ≠ 5 ∧ k ≠ 7 ∧ k ≠ 8 ∧ k < 82) (hi : ¬ (i < 6 ∨ (88 ≤ i ∧ i < 90) ∨ (110 ≤ i ∧ i < 210))) : YS (sI σ8 k j v) (sI σ9 82 i v) (sI (sI ω k j v) 82 i v) := by
  obtain ⟨h1, h2, -, h4, h5, h6⟩ := h
  have n82 : (82 : Nat) ≠ k := by omega
  refine ⟨fun a b ha hs => ?_, ?_, hI, h4.keep (fun a b hab => by rw [sI_ne (by omega)]), ⟨fun x hx => ?_, fun x hx => ?_⟩, fun a b ha hb => by rw [sI_ne (by omega), sI_ne (by omega)]; exact h6 a b ha hb⟩
  · rw [sI_ne ha]
    show (if a = k ∧ b = j then v else ω.1 a b) = (if a = k ∧ b = j then v else σ8.1 a b)
    rw [h1 a b ha hs]
  · funext b
    rw [sI_at, sI_at, sI_ne n82, h2]
  · rw [sI_ne n82, sI_nj (by omega)]; exact h5.1 x hx
  · rw [sI_ne n82, sI_nj (by omega)]; exact h5.2 x hx
theorem YS.mp {σ8 σ9 ω : Sto} (h : YS σ8 σ9 ω) {i j : Nat} (hm : (i, j) ∈ mpL) (h12 : i ≠ 12) {v : Int32} (hok : okv i v = true) : YS (sI σ8 1 j v) (sI σ9 82 i v) (sI (sI ω 1 j v) 82 i v) :=
  h.two (upd_mp h.2.2.1 hm h12 hok) (by decide) (by have := mp_lo _ hm; omega)
theorem YS.sw {σ8 σ9 ω : Sto} (h : YS σ8 σ9 ω) {p j : Nat} (hp : p < 8) (hj : j < 5) {v : Int32} (hok : oks j v = true) : YS (sI σ8 (12 + 2 * p) j v) (sI σ9 82 (16 + 9 * p + j) v) (sI (sI ω (12 + 2 * p) j v) 82 (16 + 9 * p + j) v) :=
  h.two (upd_swf h.2.2.1 hp hj hok) (by omega) (by omega)
theorem YS.r {σ8 σ9 ω : Sto} (h : YS σ8 σ9 ω) {i j : Nat} (hm : (i, j) ∈ mpL) : σ8.1 1 j = σ9.1 82 i := by
  rw [← h.1 1 j (by decide) (by simp [scr]), ← h.2.1]
  exact h.2.2.1.1.mp hm
theorem YS.rs {σ8 σ9 ω : Sto} (h : YS σ8 σ9 ω) {p : Nat} (hp : p < NN (σ9.1 82)) : Eq9 (S8 σ8 (12 + 2 * p)) (S9 (σ9.1 82) p) := by
  obtain ⟨N, hN, -, -, eN⟩ := h.2.2.1.1.N
  rw [h.2.1] at eN
  intro j hj
  have q := sw8 h.2.2.1.1 (p := p) (by rw [h.2.1]; exact hp) hj
  rw [h.2.1] at q
  rw [← q]
  have n1 : scr (12 + 2 * p) j = false := lk_scr (Or.inl ⟨rfl, rfl⟩) (Or.inl (by omega)) j
  have n2 : scr (12 + 2 * p + 1) (j - 5) = false := lk_scr (Or.inl ⟨rfl, rfl⟩) (Or.inl (by omega)) (j - 5)
  unfold S8
  rw [h.1 _ _ (by omega) n1, h.1 _ _ (by omega) n2]
theorem YS.cw {σ8 σ9 ω : Sto} (h : YS σ8 σ9 ω) : CW (σ9.1 82) 0 ∧ CW (σ9.1 82) 1 := by
  rw [← h.2.1]
  exact ⟨h.2.2.1.1.cd.1.cw, h.2.2.1.1.cd.2.cw⟩
theorem YS.ok {σ8 σ9 ω : Sto} (h : YS σ8 σ9 ω) : ∀ i, okv i (σ9.1 82 i) = true := by
  rw [← h.2.1]
  exact h.2.2.1.1.ok
/-- what either leaves alone -/
def K8 (σ τ : Sto) : Prop := ∀ k j, k = 82 ∨ (90 ≤ k ∧ k ≤ 92) → τ.1 k j = σ.1 k j
def K9 (σ τ : Sto) : Prop := ∀ k j, k ≠ 82 → scr k j = false → τ.1 k j = σ.1 k j
theorem Fr.k8 {σ τ : Sto} (h : Fr σ τ) : K8 σ τ := fun k j hk => h k j (by rcases (show k = 82 ∨ k = 90 ∨ k = 91 ∨ k = 92 by omega) with rfl | rfl | rfl | rfl <;> simp [scr])
theorem Fr.k9 {σ τ : Sto} (h : Fr σ τ) : K9 σ τ := fun k j _ hs => h k j hs
theorem K8.tr {σ τ υ : Sto} (h : K8 σ τ) (h' : K8 τ υ) : K8 σ υ := fun k j hk => (h' k j hk).trans (h k j hk)
theorem K9.tr {σ τ υ : Sto} (h : K9 σ τ) (h' : K9 τ υ) : K9 σ υ := fun k j hk hs => (h' k j hk hs).trans (h k j hk hs)
theorem K8.w (σ : Sto) {k j : Nat} {v : Int32} (hk : k < 82) : K8 σ (sI σ k j v) := fun a b h => sI_ne (by omega)
theorem K9.w (σ : Sto) {j : Nat} {v : Int32} : K9 σ (sI σ 82 j v) := fun a b h _ => sI_ne h
theorem K8.rf (σ : Sto) : K8 σ σ := fun _ _ _ => rfl
theorem K9.rf (σ : Sto) : K9 σ σ := fun _ _ _ _ => rfl
theorem YS.st {σ σ9 : Sto} (h : Inv σ) (k : K8 σ σ9) : YS σ σ9 σ := by
  have d : σ9.1 82 = σ.1 82 := funext fun j => k 82 j (by omega)
  exact ⟨fun _ _ _ _ => rfl, d.symm, h, h.1.ic, by rw [d]; exact ⟨fun _ _ => rfl, fun _ _ => rfl⟩, fun a b ha hb => k a b (by omega)⟩
theorem YS.fin {σ8 σ9 ω : Sto} (h : YS σ8 σ9 ω) (k : K9 σ8 σ9) : Inv σ9 := h.2.2.1.fr (fun a b hs => by
  by_cases ha : a = 82
  · subst ha; rw [h.2.1]
  · rw [k a b ha hs, h.1 a b ha hs])
/-- both done side by side is both done one after the other -/
theorem fin_ys {f g : Sto → Option (Int32 × Sto)} {b : Bool} {σ : Sto} (hI : Inv σ) (hs : ∀ σ9, K8 σ σ9 → ∃ v σ8' σ9' ω', f σ = some (v, σ8') ∧ g σ9 = some (v, σ9') ∧ YS σ8' σ9' ω' ∧ K8 σ σ8' ∧ K9 σ9 σ9') : ∃ r s, f σ = some r ∧ g r.2 = some s ∧ (b = true → r.1 = s.1) ∧ Inv s.2 := by
  obtain ⟨v, τ, _, _, t1, _, _, t4, _⟩ := hs σ (K8.rf σ)
  obtain ⟨w, τ', υ, ω, u1, u2, u3, u4, u5⟩ := hs τ t4
  rw [t1] at u1
  obtain ⟨z1, z2⟩ := Prod.mk.inj (Option.some.inj u1)
  subst z1 z2
  exact ⟨_, _, t1, u2, fun _ => rfl, u3.fin u5⟩
theorem ok_free {i : Nat} (h : i = 6 ∨ i = 7 ∨ i = 8 ∨ i = 9 ∨ i = 10 ∨ i = 13) (v : Int32) : okv i v = true := by
  unfold okv
  rw [if_neg (by omega), if_neg (by omega), if_neg (by omega), if_neg (by omega), if_neg (by omega), if_neg (by omega)]
theorem year_n {V : Nat → Int32} (h : ∀ i, okv i (V i) = true) : ∃ y, y ≤ 9999 ∧ V 11 = nI y := by
  have q := h 11
  unfold okv at q
  rw [if_pos rfl] at q
  exact isO_nI (n := 9999) rfl (not_t q)
theorem okv_11 {y : Nat} (h : y < 9999) : okv 11 (nI (y + 1)) = true := by
  unfold okv
  rw [if_pos rfl, show isO (nI (y + 1)) 0 9999 = false from isO_lit (n := 9999) (by omega) (by omega)]
  rfl
theorem share_go {σ8 σ9 ω : Sto} (h : YS σ8 σ9 ω) (h11 : ¬ σ9.1 82 11 = 9999) : ∃ σ8' σ9' ω', f_X8_letYearGoBy_L115 σ8 = some σ8' ∧ f_X9_goesBy_L60 σ9 = some σ9' ∧ YS σ8' σ9' ω' ∧ K8 σ8 σ8' ∧ K9 σ9 σ9' := by
  obtain ⟨y, hy, ey⟩ := year_n h.ok
  have hy9 : y < 9999 := by
    rcases (show y = 9999 ∨ y < 9999 by omega) with rfl | h'
    · exact absurd ey h11
    · exact h'
  obtain ⟨τ8, t1, t2, -⟩ := g8c h.2.2.2.1 (σ8.1 1 3) (σ8.1 1 4) (σ8.1 1 1)
  obtain ⟨τ9, u1, u2, -⟩ := g9 (Or.inr rfl) h.cw.2 (σ9.1 82 8) (σ9.1 82 11) (σ9.1 82 6)
  rw [h.2.2.2.2.1.gv (by omega) h.cw.2, h.r (i := 8) (by decide), h.r (i := 11) (by decide), h.r (i := 6) (by decide)] at t1
  have y0 := (h.s8 t2).f9 u2
  generalize hg : gv (σ9.1 82) 1 (σ9.1 82 8) (σ9.1 82 11) (σ9.1 82 6) = g at t1 u1
  have y1 := y0.mp (i := 9) (j := 5) (by decide) (by decide) (v := imin 999999 (τ9.1 82 9 + g)) (ok_free (by decide) _)
  generalize hv1 : imin 999999 (τ9.1 82 9 + g) = v1 at y1
  have y2 := y1.mp (i := 10) (j := 6) (by decide) (by decide) (v := imin 999999 ((sI τ9 82 9 v1).1 82 10 + 100 - g)) (ok_free (by decide) _)
  generalize hv2 : imin 999999 ((sI τ9 82 9 v1).1 82 10 + 100 - g) = v2 at y2
  have e11 : (sI (sI τ9 82 9 v1) 82 10 v2).1 82 11 = nI y := by rw [sI_nj (by decide), sI_nj (by decide), u2 82 11 (by simp [scr]), ey]
  have y3 := y2.mp (i := 11) (j := 4) (by decide) (by decide) (v := nI (y + 1)) (okv_11 hy9)
  refine ⟨_, _, _, ?_, ?_, y3, ?_, ?_⟩
  · unfold f_X8_letYearGoBy_L115 f_X0_share
    rw [show A0 1 10 = 7 by decide, h.r (i := 8) (by decide), h.r (i := 11) (by decide), h.r (i := 6) (by decide), t1, bind_s, lp_b, y0.r (i := 9) (j := 5) (by decide), hv1, lp_b, y1.r (i := 10) (j := 6) (by decide), hv2, bind_s, lp_b, y2.r (i := 11) (j := 4) (by decide), e11, nI_1]
  · unfold f_X9_goesBy_L60
    rw [rdA_82_8, bind_s, rdA_82_11, bind_s, rdA_82_6, bind_s, show f_X9_gives σ9 1 _ _ _ = _ from u1, bind_s, rdA_82_9, bind_s, imin_lesser, bind_s, hv1, wrA_82_9, bind_s, rdA_82_10, bind_s, imin_lesser, bind_s, hv2, wrA_82_10, bind_s, rdA_82_11, bind_s, e11, nI_1, wrA_82_11, bind_s]
  · exact ((t2.k8.tr (K8.w _ (by decide))).tr (K8.w _ (by decide))).tr (K8.w _ (by decide))
  · exact ((u2.k9.tr (K9.w _)).tr (K9.w _)).tr (K9.w _)
theorem sA_eq {σ τ : Sto} (h : σ.1 1 8 = τ.1 1 8) (a : Int32) : f_X0_swimmerAt σ 1 a = f_X0_swimmerAt τ 1 a := by
  unfold f_X0_swimmerAt
  rw [h]
theorem YS.sA {σ8 σ9 ω : Sto} (h : YS σ8 σ9 ω) (a : Int32) : f_X0_swimmerAt σ8 1 a = f_X0_swimmerAt ω 1 a := sA_eq (h.1 1 8 (by decide) (by decide)).symm a
theorem YS.unl9 {σ8 σ9 ω : Sto} (h : YS σ8 σ9 ω) (a1 a2 : Int32) : f_X9_areUnlike σ9 a1 a2 = f_X9_areUnlike ω a1 a2 := by
  have o : ∀ a b, f_X9_of σ9 a b = f_X9_of ω a b := by
    intro a b
    unfold f_X9_of rdA
    rw [h.2.1]
  unfold f_X9_areUnlike
  rw [isS_eq, isS_eq, isS_eq, isS_eq, h.2.1, o, o]
theorem year_go {σ8 σ9 ω : Sto} (h : YS σ8 σ9 ω) (h11 : ¬ σ9.1 82 11 = 9999) {p q : Nat} (hp : p < 8) (hq : q < 8) (hpN : p < NN (σ9.1 82)) (hqN : q < NN (σ9.1 82)) (hu : ¬ S9 (σ9.1 82) p 2 = S9 (σ9.1 82) q 2) (e1 : f_X0_swimmerAt σ8 1 (nI p) = some (some (12 + 2 * p))) (e2 : f_X0_swimmerAt σ8 1 (nI q) = some (some (12 + 2 * q))) :
    ∃ σ8' σ9' ω', f_X8_letYearGoBy σ8 (nI p) (nI q) = some σ8' ∧ f_X9_goesBy σ9 (nI p) (nI q) = some σ9' ∧ YS σ8' σ9' ω' ∧ K8 σ8 σ8' ∧ K9 σ9 σ9' := by
  have hpq : p ≠ q := by rintro rfl; exact hu rfl
  have eA0 := h.rs hpN
  have eB0 := h.rs hqN
  have e3 : f_X8_areUnlike σ8 (some (12 + 2 * p)) (some (12 + 2 * q)) = some true := by
    unfold f_X8_areUnlike
    rw [onN_1, onN_1, if_pos (K12 p hp), if_pos (K12 q hq), if_neg (fun z => hu ((eA0 2 (by omega)).symm.trans (z.trans (eB0 2 (by omega)))))]
  obtain ⟨τ, t1, t2, t3⟩ := feel_eq h.2.2.2.1 (σ8.1 1 1)
  have hw : σ8.1 1 1 = σ9.1 82 6 := h.r (i := 6) (by decide)
  have hf : Fl τ (flV (σ9.1 82) (σ9.1 82 6)) := fun i hi => by rw [t2 i hi, h.2.2.2.2.1.fl h.cw.1 _ hi, hw]
  have eA : Eq9 (S8 τ (12 + 2 * p)) (S9 (σ9.1 82) p) := by rw [swm_fr t3 hp]; exact eA0
  have eB : Eq9 (S8 τ (12 + 2 * q)) (S9 (σ9.1 82) q) := by rw [swm_fr t3 hq]; exact eB0
  obtain ⟨υ, u1, u2, u3⟩ := meets8 (K12 p hp) (K12 q hq) (gr9 h.ok hp) (gr9 h.ok hq) eA eB hf (σ9.1 82 7)
  have e12 : τ.1 1 2 = σ9.1 82 7 := by rw [t3 1 2 (by decide) (by decide)]; exact h.r (i := 7) (by decide)
  have f8 : Fr σ8 υ := fun k j hs => by rw [u2 k j (by rintro rfl; simp [scr] at hs)]; exact feel_fr t3 k j hs
  obtain ⟨χ, x1, x2, x3⟩ := swim9 h.cw.1 hp hq (gr9 h.ok hp) (gr9 h.ok hq) hu
  have y0 := (h.s8 f8).f9 x2.fr
  have d0 : χ.1 82 = σ9.1 82 := x2.d
  unfold f_X8_letYearGoBy f_X9_goesBy
  rw [e1, bind_s, e2, bind_s, e3, bind_s, if_pos rfl, t1, bind_s, deref6 (K12 p hp), deref6 (K12 q hq), e12, u1, bind_s, x1, bind_s]
  cases hm : met (S9 (σ9.1 82) p) (S9 (σ9.1 82) q) (flV (σ9.1 82) (σ9.1 82 6)) (σ9.1 82 7) with
  | none =>
    obtain ⟨α, β, γ, z1, z2, z3, z4, z5⟩ := share_go y0 (by rw [d0]; exact h11)
    refine ⟨α, β, γ, ?_, ?_, z3, f8.k8.tr z4, x2.fr.k9.tr z5⟩
    · rw [if_neg (show ¬ (none : Option Nat).isSome = true by decide)]; exact z1
    · rw [if_neg (show ¬ (none : Option Nat).isSome = true by decide)]; exact z2
  | some u =>
    obtain ⟨-, v2, -⟩ := u3 u hm
    obtain ⟨-, w2⟩ := x3 u hm
    generalize metP (S9 (σ9.1 82) p) (S9 (σ9.1 82) q) (flV (σ9.1 82) (σ9.1 82 6)) u = P at v2 w2
    have y1 := y0.mp (i := 8) (j := 3) (by decide) (by decide) (v := P) (ok_free (by decide) _)
    have fr4 : ∀ v, oks 4 v = true := fun v => by unfold oks; rw [if_neg (by omega), if_neg (by omega), if_neg (by omega), if_neg (by omega)]
    have hn1 : NN ((sI χ 82 8 P).1 82) = NN (σ9.1 82) := by unfold NN; rw [sI_nj (by decide), d0]
    have k1 : (sI υ 1 3 P).1 (12 + 2 * p) 4 = S9 ((sI χ 82 8 P).1 82) p 4 := y1.rs (by rw [hn1]; exact hpN) 4 (by omega)
    generalize hc1 : imin 9999 (S9 ((sI χ 82 8 P).1 82) p 4 + 1) = c1
    have y2 := y1.sw hp (j := 4) (by omega) (v := c1) (fr4 _)
    have hn2 : NN ((sI (sI χ 82 8 P) 82 (16 + 9 * p + 4) c1).1 82) = NN (σ9.1 82) := by unfold NN; rw [sI_nj (by omega), sI_nj (by decide), d0]
    have k2 : (sI (sI υ 1 3 P) (12 + 2 * p) 4 c1).1 (12 + 2 * q) 4 = S9 ((sI (sI χ 82 8 P) 82 (16 + 9 * p + 4) c1).1 82) q 4 := y2.rs (by rw [hn2]; exact hqN) 4 (by omega)
    generalize hc2 : imin 9999 (S9 ((sI (sI χ 82 8 P) 82 (16 + 9 * p + 4) c1).1 82) q 4 + 1) = c2
    have y3 := y2.sw hq (j := 4) (by omega) (v := c2) (fr4 _)
    obtain ⟨α, β, γ, z1, z2, z3, z4, z5⟩ := share_go y3 (by rw [sI_nj (by omega), sI_nj (by omega), sI_nj (by omega), d0]; exact h11)
    have o1 : f_X9_of (sI χ 82 8 P) (nI p) 4 = some (S9 ((sI χ 82 8 P).1 82) p 4) := of_eq hp (j := 4) (by omega)
    have o2 : f_X9_of (sI (sI χ 82 8 P) 82 (16 + 9 * p + 4) c1) (nI q) 4 = some (S9 ((sI (sI χ 82 8 P) 82 (16 + 9 * p + 4) c1).1 82) q 4) := of_eq hq (j := 4) (by omega)
    have b1 : f_X9_becomes (sI χ 82 8 P) (nI p) 4 c1 = some (sI (sI χ 82 8 P) 82 (16 + 9 * p + 4) c1) := bec_eq hp (j := 4) (by omega) _
    have b2 : f_X9_becomes (sI (sI χ 82 8 P) 82 (16 + 9 * p + 4) c1) (nI q) 4 c2 = some (sI (sI (sI χ 82 8 P) 82 (16 + 9 * p + 4) c1) 82 (16 + 9 * q + 4) c2) := bec_eq hq (j := 4) (by omega) _
    refine ⟨α, β, γ, ?_, ?_, z3, (((f8.k8.tr (K8.w _ (by decide))).tr (K8.w _ (by omega))).tr (K8.w _ (by omega))).tr z4, (((x2.fr.k9.tr (K9.w _)).tr (K9.w _)).tr (K9.w _)).tr z5⟩
    · rw [if_pos (show (some u).isSome = true from rfl), v2, lp_b, k1, hc1, lp_b, k2, hc2, lp_b]
      exact z1
    · rw [if_pos (show (some u).isSome = true from rfl), w2, wrA_82_8, bind_s, o1, bind_s, imin_lesser, bind_s, hc1, b1, bind_s, o2, bind_s, imin_lesser, bind_s, hc2, b2, bind_s]
      exact z2
theorem why_c {σ8 σ9 ω : Sto} (h : YS σ8 σ9 ω) (a1 a2 : Int32) : (unl (σ9.1 82) a1 a2 = false ∧ f_X8_whyNoYear σ8 a1 a2 = some 1 ∧ f_X9_areUnlike σ9 a1 a2 = some false) ∨
    (f_X9_areUnlike σ9 a1 a2 = some true ∧ ∃ p q, p < 8 ∧ q < 8 ∧ p < NN (σ9.1 82) ∧ q < NN (σ9.1 82) ∧ a1 = nI p ∧ a2 = nI q ∧ ¬ S9 (σ9.1 82) p 2 = S9 (σ9.1 82) q 2 ∧ f_X0_swimmerAt σ8 1 a1 = some (some (12 + 2 * p)) ∧ f_X0_swimmerAt σ8 1 a2 = some (some (12 + 2 * q)) ∧ ((σ9.1 82 11 = 9999 ∧ f_X8_whyNoYear σ8 a1 a2 = some 3) ∨ (¬ σ9.1 82 11 = 9999 ∧ f_X8_whyNoYear σ8 a1 a2 = some 0))) := by
  have e8 : ∀ p q r5 r15, f_X8_areUnlike ω r5 r15 = some p → f_X8_areUnlike σ8 r5 r15 = some q → (∀ k, r5 = some k → ω.1 k 2 = σ8.1 k 2) → (∀ k, r15 = some k → ω.1 k 2 = σ8.1 k 2) → p = q := by
    intro p q r5 r15 h1 h2 h3 h4
    cases r5 with
    | none => exact Option.some.inj (h1.symm.trans h2)
    | some k =>
      cases r15 with
      | none => exact Option.some.inj (h1.symm.trans h2)
      | some k' =>
        unfold f_X8_areUnlike at h1 h2
        rw [onN_1, onN_1, h3 k rfl, h4 k' rfl] at h1
        rw [onN_1, onN_1] at h2
        exact Option.some.inj (h1.symm.trans h2)
  rw [h.unl9]
  have hin := h.2.2.1.1
  have d := h.2.1
  rcases unl_c hin a1 a2 with ⟨hn, ⟨r5, r15, e1, e2, e3⟩, e4⟩ | ⟨p, q, hp, hq, hpN, hqN, rfl, rfl, hu, hn, e1, e2, e3, e4⟩
  · refine Or.inl ⟨by rw [← d]; exact hn, ?_, e4⟩
    have sw : ∀ a r k, f_X0_swimmerAt ω 1 a = some r → r = some k → ω.1 k 2 = σ8.1 k 2 := by
      intro a r k q1 q2
      rcases sA8 hin a with ⟨-, e⟩ | ⟨p, hp, -, -, -, e⟩
      · rw [e] at q1
        have := Option.some.inj q1
        rw [← this] at q2
        cases q2
      · rw [e] at q1
        have := Option.some.inj q1
        rw [← this] at q2
        cases q2
        exact h.1 _ _ (by omega) (lk_scr (Or.inl ⟨rfl, rfl⟩) (Or.inl (by omega)) 2)
    have e3' : f_X8_areUnlike σ8 r5 r15 = some false := by
      rw [← e3]
      cases r5 with
      | none => rfl
      | some k =>
        cases r15 with
        | none => rfl
        | some k' =>
          unfold f_X8_areUnlike
          rw [onN_1, onN_1, onN_1, onN_1, sw a1 _ k e1 rfl, sw a2 _ k' e2 rfl]
    unfold f_X8_whyNoYear
    rw [h.sA, e1, bind_s, h.sA, e2, bind_s, e3', bind_s, if_neg (by decide)]
  · rw [d] at hu hpN hqN
    refine Or.inr ⟨e4, p, q, hp, hq, hpN, hqN, rfl, rfl, hu, by rw [h.sA, e1], by rw [h.sA, e2], ?_⟩
    have e3' : f_X8_areUnlike σ8 (some (12 + 2 * p)) (some (12 + 2 * q)) = some true := by
      unfold f_X8_areUnlike
      rw [onN_1, onN_1, if_pos (K12 p hp), if_pos (K12 q hq), if_neg (fun z => hu ((h.rs hpN 2 (by omega)).symm.trans (z.trans (h.rs hqN 2 (by omega)))))]
    obtain ⟨y, hy, ey⟩ := year_n h.ok
    have r4 : σ8.1 1 4 = nI y := (h.r (i := 11) (by decide)).trans ey
    have w : f_X8_whyNoYear σ8 (nI p) (nI q) = if nI y < 9999 then some 0 else some 3 := by
      unfold f_X8_whyNoYear
      rw [h.sA, e1, bind_s, h.sA, e2, bind_s, e3', bind_s, if_pos rfl, r4]
    by_cases hy9 : y = 9999
    · subst hy9
      exact Or.inl ⟨ey, by rw [w, if_neg (by decide)]⟩
    · refine Or.inr ⟨by rw [ey]; exact nI_ne _ 9999 rfl (by omega) (by omega) hy9, ?_⟩
      rw [w, if_pos (show nI y < 9999 from nI_lt (b := 9999) (by omega) (by omega))]
theorem YS.self9 {σ8 σ9 ω : Sto} (h : YS σ8 σ9 ω) (i : Nat) : YS σ8 (sI σ9 82 i (σ9.1 82 i)) ω := h.s9 (by
    funext b
    rw [sI_at]
    by_cases hb : b = i
    · rw [if_pos hb, hb]
    · rw [if_neg hb]) (fun k j hk hk' => by rw [sI_ne (by omega)])
theorem er_LPr {f g : Sto → Option (Int32 × Sto)} {b : Bool} {σ : Sto} {k : Nat} (hI : Inv σ) (h8 : f σ = some (-1000000000 - nI k, rf σ k)) (h9 : g (rf σ k) = some (-1000000000 - nI k, fi (rf σ k) k)) : ∃ r s, f σ = some r ∧ g r.2 = some s ∧ (b = true → r.1 = s.1) ∧ Inv s.2 :=
  ⟨_, _, h8, h9, fun _ => rfl, inv_err hI (Fr.rf _) (Fr.rf _)⟩
theorem s_year (a1 a2 : Int32) (b : Bool) : LPr (fun σ => f_X8_year σ a1 a2) (fun σ => f_X9_year σ a1 a2) b Inv Inv := by
  intro σ hI
  have y0 := YS.st hI (K8.rf σ)
  rcases why_c y0 a1 a2 with ⟨-, e8, e9⟩ | ⟨e9, p, q, hp, hq, hpN, hqN, rfl, rfl, hu, e1, e2, ⟨h11, e8⟩ | ⟨h11, e8⟩⟩
  · refine er_LPr (f := fun σ => f_X8_year σ a1 a2) (g := fun σ => f_X9_year σ a1 a2) (k := 1) hI ?_ ?_
    · show f_X8_year σ a1 a2 = _
      unfold f_X8_year
      rw [e8, bind_s, if_neg (by decide), r8_1, bind_s]
    · show f_X9_year (rf σ 1) a1 a2 = _
      unfold f_X9_year f_X9_aYear
      rw [show f_X9_areUnlike (rf σ 1) a1 a2 = some false from e9, bind_s, if_neg (by decide), r9_1, bind_s, bind_s]
  · refine er_LPr (f := fun σ => f_X8_year σ (nI p) (nI q)) (g := fun σ => f_X9_year σ (nI p) (nI q)) (k := 3) hI ?_ ?_
    · show f_X8_year σ (nI p) (nI q) = _
      unfold f_X8_year
      rw [e8, bind_s, if_neg (by decide), r8_3, bind_s]
    · show f_X9_year (rf σ 3) (nI p) (nI q) = _
      unfold f_X9_year f_X9_aYear
      rw [show f_X9_areUnlike (rf σ 3) (nI p) (nI q) = some true from e9, bind_s, if_pos rfl, rdA_82_11, bind_s, if_pos (show (rf σ 3).1 82 11 = 9999 from h11), r9_3, bind_s, bind_s]
  · refine fin_ys (f := fun σ => f_X8_year σ (nI p) (nI q)) (g := fun σ => f_X9_year σ (nI p) (nI q)) hI (fun σ9 hk => ?_)
    have y1 := YS.st hI hk
    have d : σ9.1 82 = σ.1 82 := funext fun j => hk 82 j (by omega)
    obtain ⟨α, β, γ, z1, z2, z3, z4, z5⟩ := year_go (y1.self9 6) (p := p) (q := q) (by rw [sI_nj (by decide), d]; exact h11) hp hq (by unfold NN; rw [sI_nj (by decide), d]; exact hpN) (by unfold NN; rw [sI_nj (by decide), d]; exact hqN) (by unfold S9; rw [sI_nj (by omega), sI_nj (by omega), d]; exact hu) e1 e2
    refine ⟨β.1 82 8, α, β, γ, ?_, ?_, z3, z4, (K9.w _).tr z5⟩
    · show f_X8_year σ (nI p) (nI q) = _
      unfold f_X8_year
      rw [e8, bind_s, if_pos rfl, z1, bind_s, z3.r (i := 8) (by decide)]
    · show f_X9_year σ9 (nI p) (nI q) = _
      unfold f_X9_year f_X9_aYear
      rw [y1.unl9, e9, bind_s, if_pos rfl, rdA_82_11, bind_s, d, if_neg h11, if_neg (by decide), rdA_82_6, bind_s]
      unfold f_X9_aYear_L63
      rw [wrA_82_6, bind_s, z2, bind_s, rdA_82_8, bind_s, bind_s]
theorem s_loose (a1 a2 : Int32) (b : Bool) : LPr (fun σ => f_X8_loose σ a1 a2) (fun σ => f_X9_loose σ a1 a2) b Inv Inv := by
  intro σ hI
  have y0 := YS.st hI (K8.rf σ)
  rcases why_c y0 a1 a2 with ⟨-, e8, e9⟩ | ⟨e9, p, q, hp, hq, hpN, hqN, rfl, rfl, hu, e1, e2, ⟨h11, e8⟩ | ⟨h11, e8⟩⟩
  · refine er_LPr (f := fun σ => f_X8_loose σ a1 a2) (g := fun σ => f_X9_loose σ a1 a2) (k := 1) hI ?_ ?_
    · show f_X8_loose σ a1 a2 = _
      unfold f_X8_loose
      rw [e8, bind_s, if_neg (by decide), r8_1, bind_s]
    · show f_X9_loose (rf σ 1) a1 a2 = _
      unfold f_X9_loose f_X9_aYear
      rw [show f_X9_areUnlike (rf σ 1) a1 a2 = some false from e9, bind_s, if_neg (by decide), r9_1, bind_s, bind_s]
  · refine er_LPr (f := fun σ => f_X8_loose σ (nI p) (nI q)) (g := fun σ => f_X9_loose σ (nI p) (nI q)) (k := 3) hI ?_ ?_
    · show f_X8_loose σ (nI p) (nI q) = _
      unfold f_X8_loose
      rw [e8, bind_s, if_neg (by decide), r8_3, bind_s]
    · show f_X9_loose (rf σ 3) (nI p) (nI q) = _
      unfold f_X9_loose f_X9_aYear
      rw [show f_X9_areUnlike (rf σ 3) (nI p) (nI q) = some true from e9, bind_s, if_pos rfl, rdA_82_11, bind_s, if_pos (show (rf σ 3).1 82 11 = 9999 from h11), r9_3, bind_s, bind_s]
  · refine fin_ys (f := fun σ => f_X8_loose σ (nI p) (nI q)) (g := fun σ => f_X9_loose σ (nI p) (nI q)) hI (fun σ9 hk => ?_)
    have y1 := YS.st hI hk
    have d : σ9.1 82 = σ.1 82 := funext fun j => hk 82 j (by omega)
    generalize hx : σ9.1 82 13 * 1103515245 + 12345 = x
    have y2 := y1.mp (i := 13) (j := 15) (by decide) (by decide) (v := x) (ok_free (by decide) _)
    generalize hw : irem (iushr x 8) 7 - 3 = w
    have y3 := y2.mp (i := 6) (j := 1) (by decide) (by decide) (v := w) (ok_free (by decide) _)
    have dd : ∀ i, i ≠ 6 → i ≠ 13 → (sI (sI σ9 82 13 x) 82 6 w).1 82 i = σ.1 82 i := fun i h1 h2 => by rw [sI_nj h1, sI_nj h2, d]
    have hs : ∀ r, S9 ((sI (sI σ9 82 13 x) 82 6 w).1 82) r 2 = S9 (σ.1 82) r 2 := fun r => dd _ (by omega) (by omega)
    obtain ⟨α, β, γ, z1, z2, z3, z4, z5⟩ := year_go y3 (p := p) (q := q) (by rw [dd _ (by decide) (by decide)]; exact h11) hp hq (by unfold NN; rw [dd _ (by decide) (by decide)]; exact hpN) (by unfold NN; rw [dd _ (by decide) (by decide)]; exact hqN) (by rw [hs, hs]; exact hu) (by rw [← e1]; exact sA_eq (by rw [sI_nj (by decide), sI_nj (by decide)]) _) (by rw [← e2]; exact sA_eq (by rw [sI_nj (by decide), sI_nj (by decide)]) _)
    refine ⟨β.1 82 8, α, β, γ, ?_, ?_, z3, ((K8.w _ (by decide)).tr (K8.w _ (by decide))).tr z4, ((K9.w _).tr (K9.w _)).tr z5⟩
    · show f_X8_loose σ (nI p) (nI q) = _
      unfold f_X8_loose f_X0_draw
      rw [e8, bind_s, if_pos rfl, lp_b, y1.r (i := 13) (j := 15) (by decide), hx, bind_s]
      show lp (sI (sI σ 1 15 x) 1 1 (irem (iushr ((sI σ 1 15 x).1 1 15) 8) 7 - 3)) _ = _
      rw [show (sI σ 1 15 x).1 1 15 = x by rw [sI_at, if_pos rfl], hw, lp_b, z1, bind_s, z3.r (i := 8) (by decide)]
    · show f_X9_loose σ9 (nI p) (nI q) = _
      unfold f_X9_loose f_X9_aYear f_X9_drawn
      rw [y1.unl9, e9, bind_s, if_pos rfl, rdA_82_11, bind_s, d, if_neg h11, if_pos rfl, rdA_82_13, bind_s, hx, wrA_82_13, bind_s, rdA_82_13, bind_s, bind_s]
      unfold f_X9_aYear_L63
      rw [show (sI σ9 82 13 x).1 82 13 = x by rw [sI_at, if_pos rfl], hw, wrA_82_6, bind_s, z2, bind_s, rdA_82_8, bind_s, bind_s]
theorem shA8 (σ : Sto) (a : Int32) : (isO a 0 3 = true ∧ f_X8_sheetAt σ a = some none) ∨ ∃ s, s < 4 ∧ a = nI s ∧ isO a 0 3 = false ∧ f_X8_sheetAt σ a = some (some (73 + 2 * s)) := by
  unfold f_X8_sheetAt
  rw [out_eq, bind_s]
  cases h : isO a 0 3 with
  | true => exact Or.inl ⟨rfl, by rw [if_pos rfl]⟩
  | false =>
    obtain ⟨s, hs, rfl⟩ := isO_nI (n := 3) rfl h
    refine Or.inr ⟨s, by omega, rfl, rfl, ?_⟩
    rw [if_neg (by decide), rdR_nI (by show s < 4; omega), bind_s, (show ∀ s, s < 4 → R0 67 s = some (73 + 2 * s) by decide) s (by omega)]
theorem sh_f : ∀ s, s < 4 → K0 (73 + 2 * s) = 4 ∧ A0 (73 + 2 * s) 0 = 74 + 2 * s ∧ Ln0 (74 + 2 * s) = 40 := by decide
theorem sh_rd {σ : Sto} {s i : Nat} (hs : s < 4) (hi : i < 40) : f_X4_read σ (73 + 2 * s) (nI i) = some (σ.1 (74 + 2 * s) i) := by
  obtain ⟨-, h2, h3⟩ := sh_f s hs
  unfold f_X4_read
  rw [out_eq, bind_s, show isO (nI i) 0 (40 - 1) = false from isO_lit (n := 39) (by omega) (by omega), if_neg (by decide), h2, rd_nI (by rw [h3]; exact hi), bind_s]
theorem YS.sh {σ8 σ9 ω : Sto} (h : YS σ8 σ9 ω) {s : Nat} (hs : s < 4) : σ8.1 (73 + 2 * s) 2 = σ9.1 90 s ∧ σ8.1 (73 + 2 * s) 1 = σ9.1 91 s ∧ (∃ n, n ≤ 40 ∧ σ9.1 91 s = nI n) ∧ ∀ i, i < 40 → σ8.1 (74 + 2 * s) i = σ9.1 92 (40 * s + i) := by
  obtain ⟨q1, q2, q3, q4⟩ := h.2.2.1.1.2.2.2.2.1 s hs
  have nsc : ∀ k j, (73 ≤ k ∧ k ≤ 80) ∨ (90 ≤ k ∧ k ≤ 92) → scr k j = false := by
    intro k j hk
    simp only [scr, Bool.or_eq_false_iff, Bool.and_eq_false_iff, beq_eq_false_iff_ne, decide_eq_false_iff_not, ne_eq]
    omega
  have e8 : ∀ k j, (73 ≤ k ∧ k ≤ 80) → σ8.1 k j = ω.1 k j := fun k j hk => (h.1 k j (by omega) (nsc k j (Or.inl hk))).symm
  have e9 : ∀ k j, (90 ≤ k ∧ k ≤ 92) → σ9.1 k j = ω.1 k j := fun k j hk => (h.2.2.2.2.2 k j hk.1 hk.2).trans (h.1 k j (by omega) (nsc k j (Or.inr hk))).symm
  refine ⟨by rw [e8 _ _ (by omega), e9 _ _ (by omega)]; exact q1, by rw [e8 _ _ (by omega), e9 _ _ (by omega)]; exact q2, by rw [e9 _ _ (by omega)]; exact q3, fun i hi => by rw [e8 _ _ (by omega), e9 _ _ (by omega)]; exact q4 i hi⟩
theorem mul40 : ∀ s, s < 4 → (40 * nI s : Int32) = nI (40 * s) := by decide
theorem mul2 : ∀ i, i ≤ 40 → (2 * nI i + 2 : Int32) = nI (2 * i + 2) := by decide +kernel
theorem years_L {s : Nat} (hs : s < 4) : ∀ (n i : Nat) (σ8 σ9 ω : Sto), i ≤ 20 → 20 < n + i → YS σ8 σ9 ω → ∃ v σ8' σ9' ω', f_X8_years_L34 (73 + 2 * s) n (nI i) (nI (2 * i)) σ8 = some (v, σ8') ∧ f_X9_years_L35 (nI s) n (nI i) (nI (40 * s + 2 * i)) σ9 = some (v, σ9') ∧ YS σ8' σ9' ω' ∧ K8 σ8 σ8' ∧ K9 σ9 σ9' := by
  intro n
  induction n with
  | zero => intro i _ _ _ h1 h2; omega
  | succ n ih =>
    intro i σ8 σ9 ω h1 h2 h
    obtain ⟨-, c1, ⟨m, hm, c2⟩, c3⟩ := h.sh hs
    rw [f_X8_years_L34, f_X9_years_L35, rd_nI (by show s < 4; exact hs), bind_s, mul2 i (by omega), nI_1, nI_1, c1, c2]
    by_cases hmi : m ≤ 2 * i + 1
    · rw [if_pos (nI_le hmi (by omega)), if_pos (show nI m < nI (2 * i + 2) from (nI_ltI (by omega) (by omega)).mpr (by omega))]
      exact ⟨_, _, _, _, rfl, rfl, h, K8.rf _, K9.rf _⟩
    · rw [if_neg (nI_ge (by omega) (by omega)), if_neg (nI_nlt (by omega) (by omega)), sh_rd hs (by omega), bind_s, sh_rd hs (by omega), bind_s, c3 _ (by omega), c3 _ (by omega), rdA_82_11, bind_s, rd_nI (by show 40 * s + 2 * i < 160; omega), bind_s, nI_1, rd_nI (by show 40 * s + 2 * i + 1 < 160; omega), bind_s, bind_s, bind_s]
      generalize σ9.1 92 (40 * s + 2 * i) = a1
      rw [show 40 * s + (2 * i + 1) = 40 * s + 2 * i + 1 by omega]
      generalize σ9.1 92 (40 * s + 2 * i + 1) = a2
      obtain ⟨y, hy, ey⟩ := year_n h.ok
      rcases why_c h a1 a2 with ⟨-, e8, e9⟩ | ⟨e9, p, q, hp, hq, hpN, hqN, rfl, rfl, hu, e1, e2, ⟨h11, e8⟩ | ⟨h11, e8⟩⟩
      · refine ⟨_, _, _, _, by rw [e8, bind_s, if_neg (by decide)], ?_, h, K8.rf _, K9.rf _⟩
        by_cases h9 : (9999 : Int32) ≤ σ9.1 82 11
        · rw [if_pos h9]
        · rw [if_neg h9, e9, bind_s, if_neg (by decide)]
      · refine ⟨_, _, _, _, by rw [e8, bind_s, if_neg (by decide)], ?_, h, K8.rf _, K9.rf _⟩
        rw [if_pos (by rw [h11]; decide)]
      · have h9 : ¬ (9999 : Int32) ≤ σ9.1 82 11 := by
          rw [ey] at h11 ⊢
          exact nI_ge (b := 9999) (by
            rcases (show y = 9999 ∨ y < 9999 by omega) with rfl | h'
            · exact absurd rfl h11
            · exact h') (by omega)
        obtain ⟨α, β, γ, z1, z2, z3, z4, z5⟩ := year_go h h11 hp hq hpN hqN hu e1 e2
        obtain ⟨v, α', β', γ', w1, w2, w3, w4, w5⟩ := ih (i + 1) α β γ (by omega) (by omega) z3
        refine ⟨v, α', β', γ', ?_, ?_, w3, z4.tr w4, z5.tr w5⟩
        · rw [e8, bind_s, if_pos rfl, z1, bind_s, show (nI (2 * i) + 2 : Int32) = nI (2 * (i + 1)) from nI_add (2 * i) 2]
          exact w1
        · rw [if_neg h9, e9, bind_s, if_pos rfl, z2, bind_s, show (nI (40 * s + 2 * i) + 2 : Int32) = nI (40 * s + 2 * (i + 1)) from nI_add (40 * s + 2 * i) 2]
          exact w2
theorem s_years (a1 : Int32) (b : Bool) : LPr (fun σ => f_X8_years σ a1) (fun σ => f_X9_years σ a1) b Inv Inv := by
  intro σ hI
  rcases shA8 σ a1 with ⟨hq, e⟩ | ⟨s, hs, rfl, hq, e⟩
  · refine er_LPr (f := fun σ => f_X8_years σ a1) (g := fun σ => f_X9_years σ a1) (k := 1) hI ?_ ?_
    · show f_X8_years σ a1 = _
      unfold f_X8_years
      rw [e, bind_s, onN_0, r8_1, bind_s]
    · show f_X9_years (rf σ 1) a1 = _
      unfold f_X9_years
      rw [sheet_eq, bind_s, hq, if_neg (by decide), r9_1, bind_s]
  · obtain ⟨c0, -, -, -⟩ := (YS.st hI (K8.rf σ)).sh hs
    by_cases h0 : σ.1 90 s = 0
    · refine er_LPr (f := fun σ => f_X8_years σ (nI s)) (g := fun σ => f_X9_years σ (nI s)) (k := 2) hI ?_ ?_
      · show f_X8_years σ (nI s) = _
        unfold f_X8_years f_X4_isMissing
        rw [e, bind_s, onN_1, if_pos (sh_f s hs).1, c0, if_pos h0, bind_s, if_pos rfl, r8_2, bind_s]
      · show f_X9_years (rf σ 2) (nI s) = _
        unfold f_X9_years
        rw [sheet_eq, bind_s, hq, if_pos (by decide), rd_nI (by show s < 4; exact hs), bind_s, rf_at (by decide), if_pos h0, r9_2, bind_s]
    · refine fin_ys (f := fun σ => f_X8_years σ (nI s)) (g := fun σ => f_X9_years σ (nI s)) hI (fun σ9 hk => ?_)
      have y1 := YS.st hI hk
      obtain ⟨v, α, β, γ, z1, z2, z3, z4, z5⟩ := years_L hs FU 0 σ σ9 σ (by omega) (by unfold FU; omega) y1
      refine ⟨v, α, β, γ, ?_, ?_, z3, z4, z5⟩
      · show f_X8_years σ (nI s) = _
        unfold f_X8_years f_X4_isMissing
        rw [e, bind_s, onN_1, if_pos (sh_f s hs).1, c0, if_neg h0, bind_s, if_neg (by decide)]
        exact z1
      · show f_X9_years σ9 (nI s) = _
        unfold f_X9_years
        rw [sheet_eq, bind_s, hq, if_pos (by decide), rd_nI (by show s < 4; exact hs), bind_s, hk 90 s (by omega), if_neg h0, mul40 s hs]
        exact z2
/-! Questions that change nothing: ask, leastSight. -/
theorem C8.fr {x : Option (Int32 × Sto)} {σ τ : Sto} {o : Int32 ⊕ Nat} (f : Fr σ τ) (h : C8 x τ o) : C8 x σ o := by
  cases o with
  | inl v => obtain ⟨υ, u1, u2⟩ := h; exact ⟨υ, u1, f.tr u2⟩
  | inr k => obtain ⟨υ, u1, u2⟩ := h; exact ⟨υ, u1, f.tr u2⟩
def upv (V : Nat → Int32) (i : Nat) (w : Int32) : Nat → Int32 := fun j => if j = i then w else V j
theorem upv_ne {V : Nat → Int32} {i j : Nat} {w : Int32} (h : j ≠ i) : upv V i w j = V j := if_neg h
theorem upv_at {V : Nat → Int32} {i : Nat} {w : Int32} : upv V i w i = w := if_pos rfl
theorem sI_row {σ : Sto} {k i : Nat} {w : Int32} : (sI σ k i w).1 k = upv (σ.1 k) i w := funext fun j => sI_at
theorem pPos_fl {A : Nat → Int32} (hA : GR A) {fl fl' : Int32 → Int32} (h : ∀ i, i < 6 → fl (nI i) = fl' (nI i)) : ∀ t, pPos A fl t = pPos A fl' t := by
  intro t
  induction t with
  | zero => rfl
  | succ t ih =>
    obtain ⟨l, hl, e⟩ := hA.pLn t
    rw [pPos, pPos, ih]
    unfold pGo
    rw [e, h l hl]
theorem met_fl {A B : Nat → Int32} (hA : GR A) (hB : GR B) {fl fl' : Int32 → Int32} (h : ∀ i, i < 6 → fl (nI i) = fl' (nI i)) (s : Int32) : met A B fl s = met A B fl' s := by
  have hm : ∀ t, mtT A B fl s t = mtT A B fl' s t := by
    intro t
    unfold mtT gapT
    rw [pPos_fl hA h, pPos_fl hB h]
  have hd : ∀ d, mtD A B fl s d = mtD A B fl' s d := by
    intro d
    induction d with
    | zero => rfl
    | succ d ih => rw [mtD, mtD, hm, ih]
  exact hd 60
theorem metP_fl {A B : Nat → Int32} (hA : GR A) (hB : GR B) {fl fl' : Int32 → Int32} (h : ∀ i, i < 6 → fl (nI i) = fl' (nI i)) (u : Nat) : metP A B fl u = metP A B fl' u := by
  unfold metP
  rw [pPos_fl hA h, pPos_fl hB h]
theorem CW.vc {V W : Nat → Int32} {u : Nat} (hu : u ≤ 1) (h : CW V u) (e : ∀ i, (88 ≤ i ∧ i < 90) ∨ (110 ≤ i ∧ i < 210) → W i = V i) : CW W u := by
  obtain ⟨n, q1, q2, q3⟩ := h
  refine ⟨n, q1, by rw [e _ (by omega)]; exact q2, q3.imp id (fun q => ?_)⟩
  rw [show codeL W u n = codeL V u n from List.map_congr_left (fun i hi => e _ (by have := List.mem_range.mp hi; omega))]
  exact q
/-- a swim with the row W, where flows are as with V, the swimmers are those of A and B -/
theorem swimW {σ : Sto} {V W A B : Nat → Int32} {w s : Int32} (hW : σ.1 82 = W) (hv : Vc W V) (hc : CW V 0) (e6 : W 6 = w) (e7 : W 7 = s) {p q : Nat} (hp : p < 8) (hq : q < 8) (hA : Eq9 (S9 W p) A) (hB : Eq9 (S9 W q) B) (gA : GR A) (gB : GR B) (hu : ¬ A 2 = B 2) :
    ∃ τ, f_X9_swim σ (nI p) (nI q) = some ((met A B (flV V w) s).isSome, τ) ∧ Fs σ τ ∧ ∀ u, met A B (flV V w) s = some u → τ.1 81 15 = nI u ∧ τ.1 81 16 = metP A B (flV V w) u := by
  have hcW : CW W 0 := hc.vc (by omega) hv.2
  obtain ⟨τ, t1, t2, t3⟩ := swim9 (σ := σ) (by rw [hW]; exact hcW) hp hq (by rw [hW]; exact hA.gr gA) (by rw [hW]; exact hB.gr gB) (by rw [hW, hA 2 (by omega), hB 2 (by omega)]; exact hu)
  have hf : ∀ i, i < 6 → flV W w (nI i) = flV V w (nI i) := fun i hi => hv.fl hc w hi
  rw [hW, e6, e7, hA.me hB, met_fl gA gB hf] at t1 t3
  exact ⟨τ, t1, t2, fun u hu => by obtain ⟨v1, v2⟩ := t3 u hu; exact ⟨v1, by rw [v2, hA.mP hB, metP_fl gA gB hf]⟩⟩
def bt (s a b : Int32) : Bool := if s = 0 then !decide (a ≤ b) else !decide (b ≤ a)
theorem bt8 (s a b : Int32) : f_X8_isBetter s a b = some (bt s a b) := by
  unfold f_X8_isBetter bt
  by_cases h : s = 0
  · rw [if_pos h, if_pos h]
    by_cases h' : a ≤ b
    · rw [if_pos h', decide_eq_true h']; rfl
    · rw [if_neg h', decide_eq_false h']; rfl
  · rw [if_neg h, if_neg h]
    by_cases h' : b ≤ a
    · rw [if_pos h', decide_eq_true h']; rfl
    · rw [if_neg h', decide_eq_false h']; rfl
theorem bt9 (s a b : Int32) : f_X9_isBetter s a b = some (bt s a b) := bt8 s a b
def askS (A B V : Nat → Int32) (s : Int32) : Nat → Option (Int32 × Int32) → Option (Int32 × Int32)
  | 0, st => st
  | d + 1, st => askS A B V s d (match met A B (flV V (3 - nI d)) s with
    | none => st
    | some u => match st with
      | none => some (3 - nI d, metP A B (flV V (3 - nI d)) u)
      | some x => if bt (A 2) (metP A B (flV V (3 - nI d)) u) x.2 = true then some (3 - nI d, metP A B (flV V (3 - nI d)) u) else some x)
def ansO (st : Option (Int32 × Int32)) : Int32 ⊕ Nat := match st with
  | none => .inr 2
  | some x => .inl x.1
theorem wind_n : ∀ d, d < 7 → ¬ (3 : Int32) < 3 - nI d ∧ (3 - nI d + 1 : Int32) = 4 - nI d ∧ ¬ (3 - nI d : Int32) = 9 := by decide +kernel
theorem wind_s : ∀ d, d < 7 → (4 - nI (d + 1) : Int32) = 3 - nI d := by decide +kernel
/-- the meeting of two swimmers of the lake, with a wind -/
theorem meetW {σ : Sto} (h : Ic σ) {V A B : Nat → Int32} {w s : Int32} (hd : σ.1 82 = V) {k1 k2 : Nat} (hk1 : K0 k1 = 6) (hk2 : K0 k2 = 6) (n1 : k1 ≠ 6 ∧ k1 ≠ 59 ∧ k1 ≠ 5 ∧ k1 ≠ 58) (n2 : k2 ≠ 6 ∧ k2 ≠ 59 ∧ k2 ≠ 5 ∧ k2 ≠ 58) (hA : Eq9 (S8 σ k1) A) (hB : Eq9 (S8 σ k2) B) (gA : GR A) (gB : GR B) (hs : σ.1 1 2 = s) :
    ∃ τ υ, f_X5_feel σ 1 w = some τ ∧ f_X5_meets τ k1 k2 (τ.1 1 2) = some ((met A B (flV V w) s).isSome, υ) ∧ (∀ a b, a ≠ 6 → a ≠ 58 → a ≠ 59 → υ.1 a b = σ.1 a b) ∧ ∀ u, met A B (flV V w) s = some u → υ.1 58 1 = nI u ∧ υ.1 58 2 = metP A B (flV V w) u ∧ υ.1 58 3 = pLn A u := by
  obtain ⟨τ, t1, t2, t3⟩ := feel_eq h w
  have hf : Fl τ (flV V w) := by rw [← hd]; exact t2
  have eA : Eq9 (S8 τ k1) A := by rw [S8_congr (fun j => t3 k1 j n1.1 n1.2.1) (fun j => t3 (k1 + 1) j (by omega) (by omega))]; exact hA
  have eB : Eq9 (S8 τ k2) B := by rw [S8_congr (fun j => t3 k2 j n2.1 n2.2.1) (fun j => t3 (k2 + 1) j (by omega) (by omega))]; exact hB
  obtain ⟨υ, u1, u2, u3⟩ := meets8 hk1 hk2 gA gB eA eB hf s
  refine ⟨τ, υ, t1, ?_, fun a b h1 h2 h3 => by rw [u2 a b h2, t3 a b h1 h3], u3⟩
  rw [t3 1 2 (by decide) (by decide), hs]
  exact u1
theorem fr_m {σ τ : Sto} (h : ∀ a b, a ≠ 6 → a ≠ 58 → a ≠ 59 → τ.1 a b = σ.1 a b) : Fr σ τ := fun k j hs => h k j (by rintro rfl; simp [scr] at hs) (by rintro rfl; simp [scr] at hs) (by rintro rfl; simp [scr] at hs)
theorem ask8_L {V : Nat → Int32} {p q : Nat} (hp : p < 8) (hq : q < 8) (hpN : p < NN V) (hqN : q < NN V) : ∀ (d n : Nat) (st : Option (Int32 × Int32)) (v5 : Bool) (v6 v7 : Int32) (σ : Sto), d ≤ 7 → d < n → Iw σ → σ.1 82 = V → v5 = st.isSome → (∀ x, st = some x → v6 = x.1 ∧ v7 = x.2) →
    C8 (f_X8_ask_L47 (some (12 + 2 * p)) (some (12 + 2 * q)) n v5 v6 v7 (4 - nI d) σ) σ (ansO (askS (S9 V p) (S9 V q) V (V 7) d st)) := by
  intro d
  induction d with
  | zero =>
    intro n st v5 v6 v7 σ _ h2 hI hV h5 h6
    obtain ⟨n, rfl⟩ : ∃ n', n = n' + 1 := ⟨n - 1, by omega⟩
    rw [f_X8_ask_L47, if_pos (by decide)]
    cases st with
    | none =>
      subst h5
      rw [if_neg (show ¬ (none : Option (Int32 × Int32)).isSome = true by decide), r8_2, bind_s]
      exact ⟨σ, rfl, Fr.rf σ⟩
    | some x =>
      subst h5
      rw [if_pos (show (some x).isSome = true from rfl), (h6 x rfl).1]
      exact ⟨σ, rfl, Fr.rf σ⟩
  | succ d ih =>
    intro n st v5 v6 v7 σ h1 h2 hI hV h5 h6
    obtain ⟨n, rfl⟩ : ∃ n', n = n' + 1 := ⟨n - 1, by omega⟩
    obtain ⟨w1, w2, w3⟩ := wind_n d (by omega)
    have ok : ∀ i, okv i (V i) = true := by rw [← hV]; exact hI.ok
    have e1 := sw_Eq9 hI (p := p) (by rw [hV]; exact hpN)
    have e2 := sw_Eq9 hI (p := q) (by rw [hV]; exact hqN)
    rw [hV] at e1 e2
    obtain ⟨τ, υ, t1, t2, t3, t4⟩ := meetW hI.ic (w := 3 - nI d) (s := V 7) hV (K12 p hp) (K12 q hq) (by omega) (by omega) e1 e2 (gr9 ok hp) (gr9 ok hq) ((hI.mp (i := 7) (j := 2) (by decide)).trans (by rw [hV]))
    have f : Fr σ υ := fr_m t3
    have hIυ : Iw υ := hI.fr (fun k j hs _ _ => f k j hs)
    have hVυ : υ.1 82 = V := f.d.trans hV
    have hside : υ.1 (12 + 2 * p) 2 = S9 V p 2 := by rw [t3 _ _ (by omega) (by omega) (by omega)]; exact e1 2 (by omega)
    rw [f_X8_ask_L47, wind_s d (by omega), if_neg w1, t1, bind_s, deref6 (K12 p hp), deref6 (K12 q hq), t2, bind_s, askS]
    unfold f_X8_ask_L126 f_X8_ask_L110 f_X8_ask_L126
    rw [w2]
    cases hm : met (S9 V p) (S9 V q) (flV V (3 - nI d)) (V 7) with
    | none =>
      rw [if_neg (show ¬ (none : Option Nat).isSome = true by decide)]
      exact (ih n st v5 v6 v7 υ (by omega) (by omega) hIυ hVυ h5 h6).fr f
    | some u =>
      obtain ⟨-, v2, -⟩ := t4 u hm
      rw [if_pos (show (some u).isSome = true from rfl)]
      cases st with
      | none =>
        subst h5
        rw [if_neg (show ¬ (none : Option (Int32 × Int32)).isSome = true by decide), v2]
        exact (ih n (some (3 - nI d, metP (S9 V p) (S9 V q) (flV V (3 - nI d)) u)) true _ _ υ (by omega) (by omega) hIυ hVυ rfl (fun x hx => by cases hx; exact ⟨rfl, rfl⟩)).fr f
      | some x =>
        subst h5
        rw [if_pos (show (some x).isSome = true from rfl), hside, v2, bt8, bind_s, (h6 x rfl).2]
        cases hb : bt (S9 V p 2) (metP (S9 V p) (S9 V q) (flV V (3 - nI d)) u) x.2 with
        | true =>
          rw [if_pos rfl]
          simp only [hb, if_true]
          exact (ih n (some (3 - nI d, metP (S9 V p) (S9 V q) (flV V (3 - nI d)) u)) true _ _ υ (by omega) (by omega) hIυ hVυ rfl (fun x hx => by cases hx; exact ⟨rfl, rfl⟩)).fr f
        | false =>
          rw [if_neg (by decide)]
          simp only [hb, Bool.false_eq_true, if_false]
          exact (ih n (some x) _ _ _ υ (by omega) (by omega) hIυ hVυ rfl (fun y hy => by cases hy; exact ⟨(h6 x rfl).1, rfl⟩)).fr f
theorem ask9_L {V : Nat → Int32} (ok : ∀ i, okv i (V i) = true) (hc : CW V 0) {p q : Nat} (hp : p < 8) (hq : q < 8) (hu : ¬ S9 V p 2 = S9 V q 2) {σ0 : Sto} (h0 : σ0.1 82 = V) : ∀ (d n : Nat) (st : Option (Int32 × Int32)) (v4 v5 : Int32) (σ : Sto), d ≤ 7 → d < n → K9 σ0 σ → (∀ j, j ≠ 6 → σ.1 82 j = V j) → (st = none → v4 = 9) → (∀ x, st = some x → v4 = x.1 ∧ v5 = x.2 ∧ ¬ x.1 = 9) →
    C9 (f_X9_ask_L34 (nI p) (nI q) (V 6) n v4 v5 (4 - nI d) σ) σ0 (ansO (askS (S9 V p) (S9 V q) V (V 7) d st)) := by
  intro d
  induction d with
  | zero =>
    intro n st v4 v5 σ _ h2 hk hV h4 h5
    obtain ⟨n, rfl⟩ : ∃ n', n = n' + 1 := ⟨n - 1, by omega⟩
    have f : Fr σ0 (sI σ 82 6 (V 6)) := by
      intro a b hs
      by_cases ha : a = 82
      · subst ha
        rw [sI_at, h0]
        by_cases hb : b = 6
        · rw [if_pos hb, hb]
        · rw [if_neg hb, hV b hb]
      · rw [sI_ne ha, hk a b ha hs]
    rw [f_X9_ask_L34, if_pos (by decide), wrA_82_6, bind_s]
    cases st with
    | none =>
      rw [if_pos (h4 rfl), r9_2, bind_s]
      exact ⟨_, rfl, f⟩
    | some x =>
      obtain ⟨x1, x2, x3⟩ := h5 x rfl
      rw [if_neg (by rw [x1]; exact x3), x1]
      exact ⟨_, rfl, f⟩
  | succ d ih =>
    intro n st v4 v5 σ h1 h2 hk hV h4 h5
    obtain ⟨n, rfl⟩ : ∃ n', n = n' + 1 := ⟨n - 1, by omega⟩
    obtain ⟨w1, w2, w3⟩ := wind_n d (by omega)
    have hW : ∀ j, j ≠ 6 → (sI σ 82 6 (3 - nI d)).1 82 j = V j := fun j hj => by rw [sI_nj hj]; exact hV j hj
    obtain ⟨υ, t1, t2, t3⟩ := swimW (σ := sI σ 82 6 (3 - nI d)) (V := V) (A := S9 V p) (B := S9 V q) (w := 3 - nI d) (s := V 7) rfl ⟨fun i hi => hW i (by omega), fun i hi => hW i (by omega)⟩ hc (by rw [sI_at, if_pos rfl]) (hW 7 (by decide)) hp hq (fun j hj => hW _ (by omega)) (fun j hj => hW _ (by omega)) (gr9 ok hp) (gr9 ok hq) hu
    have kυ : K9 σ0 υ := hk.tr ((K9.w _).tr t2.fr.k9)
    have hVυ : ∀ j, j ≠ 6 → υ.1 82 j = V j := fun j hj => by rw [t2.d]; exact hW j hj
    have o2 : f_X9_of υ (nI p) 2 = some (S9 V p 2) := by
      rw [show f_X9_of υ (nI p) 2 = _ from of_eq hp (j := 2) (by omega)]
      unfold S9
      rw [hVυ _ (by omega)]
    rw [f_X9_ask_L34, wind_s d (by omega), if_neg w1, wrA_82_6, bind_s, t1, bind_s, askS]
    unfold f_X9_ask_L93 f_X9_ask_L83 f_X9_ask_L93
    rw [w2]
    cases hm : met (S9 V p) (S9 V q) (flV V (3 - nI d)) (V 7) with
    | none =>
      rw [if_neg (show ¬ (none : Option Nat).isSome = true by decide)]
      exact ih n st v4 v5 υ (by omega) (by omega) kυ hVυ h4 h5
    | some u =>
      obtain ⟨-, v2⟩ := t3 u hm
      rw [if_pos (show (some u).isSome = true from rfl)]
      cases st with
      | none =>
        rw [if_pos (h4 rfl), v2]
        exact ih n (some (3 - nI d, metP (S9 V p) (S9 V q) (flV V (3 - nI d)) u)) _ _ υ (by omega) (by omega) kυ hVυ (fun h => by cases h) (fun x hx => by cases hx; exact ⟨rfl, rfl, w3⟩)
      | some x =>
        obtain ⟨x1, x2, x3⟩ := h5 x rfl
        rw [if_neg (by rw [x1]; exact x3), o2, bind_s, v2, bt9, bind_s, x2]
        cases hb : bt (S9 V p 2) (metP (S9 V p) (S9 V q) (flV V (3 - nI d)) u) x.2 with
        | true =>
          rw [if_pos rfl]
          simp only [hb, if_true]
          exact ih n (some (3 - nI d, metP (S9 V p) (S9 V q) (flV V (3 - nI d)) u)) _ _ υ (by omega) (by omega) kυ hVυ (fun h => by cases h) (fun x hx => by cases hx; exact ⟨rfl, rfl, w3⟩)
        | false =>
          rw [if_neg (by decide)]
          simp only [hb, Bool.false_eq_true, if_false]
          exact ih n (some x) _ _ υ (by omega) (by omega) kυ hVυ (fun h => by cases h) (fun y hy => by cases hy; exact ⟨x1, rfl, x3⟩)
theorem s_ask (a1 a2 : Int32) (b : Bool) : LPr (fun σ => f_X8_ask σ a1 a2) (fun σ => f_X9_ask σ a1 a2) b Inv Inv := by
  refine pr_ro (fun σ => if unl (σ.1 82) a1 a2 = true then ansO (askS (S9 (σ.1 82) a1.toNatClampNeg) (S9 (σ.1 82) a2.toNatClampNeg) (σ.1 82) (σ.1 82 7) 7 none) else .inr 1) (fun σ τ h => by show _ = _; rw [h.d]) (fun σ h => ?_) (fun σ h => ?_) b
  · show C8 (f_X8_ask σ a1 a2) σ _
    unfold f_X8_ask
    rcases unl_c h a1 a2 with ⟨hn, ⟨r5, r15, e1, e2, e3⟩, -⟩ | ⟨p, q, hp, hq, hpN, hqN, rfl, rfl, hu, hn, e1, e2, e3, -⟩
    · simp only [hn, Bool.false_eq_true, if_false]
      exact ⟨σ, by rw [e1, bind_s, e2, bind_s, e3, bind_s, if_neg (by decide), r8_1, bind_s], Fr.rf σ⟩
    · simp only [hn, if_true]
      rw [e1, bind_s, e2, bind_s, e3, bind_s, if_pos rfl, nI_clamp (by omega), nI_clamp (by omega)]
      exact ask8_L hp hq hpN hqN 7 FU none false 0 0 σ (by omega) (by unfold FU; omega) h rfl rfl (fun x hx => by cases hx)
  · show C9 (f_X9_ask σ a1 a2) σ _
    unfold f_X9_ask
    rcases unl_c h a1 a2 with ⟨hn, -, e3⟩ | ⟨p, q, hp, hq, hpN, hqN, rfl, rfl, hu, hn, -, -, -, e3⟩
    · simp only [hn, Bool.false_eq_true, if_false]
      exact ⟨σ, by rw [e3, bind_s, if_neg (by decide), r9_1, bind_s], Fr.rf σ⟩
    · simp only [hn, if_true]
      rw [e3, bind_s, if_pos rfl, rdA_82_6, bind_s, nI_clamp (by omega), nI_clamp (by omega)]
      exact ask9_L h.ok h.cd.1.cw hp hq hu rfl 7 FU none 9 0 σ (by omega) (by unfold FU; omega) (K9.rf _) (fun _ _ => rfl) (fun _ => rfl) (fun x hx => by cases hx)
theorem imin_le {a b s : Int32} : imin a b ≤ s ↔ a ≤ s ∨ b ≤ s := by
  unfold imin
  simp only [Int32.le_iff_toInt_le, Int32.lt_iff_toInt_lt]
  by_cases h : b.toInt < a.toInt
  · rw [if_pos h]; omega
  · rw [if_neg h]; omega
theorem imax_le {a b s : Int32} : imax a b ≤ s ↔ a ≤ s ∧ b ≤ s := by
  unfold imax
  simp only [Int32.le_iff_toInt_le, Int32.lt_iff_toInt_lt]
  by_cases h : a.toInt < b.toInt
  · rw [if_pos h]; omega
  · rw [if_neg h]; omega
theorem le_imin {a b s : Int32} (h1 : s ≤ a) (h2 : s ≤ b) : s ≤ imin a b := by
  unfold imin
  by_cases h : b < a
  · rw [if_pos h]; exact h2
  · rw [if_neg h]; exact h1
theorem le_imax (a b : Int32) : a ≤ imax a b := by
  unfold imax
  by_cases h : a < b
  · rw [if_pos h]; exact Int32.le_of_lt h
  · rw [if_neg h]; exact Int32.le_refl a
def lgD (A B : Nat → Int32) (fl : Int32 → Int32) : Nat → Int32 → Int32
  | 0, acc => acc
  | d + 1, acc => lgD A B fl d (if pLn A (59 - d) = pLn B (59 - d) then imin acc (imax 0 (gapT A B fl (59 - d + 1))) else acc)
theorem lg_pos {A B : Nat → Int32} {fl : Int32 → Int32} : ∀ (d : Nat) (acc : Int32), 0 ≤ acc → 0 ≤ lgD A B fl d acc := by
  intro d
  induction d with
  | zero => intro acc h; exact h
  | succ d ih =>
    intro acc h
    rw [lgD]
    by_cases hl : pLn A (59 - d) = pLn B (59 - d)
    · rw [if_pos hl]; exact ih _ (le_imin h (le_imax _ _))
    · rw [if_neg hl]; exact ih _ h
theorem lg_met {A B : Nat → Int32} {fl : Int32 → Int32} {s : Int32} (hs : 0 ≤ s) : ∀ (d : Nat) (acc : Int32), lgD A B fl d acc ≤ s ↔ acc ≤ s ∨ (mtD A B fl s d).isSome = true := by
  intro d
  induction d with
  | zero => intro acc; rw [lgD, mtD]; simp
  | succ d ih =>
    intro acc
    rw [lgD, mtD, ih]
    unfold mtT
    by_cases hl : pLn A (59 - d) = pLn B (59 - d)
    · rw [if_pos hl, decide_eq_true hl, imin_le, imax_le]
      by_cases hg : s < gapT A B fl (59 - d + 1)
      · rw [decide_eq_true hg, if_neg (by decide)]
        have hn : ¬ gapT A B fl (59 - d + 1) ≤ s := Int32.not_le.mpr hg
        simp [hn]
      · rw [decide_eq_false hg, if_pos (by decide)]
        have hn : gapT A B fl (59 - d + 1) ≤ s := Int32.not_lt.mp hg
        simp [hn, hs]
    · rw [if_neg hl, decide_eq_false hl, Bool.false_and, if_neg (by decide)]
theorem least_L {k1 k2 : Nat} (hk1 : K0 k1 = 6) (hk2 : K0 k2 = 6) {A B : Nat → Int32} (hA : GR A) (hB : GR B) {fl : Int32 → Int32} : ∀ (d n : Nat) (acc : Int32) (σ : Sto), d < n → d ≤ 60 → Fl σ fl → S8 σ k1 = A → S8 σ k2 = B → σ.1 58 4 = pPos A fl (60 - d) → σ.1 58 5 = pPos B fl (60 - d) →
    ∃ τ, f_X5_leastGap_L13 k1 k2 n acc (nI (60 - d)) σ = some (lgD A B fl d acc, τ) ∧ (∀ a b, a ≠ 58 → τ.1 a b = σ.1 a b) := by
  have n1 : k1 ≠ 58 := by rintro rfl; revert hk1; decide
  have n1' : k1 + 1 ≠ 58 := by intro h; have : k1 = 57 := by omega
                               subst this; revert hk1; decide
  have n2 : k2 ≠ 58 := by rintro rfl; revert hk2; decide
  have n2' : k2 + 1 ≠ 58 := by intro h; have : k2 = 57 := by omega
                               subst this; revert hk2; decide
  intro d
  induction d with
  | zero =>
    intro n acc σ h1 _ _ _ _ _ _
    obtain ⟨n, rfl⟩ : ∃ n', n = n' + 1 := ⟨n - 1, by omega⟩
    refine ⟨σ, ?_, fun _ _ _ => rfl⟩
    rw [f_X5_leastGap_L13, if_pos (by decide)]
    rfl
  | succ d ih =>
    intro n acc σ h1 h2 hf e1 e2 e4 e5
    obtain ⟨n, rfl⟩ : ∃ n', n = n' + 1 := ⟨n - 1, by omega⟩
    obtain ⟨t, ht, hd⟩ : ∃ t, t < 60 ∧ d = 59 - t := ⟨59 - d, by omega, by omega⟩
    have hu1 : 60 - (d + 1) = t := by omega
    have hu2 : 60 - d = t + 1 := by omega
    rw [hu1] at e4 e5 ⊢
    rw [lgD, show 59 - d = t by omega]
    generalize h1' : sI σ 58 4 (pPos A fl (t + 1)) = σ1
    generalize h2' : sI σ1 58 5 (pPos B fl (t + 1)) = σ2
    have o1 : ∀ a b, a ≠ 58 → σ1.1 a b = σ.1 a b := fun a b h => by rw [← h1', sI_ne h]
    have o2 : ∀ a b, a ≠ 58 → σ2.1 a b = σ.1 a b := fun a b h => by rw [← h2', sI_ne h, o1 a b h]
    have a1 : ∀ {τ : Sto}, (∀ a b, a ≠ 58 → τ.1 a b = σ.1 a b) → S8 τ k1 = A ∧ S8 τ k2 = B ∧ Fl τ fl := fun {τ} o => ⟨by rw [← e1]; exact S8_congr (fun j => o _ j n1) (fun j => o _ j n1'), by rw [← e2]; exact S8_congr (fun j => o _ j n2) (fun j => o _ j n2'), fun i hi => by rw [o 59 i (by decide)]; exact hf i hi⟩
    obtain ⟨p1, p2, p3⟩ := a1 (τ := σ1) o1
    obtain ⟨q1, q2, q3⟩ := a1 (τ := σ2) o2
    have x1 : f_X5_placeNext σ k1 (σ.1 58 4) (nI t) = some (pPos A fl (t + 1)) := by
      rw [e4, next8 hk1 (by rw [e1]; exact hA) hf _ ht, e1, pPos]
    have x2 : f_X5_placeNext σ1 k2 (σ1.1 58 5) (nI t) = some (pPos B fl (t + 1)) := by
      rw [show σ1.1 58 5 = pPos B fl t by rw [← h1', sI_nj (by decide), e5], next8 hk2 (by rw [p2]; exact hB) p3 _ ht, p2, pPos]
    have x3 : f_X6_laneIn σ2 k1 (nI t) = some (pLn A t) := by rw [lane8 hk1 ht, q1]
    have x4 : f_X6_laneIn σ2 k2 (nI t) = some (pLn B t) := by rw [lane8 hk2 ht, q2]
    have g4 : σ2.1 58 4 = pPos A fl (t + 1) := by rw [← h2', sI_nj (by decide), ← h1', sI_at, if_pos rfl]
    have g5 : σ2.1 58 5 = pPos B fl (t + 1) := by rw [← h2', sI_at, if_pos rfl]
    have x5 : f_X5_gap σ2 k1 = some (gapT A B fl (t + 1)) := by
      unfold f_X5_gap gapT
      rw [show σ2.1 k1 2 = A 2 by rw [← q1]; rfl, g4, g5]
      by_cases h : A 2 = 0
      · rw [if_pos h, if_pos h]
      · rw [if_neg h, if_neg h]
    have next : ∀ acc', ∃ τ, f_X5_leastGap_L13 k1 k2 n acc' (nI t + 1) σ2 = some (lgD A B fl d acc', τ) ∧ (∀ a b, a ≠ 58 → τ.1 a b = σ.1 a b) := by
      intro acc'
      rw [nI_1, ← hu2]
      obtain ⟨τ, t1, t2⟩ := ih n acc' σ2 (by omega) (by omega) q3 q1 q2 (by rw [g4, hu2]) (by rw [g5, hu2])
      exact ⟨τ, t1, fun a b h => by rw [t2 a b h, o2 a b h]⟩
    rw [f_X5_leastGap_L13, if_neg (show ¬ (60 : Int32) ≤ nI t from nI_ge (b := 60) ht (by omega)), x1, bind_s, lp_b, h1', x2, bind_s, lp_b, h2', x3, bind_s, x4, bind_s]
    unfold f_X5_leastGap_L79
    by_cases hl : pLn A t = pLn B t
    · rw [if_pos hl, if_pos hl, x5, bind_s]
      exact next _
    · rw [if_neg hl, if_neg hl]
      exact next _
theorem Eq9.lg {A B A' B' : Nat → Int32} (h : Eq9 A A') (h' : Eq9 B B') (fl : Int32 → Int32) : ∀ d acc, lgD A B fl d acc = lgD A' B' fl d acc := by
  intro d
  induction d with
  | zero => intro acc; rfl
  | succ d ih => intro acc; rw [lgD, lgD, ih, h.ln, h'.ln, h.gap h']
theorem least8 {k1 k2 : Nat} (hk1 : K0 k1 = 6) (hk2 : K0 k2 = 6) {σ : Sto} {A B : Nat → Int32} (hA : GR A) (hB : GR B) (eA : Eq9 (S8 σ k1) A) (eB : Eq9 (S8 σ k2) B) {fl : Int32 → Int32} (hf : Fl σ fl) :
    ∃ τ, f_X5_leastGap σ k1 k2 = some (lgD A B fl 60 1200, τ) ∧ (∀ a b, a ≠ 58 → τ.1 a b = σ.1 a b) := by
  have n1 : k1 ≠ 58 := by rintro rfl; revert hk1; decide
  have n1' : k1 + 1 ≠ 58 := by intro h; have : k1 = 57 := by omega
                               subst this; revert hk1; decide
  have n2 : k2 ≠ 58 := by rintro rfl; revert hk2; decide
  have n2' : k2 + 1 ≠ 58 := by intro h; have : k2 = 57 := by omega
                               subst this; revert hk2; decide
  generalize h1' : sI σ 58 4 (pPos (S8 σ k1) fl 0) = σ1
  generalize h2' : sI σ1 58 5 (pPos (S8 σ k2) fl 0) = σ2
  have o1 : ∀ a b, a ≠ 58 → σ1.1 a b = σ.1 a b := fun a b h => by rw [← h1', sI_ne h]
  have o2 : ∀ a b, a ≠ 58 → σ2.1 a b = σ.1 a b := fun a b h => by rw [← h2', sI_ne h, o1 a b h]
  have b2 : S8 σ1 k2 = S8 σ k2 := S8_congr (fun j => o1 _ j n2) (fun j => o1 _ j n2')
  have c1 : S8 σ2 k1 = S8 σ k1 := S8_congr (fun j => o2 _ j n1) (fun j => o2 _ j n1')
  have c2 : S8 σ2 k2 = S8 σ k2 := S8_congr (fun j => o2 _ j n2) (fun j => o2 _ j n2')
  obtain ⟨τ, t1, t2⟩ := least_L hk1 hk2 (eA.gr hA) (eB.gr hB) (fl := fl) 60 FU 1200 σ2 (by unfold FU; omega) (by omega) (fun i hi => by rw [o2 59 i (by decide)]; exact hf i hi) c1 c2 (by rw [← h2', sI_nj (by decide), ← h1', sI_at, if_pos rfl]) (by rw [← h2', sI_at, if_pos rfl])
  rw [eA.lg eB] at t1
  refine ⟨τ, ?_, fun a b h => by rw [t2 a b h, o2 a b h]⟩
  unfold f_X5_leastGap f_X5_begin
  rw [shore8 (fl := fl), bind_s, lp_b, h1', shore8 (fl := fl), bind_s, b2, lp_b, h2', bind_s]
  exact t1
def lsO (g : Int32) : Int32 ⊕ Nat := if g ≤ 200 then .inl g else .inr 2
theorem least9_L {V : Nat → Int32} (ok : ∀ i, okv i (V i) = true) (hc : CW V 0) {p q : Nat} (hp : p < 8) (hq : q < 8) (hu : ¬ S9 V p 2 = S9 V q 2) {σ0 : Sto} (h0 : σ0.1 82 = V) {g : Nat} (hg : g < 2 ^ 31) (eg : lgD (S9 V p) (S9 V q) (flV V (V 6)) 60 1200 = nI g) : ∀ (n i : Nat) (σ : Sto), i ≤ g → i ≤ 201 → 201 < n + i → K9 σ0 σ → (∀ j, j ≠ 7 → σ.1 82 j = V j) → σ.1 82 7 = nI i →
    C9 (f_X9_leastSight_L34 (nI p) (nI q) (V 7) n (nI i) σ) σ0 (lsO (nI g)) := by
  have fin : ∀ (i : Nat) (σ : Sto), i ≤ 201 → K9 σ0 σ → (∀ j, j ≠ 7 → σ.1 82 j = V j) → (i = g ∨ (i = 201 ∧ 201 ≤ g)) → C9 (f_X9_leastSight_L66 (V 7) (nI i) σ) σ0 (lsO (nI g)) := by
    intro i σ hi hk hV hx
    have f : Fr σ0 (sI σ 82 7 (V 7)) := by
      intro a b hs
      by_cases ha : a = 82
      · subst ha
        rw [sI_at, h0]
        by_cases hb : b = 7
        · rw [if_pos hb, hb]
        · rw [if_neg hb, hV b hb]
      · rw [sI_ne ha, hk a b ha hs]
    unfold f_X9_leastSight_L66 lsO
    rw [wrA_82_7, bind_s]
    by_cases h2 : g ≤ 200
    · have : i = g := by omega
      subst this
      rw [if_pos (show nI i ≤ 200 from nI_le (b := 200) h2 (by omega)), if_pos (show nI i ≤ 200 from nI_le (b := 200) h2 (by omega))]
      exact ⟨_, rfl, f⟩
    · have : i = 201 := by omega
      subst this
      rw [if_neg (show ¬ nI g ≤ 200 from nI_ge (a := 200) (by omega) (by omega)), if_neg (by decide), r9_2, bind_s]
      exact ⟨_, rfl, f⟩
  intro n
  induction n with
  | zero => intro i σ _ h1 h2; omega
  | succ n ih =>
    intro i σ hi h1 h2 hk hV h7
    rw [f_X9_leastSight_L34]
    by_cases h : i = 201
    · subst h
      rw [if_pos (by decide)]
      exact fin 201 σ (by omega) hk hV (by omega)
    · obtain ⟨υ, t1, t2, t3⟩ := swimW (σ := σ) (V := V) (A := S9 V p) (B := S9 V q) (w := V 6) (s := nI i) rfl ⟨fun i hi => hV i (by omega), fun i hi => hV i (by omega)⟩ hc (hV 6 (by decide)) h7 hp hq (fun j hj => hV _ (by omega)) (fun j hj => hV _ (by omega)) (gr9 ok hp) (gr9 ok hq) hu
      have hs : (met (S9 V p) (S9 V q) (flV V (V 6)) (nI i)).isSome = true ↔ g ≤ i := by
        have q := lg_met (A := S9 V p) (B := S9 V q) (fl := flV V (V 6)) (s := nI i) (nI_pos' (by omega)) 60 1200
        rw [eg, nI_leI (by omega) (by omega)] at q
        have hn : ¬ (1200 : Int32) ≤ nI i := nI_ge (b := 1200) (by omega) (by omega)
        constructor
        · intro z; exact q.mpr (Or.inr z)
        · intro z; exact (q.mp z).resolve_left hn
      rw [if_neg (show ¬ (201 : Int32) ≤ nI i from nI_ge (b := 201) (by omega) (by omega)), t1, bind_s]
      by_cases hgi : g ≤ i
      · rw [if_pos (hs.mpr hgi)]
        exact fin i υ h1 (hk.tr t2.fr.k9) (fun j hj => by rw [t2.d]; exact hV j hj) (by omega)
      · rw [if_neg (fun z => hgi (hs.mp z)), nI_1, wrA_82_7, bind_s]
        exact ih (i + 1) _ (by omega) (by omega) (by omega) (hk.tr (t2.fr.k9.tr (K9.w _))) (fun j hj => by rw [sI_nj hj, t2.d]; exact hV j hj) (by rw [sI_at, if_pos rfl])
theorem s_leastSight (a1 a2 : Int32) (b : Bool) : LPr (fun σ => f_X8_leastSight σ a1 a2) (fun σ => f_X9_leastSight σ a1 a2) b Inv Inv := by
  refine pr_ro (fun σ => if unl (σ.1 82) a1 a2 = true then lsO (lgD (S9 (σ.1 82) a1.toNatClampNeg) (S9 (σ.1 82) a2.toNatClampNeg) (flV (σ.1 82) (σ.1 82 6)) 60 1200) else .inr 1) (fun σ τ h => by show _ = _; rw [h.d]) (fun σ h => ?_) (fun σ h => ?_) b
  · show C8 (f_X8_leastSight σ a1 a2) σ _
    unfold f_X8_leastSight
    rcases unl_c h a1 a2 with ⟨hn, ⟨r5, r15, e1, e2, e3⟩, -⟩ | ⟨p, q, hp, hq, hpN, hqN, rfl, rfl, hu, hn, e1, e2, e3, -⟩
    · simp only [hn, Bool.false_eq_true, if_false]
      exact ⟨σ, by rw [e1, bind_s, e2, bind_s, e3, bind_s, if_neg (by decide), r8_1, bind_s], Fr.rf σ⟩
    · simp only [hn, if_true]
      obtain ⟨τ, t1, t2, t3⟩ := feel_eq h.ic (σ.1 1 1)
      have hf : Fl τ (flV (σ.1 82) (σ.1 82 6)) := by rw [← h.mp (i := 6) (j := 1) (by decide)]; exact t2
      have eA : Eq9 (S8 τ (12 + 2 * p)) (S9 (σ.1 82) p) := by rw [swm_fr t3 hp]; exact sw_Eq9 h hpN
      have eB : Eq9 (S8 τ (12 + 2 * q)) (S9 (σ.1 82) q) := by rw [swm_fr t3 hq]; exact sw_Eq9 h hqN
      obtain ⟨υ, u1, u2⟩ := least8 (K12 p hp) (K12 q hq) (gr9 h.ok hp) (gr9 h.ok hq) eA eB hf
      have f : Fr σ υ := fun k j hs => by rw [u2 k j (by rintro rfl; simp [scr] at hs)]; exact feel_fr t3 k j hs
      rw [e1, bind_s, e2, bind_s, e3, bind_s, if_pos rfl, t1, bind_s, deref6 (K12 p hp), deref6 (K12 q hq), u1, bind_s, nI_clamp (by omega), nI_clamp (by omega)]
      unfold lsO
      by_cases hg : lgD (S9 (σ.1 82) p) (S9 (σ.1 82) q) (flV (σ.1 82) (σ.1 82 6)) 60 1200 ≤ 200
      · rw [if_pos hg, if_pos hg]; exact ⟨υ, rfl, f⟩
      · rw [if_neg hg, if_neg hg]; exact ⟨υ, by rw [r8_2, bind_s], f⟩
  · show C9 (f_X9_leastSight σ a1 a2) σ _
    unfold f_X9_leastSight
    rcases unl_c h a1 a2 with ⟨hn, -, e3⟩ | ⟨p, q, hp, hq, hpN, hqN, rfl, rfl, hu, hn, -, -, -, e3⟩
    · simp only [hn, Bool.false_eq_true, if_false]
      exact ⟨σ, by rw [e3, bind_s, if_neg (by decide), r9_1, bind_s], Fr.rf σ⟩
    · simp only [hn, if_true]
      obtain ⟨g, hg, eg⟩ := nI_of (Int32.not_lt.mpr (lg_pos (A := S9 (σ.1 82) p) (B := S9 (σ.1 82) q) (fl := flV (σ.1 82) (σ.1 82 6)) 60 1200 (by decide)))
      rw [e3, bind_s, if_pos rfl, rdA_82_7, bind_s, wrA_82_7, bind_s, nI_clamp (by omega), nI_clamp (by omega), eg]
      exact least9_L h.ok h.cd.1.cw hp hq hu rfl hg eg FU 0 _ (by omega) (by omega) (by unfold FU; omega) (K9.w _) (fun j hj => sI_nj hj) (by rw [sI_at, if_pos rfl]; rfl)
-- send
def sndS (V q : Nat → Int32) (fl : Int32 → Int32) : Nat → Option (Nat × Int32) → Option (Nat × Int32)
  | 0, st => st
  | d + 1, st => sndS V q fl d (if 7 - d < NN V ∧ ¬ S9 V (7 - d) 2 = q 2 then (match met (S9 V (7 - d)) q fl (V 7) with
    | none => st
    | some u => match st with
      | none => some (7 - d, metP (S9 V (7 - d)) q fl u)
      | some x => if bt (S9 V (7 - d) 2) (metP (S9 V (7 - d)) q fl u) x.2 = true then some (7 - d, metP (S9 V (7 - d)) q fl u) else some x) else st)
def sndO (st : Option (Nat × Int32)) : Int32 ⊕ Nat := match st with
  | none => .inr 2
  | some x => .inl (nI x.1)
theorem snd_end {V q : Nat → Int32} {fl : Int32 → Int32} : ∀ (d : Nat) (st : Option (Nat × Int32)), d ≤ 8 → NN V ≤ 8 - d → sndS V q fl d st = st := by
  intro d
  induction d with
  | zero => intro st _ _; rfl
  | succ d ih =>
    intro st h1 h2
    rw [sndS, if_neg (by omega)]
    exact ih st (by omega) (by omega)
theorem sA8n {σ : Sto} (h : Iw σ) {i : Nat} (hi : i < 8) : f_X0_swimmerAt σ 1 (nI i) = some (if i < NN (σ.1 82) then some (12 + 2 * i) else none) := by
  obtain ⟨N, hN, e9, e8, eN⟩ := h.N
  by_cases hiN : i < NN (σ.1 82)
  · rw [if_pos hiN]
    rcases sA8 h (nI i) with ⟨q, -⟩ | ⟨p, hp, hpN, hpi, q, e⟩
    · rw [e9, isO_ge hN (by omega)] at q
      cases q
    · have : i = p := (nI_eq (by omega) (by omega)).mp hpi
      subst this
      exact e
  · rw [if_neg hiN]
    rcases sA8 h (nI i) with ⟨q, e⟩ | ⟨p, hp, hpN, hpi, q, e⟩
    · exact e
    · have : i = p := (nI_eq (by omega) (by omega)).mp hpi
      omega
theorem send8_L {V : Nat → Int32} {q : Nat} (hq : q < 8) (hqN : q < NN V) : ∀ (d n : Nat) (st : Option (Nat × Int32)) (v3 v4 : Int32) (σ : Sto), d ≤ 8 → d < n → Iw σ → σ.1 82 = V → Fl σ (flV V (V 6)) → (st = none → v3 = -1) → (∀ x, st = some x → x.1 < 8 ∧ v3 = nI x.1 ∧ v4 = x.2) →
    C8 (f_X8_send_L45 (some (12 + 2 * q)) n v3 v4 (nI (8 - d)) σ) σ (sndO (sndS V (S9 V q) (flV V (V 6)) d st)) := by
  intro d
  induction d with
  | zero =>
    intro n st v3 v4 σ _ h2 hI hV hf h5 h6
    obtain ⟨n, rfl⟩ : ∃ n', n = n' + 1 := ⟨n - 1, by omega⟩
    rw [f_X8_send_L45, if_pos (by decide)]
    cases st with
    | none =>
      rw [h5 rfl, if_neg (by decide), r8_2, bind_s]
      exact ⟨σ, rfl, Fr.rf σ⟩
    | some x =>
      obtain ⟨x1, x2, x3⟩ := h6 x rfl
      rw [x2, if_pos (nI_pos' (by omega))]
      exact ⟨σ, rfl, Fr.rf σ⟩
  | succ d ih =>
    intro n st v3 v4 σ h1 h2 hI hV hf h5 h6
    obtain ⟨n, rfl⟩ : ∃ n', n = n' + 1 := ⟨n - 1, by omega⟩
    obtain ⟨i, hi, hd⟩ : ∃ i, i < 8 ∧ d = 7 - i := ⟨7 - d, by omega, by omega⟩
    have ei : 7 - d = i := by omega
    have e8 : 8 - (d + 1) = i := by omega
    have e8' : 8 - d = i + 1 := by omega
    have ok : ∀ i, okv i (V i) = true := by rw [← hV]; exact hI.ok
    have eq := sw_Eq9 hI (p := q) (by rw [hV]; exact hqN)
    rw [hV] at eq
    have hi8 := sA8n hI hi
    rw [hV] at hi8
    rw [sndS, ei, e8, f_X8_send_L45, if_neg (show ¬ (8 : Int32) ≤ nI i from nI_ge (b := 8) hi (by omega)), hi8, bind_s]
    unfold f_X8_send_L128 f_X8_send_L116 f_X8_send_L128
    rw [nI_1, ← e8']
    by_cases hiN : i < NN V
    · have ep := sw_Eq9 hI (p := i) (by rw [hV]; exact hiN)
      rw [hV] at ep
      have a8 : f_X8_areUnlike σ (some (12 + 2 * i)) (some (12 + 2 * q)) = if S9 V i 2 = S9 V q 2 then some false else some true := by
        unfold f_X8_areUnlike
        rw [onN_1, onN_1, if_pos (K12 i hi), if_pos (K12 q hq), show σ.1 (12 + 2 * i) 2 = _ from ep 2 (by omega), show σ.1 (12 + 2 * q) 2 = _ from eq 2 (by omega)]
      rw [if_pos hiN, a8]
      by_cases hu : S9 V i 2 = S9 V q 2
      · rw [if_pos hu, bind_s, if_neg (by decide), if_neg (fun z => z.2 hu)]
        exact ih n st v3 v4 σ (by omega) (by omega) hI hV hf h5 h6
      · rw [if_neg hu, bind_s, if_pos rfl, if_pos ⟨hiN, hu⟩]
        obtain ⟨υ, t2, t3, t4⟩ := meets8 (K12 i hi) (K12 q hq) (gr9 ok hi) (gr9 ok hq) ep eq hf (V 7)
        have f : Fr σ υ := fun k j hs => t3 k j (by rintro rfl; simp [scr] at hs)
        have hIυ : Iw υ := hI.fr (fun k j hs _ _ => f k j hs)
        have hVυ : υ.1 82 = V := f.d.trans hV
        have hfυ : Fl υ (flV V (V 6)) := fun x hx => by rw [t3 59 x (by decide)]; exact hf x hx
        have hside : υ.1 (12 + 2 * i) 2 = S9 V i 2 := by rw [t3 _ _ (by omega)]; exact ep 2 (by omega)
        rw [deref6 (K12 i hi), deref6 (K12 q hq), show σ.1 1 2 = V 7 from (hI.mp (i := 7) (j := 2) (by decide)).trans (by rw [hV]), t2, bind_s]
        cases hm : met (S9 V i) (S9 V q) (flV V (V 6)) (V 7) with
        | none =>
          rw [if_neg (show ¬ (none : Option Nat).isSome = true by decide)]
          exact (ih n st v3 v4 υ (by omega) (by omega) hIυ hVυ hfυ h5 h6).fr f
        | some u =>
          obtain ⟨-, v2, -⟩ := t4 u hm
          rw [if_pos (show (some u).isSome = true from rfl)]
          cases st with
          | none =>
            rw [h5 rfl, if_pos (by decide), v2]
            exact (ih n (some (i, metP (S9 V i) (S9 V q) (flV V (V 6)) u)) _ _ υ (by omega) (by omega) hIυ hVυ hfυ (fun h => by cases h) (fun x hx => by cases hx; exact ⟨hi, rfl, rfl⟩)).fr f
          | some x =>
            obtain ⟨x1, x2, x3⟩ := h6 x rfl
            rw [x2, if_neg (nI_pos (by omega)), hside, v2, bt8, bind_s, x3]
            cases hb : bt (S9 V i 2) (metP (S9 V i) (S9 V q) (flV V (V 6)) u) x.2 with
            | true =>
              rw [if_pos rfl]
              simp only [hb, if_true]
              exact (ih n (some (i, metP (S9 V i) (S9 V q) (flV V (V 6)) u)) _ _ υ (by omega) (by omega) hIυ hVυ hfυ (fun h => by cases h) (fun x hx => by cases hx; exact ⟨hi, rfl, rfl⟩)).fr f
            | false =>
              rw [if_neg (by decide)]
              simp only [hb, Bool.false_eq_true, if_false]
              exact (ih n (some x) _ _ υ (by omega) (by omega) hIυ hVυ hfυ (fun h => by cases h) (fun y hy => by cases hy; exact ⟨x1, rfl, rfl⟩)).fr f
    · have a8 : f_X8_areUnlike σ none (some (12 + 2 * q)) = some false := rfl
      rw [if_neg hiN, a8, bind_s, if_neg (by decide), if_neg (fun z => hiN z.1)]
      exact ih n st v3 v4 σ (by omega) (by omega) hI hV hf h5 h6
theorem send9_L {V : Nat → Int32} (ok : ∀ i, okv i (V i) = true) (hc : CW V 0) {N q : Nat} (hN : N ≤ 8) (hVN : V 12 = nI N) (eN : NN V = N) (hq : q < 8) : ∀ (d n : Nat) (st : Option (Nat × Int32)) (v2 v3 : Int32) (σ : Sto), d ≤ 8 → d < n → σ.1 82 = V → (st = none → v2 = -1) → (∀ x, st = some x → x.1 < 8 ∧ v2 = nI x.1 ∧ v3 = x.2) →
    C9 (f_X9_send_L21 (nI q) n v2 v3 (nI (8 - d)) σ) σ (sndO (sndS V (S9 V q) (flV V (V 6)) d st)) := by
  have fin : ∀ (st : Option (Nat × Int32)) (v2 v3 : Int32) (σ : Sto), (st = none → v2 = -1) → (∀ x, st = some x → x.1 < 8 ∧ v2 = nI x.1 ∧ v3 = x.2) → C9 (if 0 ≤ v2 then (some (v2, σ)) else (f_X9_finds σ (2 : Int32)).bind (fun r101 => some (r101.1, r101.2))) σ (sndO st) := by
    intro st v2 v3 σ h5 h6
    cases st with
    | none =>
      rw [h5 rfl, if_neg (by decide), r9_2, bind_s]
      exact ⟨σ, rfl, Fr.rf σ⟩
    | some x =>
      obtain ⟨x1, x2, x3⟩ := h6 x rfl
      rw [x2, if_pos (nI_pos' (by omega))]
      exact ⟨σ, rfl, Fr.rf σ⟩
  intro d
  induction d with
  | zero =>
    intro n st v2 v3 σ _ h2 hV h5 h6
    obtain ⟨n, rfl⟩ : ∃ n', n = n' + 1 := ⟨n - 1, by omega⟩
    rw [f_X9_send_L21, rdA_82_12, bind_s, hV, hVN, if_pos (nI_le (by omega) (by omega)), sndS]
    exact fin st v2 v3 σ h5 h6
  | succ d ih =>
    intro n st v2 v3 σ h1 h2 hV h5 h6
    obtain ⟨n, rfl⟩ : ∃ n', n = n' + 1 := ⟨n - 1, by omega⟩
    obtain ⟨i, hi, hd⟩ : ∃ i, i < 8 ∧ d = 7 - i := ⟨7 - d, by omega, by omega⟩
    have ei : 7 - d = i := by omega
    have e8 : 8 - (d + 1) = i := by omega
    have e8' : 8 - d = i + 1 := by omega
    rw [f_X9_send_L21, rdA_82_12, bind_s, hV, hVN]
    by_cases hiN : i < N
    · have o1 : f_X9_of σ (nI i) 2 = some (S9 V i 2) := by rw [← hV]; exact of_eq hi (j := 2) (by omega)
      have o2 : f_X9_of σ (nI q) 2 = some (S9 V q 2) := by rw [← hV]; exact of_eq hq (j := 2) (by omega)
      rw [sndS, ei, e8, if_neg (nI_ge hiN (by omega)), o1, bind_s, o2, bind_s]
      unfold f_X9_send_L89 f_X9_send_L81 f_X9_send_L89
      rw [nI_1, ← e8']
      by_cases hu : S9 V i 2 = S9 V q 2
      · rw [if_pos hu, if_neg (fun z => z.2 hu)]
        exact ih n st v2 v3 σ (by omega) (by omega) hV h5 h6
      · rw [if_neg hu, if_pos ⟨by omega, hu⟩]
        obtain ⟨υ, t1, t2, t3⟩ := swim9 (σ := σ) (by rw [hV]; exact hc) hi hq (by rw [hV]; exact gr9 ok hi) (by rw [hV]; exact gr9 ok hq) (by rw [hV]; exact hu)
        rw [hV] at t1 t3
        have hVυ : υ.1 82 = V := t2.d.trans hV
        have o3 : f_X9_of υ (nI i) 2 = some (S9 V i 2) := by rw [← hVυ]; exact of_eq hi (j := 2) (by omega)
        have cf : ∀ {x o}, C9 x υ o → C9 x σ o := by
          intro x o h
          cases o with
          | inl v => obtain ⟨χ, u1, u2⟩ := h; exact ⟨χ, u1, t2.fr.tr u2⟩
          | inr k => obtain ⟨χ, u1, u2⟩ := h; exact ⟨χ, u1, t2.fr.tr u2⟩
        rw [t1, bind_s]
        cases hm : met (S9 V i) (S9 V q) (flV V (V 6)) (V 7) with
        | none =>
          rw [if_neg (show ¬ (none : Option Nat).isSome = true by decide)]
          exact cf (ih n st v2 v3 υ (by omega) (by omega) hVυ h5 h6)
        | some u =>
          obtain ⟨-, w2⟩ := t3 u hm
          rw [if_pos (show (some u).isSome = true from rfl)]
          cases st with
          | none =>
            rw [h5 rfl, if_pos (by decide), w2]
            exact cf (ih n (some (i, metP (S9 V i) (S9 V q) (flV V (V 6)) u)) _ _ υ (by omega) (by omega) hVυ (fun h => by cases h) (fun x hx => by cases hx; exact ⟨hi, rfl, rfl⟩))
          | some x =>
            obtain ⟨x1, x2, x3⟩ := h6 x rfl
            rw [x2, if_neg (nI_pos (by omega)), o3, bind_s, w2, bt9, bind_s, x3]
            cases hb : bt (S9 V i 2) (metP (S9 V i) (S9 V q) (flV V (V 6)) u) x.2 with
            | true =>
              rw [if_pos rfl]
              simp only [hb, if_true]
              exact cf (ih n (some (i, metP (S9 V i) (S9 V q) (flV V (V 6)) u)) _ _ υ (by omega) (by omega) hVυ (fun h => by cases h) (fun x hx => by cases hx; exact ⟨hi, rfl, rfl⟩))
            | false =>
              rw [if_neg (by decide)]
              simp only [hb, Bool.false_eq_true, if_false]
              exact cf (ih n (some x) _ _ υ (by omega) (by omega) hVυ (fun h => by cases h) (fun y hy => by cases hy; exact ⟨x1, rfl, rfl⟩))
    · rw [e8, if_pos (nI_le (by omega) (by omega)), snd_end (d + 1) st h1 (by omega)]
      exact fin st v2 v3 σ h5 h6
theorem s_send (a1 : Int32) (b : Bool) : LPr (fun σ => f_X8_send σ a1) (fun σ => f_X9_send σ a1) b Inv Inv := by
  refine pr_ro (fun σ => if isO a1 0 (σ.1 82 12 - 1) = true then .inr 1 else sndO (sndS (σ.1 82) (S9 (σ.1 82) a1.toNatClampNeg) (flV (σ.1 82) (σ.1 82 6)) 8 none)) (fun σ τ h => by show _ = _; rw [h.d]) (fun σ h => ?_) (fun σ h => ?_) b
  · show C8 (f_X8_send σ a1) σ _
    unfold f_X8_send
    rcases sA8 h a1 with ⟨hq, e⟩ | ⟨q, hq8, hqN, rfl, hq, e⟩
    · simp only [hq, if_true]
      exact ⟨σ, by rw [e, bind_s, onN_0, r8_1, bind_s], Fr.rf σ⟩
    · simp only [hq, Bool.false_eq_true, if_false]
      obtain ⟨τ, t1, t2, t3⟩ := feel_eq h.ic (σ.1 1 1)
      have f := feel_fr t3
      have hf : Fl τ (flV (σ.1 82) (σ.1 82 6)) := by rw [← h.mp (i := 6) (j := 1) (by decide)]; exact t2
      rw [e, bind_s, onN_1, t1, bind_s, nI_clamp (by omega)]
      exact (send8_L hq8 hqN 8 FU none (-1) 0 τ (by omega) (by unfold FU; omega) (h.fr (fun k j hs _ _ => f k j hs)) f.d hf (fun _ => rfl) (fun x hx => by cases hx)).fr f
  · show C9 (f_X9_send σ a1) σ _
    unfold f_X9_send
    rcases sA8 h a1 with ⟨hq, e⟩ | ⟨q, hq8, hqN, rfl, hq, e⟩
    · simp only [hq, if_true]
      exact ⟨σ, by rw [isS_eq, bind_s, hq, if_neg (by decide), r9_1, bind_s], Fr.rf σ⟩
    · simp only [hq, Bool.false_eq_true, if_false]
      obtain ⟨N, hN, e9, -, eN⟩ := h.N
      rw [isS_eq, bind_s, hq, if_pos (by decide), nI_clamp (by omega)]
      exact send9_L h.ok h.cd.1.cw hN e9 eN hq8 8 FU none (-1) 0 σ (by omega) (by unfold FU; omega) rfl (fun _ => rfl) (fun x hx => by cases hx)
/-! Stand-ins and copies of rows: training, fair. -/
theorem cpA_n {σ : Sto} {a b n : Nat} (ha : n ≤ Ln0 a) (hb : n ≤ Ln0 b) : cpA σ a 0 b 0 (nI n) = some (sW σ b (fun k => if k < n then σ.1 a k else σ.1 b k)) := by
  have := Ln0_lt a
  unfold cpA
  have e : (nI n).toNatClampNeg = n := nI_clamp (by omega)
  rw [if_pos ⟨by decide, by decide, nI_pos (by omega), by rw [e]; show 0 + n ≤ _; omega, by rw [e]; show 0 + n ≤ _; omega⟩, e]
  have e2 : va_cpy (σ.1 a) (σ.1 b) 0 0 n = (fun k => if k < n then σ.1 a k else σ.1 b k) := by
    funext k
    unfold va_cpy
    by_cases h : k < n
    · rw [if_pos (by omega), if_pos h]; simp
    · rw [if_neg (by omega), if_neg h]
  show some (sW σ b (va_cpy (σ.1 a) (σ.1 b) 0 0 n)) = _
  rw [e2]
theorem sW_at {σ : Sto} {k j : Nat} {f : Nat → Int32} : (sW σ k f).1 k j = f j := by
  show (if k = k then f j else σ.1 k j) = _
  rw [if_pos rfl]
theorem sW_ne {σ : Sto} {k a j : Nat} {f : Nat → Int32} (h : a ≠ k) : (sW σ k f).1 a j = σ.1 a j := by
  show (if a = k then f j else σ.1 a j) = _
  rw [if_neg h]
theorem copy6 (σ : Sto) {t k : Nat} (ht : t = 69 ∨ t = 71) (hk : K0 k = 6) (hb : k ≤ 26) : ∃ τ, f_X6_copy σ t k = some τ ∧ Eq9 (S8 τ t) (S8 σ k) ∧ ∀ a b, a ≠ t → a ≠ t + 1 → τ.1 a b = σ.1 a b := by
  obtain ⟨k1, k2, -⟩ := sw6 hk
  have t1 : A0 t 5 = t + 1 ∧ Ln0 (t + 1) = 4 := by rcases ht with rfl | rfl <;> decide
  have hkt : k ≠ t := by omega
  unfold f_X6_copy
  simp only [lp_b, sI_ne hkt]
  generalize hρ : sI (sI (sI (sI (sI σ t 0 (σ.1 k 0)) t 1 (σ.1 k 1)) t 2 (σ.1 k 2)) t 3 (σ.1 k 3)) t 4 (σ.1 k 4) = ρ
  have r1 : ∀ a b, a ≠ t → ρ.1 a b = σ.1 a b := fun a b h => by rw [← hρ, sI_ne h, sI_ne h, sI_ne h, sI_ne h, sI_ne h]
  have r2 : ∀ j, j < 5 → ρ.1 t j = σ.1 k j := by
    intro j hj
    rw [← hρ, sI_at, sI_at, sI_at, sI_at, sI_at]
    rcases (show j = 0 ∨ j = 1 ∨ j = 2 ∨ j = 3 ∨ j = 4 by omega) with rfl | rfl | rfl | rfl | rfl <;> rfl
  rw [k1, t1.1, show (4 : Int32) = nI 4 from rfl, cpA_n (by omega) (by omega), bind_s]
  refine ⟨_, rfl, fun j hj => ?_, fun a b h1 h2 => by rw [sW_ne h2, r1 a b h1]⟩
  unfold S8
  by_cases h : j < 5
  · rw [if_pos h, if_pos h, sW_ne (by omega), r2 j h]
  · rw [if_neg h, if_neg h, sW_at, if_pos (by omega), r1 _ _ (by omega)]
theorem Eq9.rf (A : Nat → Int32) : Eq9 A A := fun _ _ => rfl
theorem Eq9.tr {A B C : Nat → Int32} (h : Eq9 A B) (h' : Eq9 B C) : Eq9 A C := fun j hj => (h j hj).trans (h' j hj)
theorem Eq9.up {A B : Nat → Int32} (h : Eq9 A B) (i : Nat) (v : Int32) : Eq9 (upv A i v) (upv B i v) := fun j hj => by
  unfold upv
  rw [h j hj]
theorem S8_up {σ : Sto} {k i : Nat} (hi : i < 5) (v : Int32) : Eq9 (S8 (sI σ k i v) k) (upv (S8 σ k) i v) := by
  intro j hj
  unfold upv
  show S8 (sI σ k i v) k j = if j = i then v else S8 σ k j
  unfold S8
  by_cases h : j < 5
  · rw [if_pos h, if_pos h, sI_at]
  · rw [if_neg h, if_neg h, sI_ne (by omega), if_neg (by omega)]
theorem GR.up {A : Nat → Int32} (h : GR A) {i : Nat} {v : Int32} (hv : oks i v = true) : GR (upv A i v) := fun j hj => by
  unfold upv
  by_cases hj' : j = i
  · rw [if_pos hj', hj']; exact hv
  · rw [if_neg hj']; exact h j hj
theorem S9_up {W V : Nat → Int32} {p i : Nat} (h : ∀ j, j ≠ 16 + 9 * p + i → W j = V j) {v : Int32} (h' : W (16 + 9 * p + i) = v) (hi : i < 9) : Eq9 (S9 W p) (upv (S9 V p) i v) ∧ ∀ q, q ≠ p → Eq9 (S9 W q) (S9 V q) := by
  refine ⟨fun j hj => ?_, fun q hq j hj => ?_⟩
  · unfold S9 upv
    by_cases hj' : j = i
    · rw [if_pos hj', hj', h']
    · rw [if_neg hj', h _ (by omega)]
  · unfold S9
    rw [h _ (by omega)]
/-- is the place well enough, with this skill? -/
def trP (A B : Nat → Int32) (fl : Int32 → Int32) (s a : Int32) (i : Nat) : Bool := match met (upv A 3 (nI i)) B fl s with
  | none => false
  | some u => !bt (A 2) a (metP (upv A 3 (nI i)) B fl u)
def trF (A B : Nat → Int32) (fl : Int32 → Int32) (s a : Int32) : Nat → Option Nat
  | 0 => none
  | d + 1 => if trP A B fl s a (30 - d) = true then some (30 - d) else trF A B fl s a d
def trO (o : Option Nat) : Int32 ⊕ Nat := match o with
  | none => .inr 2
  | some i => .inl (nI i)
theorem ok3 {i : Nat} (hi : i ≤ 30) : oks 3 (nI i) = true := by
  unfold oks
  rw [if_neg (by omega), if_neg (by omega), if_pos rfl, show isO (nI i) 0 30 = false from isO_lit (n := 30) hi (by omega)]
  rfl
theorem train8_L {A B : Nat → Int32} {fl : Int32 → Int32} {s a : Int32} (gA : GR A) (gB : GR B) {k q : Nat} (hk : k ≤ 26) (hq : q < 8) : ∀ (d n : Nat) (σ : Sto), d ≤ 31 → d < n → Fl σ fl → (∀ j, j < 9 → j ≠ 3 → S8 σ 69 j = A j) → Eq9 (S8 σ (12 + 2 * q)) B → σ.1 1 2 = s → σ.1 k 2 = A 2 →
    C8 (f_X8_training_L77 a k (some (12 + 2 * q)) n (nI (31 - d)) σ) σ (trO (trF A B fl s a d)) := by
  intro d
  induction d with
  | zero =>
    intro n σ _ h2 _ _ _ _ _
    obtain ⟨n, rfl⟩ : ∃ n', n = n' + 1 := ⟨n - 1, by omega⟩
    rw [f_X8_training_L77, if_pos (by decide), r8_2, bind_s]
    exact ⟨σ, rfl, Fr.rf σ⟩
  | succ d ih =>
    intro n σ h1 h2 hf hA hB hs hside
    obtain ⟨n, rfl⟩ : ∃ n', n = n' + 1 := ⟨n - 1, by omega⟩
    obtain ⟨i, hi, hd⟩ : ∃ i, i ≤ 30 ∧ d = 30 - i := ⟨30 - d, by omega, by omega⟩
    have e1 : 31 - (d + 1) = i := by omega
    have e2 : 31 - d = i + 1 := by omega
    have e3 : 30 - d = i := by omega
    generalize hρ : sI σ 69 3 (nI i) = ρ
    have o1 : ∀ x y, x ≠ 69 → ρ.1 x y = σ.1 x y := fun x y h => by rw [← hρ, sI_ne h]
    have eA : Eq9 (S8 ρ 69) (upv A 3 (nI i)) := by
      intro j hj
      rw [← hρ, S8_up (by omega) _ j hj]
      unfold upv
      by_cases h3 : j = 3
      · rw [if_pos h3, if_pos h3]
      · rw [if_neg h3, if_neg h3, hA j hj h3]
    have eB : Eq9 (S8 ρ (12 + 2 * q)) B := by rw [S8_congr (fun j => o1 _ j (by omega)) (fun j => o1 _ j (by omega))]; exact hB
    obtain ⟨υ, u1, u2, u3⟩ := meets8 (k1 := 69) (by decide) (K12 q hq) (gA.up (ok3 hi)) gB eA eB (fl := fl) (fun x hx => by rw [o1 59 x (by decide)]; exact hf x hx) s
    have f : Fr σ υ := fun x y hs => by rw [u2 x y (by rintro rfl; simp [scr] at hs), o1 x y (by rintro rfl; simp [scr] at hs)]
    have next : C8 (f_X8_training_L77 a k (some (12 + 2 * q)) n (nI (i + 1)) υ) σ (trO (trF A B fl s a d)) := by
      rw [← e2]
      exact (ih n υ (by omega) (by omega) (fun x hx => by rw [u2 59 x (by decide), o1 59 x (by decide)]; exact hf x hx) (fun j hj h3 => by
        rw [S8_congr (fun j => u2 69 j (by decide)) (fun j => u2 70 j (by decide)), eA j hj, upv_ne h3]) (by rw [S8_congr (fun j => u2 _ j (by omega)) (fun j => u2 _ j (by omega))]; exact eB) (by rw [u2 1 2 (by decide), o1 1 2 (by decide)]; exact hs) (by rw [u2 k 2 (by omega), o1 k 2 (by omega)]; exact hside)).fr f
    rw [trF, e3, e1, f_X8_training_L77, if_neg (show ¬ (30 : Int32) < nI i from nI_nlt (a := 30) hi (by omega)), lp_b, hρ, deref6 (K12 q hq), show ρ.1 1 2 = s by rw [o1 1 2 (by decide)]; exact hs, u1, bind_s]
    unfold f_X8_training_L138
    rw [nI_1]
    have hP : trP A B fl s a i = (match met (upv A 3 (nI i)) B fl s with
      | none => false
      | some u => !bt (A 2) a (metP (upv A 3 (nI i)) B fl u)) := rfl
    cases hm : met (upv A 3 (nI i)) B fl s with
    | none =>
      rw [hm] at hP
      have hF : trP A B fl s a i = false := hP
      rw [if_neg (show ¬ (none : Option Nat).isSome = true by decide), hF, if_neg (by decide)]
      exact next
    | some u =>
      rw [hm] at hP
      obtain ⟨-, v2, -⟩ := u3 u hm
      rw [if_pos (show (some u).isSome = true from rfl), show υ.1 k 2 = A 2 by rw [u2 k 2 (by omega), o1 k 2 (by omega)]; exact hside, v2, bt8, bind_s]
      cases hb : bt (A 2) a (metP (upv A 3 (nI i)) B fl u) with
      | true =>
        have hF : trP A B fl s a i = false := by rw [hP]; show (!bt _ _ _) = false; rw [hb]; rfl
        rw [if_pos rfl, hF, if_neg (by decide)]
        exact next
      | false =>
        have hT : trP A B fl s a i = true := by rw [hP]; show (!bt _ _ _) = true; rw [hb]; rfl
        rw [if_neg (by decide), hT, if_pos rfl]
        exact ⟨υ, rfl, f⟩
theorem train9_L {V : Nat → Int32} (ok : ∀ i, okv i (V i) = true) (hc : CW V 0) {p q : Nat} (hp : p < 8) (hq : q < 8) (hu : ¬ S9 V p 2 = S9 V q 2) {a : Int32} {σ0 : Sto} (h0 : σ0.1 82 = V) : ∀ (i n : Nat) (v6 : Int32) (σ : Sto), i ≤ 31 → i < n → K9 σ0 σ → (∀ j, j ≠ 16 + 9 * p + 3 → σ.1 82 j = V j) → (trF (S9 V p) (S9 V q) (flV V (V 6)) (V 7) a (31 - i) = none → v6 = -1) → (∀ x, trF (S9 V p) (S9 V q) (flV V (V 6)) (V 7) a (31 - i) = some x → x ≤ 30 ∧ v6 = nI x) →
    C9 (f_X9_training_L50 (nI p) (nI q) a (S9 V p 3) (S9 V p 2) n v6 (nI i - 1) σ) σ0 (trO (trF (S9 V p) (S9 V q) (flV V (V 6)) (V 7) a 31)) := by
  have hpq : q ≠ p := by rintro rfl; exact hu rfl
  intro i
  induction i with
  | zero =>
    intro n v6 σ _ h2 hk hV h5 h6
    obtain ⟨n, rfl⟩ : ∃ n', n = n' + 1 := ⟨n - 1, by omega⟩
    have f : Fr σ0 (sI σ 82 (16 + 9 * p + 3) (S9 V p 3)) := by
      intro x y hs
      by_cases hx : x = 82
      · subst hx
        rw [sI_at, h0]
        by_cases hy : y = 16 + 9 * p + 3
        · rw [if_pos hy, hy]; rfl
        · rw [if_neg hy, hV y hy]
      · rw [sI_ne hx, hk x y hx hs]
    rw [f_X9_training_L50, if_pos (by decide), show f_X9_becomes σ (nI p) 3 (S9 V p 3) = _ from bec_eq hp (j := 3) (by omega) _, bind_s]
    cases ho : trF (S9 V p) (S9 V q) (flV V (V 6)) (V 7) a 31 with
    | none =>
      rw [h5 ho, if_neg (by decide), r9_2, bind_s]
      exact ⟨_, rfl, f⟩
    | some x =>
      obtain ⟨x1, x2⟩ := h6 x ho
      rw [x2, if_pos (nI_pos' (by omega))]
      exact ⟨_, rfl, f⟩
  | succ i ih =>
    intro n v6 σ h1 h2 hk hV h5 h6
    obtain ⟨n, rfl⟩ : ∃ n', n = n' + 1 := ⟨n - 1, by omega⟩
    have e1 : 31 - i = (31 - (i + 1)) + 1 := by omega
    have e2 : 30 - (31 - (i + 1)) = i := by omega
    have hstep : trF (S9 V p) (S9 V q) (flV V (V 6)) (V 7) a (31 - i) = if trP (S9 V p) (S9 V q) (flV V (V 6)) (V 7) a i = true then some i else trF (S9 V p) (S9 V q) (flV V (V 6)) (V 7) a (31 - (i + 1)) := by rw [e1, trF, e2]
    have hW : ∀ j, j ≠ 16 + 9 * p + 3 → (sI σ 82 (16 + 9 * p + 3) (nI i)).1 82 j = V j := fun j hj => by rw [sI_nj hj]; exact hV j hj
    obtain ⟨q1, q2⟩ := S9_up hW (v := nI i) (by rw [sI_at, if_pos rfl]) (by omega)
    obtain ⟨υ, t1, t2, t3⟩ := swimW (σ := sI σ 82 (16 + 9 * p + 3) (nI i)) (V := V) (w := V 6) (s := V 7) rfl ⟨fun x hx => hW x (by omega), fun x hx => hW x (by omega)⟩ hc (hW 6 (by omega)) (hW 7 (by omega)) hp hq q1 (q2 q hpq) ((gr9 ok hp).up (ok3 (by omega))) (gr9 ok hq) hu
    have kυ : K9 σ0 υ := hk.tr ((K9.w _).tr t2.fr.k9)
    have hVυ : ∀ j, j ≠ 16 + 9 * p + 3 → υ.1 82 j = V j := fun j hj => by rw [t2.d]; exact hW j hj
    rw [f_X9_training_L50, nI_pred, if_neg (nI_pos (by omega)), show f_X9_becomes σ (nI p) 3 (nI i) = _ from bec_eq hp (j := 3) (by omega) _, bind_s, t1, bind_s]
    unfold f_X9_training_L90 f_X9_training_L92
    rw [show (nI i + -1 : Int32) = nI i - 1 from (Int32.sub_eq_add_neg _ _).symm]
    have hP : trP (S9 V p) (S9 V q) (flV V (V 6)) (V 7) a i = (match met (upv (S9 V p) 3 (nI i)) (S9 V q) (flV V (V 6)) (V 7) with
      | none => false
      | some u => !bt (S9 V p 2) a (metP (upv (S9 V p) 3 (nI i)) (S9 V q) (flV V (V 6)) u)) := rfl
    have keep : trP (S9 V p) (S9 V q) (flV V (V 6)) (V 7) a i = false → C9 (f_X9_training_L50 (nI p) (nI q) a (S9 V p 3) (S9 V p 2) n v6 (nI i - 1) υ) σ0 (trO (trF (S9 V p) (S9 V q) (flV V (V 6)) (V 7) a 31)) := by
      intro hF
      rw [hF, if_neg (by decide)] at hstep
      exact ih n v6 υ (by omega) (by omega) kυ hVυ (by rw [hstep]; exact h5) (by rw [hstep]; exact h6)
    cases hm : met (upv (S9 V p) 3 (nI i)) (S9 V q) (flV V (V 6)) (V 7) with
    | none =>
      rw [hm] at hP
      rw [if_neg (show ¬ (none : Option Nat).isSome = true by decide)]
      exact keep hP
    | some u =>
      rw [hm] at hP
      obtain ⟨-, v2⟩ := t3 u hm
      rw [if_pos (show (some u).isSome = true from rfl), v2, bt9, bind_s]
      cases hb : bt (S9 V p 2) a (metP (upv (S9 V p) 3 (nI i)) (S9 V q) (flV V (V 6)) u) with
      | true =>
        rw [if_pos rfl]
        exact keep (by rw [hP]; show (!bt _ _ _) = false; rw [hb]; rfl)
      | false =>
        rw [if_neg (by decide)]
        have hT : trP (S9 V p) (S9 V q) (flV V (V 6)) (V 7) a i = true := by rw [hP]; show (!bt _ _ _) = true; rw [hb]; rfl
        rw [hT, if_pos rfl] at hstep
        exact ih n (nI i) υ (by omega) (by omega) kυ hVυ (by rw [hstep]; intro z; cases z) (by rw [hstep]; intro x hx; cases hx; exact ⟨by omega, rfl⟩)
theorem s_training (a1 a2 a3 : Int32) (b : Bool) : LPr (fun σ => f_X8_training σ a1 a2 a3) (fun σ => f_X9_training σ a1 a2 a3) b Inv Inv := by
  refine pr_ro (fun σ => if unl (σ.1 82) a1 a2 = true then (if isO a3 0 1200 = true then .inr 1 else trO (trF (S9 (σ.1 82) a1.toNatClampNeg) (S9 (σ.1 82) a2.toNatClampNeg) (flV (σ.1 82) (σ.1 82 6)) (σ.1 82 7) a3 31)) else .inr 1) (fun σ τ h => by show _ = _; rw [h.d]) (fun σ h => ?_) (fun σ h => ?_) b
  · show C8 (f_X8_training σ a1 a2 a3) σ _
    unfold f_X8_training
    rcases unl_c h a1 a2 with ⟨hn, ⟨r5, r15, e1, e2, e3⟩, -⟩ | ⟨p, q, hp, hq, hpN, hqN, rfl, rfl, hu, hn, e1, e2, e3, -⟩
    · simp only [hn, Bool.false_eq_true, if_false]
      exact ⟨σ, by rw [e1, bind_s, e2, bind_s, e3, bind_s, if_neg (by decide), r8_1, bind_s], Fr.rf σ⟩
    · simp only [hn, if_true]
      rw [e1, bind_s, e2, bind_s, e3, bind_s, if_pos rfl, out_eq, bind_s]
      cases h3 : isO a3 0 1200 with
      | true => exact ⟨σ, by rw [if_pos rfl, r8_1, bind_s], Fr.rf σ⟩
      | false =>
        obtain ⟨τ, t1, t2, t3⟩ := feel_eq h.ic (σ.1 1 1)
        have hf : Fl τ (flV (σ.1 82) (σ.1 82 6)) := by rw [← h.mp (i := 6) (j := 1) (by decide)]; exact t2
        have eA : Eq9 (S8 τ (12 + 2 * p)) (S9 (σ.1 82) p) := by rw [swm_fr t3 hp]; exact sw_Eq9 h hpN
        have eB : Eq9 (S8 τ (12 + 2 * q)) (S9 (σ.1 82) q) := by rw [swm_fr t3 hq]; exact sw_Eq9 h hqN
        obtain ⟨υ, u1, u2, u3⟩ := copy6 τ (t := 69) (Or.inl rfl) (K12 p hp) (by omega)
        have f : Fr σ υ := fun k j hs => by rw [u3 k j (by rintro rfl; simp [scr] at hs) (by rintro rfl; simp [scr] at hs)]; exact feel_fr t3 k j hs
        rw [if_neg (by decide), t1, bind_s, deref6 (K12 p hp), u1, bind_s, nI_clamp (by omega), nI_clamp (by omega)]
        simp only [Bool.false_eq_true, if_false]
        exact (train8_L (gr9 h.ok hp) (gr9 h.ok hq) (k := 12 + 2 * p) (by omega) hq 31 FU υ (by omega) (by unfold FU; omega) (fun x hx => by rw [u3 59 x (by decide) (by decide)]; exact hf x hx) (fun j hj _ => (u2.tr eA) j hj) (by rw [S8_congr (fun j => u3 _ j (by omega) (by omega)) (fun j => u3 _ j (by omega) (by omega))]; exact eB) (by rw [u3 1 2 (by decide) (by decide), t3 1 2 (by decide) (by decide)]; exact h.mp (i := 7) (j := 2) (by decide)) (by rw [u3 _ _ (by omega) (by omega)]; exact eA 2 (by omega))).fr f
  · show C9 (f_X9_training σ a1 a2 a3) σ _
    unfold f_X9_training
    rcases unl_c h a1 a2 with ⟨hn, -, e3⟩ | ⟨p, q, hp, hq, hpN, hqN, rfl, rfl, hu, hn, -, -, -, e3⟩
    · simp only [hn, Bool.false_eq_true, if_false]
      exact ⟨σ, by rw [e3, bind_s, if_neg (by decide), r9_1, bind_s], Fr.rf σ⟩
    · simp only [hn, if_true]
      rw [e3, bind_s, if_pos rfl, in_0_1200, bind_s]
      cases h3 : isO a3 0 1200 with
      | true => exact ⟨σ, by rw [if_neg (by decide), r9_1, bind_s], Fr.rf σ⟩
      | false =>
        have o3 : f_X9_of σ (nI p) 3 = some (S9 (σ.1 82) p 3) := of_eq hp (j := 3) (by omega)
        have o2 : f_X9_of σ (nI p) 2 = some (S9 (σ.1 82) p 2) := of_eq hp (j := 2) (by omega)
        rw [if_pos (by decide), o3, bind_s, o2, bind_s, nI_clamp (by omega), nI_clamp (by omega)]
        simp only [Bool.false_eq_true, if_false]
        exact train9_L h.ok h.cd.1.cw hp hq hu rfl 31 FU (-1) σ (by omega) (by unfold FU; omega) (K9.rf _) (fun _ _ => rfl) (fun _ => rfl) (fun x hx => by cases hx)
def fairS (A B : Nat → Int32) (fl : Int32 → Int32) (s : Int32) : Int32 ⊕ Nat := match met A B fl s with
  | none => .inr 2
  | some u => match met (upv A 2 (B 2)) (upv B 2 (A 2)) fl s with
    | none => .inr 2
    | some u' => .inl (metP A B fl u + metP (upv A 2 (B 2)) (upv B 2 (A 2)) fl u' - 1200)
theorem ok2 {A : Nat → Int32} (h : GR A) : oks 2 (A 2) = true := h 2 (by omega)
theorem other {A B : Nat → Int32} (hA : GR A) (hB : GR B) (hu : ¬ A 2 = B 2) : 1 - A 2 = B 2 ∧ 1 - B 2 = A 2 := by
  rcases hA.side with h | h <;> rcases hB.side with h' | h'
  · exact absurd (h.trans h'.symm) hu
  · rw [h, h']; decide
  · rw [h, h']; decide
  · exact absurd (h.trans h'.symm) hu
theorem change9 {σ : Sto} {A B : Nat → Int32} {p q : Nat} (hp : p < 8) (hq : q < 8) (hpq : q ≠ p) (hA : Eq9 (S9 (σ.1 82) p) A) (hB : Eq9 (S9 (σ.1 82) q) B) (h1 : 1 - A 2 = B 2) (h2 : 1 - B 2 = A 2) :
    f_X9_changeSides σ (nI p) (nI q) = some (sI (sI σ 82 (16 + 9 * p + 2) (B 2)) 82 (16 + 9 * q + 2) (A 2)) := by
  have o1 : f_X9_of σ (nI p) 2 = some (A 2) := by rw [← hA 2 (by omega)]; exact of_eq hp (j := 2) (by omega)
  have o2 : f_X9_of (sI σ 82 (16 + 9 * p + 2) (B 2)) (nI q) 2 = some (B 2) := by
    rw [show f_X9_of (sI σ 82 (16 + 9 * p + 2) (B 2)) (nI q) 2 = _ from of_eq hq (j := 2) (by omega), ← hB 2 (by omega)]
    unfold S9
    rw [sI_nj (by omega)]
  unfold f_X9_changeSides
  rw [o1, bind_s, h1, show f_X9_becomes σ (nI p) 2 (B 2) = _ from bec_eq hp (j := 2) (by omega) _, bind_s, o2, bind_s, h2, show f_X9_becomes (sI σ 82 (16 + 9 * p + 2) (B 2)) (nI q) 2 (A 2) = _ from bec_eq hq (j := 2) (by omega) _, bind_s]
theorem S9_two {W : Nat → Int32} {A B : Nat → Int32} {p q i : Nat} (hi : i < 9) (hpq : q ≠ p) (hA : Eq9 (S9 W p) A) (hB : Eq9 (S9 W q) B) (v w : Int32) {W' : Nat → Int32} (h : ∀ j, W' j = if j = 16 + 9 * q + i then w else if j = 16 + 9 * p + i then v else W j) : Eq9 (S9 W' p) (upv A i v) ∧ Eq9 (S9 W' q) (upv B i w) := by
  refine ⟨fun j hj => ?_, fun j hj => ?_⟩
  · unfold upv
    show W' (16 + 9 * p + j) = _
    rw [h, if_neg (by omega)]
    by_cases hj' : j = i
    · rw [if_pos (by omega), if_pos hj']
    · rw [if_neg (by omega), if_neg hj']; exact hA j hj
  · unfold upv
    show W' (16 + 9 * q + j) = _
    rw [h]
    by_cases hj' : j = i
    · rw [if_pos (by omega), if_pos hj']
    · rw [if_neg (by omega), if_neg (by omega), if_neg hj']; exact hB j hj
theorem fair8 {τ : Sto} {A B : Nat → Int32} {fl : Int32 → Int32} {s : Int32} {p q : Nat} (hp : p < 8) (hq : q < 8) (gA : GR A) (gB : GR B) (eA : Eq9 (S8 τ (12 + 2 * p)) A) (eB : Eq9 (S8 τ (12 + 2 * q)) B) (hf : Fl τ fl) (hs : τ.1 1 2 = s) :
    C8 ((f_X5_meets τ (12 + 2 * p) (12 + 2 * q) (τ.1 1 2)).bind (fun r66 => if r66.1 = true then ((f_X6_copy r66.2 69 (12 + 2 * p)).bind (fun r92 => lp (sI r92 69 2 (r92.1 (12 + 2 * q) 2)) (fun σ104 => (f_X6_copy σ104 71 (12 + 2 * q)).bind (fun r113 => lp (sI r113 71 2 (r113.1 (12 + 2 * p) 2)) (fun σ124 => (f_X5_meets σ124 69 71 (σ124.1 1 2)).bind (fun r146 => if r146.1 = true then (some ((((r66.2.1 58 2) + (r146.2.1 58 2)) - (1200 : Int32)), r146.2)) else (f_X8_refuse r146.2 (2 : Int32)).bind (fun r154 => some (r154.1, r154.2)))))))) else (f_X8_refuse r66.2 (2 : Int32)).bind (fun r74 => some (r74.1, r74.2)))) τ (fairS A B fl s) := by
  obtain ⟨υ, u1, u2, u3⟩ := meets8 (K12 p hp) (K12 q hq) gA gB eA eB hf s
  have f1 : Fr τ υ := fun k j hs => u2 k j (by rintro rfl; simp [scr] at hs)
  rw [hs, u1, bind_s]
  unfold fairS
  cases hm : met A B fl s with
  | none =>
    rw [if_neg (show ¬ (none : Option Nat).isSome = true by decide), r8_2, bind_s]
    exact ⟨υ, rfl, f1⟩
  | some u =>
    obtain ⟨-, v2, -⟩ := u3 u hm
    obtain ⟨α, a1, a2, a3⟩ := copy6 υ (t := 69) (Or.inl rfl) (K12 p hp) (by omega)
    have eA' : Eq9 (S8 υ (12 + 2 * p)) A := by rw [S8_congr (fun j => u2 _ j (by omega)) (fun j => u2 _ j (by omega))]; exact eA
    have eB' : Eq9 (S8 υ (12 + 2 * q)) B := by rw [S8_congr (fun j => u2 _ j (by omega)) (fun j => u2 _ j (by omega))]; exact eB
    have b2 : α.1 (12 + 2 * q) 2 = B 2 := by rw [a3 _ _ (by omega) (by omega)]; exact eB' 2 (by omega)
    rw [if_pos (show (some u).isSome = true from rfl), a1, bind_s, lp_b, b2]
    generalize hβ : sI α 69 2 (B 2) = β
    have w69 : Eq9 (S8 β 69) (upv A 2 (B 2)) := by
      rw [← hβ]
      exact (S8_up (by omega) _).tr ((a2.tr eA').up 2 _)
    have oβ : ∀ x y, x ≠ 69 → x ≠ 70 → β.1 x y = υ.1 x y := fun x y h1 h2 => by rw [← hβ, sI_ne h1, a3 x y h1 h2]
    obtain ⟨γ, c1, c2, c3⟩ := copy6 β (t := 71) (Or.inr rfl) (K12 q hq) (by omega)
    have a2' : γ.1 (12 + 2 * p) 2 = A 2 := by rw [c3 _ _ (by omega) (by omega), oβ _ _ (by omega) (by omega)]; exact eA' 2 (by omega)
    rw [c1, bind_s, lp_b, a2']
    generalize hδ : sI γ 71 2 (A 2) = δ
    have oδ : ∀ x y, x ≠ 71 → x ≠ 72 → δ.1 x y = β.1 x y := fun x y h1 h2 => by rw [← hδ, sI_ne h1, c3 x y h1 h2]
    have w71 : Eq9 (S8 δ 71) (upv B 2 (A 2)) := by
      rw [← hδ]
      refine (S8_up (by omega) _).tr ((c2.tr ?_).up 2 _)
      rw [S8_congr (fun j => oβ _ j (by omega) (by omega)) (fun j => oβ _ j (by omega) (by omega))]
      exact eB'
    have w69' : Eq9 (S8 δ 69) (upv A 2 (B 2)) := by rw [S8_congr (fun j => oδ 69 j (by decide) (by decide)) (fun j => oδ 70 j (by decide) (by decide))]; exact w69
    obtain ⟨ε, d1, d2, d3⟩ := meets8 (k1 := 69) (k2 := 71) (by decide) (by decide) (gA.up (ok2 gB)) (gB.up (ok2 gA)) w69' w71 (fl := fl) (fun x hx => by rw [oδ 59 x (by decide) (by decide), oβ 59 x (by decide) (by decide), u2 59 x (by decide)]; exact hf x hx) s
    have fε : Fr τ ε := fun k j hs => by
      have z : k ≠ 58 ∧ k ≠ 69 ∧ k ≠ 70 ∧ k ≠ 71 ∧ k ≠ 72 := by refine ⟨?_, ?_, ?_, ?_, ?_⟩ <;> (rintro rfl; simp [scr] at hs)
      rw [d2 k j z.1, oδ k j z.2.2.2.1 z.2.2.2.2, oβ k j z.2.1 z.2.2.1, u2 k j z.1]
    rw [show δ.1 1 2 = s by rw [oδ 1 2 (by decide) (by decide), oβ 1 2 (by decide) (by decide), u2 1 2 (by decide)]; exact hs, d1, bind_s]
    show C8 (if (met (upv A 2 (B 2)) (upv B 2 (A 2)) fl s).isSome = true then some (υ.1 58 2 + ε.1 58 2 - 1200, ε) else _) τ (match met (upv A 2 (B 2)) (upv B 2 (A 2)) fl s with
      | none => .inr 2
      | some u' => .inl (metP A B fl u + metP (upv A 2 (B 2)) (upv B 2 (A 2)) fl u' - 1200))
    cases hm' : met (upv A 2 (B 2)) (upv B 2 (A 2)) fl s with
    | none =>
      rw [if_neg (show ¬ (none : Option Nat).isSome = true by decide), r8_2, bind_s]
      exact ⟨ε, rfl, fε⟩
    | some u' =>
      obtain ⟨-, w2, -⟩ := d3 u' hm'
      rw [if_pos (show (some u').isSome = true from rfl), v2, w2]
      exact ⟨ε, rfl, fε⟩
theorem s_fair (a1 a2 : Int32) (b : Bool) : LPr (fun σ => f_X8_fair σ a1 a2) (fun σ => f_X9_fair σ a1 a2) b Inv Inv := by
  refine pr_ro (fun σ => if unl (σ.1 82) a1 a2 = true then fairS (S9 (σ.1 82) a1.toNatClampNeg) (S9 (σ.1 82) a2.toNatClampNeg) (flV (σ.1 82) (σ.1 82 6)) (σ.1 82 7) else .inr 1) (fun σ τ h => by show _ = _; rw [h.d]) (fun σ h => ?_) (fun σ h => ?_) b
  · show C8 (f_X8_fair σ a1 a2) σ _
    unfold f_X8_fair
    rcases unl_c h a1 a2 with ⟨hn, ⟨r5, r15, e1, e2, e3⟩, -⟩ | ⟨p, q, hp, hq, hpN, hqN, rfl, rfl, hu, hn, e1, e2, e3, -⟩
    · simp only [hn, Bool.false_eq_true, if_false]
      exact ⟨σ, by rw [e1, bind_s, e2, bind_s, e3, bind_s, if_neg (by decide), r8_1, bind_s], Fr.rf σ⟩
    · simp only [hn, if_true]
      obtain ⟨τ, t1, t2, t3⟩ := feel_eq h.ic (σ.1 1 1)
      have hf : Fl τ (flV (σ.1 82) (σ.1 82 6)) := by rw [← h.mp (i := 6) (j := 1) (by decide)]; exact t2
      have eA : Eq9 (S8 τ (12 + 2 * p)) (S9 (σ.1 82) p) := by rw [swm_fr t3 hp]; exact sw_Eq9 h hpN
      have eB : Eq9 (S8 τ (12 + 2 * q)) (S9 (σ.1 82) q) := by rw [swm_fr t3 hq]; exact sw_Eq9 h hqN
      rw [e1, bind_s, e2, bind_s, e3, bind_s, if_pos rfl, t1, bind_s, deref6 (K12 p hp), deref6 (K12 q hq), nI_clamp (by omega), nI_clamp (by omega)]
      exact (fair8 hp hq (gr9 h.ok hp) (gr9 h.ok hq) eA eB hf (by rw [t3 1 2 (by decide) (by decide)]; exact h.mp (i := 7) (j := 2) (by decide))).fr (feel_fr t3)
  · show C9 (f_X9_fair σ a1 a2) σ _
    unfold f_X9_fair
    rcases unl_c h a1 a2 with ⟨hn, -, e3⟩ | ⟨p, q, hp, hq, hpN, hqN, rfl, rfl, hu, hn, -, -, -, e3⟩
    · simp only [hn, Bool.false_eq_true, if_false]
      exact ⟨σ, by rw [e3, bind_s, if_neg (by decide), r9_1, bind_s], Fr.rf σ⟩
    · simp only [hn, if_true]
      have hpq : q ≠ p := by rintro rfl; exact hu rfl
      have gA := gr9 h.ok hp
      have gB := gr9 h.ok hq
      obtain ⟨x1, x2⟩ := other gA gB hu
      rw [e3, bind_s, if_pos rfl, nI_clamp (by omega), nI_clamp (by omega)]
      obtain ⟨α, t1, t2, t3⟩ := swim9 h.cd.1.cw hp hq gA gB hu
      have hc := h.cd.1.cw
      have ok := h.ok
      generalize hV : σ.1 82 = V at *
      have dα : α.1 82 = V := t2.d.trans hV
      have c1 := change9 (σ := α) (A := S9 V p) (B := S9 V q) hp hq hpq (by rw [dα]; exact Eq9.rf _) (by rw [dα]; exact Eq9.rf _) x1 x2
      rw [t1, bind_s, c1, bind_s]
      generalize hβ : sI (sI α 82 (16 + 9 * p + 2) (S9 V q 2)) 82 (16 + 9 * q + 2) (S9 V p 2) = β
      have rβ : ∀ j, β.1 82 j = if j = 16 + 9 * q + 2 then S9 V p 2 else if j = 16 + 9 * p + 2 then S9 V q 2 else V j := fun j => by rw [← hβ, sI_at, sI_at, dα]
      obtain ⟨eA, eB⟩ := S9_two (by omega) hpq (Eq9.rf (S9 V p)) (Eq9.rf (S9 V q)) (S9 V q 2) (S9 V p 2) (W' := β.1 82) rβ
      have lo : ∀ j, j < 16 ∨ 88 ≤ j → β.1 82 j = V j := fun j hj => by rw [rβ, if_neg (by omega), if_neg (by omega)]
      obtain ⟨γ, s1, s2, s3⟩ := swimW (σ := β) (V := V) (w := V 6) (s := V 7) rfl ⟨fun x hx => lo x (by omega), fun x hx => lo x (by omega)⟩ hc (lo 6 (by omega)) (lo 7 (by omega)) hp hq eA eB (gA.up (ok2 gB)) (gB.up (ok2 gA)) (by rw [upv_at, upv_at]; exact fun z => hu z.symm)
      have dγ : γ.1 82 = β.1 82 := s2.d
      have c2 := change9 (σ := γ) (A := upv (S9 V p) 2 (S9 V q 2)) (B := upv (S9 V q) 2 (S9 V p 2)) hp hq hpq (by rw [dγ]; exact eA) (by rw [dγ]; exact eB) (by rw [upv_at, upv_at]; exact x2) (by rw [upv_at, upv_at]; exact x1)
      rw [s1, bind_s, c2, bind_s, upv_at, upv_at]
      generalize hδ : sI (sI γ 82 (16 + 9 * p + 2) (S9 V p 2)) 82 (16 + 9 * q + 2) (S9 V q 2) = δ
      have fδ : Fr σ δ := by
        intro k j hs
        by_cases hk : k = 82
        · subst hk
          rw [← hδ, sI_at, sI_at, dγ, rβ, hV]
          by_cases h1 : j = 16 + 9 * q + 2
          · rw [if_pos h1, h1]; rfl
          · rw [if_neg h1, if_neg h1]
            by_cases h2 : j = 16 + 9 * p + 2
            · rw [if_pos h2, h2]; rfl
            · rw [if_neg h2, if_neg h2]
        · rw [← hδ, sI_ne hk, sI_ne hk, s2.fr k j hs, ← hβ, sI_ne hk, sI_ne hk, t2.fr k j hs]
      have e16 : δ.1 81 16 = γ.1 81 16 := by rw [← hδ, sI_ne (by decide), sI_ne (by decide)]
      unfold fairS
      cases hm : met (S9 V p) (S9 V q) (flV V (V 6)) (V 7) with
      | none =>
        rw [if_neg (show ¬ (none : Option Nat).isSome = true by decide), r9_2, bind_s]
        exact ⟨δ, rfl, fδ⟩
      | some u =>
        obtain ⟨-, w2⟩ := t3 u hm
        rw [if_pos (show (some u).isSome = true from rfl)]
        show C9 (if (met (upv (S9 V p) 2 (S9 V q 2)) (upv (S9 V q) 2 (S9 V p 2)) (flV V (V 6)) (V 7)).isSome = true then some (α.1 81 16 + δ.1 81 16 - 1200, δ) else _) σ (match met (upv (S9 V p) 2 (S9 V q 2)) (upv (S9 V q) 2 (S9 V p 2)) (flV V (V 6)) (V 7) with
          | none => .inr 2
          | some u' => .inl (metP (S9 V p) (S9 V q) (flV V (V 6)) u + metP (upv (S9 V p) 2 (S9 V q 2)) (upv (S9 V q) 2 (S9 V p 2)) (flV V (V 6)) u' - 1200))
        cases hm' : met (upv (S9 V p) 2 (S9 V q 2)) (upv (S9 V q) 2 (S9 V p 2)) (flV V (V 6)) (V 7) with
        | none =>
          rw [if_neg (show ¬ (none : Option Nat).isSome = true by decide), r9_2, bind_s]
          exact ⟨δ, rfl, fδ⟩
        | some u' =>
          obtain ⟨-, w2'⟩ := s3 u' hm'
          rw [if_pos (show (some u').isSome = true from rfl), e16, w2, w2']
          exact ⟨δ, rfl, fδ⟩
-- judge
def jdS (f g : Nat → Int32) (n : Nat) : Nat → Nat
  | 0 => n
  | d + 1 => if f (n - (d + 1)) = g (n - (d + 1)) then jdS f g n d else n - (d + 1)
theorem judge8_L {k : Nat} (hk : K0 k = 6) {σ : Sto} {A : Nat → Int32} (gA : GR A) (eA : Eq9 (S8 σ k) A) {fl : Int32 → Int32} (hf : Fl σ fl) {s m : Nat} (hs : s < 4) (hm : m ≤ 40) (hn : σ.1 (73 + 2 * s) 1 = nI m) : ∀ (d n : Nat), d ≤ m → d < n →
    f_X8_judge_L72 (73 + 2 * s) k n (pPos A fl (m - d)) (nI (m - d)) σ = some (nI (jdS (fun t => σ.1 (74 + 2 * s) t) (pPos A fl) m d), σ) := by
  intro d
  induction d with
  | zero =>
    intro n _ h2
    obtain ⟨n, rfl⟩ : ∃ n', n = n' + 1 := ⟨n - 1, by omega⟩
    rw [f_X8_judge_L72, hn, if_pos (nI_le (by omega) (by omega)), jdS]
  | succ d ih =>
    intro n h1 h2
    obtain ⟨n, rfl⟩ : ∃ n', n = n' + 1 := ⟨n - 1, by omega⟩
    have e1 : m - d = (m - (d + 1)) + 1 := by omega
    rw [f_X8_judge_L72, hn, if_neg (nI_ge (by omega) (by omega)), sh_rd hs (by omega), bind_s, jdS]
    by_cases h : σ.1 (74 + 2 * s) (m - (d + 1)) = pPos A fl (m - (d + 1))
    · rw [if_pos h, if_pos h, next8 hk (eA.gr gA) hf _ (by omega), bind_s, nI_1, eA.go]
      have := ih n (by omega) (by omega)
      rw [e1, pPos] at this
      exact this
    · rw [if_neg h, if_neg h]
theorem judge9_L {V : Nat → Int32} (hV : ∀ i, okv i (V i) = true) (hc : CW V 0) {p : Nat} (hp : p < 8) {s m : Nat} (hs : s < 4) (hm : m ≤ 40) (f : Nat → Int32) : ∀ (d n : Nat) (σ : Sto), d ≤ m → d < n → σ.1 82 = V → σ.1 91 s = nI m → (∀ t, t < 40 → σ.1 92 (40 * s + t) = f t) →
    ∃ τ, f_X9_judge_L56 (nI s) (nI p) n (pPos (S9 V p) (flV V (V 6)) (m - d)) (nI (m - d)) σ = some (nI (jdS f (pPos (S9 V p) (flV V (V 6))) m d), τ) ∧ ∀ a b, a ≠ 86 → a ≠ 88 → τ.1 a b = σ.1 a b := by
  intro d
  induction d with
  | zero =>
    intro n σ _ h2 _ hn _
    obtain ⟨n, rfl⟩ : ∃ n', n = n' + 1 := ⟨n - 1, by omega⟩
    refine ⟨σ, ?_, fun _ _ _ _ => rfl⟩
    rw [f_X9_judge_L56, rd_nI (by show s < 4; exact hs), bind_s, hn, if_pos (nI_le (by omega) (by omega)), jdS]
    rfl
  | succ d ih =>
    intro n σ h1 h2 h3 hn hr
    obtain ⟨n, rfl⟩ : ∃ n', n = n' + 1 := ⟨n - 1, by omega⟩
    have e1 : m - d = (m - (d + 1)) + 1 := by omega
    rw [f_X9_judge_L56, rd_nI (by show s < 4; exact hs), bind_s, hn, if_neg (nI_ge (by omega) (by omega)), mul40 s hs, nI_add, rd_nI (by show 40 * s + (m - (d + 1)) < 160; omega), bind_s, hr _ (by omega), jdS]
    by_cases h : f (m - (d + 1)) = pPos (S9 V p) (flV V (V 6)) (m - (d + 1))
    · obtain ⟨τ, t1, t2⟩ := goes9 (σ := σ) (by rw [h3]; exact hc) hp (by rw [h3]; exact gr9 hV hp) (pPos (S9 V p) (flV V (V 6)) (m - (d + 1))) (t := m - (d + 1)) (by omega)
      rw [h3] at t1
      obtain ⟨υ, u1, u2⟩ := ih n τ (by omega) (by omega) (by rw [← h3]; funext i; exact t2 82 i (by decide) (by decide)) (by rw [t2 91 s (by decide) (by decide)]; exact hn) (fun t ht => by rw [t2 92 _ (by decide) (by decide)]; exact hr t ht)
      rw [if_pos h, if_pos h, t1, bind_s, nI_1]
      refine ⟨υ, ?_, fun a b ha hb => by rw [u2 a b ha hb, t2 a b ha hb]⟩
      rw [← u1, e1, pPos]
    · rw [if_neg h, if_neg h]
      exact ⟨σ, rfl, fun _ _ _ _ => rfl⟩
theorem s_judge (a1 a2 : Int32) (b : Bool) : LPr (fun σ => f_X8_judge σ a1 a2) (fun σ => f_X9_judge σ a1 a2) b Inv Inv := by
  refine pr_ro (fun σ => if isO a1 0 3 = true then .inr 1 else if isO a2 0 (σ.1 82 12 - 1) = true then .inr 1 else if σ.1 90 a1.toNatClampNeg = 0 then .inr 2 else .inl (nI (jdS (fun t => σ.1 92 (40 * a1.toNatClampNeg + t)) (pPos (S9 (σ.1 82) a2.toNatClampNeg) (flV (σ.1 82) (σ.1 82 6))) (σ.1 91 a1.toNatClampNeg).toNatClampNeg (σ.1 91 a1.toNatClampNeg).toNatClampNeg))) (fun σ τ h => by
      show _ = _
      have e92 : τ.1 92 = σ.1 92 := funext fun j => h 92 j (by omega)
      rw [h.d, h 90 _ (by omega), h 91 _ (by omega), e92]) (fun σ h => ?_) (fun σ h => ?_) b
  · show C8 (f_X8_judge σ a1 a2) σ _
    unfold f_X8_judge f_X4_isMissing
    rcases shA8 σ a1 with ⟨q1, e1⟩ | ⟨s, hs, rfl, q1, e1⟩
    · simp only [q1, if_true]
      rcases sA8 h a2 with ⟨q, e⟩ | ⟨p, hp, hpN, rfl, q, e⟩
      · exact ⟨σ, by rw [e1, bind_s, e, bind_s, onN_0, r8_1, bind_s], Fr.rf σ⟩
      · exact ⟨σ, by rw [e1, bind_s, e, bind_s, onN_0, r8_1, bind_s], Fr.rf σ⟩
    · simp only [q1, Bool.false_eq_true, if_false]
      rcases sA8 h a2 with ⟨q, e⟩ | ⟨p, hp, hpN, rfl, q, e⟩
      · simp only [q, if_true]
        exact ⟨σ, by rw [e1, bind_s, e, bind_s, onN_1, onN_0, r8_1, bind_s], Fr.rf σ⟩
      · simp only [q, Bool.false_eq_true, if_false]
        obtain ⟨c1, c2, ⟨m, hm, c3⟩, c4⟩ := h.2.2.2.2.1 s hs
        rw [e1, bind_s, e, bind_s, onN_1, onN_1, if_pos (sh_f s hs).1, c1, nI_clamp (by omega), nI_clamp (by omega)]
        by_cases h0 : σ.1 90 s = 0
        · rw [if_pos h0, if_pos h0, bind_s, if_pos rfl, r8_2, bind_s]
          exact ⟨σ, rfl, Fr.rf σ⟩
        · obtain ⟨τ, t1, t2, t3⟩ := feel_eq h.ic (σ.1 1 1)
          have hf : Fl τ (flV (σ.1 82) (σ.1 82 6)) := by rw [← h.mp (i := 6) (j := 1) (by decide)]; exact t2
          have eA : Eq9 (S8 τ (12 + 2 * p)) (S9 (σ.1 82) p) := by rw [swm_fr t3 hp]; exact sw_Eq9 h hpN
          have := judge8_L (K12 p hp) (gr9 h.ok hp) eA hf hs hm (by rw [t3 _ _ (by omega) (by omega), c2, c3]) m FU (by omega) (by unfold FU; omega)
          rw [Nat.sub_self] at this
          have ej : ∀ d, d ≤ m → jdS (fun t => τ.1 (74 + 2 * s) t) (pPos (S9 (σ.1 82) p) (flV (σ.1 82) (σ.1 82 6))) m d = jdS (fun t => σ.1 92 (40 * s + t)) (pPos (S9 (σ.1 82) p) (flV (σ.1 82) (σ.1 82 6))) m d := by
            intro d
            induction d with
            | zero => intro _; rfl
            | succ d ih =>
              intro hd
              rw [jdS, jdS, ih (by omega), t3 _ _ (by omega) (by omega), show σ.1 (74 + 2 * s) (m - (d + 1)) = σ.1 92 (40 * s + (m - (d + 1))) from c4 _ (by omega)]
          rw [if_neg h0, if_neg h0, bind_s, if_neg (by decide), t1, bind_s, if_pos (K12 p hp), shore8 (fl := flV (σ.1 82) (σ.1 82 6)), bind_s, eA.pos, c3, nI_clamp (by omega), ← ej m (by omega)]
          exact ⟨τ, this, feel_fr t3⟩
  · show C9 (f_X9_judge σ a1 a2) σ _
    unfold f_X9_judge f_X9_judge_L52
    rcases shA8 σ a1 with ⟨q1, -⟩ | ⟨s, hs, rfl, q1, -⟩
    · simp only [q1, if_true]
      exact ⟨σ, by rw [sheet_eq, bind_s, q1, if_neg (by decide), r9_1, bind_s], Fr.rf σ⟩
    · simp only [q1, Bool.false_eq_true, if_false]
      rcases sA8 h a2 with ⟨q, e⟩ | ⟨p, hp, hpN, rfl, q, e⟩
      · simp only [q, if_true]
        exact ⟨σ, by rw [sheet_eq, bind_s, q1, if_pos (by decide), isS_eq, bind_s, q, if_neg (by decide), r9_1, bind_s], Fr.rf σ⟩
      · simp only [q, Bool.false_eq_true, if_false]
        obtain ⟨c1, c2, ⟨m, hm, c3⟩, c4⟩ := h.2.2.2.2.1 s hs
        rw [sheet_eq, bind_s, q1, if_pos (by decide), isS_eq, bind_s, q, if_pos (by decide), rd_nI (by show s < 4; exact hs), bind_s, nI_clamp (by omega), nI_clamp (by omega)]
        by_cases h0 : σ.1 90 s = 0
        · rw [if_pos h0, if_pos h0, r9_2, bind_s]
          exact ⟨σ, rfl, Fr.rf σ⟩
        · have o2 : f_X9_of σ (nI p) 2 = some (S9 (σ.1 82) p 2) := of_eq hp (j := 2) (by omega)
          obtain ⟨τ, t1, t2⟩ := judge9_L h.ok h.cd.1.cw hp hs hm (fun t => σ.1 92 (40 * s + t)) m FU σ (by omega) (by unfold FU; omega) rfl c3 (fun _ _ => rfl)
          rw [Nat.sub_self] at t1
          rw [if_neg h0, if_neg h0, o2, bind_s, c3, nI_clamp (by omega)]
          refine ⟨τ, ?_, fr_9 t2⟩
          rw [← t1, pPos]
          by_cases hs2 : S9 (σ.1 82) p 2 = 0
          · rw [if_pos hs2, if_pos hs2]; rfl
          · rw [if_neg hs2, if_neg hs2]; rfl
/-! Rows copied whole; the check. -/
theorem copies_L {a b : Nat} (ha : Ln0 a = 270) (hb : Ln0 b = 270) (hab : a ≠ b) : ∀ (d n : Nat) (σ : Sto), d ≤ 270 → d < n → ∃ τ, f_X9_copies_L2 a b n (nI (270 - d)) σ = some τ ∧ (∀ j, τ.1 b j = if 270 - d ≤ j ∧ j < 270 then σ.1 a j else σ.1 b j) ∧ ∀ k j, k ≠ b → τ.1 k j = σ.1 k j := by
  intro d
  induction d with
  | zero =>
    intro n σ _ h2
    obtain ⟨n, rfl⟩ : ∃ n', n = n' + 1 := ⟨n - 1, by omega⟩
    rw [f_X9_copies_L2, if_pos (by decide)]
    exact ⟨σ, rfl, fun j => by rw [if_neg (by omega)], fun _ _ _ => rfl⟩
  | succ d ih =>
    intro n σ h1 h2
    obtain ⟨n, rfl⟩ : ∃ n', n = n' + 1 := ⟨n - 1, by omega⟩
    have e1 : 270 - d = (270 - (d + 1)) + 1 := by omega
    rw [f_X9_copies_L2, if_neg (show ¬ (270 : Int32) ≤ nI (270 - (d + 1)) from nI_ge (b := 270) (by omega) (by omega)), rd_nI (by rw [ha]; omega), bind_s, wr_nI (by rw [hb]; omega), bind_s, nI_1, ← e1]
    obtain ⟨τ, t1, t2, t3⟩ := ih n (sI σ b (270 - (d + 1)) (σ.1 a (270 - (d + 1)))) (by omega) (by omega)
    refine ⟨τ, t1, fun j => ?_, fun k j hk => by rw [t3 k j hk, sI_ne hk]⟩
    rw [t2 j, sI_ne hab, sI_at]
    by_cases h : 270 - d ≤ j ∧ j < 270
    · rw [if_pos h, if_pos (by omega)]
    · rw [if_neg h]
      by_cases h' : j = 270 - (d + 1)
      · rw [if_pos h', if_pos (by omega), h']
      · rw [if_neg h', if_neg (by omega)]
theorem copies9 {a b : Nat} (ha : Ln0 a = 270) (hb : Ln0 b = 270) (hab : a ≠ b) (σ : Sto) : ∃ τ, f_X9_copies σ a b = some τ ∧ (∀ j, τ.1 b j = if j < 270 then σ.1 a j else σ.1 b j) ∧ ∀ k j, k ≠ b → τ.1 k j = σ.1 k j := by
  obtain ⟨τ, t1, t2, t3⟩ := copies_L ha hb hab 270 FU σ (by omega) (by unfold FU; omega)
  refine ⟨τ, t1, fun j => ?_, t3⟩
  rw [t2 j]
  by_cases h : j < 270
  · rw [if_pos (by omega), if_pos h]
  · rw [if_neg (by omega), if_neg h]
/-- a year of the reference alone -/
theorem goesR {σ : Sto} (hc0 : CW (σ.1 82) 0) (hc1 : CW (σ.1 82) 1) {p q : Nat} (hp : p < 8) (hq : q < 8) (gA : GR (S9 (σ.1 82) p)) (gB : GR (S9 (σ.1 82) q)) (hu : ¬ S9 (σ.1 82) p 2 = S9 (σ.1 82) q 2) :
    ∃ τ, f_X9_goesBy σ (nI p) (nI q) = some τ ∧ K9 σ τ ∧ (∀ j, τ.1 83 j = σ.1 83 j) ∧ ∀ j, j ≠ 8 → j ≠ 9 → j ≠ 10 → j ≠ 11 → j ≠ 16 + 9 * p + 4 → j ≠ 16 + 9 * q + 4 → τ.1 82 j = σ.1 82 j := by
  have share : ∀ χ : Sto, CW (χ.1 82) 1 → ∃ τ, f_X9_goesBy_L60 χ = some τ ∧ K9 χ τ ∧ (∀ j, τ.1 83 j = χ.1 83 j) ∧ ∀ j, j ≠ 9 → j ≠ 10 → j ≠ 11 → τ.1 82 j = χ.1 82 j := by
    intro χ hc
    obtain ⟨τ9, u1, u2, u3⟩ := g9 (Or.inr rfl) hc (χ.1 82 8) (χ.1 82 11) (χ.1 82 6)
    unfold f_X9_goesBy_L60
    rw [rdA_82_8, bind_s, rdA_82_11, bind_s, rdA_82_6, bind_s, show f_X9_gives χ 1 _ _ _ = _ from u1, bind_s, rdA_82_9, bind_s, imin_lesser, bind_s, wrA_82_9, bind_s, rdA_82_10, bind_s, imin_lesser, bind_s, wrA_82_10, bind_s, rdA_82_11, bind_s, wrA_82_11, bind_s]
    exact ⟨_, rfl, ((u2.k9.tr (K9.w _)).tr (K9.w _)).tr (K9.w _), fun j => by rw [sI_ne (by decide), sI_ne (by decide), sI_ne (by decide), u3 83 j (by decide) (by decide)], fun j h1 h2 h3 => by rw [sI_nj h3, sI_nj h2, sI_nj h1, u3 82 j (by decide) (by decide)]⟩
  obtain ⟨χ, x1, x2, x3⟩ := swim9 hc0 hp hq gA gB hu
  have d0 : χ.1 82 = σ.1 82 := x2.d
  have s83 : ∀ j, χ.1 83 j = σ.1 83 j := fun j => x2 83 j (by decide) (by decide) (by omega)
  unfold f_X9_goesBy
  rw [x1, bind_s]
  cases hm : met (S9 (σ.1 82) p) (S9 (σ.1 82) q) (flV (σ.1 82) (σ.1 82 6)) (σ.1 82 7) with
  | none =>
    obtain ⟨τ, z1, z2, z3, z4⟩ := share χ (by rw [d0]; exact hc1)
    rw [if_neg (show ¬ (none : Option Nat).isSome = true by decide)]
    exact ⟨τ, z1, x2.fr.k9.tr z2, fun j => by rw [z3, s83], fun j _ h9 h10 h11 _ _ => by rw [z4 j h9 h10 h11, d0]⟩
  | some u =>
    have o1 : f_X9_of (sI χ 82 8 (χ.1 81 16)) (nI p) 4 = some (S9 ((sI χ 82 8 (χ.1 81 16)).1 82) p 4) := of_eq hp (j := 4) (by omega)
    generalize imin 9999 (S9 ((sI χ 82 8 (χ.1 81 16)).1 82) p 4 + 1) = c1
    have b1 : ∀ c1, f_X9_becomes (sI χ 82 8 (χ.1 81 16)) (nI p) 4 c1 = some (sI (sI χ 82 8 (χ.1 81 16)) 82 (16 + 9 * p + 4) c1) := fun c1 => bec_eq hp (j := 4) (by omega) _
    have o2 : ∀ c1, f_X9_of (sI (sI χ 82 8 (χ.1 81 16)) 82 (16 + 9 * p + 4) c1) (nI q) 4 = some (S9 ((sI (sI χ 82 8 (χ.1 81 16)) 82 (16 + 9 * p + 4) c1).1 82) q 4) := fun c1 => of_eq hq (j := 4) (by omega)
    have b2 : ∀ c1 c2, f_X9_becomes (sI (sI χ 82 8 (χ.1 81 16)) 82 (16 + 9 * p + 4) c1) (nI q) 4 c2 = some (sI (sI (sI χ 82 8 (χ.1 81 16)) 82 (16 + 9 * p + 4) c1) 82 (16 + 9 * q + 4) c2) := fun c1 c2 => bec_eq hq (j := 4) (by omega) _
    rw [if_pos (show (some u).isSome = true from rfl), wrA_82_8, bind_s, o1, bind_s, imin_lesser, bind_s, b1, bind_s, o2, bind_s, imin_lesser, bind_s, b2, bind_s]
    generalize hω : sI (sI (sI χ 82 8 (χ.1 81 16)) 82 (16 + 9 * p + 4) _) 82 (16 + 9 * q + 4) _ = ω
    have w1 : ∀ j, j ≠ 8 → j ≠ 16 + 9 * p + 4 → j ≠ 16 + 9 * q + 4 → ω.1 82 j = σ.1 82 j := fun j h1 h2 h3 => by rw [← hω, sI_nj h3, sI_nj h2, sI_nj h1, d0]
    have w2 : K9 χ ω := by rw [← hω]; exact ((K9.w _).tr (K9.w _)).tr (K9.w _)
    have w3 : ∀ j, ω.1 83 j = χ.1 83 j := fun j => by rw [← hω, sI_ne (by decide), sI_ne (by decide), sI_ne (by decide)]
    obtain ⟨τ, z1, z2, z3, z4⟩ := share ω (hc1.vc (by omega) (fun i hi => w1 i (by omega) (by omega) (by omega)))
    exact ⟨τ, z1, (x2.fr.k9.tr w2).tr z2, fun j => by rw [z3, w3, s83], fun j h8 h9 h10 h11 hp hq => by rw [z4 j h9 h10 h11, w1 j h8 hp hq]⟩
theorem check8_L (v3 v6 : Int32) : ∀ (d n : Nat) (σ : Sto), d ≤ 20 → d < n → ∃ v, f_X8_check_L113 v3 v6 n (nI (20 - d)) σ = some (v, σ) := by
  intro d
  induction d with
  | zero =>
    intro n σ _ h2
    obtain ⟨n, rfl⟩ : ∃ n', n = n' + 1 := ⟨n - 1, by omega⟩
    rw [f_X8_check_L113]
    by_cases h : v3 ≤ nI (20 - 0)
    · rw [if_pos h]; exact ⟨_, rfl⟩
    · rw [if_neg h, if_pos (by decide)]; exact ⟨_, rfl⟩
  | succ d ih =>
    intro n σ h1 h2
    obtain ⟨n, rfl⟩ : ∃ n', n = n' + 1 := ⟨n - 1, by omega⟩
    have e1 : 20 - d = (20 - (d + 1)) + 1 := by omega
    rw [f_X8_check_L113]
    by_cases h : v3 ≤ nI (20 - (d + 1))
    · rw [if_pos h]; exact ⟨_, rfl⟩
    · rw [if_neg h, if_neg (show ¬ (20 : Int32) ≤ nI (20 - (d + 1)) from nI_ge (b := 20) (by omega) (by omega))]
      unfold f_X8_check_L147
      by_cases h' : (9999 : Int32) ≤ σ.1 1 4 + nI (20 - (d + 1))
      · rw [if_pos h', if_neg (by decide)]; exact ⟨_, rfl⟩
      · rw [if_neg h', if_pos rfl, rd_nI (by show 20 - (d + 1) < 20; omega), bind_s]
        by_cases h'' : σ.1 11 (20 - (d + 1)) = v6
        · rw [if_pos h'', nI_1, ← e1]
          exact ih n σ (by omega) (by omega)
        · rw [if_neg h'']; exact ⟨_, rfl⟩
/-- the reference's state while it checks: its row was V -/
def CS (σ0 : Sto) (V : Nat → Int32) (p q : Nat) (σ : Sto) : Prop := K9 σ0 σ ∧ (∀ j, j < 270 → σ.1 83 j = V j) ∧ ∀ j, j ≠ 8 → j ≠ 9 → j ≠ 10 → j ≠ 11 → j ≠ 16 + 9 * p + 4 → j ≠ 16 + 9 * q + 4 → σ.1 82 j = V j
theorem back9 {σ0 σ : Sto} {V : Nat → Int32} (h0 : σ0.1 82 = V) (hk : K9 σ0 σ) (h83 : ∀ j, j < 270 → σ.1 83 j = V j) (hV : ∀ j, 270 ≤ j → σ.1 82 j = V j) : ∃ τ, f_X9_copies σ 83 82 = some τ ∧ Fr σ0 τ := by
  obtain ⟨τ, t1, t2, t3⟩ := copies9 (a := 83) (b := 82) (by decide) (by decide) (by decide) σ
  refine ⟨τ, t1, fun k j hs => ?_⟩
  by_cases hk' : k = 82
  · subst hk'
    rw [t2 j, h0]
    by_cases h : j < 270
    · rw [if_pos h, h83 j h]
    · rw [if_neg h, hV j (by omega)]
  · rw [t3 k j hk', hk k j hk' hs]
theorem check9_L {V : Nat → Int32} (ok : ∀ i, okv i (V i) = true) (hc0 : CW V 0) (hc1 : CW V 1) {p q : Nat} (hp : p < 8) (hq : q < 8) (hu : ¬ S9 V p 2 = S9 V q 2) {σ0 : Sto} (h0 : σ0.1 82 = V) {c : Nat} (hc : c ≤ 20) : ∀ (d n : Nat) (v4 : Int32) (σ : Sto), d ≤ c → d < n → CS σ0 V p q σ →
    ∃ v τ, f_X9_check_L48 (nI p) (nI q) (nI c) n v4 (nI (c - d)) σ = some (v, τ) ∧ Fr σ0 τ := by
  have stop : ∀ (σ : Sto) (v4 : Int32), CS σ0 V p q σ → ∃ v τ, (f_X9_copies σ 83 82).bind (fun r109 => some (v4, r109)) = some (v, τ) ∧ Fr σ0 τ := by
    intro σ v4 h
    obtain ⟨τ, t1, t2⟩ := back9 h0 h.1 h.2.1 (fun j hj => h.2.2 j (by omega) (by omega) (by omega) (by omega) (by omega) (by omega))
    rw [t1, bind_s]
    exact ⟨_, τ, rfl, t2⟩
  intro d
  induction d with
  | zero =>
    intro n v4 σ _ h2 h
    obtain ⟨n, rfl⟩ : ∃ n', n = n' + 1 := ⟨n - 1, by omega⟩
    rw [f_X9_check_L48, if_pos (nI_le (by omega) (by omega))]
    exact stop σ v4 h
  | succ d ih =>
    intro n v4 σ h1 h2 h
    obtain ⟨n, rfl⟩ : ∃ n', n = n' + 1 := ⟨n - 1, by omega⟩
    have e1 : c - d = (c - (d + 1)) + 1 := by omega
    rw [f_X9_check_L48, if_neg (nI_ge (by omega) (by omega))]
    by_cases hz : v4 = 0
    · obtain ⟨k1, k2, k3⟩ := h
      have gr : ∀ r, r < 8 → GR (S9 (σ.1 82) r) := by
        intro r hr j hj
        by_cases h4 : j = 4
        · subst h4
          unfold oks
          rw [if_neg (by omega), if_neg (by omega), if_neg (by omega), if_neg (by omega)]
        · unfold S9
          rw [k3 _ (by omega) (by omega) (by omega) (by omega) (by omega) (by omega)]
          exact gr9 ok hr j hj
      have s2 : ∀ r, S9 (σ.1 82) r 2 = S9 V r 2 := fun r => k3 _ (by omega) (by omega) (by omega) (by omega) (by omega) (by omega)
      obtain ⟨τ, t1, t2, t3, t4⟩ := goesR (σ := σ) (hc0.vc (by omega) (fun i hi => k3 i (by omega) (by omega) (by omega) (by omega) (by omega) (by omega))) (hc1.vc (by omega) (fun i hi => k3 i (by omega) (by omega) (by omega) (by omega) (by omega) (by omega))) hp hq (gr p hp) (gr q hq) (by rw [s2, s2]; exact hu)
      have hτ : CS σ0 V p q τ := ⟨k1.tr t2, fun j hj => by rw [t3, k2 j hj], fun j a1 a2 a3 a4 a5 a6 => by rw [t4 j a1 a2 a3 a4 a5 a6, k3 j a1 a2 a3 a4 a5 a6]⟩
      rw [if_pos hz, t1, bind_s, rdA_82_8, bind_s, show (90 + nI (c - (d + 1)) : Int32) = nI (90 + (c - (d + 1))) from nI_add 90 _, rd_nI (by show 90 + (c - (d + 1)) < 270; omega), bind_s]
      unfold f_X9_check_L93
      rw [nI_1, ← e1]
      by_cases hx : τ.1 82 8 = τ.1 82 (90 + (c - (d + 1)))
      · rw [if_pos hx]; exact ih n _ τ (by omega) (by omega) hτ
      · rw [if_neg hx]; exact ih n _ τ (by omega) (by omega) hτ
    · rw [if_neg hz]
      exact stop σ v4 h
theorem cnt_n {V : Nat → Int32} (h : ∀ i, okv i (V i) = true) : ∃ c, c ≤ 20 ∧ V 15 = nI c := by
  have q := h 15
  unfold okv at q
  rw [if_neg (by decide), if_neg (by decide), if_neg (by decide), if_pos rfl] at q
  exact isO_nI (n := 20) rfl (not_t q)
theorem ok_15 : okv 15 0 = true := by decide
theorem s_check (a1 a2 : Int32) : LPr (fun σ => f_X8_check σ a1 a2) (fun σ => f_X9_check σ a1 a2) false Inv Inv := by
  intro σ hI
  obtain ⟨c, hc, ec⟩ := cnt_n hI.1.ok
  have hω := upd_mp hI (i := 15) (j := 14) (by decide) (by decide) ok_15
  generalize hω' : sI (sI σ 1 14 0) 82 15 0 = ω at hω
  generalize hρ : sI σ 1 14 0 = ρ at *
  have dρ : ρ.1 82 = σ.1 82 := by rw [← hρ]; funext j; rw [sI_ne (by decide)]
  have dω : ∀ j, j ≠ 15 → ω.1 82 j = σ.1 82 j := fun j hj => by rw [← hω', sI_nj hj, dρ]
  have oω : ∀ k j, k ≠ 82 → ω.1 k j = ρ.1 k j := fun k j hk => by rw [← hω', sI_ne hk]
  -- the reference's store, after the class's
  have fin9 : ∀ τ : Sto, Fr ρ τ → Fr ω (sI τ 82 15 0) := fun τ f k j hs => by
    by_cases hk : k = 82
    · subst hk
      rw [← hω', sI_at, sI_at, f.d]
    · rw [sI_ne hk, oω k j hk, f k j hs]
  rcases unl_c hω.1 a1 a2 with ⟨hn, ⟨r5, r15, e1, e2, e3⟩, e4⟩ | ⟨p, q, hp, hq, hpN, hqN, rfl, rfl, hu, hn, e1, e2, e3, e4⟩
  · have s1 : f_X8_check σ a1 a2 = some (-1000000000 - nI 1, rf ρ 1) := by
      unfold f_X8_check
      have e3' : f_X8_areUnlike ρ r5 r15 = some false := by
        rw [← e3]
        cases r5 with
        | none => rfl
        | some k =>
          cases r15 with
          | none => rfl
          | some k' =>
            have sw : ∀ a k, f_X0_swimmerAt ω 1 a = some (some k) → ω.1 k 2 = ρ.1 k 2 := by
              intro a k q1
              rcases sA8 hω.1 a with ⟨-, e⟩ | ⟨p, hp, -, -, -, e⟩
              · rw [e] at q1; cases q1
              · rw [e] at q1
                cases q1
                exact oω _ _ (by omega)
            unfold f_X8_areUnlike
            rw [onN_1, onN_1, onN_1, onN_1, sw a1 k e1, sw a2 k' e2]
      rw [lp_b, hρ, sA_eq (oω 1 8 (by decide)).symm, e1, bind_s, sA_eq (oω 1 8 (by decide)).symm, e2, bind_s, e3', bind_s, if_neg (by decide), r8_1, bind_s]
    have e4' : f_X9_areUnlike (sI (rf ρ 1) 82 15 0) a1 a2 = some false := by
      rw [← e4]
      have o : ∀ a b, f_X9_of (sI (rf ρ 1) 82 15 0) a b = f_X9_of ω a b := by
        intro a b
        have e : (sI (rf ρ 1) 82 15 0).1 82 = ω.1 82 := by rw [← hω']; funext j; rw [sI_at, sI_at, rf_at (by decide)]
        unfold f_X9_of rdA
        rw [e]
      have e : (sI (rf ρ 1) 82 15 0).1 82 = ω.1 82 := by rw [← hω']; funext j; rw [sI_at, sI_at, rf_at (by decide)]
      unfold f_X9_areUnlike
      rw [isS_eq, isS_eq, isS_eq, isS_eq, e, o, o]
    refine ⟨_, (-1000000000 - nI 1, fi (sI (rf ρ 1) 82 15 0) 1), s1, ?_, (fun h => (by cases h)), ?_⟩
    · show f_X9_check (rf ρ 1) a1 a2 = _
      unfold f_X9_check
      rw [rdA_82_15, bind_s, wrA_82_15, bind_s, e4', bind_s, if_neg (by decide), r9_1, bind_s]
    · refine (inv_err hω (Fr.rf ω) (Fr.rf (rf ω 1))).fr (fun k j hs => ?_)
      have x : ∀ (χ : Sto), (fi χ 1).1 k j = if k = 85 ∧ j = 1 then χ.1 85 1 + 1 else χ.1 k j := fun χ => rfl
      have y : ∀ (χ : Sto) k j, (rf χ 1).1 k j = if k = 68 ∧ j = 1 then χ.1 68 1 + 1 else χ.1 k j := fun χ k j => rfl
      rw [x, x, ← hω']
      by_cases h85 : k = 85 ∧ j = 1
      · rw [if_pos h85, if_pos h85, sI_ne (by decide), y, y, sI_ne (by decide), sI_ne (by decide)]
      · rw [if_neg h85, if_neg h85, y]
        by_cases h68 : k = 68 ∧ j = 1
        · rw [if_pos h68, sI_ne (by omega), y, if_pos h68, sI_ne (by decide)]
        · rw [if_neg h68]
          by_cases hk : k = 82
          · subst hk; rw [sI_at, sI_at, y, if_neg h68]
          · rw [sI_ne hk, y, if_neg h68, sI_ne hk]
  · have hv : Vc (ρ.1 82) (ω.1 82) := ⟨fun i hi => by rw [dρ, dω i (by omega)], fun i hi => by rw [dρ, dω i (by omega)]⟩
    have icρ : Ic ρ := hI.1.ic.keep (fun k j hk => by rw [← hρ, sI_ne (by omega)])
    have e3' : f_X8_areUnlike ρ (some (12 + 2 * p)) (some (12 + 2 * q)) = some true := by
      rw [← e3]
      unfold f_X8_areUnlike
      rw [onN_1, onN_1, onN_1, onN_1, oω _ _ (by omega), oω _ _ (by omega)]
    have S : ∀ r, r < 8 → S8 ρ (12 + 2 * r) = S8 ω (12 + 2 * r) := fun r hr => S8_congr (fun j => (oω _ j (by omega)).symm) (fun j => (oω _ j (by omega)).symm)
    obtain ⟨τ, υ, t1, t2, t3, t4⟩ := meetW icρ (V := ρ.1 82) (w := ρ.1 1 1) (s := ρ.1 1 2) rfl (K12 p hp) (K12 q hq) (by omega) (by omega) (by rw [S p hp]; exact sw_Eq9 hω.1 hpN) (by rw [S q hq]; exact sw_Eq9 hω.1 hqN) (gr9 hω.1.ok hp) (gr9 hω.1.ok hq) rfl
    have f8 : Fr ρ υ := fr_m t3
    obtain ⟨v, hv8⟩ : ∃ v, f_X8_check σ (nI p) (nI q) = some (v, υ) := by
      unfold f_X8_check f_X8_check_L108
      rw [lp_b, hρ, sA_eq (oω 1 8 (by decide)).symm, e1, bind_s, sA_eq (oω 1 8 (by decide)).symm, e2, bind_s, e3', bind_s, if_pos rfl, t1, bind_s, deref6 (K12 p hp), deref6 (K12 q hq), t2, bind_s]
      cases (met (S9 (ω.1 82) p) (S9 (ω.1 82) q) (flV (ρ.1 82) (ρ.1 1 1)) (ρ.1 1 2)).isSome with
      | true => rw [if_pos rfl]; exact check8_L _ _ 20 FU υ (by omega) (by unfold FU; omega)
      | false => rw [if_neg (show ¬ (false, υ).1 = true from Bool.false_ne_true)]; exact check8_L _ _ 20 FU υ (by omega) (by unfold FU; omega)
    have fX := fin9 υ f8
    have dX : (sI υ 82 15 0).1 82 = ω.1 82 := fX.d
    have e4' : f_X9_areUnlike (sI υ 82 15 0) (nI p) (nI q) = some true := by
      rw [← e4]
      have o : ∀ a b, f_X9_of (sI υ 82 15 0) a b = f_X9_of ω a b := by
        intro a b
        unfold f_X9_of rdA
        rw [dX]
      unfold f_X9_areUnlike
      rw [isS_eq, isS_eq, isS_eq, isS_eq, dX, o, o]
    obtain ⟨χ, c1, c2, c3⟩ := copies9 (a := 82) (b := 83) (by decide) (by decide) (by decide) (sI υ 82 15 0)
    have hCS : CS ω (ω.1 82) p q χ := ⟨fun k j hk hs => by
        rw [c3 k j (by rintro rfl; simp [scr] at hs)]
        exact fX k j hs, fun j hj => by rw [c2 j, if_pos hj, dX], fun j _ _ _ _ _ _ => by rw [c3 82 j (by decide), dX]⟩
    have e15 : υ.1 82 15 = nI c := by rw [f8 82 15 (by decide), dρ, ec]
    obtain ⟨w, τ', z1, z2⟩ := check9_L hω.1.ok hω.1.cd.1.cw hω.1.cd.2.cw hp hq hu rfl hc c FU 0 χ (by omega) (by unfold FU; omega) hCS
    refine ⟨_, (w, τ'), hv8, ?_, fun h => (by cases h), hω.fr z2⟩
    show f_X9_check υ (nI p) (nI q) = _
    unfold f_X9_check
    rw [rdA_82_15, bind_s, wrA_82_15, bind_s, e4', bind_s, if_pos rfl, c1, bind_s, e15]
    rw [Nat.sub_self] at z1
    exact z1
/-! Plans of one lane, and of any: hold, diary. -/
def PL (A f : Nat → Int32) : Nat → Int32 := fun j => if 5 ≤ j ∧ j < 9 then f (j - 5) else A j
def l4 (a b c d : Int32) : Nat → Int32 := fun i => if i = 0 then a else if i = 1 then b else if i = 2 then c else d
theorem l4_c (v : Int32) (i : Nat) : l4 v v v v i = v := by
  unfold l4
  rw [ite_self, ite_self, ite_self]
theorem Eq9.pl2 {A B f : Nat → Int32} (h : Eq9 A B) : Eq9 (PL A f) (PL B f) := fun j hj => by
  unfold PL
  rw [h j hj]
theorem PL_ln {A f : Nat → Int32} {t : Nat} : pLn (PL A f) t = f (min 3 (t / 10)) := by
  unfold pLn PL
  rw [if_pos (by omega), show 5 + min 3 (t / 10) - 5 = min 3 (t / 10) by omega]
theorem PL_lo {A f : Nat → Int32} {j : Nat} (hj : j < 5) : PL A f j = A j := by
  unfold PL
  rw [if_neg (by omega)]
theorem GR.pl2 {A f : Nat → Int32} (h : GR A) (hf : ∀ i, i < 4 → ∃ l, l < 6 ∧ f i = nI l) : GR (PL A f) := fun j hj => by
  unfold PL
  by_cases h5 : 5 ≤ j ∧ j < 9
  · rw [if_pos h5]
    obtain ⟨l, hl, e⟩ := hf (j - 5) (by omega)
    unfold oks
    rw [if_neg (by omega), if_neg (by omega), if_neg (by omega), if_pos (by omega), e, show isO (nI l) 0 5 = false from isO_lit (n := 5) (by omega) (by omega)]
    rfl
  · rw [if_neg h5]; exact h j hj
/-- in unlike lanes nobody meets -/
theorem no_meet {A B : Nat → Int32} {a b : Int32} (h : ¬ a = b) (fl : Int32 → Int32) (s : Int32) : met (PL A (fun _ => a)) (PL B (fun _ => b)) fl s = none := by
  have hd : ∀ d, mtD (PL A (fun _ => a)) (PL B (fun _ => b)) fl s d = none := by
    intro d
    induction d with
    | zero => rfl
    | succ d ih =>
      rw [mtD, ih, if_neg]
      unfold mtT
      rw [PL_ln, PL_ln, decide_eq_false h, Bool.false_and]
      decide
  exact hd 60
theorem keepTo_L {t : Nat} (ht : t = 69 ∨ t = 71) (l : Int32) : ∀ (d n : Nat) (σ : Sto), d ≤ 4 → d < n → ∃ τ, f_X6_keepTo_L2 t l n (nI (4 - d)) σ = some τ ∧ (∀ j, τ.1 (t + 1) j = if 4 - d ≤ j ∧ j < 4 then l else σ.1 (t + 1) j) ∧ ∀ a b, a ≠ t + 1 → τ.1 a b = σ.1 a b := by
  have t1 : A0 t 5 = t + 1 ∧ Ln0 (t + 1) = 4 := by rcases ht with rfl | rfl <;> decide
  intro d
  induction d with
  | zero =>
    intro n σ _ h2
    obtain ⟨n, rfl⟩ : ∃ n', n = n' + 1 := ⟨n - 1, by omega⟩
    rw [f_X6_keepTo_L2, if_pos (by decide)]
    exact ⟨σ, rfl, fun j => by rw [if_neg (by omega)], fun _ _ _ => rfl⟩
  | succ d ih =>
    intro n σ h1 h2
    obtain ⟨n, rfl⟩ : ∃ n', n = n' + 1 := ⟨n - 1, by omega⟩
    have e1 : 4 - d = (4 - (d + 1)) + 1 := by omega
    rw [f_X6_keepTo_L2, if_neg (show ¬ (4 : Int32) ≤ nI (4 - (d + 1)) from nI_ge (b := 4) (by omega) (by omega)), t1.1, wr_nI (by rw [t1.2]; omega), bind_s, nI_1, ← e1]
    obtain ⟨τ, u1, u2, u3⟩ := ih n (sI σ (t + 1) (4 - (d + 1)) l) (by omega) (by omega)
    refine ⟨τ, u1, fun j => ?_, fun a b h => by rw [u3 a b h, sI_ne h]⟩
    rw [u2 j, sI_at]
    by_cases h : 4 - d ≤ j ∧ j < 4
    · rw [if_pos h, if_pos (by omega)]
    · rw [if_neg h]
      by_cases h' : j = 4 - (d + 1)
      · rw [if_pos h', if_pos (by omega)]
      · rw [if_neg h', if_neg (by omega)]
theorem keepTo8 (σ : Sto) {t : Nat} (ht : t = 69 ∨ t = 71) (l : Int32) : ∃ τ, f_X6_keepTo σ t l = some τ ∧ Eq9 (S8 τ t) (PL (S8 σ t) (fun _ => l)) ∧ ∀ a b, a ≠ t + 1 → τ.1 a b = σ.1 a b := by
  obtain ⟨τ, t1, t2, t3⟩ := keepTo_L ht l 4 FU σ (by omega) (by unfold FU; omega)
  refine ⟨τ, t1, fun j hj => ?_, t3⟩
  unfold PL
  show S8 τ t j = if 5 ≤ j ∧ j < 9 then l else S8 σ t j
  unfold S8
  by_cases h : j < 5
  · rw [if_pos h, if_pos h, if_neg (by omega), t3 _ _ (by omega)]
  · rw [if_neg h, if_neg h, if_pos (by omega), t2, if_pos (by omega)]
/-- what the class's two stand-ins see -/
def sc5 (σ τ : Sto) : Prop := ∀ a b, a ≠ 58 → a ≠ 69 → a ≠ 70 → a ≠ 71 → a ≠ 72 → τ.1 a b = σ.1 a b
theorem sc5.fr {σ τ : Sto} (h : sc5 σ τ) : Fr σ τ := fun k j hs => h k j (by rintro rfl; simp [scr] at hs) (by rintro rfl; simp [scr] at hs) (by rintro rfl; simp [scr] at hs) (by rintro rfl; simp [scr] at hs) (by rintro rfl; simp [scr] at hs)
theorem sc5.tr {σ τ υ : Sto} (h : sc5 σ τ) (h' : sc5 τ υ) : sc5 σ υ := fun a b h1 h2 h3 h4 h5 => (h' a b h1 h2 h3 h4 h5).trans (h a b h1 h2 h3 h4 h5)
/-- where the class stands while it asks about plans -/
def HD (σ : Sto) (A B : Nat → Int32) (fl : Int32 → Int32) (s : Int32) (p q : Nat) : Prop := Fl σ fl ∧ Eq9 (S8 σ (12 + 2 * p)) A ∧ Eq9 (S8 σ (12 + 2 * q)) B ∧ σ.1 1 2 = s
theorem HD.sc {σ τ : Sto} {A B : Nat → Int32} {fl : Int32 → Int32} {s : Int32} {p q : Nat} (h : HD σ A B fl s p q) (hp : p < 8) (hq : q < 8) (f : sc5 σ τ) : HD τ A B fl s p q := by
  obtain ⟨h1, h2, h3, h4⟩ := h
  exact ⟨fun x hx => by rw [f 59 x (by decide) (by decide) (by decide) (by decide) (by decide)]; exact h1 x hx, by rw [S8_congr (fun j => f _ j (by omega) (by omega) (by omega) (by omega) (by omega)) (fun j => f _ j (by omega) (by omega) (by omega) (by omega) (by omega))]; exact h2, by rw [S8_congr (fun j => f _ j (by omega) (by omega) (by omega) (by omega) (by omega)) (fun j => f _ j (by omega) (by omega) (by omega) (by omega) (by omega))]; exact h3, by rw [f 1 2 (by decide) (by decide) (by decide) (by decide) (by decide)]; exact h4⟩
def mL (A B : Nat → Int32) (fl : Int32 → Int32) (s : Int32) (i : Nat) : Option Nat := met (PL A (fun _ => nI i)) (PL B (fun _ => nI i)) fl s
def mP (A B : Nat → Int32) (fl : Int32 → Int32) (i u : Nat) : Int32 := metP (PL A (fun _ => nI i)) (PL B (fun _ => nI i)) fl u
theorem inLane8 {σ : Sto} {A B : Nat → Int32} {fl : Int32 → Int32} {s : Int32} {p q : Nat} (hp : p < 8) (hq : q < 8) (gA : GR A) (gB : GR B) (h : HD σ A B fl s p q) {i : Nat} (hi : i < 6) :
    ∃ τ, f_X8_meetInLane σ (nI i) (12 + 2 * p) (12 + 2 * q) = some ((mL A B fl s i).isSome, τ) ∧ sc5 σ τ ∧ ∀ u, mL A B fl s i = some u → τ.1 58 1 = nI u ∧ τ.1 58 2 = mP A B fl i u := by
  obtain ⟨h1, h2, h3, h4⟩ := h
  obtain ⟨a, a1, a2, a3⟩ := copy6 σ (t := 69) (Or.inl rfl) (K12 p hp) (by omega)
  obtain ⟨b, b1, b2, b3⟩ := keepTo8 a (t := 69) (Or.inl rfl) (nI i)
  obtain ⟨c, c1, c2, c3⟩ := copy6 b (t := 71) (Or.inr rfl) (K12 q hq) (by omega)
  obtain ⟨d, d1, d2, d3⟩ := keepTo8 c (t := 71) (Or.inr rfl) (nI i)
  have ob : ∀ x y, x ≠ 69 → x ≠ 70 → b.1 x y = σ.1 x y := fun x y h h' => by rw [b3 x y h', a3 x y h h']
  have od : ∀ x y, x ≠ 71 → x ≠ 72 → d.1 x y = b.1 x y := fun x y h h' => by rw [d3 x y h', c3 x y h h']
  have eA : Eq9 (S8 d 69) (PL A (fun _ => nI i)) := by
    rw [S8_congr (fun j => od 69 j (by decide) (by decide)) (fun j => od 70 j (by decide) (by decide))]
    exact b2.tr ((a2.tr h2).pl2)
  have eB : Eq9 (S8 d 71) (PL B (fun _ => nI i)) := by
    refine d2.tr ((c2.tr ?_).pl2)
    rw [S8_congr (fun j => ob _ j (by omega) (by omega)) (fun j => ob _ j (by omega) (by omega))]
    exact h3
  obtain ⟨e, e1, e2, e3⟩ := meets8 (k1 := 69) (k2 := 71) (by decide) (by decide) (gA.pl2 (fun _ _ => ⟨i, hi, rfl⟩)) (gB.pl2 (fun _ _ => ⟨i, hi, rfl⟩)) eA eB (fl := fl) (fun x hx => by rw [od 59 x (by decide) (by decide), ob 59 x (by decide) (by decide)]; exact h1 x hx) s
  refine ⟨e, ?_, fun x y n1 n2 n3 n4 n5 => by rw [e2 x y n1, od x y n4 n5, ob x y n2 n3], fun u hu => by obtain ⟨v1, v2, -⟩ := e3 u hu; exact ⟨v1, v2⟩⟩
  unfold f_X8_meetInLane
  rw [a1, bind_s, b1, bind_s, c1, bind_s, d1, bind_s, show d.1 1 2 = s by rw [od 1 2 (by decide) (by decide), ob 1 2 (by decide) (by decide)]; exact h4, e1, bind_s]
  rfl
theorem plans9 {σ : Sto} {p : Nat} (hp : p < 8) (a b c d : Int32) : ∃ τ, f_X9_plans σ (nI p) a b c d = some τ ∧ (∀ j, τ.1 82 j = if 16 + 9 * p + 5 ≤ j ∧ j < 16 + 9 * p + 9 then l4 a b c d (j - (16 + 9 * p + 5)) else σ.1 82 j) ∧ ∀ k j, k ≠ 82 → τ.1 k j = σ.1 k j := by
  unfold f_X9_plans
  rw [show f_X9_becomes σ (nI p) 5 a = _ from bec_eq hp (j := 5) (by omega) _, bind_s]
  generalize hα : sI σ 82 (16 + 9 * p + 5) a = α
  rw [show f_X9_becomes α (nI p) 6 b = _ from bec_eq hp (j := 6) (by omega) _, bind_s]
  generalize hβ : sI α 82 (16 + 9 * p + 6) b = β
  rw [show f_X9_becomes β (nI p) 7 c = _ from bec_eq hp (j := 7) (by omega) _, bind_s]
  generalize hγ : sI β 82 (16 + 9 * p + 7) c = γ
  rw [show f_X9_becomes γ (nI p) 8 d = _ from bec_eq hp (j := 8) (by omega) _, bind_s]
  refine ⟨_, rfl, fun j => ?_, fun k j hk => by rw [sI_ne hk, ← hγ, sI_ne hk, ← hβ, sI_ne hk, ← hα, sI_ne hk]⟩
  rw [sI_at, ← hγ, sI_at, ← hβ, sI_at, ← hα, sI_at]
  unfold l4
  by_cases h : 16 + 9 * p + 5 ≤ j ∧ j < 16 + 9 * p + 9
  · rw [if_pos h]
    rcases (show j = 16 + 9 * p + 5 ∨ j = 16 + 9 * p + 6 ∨ j = 16 + 9 * p + 7 ∨ j = 16 + 9 * p + 8 by omega) with rfl | rfl | rfl | rfl
    · rw [if_neg (by omega), if_neg (by omega), if_neg (by omega), if_pos rfl, if_pos (by omega)]
    · rw [if_neg (by omega), if_neg (by omega), if_pos rfl, if_neg (by omega), if_pos (by omega)]
    · rw [if_neg (by omega), if_pos rfl, if_neg (by omega), if_neg (by omega), if_pos (by omega)]
    · rw [if_pos rfl, if_neg (by omega), if_neg (by omega), if_neg (by omega)]
  · rw [if_neg h, if_neg (by omega), if_neg (by omega), if_neg (by omega), if_neg (by omega)]
/-- where the reference stands while it asks about plans: its row was V -/
def HS (σ0 : Sto) (V : Nat → Int32) (p q : Nat) (σ : Sto) : Prop := K9 σ0 σ ∧ (∀ j, j < 270 → σ.1 83 j = V j) ∧ ∀ j, ¬ (16 + 9 * p + 5 ≤ j ∧ j < 16 + 9 * p + 9) → ¬ (16 + 9 * q + 5 ≤ j ∧ j < 16 + 9 * q + 9) → σ.1 82 j = V j
theorem HS.back {σ0 σ : Sto} {V : Nat → Int32} {p q : Nat} (hp : p < 8) (hq : q < 8) (h : HS σ0 V p q σ) (h0 : σ0.1 82 = V) : ∃ τ, f_X9_copies σ 83 82 = some τ ∧ Fr σ0 τ := back9 h0 h.1 h.2.1 (fun j hj => h.2.2 j (by omega) (by omega))
theorem HS.st {σ : Sto} (p q : Nat) : ∃ τ, f_X9_copies σ 82 83 = some τ ∧ HS σ (σ.1 82) p q τ ∧ τ.1 82 = σ.1 82 := by
  obtain ⟨τ, t1, t2, t3⟩ := copies9 (a := 82) (b := 83) (by decide) (by decide) (by decide) σ
  exact ⟨τ, t1, ⟨fun k j hk hs => t3 k j (by rintro rfl; simp [scr] at hs), fun j hj => by rw [t2 j, if_pos hj], fun j _ _ => t3 82 j (by decide)⟩, funext fun j => t3 82 j (by decide)⟩
/-- both plans are set, and they swim -/
theorem two9 {σ0 σ : Sto} {V : Nat → Int32} (ok : ∀ i, okv i (V i) = true) (hc : CW V 0) {p q : Nat} (hp : p < 8) (hq : q < 8) (hu : ¬ S9 V p 2 = S9 V q 2) (h : HS σ0 V p q σ) {a b : Nat} (ha : a < 6) (hb : b < 6) :
    ∃ α β τ, f_X9_plans σ (nI p) (nI a) (nI a) (nI a) (nI a) = some α ∧ f_X9_plans α (nI q) (nI b) (nI b) (nI b) (nI b) = some β ∧ f_X9_swim β (nI p) (nI q) = some ((met (PL (S9 V p) (fun _ => nI a)) (PL (S9 V q) (fun _ => nI b)) (flV V (V 6)) (V 7)).isSome, τ) ∧ HS σ0 V p q τ ∧ ∀ u, met (PL (S9 V p) (fun _ => nI a)) (PL (S9 V q) (fun _ => nI b)) (flV V (V 6)) (V 7) = some u → τ.1 81 15 = nI u ∧ τ.1 81 16 = metP (PL (S9 V p) (fun _ => nI a)) (PL (S9 V q) (fun _ => nI b)) (flV V (V 6)) u := by
  have hpq : q ≠ p := by rintro rfl; exact hu rfl
  obtain ⟨h1, h2, h3⟩ := h
  obtain ⟨α, a1, a2, a3⟩ := plans9 (σ := σ) hp (nI a) (nI a) (nI a) (nI a)
  obtain ⟨β, b1, b2, b3⟩ := plans9 (σ := α) hq (nI b) (nI b) (nI b) (nI b)
  have lo : ∀ j, ¬ (16 + 9 * p + 5 ≤ j ∧ j < 16 + 9 * p + 9) → ¬ (16 + 9 * q + 5 ≤ j ∧ j < 16 + 9 * q + 9) → β.1 82 j = V j := fun j n1 n2 => by rw [b2, if_neg n2, a2, if_neg n1, h3 j n1 n2]
  have eA : Eq9 (S9 (β.1 82) p) (PL (S9 V p) (fun _ => nI a)) := by
    intro j hj
    unfold PL
    show β.1 82 (16 + 9 * p + j) = _
    by_cases h5 : 5 ≤ j ∧ j < 9
    · rw [if_pos h5, b2, if_neg (by omega), a2, if_pos (by omega), l4_c]
    · rw [if_neg h5, lo _ (by omega) (by omega)]; rfl
  have eB : Eq9 (S9 (β.1 82) q) (PL (S9 V q) (fun _ => nI b)) := by
    intro j hj
    unfold PL
    show β.1 82 (16 + 9 * q + j) = _
    by_cases h5 : 5 ≤ j ∧ j < 9
    · rw [if_pos h5, b2, if_pos (by omega), l4_c]
    · rw [if_neg h5, lo _ (by omega) (by omega)]; rfl
  obtain ⟨τ, t1, t2, t3⟩ := swimW (σ := β) (V := V) (w := V 6) (s := V 7) rfl ⟨fun x hx => lo x (by omega) (by omega), fun x hx => lo x (by omega) (by omega)⟩ hc (lo 6 (by omega) (by omega)) (lo 7 (by omega) (by omega)) hp hq eA eB ((gr9 ok hp).pl2 (fun _ _ => ⟨a, ha, rfl⟩)) ((gr9 ok hq).pl2 (fun _ _ => ⟨b, hb, rfl⟩)) (by rw [PL_lo (by omega), PL_lo (by omega)]; exact hu)
  have kβ : K9 σ0 β := fun k j hk hs => by rw [b3 k j hk, a3 k j hk, h1 k j hk hs]
  exact ⟨α, β, τ, a1, b1, t1, ⟨kβ.tr t2.fr.k9, fun j hj => by rw [t2 83 j (by decide) (by decide) (by omega), b3 83 j (by decide), a3 83 j (by decide), h2 j hj], fun j n1 n2 => by rw [t2.d, lo j n1 n2]⟩, t3⟩
theorem nI_ne6 {a b : Nat} (ha : a < 6) (hb : b < 6) (h : a ≠ b) : ¬ nI a = nI b := fun z => h ((nI_eq (by omega) (by omega)).mp z)
-- hold
def worst (A B : Nat → Int32) (fl : Int32 → Int32) (s v8 : Int32) (i : Nat) : Int32 := match mL A B fl s i with
  | none => v8
  | some u => if bt (A 2) v8 (mP A B fl i u) = true then mP A B fl i u else v8
theorem bt_asym {s a b : Int32} (h : bt s a b = true) : bt s b a = false := by
  unfold bt at h ⊢
  by_cases hs : s = 0
  · rw [if_pos hs] at h ⊢
    have h' : ¬ a ≤ b := of_decide_eq_false (by cases q : decide (a ≤ b) <;> simp [q] at h ⊢)
    rw [decide_eq_true (Int32.le_of_lt (Int32.not_le.mp h'))]
    rfl
  · rw [if_neg hs] at h ⊢
    have h' : ¬ b ≤ a := of_decide_eq_false (by cases q : decide (b ≤ a) <;> simp [q] at h ⊢)
    rw [decide_eq_true (Int32.le_of_lt (Int32.not_le.mp h'))]
    rfl
theorem bt_conn {s a b : Int32} (h : bt s a b = false) (h' : bt s b a = false) : a = b := by
  unfold bt at h h'
  by_cases hs : s = 0
  · rw [if_pos hs] at h h'
    have q : a ≤ b := of_decide_eq_true (by cases q : decide (a ≤ b) <;> simp [q] at h ⊢)
    have q' : b ≤ a := of_decide_eq_true (by cases q : decide (b ≤ a) <;> simp [q] at h' ⊢)
    exact Int32.le_antisymm q q'
  · rw [if_neg hs] at h h'
    have q : b ≤ a := of_decide_eq_true (by cases q : decide (b ≤ a) <;> simp [q] at h ⊢)
    have q' : a ≤ b := of_decide_eq_true (by cases q : decide (a ≤ b) <;> simp [q] at h' ⊢)
    exact Int32.le_antisymm q' q
theorem bt_rf (s a : Int32) : bt s a a = false := by
  unfold bt
  by_cases hs : s = 0
  · rw [if_pos hs, decide_eq_true (Int32.le_refl a)]; rfl
  · rw [if_neg hs, decide_eq_true (Int32.le_refl a)]; rfl
def holdS (A B : Nat → Int32) (fl : Int32 → Int32) (s v8 : Int32) : Nat → Int32 × Int32 → Int32 × Int32
  | 0, st => st
  | d + 1, st => holdS A B fl s v8 d (if bt (A 2) (worst A B fl s v8 (5 - d)) st.2 = true then (nI (5 - d), worst A B fl s v8 (5 - d)) else st)
theorem worst8 {σ : Sto} {A B : Nat → Int32} {fl : Int32 → Int32} {s v8 : Int32} {p q : Nat} (hp : p < 8) (hq : q < 8) (gA : GR A) (gB : GR B) (h : HD σ A B fl s p q) (h3 : σ.1 1 3 = v8) {i : Nat} (hi : i < 6) :
    ∃ τ, f_X8_worstPlaceIn σ (nI i) (12 + 2 * p) (12 + 2 * q) = some (worst A B fl s v8 i, τ) ∧ sc5 σ τ := by
  obtain ⟨τ, t1, t2, t3⟩ := inLane8 hp hq gA gB h hi
  refine ⟨τ, ?_, t2⟩
  unfold f_X8_worstPlaceIn worst
  rw [t1, bind_s, h3]
  cases hm : mL A B fl s i with
  | none => rw [if_neg (show ¬ (none : Option Nat).isSome = true by decide)]
  | some u =>
    obtain ⟨-, v2⟩ := t3 u hm
    rw [if_pos (show (some u).isSome = true from rfl), show τ.1 (12 + 2 * p) 2 = A 2 from ((h.sc hp hq t2).2.1 2 (by omega)), v2, bt8, bind_s]
    show _ = some ((if bt (A 2) v8 (mP A B fl i u) = true then mP A B fl i u else v8), τ)
    cases hb : bt (A 2) v8 (mP A B fl i u) with
    | true => rw [if_pos rfl, if_pos rfl]
    | false => rw [if_neg (by decide), if_neg (by decide)]
def holO (a3 : Int32) (x : Int32 × Int32) : Int32 ⊕ Nat := .inl (if a3 = 0 then x.1 else x.2)
theorem hold8_L {A B : Nat → Int32} {fl : Int32 → Int32} {s v8 a3 : Int32} {p q : Nat} (hp : p < 8) (hq : q < 8) (gA : GR A) (gB : GR B) : ∀ (d n : Nat) (v6 v7 : Int32) (σ : Sto), d ≤ 5 → d < n → HD σ A B fl s p q → σ.1 1 3 = v8 →
    ∃ τ, f_X8_hold_L80 a3 (12 + 2 * p) (12 + 2 * q) n v6 v7 (nI (6 - d)) σ = some ((if a3 = 0 then (holdS A B fl s v8 d (v6, v7)).1 else (holdS A B fl s v8 d (v6, v7)).2), τ) ∧ sc5 σ τ := by
  intro d
  induction d with
  | zero =>
    intro n v6 v7 σ _ h2 h h3
    obtain ⟨n, rfl⟩ : ∃ n', n = n' + 1 := ⟨n - 1, by omega⟩
    rw [f_X8_hold_L80, if_pos (by decide), holdS]
    by_cases ha : a3 = 0
    · rw [if_pos ha, if_pos ha]; exact ⟨σ, rfl, fun _ _ _ _ _ _ _ => rfl⟩
    · rw [if_neg ha, if_neg ha]; exact ⟨σ, rfl, fun _ _ _ _ _ _ _ => rfl⟩
  | succ d ih =>
    intro n v6 v7 σ h1 h2 h h3
    obtain ⟨n, rfl⟩ : ∃ n', n = n' + 1 := ⟨n - 1, by omega⟩
    have e1 : 6 - (d + 1) = 5 - d := by omega
    have e2 : 6 - d = (5 - d) + 1 := by omega
    obtain ⟨τ, t1, t2⟩ := worst8 hp hq gA gB h h3 (i := 5 - d) (by omega)
    have hτ := h.sc hp hq t2
    have h3τ : τ.1 1 3 = v8 := by rw [t2 1 3 (by decide) (by decide) (by decide) (by decide) (by decide)]; exact h3
    rw [e1, f_X8_hold_L80, if_neg (show ¬ (6 : Int32) ≤ nI (5 - d) from nI_ge (b := 6) (by omega) (by omega)), t1, bind_s, show τ.1 (12 + 2 * p) 2 = A 2 from hτ.2.1 2 (by omega), bt8, bind_s, holdS]
    unfold f_X8_hold_L122
    rw [nI_1, ← e2]
    cases hb : bt (A 2) (worst A B fl s v8 (5 - d)) v7 with
    | true =>
      simp only [hb, if_true]
      obtain ⟨υ, u1, u2⟩ := ih n (nI (5 - d)) (worst A B fl s v8 (5 - d)) τ (by omega) (by omega) hτ h3τ
      exact ⟨υ, u1, t2.tr u2⟩
    | false =>
      simp only [hb, Bool.false_eq_true, if_false]
      obtain ⟨υ, u1, u2⟩ := ih n v6 v7 τ (by omega) (by omega) hτ h3τ
      exact ⟨υ, u1, t2.tr u2⟩
def enE (E v8 : Int32) (i j : Nat) : Int32 := if i = j then E else v8
def wsR (sd E v8 : Int32) (i : Nat) : Nat → Int32 → Int32
  | 0, x => x
  | d + 1, x => wsR sd E v8 i d (if bt sd x (enE E v8 i (5 - d)) = true then enE E v8 i (5 - d) else x)
theorem wsR_eq {sd E v8 : Int32} {i : Nat} (hi : i < 6) : wsR sd E v8 i 5 (enE E v8 i 0) = if bt sd v8 E = true then E else v8 := by
  cases h1 : bt sd v8 E with
  | true =>
    have h2 := bt_asym h1
    rcases (show i = 0 ∨ i = 1 ∨ i = 2 ∨ i = 3 ∨ i = 4 ∨ i = 5 by omega) with rfl | rfl | rfl | rfl | rfl | rfl <;> simp [wsR, enE, h1, h2, bt_rf]
  | false =>
    cases h2 : bt sd E v8 with
    | true =>
      rcases (show i = 0 ∨ i = 1 ∨ i = 2 ∨ i = 3 ∨ i = 4 ∨ i = 5 by omega) with rfl | rfl | rfl | rfl | rfl | rfl <;> simp [wsR, enE, h1, h2, bt_rf]
    | false =>
      have := bt_conn h1 h2
      subst this
      rcases (show i = 0 ∨ i = 1 ∨ i = 2 ∨ i = 3 ∨ i = 4 ∨ i = 5 by omega) with rfl | rfl | rfl | rfl | rfl | rfl <;> simp [wsR, enE, bt_rf]
def endE (A B : Nat → Int32) (fl : Int32 → Int32) (s v8 : Int32) (i : Nat) : Int32 := match mL A B fl s i with
  | none => v8
  | some u => mP A B fl i u
theorem worst_E {A B : Nat → Int32} {fl : Int32 → Int32} {s v8 : Int32} {i : Nat} : worst A B fl s v8 i = if bt (A 2) v8 (endE A B fl s v8 i) = true then endE A B fl s v8 i else v8 := by
  unfold worst endE
  cases mL A B fl s i with
  | none => rw [bt_rf, if_neg (by decide)]
  | some u => rfl
theorem endOf9 {σ0 σ : Sto} {V : Nat → Int32} (ok : ∀ i, okv i (V i) = true) (hc : CW V 0) {p q : Nat} (hp : p < 8) (hq : q < 8) (hu : ¬ S9 V p 2 = S9 V q 2) (h : HS σ0 V p q σ) {a b : Nat} (ha : a < 6) (hb : b < 6) :
    ∃ τ, f_X9_endOf σ (nI p) (nI q) (nI a) (nI b) = some (enE (endE (S9 V p) (S9 V q) (flV V (V 6)) (V 7) (V 8) a) (V 8) a b, τ) ∧ HS σ0 V p q τ := by
  obtain ⟨α, β, τ, h1, h2, h3, h4, h5⟩ := two9 ok hc hp hq hu h ha hb
  refine ⟨τ, ?_, h4⟩
  unfold f_X9_endOf
  rw [h1, bind_s, h2, bind_s, h3, bind_s]
  have e8 : τ.1 82 8 = V 8 := h4.2.2 8 (by omega) (by omega)
  by_cases hab : a = b
  · subst hab
    unfold enE endE
    rw [if_pos rfl]
    have em : met (PL (S9 V p) (fun _ => nI a)) (PL (S9 V q) (fun _ => nI a)) (flV V (V 6)) (V 7) = mL (S9 V p) (S9 V q) (flV V (V 6)) (V 7) a := rfl
    rw [em] at h5 ⊢
    cases hm : mL (S9 V p) (S9 V q) (flV V (V 6)) (V 7) a with
    | none => rw [if_neg (show ¬ (none : Option Nat).isSome = true by decide), rdA_82_8, bind_s, e8]
    | some u =>
      obtain ⟨-, v2⟩ := h5 u hm
      rw [if_pos (show (some u).isSome = true from rfl), v2]
      rfl
  · unfold enE
    rw [no_meet (nI_ne6 ha hb hab), if_neg (show ¬ (none : Option Nat).isSome = true by decide), rdA_82_8, bind_s, e8, if_neg hab]
theorem hold9_in {σ0 : Sto} {V : Nat → Int32} (ok : ∀ i, okv i (V i) = true) (hc : CW V 0) {p q : Nat} (hp : p < 8) (hq : q < 8) (hu : ¬ S9 V p 2 = S9 V q 2) (K : Int32 → Int32 → Int32 → Sto → Option (Int32 × Sto)) (a3 v5 v6 : Int32) {i : Nat} (hi : i < 6) : ∀ (d n : Nat) (x : Int32) (σ : Sto), d ≤ 5 → d < n → HS σ0 V p q σ →
    ∃ τ, HS σ0 V p q τ ∧ f_X9_hold_L74 K (nI p) (nI q) a3 (S9 V p 2) v5 v6 (nI i) n x (nI (6 - d)) σ = (if v5 < 0 ∨ bt (S9 V p 2) (wsR (S9 V p 2) (endE (S9 V p) (S9 V q) (flV V (V 6)) (V 7) (V 8) i) (V 8) i d x) v6 = true then K (nI i) (wsR (S9 V p 2) (endE (S9 V p) (S9 V q) (flV V (V 6)) (V 7) (V 8) i) (V 8) i d x) (nI (i + 1)) τ else K v5 v6 (nI (i + 1)) τ) := by
  intro d
  induction d with
  | zero =>
    intro n x σ _ h2 h
    obtain ⟨n, rfl⟩ : ∃ n', n = n' + 1 := ⟨n - 1, by omega⟩
    refine ⟨σ, h, ?_⟩
    rw [f_X9_hold_L74, if_pos (by decide), wsR]
    unfold f_X9_hold_L137 f_X9_hold_L145
    rw [nI_1]
    by_cases h5 : v5 < 0
    · rw [if_pos h5, if_pos (Or.inl h5)]
    · rw [if_neg h5, bt9, bind_s]
      cases hb : bt (S9 V p 2) x v6 with
      | true => rw [if_pos rfl, if_pos (Or.inr rfl)]
      | false => rw [if_neg (by decide), if_neg (fun z => z.elim h5 (by decide))]
  | succ d ih =>
    intro n x σ h1 h2 h
    obtain ⟨n, rfl⟩ : ∃ n', n = n' + 1 := ⟨n - 1, by omega⟩
    have e1 : 6 - (d + 1) = 5 - d := by omega
    have e2 : 6 - d = (5 - d) + 1 := by omega
    obtain ⟨τ, t1, t2⟩ := endOf9 ok hc hp hq hu h hi (b := 5 - d) (by omega)
    rw [e1, f_X9_hold_L74, if_neg (show ¬ (6 : Int32) ≤ nI (5 - d) from nI_ge (b := 6) (by omega) (by omega)), t1, bind_s, bt9, bind_s, wsR]
    unfold f_X9_hold_L112
    rw [nI_1, ← e2]
    cases hb : bt (S9 V p 2) x (enE (endE (S9 V p) (S9 V q) (flV V (V 6)) (V 7) (V 8) i) (V 8) i (5 - d)) with
    | true =>
      simp only [hb, if_true]
      exact ih n _ τ (by omega) (by omega) t2
    | false =>
      simp only [hb, Bool.false_eq_true, if_false]
      exact ih n _ τ (by omega) (by omega) t2
theorem hold9_step {σ0 σ : Sto} {V : Nat → Int32} (ok : ∀ i, okv i (V i) = true) (hc : CW V 0) {p q : Nat} (hp : p < 8) (hq : q < 8) (hu : ¬ S9 V p 2 = S9 V q 2) (h : HS σ0 V p q σ) (a3 v5 v6 : Int32) (n : Nat) {i : Nat} (hi : i < 6) :
    ∃ τ, HS σ0 V p q τ ∧ f_X9_hold_L53 (nI p) (nI q) a3 (S9 V p 2) (n + 1) v5 v6 (nI i) σ = (if v5 < 0 ∨ bt (S9 V p 2) (worst (S9 V p) (S9 V q) (flV V (V 6)) (V 7) (V 8) i) v6 = true then f_X9_hold_L53 (nI p) (nI q) a3 (S9 V p 2) n (nI i) (worst (S9 V p) (S9 V q) (flV V (V 6)) (V 7) (V 8) i) (nI (i + 1)) τ else f_X9_hold_L53 (nI p) (nI q) a3 (S9 V p 2) n v5 v6 (nI (i + 1)) τ) := by
  obtain ⟨α, a1, a2⟩ := endOf9 ok hc hp hq hu h hi (b := 0) (by omega)
  obtain ⟨τ, t1, t2⟩ := hold9_in ok hc hp hq hu (f_X9_hold_L53 (nI p) (nI q) a3 (S9 V p 2) n) a3 v5 v6 hi 5 FU _ α (by omega) (by unfold FU; omega) a2
  rw [wsR_eq hi, ← worst_E] at t2
  refine ⟨τ, t1, ?_⟩
  rw [f_X9_hold_L53, if_neg (show ¬ (6 : Int32) ≤ nI i from nI_ge (b := 6) hi (by omega)), show f_X9_endOf σ (nI p) (nI q) (nI i) 0 = _ from a1, bind_s]
  exact t2
theorem hold9_L {σ0 : Sto} {V : Nat → Int32} (h0 : σ0.1 82 = V) (ok : ∀ i, okv i (V i) = true) (hc : CW V 0) {p q : Nat} (hp : p < 8) (hq : q < 8) (hu : ¬ S9 V p 2 = S9 V q 2) (a3 : Int32) : ∀ (d n : Nat) (x : Nat) (v6 : Int32) (σ : Sto), d ≤ 5 → d < n → x < 6 → HS σ0 V p q σ →
    ∃ τ, f_X9_hold_L53 (nI p) (nI q) a3 (S9 V p 2) n (nI x) v6 (nI (6 - d)) σ = some ((if a3 = 0 then (holdS (S9 V p) (S9 V q) (flV V (V 6)) (V 7) (V 8) d (nI x, v6)).1 else (holdS (S9 V p) (S9 V q) (flV V (V 6)) (V 7) (V 8) d (nI x, v6)).2), τ) ∧ Fr σ0 τ := by
  intro d
  induction d with
  | zero =>
    intro n x v6 σ _ h2 hx h
    obtain ⟨n, rfl⟩ : ∃ n', n = n' + 1 := ⟨n - 1, by omega⟩
    obtain ⟨τ, t1, t2⟩ := h.back hp hq h0
    rw [f_X9_hold_L53, if_pos (by decide), t1, bind_s, holdS]
    by_cases ha : a3 = 0
    · rw [if_pos ha, if_pos ha]; exact ⟨τ, rfl, t2⟩
    · rw [if_neg ha, if_neg ha]; exact ⟨τ, rfl, t2⟩
  | succ d ih =>
    intro n x v6 σ h1 h2 hx h
    obtain ⟨n, rfl⟩ : ∃ n', n = n' + 1 := ⟨n - 1, by omega⟩
    have e1 : 6 - (d + 1) = 5 - d := by omega
    have e2 : 6 - d = (5 - d) + 1 := by omega
    obtain ⟨τ, t1, t2⟩ := hold9_step ok hc hp hq hu h a3 (nI x) v6 n (i := 5 - d) (by omega)
    rw [e1, t2, holdS, ← e2]
    cases hb : bt (S9 V p 2) (worst (S9 V p) (S9 V q) (flV V (V 6)) (V 7) (V 8) (5 - d)) v6 with
    | true =>
      simp only [hb, or_true, if_true]
      exact ih n (5 - d) _ τ (by omega) (by omega) (by omega) t1
    | false =>
      rw [if_neg (fun z => z.elim (nI_pos (by omega)) (by decide))]
      simp only [hb, Bool.false_eq_true, if_false]
      exact ih n x _ τ (by omega) (by omega) hx t1
theorem s_hold (a1 a2 a3 : Int32) (b : Bool) : LPr (fun σ => f_X8_hold σ a1 a2 a3) (fun σ => f_X9_hold σ a1 a2 a3) b Inv Inv := by
  refine pr_ro (fun σ => if unl (σ.1 82) a1 a2 = true then (if isO a3 0 1 = true then .inr 1 else .inl (if a3 = 0 then (holdS (S9 (σ.1 82) a1.toNatClampNeg) (S9 (σ.1 82) a2.toNatClampNeg) (flV (σ.1 82) (σ.1 82 6)) (σ.1 82 7) (σ.1 82 8) 5 (0, worst (S9 (σ.1 82) a1.toNatClampNeg) (S9 (σ.1 82) a2.toNatClampNeg) (flV (σ.1 82) (σ.1 82 6)) (σ.1 82 7) (σ.1 82 8) 0)).1 else (holdS (S9 (σ.1 82) a1.toNatClampNeg) (S9 (σ.1 82) a2.toNatClampNeg) (flV (σ.1 82) (σ.1 82 6)) (σ.1 82 7) (σ.1 82 8) 5 (0, worst (S9 (σ.1 82) a1.toNatClampNeg) (S9 (σ.1 82) a2.toNatClampNeg) (flV (σ.1 82) (σ.1 82 6)) (σ.1 82 7) (σ.1 82 8) 0)).2)) else .inr 1) (fun σ τ h => by show _ = _; rw [h.d]) (fun σ h => ?_) (fun σ h => ?_) b
  · show C8 (f_X8_hold σ a1 a2 a3) σ _
    unfold f_X8_hold
    rcases unl_c h a1 a2 with ⟨hn, ⟨r5, r15, e1, e2, e3⟩, -⟩ | ⟨p, q, hp, hq, hpN, hqN, rfl, rfl, hu, hn, e1, e2, e3, -⟩
    · simp only [hn, Bool.false_eq_true, if_false]
      exact ⟨σ, by rw [e1, bind_s, e2, bind_s, e3, bind_s, if_neg (by decide), r8_1, bind_s], Fr.rf σ⟩
    · simp only [hn, if_true]
      rw [e1, bind_s, e2, bind_s, e3, bind_s, if_pos rfl, out_eq, bind_s]
      cases h3 : isO a3 0 1 with
      | true => exact ⟨σ, by rw [if_pos rfl, r8_1, bind_s], Fr.rf σ⟩
      | false =>
        obtain ⟨τ, t1, t2, t3⟩ := feel_eq h.ic (σ.1 1 1)
        have hf : Fl τ (flV (σ.1 82) (σ.1 82 6)) := by rw [← h.mp (i := 6) (j := 1) (by decide)]; exact t2
        have hd : HD τ (S9 (σ.1 82) p) (S9 (σ.1 82) q) (flV (σ.1 82) (σ.1 82 6)) (σ.1 82 7) p q := ⟨hf, by rw [swm_fr t3 hp]; exact sw_Eq9 h hpN, by rw [swm_fr t3 hq]; exact sw_Eq9 h hqN, by rw [t3 1 2 (by decide) (by decide)]; exact h.mp (i := 7) (j := 2) (by decide)⟩
        have e8 : τ.1 1 3 = σ.1 82 8 := by rw [t3 1 3 (by decide) (by decide)]; exact h.mp (i := 8) (j := 3) (by decide)
        obtain ⟨υ, u1, u2⟩ := worst8 hp hq (gr9 h.ok hp) (gr9 h.ok hq) hd e8 (i := 0) (by omega)
        obtain ⟨χ, x1, x2⟩ := hold8_L (v8 := σ.1 82 8) (a3 := a3) hp hq (gr9 h.ok hp) (gr9 h.ok hq) 5 FU 0 (worst (S9 (σ.1 82) p) (S9 (σ.1 82) q) (flV (σ.1 82) (σ.1 82 6)) (σ.1 82 7) (σ.1 82 8) 0) υ (by omega) (by unfold FU; omega) (hd.sc hp hq u2) (by rw [u2 1 3 (by decide) (by decide) (by decide) (by decide) (by decide)]; exact e8)
        rw [if_neg (by decide), t1, bind_s, deref6 (K12 p hp), deref6 (K12 q hq), show f_X8_worstPlaceIn τ 0 _ _ = _ from u1, bind_s, nI_clamp (by omega), nI_clamp (by omega)]
        exact ⟨χ, x1, (feel_fr t3).tr (u2.fr.tr x2.fr)⟩
  · show C9 (f_X9_hold σ a1 a2 a3) σ _
    unfold f_X9_hold
    rcases unl_c h a1 a2 with ⟨hn, -, e3⟩ | ⟨p, q, hp, hq, hpN, hqN, rfl, rfl, hu, hn, -, -, -, e3⟩
    · simp only [hn, Bool.false_eq_true, if_false]
      exact ⟨σ, by rw [e3, bind_s, if_neg (by decide), r9_1, bind_s], Fr.rf σ⟩
    · simp only [hn, if_true]
      rw [e3, bind_s, if_pos rfl, in_0_1, bind_s]
      cases h3 : isO a3 0 1 with
      | true => exact ⟨σ, by rw [if_neg (by decide), r9_1, bind_s], Fr.rf σ⟩
      | false =>
        obtain ⟨α, a1', a2', a3'⟩ := HS.st (σ := σ) p q
        have o2 : f_X9_of α (nI p) 2 = some (S9 (σ.1 82) p 2) := by rw [← a3']; exact of_eq hp (j := 2) (by omega)
        obtain ⟨τ, t1, t2⟩ := hold9_step h.ok h.cd.1.cw hp hq hu a2' a3 (-1) 0 9999 (i := 0) (by omega)
        obtain ⟨υ, u1, u2⟩ := hold9_L rfl h.ok h.cd.1.cw hp hq hu a3 5 9999 0 (worst (S9 (σ.1 82) p) (S9 (σ.1 82) q) (flV (σ.1 82) (σ.1 82 6)) (σ.1 82 7) (σ.1 82 8) 0) τ (by omega) (by omega) (by omega) t1
        rw [if_pos (by decide), a1', bind_s, o2, bind_s, nI_clamp (by omega), nI_clamp (by omega)]
        refine ⟨υ, ?_, u2⟩
        rw [show f_X9_hold_L53 (nI p) (nI q) a3 (S9 (σ.1 82) p 2) FU (-1) 0 0 α = _ from t2, if_pos (Or.inl (by decide))]
        exact u1
-- diary
def dyS (hit : Nat → Bool) : Nat → Nat × Nat → Nat × Nat
  | 0, x => x
  | d + 1, x => dyS hit d (if hit (5 - d) = true then (x.1 + 1, if x.1 = 0 then 11 * (5 - d) else x.2) else x)
def dyR (hit : Nat → Bool) : Nat → Nat × Nat → Nat × Nat
  | 0, x => x
  | e + 1, x => dyR hit e (if ((35 - e) / 6 == (35 - e) % 6 && hit ((35 - e) / 6)) = true then (x.1 + 1, if x.1 = 0 then 10 * ((35 - e) / 6) + (35 - e) % 6 else x.2) else x)
theorem dy_eq (hit : Nat → Bool) : dyR hit 36 (0, 0) = dyS hit 6 (0, 0) := rfl
def hitL (A B : Nat → Int32) (fl : Int32 → Int32) (s a3 a4 : Int32) (i : Nat) : Bool := match mL A B fl s i with
  | none => false
  | some u => decide (nI u = a3) && decide (mP A B fl i u = a4)
def dyO (a5 : Int32) (x : Nat × Nat) : Int32 ⊕ Nat := if a5 = 0 then .inl (nI x.1) else if x.1 = 0 then .inr 2 else .inl (nI x.2)
theorem eleven : ∀ i, i < 6 → (10 * nI i + nI i : Int32) = nI (11 * i) := by decide
theorem nI_z {c : Nat} (hc : c < 2 ^ 31) : nI c = 0 ↔ c = 0 := nI_eq hc (by decide)
theorem diary8_L {A B : Nat → Int32} {fl : Int32 → Int32} {s a3 a4 a5 : Int32} {p q : Nat} (hp : p < 8) (hq : q < 8) (gA : GR A) (gB : GR B) : ∀ (d n : Nat) (x : Nat × Nat) (σ : Sto), d ≤ 6 → d < n → x.1 + d ≤ 6 → HD σ A B fl s p q →
    C8 (f_X8_diary_L95 a3 a4 a5 (some (12 + 2 * p)) (some (12 + 2 * q)) n (nI x.1) (nI x.2) (nI (6 - d)) σ) σ (dyO a5 (dyS (hitL A B fl s a3 a4) d x)) := by
  intro d
  induction d with
  | zero =>
    intro n x σ _ h2 hx _
    obtain ⟨n, rfl⟩ : ∃ n', n = n' + 1 := ⟨n - 1, by omega⟩
    rw [f_X8_diary_L95, if_pos (by decide), dyS]
    unfold dyO
    by_cases h5 : a5 = 0
    · rw [if_pos h5, if_pos h5]; exact ⟨σ, rfl, Fr.rf σ⟩
    · rw [if_neg h5, if_neg h5]
      by_cases hc : x.1 = 0
      · rw [if_pos hc, if_pos ((nI_z (by omega)).mpr hc), r8_2, bind_s]; exact ⟨σ, rfl, Fr.rf σ⟩
      · rw [if_neg hc, if_neg (fun z => hc ((nI_z (by omega)).mp z))]; exact ⟨σ, rfl, Fr.rf σ⟩
  | succ d ih =>
    intro n x σ h1 h2 hx h
    obtain ⟨n, rfl⟩ : ∃ n', n = n' + 1 := ⟨n - 1, by omega⟩
    have e1 : 6 - (d + 1) = 5 - d := by omega
    have e2 : 6 - d = (5 - d) + 1 := by omega
    obtain ⟨τ, t1, t2, t3⟩ := inLane8 hp hq gA gB h (i := 5 - d) (by omega)
    have f := t2.fr
    have hτ := h.sc hp hq t2
    rw [e1, f_X8_diary_L95, if_neg (show ¬ (6 : Int32) ≤ nI (5 - d) from nI_ge (b := 6) (by omega) (by omega)), deref6 (K12 p hp), deref6 (K12 q hq), t1, bind_s, dyS]
    unfold f_X8_diary_L156 f_X8_diary_L161
    rw [nI_1, nI_1, ← e2, eleven _ (by omega)]
    have hH : hitL A B fl s a3 a4 (5 - d) = (match mL A B fl s (5 - d) with
      | none => false
      | some u => decide (nI u = a3) && decide (mP A B fl (5 - d) u = a4)) := rfl
    have stay : hitL A B fl s a3 a4 (5 - d) = false → C8 (f_X8_diary_L95 a3 a4 a5 (some (12 + 2 * p)) (some (12 + 2 * q)) n (nI x.1) (nI x.2) (nI (6 - d)) τ) σ (dyO a5 (dyS (hitL A B fl s a3 a4) d (if hitL A B fl s a3 a4 (5 - d) = true then (x.1 + 1, if x.1 = 0 then 11 * (5 - d) else x.2) else x))) := by
      intro hF
      rw [hF, if_neg (by decide)]
      exact (ih n x τ (by omega) (by omega) (by omega) hτ).fr f
    cases hm : mL A B fl s (5 - d) with
    | none =>
      rw [hm] at hH
      rw [if_neg (show ¬ (none : Option Nat).isSome = true by decide)]
      exact stay hH
    | some u =>
      rw [hm] at hH
      obtain ⟨v1, v2⟩ := t3 u hm
      rw [if_pos (show (some u).isSome = true from rfl), v1, v2]
      by_cases q1 : nI u = a3
      · rw [if_pos q1]
        by_cases q2 : mP A B fl (5 - d) u = a4
        · have hT : hitL A B fl s a3 a4 (5 - d) = true := by rw [hH]; show (decide (nI u = a3) && decide (mP A B fl (5 - d) u = a4)) = true; rw [decide_eq_true q1, decide_eq_true q2]; rfl
          rw [if_pos q2, hT, if_pos rfl]
          have := (ih n (x.1 + 1, if x.1 = 0 then 11 * (5 - d) else x.2) τ (by omega) (by omega) (by show x.1 + 1 + d ≤ 6; omega) hτ).fr f
          by_cases hc : x.1 = 0
          · rw [if_pos ((nI_z (by omega)).mpr hc)]
            rw [if_pos hc] at this ⊢
            exact this
          · rw [if_neg (fun z => hc ((nI_z (by omega)).mp z))]
            rw [if_neg hc] at this ⊢
            exact this
        · rw [if_neg q2]
          exact stay (by rw [hH]; show (decide (nI u = a3) && decide (mP A B fl (5 - d) u = a4)) = false; rw [decide_eq_false q2, Bool.and_false])
      · rw [if_neg q1]
        exact stay (by rw [hH]; show (decide (nI u = a3) && decide (mP A B fl (5 - d) u = a4)) = false; rw [decide_eq_false q1, Bool.false_and])
theorem pair6 : ∀ e, e < 36 → (nI e / 6 : Int32) = nI (e / 6) ∧ irem (nI e) 6 = nI (e % 6) ∧ (10 * nI (e / 6) + nI (e % 6) : Int32) = nI (10 * (e / 6) + e % 6) := by decide +kernel
theorem diary9_L {σ0 : Sto} {V : Nat → Int32} (h0 : σ0.1 82 = V) (ok : ∀ i, okv i (V i) = true) (hc : CW V 0) {p q : Nat} (hp : p < 8) (hq : q < 8) (hu : ¬ S9 V p 2 = S9 V q 2) {a3 a4 a5 : Int32} : ∀ (d n : Nat) (x : Nat × Nat) (v7 : Int32) (σ : Sto), d ≤ 36 → d < n → x.1 + d ≤ 36 → x.2 < 100 → (x.1 = 0 → v7 = -1) → (¬ x.1 = 0 → v7 = nI x.2) → HS σ0 V p q σ →
    C9 (f_X9_diary_L71 (nI p) (nI q) a3 a4 a5 n (nI x.1) v7 (nI (36 - d)) σ) σ0 (dyO a5 (dyR (hitL (S9 V p) (S9 V q) (flV V (V 6)) (V 7) a3 a4) d x)) := by
  intro d
  induction d with
  | zero =>
    intro n x v7 σ _ h2 hx hx2 h5 h6 h
    obtain ⟨n, rfl⟩ : ∃ n', n = n' + 1 := ⟨n - 1, by omega⟩
    obtain ⟨τ, t1, t2⟩ := h.back hp hq h0
    rw [f_X9_diary_L71, if_pos (by decide), t1, bind_s, dyR]
    unfold dyO
    by_cases hz : a5 = 0
    · rw [if_pos hz, if_pos hz]; exact ⟨τ, rfl, t2⟩
    · rw [if_neg hz, if_neg hz]
      by_cases hc : x.1 = 0
      · rw [if_pos hc, h5 hc, if_neg (by decide), r9_2, bind_s]; exact ⟨τ, rfl, t2⟩
      · rw [if_neg hc, h6 hc, if_pos (nI_pos' (by omega))]; exact ⟨τ, rfl, t2⟩
  | succ d ih =>
    intro n x v7 σ h1 h2 hx hx2 h5 h6 h
    obtain ⟨n, rfl⟩ : ∃ n', n = n' + 1 := ⟨n - 1, by omega⟩
    have e1 : 36 - (d + 1) = 35 - d := by omega
    have e2 : 36 - d = (35 - d) + 1 := by omega
    obtain ⟨p1, p2, p3⟩ := pair6 (35 - d) (by omega)
    have ha : (35 - d) / 6 < 6 := by omega
    have hb : (35 - d) % 6 < 6 := by omega
    obtain ⟨α, β, τ, w1, w2, w3, w4, w5⟩ := two9 ok hc hp hq hu h ha hb
    rw [e1, f_X9_diary_L71, if_neg (show ¬ (36 : Int32) ≤ nI (35 - d) from nI_ge (b := 36) (by omega) (by omega)), p1, p2, w1, bind_s, w2, bind_s, w3, bind_s, dyR]
    unfold f_X9_diary_L181 f_X9_diary_L183
    rw [nI_1, nI_1, ← e2, p3]
    generalize hh : ((35 - d) / 6 == (35 - d) % 6 && hitL (S9 V p) (S9 V q) (flV V (V 6)) (V 7) a3 a4 ((35 - d) / 6)) = hit
    have hx10 : 10 * ((35 - d) / 6) + (35 - d) % 6 < 100 := by omega
    generalize 10 * ((35 - d) / 6) + (35 - d) % 6 = ten at hx10 ⊢
    have stay : hit = false → C9 (f_X9_diary_L71 (nI p) (nI q) a3 a4 a5 n (nI x.1) v7 (nI (36 - d)) τ) σ0 (dyO a5 (dyR (hitL (S9 V p) (S9 V q) (flV V (V 6)) (V 7) a3 a4) d (if hit = true then (x.1 + 1, if x.1 = 0 then ten else x.2) else x))) := by
      intro hF
      rw [hF, if_neg (by decide)]
      exact ih n x v7 τ (by omega) (by omega) (by omega) hx2 h5 h6 w4
    by_cases hab : (35 - d) / 6 = (35 - d) % 6
    · rw [← hab] at w5 hh ⊢
      generalize (35 - d) / 6 = i at ha w5 hh ⊢
      rw [beq_self_eq_true, Bool.true_and] at hh
      have em : met (PL (S9 V p) (fun _ => nI i)) (PL (S9 V q) (fun _ => nI i)) (flV V (V 6)) (V 7) = mL (S9 V p) (S9 V q) (flV V (V 6)) (V 7) i := rfl
      rw [em] at w5 ⊢
      have hH : hitL (S9 V p) (S9 V q) (flV V (V 6)) (V 7) a3 a4 i = (match mL (S9 V p) (S9 V q) (flV V (V 6)) (V 7) i with
        | none => false
        | some u => decide (nI u = a3) && decide (mP (S9 V p) (S9 V q) (flV V (V 6)) i u = a4)) := rfl
      rw [hh] at hH
      cases hm : mL (S9 V p) (S9 V q) (flV V (V 6)) (V 7) i with
      | none =>
        rw [hm] at hH
        rw [if_neg (show ¬ (none : Option Nat).isSome = true by decide)]
        exact stay hH
      | some u =>
        rw [hm] at hH
        obtain ⟨v1, v2⟩ := w5 u hm
        rw [if_pos (show (some u).isSome = true from rfl), v1, v2]
        by_cases q1 : nI u = a3
        · rw [if_pos q1]
          by_cases q2 : mP (S9 V p) (S9 V q) (flV V (V 6)) i u = a4
          · have hT : hit = true := by rw [hH]; show (decide (nI u = a3) && decide (mP (S9 V p) (S9 V q) (flV V (V 6)) i u = a4)) = true; rw [decide_eq_true q1, decide_eq_true q2]; rfl
            rw [show metP (PL (S9 V p) (fun _ => nI i)) (PL (S9 V q) (fun _ => nI i)) (flV V (V 6)) u = a4 from q2, if_pos rfl, hT, if_pos rfl]
            by_cases hc : x.1 = 0
            · rw [h5 hc, if_neg (by decide), if_pos hc]
              exact ih n (x.1 + 1, ten) (nI ten) τ (by omega) (by omega) (by show x.1 + 1 + d ≤ 36; omega) hx10 (fun z => by cases z) (fun _ => rfl) w4
            · rw [h6 hc, if_pos (nI_pos' (by omega)), if_neg hc]
              exact ih n (x.1 + 1, x.2) (nI x.2) τ (by omega) (by omega) (by show x.1 + 1 + d ≤ 36; omega) hx2 (fun z => by cases z) (fun _ => rfl) w4
          · rw [if_neg (show ¬ metP (PL (S9 V p) (fun _ => nI i)) (PL (S9 V q) (fun _ => nI i)) (flV V (V 6)) u = a4 from q2)]
            exact stay (by rw [hH]; show (decide (nI u = a3) && decide (mP (S9 V p) (S9 V q) (flV V (V 6)) i u = a4)) = false; rw [decide_eq_false q2, Bool.and_false])
        · rw [if_neg q1]
          exact stay (by rw [hH]; show (decide (nI u = a3) && decide (mP (S9 V p) (S9 V q) (flV V (V 6)) i u = a4)) = false; rw [decide_eq_false q1, Bool.false_and])
    · rw [no_meet (nI_ne6 ha hb hab), if_neg (show ¬ (none : Option Nat).isSome = true by decide)]
      exact stay (by rw [← hh, beq_eq_false_iff_ne.mpr hab, Bool.false_and])
theorem s_diary (a1 a2 a3 a4 a5 : Int32) (b : Bool) : LPr (fun σ => f_X8_diary σ a1 a2 a3 a4 a5) (fun σ => f_X9_diary σ a1 a2 a3 a4 a5) b Inv Inv := by
  refine pr_ro (fun σ => if unl (σ.1 82) a1 a2 = true then (if isO a3 0 59 = true then .inr 1 else if isO a4 0 1200 = true then .inr 1 else if isO a5 0 1 = true then .inr 1 else dyO a5 (dyS (hitL (S9 (σ.1 82) a1.toNatClampNeg) (S9 (σ.1 82) a2.toNatClampNeg) (flV (σ.1 82) (σ.1 82 6)) (σ.1 82 7) a3 a4) 6 (0, 0))) else .inr 1) (fun σ τ h => by show _ = _; rw [h.d]) (fun σ h => ?_) (fun σ h => ?_) b
  · show C8 (f_X8_diary σ a1 a2 a3 a4 a5) σ _
    unfold f_X8_diary
    rcases unl_c h a1 a2 with ⟨hn, ⟨r5, r15, e1, e2, e3⟩, -⟩ | ⟨p, q, hp, hq, hpN, hqN, rfl, rfl, hu, hn, e1, e2, e3, -⟩
    · simp only [hn, Bool.false_eq_true, if_false]
      exact ⟨σ, by rw [e1, bind_s, e2, bind_s, e3, bind_s, if_neg (by decide), r8_1, bind_s], Fr.rf σ⟩
    · simp only [hn, if_true]
      rw [e1, bind_s, e2, bind_s, e3, bind_s, if_pos rfl, out_eq, bind_s]
      cases h3 : isO a3 0 59 with
      | true => exact ⟨σ, by rw [if_pos rfl, r8_1, bind_s], Fr.rf σ⟩
      | false =>
        rw [if_neg (by decide), out_eq, bind_s]
        simp only [Bool.false_eq_true, if_false]
        cases h4 : isO a4 0 1200 with
        | true => exact ⟨σ, by rw [if_pos rfl, r8_1, bind_s], Fr.rf σ⟩
        | false =>
          rw [if_neg (by decide), out_eq, bind_s]
          simp only [Bool.false_eq_true, if_false]
          cases h5 : isO a5 0 1 with
          | true => exact ⟨σ, by rw [if_pos rfl, r8_1, bind_s], Fr.rf σ⟩
          | false =>
            simp only [Bool.false_eq_true, if_false]
            obtain ⟨τ, t1, t2, t3⟩ := feel_eq h.ic (σ.1 1 1)
            have hf : Fl τ (flV (σ.1 82) (σ.1 82 6)) := by rw [← h.mp (i := 6) (j := 1) (by decide)]; exact t2
            have hd : HD τ (S9 (σ.1 82) p) (S9 (σ.1 82) q) (flV (σ.1 82) (σ.1 82 6)) (σ.1 82 7) p q := ⟨hf, by rw [swm_fr t3 hp]; exact sw_Eq9 h hpN, by rw [swm_fr t3 hq]; exact sw_Eq9 h hqN, by rw [t3 1 2 (by decide) (by decide)]; exact h.mp (i := 7) (j := 2) (by decide)⟩
            rw [t1, bind_s, nI_clamp (by omega), nI_clamp (by omega)]
            exact (diary8_L hp hq (gr9 h.ok hp) (gr9 h.ok hq) 6 FU (0, 0) τ (by omega) (by unfold FU; omega) (by decide) hd).fr (feel_fr t3)
  · show C9 (f_X9_diary σ a1 a2 a3 a4 a5) σ _
    unfold f_X9_diary
    rcases unl_c h a1 a2 with ⟨hn, -, e3⟩ | ⟨p, q, hp, hq, hpN, hqN, rfl, rfl, hu, hn, -, -, -, e3⟩
    · simp only [hn, Bool.false_eq_true, if_false]
      exact ⟨σ, by rw [e3, bind_s, if_neg (by decide), r9_1, bind_s], Fr.rf σ⟩
    · simp only [hn, if_true]
      rw [e3, bind_s, if_pos rfl, in_0_59, bind_s]
      cases h3 : isO a3 0 59 with
      | true => exact ⟨σ, by rw [if_neg (by decide), r9_1, bind_s], Fr.rf σ⟩
      | false =>
        rw [if_pos (by decide), in_0_1200, bind_s]
        simp only [Bool.false_eq_true, if_false]
        cases h4 : isO a4 0 1200 with
        | true => exact ⟨σ, by rw [if_neg (by decide), r9_1, bind_s], Fr.rf σ⟩
        | false =>
          rw [if_pos (by decide), in_0_1, bind_s]
          simp only [Bool.false_eq_true, if_false]
          cases h5 : isO a5 0 1 with
          | true => exact ⟨σ, by rw [if_neg (by decide), r9_1, bind_s], Fr.rf σ⟩
          | false =>
            simp only [Bool.false_eq_true, if_false]
            obtain ⟨α, a1', a2', a3'⟩ := HS.st (σ := σ) p q
            rw [if_pos (by decide), a1', bind_s, nI_clamp (by omega), nI_clamp (by omega), ← dy_eq]
            exact diary9_L rfl h.ok h.cd.1.cw hp hq hu 36 FU (0, 0) (-1) α (by omega) (by unfold FU; omega) (by decide) (by decide) (fun _ => rfl) (fun z => absurd rfl z) a2'
/-! Sheets: sheet, put, move. -/
theorem sh_nsc {k : Nat} (j : Nat) (hk : (73 ≤ k ∧ k ≤ 80) ∨ (90 ≤ k ∧ k ≤ 92)) : scr k j = false := by
  simp only [scr, Bool.or_eq_false_iff, Bool.and_eq_false_iff, beq_eq_false_iff_ne, decide_eq_false_iff_not, ne_eq]
  omega
theorem Inv.sh {σ τ : Sto} (h : Inv σ) (hk : ∀ k j, scr k j = false → ¬ (73 ≤ k ∧ k ≤ 80) → ¬ (90 ≤ k ∧ k ≤ 92) → τ.1 k j = σ.1 k j) (hs : SH τ) : Inv τ := by
  obtain ⟨⟨q1, q2, q3, q4, -, q6⟩, q7⟩ := h
  have e1 : τ.1 81 3 = σ.1 81 3 := hk 81 3 (by decide) (by omega) (by omega)
  refine ⟨⟨q1.keep (fun k j hkj => hk k j (lk_scr (Or.inl ⟨rfl, rfl⟩) hkj j) (by unfold lkc at hkj; omega) (by unfold lkc at hkj; omega)), by rw [hk 0 10 (by decide) (by omega) (by omega), e1]; exact q2, fun hn => (q3 (e1 ▸ hn)).keep (fun k j hkj => hk k j (lk_scr (Or.inr ⟨rfl, rfl⟩) hkj j) (by unfold lkc at hkj; omega) (by unfold lkc at hkj; omega)), q4.keep (hk 65 1 (by decide) (by omega) (by omega)) (hk 81 18 (by decide) (by omega) (by omega)) (fun j => hk 66 j (by simp [scr]) (by omega) (by omega)) (fun j => hk 89 j (by simp [scr]) (by omega) (by omega)), hs, by unfold US; rw [hk 4 0 (by decide) (by omega) (by omega), hk 7 0 (by decide) (by omega) (by omega)]; exact q6⟩, fun k hk' => by rw [hk 68 k (by simp [scr]) (by omega) (by omega), hk 85 k (by simp [scr]) (by omega) (by omega)]; exact q7 k hk'⟩
theorem clear_L {s : Nat} (hs : s < 4) : ∀ (d n : Nat) (σ : Sto), d ≤ 40 → d < n → ∃ τ, f_X4_clear_L18 (73 + 2 * s) n (nI (40 - d)) σ = some τ ∧ (∀ j, τ.1 (74 + 2 * s) j = if 40 - d ≤ j ∧ j < 40 then 0 else σ.1 (74 + 2 * s) j) ∧ ∀ a b, a ≠ 74 + 2 * s → τ.1 a b = σ.1 a b := by
  obtain ⟨-, h2, h3⟩ := sh_f s hs
  intro d
  induction d with
  | zero =>
    intro n σ _ hn
    obtain ⟨n, rfl⟩ : ∃ n', n = n' + 1 := ⟨n - 1, by omega⟩
    rw [f_X4_clear_L18, if_pos (by decide)]
    exact ⟨σ, rfl, fun j => by rw [if_neg (by omega)], fun _ _ _ => rfl⟩
  | succ d ih =>
    intro n σ hd hn
    obtain ⟨n, rfl⟩ : ∃ n', n = n' + 1 := ⟨n - 1, by omega⟩
    have e1 : 40 - d = (40 - (d + 1)) + 1 := by omega
    rw [f_X4_clear_L18, if_neg (show ¬ (40 : Int32) ≤ nI (40 - (d + 1)) from nI_ge (b := 40) (by omega) (by omega)), h2, wr_nI (by rw [h3]; omega), bind_s, nI_1, ← e1]
    obtain ⟨τ, t1, t2, t3⟩ := ih n (sI σ (74 + 2 * s) (40 - (d + 1)) 0) (by omega) (by omega)
    refine ⟨τ, t1, fun j => ?_, fun a b h => by rw [t3 a b h, sI_ne h]⟩
    rw [t2 j, sI_at]
    by_cases h : 40 - d ≤ j ∧ j < 40
    · rw [if_pos h, if_pos (by omega)]
    · rw [if_neg h]
      by_cases h' : j = 40 - (d + 1)
      · rw [if_pos h', if_pos (by omega)]
      · rw [if_neg h', if_neg (by omega)]
theorem clear8 {σ : Sto} {s m : Nat} (hs : s < 4) (hm : m ≤ 40) (w : Int32) : ∃ τ, f_X4_clear σ (73 + 2 * s) w (nI m) = some τ ∧ τ.1 (73 + 2 * s) 2 = w ∧ τ.1 (73 + 2 * s) 1 = nI m ∧ (∀ j, j < 40 → τ.1 (74 + 2 * s) j = 0) ∧ ∀ a b, a ≠ 73 + 2 * s → a ≠ 74 + 2 * s → τ.1 a b = σ.1 a b := by
  obtain ⟨τ, t1, t2, t3⟩ := clear_L hs 40 FU (sI (sI σ (73 + 2 * s) 2 w) (73 + 2 * s) 1 (nI m)) (by omega) (by unfold FU; omega)
  refine ⟨τ, ?_, ?_, ?_, fun j hj => by rw [t2 j, if_pos (by omega)], fun a b h h' => by rw [t3 a b h', sI_ne h, sI_ne h]⟩
  · unfold f_X4_clear f_X8_heldWithin
    have hh : imax 0 (imin 40 (nI m)) = nI m := by
      unfold imax imin
      by_cases h : nI m < 40
      · rw [if_pos h]
        by_cases h0 : (0 : Int32) < nI m
        · rw [if_pos h0]
        · rw [if_neg h0]
          exact Int32.le_antisymm (nI_pos' (by omega)) (Int32.not_lt.mp h0)
      · have : m = 40 := by
          rcases (show m = 40 ∨ m < 40 by omega) with h' | h'
          · exact h'
          · exact absurd (nI_lt (b := 40) h' (by omega)) h
        subst this
        decide
    rw [lp_b, bind_s, lp_b, hh]
    exact t1
  · rw [t3 _ _ (by omega), sI_nj (by decide), sI_at, if_pos rfl]
  · rw [t3 _ _ (by omega), sI_at, if_pos rfl]
theorem sheet9_L {s : Nat} (hs : s < 4) : ∀ (d n : Nat) (σ : Sto), d ≤ 40 → d < n → ∃ τ, f_X9_sheet_L90 (nI s) n (nI (40 - d)) σ = some (1, τ) ∧ (∀ j, τ.1 92 j = if 40 * s + (40 - d) ≤ j ∧ j < 40 * s + 40 then 0 else σ.1 92 j) ∧ ∀ a b, a ≠ 92 → τ.1 a b = σ.1 a b := by
  intro d
  induction d with
  | zero =>
    intro n σ _ hn
    obtain ⟨n, rfl⟩ : ∃ n', n = n' + 1 := ⟨n - 1, by omega⟩
    rw [f_X9_sheet_L90, if_pos (by decide)]
    exact ⟨σ, rfl, fun j => by rw [if_neg (by omega)], fun _ _ _ => rfl⟩
  | succ d ih =>
    intro n σ hd hn
    obtain ⟨n, rfl⟩ : ∃ n', n = n' + 1 := ⟨n - 1, by omega⟩
    have e1 : 40 - d = (40 - (d + 1)) + 1 := by omega
    rw [f_X9_sheet_L90, if_neg (show ¬ (40 : Int32) ≤ nI (40 - (d + 1)) from nI_ge (b := 40) (by omega) (by omega)), mul40 s hs, nI_add, wr_nI (by show 40 * s + (40 - (d + 1)) < 160; omega), bind_s, nI_1, ← e1]
    obtain ⟨τ, t1, t2, t3⟩ := ih n (sI σ 92 (40 * s + (40 - (d + 1))) 0) (by omega) (by omega)
    refine ⟨τ, t1, fun j => ?_, fun a b h => by rw [t3 a b h, sI_ne h]⟩
    rw [t2 j, sI_at]
    by_cases h : 40 * s + (40 - d) ≤ j ∧ j < 40 * s + 40
    · rw [if_pos h, if_pos (by omega)]
    · rw [if_neg h]
      by_cases h' : j = 40 * s + (40 - (d + 1))
      · rw [if_pos h', if_pos (by omega)]
      · rw [if_neg h', if_neg (by omega)]
theorem sheet9 {σ : Sto} {s m : Nat} (hs : s < 4) (w : Int32) : ∃ τ, f_X9_sheet_L86 (nI s) (nI m) (nI s) (sI σ 90 s w) = some (1, τ) ∧ (∀ j, τ.1 90 j = if j = s then w else σ.1 90 j) ∧ (∀ j, τ.1 91 j = if j = s then nI m else σ.1 91 j) ∧ (∀ j, τ.1 92 j = if 40 * s ≤ j ∧ j < 40 * s + 40 then 0 else σ.1 92 j) ∧ ∀ a b, a ≠ 90 → a ≠ 91 → a ≠ 92 → τ.1 a b = σ.1 a b := by
  obtain ⟨τ, t1, t2, t3⟩ := sheet9_L hs 40 FU (sI (sI σ 90 s w) 91 s (nI m)) (by omega) (by unfold FU; omega)
  refine ⟨τ, ?_, fun j => by rw [t3 _ _ (by decide), sI_ne (by decide), sI_at], fun j => by rw [t3 _ _ (by decide), sI_at, sI_ne (by decide)], fun j => by rw [t2 j, sI_ne (by decide), sI_ne (by decide)]; rfl, fun a b h1 h2 h3 => by rw [t3 a b h3, sI_ne h2, sI_ne h1]⟩
  unfold f_X9_sheet_L86
  rw [wr_nI (by show s < 4; exact hs), bind_s]
  exact t1
/-- the sheet is made anew by both -/
theorem sheet_new {σ : Sto} (hI : Inv σ) {s m : Nat} (hs : s < 4) (hm : m ≤ 40) (w : Int32) : ∃ τ υ, f_X4_clear σ (73 + 2 * s) w (nI m) = some τ ∧ f_X9_sheet_L86 (nI s) (nI m) (nI s) (sI τ 90 s w) = some (1, υ) ∧ Inv υ := by
  obtain ⟨τ, t1, t2, t3, t4, t5⟩ := clear8 (σ := σ) hs hm w
  obtain ⟨υ, u1, u2, u3, u4, u5⟩ := sheet9 (σ := τ) (m := m) hs w
  refine ⟨τ, υ, t1, u1, hI.sh (fun k j _ h1 h2 => by rw [u5 k j (by omega) (by omega) (by omega), t5 k j (by omega) (by omega)]) (fun r hr => ?_)⟩
  obtain ⟨q1, q2, q3, q4⟩ := hI.1.2.2.2.2.1 r hr
  by_cases hrs : r = s
  · subst hrs
    refine ⟨?_, ?_, ⟨m, hm, by rw [u3, if_pos rfl]⟩, fun i hi => ?_⟩
    · rw [u5 _ _ (by omega) (by omega) (by omega), t2, u2, if_pos rfl]
    · rw [u5 _ _ (by omega) (by omega) (by omega), t3, u3, if_pos rfl]
    · rw [u5 _ _ (by omega) (by omega) (by omega), t4 i hi, u4, if_pos (by omega)]
  · refine ⟨?_, ?_, ?_, fun i hi => ?_⟩
    · rw [u5 _ _ (by omega) (by omega) (by omega), t5 _ _ (by omega) (by omega), u2, if_neg hrs, t5 _ _ (by omega) (by omega)]; exact q1
    · rw [u5 _ _ (by omega) (by omega) (by omega), t5 _ _ (by omega) (by omega), u3, if_neg hrs, t5 _ _ (by omega) (by omega)]; exact q2
    · rw [u3, if_neg hrs, t5 _ _ (by omega) (by omega)]; exact q3
    · rw [u5 _ _ (by omega) (by omega) (by omega), t5 _ _ (by omega) (by omega), u4, if_neg (by omega), t5 _ _ (by omega) (by omega)]; exact q4 i hi
theorem deref4 {k : Nat} (hk : K0 k = 4) {β : Type} (f : Nat → Option β) : deref 4 (some k) f = f k := by
  show (if K0 k = 4 then f k else none) = f k
  rw [if_pos hk]
theorem isO_40 (v : Int32) : (¬ 0 ≤ v) ∨ (0 ≤ v ∧ ¬ v ≤ 40) ∨ ∃ m, m ≤ 40 ∧ v = nI m := by
  by_cases h : 0 ≤ v
  · by_cases h' : v ≤ 40
    · obtain ⟨m, hm, e⟩ := nI_of (Int32.not_lt.mpr h)
      refine Or.inr (Or.inr ⟨m, ?_, e⟩)
      rw [e] at h'
      exact (nI_leI (b := 40) hm (by omega)).mp h'
    · exact Or.inr (Or.inl ⟨h, h'⟩)
  · exact Or.inl h
theorem s_sheet (a1 a2 a3 : Int32) (b : Bool) : LPr (fun σ => f_X8_sheet σ a1 a2 a3) (fun σ => f_X9_sheet σ a1 a2 a3) b Inv Inv := by
  intro σ hI
  rcases shA8 σ a1 with ⟨hq, e⟩ | ⟨s, hs, rfl, hq, e⟩
  · refine er_LPr (f := fun σ => f_X8_sheet σ a1 a2 a3) (g := fun σ => f_X9_sheet σ a1 a2 a3) (k := 1) hI ?_ ?_
    · show f_X8_sheet σ a1 a2 a3 = _
      unfold f_X8_sheet
      rw [e, bind_s, onN_0, r8_1, bind_s]
    · show f_X9_sheet (rf σ 1) a1 a2 a3 = _
      unfold f_X9_sheet
      rw [sheet_eq, bind_s, hq, if_neg (by decide), r9_1, bind_s]
  · have g8 : a2 = 0 ∨ a2 = 8 ∨ a2 = 16 ∨ a2 = 32 → f_X8_sheet σ (nI s) a2 a3 = f_X8_sheet_L40 a2 a3 (some (73 + 2 * s)) σ := by
      intro h
      unfold f_X8_sheet
      rw [e, bind_s, onN_1]
      rcases h with rfl | rfl | rfl | rfl
      · rw [if_pos rfl]
      · rw [if_neg (by decide), if_pos rfl]
      · rw [if_neg (by decide), if_neg (by decide), if_pos rfl]
      · rw [if_neg (by decide), if_neg (by decide), if_neg (by decide), if_pos rfl]
    have g9 : ∀ τ, a2 = 0 ∨ a2 = 8 ∨ a2 = 16 ∨ a2 = 32 → f_X9_sheet τ (nI s) a2 a3 = f_X9_sheet_L35 (nI s) a2 a3 τ := by
      intro τ h
      unfold f_X9_sheet
      rw [sheet_eq, bind_s, hq, if_pos (by decide)]
      rcases h with rfl | rfl | rfl | rfl
      · rw [if_pos rfl]
      · rw [if_neg (by decide), if_pos rfl]
      · rw [if_neg (by decide), if_neg (by decide), if_pos rfl]
      · rw [if_neg (by decide), if_neg (by decide), if_neg (by decide), if_pos rfl]
    by_cases hw : a2 = 0 ∨ a2 = 8 ∨ a2 = 16 ∨ a2 = 32
    · by_cases h0 : a2 = 0
      · obtain ⟨τ, υ, t1, t2, t3⟩ := sheet_new hI hs (m := 0) (by omega) a2
        refine ⟨(1, τ), (1, υ), ?_, ?_, fun _ => rfl, t3⟩
        · show f_X8_sheet σ (nI s) a2 a3 = _
          rw [g8 hw]
          unfold f_X8_sheet_L40
          rw [if_pos h0, deref4 (sh_f s hs).1, show f_X4_clear σ (73 + 2 * s) 0 0 = some τ by rw [← t1, h0]; rfl, bind_s]
        · show f_X9_sheet τ (nI s) a2 a3 = _
          rw [g9 τ hw]
          unfold f_X9_sheet_L35 f_X9_sheet_L49 f_X9_sheet_L65
          rw [if_pos h0, if_pos h0, wr_nI (by show s < 4; exact hs), bind_s, if_pos h0]
          exact t2
      · rcases isO_40 a3 with h3 | ⟨h3, h4⟩ | ⟨m, hm, rfl⟩
        · refine er_LPr (f := fun σ => f_X8_sheet σ (nI s) a2 a3) (g := fun σ => f_X9_sheet σ (nI s) a2 a3) (k := 3) hI ?_ ?_
          · show f_X8_sheet σ (nI s) a2 a3 = _
            rw [g8 hw]
            unfold f_X8_sheet_L40
            rw [if_neg h0, if_neg h3, r8_3, bind_s]
          · show f_X9_sheet (rf σ 3) (nI s) a2 a3 = _
            rw [g9 _ hw]
            unfold f_X9_sheet_L35
            rw [if_neg h0, if_neg h3, r9_3, bind_s]
        · refine er_LPr (f := fun σ => f_X8_sheet σ (nI s) a2 a3) (g := fun σ => f_X9_sheet σ (nI s) a2 a3) (k := 1) hI ?_ ?_
          · show f_X8_sheet σ (nI s) a2 a3 = _
            rw [g8 hw]
            unfold f_X8_sheet_L40
            rw [if_neg h0, if_pos h3, if_neg h4, r8_1, bind_s]
          · show f_X9_sheet (rf σ 1) (nI s) a2 a3 = _
            rw [g9 _ hw]
            unfold f_X9_sheet_L35 f_X9_sheet_L49
            rw [if_neg h0, if_pos h3, if_neg h0, if_neg h4, r9_1, bind_s]
        · obtain ⟨τ, υ, t1, t2, t3⟩ := sheet_new hI hs hm a2
          have h3 : (0 : Int32) ≤ nI m := nI_pos' (by omega)
          have h4 : nI m ≤ 40 := nI_le (b := 40) hm (by omega)
          refine ⟨(1, τ), (1, υ), ?_, ?_, fun _ => rfl, t3⟩
          · show f_X8_sheet σ (nI s) a2 (nI m) = _
            rw [g8 hw]
            unfold f_X8_sheet_L40
            rw [if_neg h0, if_pos h3, if_pos h4, deref4 (sh_f s hs).1, t1, bind_s]
          · show f_X9_sheet τ (nI s) a2 (nI m) = _
            rw [g9 τ hw]
            unfold f_X9_sheet_L35 f_X9_sheet_L49 f_X9_sheet_L65
            rw [if_neg h0, if_pos h3, if_neg h0, if_pos h4, wr_nI (by show s < 4; exact hs), bind_s, if_neg h0]
            exact t2
    · have n0 : ¬ a2 = 0 := fun z => hw (Or.inl z)
      have n8 : ¬ a2 = 8 := fun z => hw (Or.inr (Or.inl z))
      have n16 : ¬ a2 = 16 := fun z => hw (Or.inr (Or.inr (Or.inl z)))
      have n32 : ¬ a2 = 32 := fun z => hw (Or.inr (Or.inr (Or.inr z)))
      refine er_LPr (f := fun σ => f_X8_sheet σ (nI s) a2 a3) (g := fun σ => f_X9_sheet σ (nI s) a2 a3) (k := 1) hI ?_ ?_
      · show f_X8_sheet σ (nI s) a2 a3 = _
        unfold f_X8_sheet
        rw [e, bind_s, onN_1, if_neg n0, if_neg n8, if_neg n16, if_neg n32, r8_1, bind_s]
      · show f_X9_sheet (rf σ 1) (nI s) a2 a3 = _
        unfold f_X9_sheet
        rw [sheet_eq, bind_s, hq, if_pos (by decide), if_neg n0, if_neg n8, if_neg n16, if_neg n32, r9_1, bind_s]
theorem put_in {σ : Sto} (hI : Inv σ) {s i : Nat} (hs : s < 4) (hi : i < 40) (v : Int32) : Inv (sI (sI σ (74 + 2 * s) i v) 92 (40 * s + i) v) := by
  refine hI.sh (fun k j _ h1 h2 => by rw [sI_ne (by omega), sI_ne (by omega)]) (fun r hr => ?_)
  obtain ⟨q1, q2, q3, q4⟩ := hI.1.2.2.2.2.1 r hr
  refine ⟨?_, ?_, ?_, fun x hx => ?_⟩
  · rw [sI_ne (by omega), sI_ne (by omega), sI_ne (by omega), sI_ne (by omega)]; exact q1
  · rw [sI_ne (by omega), sI_ne (by omega), sI_ne (by omega), sI_ne (by omega)]; exact q2
  · rw [sI_ne (by omega), sI_ne (by omega)]; exact q3
  · rw [sI_ne (show 74 + 2 * r ≠ 92 by omega), sI_at, sI_ne (show 92 ≠ 74 + 2 * s by omega)]
    by_cases h : r = s
    · subst h
      rw [sI_at]
      by_cases hx' : x = i
      · rw [if_pos hx', if_pos (by omega)]
      · rw [if_neg hx', if_neg (by omega)]; exact q4 x hx
    · rw [sI_ne (by omega), if_neg (by omega)]; exact q4 x hx
theorem isO_lt2 {a : Int32} {N : Nat} (hN : N ≤ 40) (h : isO a 0 (nI N - 1) = false) : ∃ p, p < N ∧ a = nI p := by
  obtain ⟨h1, h2⟩ := isO_f h
  obtain ⟨p, hp, rfl⟩ := nI_of (Int32.not_lt.mpr h1)
  refine ⟨p, ?_, rfl⟩
  cases N with
  | zero =>
    rw [Int32.le_iff_toInt_le, nI_toInt hp, show (nI 0 - 1 : Int32).toInt = -1 from rfl] at h2
    omega
  | succ n =>
    rw [nI_pred, nI_leI hp (by omega)] at h2
    omega
def putV (w v : Int32) : Int32 := if w = 8 then i2b v else if w = 16 then i2s v else v
theorem s_put (a1 a2 a3 : Int32) (b : Bool) : LPr (fun σ => f_X8_put σ a1 a2 a3) (fun σ => f_X9_put σ a1 a2 a3) b Inv Inv := by
  intro σ hI
  rcases shA8 σ a1 with ⟨hq, e⟩ | ⟨s, hs, rfl, hq, e⟩
  · refine er_LPr (f := fun σ => f_X8_put σ a1 a2 a3) (g := fun σ => f_X9_put σ a1 a2 a3) (k := 1) hI ?_ ?_
    · show f_X8_put σ a1 a2 a3 = _
      unfold f_X8_put
      rw [e, bind_s, onN_0, r8_1, bind_s]
    · show f_X9_put (rf σ 1) a1 a2 a3 = _
      unfold f_X9_put
      rw [sheet_eq, bind_s, hq, if_neg (by decide), r9_1, bind_s]
  · obtain ⟨c1, c2, ⟨m, hm, c3⟩, c4⟩ := hI.1.2.2.2.2.1 s hs
    by_cases h0 : σ.1 90 s = 0
    · refine er_LPr (f := fun σ => f_X8_put σ (nI s) a2 a3) (g := fun σ => f_X9_put σ (nI s) a2 a3) (k := 2) hI ?_ ?_
      · show f_X8_put σ (nI s) a2 a3 = _
        unfold f_X8_put f_X4_isMissing
        rw [e, bind_s, onN_1, if_pos (sh_f s hs).1, c1, if_pos h0, bind_s, if_pos rfl, r8_2, bind_s]
      · show f_X9_put (rf σ 2) (nI s) a2 a3 = _
        unfold f_X9_put
        rw [sheet_eq, bind_s, hq, if_pos (by decide), rd_nI (by show s < 4; exact hs), bind_s, rf_at (by decide), if_pos h0, r9_2, bind_s]
    · cases hi : isO a2 0 (nI m - 1) with
      | true =>
        refine er_LPr (f := fun σ => f_X8_put σ (nI s) a2 a3) (g := fun σ => f_X9_put σ (nI s) a2 a3) (k := 1) hI ?_ ?_
        · show f_X8_put σ (nI s) a2 a3 = _
          unfold f_X8_put f_X4_isMissing
          rw [e, bind_s, onN_1, if_pos (sh_f s hs).1, c1, if_neg h0, bind_s, if_neg (by decide), out_eq, bind_s, c2, c3, hi, if_pos rfl, r8_1, bind_s]
        · show f_X9_put (rf σ 1) (nI s) a2 a3 = _
          unfold f_X9_put
          rw [sheet_eq, bind_s, hq, if_pos (by decide), rd_nI (by show s < 4; exact hs), bind_s, rf_at (by decide), if_neg h0, rd_nI (by show s < 4; exact hs), bind_s, rf_at (by decide), c3, in_0d, bind_s, hi, if_neg (by decide), r9_1, bind_s]
      | false =>
        obtain ⟨i, hi', rfl⟩ := isO_lt2 hm hi
        refine ⟨(1, sI σ (74 + 2 * s) i (putV (σ.1 90 s) a3)), (1, sI (sI σ (74 + 2 * s) i (putV (σ.1 90 s) a3)) 92 (40 * s + i) (putV (σ.1 90 s) a3)), ?_, ?_, fun _ => rfl, put_in hI hs (by omega) _⟩
        · show f_X8_put σ (nI s) (nI i) a3 = _
          unfold f_X8_put f_X4_isMissing f_X4_write
          rw [e, bind_s, onN_1, if_pos (sh_f s hs).1, c1, if_neg h0, bind_s, if_neg (by decide), out_eq, bind_s, c2, c3, hi, if_neg (by decide), out_eq, bind_s, show isO (nI i) 0 (40 - 1) = false from isO_lit (n := 39) (by omega) (by omega), if_neg (by decide), (sh_f s hs).2.1]
          unfold putV
          by_cases h8 : σ.1 90 s = 8
          · rw [if_pos h8, if_pos h8, wr_nI (by rw [(sh_f s hs).2.2]; omega), bind_s, bind_s]
          · rw [if_neg h8, if_neg h8]
            by_cases h16 : σ.1 90 s = 16
            · rw [if_pos h16, if_pos h16, wr_nI (by rw [(sh_f s hs).2.2]; omega), bind_s, bind_s]
            · rw [if_neg h16, if_neg h16, wr_nI (by rw [(sh_f s hs).2.2]; omega), bind_s, bind_s]
        · show f_X9_put (sI σ (74 + 2 * s) i (putV (σ.1 90 s) a3)) (nI s) (nI i) a3 = _
          unfold f_X9_put f_X9_put_L95
          rw [sheet_eq, bind_s, hq, if_pos (by decide), rd_nI (by show s < 4; exact hs), bind_s, sI_ne (by omega), if_neg h0, rd_nI (by show s < 4; exact hs), bind_s, sI_ne (by omega), c3, in_0d, bind_s, hi, if_pos (by decide), bind_s, mul40 s hs, nI_add]
          generalize hτ : sI σ (74 + 2 * s) i (putV (σ.1 90 s) a3) = τ
          unfold putV
          by_cases h8 : σ.1 90 s = 8
          · rw [if_pos h8, if_pos h8, wr_nI (by show 40 * s + i < 160; omega), bind_s]
          · rw [if_neg h8, if_neg h8, bind_s]
            by_cases h16 : σ.1 90 s = 16
            · rw [if_pos h16, if_pos h16, wr_nI (by show 40 * s + i < 160; omega), bind_s]
            · rw [if_neg h16, if_neg h16, wr_nI (by show 40 * s + i < 160; omega), bind_s]
theorem cp_L1 {s1 x c : Nat} (hs : s1 < 4) (hx : x + c ≤ 40) (v3 v4 : Int32) : ∀ (d n : Nat) (σ : Sto), d ≤ c → d < n → ∃ τ, f_X9_move_L115 (nI s1) (nI x) v3 v4 (nI c) n (nI (c - d)) σ = f_X9_move_L152 v3 v4 (nI c) FU 0 τ ∧ (∀ j, τ.1 93 j = if c - d ≤ j ∧ j < c then σ.1 92 (40 * s1 + x + j) else σ.1 93 j) ∧ ∀ a b, a ≠ 93 → τ.1 a b = σ.1 a b := by
  intro d
  induction d with
  | zero =>
    intro n σ _ hn
    obtain ⟨n, rfl⟩ : ∃ n', n = n' + 1 := ⟨n - 1, by omega⟩
    rw [f_X9_move_L115, if_pos (nI_le (by omega) (by omega))]
    exact ⟨σ, rfl, fun j => by rw [if_neg (by omega)], fun _ _ _ => rfl⟩
  | succ d ih =>
    intro n σ hd hn
    obtain ⟨n, rfl⟩ : ∃ n', n = n' + 1 := ⟨n - 1, by omega⟩
    have e1 : c - d = (c - (d + 1)) + 1 := by omega
    rw [f_X9_move_L115, if_neg (nI_ge (by omega) (by omega)), mul40 s1 hs, nI_add, nI_add, rd_nI (by show 40 * s1 + x + (c - (d + 1)) < 160; omega), bind_s, wr_nI (by show c - (d + 1) < 40; omega), bind_s, nI_1, ← e1]
    obtain ⟨τ, t1, t2, t3⟩ := ih n (sI σ 93 (c - (d + 1)) (σ.1 92 (40 * s1 + x + (c - (d + 1))))) (by omega) (by omega)
    refine ⟨τ, t1, fun j => ?_, fun a b h => by rw [t3 a b h, sI_ne h]⟩
    rw [t2 j, sI_at, sI_ne (by decide)]
    by_cases h : c - d ≤ j ∧ j < c
    · rw [if_pos h, if_pos (by omega)]
    · rw [if_neg h]
      by_cases h' : j = c - (d + 1)
      · rw [if_pos h', if_pos (by omega), h']
      · rw [if_neg h', if_neg (by omega)]
theorem cp_L2 {s2 y c : Nat} (hs : s2 < 4) (hy : y + c ≤ 40) : ∀ (d n : Nat) (σ : Sto), d ≤ c → d < n → ∃ τ, f_X9_move_L152 (nI s2) (nI y) (nI c) n (nI (c - d)) σ = some (nI c, τ) ∧ (∀ j, τ.1 92 j = if 40 * s2 + y + (c - d) ≤ j ∧ j < 40 * s2 + y + c then σ.1 93 (j - (40 * s2 + y)) else σ.1 92 j) ∧ ∀ a b, a ≠ 92 → τ.1 a b = σ.1 a b := by
  intro d
  induction d with
  | zero =>
    intro n σ _ hn
    obtain ⟨n, rfl⟩ : ∃ n', n = n' + 1 := ⟨n - 1, by omega⟩
    rw [f_X9_move_L152, if_pos (nI_le (by omega) (by omega))]
    exact ⟨σ, rfl, fun j => by rw [if_neg (by omega)], fun _ _ _ => rfl⟩
  | succ d ih =>
    intro n σ hd hn
    obtain ⟨n, rfl⟩ : ∃ n', n = n' + 1 := ⟨n - 1, by omega⟩
    have e1 : c - d = (c - (d + 1)) + 1 := by omega
    rw [f_X9_move_L152, if_neg (nI_ge (by omega) (by omega)), rd_nI (by show c - (d + 1) < 40; omega), bind_s, mul40 s2 hs, nI_add, nI_add, wr_nI (by show 40 * s2 + y + (c - (d + 1)) < 160; omega), bind_s, nI_1, ← e1]
    obtain ⟨τ, t1, t2, t3⟩ := ih n (sI σ 92 (40 * s2 + y + (c - (d + 1))) (σ.1 93 (c - (d + 1)))) (by omega) (by omega)
    refine ⟨τ, t1, fun j => ?_, fun a b h => by rw [t3 a b h, sI_ne h]⟩
    rw [t2 j, sI_at, sI_ne (show (93 : Nat) ≠ 92 by decide)]
    by_cases h : 40 * s2 + y + (c - d) ≤ j ∧ j < 40 * s2 + y + c
    · rw [if_pos h, if_pos (by omega)]
    · rw [if_neg h]
      by_cases h' : j = 40 * s2 + y + (c - (d + 1))
      · rw [if_pos h', if_pos (by omega), h', show 40 * s2 + y + (c - (d + 1)) - (40 * s2 + y) = c - (d + 1) by omega]
      · rw [if_neg h', if_neg (by omega)]
theorem cp9 {σ : Sto} {s1 s2 x y c : Nat} (h1 : s1 < 4) (h2 : s2 < 4) (hx : x + c ≤ 40) (hy : y + c ≤ 40) : ∃ τ, f_X9_move_L115 (nI s1) (nI x) (nI s2) (nI y) (nI c) FU 0 σ = some (nI c, τ) ∧ (∀ j, τ.1 92 j = if 40 * s2 + y ≤ j ∧ j < 40 * s2 + y + c then σ.1 92 (40 * s1 + x + (j - (40 * s2 + y))) else σ.1 92 j) ∧ ∀ a b, a ≠ 92 → a ≠ 93 → τ.1 a b = σ.1 a b := by
  obtain ⟨α, a1, a2, a3⟩ := cp_L1 h1 hx (nI s2) (nI y) c FU σ (by omega) (by unfold FU; omega)
  obtain ⟨β, b1, b2, b3⟩ := cp_L2 h2 hy c FU α (by omega) (by unfold FU; omega)
  rw [Nat.sub_self] at a1 b1
  refine ⟨β, a1.trans b1, fun j => ?_, fun a b h h' => by rw [b3 a b h, a3 a b h']⟩
  rw [b2 j]
  by_cases h : 40 * s2 + y ≤ j ∧ j < 40 * s2 + y + c
  · rw [if_pos (by omega), if_pos h, a2, if_pos (by omega)]
  · rw [if_neg (by omega), if_neg h, a3 _ _ (by decide)]
theorem cpA_x {σ : Sto} {a b x y c : Nat} (ha : x + c ≤ Ln0 a) (hb : y + c ≤ Ln0 b) : cpA σ a (nI x) b (nI y) (nI c) = some (sW σ b (fun k => if y ≤ k ∧ k < y + c then σ.1 a (x + (k - y)) else σ.1 b k)) := by
  have l1 := Ln0_lt a
  have l2 := Ln0_lt b
  unfold cpA
  have ex : (nI x).toNatClampNeg = x := nI_clamp (by omega)
  have ey : (nI y).toNatClampNeg = y := nI_clamp (by omega)
  have ec : (nI c).toNatClampNeg = c := nI_clamp (by omega)
  rw [if_pos ⟨nI_pos (by omega), nI_pos (by omega), nI_pos (by omega), by rw [ex, ec]; exact ha, by rw [ey, ec]; exact hb⟩, ex, ey, ec]
  rfl
theorem holds_c {σ : Sto} {k n : Nat} (hn : n ≤ 40) (e : σ.1 k 1 = nI n) (a c : Int32) : (f_X4_holds σ k a c = some false ∧ (a < 0 ∨ c < 0 ∨ nI n - a < c)) ∨ ∃ x m, x + m ≤ n ∧ a = nI x ∧ c = nI m ∧ f_X4_holds σ k a c = some true := by
  unfold f_X4_holds
  by_cases ha : a < 0
  · exact Or.inl ⟨by rw [if_pos ha], Or.inl ha⟩
  · by_cases hc : c < 0
    · exact Or.inl ⟨by rw [if_neg ha, if_pos hc], Or.inr (Or.inl hc)⟩
    · obtain ⟨x, hx, rfl⟩ := nI_of ha
      obtain ⟨m, hm, rfl⟩ := nI_of hc
      rw [if_neg ha, if_neg hc, e]
      by_cases h1 : nI n < nI x
      · have h1' : n < x := (nI_ltI (by omega) hx).mp h1
        refine Or.inl ⟨by rw [if_pos h1], Or.inr (Or.inr ?_)⟩
        rw [Int32.lt_iff_toInt_lt, Int32.toInt_sub, nI_toInt (by omega), nI_toInt hx, nI_toInt hm, Int.bmod_eq_of_le (by omega) (by omega)]
        omega
      · have h1' : x ≤ n := by
          rw [nI_ltI (by omega) hx] at h1
          omega
        rw [if_neg h1]
        by_cases h2 : nI n - nI x < nI m
        · exact Or.inl ⟨by rw [if_pos h2], Or.inr (Or.inr h2)⟩
        · refine Or.inr ⟨x, m, ?_, rfl, rfl, by rw [if_neg h2]⟩
          rw [Int32.lt_iff_toInt_lt, Int32.toInt_sub, nI_toInt (by omega), nI_toInt hx, nI_toInt hm, Int.bmod_eq_of_le (by omega) (by omega)] at h2
          omega
theorem nI_sub {n x : Nat} (h : x ≤ n) (hn : n < 2 ^ 31) : (nI n - nI x : Int32) = nI (n - x) := by
  rw [← Int32.toInt_inj, Int32.toInt_sub, nI_toInt hn, nI_toInt (by omega), nI_toInt (by omega), Int.bmod_eq_of_le (by omega) (by omega)]
  omega
def movE (σ : Sto) (a2 a4 a5 n1 n2 : Int32) (X Y : Option (Int32 × Sto)) : Option (Int32 × Sto) := if a5 < 0 then X else if a2 < 0 then X else if a4 < 0 then X else if n1 - a2 < a5 then X else if a5 ≤ n2 - a4 then Y else X
theorem s_move (a1 a2 a3 a4 a5 : Int32) (b : Bool) : LPr (fun σ => f_X8_move σ a1 a2 a3 a4 a5) (fun σ => f_X9_move σ a1 a2 a3 a4 a5) b Inv Inv := by
  intro σ hI
  have er := fun (k : Nat) (h8 : f_X8_move σ a1 a2 a3 a4 a5 = some (-1000000000 - nI k, rf σ k)) (h9 : f_X9_move (rf σ k) a1 a2 a3 a4 a5 = some (-1000000000 - nI k, fi (rf σ k) k)) => er_LPr (f := fun σ => f_X8_move σ a1 a2 a3 a4 a5) (g := fun σ => f_X9_move σ a1 a2 a3 a4 a5) (b := b) hI h8 h9
  unfold f_X8_move f_X9_move f_X4_isMissing at er
  rcases shA8 σ a1 with ⟨hq, e⟩ | ⟨s, hs, rfl, hq, e⟩
  · rcases shA8 σ a3 with ⟨hq', e'⟩ | ⟨s', hs', rfl, hq', e'⟩
    · exact er 1 (by rw [e, bind_s, e', bind_s, onN_0, r8_1, bind_s]) (by rw [sheet_eq, bind_s, hq, if_neg (by decide), r9_1, bind_s])
    · exact er 1 (by rw [e, bind_s, e', bind_s, onN_0, r8_1, bind_s]) (by rw [sheet_eq, bind_s, hq, if_neg (by decide), r9_1, bind_s])
  · rcases shA8 σ a3 with ⟨hq', e'⟩ | ⟨s', hs', rfl, hq', e'⟩
    · exact er 1 (by rw [e, bind_s, e', bind_s, onN_1, onN_0, r8_1, bind_s]) (by rw [sheet_eq, bind_s, hq, if_pos (by decide), sheet_eq, bind_s, hq', if_neg (by decide), r9_1, bind_s])
    · obtain ⟨c1, c2, ⟨m, hm, c3⟩, c4⟩ := hI.1.2.2.2.2.1 s hs
      obtain ⟨d1, d2, ⟨m', hm', d3⟩, d4⟩ := hI.1.2.2.2.2.1 s' hs'
      have r90 : ∀ (τ : Sto) s, s < 4 → rdA τ 90 (nI s) = some (τ.1 90 s) := fun τ s hs => rd_nI (by show s < 4; exact hs)
      have r91 : ∀ (τ : Sto) s, s < 4 → rdA τ 91 (nI s) = some (τ.1 91 s) := fun τ s hs => rd_nI (by show s < 4; exact hs)
      by_cases h0 : σ.1 90 s = 0
      · exact er 2 (by rw [e, bind_s, e', bind_s, onN_1, onN_1, if_pos (sh_f s hs).1, c1, if_pos h0, bind_s, if_pos rfl, r8_2, bind_s]) (by rw [sheet_eq, bind_s, hq, if_pos (by decide), sheet_eq, bind_s, hq', if_pos (by decide), r90 _ s hs, bind_s, rf_at (by decide), if_pos h0, r9_2, bind_s])
      · by_cases h0' : σ.1 90 s' = 0
        · exact er 2 (by rw [e, bind_s, e', bind_s, onN_1, onN_1, if_pos (sh_f s hs).1, c1, if_neg h0, bind_s, if_neg (by decide), if_pos (sh_f s' hs').1, d1, if_pos h0', bind_s, if_pos rfl, r8_2, bind_s]) (by rw [sheet_eq, bind_s, hq, if_pos (by decide), sheet_eq, bind_s, hq', if_pos (by decide), r90 _ s hs, bind_s, rf_at (by decide), if_neg h0, r90 _ s' hs', bind_s, rf_at (by decide), if_pos h0', r9_2, bind_s])
        · by_cases hw : σ.1 90 s = σ.1 90 s'
          · -- what the reference does next
            have g9 : ∀ τ : Sto, τ.1 90 s = σ.1 90 s → τ.1 90 s' = σ.1 90 s' → τ.1 91 s = nI m → τ.1 91 s' = nI m' → f_X9_move τ (nI s) a2 (nI s') a4 a5 = movE τ a2 a4 a5 (nI m) (nI m') ((f_X9_finds τ (1 : Int32)).bind (fun r108 => some (r108.1, r108.2))) (f_X9_move_L115 (nI s) a2 (nI s') a4 a5 FU 0 τ) := by
              intro τ q1 q2 q3 q4
              unfold f_X9_move movE
              rw [sheet_eq, bind_s, hq, if_pos (by decide), sheet_eq, bind_s, hq', if_pos (by decide), r90 _ s hs, bind_s, q1, if_neg h0, r90 _ s' hs', bind_s, q2, if_neg h0', bind_s, bind_s, if_pos hw, r91 _ s hs, bind_s, q3, r91 _ s' hs', bind_s, q4]
            have g8 : f_X8_move σ (nI s) a2 (nI s') a4 a5 = ((f_X4_holds σ (73 + 2 * s) a2 a5).bind (fun r76 => if r76 = true then ((f_X4_holds σ (73 + 2 * s') a4 a5).bind (fun r88 => if r88 = true then ((cpA σ (A0 (73 + 2 * s) 0) a2 (A0 (73 + 2 * s') 0) a4 a5).bind (fun σ115 => some (a5, σ115))) else (f_X8_refuse σ (1 : Int32)).bind (fun r96 => some (r96.1, r96.2)))) else (f_X8_refuse σ (1 : Int32)).bind (fun r96 => some (r96.1, r96.2)))) := by
              unfold f_X8_move f_X4_isMissing
              rw [e, bind_s, e', bind_s, onN_1, onN_1, if_pos (sh_f s hs).1, c1, if_neg h0, bind_s, if_neg (by decide), if_pos (sh_f s' hs').1, d1, if_neg h0', bind_s, if_neg (by decide), if_pos hw]
            have er' := fun (h8 : f_X8_move σ (nI s) a2 (nI s') a4 a5 = some (-1000000000 - nI 1, rf σ 1)) (h9 : f_X9_move (rf σ 1) (nI s) a2 (nI s') a4 a5 = some (-1000000000 - nI 1, fi (rf σ 1) 1)) => er_LPr (f := fun σ => f_X8_move σ (nI s) a2 (nI s') a4 a5) (g := fun σ => f_X9_move σ (nI s) a2 (nI s') a4 a5) (b := b) hI h8 h9
            have g9r := g9 (rf σ 1) (rf_at (by decide)) (rf_at (by decide)) ((rf_at (by decide)).trans c3) ((rf_at (by decide)).trans d3)
            rw [r9_1, bind_s] at g9r
            rcases holds_c hm (c2.trans c3) a2 a5 with ⟨k1, k2⟩ | ⟨x, c, hx, rfl, rfl, k1⟩
            · refine er' (by rw [g8, k1, bind_s, if_neg (by decide), r8_1, bind_s]) ?_
              rw [g9r]
              unfold movE
              by_cases z5 : a5 < 0
              · rw [if_pos z5]
              · rw [if_neg z5]
                by_cases z2 : a2 < 0
                · rw [if_pos z2]
                · rw [if_neg z2]
                  by_cases z4 : a4 < 0
                  · rw [if_pos z4]
                  · rw [if_neg z4, if_pos ((k2.resolve_left z2).resolve_left z5)]
            · have n5 : ¬ nI c < 0 := nI_pos (by omega)
              have n2 : ¬ nI x < 0 := nI_pos (by omega)
              have nn : ¬ nI m - nI x < nI c := by rw [nI_sub (by omega) (by omega)]; exact nI_nlt (by omega) (by omega)
              rcases holds_c hm' (d2.trans d3) a4 (nI c) with ⟨k3, k4⟩ | ⟨y, c', hy, rfl, hcc, k3⟩
              · refine er' (by rw [g8, k1, bind_s, if_pos rfl, k3, bind_s, if_neg (by decide), r8_1, bind_s]) ?_
                rw [g9r]
                unfold movE
                rw [if_neg n5, if_neg n2]
                by_cases z4 : a4 < 0
                · rw [if_pos z4]
                · rw [if_neg z4, if_neg nn, if_neg (Int32.not_le.mpr ((k4.resolve_left z4).resolve_left n5))]
              · have : c = c' := (nI_eq (by omega) (by omega)).mp hcc
                subst this
                obtain ⟨-, A1, A2⟩ := sh_f s hs
                obtain ⟨-, B1, B2⟩ := sh_f s' hs'
                generalize hτ : sW σ (74 + 2 * s') (fun k => if y ≤ k ∧ k < y + c then σ.1 (74 + 2 * s) (x + (k - y)) else σ.1 (74 + 2 * s') k) = τ
                have oτ : ∀ k j, k ≠ 74 + 2 * s' → τ.1 k j = σ.1 k j := fun k j hk => by rw [← hτ, sW_ne hk]
                obtain ⟨υ, u1, u2, u3⟩ := cp9 (σ := τ) hs hs' (x := x) (y := y) (c := c) (by omega) (by omega)
                refine ⟨(nI c, τ), (nI c, υ), ?_, ?_, fun _ => rfl, hI.sh (fun k j hsc n1 n2 => by rw [u3 k j (by omega) (by rintro rfl; simp [scr] at hsc), oτ k j (by omega)]) (fun r hr => ?_)⟩
                · show f_X8_move σ (nI s) (nI x) (nI s') (nI y) (nI c) = _
                  rw [g8, k1, bind_s, if_pos rfl, k3, bind_s, if_pos rfl, A1, B1, cpA_x (by omega) (by omega), bind_s, hτ]
                · show f_X9_move τ (nI s) (nI x) (nI s') (nI y) (nI c) = _
                  rw [g9 τ (oτ _ _ (by omega)) (oτ _ _ (by omega)) ((oτ _ _ (by omega)).trans c3) ((oτ _ _ (by omega)).trans d3)]
                  unfold movE
                  rw [if_neg n5, if_neg n2, if_neg (nI_pos (by omega)), if_neg nn, nI_sub (by omega) (by omega), if_pos (nI_le (by omega) (by omega))]
                  exact u1
                · obtain ⟨q1, q2, q3, q4⟩ := hI.1.2.2.2.2.1 r hr
                  refine ⟨?_, ?_, ?_, fun i hi => ?_⟩
                  · rw [u3 _ _ (by omega) (by omega), u3 _ _ (by omega) (by omega), oτ _ _ (by omega), oτ _ _ (by omega)]; exact q1
                  · rw [u3 _ _ (by omega) (by omega), u3 _ _ (by omega) (by omega), oτ _ _ (by omega), oτ _ _ (by omega)]; exact q2
                  · rw [u3 _ _ (by omega) (by omega), oτ _ _ (by omega)]; exact q3
                  · rw [u3 _ _ (by omega) (by omega), u2, oτ 92 _ (by omega), oτ 92 _ (by omega)]
                    by_cases hrs : r = s'
                    · subst hrs
                      rw [← hτ, sW_at]
                      by_cases hy' : y ≤ i ∧ i < y + c
                      · rw [if_pos hy', if_pos (by omega), c4 _ (by omega)]
                        exact congrArg _ (by omega)
                      · rw [if_neg hy', if_neg (by omega)]; exact q4 i hi
                    · rw [oτ _ _ (by omega), if_neg (by omega)]; exact q4 i hi
          · exact er 5 (by rw [e, bind_s, e', bind_s, onN_1, onN_1, if_pos (sh_f s hs).1, c1, if_neg h0, bind_s, if_neg (by decide), if_pos (sh_f s' hs').1, d1, if_neg h0', bind_s, if_neg (by decide), if_neg hw, r8_5, bind_s]) (by rw [sheet_eq, bind_s, hq, if_pos (by decide), sheet_eq, bind_s, hq', if_pos (by decide), r90 _ s hs, bind_s, rf_at (by decide), if_neg h0, r90 _ s' hs', bind_s, rf_at (by decide), if_neg h0', bind_s, bind_s, if_neg hw, r9_5, bind_s])
/-! Lakes copied whole: image, restore; a new swimmer. -/
theorem copy6g (σ : Sto) {t k : Nat} (ht : K0 t = 6) (hk : K0 k = 6) (hd : t + 1 < k ∨ k + 1 < t) : ∃ τ, f_X6_copy σ t k = some τ ∧ Eq9 (S8 τ t) (S8 σ k) ∧ ∀ a b, a ≠ t → a ≠ t + 1 → τ.1 a b = σ.1 a b := by
  obtain ⟨k1, k2, -⟩ := sw6 hk
  obtain ⟨t1, t2, -⟩ := sw6 ht
  have hkt : k ≠ t := by omega
  unfold f_X6_copy
  simp only [lp_b, sI_ne hkt]
  generalize hρ : sI (sI (sI (sI (sI σ t 0 (σ.1 k 0)) t 1 (σ.1 k 1)) t 2 (σ.1 k 2)) t 3 (σ.1 k 3)) t 4 (σ.1 k 4) = ρ
  have r1 : ∀ a b, a ≠ t → ρ.1 a b = σ.1 a b := fun a b h => by rw [← hρ, sI_ne h, sI_ne h, sI_ne h, sI_ne h, sI_ne h]
  have r2 : ∀ j, j < 5 → ρ.1 t j = σ.1 k j := by
    intro j hj
    rw [← hρ, sI_at, sI_at, sI_at, sI_at, sI_at]
    rcases (show j = 0 ∨ j = 1 ∨ j = 2 ∨ j = 3 ∨ j = 4 by omega) with rfl | rfl | rfl | rfl | rfl <;> rfl
  rw [k1, t1, show (4 : Int32) = nI 4 from rfl, cpA_n (by omega) (by omega), bind_s]
  refine ⟨_, rfl, fun j hj => ?_, fun a b h1 h2 => by rw [sW_ne h2, r1 a b h1]⟩
  unfold S8
  by_cases h : j < 5
  · rw [if_pos h, if_pos h, sW_ne (by omega), r2 j h]
  · rw [if_neg h, if_neg h, sW_at, if_pos (by omega), r1 _ _ (by omega)]
theorem x1copy (σ : Sto) {k m : Nat} (hk : k = 4 ∨ k = 7 ∨ k = 31 ∨ k = 34) (hm : m = 4 ∨ m = 7 ∨ m = 31 ∨ m = 34) (hkm : k ≠ m) : ∃ τ, f_X1_copy σ k m = some τ ∧ τ.1 k 3 = σ.1 m 3 ∧ (∀ i, i < 50 → τ.1 (k + 1) i = σ.1 (m + 1) i) ∧ ∀ a b, ¬ (a = k ∧ b = 3) → a ≠ k + 1 → τ.1 a b = σ.1 a b := by
  have f : ∀ x, x = 4 ∨ x = 7 ∨ x = 31 ∨ x = 34 → A0 x 1 = x + 1 ∧ Ln0 (x + 1) = 50 := by rintro x (rfl | rfl | rfl | rfl) <;> decide
  obtain ⟨k1, k2⟩ := f k hk
  obtain ⟨m1, m2⟩ := f m hm
  unfold f_X1_copy
  rw [lp_b, k1, m1, show (50 : Int32) = nI 50 from rfl, cpA_n (by omega) (by omega), bind_s]
  refine ⟨_, rfl, ?_, fun i hi => ?_, fun a b h1 h2 => ?_⟩
  · rw [sW_ne (by omega), sI_at, if_pos rfl]
  · rw [sW_at, if_pos hi, sI_ne (by omega)]
  · rw [sW_ne h2]
    show (if a = k ∧ b = 3 then _ else σ.1 a b) = _
    rw [if_neg h1]
theorem lake_f : ∀ p, p < 8 → R0 3 p = some (12 + 2 * p) ∧ R0 30 p = some (39 + 2 * p) ∧ K0 (12 + 2 * p) = 6 ∧ K0 (39 + 2 * p) = 6 := by decide
theorem sA_k {σ : Sto} {k0 N p : Nat} (hk0 : k0 = 1 ∨ k0 = 28) (hN : N ≤ 8) (e : σ.1 k0 8 = nI N) (hp : p < N) : f_X0_swimmerAt σ k0 (nI p) = some (some (k0 + 11 + 2 * p)) := by
  unfold f_X0_swimmerAt
  rw [out_eq, bind_s, e, isO_ge hN hp, if_neg (by decide), if_pos (show nI p < 8 from nI_lt (b := 8) (by omega) (by omega))]
  rcases hk0 with rfl | rfl
  · rw [show A0 1 7 = 3 by decide, rdR_nI (by show p < 8; omega), bind_s, (lake_f p (by omega)).1, show 1 + 11 + 2 * p = 12 + 2 * p by omega]
  · rw [show A0 28 7 = 30 by decide, rdR_nI (by show p < 8; omega), bind_s, (lake_f p (by omega)).2.1, show 28 + 11 + 2 * p = 39 + 2 * p by omega]
theorem sw_K {k0 p : Nat} (hk0 : k0 = 1 ∨ k0 = 28) (hp : p < 8) : K0 (k0 + 11 + 2 * p) = 6 := by
  obtain ⟨-, -, h1, h2⟩ := lake_f p hp
  rcases hk0 with rfl | rfl
  · rw [show 1 + 11 + 2 * p = 12 + 2 * p by omega]; exact h1
  · rw [show 28 + 11 + 2 * p = 39 + 2 * p by omega]; exact h2
theorem swc_L {k0 k1 N : Nat} (hk : (k0 = 28 ∧ k1 = 1) ∨ (k0 = 1 ∧ k1 = 28)) (hN : N ≤ 8) : ∀ (d n : Nat) (σ : Sto), d ≤ N → d < n → σ.1 k0 8 = nI N → σ.1 k1 8 = nI N → ∃ τ, f_X0_copy_L149 k0 k1 n (nI (N - d)) σ = some τ ∧ (∀ p, N - d ≤ p → p < N → Eq9 (S8 τ (k0 + 11 + 2 * p)) (S8 σ (k1 + 11 + 2 * p))) ∧ ∀ a b, ¬ (k0 + 11 + 2 * (N - d) ≤ a ∧ a < k0 + 11 + 2 * N) → τ.1 a b = σ.1 a b := by
  intro d
  induction d with
  | zero =>
    intro n σ _ hn e0 _
    obtain ⟨n, rfl⟩ : ∃ n', n = n' + 1 := ⟨n - 1, by omega⟩
    rw [f_X0_copy_L149, e0, if_pos (nI_le (by omega) (by omega))]
    exact ⟨σ, rfl, fun p h1 h2 => by omega, fun _ _ _ => rfl⟩
  | succ d ih =>
    intro n σ hd hn e0 e1
    obtain ⟨n, rfl⟩ : ∃ n', n = n' + 1 := ⟨n - 1, by omega⟩
    have e : N - d = (N - (d + 1)) + 1 := by omega
    have hpN : N - (d + 1) < N := by omega
    obtain ⟨τ, t1, t2, t3⟩ := copy6g σ (t := k0 + 11 + 2 * (N - (d + 1))) (k := k1 + 11 + 2 * (N - (d + 1))) (sw_K (by omega) (by omega)) (sw_K (by omega) (by omega)) (by omega)
    obtain ⟨υ, u1, u2, u3⟩ := ih n τ (by omega) (by omega) (by rw [t3 _ _ (by omega) (by omega)]; exact e0) (by rw [t3 _ _ (by omega) (by omega)]; exact e1)
    rw [f_X0_copy_L149, e0, if_neg (nI_ge (by omega) (by omega)), sA_k (by omega) hN e0 hpN, bind_s, sA_k (by omega) hN e1 hpN, bind_s, onN_1, onN_1, if_pos (sw_K (by omega) (by omega)), if_pos (sw_K (by omega) (by omega)), t1, bind_s]
    unfold f_X0_copy_L185
    rw [nI_1, ← e]
    refine ⟨υ, u1, fun p h1 h2 => ?_, fun a b h => by rw [u3 a b (by omega), t3 a b (by omega) (by omega)]⟩
    by_cases hp : p = N - (d + 1)
    · subst hp
      rw [S8_congr (fun j => u3 _ j (by omega)) (fun j => u3 _ j (by omega))]
      exact t2
    · refine (u2 p (by omega) h2).tr (fun j hj => ?_)
      rw [S8_congr (fun j => t3 _ j (by omega) (by omega)) (fun j => t3 _ j (by omega) (by omega))]
theorem x0copy (σ : Sto) {k0 k1 N : Nat} (hk : (k0 = 28 ∧ k1 = 1) ∨ (k0 = 1 ∧ k1 = 28)) (hN : N ≤ 8) (eN : σ.1 k1 8 = nI N) :
    ∃ τ, f_X0_copy σ k0 k1 = some τ ∧ (∀ q ∈ mpL, τ.1 k0 q.2 = σ.1 k1 q.2) ∧ (∀ i, i < 6 → τ.1 (k0 + 1) i = σ.1 (k1 + 1) i) ∧ (∀ i, i < 50 → τ.1 (k0 + 9) i = σ.1 (k1 + 9) i) ∧ (∀ i, i < 20 → τ.1 (k0 + 10) i = σ.1 (k1 + 10) i) ∧ (τ.1 (k0 + 3) 3 = σ.1 (k1 + 3) 3 ∧ ∀ i, i < 50 → τ.1 (k0 + 4) i = σ.1 (k1 + 4) i) ∧ (τ.1 (k0 + 6) 3 = σ.1 (k1 + 6) 3 ∧ ∀ i, i < 50 → τ.1 (k0 + 7) i = σ.1 (k1 + 7) i) ∧ (∀ p, p < N → Eq9 (S8 τ (k0 + 11 + 2 * p)) (S8 σ (k1 + 11 + 2 * p))) ∧ (∀ j, j ≠ 3 → τ.1 (k0 + 3) j = σ.1 (k0 + 3) j ∧ τ.1 (k0 + 6) j = σ.1 (k0 + 6) j) ∧ ∀ a b, ¬ (k0 ≤ a ∧ a ≤ k0 + 26) → τ.1 a b = σ.1 a b := by
  have hne : k1 ≠ k0 := by omega
  have A : A0 k0 9 = k0 + 3 ∧ A0 k0 10 = k0 + 6 ∧ A0 k0 0 = k0 + 1 ∧ A0 k0 11 = k0 + 9 ∧ A0 k0 13 = k0 + 10 ∧ A0 k1 9 = k1 + 3 ∧ A0 k1 10 = k1 + 6 ∧ A0 k1 0 = k1 + 1 ∧ A0 k1 11 = k1 + 9 ∧ A0 k1 13 = k1 + 10 := by rcases hk with ⟨rfl, rfl⟩ | ⟨rfl, rfl⟩ <;> decide
  have L : Ln0 (k0 + 1) = 6 ∧ Ln0 (k0 + 9) = 50 ∧ Ln0 (k0 + 10) = 20 ∧ Ln0 (k1 + 1) = 6 ∧ Ln0 (k1 + 9) = 50 ∧ Ln0 (k1 + 10) = 20 := by rcases hk with ⟨rfl, rfl⟩ | ⟨rfl, rfl⟩ <;> decide
  obtain ⟨A1, A2, A3, A4, A5, B1, B2, B3, B4, B5⟩ := A
  obtain ⟨L1, L2, L3, M1, M2, M3⟩ := L
  unfold f_X0_copy
  simp only [lp_b, sI_ne hne]
  generalize hρ : sI (sI (sI (sI (sI (sI (sI (sI (sI (sI σ k0 1 (σ.1 k1 1)) k0 2 (σ.1 k1 2)) k0 3 (σ.1 k1 3)) k0 4 (σ.1 k1 4)) k0 5 (σ.1 k1 5)) k0 6 (σ.1 k1 6)) k0 8 (σ.1 k1 8)) k0 12 (σ.1 k1 12)) k0 14 (σ.1 k1 14)) k0 15 (σ.1 k1 15) = ρ
  have r1 : ∀ a b, a ≠ k0 → ρ.1 a b = σ.1 a b := fun a b h => by rw [← hρ, sI_ne h, sI_ne h, sI_ne h, sI_ne h, sI_ne h, sI_ne h, sI_ne h, sI_ne h, sI_ne h, sI_ne h]
  have r2 : ∀ q ∈ mpL, ρ.1 k0 q.2 = σ.1 k1 q.2 := by
    intro q hq
    rw [← hρ, sI_at, sI_at, sI_at, sI_at, sI_at, sI_at, sI_at, sI_at, sI_at, sI_at]
    simp only [mpL, List.mem_cons, List.not_mem_nil, or_false] at hq
    rcases hq with rfl | rfl | rfl | rfl | rfl | rfl | rfl | rfl | rfl | rfl <;> rfl
  obtain ⟨α, a1, a2, a3, a4⟩ := x1copy ρ (k := k0 + 3) (m := k1 + 3) (by omega) (by omega) (by omega)
  obtain ⟨β, b1, b2, b3, b4⟩ := x1copy α (k := k0 + 6) (m := k1 + 6) (by omega) (by omega) (by omega)
  rw [A1, A2, A3, A4, A5, B1, B2, B3, B4, B5, a1, bind_s, b1, bind_s, show (6 : Int32) = nI 6 from rfl, show (50 : Int32) = nI 50 from rfl, show (20 : Int32) = nI 20 from rfl, cpA_n (by omega) (by omega), bind_s, cpA_n (by omega) (by omega), bind_s, cpA_n (by omega) (by omega), bind_s]
  generalize hγ : sW (sW (sW β (k0 + 1) _) (k0 + 9) _) (k0 + 10) _ = γ
  have g1 : ∀ i, i < 6 → γ.1 (k0 + 1) i = β.1 (k1 + 1) i := fun i hi => by rw [← hγ, sW_ne (by omega), sW_ne (by omega), sW_at, if_pos hi]
  have g2 : ∀ i, i < 50 → γ.1 (k0 + 9) i = β.1 (k1 + 9) i := fun i hi => by rw [← hγ, sW_ne (by omega), sW_at, if_pos hi, sW_ne (by omega)]
  have g3 : ∀ i, i < 20 → γ.1 (k0 + 10) i = β.1 (k1 + 10) i := fun i hi => by rw [← hγ, sW_at, if_pos hi, sW_ne (by omega), sW_ne (by omega)]
  have g4 : ∀ a b, a ≠ k0 + 1 → a ≠ k0 + 9 → a ≠ k0 + 10 → γ.1 a b = β.1 a b := fun a b h1 h2 h3 => by rw [← hγ, sW_ne h3, sW_ne h2, sW_ne h1]
  have o : ∀ a b, ¬ (k0 ≤ a ∧ a ≤ k0 + 10) → γ.1 a b = σ.1 a b := fun a b h => by rw [g4 a b (by omega) (by omega) (by omega), b4 a b (by omega) (by omega), a4 a b (by omega) (by omega), r1 a b (by omega)]
  have oβ : ∀ a b, ¬ (k0 ≤ a ∧ a ≤ k0 + 10) → β.1 a b = σ.1 a b := fun a b h => by rw [b4 a b (by omega) (by omega), a4 a b (by omega) (by omega), r1 a b (by omega)]
  have gk : ∀ j, γ.1 k0 j = ρ.1 k0 j := fun j => by rw [g4 _ _ (by omega) (by omega) (by omega), b4 _ _ (by omega) (by omega), a4 _ _ (by omega) (by omega)]
  obtain ⟨τ, t1, t2, t3⟩ := swc_L hk hN N FU γ (by omega) (by unfold FU; omega) (by rw [gk, r2 (12, 8) (by decide)]; exact eN) (by rw [o _ _ (by omega)]; exact eN)
  rw [Nat.sub_self] at t1 t2 t3
  have tl : ∀ a b, a < k0 + 11 → τ.1 a b = γ.1 a b := fun a b h => t3 a b (by omega)
  refine ⟨τ, t1, fun q hq => ?_, fun i hi => ?_, fun i hi => ?_, fun i hi => ?_, ⟨?_, fun i hi => ?_⟩, ⟨?_, fun i hi => ?_⟩, fun p hp => ?_, fun j hj => ⟨?_, ?_⟩, fun a b h => by rw [t3 a b (by omega), o a b (by omega)]⟩
  · rw [tl _ _ (by omega), gk, r2 q hq]
  · rw [tl _ _ (by omega), g1 i hi, oβ _ _ (by omega)]
  · rw [tl _ _ (by omega), g2 i hi, oβ _ _ (by omega)]
  · rw [tl _ _ (by omega), g3 i hi, oβ _ _ (by omega)]
  · rw [tl _ _ (by omega), g4 _ _ (by omega) (by omega) (by omega), b4 _ _ (by omega) (by omega), a2, r1 _ _ (by omega)]
  · rw [tl _ _ (by omega), g4 _ _ (by omega) (by omega) (by omega), b4 _ _ (by omega) (by omega), show k0 + 4 = k0 + 3 + 1 by omega, a3 i hi, r1 _ _ (by omega)]
  · rw [tl _ _ (by omega), g4 _ _ (by omega) (by omega) (by omega), b2, a4 _ _ (by omega) (by omega), r1 _ _ (by omega)]
  · rw [tl _ _ (by omega), g4 _ _ (by omega) (by omega) (by omega), show k0 + 7 = k0 + 6 + 1 by omega, b3 i hi, a4 _ _ (by omega) (by omega), r1 _ _ (by omega)]
  · refine (t2 p (by omega) hp).tr (fun j hj => ?_)
    rw [S8_congr (fun j => o _ j (by omega)) (fun j => o _ j (by omega))]
  · rw [tl _ _ (by omega), g4 _ _ (by omega) (by omega) (by omega), b4 _ _ (by omega) (by omega), a4 _ _ (by omega) (by omega), r1 _ _ (by omega)]
  · rw [tl _ _ (by omega), g4 _ _ (by omega) (by omega) (by omega), b4 _ _ (by omega) (by omega), a4 _ _ (by omega) (by omega), r1 _ _ (by omega)]
theorem CD.copy {k k' A A' u : Nat} (hu : u ≤ 1) {σ υ : Sto} (h : CD k A u σ) (h1 : υ.1 k' 3 = σ.1 k 3) (h2 : ∀ i, i < 50 → υ.1 (k' + 1) i = σ.1 (k + 1) i) (h3 : ∀ i, i < 270 → υ.1 A' i = σ.1 A i) : CD k' A' u υ := by
  obtain ⟨n, q1, q2, q3, q4, q5⟩ := h
  refine ⟨n, q1, by rw [h1]; exact q2, by rw [h3 _ (by omega)]; exact q3, fun i hi => by rw [h2 i (by omega), h3 _ (by omega)]; exact q4 i hi, q5.imp id (fun q => ?_)⟩
  rw [show codeL (υ.1 A') u n = codeL (σ.1 A) u n from List.map_congr_left (fun i hi => h3 _ (by have := List.mem_range.mp hi; omega))]
  exact q
theorem okv_hi {i : Nat} (h : 270 ≤ i) (v : Int32) : okv i v = true := by
  unfold okv
  rw [if_neg (by omega), if_neg (by omega), if_neg (by omega), if_neg (by omega), if_neg (by omega), if_neg (by omega)]
/-- a lake copied by both -/
theorem LR.copy {k0 k1 A A' : Nat} {σ τ υ : Sto} (hk : (k0 = 28 ∧ k1 = 1 ∧ A = 82 ∧ A' = 84) ∨ (k0 = 1 ∧ k1 = 28 ∧ A = 84 ∧ A' = 82)) (h : LR k1 A σ) (e : f_X0_copy σ k0 k1 = some τ) (hr : ∀ i, i < 270 → υ.1 A' i = σ.1 A i) (hl : ∀ a b, k0 ≤ a → a ≤ k0 + 26 → υ.1 a b = τ.1 a b) : LR k0 A' υ := by
  obtain ⟨h1, h2, h3, h4, h5, h6, h7, h8⟩ := h
  obtain ⟨N, hN, eA, eN⟩ := okv_12 h4
  have e8 : σ.1 k1 8 = nI N := (h2 (12, 8) (by decide)).trans eA
  obtain ⟨τ', t1, t2, t3, t4, t5, t6, t7, t8, -, -⟩ := x0copy σ (k0 := k0) (k1 := k1) (by omega) hN e8
  rw [e] at t1
  cases t1
  have eN' : NN (υ.1 A') = N := by unfold NN; rw [hr 12 (by decide), eA, nI_clamp (by omega)]
  refine ⟨fun i hi => ?_, fun q hq => ?_, fun p j hp hj => ?_, fun i => ?_, fun i hi => ?_, fun i hi => ?_, h7.copy (by decide) ?_ (fun i hi => ?_) hr, h8.copy (by decide) ?_ (fun i hi => ?_) hr⟩
  · rw [hl _ _ (by omega) (by omega), t3 i hi, hr _ (by omega)]; exact h1 i hi
  · rw [hl _ _ (by omega) (by omega), t2 q hq, hr _ (by have := mp_lo q hq; omega)]; exact h2 q hq
  · rw [eN'] at hp
    rw [S8_congr (fun j => hl _ j (by omega) (by omega)) (fun j => hl _ j (by omega) (by omega)), t8 p hp j hj]
    unfold S9
    rw [hr _ (by omega)]
    exact h3 p j (by rw [eN]; exact hp) hj
  · by_cases hi : i < 270
    · rw [hr i hi]; exact h4 i
    · exact okv_hi (by omega) _
  · rw [hl _ _ (by omega) (by omega), t5 i hi, hr _ (by omega)]; exact h5 i hi
  · rw [hl _ _ (by omega) (by omega), t4 i hi, hr _ (by omega)]; exact h6 i hi
  · rw [hl _ _ (by omega) (by omega)]; exact t6.1
  · rw [hl _ _ (by omega) (by omega)]; exact t6.2 i hi
  · rw [hl _ _ (by omega) (by omega)]; exact t7.1
  · rw [hl _ _ (by omega) (by omega)]; exact t7.2 i hi
theorem s_image (b : Bool) : LPr (fun σ => f_X8_image σ) (fun σ => f_X9_image σ) b Inv Inv := by
  intro σ hI
  obtain ⟨N, hN, -, e8, -⟩ := hI.1.N
  obtain ⟨τ, t1, t2, t3, t4, t5, t6, t7, t8, t9, t10⟩ := x0copy σ (k0 := 28) (k1 := 1) (Or.inl ⟨rfl, rfl⟩) hN e8
  generalize hτ' : sI τ 0 10 (τ.1 0 10 + 1) = τ'
  have o1 : ∀ a b, a ≠ 0 → τ'.1 a b = τ.1 a b := fun a b h => by rw [← hτ', sI_ne h]
  obtain ⟨χ, c1, c2, c3⟩ := copies9 (a := 82) (b := 84) (by decide) (by decide) (by decide) τ'
  have e0 : τ.1 0 10 = σ.1 81 3 := by rw [t10 0 10 (by omega)]; exact hI.1.2.1
  have e81 : χ.1 81 3 = σ.1 81 3 := by rw [c3 81 3 (by decide), o1 81 3 (by decide), t10 81 3 (by omega)]
  refine ⟨(τ.1 0 10 + 1, τ'), (σ.1 81 3 + 1, sI χ 81 3 (σ.1 81 3 + 1)), ?_, ?_, fun _ => by show τ.1 0 10 + 1 = _; rw [e0], ?_⟩
  · show f_X8_image σ = _
    unfold f_X8_image
    rw [t1, bind_s, lp_b, hτ', ← hτ', sI_at, if_pos rfl]
  · show f_X9_image τ' = _
    unfold f_X9_image
    rw [c1, bind_s, lp_b, e81, sI_at, if_pos rfl]
  · have keep : ∀ a b, ¬ (28 ≤ a ∧ a ≤ 54) → a ≠ 84 → a ≠ 0 → ¬ (a = 81 ∧ b = 3) → (sI χ 81 3 (σ.1 81 3 + 1)).1 a b = σ.1 a b := by
      intro a b h1 h2 h3 h4
      show (if a = 81 ∧ b = 3 then _ else χ.1 a b) = _
      rw [if_neg h4, c3 a b h2, o1 a b h3, t10 a b (by omega)]
    obtain ⟨⟨q1, q2, q3, q4, q5, q6⟩, q7⟩ := hI
    refine ⟨⟨q1.keep (fun k j hk => keep k j (by unfold lkc at hk; omega) (by unfold lkc at hk; omega) (by unfold lkc at hk; omega) (by unfold lkc at hk; omega)), ?_, fun _ => ?_, q4.keep (keep _ _ (by omega) (by decide) (by decide) (by omega)) (keep _ _ (by omega) (by decide) (by decide) (by omega)) (fun j => keep _ _ (by omega) (by decide) (by decide) (by omega)) (fun j => keep _ _ (by omega) (by decide) (by decide) (by omega)), q5.keep (fun k j hk => keep k j (by omega) (by omega) (by omega) (by omega)), by unfold US; rw [keep 4 0 (by omega) (by decide) (by decide) (by omega), keep 7 0 (by omega) (by decide) (by decide) (by omega)]; exact q6⟩, fun k hk => by rw [keep 68 k (by omega) (by decide) (by decide) (by omega), keep 85 k (by omega) (by decide) (by decide) (by omega)]; exact q7 k hk⟩
    · rw [sI_ne (by decide), sI_at, if_pos rfl, c3 0 10 (by decide), ← hτ', sI_at, if_pos rfl, e0]
    · refine LR.copy (k0 := 28) (k1 := 1) (A := 82) (A' := 84) (Or.inl ⟨rfl, rfl, rfl, rfl⟩) q1 t1 (fun i hi => ?_) (fun a b h1 h2 => ?_)
      · rw [sI_ne (by decide), c2 i, if_pos hi, o1 82 i (by decide), t10 82 i (by omega)]
      · rw [sI_ne (by omega), c3 a b (by omega), o1 a b (by omega)]
theorem s_restore (b : Bool) : LPr (fun σ => f_X8_restore σ) (fun σ => f_X9_restore σ) b Inv Inv := by
  intro σ hI
  have e0 : σ.1 0 10 = σ.1 81 3 := hI.1.2.1
  by_cases h0 : σ.1 81 3 = 0
  · refine er_LPr (f := fun σ => f_X8_restore σ) (g := fun σ => f_X9_restore σ) (k := 2) hI ?_ ?_
    · show f_X8_restore σ = _
      unfold f_X8_restore
      rw [e0, if_pos h0, r8_2, bind_s]
    · show f_X9_restore (rf σ 2) = _
      unfold f_X9_restore
      rw [rf_at (by decide), if_pos h0, r9_2, bind_s]
  · have hL := hI.1.2.2.1 h0
    obtain ⟨N, hN, eA, eN⟩ := okv_12 hL.2.2.2.1
    have e8 : σ.1 28 8 = nI N := (hL.2.1 (12, 8) (by decide)).trans eA
    obtain ⟨τ, t1, t2, t3, t4, t5, t6, t7, t8, t9, t10⟩ := x0copy σ (k0 := 1) (k1 := 28) (Or.inr ⟨rfl, rfl⟩) hN e8
    obtain ⟨χ, c1, c2, c3⟩ := copies9 (a := 84) (b := 82) (by decide) (by decide) (by decide) τ
    have hχ : LR 1 82 χ := LR.copy (k0 := 1) (k1 := 28) (A := 84) (A' := 82) (Or.inr ⟨rfl, rfl, rfl, rfl⟩) hL t1 (fun i hi => by rw [c2 i, if_pos hi, t10 84 i (by omega)]) (fun a b h1 h2 => c3 a b (by omega))
    refine ⟨(τ.1 1 4, τ), (χ.1 82 11, χ), ?_, ?_, fun _ => ?_, ?_⟩
    · show f_X8_restore σ = _
      unfold f_X8_restore
      rw [e0, if_neg h0, t1, bind_s]
    · show f_X9_restore τ = _
      unfold f_X9_restore
      rw [t10 81 3 (by omega), if_neg h0, c1, bind_s, rdA_82_11, bind_s]
    · show τ.1 1 4 = χ.1 82 11
      rw [← c3 1 4 (by decide)]
      exact hχ.2.1 (11, 4) (by decide)
    · have keep : ∀ a b, ¬ (1 ≤ a ∧ a ≤ 27) → a ≠ 82 → χ.1 a b = σ.1 a b := fun a b h1 h2 => by rw [c3 a b h2, t10 a b (by omega)]
      refine ⟨hI.1.lake hχ (fun k j h1 h2 _ _ => ?_) ⟨by rw [c3 4 0 (by decide)]; exact (t9 0 (by decide)).1, by rw [c3 7 0 (by decide)]; exact (t9 0 (by decide)).2⟩, fun k hk => by rw [keep 68 k (by omega) (by decide), keep 85 k (by omega) (by decide)]; exact hI.2 k hk⟩
      have hk : ¬ (1 ≤ k ∧ k ≤ 27) := by
        intro hk
        have : k = 6 ∨ k = 9 := by unfold lkc at h1; omega
        rcases this with rfl | rfl <;> simp [scr] at h2
      exact keep k j hk (by unfold lkc at h1; omega)
/-! A new swimmer; bytes to the tape. -/
theorem byte_k (a b : BitVec 64) (h : ∀ k, k < 8 → a.getLsbD k = b.getLsbD k) : a.signExtend 32 &&& 255#32 = (b &&& 255#64).signExtend 32 := by
  apply BitVec.eq_of_getLsbD_eq
  intro k hk
  have e32 : (255#32 : BitVec 32).getLsbD k = decide (k < 8) := (show ∀ k, k < 32 → (255#32 : BitVec 32).getLsbD k = decide (k < 8) by decide) k hk
  have e64 : (255#64 : BitVec 64).getLsbD k = decide (k < 8) := (show ∀ k, k < 32 → (255#64 : BitVec 64).getLsbD k = decide (k < 8) by decide) k hk
  rw [BitVec.getLsbD_and, BitVec.getLsbD_signExtend, BitVec.getLsbD_signExtend, BitVec.getLsbD_and, e32, e64]
  have h64 : k < 64 := by omega
  by_cases h8 : k < 8
  · rw [if_pos h64, if_pos h64, h k h8, decide_eq_true h8]
    simp [hk]
  · rw [if_pos h64, if_pos h64, decide_eq_false h8]
    simp
theorem byte_eq (x : Int64) : ∀ i, i < 8 → Int64.toInt32 (lushr x (8 * nI i)) &&& 255 = Int64.toInt32 (lshr x (8 * nI i) &&& 255) := by
  intro i hi
  have key : ∀ n : Nat, n ≤ 56 → ∀ k, k < 8 → (x.toBitVec >>> n).getLsbD k = (x.toBitVec.sshiftRight n).getLsbD k := by
    intro n hn k hk
    rw [BitVec.getLsbD_ushiftRight, BitVec.getLsbD_sshiftRight]
    simp [show n + k < 64 by omega, show ¬ 64 ≤ k by omega]
  rcases (show i = 0 ∨ i = 1 ∨ i = 2 ∨ i = 3 ∨ i = 4 ∨ i = 5 ∨ i = 6 ∨ i = 7 by omega) with rfl | rfl | rfl | rfl | rfl | rfl | rfl | rfl
  · exact Int32.toBitVec_inj.mp (byte_k _ _ (key 0 (by omega)))
  · exact Int32.toBitVec_inj.mp (byte_k _ _ (key 8 (by omega)))
  · exact Int32.toBitVec_inj.mp (byte_k _ _ (key 16 (by omega)))
  · exact Int32.toBitVec_inj.mp (byte_k _ _ (key 24 (by omega)))
  · exact Int32.toBitVec_inj.mp (byte_k _ _ (key 32 (by omega)))
  · exact Int32.toBitVec_inj.mp (byte_k _ _ (key 40 (by omega)))
  · exact Int32.toBitVec_inj.mp (byte_k _ _ (key 48 (by omega)))
  · exact Int32.toBitVec_inj.mp (byte_k _ _ (key 56 (by omega)))
theorem byte_r (y : Int32) : isO (y &&& 255) 0 255 = false := by
  have h : (y &&& 255).toBitVec.toNat ≤ 255 := by
    show (y.toBitVec &&& 255#32).toNat ≤ 255
    rw [BitVec.toNat_and]
    exact Nat.and_le_right
  have e : y &&& 255 = nI (y &&& 255).toBitVec.toNat := by
    apply Int32.toBitVec_inj.mp
    apply BitVec.eq_of_toNat_eq
    show _ = (BitVec.ofNat 32 (y &&& 255).toBitVec.toNat).toNat
    rw [BitVec.toNat_ofNat, Nat.mod_eq_of_lt (by omega)]
  rw [e]
  exact isO_lit (n := 255) h (by omega)
theorem tape_n {V : Nat → Int32} (h : ∀ i, okv i (V i) = true) : ∃ t, t ≤ 50 ∧ V 14 = nI t := by
  have q := h 14
  unfold okv at q
  rw [if_neg (by decide), if_neg (by decide), if_pos rfl] at q
  exact isO_nI (n := 50) rfl (not_t q)
theorem okv_14 {t : Nat} (h : t ≤ 50) : okv 14 (nI t) = true := by
  unfold okv
  rw [if_neg (by decide), if_neg (by decide), if_pos rfl, show isO (nI t) 0 50 = false from isO_lit (n := 50) h (by omega)]
  rfl
theorem YS.tape {σ8 σ9 ω : Sto} (h : YS σ8 σ9 ω) {i : Nat} (hi : i < 50) {v : Int32} (hv : isO v 0 255 = false) : YS (sI σ8 10 i v) (sI σ9 82 (210 + i) v) (sI (sI ω 10 i v) 82 (210 + i) v) := h.two (upd_tape h.2.2.1 hi hv) (by decide) (by omega)
theorem feed_L (x : Int64) {m : Nat} (hm : m ≤ 8) : ∀ (d n n' : Nat) (t : Nat) (σ8 σ9 ω : Sto), d ≤ m → d < n → d < n' → t + d ≤ 50 → YS σ8 σ9 ω → σ9.1 82 14 = nI t →
    ∃ α β γ, f_X0_addToTape_L3 1 x (nI m) n (nI (m - d)) σ8 = some α ∧ f_X9_feed_L41 x (nI m) n' (nI (m - d)) σ9 = some (nI (t + d), β) ∧ YS α β γ ∧ K8 σ8 α ∧ K9 σ9 β ∧ β.1 82 14 = nI (t + d) := by
  intro d
  induction d with
  | zero =>
    intro n n' t σ8 σ9 ω _ h2 h2' _ h ht
    obtain ⟨n, rfl⟩ : ∃ k, n = k + 1 := ⟨n - 1, by omega⟩
    obtain ⟨n', rfl⟩ : ∃ k, n' = k + 1 := ⟨n' - 1, by omega⟩
    rw [f_X0_addToTape_L3, f_X9_feed_L41, if_pos (nI_le (by omega) (by omega)), if_pos (nI_le (by omega) (by omega)), rdA_82_14, bind_s, ht]
    exact ⟨_, _, _, rfl, rfl, h, K8.rf _, K9.rf _, ht⟩
  | succ d ih =>
    intro n n' t σ8 σ9 ω h1 h2 h2' h3 h ht
    obtain ⟨n, rfl⟩ : ∃ k, n = k + 1 := ⟨n - 1, by omega⟩
    obtain ⟨n', rfl⟩ : ∃ k, n' = k + 1 := ⟨n' - 1, by omega⟩
    have e1 : m - d = (m - (d + 1)) + 1 := by omega
    have h12 : σ8.1 1 12 = nI t := (h.r (i := 14) (j := 12) (by decide)).trans ht
    have y1 := h.tape (i := t) (by omega) (v := Int64.toInt32 (lshr x (8 * nI (m - (d + 1))) &&& 255)) (by rw [← byte_eq x _ (by omega)]; exact byte_r _)
    have y2 := y1.mp (i := 14) (j := 12) (by decide) (by decide) (v := nI (t + 1)) (okv_14 (by omega))
    obtain ⟨α, β, γ, z1, z2, z3, z4, z5, z6⟩ := ih n n' (t + 1) _ _ _ (by omega) (by omega) (by omega) (by omega) y2 (by rw [sI_at, if_pos rfl])
    refine ⟨α, β, γ, ?_, ?_, z3, ((K8.w _ (by decide)).tr (K8.w _ (by decide))).tr z4, ((K9.w _).tr (K9.w _)).tr z5, by rw [z6]; exact congrArg nI (by omega)⟩
    · rw [f_X0_addToTape_L3, if_neg (nI_ge (by omega) (by omega)), h12, if_neg (show ¬ (50 : Int32) ≤ nI t from nI_ge (b := 50) (by omega) (by omega)), show A0 1 11 = 10 by decide, wr_nI (by show t < 50; omega), bind_s, lp_b, byte_eq x _ (by omega), sI_ne (by decide), h12, nI_1, nI_1, ← e1]
      exact z1
    · rw [f_X9_feed_L41, if_neg (nI_ge (by omega) (by omega)), rdA_82_14, bind_s, ht, show (210 + nI t : Int32) = nI (210 + t) from nI_add 210 t, wr_nI (by show 210 + t < 270; omega), bind_s, rdA_82_14, bind_s, sI_nj (by omega), ht, nI_1, nI_1, wrA_82_14, bind_s, ← e1, show t + (d + 1) = t + 1 + d by omega]
      exact z2
theorem s_feed (a1 : Int64) (a2 : Int32) (b : Bool) : LPr (fun σ => f_X8_feed σ a1 a2) (fun σ => f_X9_feed σ a1 a2) b Inv Inv := by
  intro σ hI
  obtain ⟨t, ht, et⟩ := tape_n hI.1.ok
  have e12 : σ.1 1 12 = nI t := (hI.1.mp (i := 14) (j := 12) (by decide)).trans et
  cases hq : isO a2 1 8 with
  | true =>
    refine er_LPr (f := fun σ => f_X8_feed σ a1 a2) (g := fun σ => f_X9_feed σ a1 a2) (k := 1) hI ?_ ?_
    · show f_X8_feed σ a1 a2 = _
      unfold f_X8_feed
      rw [out_eq, bind_s, hq, if_pos rfl, r8_1, bind_s]
    · show f_X9_feed (rf σ 1) a1 a2 = _
      unfold f_X9_feed
      rw [in_1_8, bind_s, hq, if_neg (by decide), r9_1, bind_s]
  | false =>
    obtain ⟨m, hm, rfl⟩ : ∃ m, m ≤ 8 ∧ a2 = nI m := by
      simp only [isO, Bool.or_eq_false_iff, decide_eq_false_iff_not] at hq
      obtain ⟨q1, q2⟩ := hq
      obtain ⟨m, hm, e⟩ := nI_of (x := a2) (by
        intro z
        apply q1
        rw [Int32.lt_iff_toInt_lt] at z ⊢
        rw [show (0 : Int32).toInt = 0 from rfl] at z
        rw [show (1 : Int32).toInt = 1 from rfl]
        omega)
      refine ⟨m, ?_, e⟩
      rw [e] at q2
      have : ¬ nI 8 < nI m := q2
      rw [nI_ltI (by omega) hm] at this
      omega
    by_cases h50 : t + m ≤ 50
    · refine fin_ys (f := fun σ => f_X8_feed σ a1 (nI m)) (g := fun σ => f_X9_feed σ a1 (nI m)) hI (fun σ9 hk => ?_)
      have y1 := YS.st hI hk
      have d9 : σ9.1 82 14 = nI t := (hk 82 14 (by omega)).trans et
      obtain ⟨α, β, γ, z1, z2, z3, z4, z5, z6⟩ := feed_L a1 hm m FU FU t σ σ9 σ (by omega) (by unfold FU; omega) (by unfold FU; omega) h50 y1 d9
      rw [Nat.sub_self] at z1 z2
      refine ⟨nI (t + m), α, β, γ, ?_, ?_, z3, z4, z5⟩
      · show f_X8_feed σ a1 (nI m) = _
        unfold f_X8_feed f_X0_addToTape
        rw [out_eq, bind_s, hq, if_neg (by decide), e12, nI_add, if_pos (show nI (t + m) ≤ 50 from nI_le (b := 50) h50 (by omega)), show f_X0_addToTape_L3 1 a1 (nI m) FU 0 σ = some α from z1, bind_s, z3.r (i := 14) (j := 12) (by decide), z6]
      · show f_X9_feed σ9 a1 (nI m) = _
        unfold f_X9_feed
        rw [in_1_8, bind_s, hq, if_pos (by decide), rdA_82_14, bind_s, d9, nI_add, if_pos (show nI (t + m) ≤ 50 from nI_le (b := 50) h50 (by omega))]
        exact z2
    · refine er_LPr (f := fun σ => f_X8_feed σ a1 (nI m)) (g := fun σ => f_X9_feed σ a1 (nI m)) (k := 4) hI ?_ ?_
      · show f_X8_feed σ a1 (nI m) = _
        unfold f_X8_feed
        rw [out_eq, bind_s, hq, if_neg (by decide), e12, nI_add, if_neg (show ¬ nI (t + m) ≤ 50 from nI_ge (a := 50) (by omega) (by omega)), r8_4, bind_s]
      · show f_X9_feed (rf σ 4) a1 (nI m) = _
        unfold f_X9_feed
        rw [in_1_8, bind_s, hq, if_pos (by decide), rdA_82_14, bind_s, rf_at (by decide), et, nI_add, if_neg (show ¬ nI (t + m) ≤ 50 from nI_ge (a := 50) (by omega) (by omega)), r9_4, bind_s]
theorem keepTo_G {t : Nat} (t1 : A0 t 5 = t + 1 ∧ Ln0 (t + 1) = 4) (l : Int32) : ∀ (d n : Nat) (σ : Sto), d ≤ 4 → d < n → ∃ τ, f_X6_keepTo_L2 t l n (nI (4 - d)) σ = some τ ∧ (∀ j, τ.1 (t + 1) j = if 4 - d ≤ j ∧ j < 4 then l else σ.1 (t + 1) j) ∧ ∀ a b, a ≠ t + 1 → τ.1 a b = σ.1 a b := by
  intro d
  induction d with
  | zero =>
    intro n σ _ h2
    obtain ⟨n, rfl⟩ : ∃ n', n = n' + 1 := ⟨n - 1, by omega⟩
    rw [f_X6_keepTo_L2, if_pos (by decide)]
    exact ⟨σ, rfl, fun j => by rw [if_neg (by omega)], fun _ _ _ => rfl⟩
  | succ d ih =>
    intro n σ h1 h2
    obtain ⟨n, rfl⟩ : ∃ n', n = n' + 1 := ⟨n - 1, by omega⟩
    have e1 : 4 - d = (4 - (d + 1)) + 1 := by omega
    rw [f_X6_keepTo_L2, if_neg (show ¬ (4 : Int32) ≤ nI (4 - (d + 1)) from nI_ge (b := 4) (by omega) (by omega)), t1.1, wr_nI (by rw [t1.2]; omega), bind_s, nI_1, ← e1]
    obtain ⟨τ, u1, u2, u3⟩ := ih n (sI σ (t + 1) (4 - (d + 1)) l) (by omega) (by omega)
    refine ⟨τ, u1, fun j => ?_, fun a b h => by rw [u3 a b h, sI_ne h]⟩
    rw [u2 j, sI_at]
    by_cases h : 4 - d ≤ j ∧ j < 4
    · rw [if_pos h, if_pos (by omega)]
    · rw [if_neg h]
      by_cases h' : j = 4 - (d + 1)
      · rw [if_pos h', if_pos (by omega)]
      · rw [if_neg h', if_neg (by omega)]
def nw (a b : Int32) (j : Nat) : Int32 := if j = 0 then a / 10 else if j = 1 then irem a 10 else if j = 2 then b else if j = 3 then 10 else 0
theorem begin8 (σ : Sto) {k : Nat} (hk : K0 k = 6) (a b : Int32) : ∃ τ, f_X6_begin σ k a b = some τ ∧ (∀ j, j < 9 → S8 τ k j = nw a b j) ∧ ∀ x y, x ≠ k → x ≠ k + 1 → τ.1 x y = σ.1 x y := by
  obtain ⟨k1, k2, -⟩ := sw6 hk
  unfold f_X6_begin f_X6_turnInto
  simp only [lp_b, bind_s]
  generalize hρ : sI (sI (sI (sI (sI σ k 0 (a / 10)) k 1 (irem a 10)) k 2 b) k 3 10) k 4 0 = ρ
  obtain ⟨τ, t1, t2, t3⟩ := keepTo_G (t := k) ⟨k1, k2⟩ 0 4 FU ρ (by omega) (by unfold FU; omega)
  unfold f_X6_keepTo
  rw [show f_X6_keepTo_L2 k 0 FU 0 ρ = some τ from t1, bind_s]
  refine ⟨τ, rfl, fun j hj => ?_, fun x y h1 h2 => by rw [t3 x y h2, ← hρ, sI_ne h1, sI_ne h1, sI_ne h1, sI_ne h1, sI_ne h1]⟩
  unfold S8
  by_cases h : j < 5
  · rw [if_pos h, t3 _ _ (by omega), ← hρ, sI_at, sI_at, sI_at, sI_at, sI_at]
    rcases (show j = 0 ∨ j = 1 ∨ j = 2 ∨ j = 3 ∨ j = 4 by omega) with rfl | rfl | rfl | rfl | rfl <;> rfl
  · rw [if_neg h, t2, if_pos (by omega)]
    unfold nw
    rw [if_neg (by omega), if_neg (by omega), if_neg (by omega), if_neg (by omega)]
theorem new9_L {p N : Nat} (hp : p < 8) : ∀ (d n : Nat) (σ : Sto), d ≤ 4 → d < n → σ.1 82 12 = nI N → ∃ τ, f_X9_swimmer_L99 (nI p) n (nI (4 - d)) σ = some (nI p, τ) ∧ τ.1 82 12 = nI (N + 1) ∧ (∀ j, j ≠ 12 → τ.1 82 j = if 16 + 9 * p + 5 + (4 - d) ≤ j ∧ j < 16 + 9 * p + 9 then 0 else σ.1 82 j) ∧ ∀ a b, a ≠ 82 → τ.1 a b = σ.1 a b := by
  intro d
  induction d with
  | zero =>
    intro n σ _ hn e
    obtain ⟨n, rfl⟩ : ∃ n', n = n' + 1 := ⟨n - 1, by omega⟩
    rw [f_X9_swimmer_L99, if_pos (by decide), rdA_82_12, bind_s, wrA_82_12, bind_s, e, nI_1]
    exact ⟨_, rfl, by rw [sI_at, if_pos rfl], fun j hj => by rw [sI_nj hj, if_neg (by omega)], fun a b h => sI_ne h⟩
  | succ d ih =>
    intro n σ hd hn e
    obtain ⟨n, rfl⟩ : ∃ n', n = n' + 1 := ⟨n - 1, by omega⟩
    have e1 : 4 - d = (4 - (d + 1)) + 1 := by omega
    rw [f_X9_swimmer_L99, if_neg (show ¬ (4 : Int32) ≤ nI (4 - (d + 1)) from nI_ge (b := 4) (by omega) (by omega)), show (5 + nI (4 - (d + 1)) : Int32) = nI (5 + (4 - (d + 1))) from nI_add 5 _, bec_eq hp (by omega), bind_s, nI_1, ← e1]
    obtain ⟨τ, t1, t2, t3, t4⟩ := ih n (sI σ 82 (16 + 9 * p + (5 + (4 - (d + 1)))) 0) (by omega) (by omega) (by rw [sI_nj (by omega)]; exact e)
    refine ⟨τ, t1, t2, fun j hj => ?_, fun a b h => by rw [t4 a b h, sI_ne h]⟩
    rw [t3 j hj, sI_at]
    by_cases h : 16 + 9 * p + 5 + (4 - d) ≤ j ∧ j < 16 + 9 * p + 9
    · rw [if_pos h, if_pos (by omega)]
    · rw [if_neg h]
      by_cases h' : j = 16 + 9 * p + (5 + (4 - (d + 1)))
      · rw [if_pos h', if_pos (by omega)]
      · rw [if_neg h', if_neg (by omega)]
theorem nw_ok {k : Nat} (hk : k ≤ 69) {b : Int32} (hb : isO b 0 1 = false) : ∀ j, j < 9 → oks j (nw (nI k) b j) = true := by
  intro j hj
  rcases (show j = 0 ∨ j = 1 ∨ j = 2 ∨ j = 3 ∨ j = 4 ∨ 5 ≤ j by omega) with rfl | rfl | rfl | rfl | rfl | h
  · exact km_ok k hk
  · unfold oks; rw [if_neg (by omega), if_neg (by omega), if_neg (by omega), if_neg (by omega)]
  · show oks 2 b = true
    unfold oks
    rw [if_neg (by omega), if_pos rfl, hb]
    rfl
  · show oks 3 10 = true
    decide
  · unfold oks; rw [if_neg (by omega), if_neg (by omega), if_neg (by omega), if_neg (by omega)]
  · unfold nw
    rw [if_neg (by omega), if_neg (by omega), if_neg (by omega), if_neg (by omega)]
    unfold oks
    rw [if_neg (by omega), if_neg (by omega), if_neg (by omega), if_pos h]
    decide
theorem s_swimmer (a1 a2 : Int32) (b : Bool) : LPr (fun σ => f_X8_swimmer σ a1 a2) (fun σ => f_X9_swimmer σ a1 a2) b Inv Inv := by
  intro σ hI
  obtain ⟨N, hN, e9, e8, eN⟩ := hI.1.N
  have er := fun (k : Nat) (h8 : f_X8_swimmer σ a1 a2 = some (-1000000000 - nI k, rf σ k)) (h9 : f_X9_swimmer (rf σ k) a1 a2 = some (-1000000000 - nI k, fi (rf σ k) k)) => er_LPr (f := fun σ => f_X8_swimmer σ a1 a2) (g := fun σ => f_X9_swimmer σ a1 a2) (b := b) hI h8 h9
  unfold f_X8_swimmer f_X9_swimmer at er
  cases h1 : isO a1 0 69 with
  | true => exact er 1 (by rw [out_eq, bind_s, h1, if_pos rfl, r8_1, bind_s]) (by rw [in_0_69, bind_s, h1, if_neg (by decide), r9_1, bind_s])
  | false =>
    cases h2 : isO a2 0 1 with
    | true => exact er 1 (by rw [out_eq, bind_s, h1, if_neg (by decide), out_eq, bind_s, h2, if_pos rfl, r8_1, bind_s]) (by rw [in_0_69, bind_s, h1, if_pos (by decide), in_0_1, bind_s, h2, if_neg (by decide), r9_1, bind_s])
    | false =>
      obtain ⟨k, hk, rfl⟩ := isO_nI (n := 69) rfl h1
      by_cases h8 : N = 8
      · subst h8
        exact er 4 (by rw [out_eq, bind_s, h1, if_neg (by decide), out_eq, bind_s, h2, if_neg (by decide), e8, if_neg (by decide), r8_4, bind_s]) (by rw [in_0_69, bind_s, h1, if_pos (by decide), in_0_1, bind_s, h2, if_pos (by decide), rdA_82_12, bind_s, rf_at (by decide), e9, if_pos (by decide), r9_4, bind_s])
      · have hN8 : N < 8 := by omega
        generalize hρ : sI σ 1 8 (nI (N + 1)) = ρ
        have oρ : ∀ a b, a ≠ 1 → ρ.1 a b = σ.1 a b := fun a b h => by rw [← hρ, sI_ne h]
        obtain ⟨τ, t1, t2, t3⟩ := begin8 ρ (K12 N hN8) (nI k) a2
        have oτ : ∀ a b, a ≠ 1 → a ≠ 12 + 2 * N → a ≠ 13 + 2 * N → τ.1 a b = σ.1 a b := fun a b h h' h'' => by rw [t3 a b h' (by omega), oρ a b h]
        have dτ : τ.1 82 = σ.1 82 := funext fun j => oτ 82 j (by decide) (by omega) (by omega)
        generalize hχ : sI (sI (sI (sI (sI τ 82 (16 + 9 * N + 0) (nI k / 10)) 82 (16 + 9 * N + 1) (irem (nI k) 10)) 82 (16 + 9 * N + 2) a2) 82 (16 + 9 * N + 3) 10) 82 (16 + 9 * N + 4) 0 = χ
        have cχ : ∀ j, χ.1 82 j = if 16 + 9 * N ≤ j ∧ j < 16 + 9 * N + 5 then nw (nI k) a2 (j - (16 + 9 * N)) else σ.1 82 j := by
          intro j
          rw [← hχ, sI_at, sI_at, sI_at, sI_at, sI_at, dτ]
          by_cases h : 16 + 9 * N ≤ j ∧ j < 16 + 9 * N + 5
          · rw [if_pos h]
            rcases (show j = 16 + 9 * N + 0 ∨ j = 16 + 9 * N + 1 ∨ j = 16 + 9 * N + 2 ∨ j = 16 + 9 * N + 3 ∨ j = 16 + 9 * N + 4 by omega) with rfl | rfl | rfl | rfl | rfl
            · rw [if_neg (by omega), if_neg (by omega), if_neg (by omega), if_neg (by omega), if_pos rfl, show 16 + 9 * N + 0 - (16 + 9 * N) = 0 by omega]; rfl
            · rw [if_neg (by omega), if_neg (by omega), if_neg (by omega), if_pos rfl, show 16 + 9 * N + 1 - (16 + 9 * N) = 1 by omega]; rfl
            · rw [if_neg (by omega), if_neg (by omega), if_pos rfl, show 16 + 9 * N + 2 - (16 + 9 * N) = 2 by omega]; rfl
            · rw [if_neg (by omega), if_pos rfl, show 16 + 9 * N + 3 - (16 + 9 * N) = 3 by omega]; rfl
            · rw [if_pos rfl, show 16 + 9 * N + 4 - (16 + 9 * N) = 4 by omega]; rfl
          · rw [if_neg h, if_neg (by omega), if_neg (by omega), if_neg (by omega), if_neg (by omega), if_neg (by omega)]
        have oχ : ∀ a b, a ≠ 82 → χ.1 a b = τ.1 a b := fun a b h => by rw [← hχ, sI_ne h, sI_ne h, sI_ne h, sI_ne h, sI_ne h]
        obtain ⟨υ, u1, u2, u3, u4⟩ := new9_L (p := N) (N := N) hN8 4 FU χ (by omega) (by unfold FU; omega) (by rw [cχ, if_neg (by omega)]; exact e9)
        have rυ : ∀ j, j ≠ 12 → υ.1 82 j = if 16 + 9 * N ≤ j ∧ j < 16 + 9 * N + 9 then nw (nI k) a2 (j - (16 + 9 * N)) else σ.1 82 j := by
          intro j hj
          rw [u3 j hj, cχ]
          by_cases h : 16 + 9 * N ≤ j ∧ j < 16 + 9 * N + 9
          · rw [if_pos h]
            by_cases h' : 16 + 9 * N + 5 ≤ j
            · rw [if_pos (by omega)]
              unfold nw
              rw [if_neg (by omega), if_neg (by omega), if_neg (by omega), if_neg (by omega)]
            · rw [if_neg (by omega), if_pos (by omega)]
          · rw [if_neg h, if_neg (by omega), if_neg (by omega)]
        have oυ : ∀ a b, a ≠ 82 → υ.1 a b = τ.1 a b := fun a b h => by rw [u4 a b h, oχ a b h]
        refine ⟨(nI N, τ), (nI N, υ), ?_, ?_, fun _ => rfl, ?_⟩
        · show f_X8_swimmer σ (nI k) a2 = _
          unfold f_X8_swimmer
          rw [out_eq, bind_s, h1, if_neg (by decide), out_eq, bind_s, h2, if_neg (by decide), e8, if_pos (show nI N < 8 from nI_lt (b := 8) hN8 (by omega)), lp_b, nI_1, hρ, show f_X0_swimmerAt ρ 1 (nI N) = some (some (1 + 11 + 2 * N)) from sA_k (Or.inl rfl) (show N + 1 ≤ 8 by omega) (by rw [← hρ, sI_at, if_pos rfl]) (by omega), bind_s, onN_1, show 1 + 11 + 2 * N = 12 + 2 * N by omega, if_pos (K12 N hN8), t1, bind_s]
        · show f_X9_swimmer τ (nI k) a2 = _
          unfold f_X9_swimmer
          rw [in_0_69, bind_s, h1, if_pos (by decide), in_0_1, bind_s, h2, if_pos (by decide), rdA_82_12, bind_s, dτ, e9, if_neg (show ¬ nI N = 8 from nI_ne _ 8 rfl (by omega) (by omega) h8), bind_s]
          rw [show f_X9_becomes τ (nI N) 0 (nI k / 10) = _ from bec_eq hN8 (j := 0) (by omega) _, bind_s, show ∀ τ, f_X9_becomes τ (nI N) 1 (irem (nI k) 10) = _ from fun τ => bec_eq hN8 (j := 1) (by omega) _, bind_s, show ∀ τ, f_X9_becomes τ (nI N) 2 a2 = _ from fun τ => bec_eq hN8 (j := 2) (by omega) _, bind_s, show ∀ τ, f_X9_becomes τ (nI N) 3 10 = _ from fun τ => bec_eq hN8 (j := 3) (by omega) _, bind_s, show ∀ τ, f_X9_becomes τ (nI N) 4 0 = _ from fun τ => bec_eq hN8 (j := 4) (by omega) _, bind_s, hχ]
          exact u1
        · obtain ⟨q1, q2, q3, q4, q5, q6, q7, q8⟩ := hI.1.1
          have eN' : NN (υ.1 82) = N + 1 := by unfold NN; rw [u2, nI_clamp (by omega)]
          have k1 : ∀ j, j ≠ 8 → υ.1 1 j = σ.1 1 j := fun j hj => by rw [oυ 1 j (by decide), t3 1 j (by omega) (by omega), ← hρ, sI_nj hj]
          have k0 : ∀ a b, a ≠ 82 → a ≠ 1 → a ≠ 12 + 2 * N → a ≠ 13 + 2 * N → υ.1 a b = σ.1 a b := fun a b h1 h2 h3 h4 => by rw [oυ a b h1, oτ a b h2 h3 h4]
          have hL : LR 1 82 υ := by
            refine ⟨fun i hi => ?_, fun q hq => ?_, fun p j hp hj => ?_, fun i => ?_, fun i hi => ?_, fun i hi => ?_, q7.keep2 (by decide) (fun j => k0 _ j (by decide) (by decide) (by omega) (by omega)) (fun j => k0 _ j (by decide) (by decide) (by omega) (by omega)) (fun i hi => by rw [rυ i (by omega), if_neg (by omega)]), q8.keep2 (by decide) (fun j => k0 _ j (by decide) (by decide) (by omega) (by omega)) (fun j => k0 _ j (by decide) (by decide) (by omega) (by omega)) (fun i hi => by rw [rυ i (by omega), if_neg (by omega)])⟩
            · rw [k0 _ _ (by decide) (by decide) (by omega) (by omega), rυ i (by omega), if_neg (by omega)]; exact q1 i hi
            · by_cases hq12 : q = (12, 8)
              · subst hq12
                show υ.1 1 8 = υ.1 82 12
                rw [u2, oυ 1 8 (by decide), t3 1 8 (by omega) (by omega), ← hρ, sI_at, if_pos rfl]
              · have hx : q.2 ≠ 8 ∧ q.1 ≠ 12 := (show ∀ q ∈ mpL, q ≠ (12, 8) → q.2 ≠ 8 ∧ q.1 ≠ 12 by decide) q hq hq12
                rw [k1 _ hx.1, rυ _ hx.2, if_neg (by have := mp_lo q hq; omega)]
                exact q2 q hq
            · rw [eN'] at hp
              rw [show 1 + 11 + 2 * p = 12 + 2 * p by omega]
              by_cases hpN : p = N
              · subst hpN
                rw [S8_congr (fun j => oυ _ j (by omega)) (fun j => oυ _ j (by omega)), t2 j hj]
                unfold S9
                rw [rυ _ (by omega), if_pos (by omega), show 16 + 9 * p + j - (16 + 9 * p) = j by omega]
              · rw [S8_congr (fun j => k0 _ j (by omega) (by omega) (by omega) (by omega)) (fun j => k0 _ j (by omega) (by omega) (by omega) (by omega))]
                unfold S9
                rw [rυ _ (by omega), if_neg (by omega)]
                have := q3 p j (by rw [eN]; omega) hj
                rw [show 1 + 11 + 2 * p = 12 + 2 * p by omega] at this
                exact this
            · by_cases h12 : i = 12
              · subst h12
                rw [u2]
                unfold okv
                rw [if_neg (by decide), if_pos rfl, show isO (nI (N + 1)) 0 8 = false from isO_lit (n := 8) (by omega) (by omega)]
                rfl
              · rw [rυ i h12]
                by_cases h : 16 + 9 * N ≤ i ∧ i < 16 + 9 * N + 9
                · rw [if_pos h]
                  have := okv_sw hN8 (j := i - (16 + 9 * N)) (by omega) (nw_ok hk h2 (i - (16 + 9 * N)) (by omega))
                  rw [show 16 + 9 * N + (i - (16 + 9 * N)) = i by omega] at this
                  exact this
                · rw [if_neg h]; exact q4 i
            · rw [k0 _ _ (by decide) (by decide) (by omega) (by omega), rυ _ (by omega), if_neg (by omega)]; exact q5 i hi
            · rw [k0 _ _ (by decide) (by decide) (by omega) (by omega), rυ _ (by omega), if_neg (by omega)]; exact q6 i hi
          refine ⟨hI.1.lake hL (fun a b ha _ _ _ => ?_) ⟨k0 _ _ (by decide) (by decide) (by omega) (by omega), k0 _ _ (by decide) (by decide) (by omega) (by omega)⟩, fun x hx => ?_⟩
          · unfold lkc at ha
            exact k0 a b (by omega) (by omega) (by omega) (by omega)
          · rw [k0 68 x (by decide) (by decide) (by omega) (by omega), k0 85 x (by decide) (by decide) (by omega) (by omega)]
            exact hI.2 x hx
/-! The voices: both run the same bodies in the same order. -/
def body (k m : Nat) : Nat := if m = 0 then (if k = 2 ∨ k = 5 then 30 else 10) else if m = 1 then (if k = 1 then 20 else if k = 4 then 50 else 11) else if m = 2 then (if k = 3 then 40 else if k = 6 then 70 else 12) else (if k = 5 then 60 else if k = 6 then 71 else 13)
theorem body8 (σ : Sto) : ∀ k, k ≤ 6 → ∀ m, m ≤ 3 → f_X7_bodyOf σ (nI k) (nI m) = some (nI (body k m)) := by
  intro k hk m hm
  rcases (show k = 0 ∨ k = 1 ∨ k = 2 ∨ k = 3 ∨ k = 4 ∨ k = 5 ∨ k = 6 by omega) with rfl | rfl | rfl | rfl | rfl | rfl | rfl <;> rcases (show m = 0 ∨ m = 1 ∨ m = 2 ∨ m = 3 by omega) with rfl | rfl | rfl | rfl <;> rfl
def vs (o : Nat) (num par : Int32) : Nat → Nat → Nat → Int32 → Int32 × List Int32
  | 0, _, _, _ => (0, [])
  | f + 1, k, m, x =>
    if body k m = 10 then (x + num, [10])
    else if body k m = 11 then ((vs o num par f o 0 x).1 * 2, 11 :: (vs o num par f o 0 x).2)
    else if body k m = 12 then (x - par, [12])
    else if body k m = 13 then ((vs o num par f o 1 x).1 ^^^ (vs o num par f o 2 x).1, 13 :: ((vs o num par f o 1 x).2 ++ (vs o num par f o 2 x).2))
    else if body k m = 20 then ((vs o num par f 0 1 x).1 - (vs o num par f o 2 1).1, 20 :: ((vs o num par f 0 1 x).2 ++ (vs o num par f o 2 1).2))
    else if body k m = 30 then ((vs o num par f 0 0 x).1 * 3, 30 :: (vs o num par f 0 0 x).2)
    else if body k m = 40 then (-(vs o num par f 0 2 x).1, 40 :: (vs o num par f 0 2 x).2)
    else if body k m = 50 then ((vs o num par f 1 1 (x + 1)).1, 50 :: (vs o num par f 1 1 (x + 1)).2)
    else if body k m = 60 then ((vs o num par f 2 3 x).1 - (vs o num par f o 0 2).1, 60 :: ((vs o num par f 2 3 x).2 ++ (vs o num par f o 0 2).2))
    else if body k m = 70 then ((vs o num par f 3 2 x).1 ^^^ num, 70 :: (vs o num par f 3 2 x).2)
    else ((vs o num par f o 1 x).1 - (vs o num par f 3 3 x).1, 71 :: ((vs o num par f o 1 x).2 ++ (vs o num par f 3 3 x).2))
/-- is the fuel enough? -/
def vok (o : Nat) : Nat → Nat → Nat → Bool
  | 0, _, _ => false
  | f + 1, k, m =>
    if body k m = 10 then true
    else if body k m = 11 then vok o f o 0
    else if body k m = 12 then true
    else if body k m = 13 then vok o f o 1 && vok o f o 2
    else if body k m = 20 then vok o f 0 1 && vok o f o 2
    else if body k m = 30 then vok o f 0 0
    else if body k m = 40 then vok o f 0 2
    else if body k m = 50 then vok o f 1 1
    else if body k m = 60 then vok o f 2 3 && vok o f o 0
    else if body k m = 70 then vok o f 3 2
    else vok o f o 1 && vok o f 3 3
theorem vok_all : ∀ o, o < 7 → ∀ m, m < 4 → vok o 12 o m = true := by decide +kernel
def nt8 (σ : Sto) (v : Int32) : Sto := if (40 : Int32) ≤ σ.1 65 1 then σ else sI (sI σ 66 (σ.1 65 1).toNatClampNeg v) 65 1 (σ.1 65 1 + 1)
def Q8 (o : Nat) (num par : Int32) (σ : Sto) : Prop := (∃ n, n ≤ 40 ∧ σ.1 65 1 = nI n) ∧ σ.1 65 2 = nI o ∧ σ.1 65 3 = num ∧ σ.1 65 4 = par
theorem Q8.nt {o : Nat} {num par : Int32} {σ : Sto} (h : Q8 o num par σ) (v : Int32) : Q8 o num par (nt8 σ v) := by
  obtain ⟨⟨n, hn, e⟩, h2, h3, h4⟩ := h
  unfold nt8
  rw [e]
  by_cases hc : (40 : Int32) ≤ nI n
  · rw [if_pos hc]; exact ⟨⟨n, hn, e⟩, h2, h3, h4⟩
  · rw [if_neg hc, nI_1]
    have hn' : n < 40 := by
      rcases (show n = 40 ∨ n < 40 by omega) with rfl | h'
      · exact absurd (by decide) hc
      · exact h'
    exact ⟨⟨n + 1, by omega, by rw [sI_at, if_pos rfl]⟩, by rw [sI_nj (by decide), sI_ne (by decide)]; exact h2, by rw [sI_nj (by decide), sI_ne (by decide)]; exact h3, by rw [sI_nj (by decide), sI_ne (by decide)]; exact h4⟩
theorem Q8.fold {o : Nat} {num par : Int32} : ∀ (l : List Int32) {σ : Sto}, Q8 o num par σ → Q8 o num par (l.foldl nt8 σ) := by
  intro l
  induction l with
  | nil => intro σ h; exact h
  | cons v l ih => intro σ h; exact ih (h.nt v)
theorem note8 {o : Nat} {num par : Int32} {σ : Sto} (h : Q8 o num par σ) (v : Int32) : f_X7_note σ v = some (nt8 σ v) := by
  obtain ⟨⟨n, hn, e⟩, -⟩ := h
  unfold f_X7_note nt8
  rw [e]
  by_cases hc : (40 : Int32) ≤ nI n
  · rw [if_pos hc, if_pos hc]
  · have hn' : n < 40 := by
      rcases (show n = 40 ∨ n < 40 by omega) with rfl | h'
      · exact absurd (by decide) hc
      · exact h'
    rw [if_neg hc, if_neg hc, wr_nI (by show n < 40; exact hn'), bind_s, lp_b, sI_ne (by decide), e, nI_clamp (by omega)]
theorem say8 {o : Nat} (ho : o ≤ 6) {num par : Int32} : ∀ (f d k m a : Nat) (x : Int32) (σ : Sto), k ≤ 6 → m ≤ 3 → vok o f k m = true → f ≤ d → a + f ≤ 41 → Q8 o num par σ → g_X7_say d 0 (nI k) (nI m) x (nI a) σ = some ((vs o num par f k m x).1, (vs o num par f k m x).2.foldl nt8 σ) := by
  intro f
  induction f with
  | zero => intro d k m a x σ _ _ h; cases h
  | succ f ih =>
    intro d k m a x σ hk hm hv hd ha h
    obtain ⟨d, rfl⟩ : ∃ d', d = d' + 1 := ⟨d - 1, by omega⟩
    have hn := h.nt (nI (body k m))
    have rc : ∀ (k' m' : Nat) (x' : Int32) (τ : Sto), k' ≤ 6 → m' ≤ 3 → vok o f k' m' = true → Q8 o num par τ → g_X7_say d 0 (nI k') (nI m') x' (nI a + 1) τ = some ((vs o num par f k' m' x').1, (vs o num par f k' m' x').2.foldl nt8 τ) := fun k' m' x' τ h1 h2 h3 h4 => by
      rw [nI_1]
      exact ih d k' m' (a + 1) x' τ h1 h2 h3 (by omega) (by omega) h4
    show b_X7_say (g_X7_say d) σ (nI k) (nI m) x (nI a) = _
    unfold b_X7_say
    rw [if_pos (show nI a ≤ 40 from nI_le (b := 40) (by omega) (by omega)), body8 σ k hk m hm, bind_s, note8 h, bind_s]
    rw [vok] at hv
    rw [vs]
    have cases_b : body k m = 10 ∨ body k m = 11 ∨ body k m = 12 ∨ body k m = 13 ∨ body k m = 20 ∨ body k m = 30 ∨ body k m = 40 ∨ body k m = 50 ∨ body k m = 60 ∨ body k m = 70 ∨ body k m = 71 := (show ∀ k, k < 7 → ∀ m, m < 4 → body k m = 10 ∨ body k m = 11 ∨ body k m = 12 ∨ body k m = 13 ∨ body k m = 20 ∨ body k m = 30 ∨ body k m = 40 ∨ body k m = 50 ∨ body k m = 60 ∨ body k m = 70 ∨ body k m = 71 by decide) k (by omega) m (by omega)
    obtain ⟨-, n2, n3, n4⟩ := hn
    have hn := h.nt (nI (body k m))
    rcases cases_b with e | e | e | e | e | e | e | e | e | e | e
    · rw [e] at hn n2 n3 n4 hv ⊢
      rw [if_pos (by decide), n3]
      rfl
    · rw [e] at hn n2 n3 n4 hv ⊢
      rw [if_neg (by decide), if_pos (by decide), n2]
      rw [show g_X7_say d 0 (nI o) 0 x (nI a + 1) (nt8 σ (nI 11)) = _ from rc o 0 x _ ho (by omega) hv hn, bind_s]
      rfl
    · rw [e] at hn n2 n3 n4 hv ⊢
      rw [if_neg (by decide), if_neg (by decide), if_pos (by decide), n4]
      rfl
    · rw [e] at hn n2 n3 n4 hv ⊢
      have hv' : (vok o f o 1 && vok o f o 2) = true := hv
      rw [Bool.and_eq_true] at hv'
      have q := hn.fold (vs o num par f o 1 x).2
      rw [if_neg (by decide), if_neg (by decide), if_neg (by decide), if_pos (by decide), n2, show g_X7_say d 0 (nI o) 1 x (nI a + 1) (nt8 σ (nI 13)) = _ from rc o 1 x _ ho (by omega) hv'.1 hn, bind_s, q.2.1, show g_X7_say d 0 (nI o) 2 x (nI a + 1) _ = _ from rc o 2 x _ ho (by omega) hv'.2 q, bind_s]
      show _ = some ((vs o num par f o 1 x).1 ^^^ (vs o num par f o 2 x).1, (nI 13 :: ((vs o num par f o 1 x).2 ++ (vs o num par f o 2 x).2)).foldl nt8 σ)
      rw [List.foldl_cons, List.foldl_append]
    · rw [e] at hn n2 n3 n4 hv ⊢
      have hv' : (vok o f 0 1 && vok o f o 2) = true := hv
      rw [Bool.and_eq_true] at hv'
      have q := hn.fold (vs o num par f 0 1 x).2
      rw [if_neg (by decide), if_neg (by decide), if_neg (by decide), if_neg (by decide), if_pos (by decide), show g_X7_say d 0 0 1 x (nI a + 1) (nt8 σ (nI 20)) = _ from rc 0 1 x _ (by omega) (by omega) hv'.1 hn, bind_s, q.2.1, show g_X7_say d 0 (nI o) 2 1 (nI a + 1) _ = _ from rc o 2 1 _ ho (by omega) hv'.2 q, bind_s]
      show _ = some ((vs o num par f 0 1 x).1 - (vs o num par f o 2 1).1, (nI 20 :: ((vs o num par f 0 1 x).2 ++ (vs o num par f o 2 1).2)).foldl nt8 σ)
      rw [List.foldl_cons, List.foldl_append]
    · rw [e] at hn n2 n3 n4 hv ⊢
      rw [if_neg (by decide), if_neg (by decide), if_neg (by decide), if_neg (by decide), if_neg (by decide), if_pos (by decide), show g_X7_say d 0 0 0 x (nI a + 1) (nt8 σ (nI 30)) = _ from rc 0 0 x _ (by omega) (by omega) hv hn, bind_s]
      rfl
    · rw [e] at hn n2 n3 n4 hv ⊢
      rw [if_neg (by decide), if_neg (by decide), if_neg (by decide), if_neg (by decide), if_neg (by decide), if_neg (by decide), if_pos (by decide), show g_X7_say d 0 0 2 x (nI a + 1) (nt8 σ (nI 40)) = _ from rc 0 2 x _ (by omega) (by omega) hv hn, bind_s]
      rfl
    · rw [e] at hn n2 n3 n4 hv ⊢
      rw [if_neg (by decide), if_neg (by decide), if_neg (by decide), if_neg (by decide), if_neg (by decide), if_neg (by decide), if_neg (by decide), if_pos (by decide), show g_X7_say d 0 1 1 (x + 1) (nI a + 1) (nt8 σ (nI 50)) = _ from rc 1 1 (x + 1) _ (by omega) (by omega) hv hn, bind_s]
      rfl
    · rw [e] at hn n2 n3 n4 hv ⊢
      have hv' : (vok o f 2 3 && vok o f o 0) = true := hv
      rw [Bool.and_eq_true] at hv'
      have q := hn.fold (vs o num par f 2 3 x).2
      rw [if_neg (by decide), if_neg (by decide), if_neg (by decide), if_neg (by decide), if_neg (by decide), if_neg (by decide), if_neg (by decide), if_neg (by decide), if_pos (by decide), show g_X7_say d 0 2 3 x (nI a + 1) (nt8 σ (nI 60)) = _ from rc 2 3 x _ (by omega) (by omega) hv'.1 hn, bind_s, q.2.1, show g_X7_say d 0 (nI o) 0 2 (nI a + 1) _ = _ from rc o 0 2 _ ho (by omega) hv'.2 q, bind_s]
      show _ = some ((vs o num par f 2 3 x).1 - (vs o num par f o 0 2).1, (nI 60 :: ((vs o num par f 2 3 x).2 ++ (vs o num par f o 0 2).2)).foldl nt8 σ)
      rw [List.foldl_cons, List.foldl_append]
    · rw [e] at hn n2 n3 n4 hv ⊢
      have q := hn.fold (vs o num par f 3 2 x).2
      rw [if_neg (by decide), if_neg (by decide), if_neg (by decide), if_neg (by decide), if_neg (by decide), if_neg (by decide), if_neg (by decide), if_neg (by decide), if_neg (by decide), if_pos (by decide), show g_X7_say d 0 3 2 x (nI a + 1) (nt8 σ (nI 70)) = _ from rc 3 2 x _ (by omega) (by omega) hv hn, bind_s, q.2.2.1]
      rfl
    · rw [e] at hn n2 n3 n4 hv ⊢
      have hv' : (vok o f o 1 && vok o f 3 3) = true := hv
      rw [Bool.and_eq_true] at hv'
      have q := hn.fold (vs o num par f o 1 x).2
      rw [if_neg (by decide), if_neg (by decide), if_neg (by decide), if_neg (by decide), if_neg (by decide), if_neg (by decide), if_neg (by decide), if_neg (by decide), if_neg (by decide), if_neg (by decide), if_pos (by decide), n2, show g_X7_say d 0 (nI o) 1 x (nI a + 1) (nt8 σ (nI 71)) = _ from rc o 1 x _ ho (by omega) hv'.1 hn, bind_s, show g_X7_say d 0 3 3 x (nI a + 1) _ = _ from rc 3 3 x _ (by omega) (by omega) hv'.2 q, bind_s]
      show _ = some ((vs o num par f o 1 x).1 - (vs o num par f 3 3 x).1, (nI 71 :: ((vs o num par f o 1 x).2 ++ (vs o num par f 3 3 x).2)).foldl nt8 σ)
      rw [List.foldl_cons, List.foldl_append]
theorem vs_same {o : Nat} {num par : Int32} {k k' m : Nat} (h : body k m = body k' m) (f : Nat) (x : Int32) : vs o num par f k m x = vs o num par f k' m x := by
  cases f with
  | zero => rfl
  | succ f => rw [vs, vs, h]
def nt9 (σ : Sto) (v : Int32) : Sto := if (40 : Int32) ≤ σ.1 81 18 then σ else sI (sI σ 89 (σ.1 81 18).toNatClampNeg v) 81 18 (σ.1 81 18 + 1)
def Q9 (o p : Nat) (par : Int32) (σ : Sto) : Prop := (∃ n, n ≤ 40 ∧ σ.1 81 18 = nI n) ∧ σ.1 81 19 = nI p ∧ S9 (σ.1 82) p 0 = nI o ∧ S9 (σ.1 82) p 1 = par
theorem Q9.nt {o p : Nat} {par : Int32} {σ : Sto} (h : Q9 o p par σ) (v : Int32) : Q9 o p par (nt9 σ v) := by
  obtain ⟨⟨n, hn, e⟩, h2, h3, h4⟩ := h
  unfold nt9
  rw [e]
  by_cases hc : (40 : Int32) ≤ nI n
  · rw [if_pos hc]; exact ⟨⟨n, hn, e⟩, h2, h3, h4⟩
  · rw [if_neg hc, nI_1]
    have hn' : n < 40 := by
      rcases (show n = 40 ∨ n < 40 by omega) with rfl | h'
      · exact absurd (by decide) hc
      · exact h'
    exact ⟨⟨n + 1, by omega, by rw [sI_at, if_pos rfl]⟩, by rw [sI_nj (by decide), sI_ne (by decide)]; exact h2, h3, h4⟩
theorem Q9.fold {o p : Nat} {par : Int32} : ∀ (l : List Int32) {σ : Sto}, Q9 o p par σ → Q9 o p par (l.foldl nt9 σ) := by
  intro l
  induction l with
  | nil => intro σ h; exact h
  | cons v l ih => intro σ h; exact ih (h.nt v)
theorem ran9 {o p : Nat} {par : Int32} {σ : Sto} (h : Q9 o p par σ) (v : Int32) : f_X9_ran σ v = some (nt9 σ v) := by
  obtain ⟨⟨n, hn, e⟩, -⟩ := h
  unfold f_X9_ran nt9
  rw [e]
  by_cases hc : (40 : Int32) ≤ nI n
  · rw [if_pos hc, if_pos hc]
  · have hn' : n < 40 := by
      rcases (show n = 40 ∨ n < 40 by omega) with rfl | h'
      · exact absurd (by decide) hc
      · exact h'
    rw [if_neg hc, if_neg hc, wr_nI (by show n < 40; exact hn'), bind_s, lp_b, sI_ne (by decide), e, nI_clamp (by omega)]
theorem own9 {o p : Nat} {par : Int32} {σ : Sto} (hp : p < 8) (h : Q9 o p par σ) : f_X9_own σ = some (nI o) := by
  unfold f_X9_own
  rw [h.2.1, show f_X9_of σ (nI p) 0 = _ from of_eq hp (j := 0) (by omega), bind_s, h.2.2.1]
theorem par9 {o p : Nat} {par : Int32} {σ : Sto} (hp : p < 8) (h : Q9 o p par σ) : f_X9_of σ (σ.1 81 19) 1 = some par := by
  rw [h.2.1, show f_X9_of σ (nI p) 1 = _ from of_eq hp (j := 1) (by omega), h.2.2.2]
theorem swims9 {o p : Nat} {par : Int32} : ∀ (k : Nat), k ≤ 6 → ∀ (f d : Nat) (x : Int32) (σ : Sto), 2 ≤ f → 4 ≤ d → Q9 o p par σ → g_X9_swims d 0 (nI k) x σ = some ((vs o (nI p) par f k 0 x).1, (vs o (nI p) par f k 0 x).2.foldl nt9 σ) := by
  have w0 : ∀ (f d : Nat) (x : Int32) (σ : Sto), 1 ≤ f → 1 ≤ d → Q9 o p par σ → g_X9_swims d 0 0 x σ = some ((vs o (nI p) par f 0 0 x).1, (vs o (nI p) par f 0 0 x).2.foldl nt9 σ) := by
    intro f d x σ hf hd h
    obtain ⟨d, rfl⟩ : ∃ d', d = d' + 1 := ⟨d - 1, by omega⟩
    obtain ⟨f, rfl⟩ : ∃ f', f = f' + 1 := ⟨f - 1, by omega⟩
    show b_X9_swims (g_X9_swims d) σ 0 x = _
    unfold b_X9_swims
    rw [if_pos rfl, ran9 h, bind_s, (h.nt 10).2.1]
    rfl
  have w1 : ∀ (k : Int32) (n : Nat), (k = 1 ∨ k = 3) → ∀ (f d : Nat) (x : Int32) (σ : Sto), 1 ≤ f → 2 ≤ d → Q9 o p par σ → g_X9_swims d 0 k x σ = some ((vs o (nI p) par f 0 0 x).1, (vs o (nI p) par f 0 0 x).2.foldl nt9 σ) := by
    intro k n hk f d x σ hf hd h
    obtain ⟨d, rfl⟩ : ∃ d', d = d' + 1 := ⟨d - 1, by omega⟩
    show b_X9_swims (g_X9_swims d) σ k x = _
    unfold b_X9_swims
    rcases hk with rfl | rfl
    · rw [if_neg (by decide), if_neg (by decide), show f_X9_above 1 = some 0 from rfl, bind_s, w0 f d x σ hf (by omega) h, bind_s]
    · rw [if_neg (by decide), if_neg (by decide), show f_X9_above 3 = some 0 from rfl, bind_s, w0 f d x σ hf (by omega) h, bind_s]
  have w2 : ∀ (f d : Nat) (x : Int32) (σ : Sto), 2 ≤ f → 2 ≤ d → Q9 o p par σ → g_X9_swims d 0 2 x σ = some ((vs o (nI p) par f 2 0 x).1, (vs o (nI p) par f 2 0 x).2.foldl nt9 σ) := by
    intro f d x σ hf hd h
    obtain ⟨d, rfl⟩ : ∃ d', d = d' + 1 := ⟨d - 1, by omega⟩
    obtain ⟨f, rfl⟩ : ∃ f', f = f' + 1 := ⟨f - 1, by omega⟩
    show b_X9_swims (g_X9_swims d) σ 2 x = _
    unfold b_X9_swims
    rw [if_neg (by decide), if_pos rfl, ran9 h, bind_s, show f_X9_above 2 = some 0 from rfl, bind_s, w0 f d x _ (by omega) (by omega) (h.nt 30), bind_s]
    rfl
  intro k hk f d x σ hf hd h
  rcases (show k = 0 ∨ k = 1 ∨ k = 2 ∨ k = 3 ∨ k = 4 ∨ k = 5 ∨ k = 6 by omega) with rfl | rfl | rfl | rfl | rfl | rfl | rfl
  · exact w0 f d x σ (by omega) (by omega) h
  · rw [vs_same (show body 1 0 = body 0 0 from rfl)]; exact w1 1 0 (Or.inl rfl) f d x σ (by omega) (by omega) h
  · exact w2 f d x σ hf (by omega) h
  · rw [vs_same (show body 3 0 = body 0 0 from rfl)]; exact w1 3 0 (Or.inr rfl) f d x σ (by omega) (by omega) h
  · obtain ⟨d, rfl⟩ : ∃ d', d = d' + 1 := ⟨d - 1, by omega⟩
    rw [vs_same (show body 4 0 = body 0 0 from rfl)]
    show b_X9_swims (g_X9_swims d) σ 4 x = _
    unfold b_X9_swims
    rw [if_neg (by decide), if_neg (by decide), show f_X9_above 4 = some 1 from rfl, bind_s, w1 1 0 (Or.inl rfl) f d x σ (by omega) (by omega) h, bind_s]
  · obtain ⟨d, rfl⟩ : ∃ d', d = d' + 1 := ⟨d - 1, by omega⟩
    rw [vs_same (show body 5 0 = body 2 0 from rfl)]
    show b_X9_swims (g_X9_swims d) σ 5 x = _
    unfold b_X9_swims
    rw [if_neg (by decide), if_neg (by decide), show f_X9_above 5 = some 2 from rfl, bind_s, w2 f d x σ hf (by omega) h, bind_s]
  · obtain ⟨d, rfl⟩ : ∃ d', d = d' + 1 := ⟨d - 1, by omega⟩
    rw [vs_same (show body 6 0 = body 0 0 from rfl)]
    show b_X9_swims (g_X9_swims d) σ 6 x = _
    unfold b_X9_swims
    rw [if_neg (by decide), if_neg (by decide), show f_X9_above 6 = some 3 from rfl, bind_s, w1 3 0 (Or.inr rfl) f d x σ (by omega) (by omega) h, bind_s]
theorem tires9 {o p : Nat} (hp : p < 8) {par : Int32} : ∀ (k : Nat), k ≤ 6 → ∀ (f d : Nat) (x : Int32) (σ : Sto), 3 ≤ f → 4 ≤ d → Q9 o p par σ → g_X9_tires d 0 (nI k) x σ = some ((vs o (nI p) par f k 2 x).1, (vs o (nI p) par f k 2 x).2.foldl nt9 σ) := by
  have w0 : ∀ (f d : Nat) (x : Int32) (σ : Sto), 1 ≤ f → 1 ≤ d → Q9 o p par σ → g_X9_tires d 0 0 x σ = some ((vs o (nI p) par f 0 2 x).1, (vs o (nI p) par f 0 2 x).2.foldl nt9 σ) := by
    intro f d x σ hf hd h
    obtain ⟨d, rfl⟩ : ∃ d', d = d' + 1 := ⟨d - 1, by omega⟩
    obtain ⟨f, rfl⟩ : ∃ f', f = f' + 1 := ⟨f - 1, by omega⟩
    show b_X9_tires (g_X9_tires d) σ 0 x = _
    unfold b_X9_tires
    rw [if_pos rfl, ran9 h, bind_s, par9 hp (h.nt 12), bind_s]
    rfl
  have w1 : ∀ (k : Int32), (k = 1 ∨ k = 2) → ∀ (f d : Nat) (x : Int32) (σ : Sto), 1 ≤ f → 2 ≤ d → Q9 o p par σ → g_X9_tires d 0 k x σ = some ((vs o (nI p) par f 0 2 x).1, (vs o (nI p) par f 0 2 x).2.foldl nt9 σ) := by
    intro k hk f d x σ hf hd h
    obtain ⟨d, rfl⟩ : ∃ d', d = d' + 1 := ⟨d - 1, by omega⟩
    show b_X9_tires (g_X9_tires d) σ k x = _
    unfold b_X9_tires
    rcases hk with rfl | rfl
    · rw [if_neg (by decide), if_neg (by decide), if_neg (by decide), show f_X9_above 1 = some 0 from rfl, bind_s, w0 f d x σ hf (by omega) h, bind_s]
    · rw [if_neg (by decide), if_neg (by decide), if_neg (by decide), show f_X9_above 2 = some 0 from rfl, bind_s, w0 f d x σ hf (by omega) h, bind_s]
  have w3 : ∀ (f d : Nat) (x : Int32) (σ : Sto), 2 ≤ f → 2 ≤ d → Q9 o p par σ → g_X9_tires d 0 3 x σ = some ((vs o (nI p) par f 3 2 x).1, (vs o (nI p) par f 3 2 x).2.foldl nt9 σ) := by
    intro f d x σ hf hd h
    obtain ⟨d, rfl⟩ : ∃ d', d = d' + 1 := ⟨d - 1, by omega⟩
    obtain ⟨f, rfl⟩ : ∃ f', f = f' + 1 := ⟨f - 1, by omega⟩
    show b_X9_tires (g_X9_tires d) σ 3 x = _
    unfold b_X9_tires
    rw [if_neg (by decide), if_pos rfl, ran9 h, bind_s, show f_X9_above 3 = some 0 from rfl, bind_s, w0 f d x _ (by omega) (by omega) (h.nt 40), bind_s]
    rfl
  intro k hk f d x σ hf hd h
  rcases (show k = 0 ∨ k = 1 ∨ k = 2 ∨ k = 3 ∨ k = 4 ∨ k = 5 ∨ k = 6 by omega) with rfl | rfl | rfl | rfl | rfl | rfl | rfl
  · exact w0 f d x σ (by omega) (by omega) h
  · rw [vs_same (show body 1 2 = body 0 2 from rfl)]; exact w1 1 (Or.inl rfl) f d x σ (by omega) (by omega) h
  · rw [vs_same (show body 2 2 = body 0 2 from rfl)]; exact w1 2 (Or.inr rfl) f d x σ (by omega) (by omega) h
  · exact w3 f d x σ (by omega) (by omega) h
  · obtain ⟨d, rfl⟩ : ∃ d', d = d' + 1 := ⟨d - 1, by omega⟩
    rw [vs_same (show body 4 2 = body 0 2 from rfl)]
    show b_X9_tires (g_X9_tires d) σ 4 x = _
    unfold b_X9_tires
    rw [if_neg (by decide), if_neg (by decide), if_neg (by decide), show f_X9_above 4 = some 1 from rfl, bind_s, w1 1 (Or.inl rfl) f d x σ (by omega) (by omega) h, bind_s]
  · obtain ⟨d, rfl⟩ : ∃ d', d = d' + 1 := ⟨d - 1, by omega⟩
    rw [vs_same (show body 5 2 = body 0 2 from rfl)]
    show b_X9_tires (g_X9_tires d) σ 5 x = _
    unfold b_X9_tires
    rw [if_neg (by decide), if_neg (by decide), if_neg (by decide), show f_X9_above 5 = some 2 from rfl, bind_s, w1 2 (Or.inr rfl) f d x σ (by omega) (by omega) h, bind_s]
  · obtain ⟨d, rfl⟩ : ∃ d', d = d' + 1 := ⟨d - 1, by omega⟩
    obtain ⟨f, rfl⟩ : ∃ f', f = f' + 1 := ⟨f - 1, by omega⟩
    show b_X9_tires (g_X9_tires d) σ 6 x = _
    unfold b_X9_tires
    have q := (h.nt 70).fold (vs o (nI p) par f 3 2 x).2
    rw [if_neg (by decide), if_neg (by decide), if_pos rfl, ran9 h, bind_s, show f_X9_above 6 = some 3 from rfl, bind_s, w3 f d x _ (by omega) (by omega) (h.nt 70), bind_s, q.2.1]
    rfl
theorem breathes9 {o p : Nat} (ho : o ≤ 6) (hp : p < 8) {par : Int32} : ∀ (k : Nat), k ≤ 6 → ∀ (f d : Nat) (x : Int32) (σ : Sto), 6 ≤ f → 4 ≤ d → Q9 o p par σ → g_X9_breathes d 0 (nI k) x σ = some ((vs o (nI p) par f k 1 x).1, (vs o (nI p) par f k 1 x).2.foldl nt9 σ) := by
  have w0 : ∀ (f d : Nat) (x : Int32) (σ : Sto), 3 ≤ f → 1 ≤ d → Q9 o p par σ → g_X9_breathes d 0 0 x σ = some ((vs o (nI p) par f 0 1 x).1, (vs o (nI p) par f 0 1 x).2.foldl nt9 σ) := by
    intro f d x σ hf hd h
    obtain ⟨d, rfl⟩ : ∃ d', d = d' + 1 := ⟨d - 1, by omega⟩
    obtain ⟨f, rfl⟩ : ∃ f', f = f' + 1 := ⟨f - 1, by omega⟩
    show b_X9_breathes (g_X9_breathes d) σ 0 x = _
    unfold b_X9_breathes
    rw [if_pos rfl, ran9 h, bind_s, own9 hp (h.nt 11), bind_s, swims9 o ho f 8 x _ (by omega) (by omega) (h.nt 11), bind_s]
    rfl
  have w2 : ∀ (k : Int32), (k = 2 ∨ k = 3) → ∀ (f d : Nat) (x : Int32) (σ : Sto), 3 ≤ f → 2 ≤ d → Q9 o p par σ → g_X9_breathes d 0 k x σ = some ((vs o (nI p) par f 0 1 x).1, (vs o (nI p) par f 0 1 x).2.foldl nt9 σ) := by
    intro k hk f d x σ hf hd h
    obtain ⟨d, rfl⟩ : ∃ d', d = d' + 1 := ⟨d - 1, by omega⟩
    show b_X9_breathes (g_X9_breathes d) σ k x = _
    unfold b_X9_breathes
    rcases hk with rfl | rfl
    · rw [if_neg (by decide), if_neg (by decide), if_pos rfl, show f_X9_above 2 = some 0 from rfl, bind_s, w0 f d x σ hf (by omega) h, bind_s]
    · rw [if_neg (by decide), if_neg (by decide), if_neg (by decide), if_pos rfl, show f_X9_above 3 = some 0 from rfl, bind_s, w0 f d x σ hf (by omega) h, bind_s]
  have w1 : ∀ (f d : Nat) (x : Int32) (σ : Sto), 4 ≤ f → 2 ≤ d → Q9 o p par σ → g_X9_breathes d 0 1 x σ = some ((vs o (nI p) par f 1 1 x).1, (vs o (nI p) par f 1 1 x).2.foldl nt9 σ) := by
    intro f d x σ hf hd h
    obtain ⟨d, rfl⟩ : ∃ d', d = d' + 1 := ⟨d - 1, by omega⟩
    obtain ⟨f, rfl⟩ : ∃ f', f = f' + 1 := ⟨f - 1, by omega⟩
    show b_X9_breathes (g_X9_breathes d) σ 1 x = _
    unfold b_X9_breathes
    have q := (h.nt 20).fold (vs o (nI p) par f 0 1 x).2
    rw [if_neg (by decide), if_pos rfl, ran9 h, bind_s, show f_X9_above 1 = some 0 from rfl, bind_s, w0 f d x _ (by omega) (by omega) (h.nt 20), bind_s, own9 hp q, bind_s, tires9 hp o ho f 8 1 _ (by omega) (by omega) q, bind_s]
    show _ = some ((vs o (nI p) par f 0 1 x).1 - (vs o (nI p) par f o 2 1).1, ((20 : Int32) :: ((vs o (nI p) par f 0 1 x).2 ++ (vs o (nI p) par f o 2 1).2)).foldl nt9 σ)
    rw [List.foldl_cons, List.foldl_append]
  intro k hk f d x σ hf hd h
  rcases (show k = 0 ∨ k = 1 ∨ k = 2 ∨ k = 3 ∨ k = 4 ∨ k = 5 ∨ k = 6 by omega) with rfl | rfl | rfl | rfl | rfl | rfl | rfl
  · exact w0 f d x σ (by omega) (by omega) h
  · exact w1 f d x σ (by omega) (by omega) h
  · rw [vs_same (show body 2 1 = body 0 1 from rfl)]; exact w2 2 (Or.inl rfl) f d x σ (by omega) (by omega) h
  · rw [vs_same (show body 3 1 = body 0 1 from rfl)]; exact w2 3 (Or.inr rfl) f d x σ (by omega) (by omega) h
  · obtain ⟨d, rfl⟩ : ∃ d', d = d' + 1 := ⟨d - 1, by omega⟩
    obtain ⟨f, rfl⟩ : ∃ f', f = f' + 1 := ⟨f - 1, by omega⟩
    show b_X9_breathes (g_X9_breathes d) σ 4 x = _
    unfold b_X9_breathes
    rw [if_neg (by decide), if_neg (by decide), if_neg (by decide), if_neg (by decide), if_pos rfl, ran9 h, bind_s, show f_X9_above 4 = some 1 from rfl, bind_s, w1 f d (x + 1) _ (by omega) (by omega) (h.nt 50), bind_s]
    rfl
  · obtain ⟨d, rfl⟩ : ∃ d', d = d' + 1 := ⟨d - 1, by omega⟩
    rw [vs_same (show body 5 1 = body 0 1 from rfl)]
    show b_X9_breathes (g_X9_breathes d) σ 5 x = _
    unfold b_X9_breathes
    rw [if_neg (by decide), if_neg (by decide), if_neg (by decide), if_neg (by decide), if_neg (by decide), show f_X9_above 5 = some 2 from rfl, bind_s, w2 2 (Or.inl rfl) f d x σ (by omega) (by omega) h, bind_s]
  · obtain ⟨d, rfl⟩ : ∃ d', d = d' + 1 := ⟨d - 1, by omega⟩
    rw [vs_same (show body 6 1 = body 0 1 from rfl)]
    show b_X9_breathes (g_X9_breathes d) σ 6 x = _
    unfold b_X9_breathes
    rw [if_neg (by decide), if_neg (by decide), if_neg (by decide), if_neg (by decide), if_neg (by decide), show f_X9_above 6 = some 3 from rfl, bind_s, w2 3 (Or.inr rfl) f d x σ (by omega) (by omega) h, bind_s]
theorem tells9 {o p : Nat} (ho : o ≤ 6) (hp : p < 8) {par : Int32} : ∀ (k : Nat), k ≤ 6 → ∀ (f d : Nat) (x : Int32) (σ : Sto), 8 ≤ f → 4 ≤ d → Q9 o p par σ → g_X9_tells d 0 (nI k) x σ = some ((vs o (nI p) par f k 3 x).1, (vs o (nI p) par f k 3 x).2.foldl nt9 σ) := by
  have w0 : ∀ (f d : Nat) (x : Int32) (σ : Sto), 7 ≤ f → 1 ≤ d → Q9 o p par σ → g_X9_tells d 0 0 x σ = some ((vs o (nI p) par f 0 3 x).1, (vs o (nI p) par f 0 3 x).2.foldl nt9 σ) := by
    intro f d x σ hf hd h
    obtain ⟨d, rfl⟩ : ∃ d', d = d' + 1 := ⟨d - 1, by omega⟩
    obtain ⟨f, rfl⟩ : ∃ f', f = f' + 1 := ⟨f - 1, by omega⟩
    show b_X9_tells (g_X9_tells d) σ 0 x = _
    unfold b_X9_tells
    have q := (h.nt 13).fold (vs o (nI p) par f o 1 x).2
    rw [if_pos rfl, ran9 h, bind_s, own9 hp (h.nt 13), bind_s, breathes9 ho hp o ho f 8 x _ (by omega) (by omega) (h.nt 13), bind_s, own9 hp q, bind_s, tires9 hp o ho f 8 x _ (by omega) (by omega) q, bind_s]
    show _ = some ((vs o (nI p) par f o 1 x).1 ^^^ (vs o (nI p) par f o 2 x).1, ((13 : Int32) :: ((vs o (nI p) par f o 1 x).2 ++ (vs o (nI p) par f o 2 x).2)).foldl nt9 σ)
    rw [List.foldl_cons, List.foldl_append]
  have w1 : ∀ (k : Int32), (k = 1 ∨ k = 2 ∨ k = 3) → ∀ (f d : Nat) (x : Int32) (σ : Sto), 7 ≤ f → 2 ≤ d → Q9 o p par σ → g_X9_tells d 0 k x σ = some ((vs o (nI p) par f 0 3 x).1, (vs o (nI p) par f 0 3 x).2.foldl nt9 σ) := by
    intro k hk f d x σ hf hd h
    obtain ⟨d, rfl⟩ : ∃ d', d = d' + 1 := ⟨d - 1, by omega⟩
    show b_X9_tells (g_X9_tells d) σ k x = _
    unfold b_X9_tells
    rcases hk with rfl | rfl | rfl
    · rw [if_neg (by decide), if_neg (by decide), if_neg (by decide), show f_X9_above 1 = some 0 from rfl, bind_s, w0 f d x σ hf (by omega) h, bind_s]
    · rw [if_neg (by decide), if_neg (by decide), if_neg (by decide), show f_X9_above 2 = some 0 from rfl, bind_s, w0 f d x σ hf (by omega) h, bind_s]
    · rw [if_neg (by decide), if_neg (by decide), if_neg (by decide), show f_X9_above 3 = some 0 from rfl, bind_s, w0 f d x σ hf (by omega) h, bind_s]
  intro k hk f d x σ hf hd h
  rcases (show k = 0 ∨ k = 1 ∨ k = 2 ∨ k = 3 ∨ k = 4 ∨ k = 5 ∨ k = 6 by omega) with rfl | rfl | rfl | rfl | rfl | rfl | rfl
  · exact w0 f d x σ (by omega) (by omega) h
  · rw [vs_same (show body 1 3 = body 0 3 from rfl)]; exact w1 1 (Or.inl rfl) f d x σ (by omega) (by omega) h
  · rw [vs_same (show body 2 3 = body 0 3 from rfl)]; exact w1 2 (Or.inr (Or.inl rfl)) f d x σ (by omega) (by omega) h
  · rw [vs_same (show body 3 3 = body 0 3 from rfl)]; exact w1 3 (Or.inr (Or.inr rfl)) f d x σ (by omega) (by omega) h
  · obtain ⟨d, rfl⟩ : ∃ d', d = d' + 1 := ⟨d - 1, by omega⟩
    rw [vs_same (show body 4 3 = body 0 3 from rfl)]
    show b_X9_tells (g_X9_tells d) σ 4 x = _
    unfold b_X9_tells
    rw [if_neg (by decide), if_neg (by decide), if_neg (by decide), show f_X9_above 4 = some 1 from rfl, bind_s, w1 1 (Or.inl rfl) f d x σ (by omega) (by omega) h, bind_s]
  · obtain ⟨d, rfl⟩ : ∃ d', d = d' + 1 := ⟨d - 1, by omega⟩
    obtain ⟨f, rfl⟩ : ∃ f', f = f' + 1 := ⟨f - 1, by omega⟩
    show b_X9_tells (g_X9_tells d) σ 5 x = _
    unfold b_X9_tells
    have e2 : vs o (nI p) par f 2 3 x = vs o (nI p) par f 0 3 x := vs_same (by decide) f x
    have q := (h.nt 60).fold (vs o (nI p) par f 0 3 x).2
    rw [if_neg (by decide), if_pos rfl, ran9 h, bind_s, show f_X9_above 5 = some 2 from rfl, bind_s, w1 2 (Or.inr (Or.inl rfl)) f d x _ (by omega) (by omega) (h.nt 60), bind_s, own9 hp q, bind_s, swims9 o ho f 8 2 _ (by omega) (by omega) q, bind_s]
    show _ = some ((vs o (nI p) par f 2 3 x).1 - (vs o (nI p) par f o 0 2).1, ((60 : Int32) :: ((vs o (nI p) par f 2 3 x).2 ++ (vs o (nI p) par f o 0 2).2)).foldl nt9 σ)
    rw [List.foldl_cons, List.foldl_append, e2]
  · obtain ⟨d, rfl⟩ : ∃ d', d = d' + 1 := ⟨d - 1, by omega⟩
    obtain ⟨f, rfl⟩ : ∃ f', f = f' + 1 := ⟨f - 1, by omega⟩
    show b_X9_tells (g_X9_tells d) σ 6 x = _
    unfold b_X9_tells
    have e3 : vs o (nI p) par f 3 3 x = vs o (nI p) par f 0 3 x := vs_same (by decide) f x
    have q := (h.nt 71).fold (vs o (nI p) par f o 1 x).2
    rw [if_neg (by decide), if_neg (by decide), if_pos rfl, ran9 h, bind_s, own9 hp (h.nt 71), bind_s, breathes9 ho hp o ho f 8 x _ (by omega) (by omega) (h.nt 71), bind_s, show f_X9_above 6 = some 3 from rfl, bind_s, w1 3 (Or.inr (Or.inr rfl)) f d x _ (by omega) (by omega) q, bind_s]
    show _ = some ((vs o (nI p) par f o 1 x).1 - (vs o (nI p) par f 3 3 x).1, ((71 : Int32) :: ((vs o (nI p) par f o 1 x).2 ++ (vs o (nI p) par f 3 3 x).2)).foldl nt9 σ)
    rw [List.foldl_cons, List.foldl_append, e3]
/-- the two traces, of two stores -/
def TX (σ8 σ9 : Sto) : Prop := ∃ n, n ≤ 40 ∧ σ8.1 65 1 = nI n ∧ σ9.1 81 18 = nI n ∧ ∀ i, i < n → σ8.1 66 i = σ9.1 89 i
theorem TX.nt {σ8 σ9 : Sto} (h : TX σ8 σ9) (v : Int32) : TX (nt8 σ8 v) (nt9 σ9 v) := by
  obtain ⟨n, hn, e8, e9, hi⟩ := h
  unfold nt8 nt9
  rw [e8, e9]
  by_cases hc : (40 : Int32) ≤ nI n
  · rw [if_pos hc, if_pos hc]; exact ⟨n, hn, e8, e9, hi⟩
  · rw [if_neg hc, if_neg hc, nI_1, nI_clamp (by omega)]
    have hn' : n < 40 := by
      rcases (show n = 40 ∨ n < 40 by omega) with rfl | h'
      · exact absurd (by decide) hc
      · exact h'
    refine ⟨n + 1, by omega, by rw [sI_at, if_pos rfl], by rw [sI_at, if_pos rfl], fun i hin => ?_⟩
    rw [sI_ne (by decide), sI_at, sI_ne (by decide), sI_at]
    by_cases h' : i = n
    · rw [if_pos h', if_pos h']
    · rw [if_neg h', if_neg h']; exact hi i (by omega)
theorem TX.fold : ∀ (l : List Int32) {σ8 σ9 : Sto}, TX σ8 σ9 → TX (l.foldl nt8 σ8) (l.foldl nt9 σ9) := by
  intro l
  induction l with
  | nil => intro _ _ h; exact h
  | cons v l ih => intro _ _ h; exact ih (h.nt v)
theorem nt8_o {σ : Sto} {v : Int32} {k j : Nat} (h : k ≠ 66 ∧ ¬ (k = 65 ∧ j = 1)) : (nt8 σ v).1 k j = σ.1 k j := by
  unfold nt8
  by_cases hc : (40 : Int32) ≤ σ.1 65 1
  · rw [if_pos hc]
  · rw [if_neg hc]
    show (if k = 65 ∧ j = 1 then _ else if k = 66 ∧ _ then _ else σ.1 k j) = _
    rw [if_neg h.2, if_neg (fun z => h.1 z.1)]
theorem nt9_o {σ : Sto} {v : Int32} {k j : Nat} (h : k ≠ 89 ∧ ¬ (k = 81 ∧ j = 18)) : (nt9 σ v).1 k j = σ.1 k j := by
  unfold nt9
  by_cases hc : (40 : Int32) ≤ σ.1 81 18
  · rw [if_pos hc]
  · rw [if_neg hc]
    show (if k = 81 ∧ j = 18 then _ else if k = 89 ∧ _ then _ else σ.1 k j) = _
    rw [if_neg h.2, if_neg (fun z => h.1 z.1)]
theorem fold8_o {k j : Nat} (h : k ≠ 66 ∧ ¬ (k = 65 ∧ j = 1)) : ∀ (l : List Int32) (σ : Sto), (l.foldl nt8 σ).1 k j = σ.1 k j := by
  intro l
  induction l with
  | nil => intro _; rfl
  | cons v l ih => intro σ; rw [List.foldl_cons, ih, nt8_o h]
theorem fold9_o {k j : Nat} (h : k ≠ 89 ∧ ¬ (k = 81 ∧ j = 18)) : ∀ (l : List Int32) (σ : Sto), (l.foldl nt9 σ).1 k j = σ.1 k j := by
  intro l
  induction l with
  | nil => intro _; rfl
  | cons v l ih => intro σ; rw [List.foldl_cons, ih, nt9_o h]
theorem s_voice (a1 a2 a3 : Int32) (b : Bool) : LPr (fun σ => f_X8_voice σ a1 a2 a3) (fun σ => f_X9_voice σ a1 a2 a3) b Inv Inv := by
  intro σ hI
  have er := fun (k : Nat) (h8 : f_X8_voice σ a1 a2 a3 = some (-1000000000 - nI k, rf σ k)) (h9 : f_X9_voice (rf σ k) a1 a2 a3 = some (-1000000000 - nI k, fi (rf σ k) k)) => er_LPr (f := fun σ => f_X8_voice σ a1 a2 a3) (g := fun σ => f_X9_voice σ a1 a2 a3) (b := b) hI h8 h9
  unfold f_X8_voice f_X9_voice at er
  rcases sA8 hI.1 a1 with ⟨hq, e⟩ | ⟨p, hp, hpN, rfl, hq, e⟩
  · exact er 1 (by rw [e, bind_s, onN_0, r8_1, bind_s]) (by rw [isS_eq, rf_at (by decide), bind_s, hq, if_neg (by decide), r9_1, bind_s])
  · cases h2 : isO a2 0 3 with
    | true => exact er 1 (by rw [e, bind_s, onN_1, out_eq, bind_s, h2, if_pos rfl, r8_1, bind_s]) (by rw [isS_eq, rf_at (by decide), bind_s, hq, if_pos (by decide), in_0_3, bind_s, h2, if_neg (by decide), r9_1, bind_s])
    | false =>
      obtain ⟨m, hm, rfl⟩ := isO_nI (n := 3) rfl h2
      obtain ⟨o, ho, eo⟩ := sw_kind hI.1.ok hp
      have s0 : σ.1 (12 + 2 * p) 0 = nI o := (sw8f hI.1 hpN (by omega)).trans eo
      have s1 : σ.1 (12 + 2 * p) 1 = S9 (σ.1 82) p 1 := sw8f hI.1 hpN (by omega)
      generalize hpar : S9 (σ.1 82) p 1 = par at s1
      generalize hρ : sI (sI (sI (sI σ 65 2 (nI o)) 65 4 par) 65 3 (nI p)) 65 1 0 = ρ
      have oρ : ∀ k j, k ≠ 65 → ρ.1 k j = σ.1 k j := fun k j h => by rw [← hρ, sI_ne h, sI_ne h, sI_ne h, sI_ne h]
      have Qρ : Q8 o (nI p) par ρ := by
        rw [← hρ]
        exact ⟨⟨0, by omega, rfl⟩, rfl, rfl, rfl⟩
      have t8 := say8 ho 12 44 o m 0 a3 ρ ho hm (vok_all o (by omega) m (by omega)) (by omega) (by omega) Qρ
      generalize hl : (vs o (nI p) par 12 o m a3).2 = l at t8
      generalize hv : (vs o (nI p) par 12 o m a3).1 = v at t8
      generalize hτ : l.foldl nt8 ρ = τ at t8
      have oτ : ∀ k j, k ≠ 65 → k ≠ 66 → τ.1 k j = σ.1 k j := fun k j h h' => by rw [← hτ, fold8_o ⟨h', fun z => h z.1⟩, oρ k j h]
      generalize hχ : sI (sI τ 81 18 0) 81 19 (nI p) = χ
      have oχ : ∀ k j, k ≠ 81 → χ.1 k j = τ.1 k j := fun k j h => by rw [← hχ, sI_ne h, sI_ne h]
      have dχ : χ.1 82 = σ.1 82 := funext fun j => by rw [oχ 82 j (by decide), oτ 82 j (by decide) (by decide)]
      have Qχ : Q9 o p par χ := by
        refine ⟨⟨0, by omega, ?_⟩, ?_, by rw [dχ]; exact eo, by rw [dχ]; exact hpar⟩
        · rw [← hχ, sI_nj (by decide), sI_at, if_pos rfl]; rfl
        · rw [← hχ, sI_at, if_pos rfl]
      have t9 : f_X9_voice τ (nI p) (nI m) a3 = some (v, l.foldl nt9 χ) := by
        unfold f_X9_voice
        rw [isS_eq, show τ.1 82 12 = σ.1 82 12 from oτ 82 12 (by decide) (by decide), bind_s, hq, if_pos (by decide), in_0_3, bind_s, h2, if_pos (by decide), lp_b, lp_b, hχ, own9 hp Qχ, bind_s, ← hl, ← hv]
        rcases (show m = 0 ∨ m = 1 ∨ m = 2 ∨ m = 3 by omega) with rfl | rfl | rfl | rfl
        · rw [if_pos (by decide), swims9 o ho 12 8 a3 χ (by omega) (by omega) Qχ, bind_s]
        · rw [if_neg (by decide), if_pos (by decide), breathes9 ho hp o ho 12 8 a3 χ (by omega) (by omega) Qχ, bind_s]
        · rw [if_neg (by decide), if_neg (by decide), if_pos (by decide), tires9 hp o ho 12 8 a3 χ (by omega) (by omega) Qχ, bind_s]
        · rw [if_neg (by decide), if_neg (by decide), if_neg (by decide), tells9 ho hp o ho 12 8 a3 χ (by omega) (by omega) Qχ, bind_s]
      have hTX : TX τ (l.foldl nt9 χ) := by
        rw [← hτ]
        exact TX.fold l ⟨0, by omega, by rw [← hρ]; rfl, by rw [← hχ, sI_nj (by decide), sI_at, if_pos rfl]; rfl, fun i hi => by omega⟩
      generalize hυ : l.foldl nt9 χ = υ at t9 hTX
      have oυ : ∀ k j, k ≠ 89 → ¬ (k = 81 ∧ (j = 18 ∨ j = 19)) → υ.1 k j = τ.1 k j := by
        intro k j h h'
        rw [← hυ, fold9_o ⟨h, fun z => h' ⟨z.1, Or.inl z.2⟩⟩, ← hχ]
        show (if k = 81 ∧ j = 19 then _ else if k = 81 ∧ j = 18 then _ else τ.1 k j) = _
        rw [if_neg (fun z => h' ⟨z.1, Or.inr z.2⟩), if_neg (fun z => h' ⟨z.1, Or.inl z.2⟩)]
      refine ⟨(v, τ), (v, υ), ?_, t9, fun _ => rfl, ?_⟩
      · show f_X8_voice σ (nI p) (nI m) a3 = _
        unfold f_X8_voice f_X7_speak
        rw [e, bind_s, onN_1, out_eq, bind_s, h2, if_neg (by decide), if_pos (K12 p hp), lp_b, s0, lp_b, sI_ne (show 12 + 2 * p ≠ 65 by omega), s1, lp_b, lp_b, hρ, Qρ.2.1, show g_X7_say 44 0 (nI o) (nI m) a3 0 ρ = some (v, τ) from t8, bind_s, bind_s]
      · have keep : ∀ k j, k ≠ 65 → k ≠ 66 → k ≠ 89 → ¬ (k = 81 ∧ (j = 18 ∨ j = 19)) → υ.1 k j = σ.1 k j := fun k j h1 h2 h3 h4 => by rw [oυ k j h3 h4, oτ k j h1 h2]
        obtain ⟨⟨q1, q2, q3, q4, q5, q6⟩, q7⟩ := hI
        refine ⟨⟨q1.keep (fun k j hk => keep k j (by unfold lkc at hk; omega) (by unfold lkc at hk; omega) (by unfold lkc at hk; omega) (by unfold lkc at hk; omega)), by rw [keep 0 10 (by decide) (by decide) (by decide) (by omega), keep 81 3 (by decide) (by decide) (by decide) (by omega)]; exact q2, fun hn => (q3 (by rw [keep 81 3 (by decide) (by decide) (by decide) (by omega)] at hn; exact hn)).keep (fun k j hk => keep k j (by unfold lkc at hk; omega) (by unfold lkc at hk; omega) (by unfold lkc at hk; omega) (by unfold lkc at hk; omega)), ?_, q5.keep (fun k j hk => keep k j (by omega) (by omega) (by omega) (by omega)), by unfold US; rw [keep 4 0 (by decide) (by decide) (by decide) (by omega), keep 7 0 (by decide) (by decide) (by decide) (by omega)]; exact q6⟩, fun k hk => by rw [keep 68 k (by decide) (by decide) (by decide) (by omega), keep 85 k (by decide) (by decide) (by decide) (by omega)]; exact q7 k hk⟩
        obtain ⟨n, hn, e8, e9, hi⟩ := hTX
        exact ⟨n, hn, by rw [oυ 65 1 (by decide) (by omega)]; exact e8, e9, fun i hin => by rw [oυ 66 i (by decide) (by omega)]; exact hi i hin⟩
/-! A text read by both: the class's reader stops at once, the reference's goes on with its fault. -/
def ch (T : Nat → Int32) (L P : Nat) : Int32 := if P < L then T P else -1
/-- the class's reader at P, with the code c -/
def PC (T : Nat → Int32) (L u P : Nat) (c : List Int32) (σ : Sto) : Prop := L ≤ 50 ∧ P ≤ L ∧ c.length ≤ P ∧ σ.1 55 3 = nI L ∧ σ.2 55 5 = some (1004 + u) ∧ (∀ i, i < L → σ.1 57 i = T i) ∧ σ.1 55 4 = nI P ∧ σ.1 55 1 = nI c.length ∧ ∀ i, i < c.length → σ.1 56 i = cv8 (c.getD i 0)
/-- the reference's reader at P, with the code c, o brackets deep -/
def PF (T : Nat → Int32) (L u o P : Nat) (c : List Int32) (σ : Sto) : Prop := L ≤ 50 ∧ P ≤ L ∧ c.length ≤ P ∧ σ.1 81 5 = 210 ∧ σ.1 81 7 = nI L ∧ σ.1 81 10 = nI u ∧ (∀ i, i < L → σ.1 82 (210 + i) = T i) ∧ σ.1 81 6 = nI P ∧ σ.1 81 8 = -1 ∧ σ.1 81 9 = nI o ∧ σ.1 81 13 = nI c.length ∧ ∀ i, i < c.length → σ.1 87 i = c.getD i 0
def e8 (σ τ : Sto) : Prop := τ.2 = σ.2 ∧ ∀ a b, a ≠ 55 → a ≠ 56 → τ.1 a b = σ.1 a b
def e9 (σ τ : Sto) : Prop := ∀ a b, a ≠ 87 → ¬ (a = 81 ∧ (b = 6 ∨ b = 8 ∨ b = 9 ∨ b = 13)) → τ.1 a b = σ.1 a b
theorem e8.rf (σ : Sto) : e8 σ σ := ⟨rfl, fun _ _ _ _ => rfl⟩
theorem e9.rf (σ : Sto) : e9 σ σ := fun _ _ _ _ => rfl
theorem e8.tr {σ τ υ : Sto} (h : e8 σ τ) (h' : e8 τ υ) : e8 σ υ := ⟨h'.1.trans h.1, fun a b x y => (h'.2 a b x y).trans (h.2 a b x y)⟩
theorem e9.tr {σ τ υ : Sto} (h : e9 σ τ) (h' : e9 τ υ) : e9 σ υ := fun a b x y => (h' a b x y).trans (h a b x y)
theorem e9.w (σ : Sto) {b : Nat} (hb : b = 6 ∨ b = 8 ∨ b = 9 ∨ b = 13) (v : Int32) : e9 σ (sI σ 81 b v) := fun x y _ h => by
  show (if x = 81 ∧ y = b then v else σ.1 x y) = _
  rw [if_neg (fun z => h ⟨z.1, by omega⟩)]
theorem next_c {T : Nat → Int32} {L u P : Nat} {c : List Int32} {σ : Sto} (h : PC T L u P c σ) : f_X3_next σ = some (ch T L P) := by
  obtain ⟨h1, h2, h3, h4, h5, h6, h7, h8, h9⟩ := h
  unfold f_X3_next f_X3_next_L30 ch
  rw [h7, h4, if_neg (nI_pos (by omega))]
  by_cases h : P < L
  · rw [if_neg (nI_ge (by omega) (by omega)), if_pos (show nI P < 50 from nI_lt (b := 50) (by omega) (by omega)), rd_nI (by show P < 50; omega), bind_s, if_pos h, h6 P h]
  · rw [if_pos (nI_le (by omega) (by omega)), if_neg h]
theorem here_f {T : Nat → Int32} {L u o P : Nat} {c : List Int32} {σ : Sto} (h : PF T L u o P c σ) : f_X9_here σ = some (ch T L P) := by
  obtain ⟨h1, h2, h3, h4, h5, h6, h7, h8, h9, h10, h11, h12⟩ := h
  unfold f_X9_here ch
  rw [h5, h8, h9, h4]
  by_cases h : P < L
  · rw [if_neg (nI_ge (by omega) (by omega)), if_neg (by decide), show (210 + nI P : Int32) = nI (210 + P) from nI_add 210 P, rd_nI (by show 210 + P < 270; omega), bind_s, if_pos h, h7 P h]
  · rw [if_pos (nI_le (by omega) (by omega)), if_neg h]
theorem here_x {F : Nat} (hF : F ≤ 50) {σ : Sto} (h : σ.1 81 8 = nI F) : f_X9_here σ = some (-1) := by
  unfold f_X9_here
  by_cases h1 : σ.1 81 7 ≤ σ.1 81 6
  · rw [if_pos h1]
  · rw [if_neg h1, h, if_pos (nI_pos' (by omega))]
theorem lay_x {F : Nat} (hF : F ≤ 50) {σ : Sto} (h : σ.1 81 8 = nI F) (v : Int32) : f_X9_lay σ v = some σ := by
  unfold f_X9_lay
  rw [h, if_pos (nI_pos' (by omega))]
theorem adv_c {T : Nat → Int32} {L u P : Nat} {c : List Int32} {σ : Sto} (h : PC T L u P c σ) (hP : P < L) : PC T L u (P + 1) c (sI σ 55 4 (σ.1 55 4 + 1)) ∧ e8 σ (sI σ 55 4 (σ.1 55 4 + 1)) := by
  obtain ⟨h1, h2, h3, h4, h5, h6, h7, h8, h9⟩ := h
  rw [h7, nI_1]
  exact ⟨⟨h1, by omega, by omega, by rw [sI_nj (by decide)]; exact h4, h5, fun i hi => by rw [sI_ne (by decide)]; exact h6 i hi, by rw [sI_at, if_pos rfl], by rw [sI_nj (by decide)]; exact h8, fun i hi => by rw [sI_ne (by decide)]; exact h9 i hi⟩, rfl, fun a b h _ => sI_ne h⟩
theorem adv_f {T : Nat → Int32} {L u o P : Nat} {c : List Int32} {σ : Sto} (h : PF T L u o P c σ) (hP : P < L) : PF T L u o (P + 1) c (sI σ 81 6 (σ.1 81 6 + 1)) ∧ e9 σ (sI σ 81 6 (σ.1 81 6 + 1)) := by
  obtain ⟨h1, h2, h3, h4, h5, h6, h7, h8, h9, h10, h11, h12⟩ := h
  rw [h8, nI_1]
  exact ⟨⟨h1, by omega, by omega, by rw [sI_nj (by decide)]; exact h4, by rw [sI_nj (by decide)]; exact h5, by rw [sI_nj (by decide)]; exact h6, fun i hi => by rw [sI_ne (by decide)]; exact h7 i hi, by rw [sI_at, if_pos rfl], by rw [sI_nj (by decide)]; exact h9, by rw [sI_nj (by decide)]; exact h10, by rw [sI_nj (by decide)]; exact h11, fun i hi => by rw [sI_ne (by decide)]; exact h12 i hi⟩, e9.w _ (by omega) _⟩
theorem getD_app {c : List Int32} {v : Int32} {i : Nat} (h : i < c.length) : (c ++ [v]).getD i 0 = c.getD i 0 := by
  rw [List.getD_eq_getElem?_getD, List.getD_eq_getElem?_getD, List.getElem?_append_left h]
theorem getD_end {c : List Int32} {v : Int32} : (c ++ [v]).getD c.length 0 = v := by
  rw [List.getD_eq_getElem?_getD, List.getElem?_append_right (Nat.le_refl _), Nat.sub_self]
  rfl
theorem add_c {T : Nat → Int32} {L u P : Nat} {c : List Int32} {σ : Sto} (h : PC T L u P c σ) (hc : c.length < P) (v : Int32) : ∃ τ, f_X3_add σ (cv8 v) = some τ ∧ PC T L u P (c ++ [v]) τ ∧ e8 σ τ := by
  obtain ⟨h1, h2, h3, h4, h5, h6, h7, h8, h9⟩ := h
  have hl : (c ++ [v]).length = c.length + 1 := by simp
  unfold f_X3_add
  rw [h8, if_neg (show ¬ (50 : Int32) ≤ nI c.length from nI_ge (b := 50) (by omega) (by omega)), wr_nI (by show c.length < 50; omega), bind_s, lp_b, sI_ne (by decide), h8, nI_1]
  refine ⟨_, rfl, ⟨h1, h2, by omega, by rw [sI_nj (by decide), sI_ne (by decide)]; exact h4, h5, fun i hi => by rw [sI_ne (by decide), sI_ne (by decide)]; exact h6 i hi, by rw [sI_nj (by decide), sI_ne (by decide)]; exact h7, by rw [sI_at, if_pos rfl, hl], fun i hi => ?_⟩, rfl, fun a b ha hb => by rw [sI_ne ha, sI_ne hb]⟩
  rw [sI_ne (by decide), sI_at]
  by_cases hi' : i = c.length
  · rw [if_pos hi', hi', getD_end]
  · rw [if_neg hi', getD_app (by omega)]
    exact h9 i (by omega)
theorem lay_f {T : Nat → Int32} {L u o P : Nat} {c : List Int32} {σ : Sto} (h : PF T L u o P c σ) (hc : c.length < P) (v : Int32) : ∃ τ, f_X9_lay σ v = some τ ∧ PF T L u o P (c ++ [v]) τ ∧ e9 σ τ := by
  obtain ⟨h1, h2, h3, h4, h5, h6, h7, h8, h9, h10, h11, h12⟩ := h
  have hl : (c ++ [v]).length = c.length + 1 := by simp
  unfold f_X9_lay
  rw [h9, if_neg (by decide), h11, wr_nI (by show c.length < 60; omega), bind_s, lp_b, sI_ne (by decide), h11, nI_1]
  refine ⟨_, rfl, ⟨h1, h2, by omega, by rw [sI_nj (by decide), sI_ne (by decide)]; exact h4, by rw [sI_nj (by decide), sI_ne (by decide)]; exact h5, by rw [sI_nj (by decide), sI_ne (by decide)]; exact h6, fun i hi => by rw [sI_ne (by decide), sI_ne (by decide)]; exact h7 i hi, by rw [sI_nj (by decide), sI_ne (by decide)]; exact h8, by rw [sI_nj (by decide), sI_ne (by decide)]; exact h9, by rw [sI_nj (by decide), sI_ne (by decide)]; exact h10, by rw [sI_at, if_pos rfl, hl], fun i hi => ?_⟩, fun a b ha hb => ?_⟩
  · rw [sI_ne (by decide), sI_at]
    by_cases hi' : i = c.length
    · rw [if_pos hi', hi', getD_end]
    · rw [if_neg hi', getD_app (by omega)]
      exact h12 i (by omega)
  · rw [e9.w _ (by omega) _ a b ha hb, sI_ne ha]
def bal (ts : List Int32) : Prop := ∀ h rest, wfh rest (h + 1) = true → wfh (ts ++ rest) h = true
def balL (ts : List Int32) : Prop := ∀ h rest, wfh rest (h + 1) = true → wfh (ts ++ rest) (h + 1) = true
/-- both go on alike, or both have found the same fault -/
def RS (B : List Int32 → Prop) (T : Nat → Int32) (L u o P : Nat) (c : List Int32) (σ8 σ9 : Sto) (x8 : Option (Bool × Sto)) (x9 : Option Sto) : Prop :=
  (∃ P' ts τ8 τ9, x8 = some (true, τ8) ∧ x9 = some τ9 ∧ PC T L u P' (c ++ ts) τ8 ∧ PF T L u o P' (c ++ ts) τ9 ∧ P + ts.length ≤ P' ∧ B ts ∧ e8 σ8 τ8 ∧ e9 σ9 τ9) ∨
  (∃ F τ8 τ9, x8 = some (false, τ8) ∧ x9 = some τ9 ∧ F ≤ 50 ∧ τ8.1 55 4 = nI F ∧ τ9.1 81 8 = nI F ∧ e8 σ8 τ8 ∧ e9 σ9 τ9)
def PS (T : Nat → Int32) (L u o : Nat) (g8 : Sto → Option (Bool × Sto)) (g9 : Sto → Option Sto) : Prop := ∀ P c σ8 σ9, PC T L u P c σ8 → PF T L u o P c σ9 → RS bal T L u o P c σ8 σ9 (g8 σ8) (g9 σ9)
theorem loop_S {T : Nat → Int32} {L u o : Nat} {ops : Int32 → Bool} {s8 : Sto → Option (Bool × Sto)} {s9 : Sto → Option Sto} (hs : PS T L u o s8 s9) {l8 : Nat → Sto → Option (Bool × Sto)} {l9 : Nat → Sto → Option Sto}
    (stop8 : ∀ n P c σ, PC T L u P c σ → ops (ch T L P) = false → l8 (n + 1) σ = some (true, σ))
    (step8 : ∀ n P c σ, PC T L u P c σ → P < L → ops (ch T L P) = true → l8 (n + 1) σ = (s8 (sI σ 55 4 (σ.1 55 4 + 1))).bind (fun r => if r.1 = true then (f_X3_add r.2 (-(ch T L P))).bind (fun τ => l8 n τ) else some (false, r.2)))
    (stop9 : ∀ n P c σ, PF T L u o P c σ → ops (ch T L P) = false → l9 (n + 1) σ = some σ)
    (step9 : ∀ n P c σ, PF T L u o P c σ → P < L → ops (ch T L P) = true → l9 (n + 1) σ = (s9 (sI σ 81 6 (σ.1 81 6 + 1))).bind (fun τ => (f_X9_lay τ (20000 + ch T L P)).bind (fun υ => l9 n υ)))
    (fl9 : ∀ n F σ, F ≤ 50 → σ.1 81 8 = nI F → l9 (n + 1) σ = some σ)
    (hops : ∀ x, ops x = true → tokO (20000 + x) = true ∧ cv8 (20000 + x) = -x) (hm : ops (-1) = false) :
    ∀ d n P c σ8 σ9, L - P ≤ d → d < n → PC T L u P c σ8 → PF T L u o P c σ9 → RS balL T L u o P c σ8 σ9 (l8 n σ8) (l9 n σ9) := by
  intro d
  induction d with
  | zero =>
    intro n P c σ8 σ9 hd hn h8 h9
    obtain ⟨n, rfl⟩ : ∃ n', n = n' + 1 := ⟨n - 1, by omega⟩
    have hc : ops (ch T L P) = false := by
      unfold ch
      rw [if_neg (by omega)]
      exact hm
    exact Or.inl ⟨P, [], σ8, σ9, stop8 n P c σ8 h8 hc, stop9 n P c σ9 h9 hc, by rw [List.append_nil]; exact h8, by rw [List.append_nil]; exact h9, by simp, fun h rest q => q, e8.rf _, e9.rf _⟩
  | succ d ih =>
    intro n P c σ8 σ9 hd hn h8 h9
    obtain ⟨n, rfl⟩ : ∃ n', n = n' + 1 := ⟨n - 1, by omega⟩
    cases hc : ops (ch T L P) with
    | false => exact Or.inl ⟨P, [], σ8, σ9, stop8 n P c σ8 h8 hc, stop9 n P c σ9 h9 hc, by rw [List.append_nil]; exact h8, by rw [List.append_nil]; exact h9, by simp, fun h rest q => q, e8.rf _, e9.rf _⟩
    | true =>
      have hP : P < L := by
        rcases Nat.lt_or_ge P L with h | h
        · exact h
        · unfold ch at hc
          rw [if_neg (by omega), hm] at hc
          cases hc
      obtain ⟨o1, o2⟩ := hops _ hc
      obtain ⟨a8, b8⟩ := adv_c h8 hP
      obtain ⟨a9, b9⟩ := adv_f h9 hP
      rw [step8 n P c σ8 h8 hP hc, step9 n P c σ9 h9 hP hc]
      generalize sI σ8 55 4 (σ8.1 55 4 + 1) = σ8' at a8 b8 ⊢
      generalize sI σ9 81 6 (σ9.1 81 6 + 1) = σ9' at a9 b9 ⊢
      rcases hs (P + 1) c σ8' σ9' a8 a9 with ⟨P', ts, τ8, τ9, r1, r2, r3, r4, r5, r6, r7, r8⟩ | ⟨F, τ8, τ9, r1, r2, r3, r4, r5, r6, r7⟩
      · have hlen : (c ++ ts).length < P' := by
          have := h8.2.2.1
          rw [List.length_append]
          omega
        obtain ⟨χ8, x1, x2, x3⟩ := add_c r3 hlen (20000 + ch T L P)
        obtain ⟨χ9, y1, y2, y3⟩ := lay_f r4 hlen (20000 + ch T L P)
        rw [o2] at x1
        rw [r1, bind_s, if_pos rfl, x1, bind_s, r2, bind_s, y1, bind_s]
        rcases ih n P' (c ++ ts ++ [20000 + ch T L P]) χ8 χ9 (by omega) (by omega) x2 y2 with ⟨P2, ts2, ω8, ω9, z1, z2, z3, z4, z5, z6, z7, z8⟩ | ⟨F, ω8, ω9, z1, z2, z3, z4, z5, z6, z7⟩
        · refine Or.inl ⟨P2, ts ++ ((20000 + ch T L P) :: ts2), ω8, ω9, z1, z2, ?_, ?_, ?_, ?_, ((b8.tr r7).tr x3).tr z7, ((b9.tr r8).tr y3).tr z8⟩
          · have e : c ++ (ts ++ ((20000 + ch T L P) :: ts2)) = c ++ ts ++ [20000 + ch T L P] ++ ts2 := by simp
            rw [e]; exact z3
          · have e : c ++ (ts ++ ((20000 + ch T L P) :: ts2)) = c ++ ts ++ [20000 + ch T L P] ++ ts2 := by simp
            rw [e]; exact z4
          · rw [List.length_append, List.length_cons]; omega
          · intro h rest q
            obtain ⟨k1, k2, -⟩ := tokO_not o1
            rw [List.append_assoc]
            apply r6
            rw [List.cons_append, wfh_op (by rw [k1]; decide) k2, if_pos o1, Bool.and_eq_true]
            exact ⟨by simp, z6 h rest q⟩
        · exact Or.inr ⟨F, ω8, ω9, z1, z2, z3, z4, z5, ((b8.tr r7).tr x3).tr z6, ((b9.tr r8).tr y3).tr z7⟩
      · obtain ⟨n, rfl⟩ : ∃ n', n = n' + 1 := ⟨n - 1, by omega⟩
        refine Or.inr ⟨F, τ8, τ9, ?_, ?_, r3, r4, r5, b8.tr r6, b9.tr r7⟩
        · rw [r1, bind_s, if_neg (by simp)]
        · rw [r2, bind_s, lay_x r3 r5, bind_s, fl9 n F τ9 r3 r5]
theorem bal_L {ts ts2 : List Int32} (h : bal ts) (h2 : balL ts2) : bal (ts ++ ts2) := fun k rest q => by
  rw [List.append_assoc]
  exact h k _ (h2 k rest q)
/-- first one, then the loop -/
theorem first_S {T : Nat → Int32} {L u o : Nat} {s8 : Sto → Option (Bool × Sto)} {s9 : Sto → Option Sto} (hs : PS T L u o s8 s9) {l8 : Sto → Option (Bool × Sto)} {l9 : Sto → Option Sto} (hl : ∀ P c σ8 σ9, PC T L u P c σ8 → PF T L u o P c σ9 → RS balL T L u o P c σ8 σ9 (l8 σ8) (l9 σ9)) (fl9 : ∀ F σ, F ≤ 50 → σ.1 81 8 = nI F → l9 σ = some σ) :
    PS T L u o (fun σ => (s8 σ).bind (fun r => if r.1 = true then l8 r.2 else some (false, r.2))) (fun σ => (s9 σ).bind (fun τ => l9 τ)) := by
  intro P c σ8 σ9 h8 h9
  show RS bal T L u o P c σ8 σ9 ((s8 σ8).bind _) ((s9 σ9).bind _)
  rcases hs P c σ8 σ9 h8 h9 with ⟨P', ts, τ8, τ9, r1, r2, r3, r4, r5, r6, r7, r8⟩ | ⟨F, τ8, τ9, r1, r2, r3, r4, r5, r6, r7⟩
  · rw [r1, bind_s, if_pos rfl, r2, bind_s]
    rcases hl P' (c ++ ts) τ8 τ9 r3 r4 with ⟨P2, ts2, ω8, ω9, z1, z2, z3, z4, z5, z6, z7, z8⟩ | ⟨F, ω8, ω9, z1, z2, z3, z4, z5, z6, z7⟩
    · exact Or.inl ⟨P2, ts ++ ts2, ω8, ω9, z1, z2, by rw [← List.append_assoc]; exact z3, by rw [← List.append_assoc]; exact z4, by rw [List.length_append]; omega, bal_L r6 z6, r7.tr z7, r8.tr z8⟩
    · exact Or.inr ⟨F, ω8, ω9, z1, z2, z3, z4, z5, r7.tr z6, r8.tr z7⟩
  · refine Or.inr ⟨F, τ8, τ9, ?_, ?_, r3, r4, r5, r6, r7⟩
    · rw [r1, bind_s, if_neg (by simp)]
    · rw [r2, bind_s, fl9 F τ9 r3 r5]
def opP (x : Int32) : Bool := decide (x = 42 ∨ x = 47 ∨ x = 37)
def opS (x : Int32) : Bool := decide (x = 43 ∨ x = 45)
def opA (x : Int32) : Bool := decide (x = 38)
def opO (x : Int32) : Bool := decide (x = 124)
theorem pc_lt {T : Nat → Int32} {L u P : Nat} {c : List Int32} {σ : Sto} (h : PC T L u P c σ) : (σ.1 55 3 ≤ σ.1 55 4) ↔ ¬ P < L := by
  obtain ⟨h1, h2, h3, h4, h5, h6, h7, h8, h9⟩ := h
  rw [h4, h7, nI_leI (by omega) (by omega)]
  omega
theorem ch_end {T : Nat → Int32} {L P : Nat} (h : ¬ P < L) : ch T L P = -1 := if_neg h
theorem product_S {T : Nat → Int32} {L u o : Nat} {r8 : Nat → Int32 → Sto → Option (Bool × Sto)} {r9 : Nat → Int32 → Sto → Option Sto} (a : Int32) (hs : PS T L u o (r8 5 a) (r9 6 0)) : PS T L u o (fun σ => b_X3_readProduct r8 σ a) (fun σ => b_X9_product r9 σ) := by
  refine first_S hs (l8 := f_X3_readProduct_L10 r8 a FU) (l9 := f_X9_product_L4 r9 FU) ?_ ?_
  · intro P c σ8 σ9 h8 h9
    refine loop_S (ops := opP) hs (l8 := f_X3_readProduct_L10 r8 a) (l9 := f_X9_product_L4 r9) ?_ ?_ ?_ ?_ ?_ ?_ (by decide) 50 FU P c σ8 σ9 (by have := h8.1; omega) (by unfold FU; omega) h8 h9
    · intro n P c σ h hc
      unfold opP at hc
      simp only [decide_eq_false_iff_not, not_or] at hc
      rw [f_X3_readProduct_L10]
      by_cases hP : P < L
      · rw [if_neg (fun z => (pc_lt h).mp z hP), next_c h, bind_s, if_neg hc.1, bind_s, if_neg hc.2.1, bind_s, if_neg hc.2.2]
      · rw [if_pos ((pc_lt h).mpr hP)]
    · intro n P c σ h hP hc
      unfold opP at hc
      simp only [decide_eq_true_eq] at hc
      have e : f_X3_readProduct_L48 r8 (f_X3_readProduct_L10 r8 a n) a σ = (r8 5 a (sI σ 55 4 (σ.1 55 4 + 1))).bind (fun r => if r.1 = true then (f_X3_add r.2 (-(ch T L P))).bind (fun τ => f_X3_readProduct_L10 r8 a n τ) else some (false, r.2)) := by
        unfold f_X3_readProduct_L48
        rw [next_c h, bind_s, lp_b]
      rw [f_X3_readProduct_L10, if_neg (fun z => (pc_lt h).mp z hP), next_c h, bind_s, e]
      rcases hc with q | q | q
      · rw [if_pos q]
      · rw [q, if_neg (by decide), bind_s, if_pos rfl]
      · rw [q, if_neg (by decide), bind_s, if_neg (by decide), bind_s, if_pos rfl]
    · intro n P c σ h hc
      unfold opP at hc
      simp only [decide_eq_false_iff_not, not_or] at hc
      rw [f_X9_product_L4, here_f h, bind_s, if_neg hc.1, bind_s, if_neg hc.2.1, bind_s, if_neg hc.2.2]
    · intro n P c σ h hP hc
      unfold opP at hc
      simp only [decide_eq_true_eq] at hc
      have e : f_X9_product_L31 r9 (f_X9_product_L4 r9 n) σ = (r9 6 0 (sI σ 81 6 (σ.1 81 6 + 1))).bind (fun τ => (f_X9_lay τ (20000 + ch T L P)).bind (fun υ => f_X9_product_L4 r9 n υ)) := by
        unfold f_X9_product_L31
        rw [here_f h, bind_s, lp_b]
      rw [f_X9_product_L4, here_f h, bind_s, e]
      rcases hc with q | q | q
      · rw [if_pos q]
      · rw [q, if_neg (by decide), bind_s, if_pos rfl]
      · rw [q, if_neg (by decide), bind_s, if_neg (by decide), bind_s, if_pos rfl]
    · intro n F σ hF h
      rw [f_X9_product_L4, here_x hF h, bind_s, if_neg (by decide), bind_s, if_neg (by decide), bind_s, if_neg (by decide)]
    · intro x hx
      unfold opP at hx
      simp only [decide_eq_true_eq] at hx
      rcases hx with rfl | rfl | rfl <;> decide
  · intro F σ hF h
    rw [show FU = 9999 + 1 from rfl, f_X9_product_L4, here_x hF h, bind_s, if_neg (by decide), bind_s, if_neg (by decide), bind_s, if_neg (by decide)]
theorem sum_S {T : Nat → Int32} {L u o : Nat} {r8 : Nat → Int32 → Sto → Option (Bool × Sto)} {r9 : Nat → Int32 → Sto → Option Sto} (a : Int32) (hs : PS T L u o (r8 6 a) (r9 4 0)) : PS T L u o (fun σ => b_X3_readSum r8 σ a) (fun σ => b_X9_sum r9 σ) := by
  refine first_S hs (l8 := f_X3_readSum_L10 r8 a FU) (l9 := f_X9_sum_L4 r9 FU) ?_ ?_
  · intro P c σ8 σ9 h8 h9
    refine loop_S (ops := opS) hs (l8 := f_X3_readSum_L10 r8 a) (l9 := f_X9_sum_L4 r9) ?_ ?_ ?_ ?_ ?_ ?_ (by decide) 50 FU P c σ8 σ9 (by have := h8.1; omega) (by unfold FU; omega) h8 h9
    · intro n P c σ h hc
      unfold opS at hc
      simp only [decide_eq_false_iff_not, not_or] at hc
      rw [f_X3_readSum_L10]
      by_cases hP : P < L
      · rw [if_neg (fun z => (pc_lt h).mp z hP), next_c h, bind_s, if_neg hc.1, bind_s, if_neg hc.2]
      · rw [if_pos ((pc_lt h).mpr hP)]
    · intro n P c σ h hP hc
      unfold opS at hc
      simp only [decide_eq_true_eq] at hc
      have e : f_X3_readSum_L39 r8 (f_X3_readSum_L10 r8 a n) a σ = (r8 6 a (sI σ 55 4 (σ.1 55 4 + 1))).bind (fun r => if r.1 = true then (f_X3_add r.2 (-(ch T L P))).bind (fun τ => f_X3_readSum_L10 r8 a n τ) else some (false, r.2)) := by
        unfold f_X3_readSum_L39
        rw [next_c h, bind_s, lp_b]
      rw [f_X3_readSum_L10, if_neg (fun z => (pc_lt h).mp z hP), next_c h, bind_s, e]
      rcases hc with q | q
      · rw [if_pos q]
      · rw [q, if_neg (by decide), bind_s, if_pos rfl]
    · intro n P c σ h hc
      unfold opS at hc
      simp only [decide_eq_false_iff_not, not_or] at hc
      rw [f_X9_sum_L4, here_f h, bind_s, if_neg hc.1, bind_s, if_neg hc.2]
    · intro n P c σ h hP hc
      unfold opS at hc
      simp only [decide_eq_true_eq] at hc
      have e : f_X9_sum_L22 r9 (f_X9_sum_L4 r9 n) σ = (r9 4 0 (sI σ 81 6 (σ.1 81 6 + 1))).bind (fun τ => (f_X9_lay τ (20000 + ch T L P)).bind (fun υ => f_X9_sum_L4 r9 n υ)) := by
        unfold f_X9_sum_L22
        rw [here_f h, bind_s, lp_b]
      rw [f_X9_sum_L4, here_f h, bind_s, e]
      rcases hc with q | q
      · rw [if_pos q]
      · rw [q, if_neg (by decide), bind_s, if_pos rfl]
    · intro n F σ hF h
      rw [f_X9_sum_L4, here_x hF h, bind_s, if_neg (by decide), bind_s, if_neg (by decide)]
    · intro x hx
      unfold opS at hx
      simp only [decide_eq_true_eq] at hx
      rcases hx with rfl | rfl <;> decide
  · intro F σ hF h
    rw [show FU = 9999 + 1 from rfl, f_X9_sum_L4, here_x hF h, bind_s, if_neg (by decide), bind_s, if_neg (by decide)]
theorem takes_t {T : Nat → Int32} {L u o P : Nat} {c : List Int32} {σ : Sto} (h : PF T L u o P c σ) {x : Int32} (hx : ch T L P = x) : f_X9_takes σ x = some (true, sI σ 81 6 (σ.1 81 6 + 1)) := by
  unfold f_X9_takes
  rw [here_f h, bind_s, if_pos hx, lp_b]
theorem takes_f {T : Nat → Int32} {L u o P : Nat} {c : List Int32} {σ : Sto} (h : PF T L u o P c σ) {x : Int32} (hx : ¬ ch T L P = x) : f_X9_takes σ x = some (false, σ) := by
  unfold f_X9_takes
  rw [here_f h, bind_s, if_neg hx]
theorem takes_x {F : Nat} (hF : F ≤ 50) {σ : Sto} (h : σ.1 81 8 = nI F) {x : Int32} (hx : ¬ (-1 : Int32) = x) : f_X9_takes σ x = some (false, σ) := by
  unfold f_X9_takes
  rw [here_x hF h, bind_s, if_neg hx]
theorem all_S {T : Nat → Int32} {L u o : Nat} {r8 : Nat → Int32 → Sto → Option (Bool × Sto)} {r9 : Nat → Int32 → Sto → Option Sto} (a : Int32) (hs : PS T L u o (r8 3 a) (r9 1 0)) : PS T L u o (fun σ => b_X3_readAll r8 σ a) (fun σ => b_X9_both r9 σ) := by
  refine first_S hs (l8 := f_X3_readAll_L10 r8 a FU) (l9 := f_X9_both_L4 r9 FU) ?_ ?_
  · intro P c σ8 σ9 h8 h9
    refine loop_S (ops := opA) hs (l8 := f_X3_readAll_L10 r8 a) (l9 := f_X9_both_L4 r9) ?_ ?_ ?_ ?_ ?_ ?_ (by decide) 50 FU P c σ8 σ9 (by have := h8.1; omega) (by unfold FU; omega) h8 h9
    · intro n P c σ h hc
      have hc' := of_decide_eq_false hc
      rw [f_X3_readAll_L10]
      by_cases hP : P < L
      · rw [if_neg (fun z => (pc_lt h).mp z hP), next_c h, bind_s, if_neg hc']
      · rw [if_pos ((pc_lt h).mpr hP)]
    · intro n P c σ h hP hc
      have hc' := of_decide_eq_true hc
      rw [f_X3_readAll_L10, if_neg (fun z => (pc_lt h).mp z hP), next_c h, bind_s, if_pos hc', lp_b, hc']
    · intro n P c σ h hc
      rw [f_X9_both_L4, takes_f h (of_decide_eq_false hc), bind_s, if_neg Bool.false_ne_true]
    · intro n P c σ h hP hc
      have hc' := of_decide_eq_true hc
      rw [f_X9_both_L4, takes_t h hc', bind_s, if_pos rfl, hc']
      rfl
    · intro n F σ hF h
      rw [f_X9_both_L4, takes_x hF h (by decide), bind_s, if_neg Bool.false_ne_true]
    · intro x hx
      have hx' := of_decide_eq_true hx
      subst hx'
      decide
  · intro F σ hF h
    rw [show FU = 9999 + 1 from rfl, f_X9_both_L4, takes_x hF h (by decide), bind_s, if_neg Bool.false_ne_true]
theorem any_S {T : Nat → Int32} {L u o : Nat} {r8 : Nat → Int32 → Sto → Option (Bool × Sto)} {r9 : Nat → Int32 → Sto → Option Sto} (a : Int32) (hs : PS T L u o (r8 0 a) (r9 0 0)) : PS T L u o (fun σ => b_X3_readAny r8 σ a) (fun σ => b_X9_either r9 σ) := by
  refine first_S hs (l8 := f_X3_readAny_L10 r8 a FU) (l9 := f_X9_either_L4 r9 FU) ?_ ?_
  · intro P c σ8 σ9 h8 h9
    refine loop_S (ops := opO) hs (l8 := f_X3_readAny_L10 r8 a) (l9 := f_X9_either_L4 r9) ?_ ?_ ?_ ?_ ?_ ?_ (by decide) 50 FU P c σ8 σ9 (by have := h8.1; omega) (by unfold FU; omega) h8 h9
    · intro n P c σ h hc
      have hc' := of_decide_eq_false hc
      rw [f_X3_readAny_L10]
      by_cases hP : P < L
      · rw [if_neg (fun z => (pc_lt h).mp z hP), next_c h, bind_s, if_neg hc']
      · rw [if_pos ((pc_lt h).mpr hP)]
    · intro n P c σ h hP hc
      have hc' := of_decide_eq_true hc
      rw [f_X3_readAny_L10, if_neg (fun z => (pc_lt h).mp z hP), next_c h, bind_s, if_pos hc', lp_b, hc']
    · intro n P c σ h hc
      rw [f_X9_either_L4, takes_f h (of_decide_eq_false hc), bind_s, if_neg Bool.false_ne_true]
    · intro n P c σ h hP hc
      have hc' := of_decide_eq_true hc
      rw [f_X9_either_L4, takes_t h hc', bind_s, if_pos rfl, hc']
      rfl
    · intro n F σ hF h
      rw [f_X9_either_L4, takes_x hF h (by decide), bind_s, if_neg Bool.false_ne_true]
    · intro x hx
      have hx' := of_decide_eq_true hx
      subst hx'
      decide
  · intro F σ hF h
    rw [show FU = 9999 + 1 from rfl, f_X9_either_L4, takes_x hF h (by decide), bind_s, if_neg Bool.false_ne_true]
theorem comp_S {T : Nat → Int32} {L u o : Nat} {r8 : Nat → Int32 → Sto → Option (Bool × Sto)} {r9 : Nat → Int32 → Sto → Option Sto} (a : Int32) (hs : PS T L u o (r8 7 a) (r9 5 0)) : PS T L u o (fun σ => b_X3_readComparison r8 σ a) (fun σ => b_X9_compared r9 σ) := by
  refine first_S hs (l8 := fun σ => (f_X3_next σ).bind (fun r11 => if r11 = (60 : Int32) then (f_X3_readComparison_L33 r8 a r11 σ) else if r11 = (61 : Int32) then (f_X3_readComparison_L33 r8 a r11 σ) else if r11 = (62 : Int32) then (f_X3_readComparison_L33 r8 a r11 σ) else some (true, σ))) (l9 := fun σ => (f_X9_here σ).bind (fun r5 => if r5 = (60 : Int32) then (f_X9_compared_L27 r9 r5 σ) else if r5 = (61 : Int32) then (f_X9_compared_L27 r9 r5 σ) else if r5 = (62 : Int32) then (f_X9_compared_L27 r9 r5 σ) else some σ)) ?_ ?_
  · intro P c σ8 σ9 h8 h9
    show RS balL T L u o P c σ8 σ9 ((f_X3_next σ8).bind _) ((f_X9_here σ9).bind _)
    rw [next_c h8, bind_s, here_f h9, bind_s]
    by_cases hx : ch T L P = 60 ∨ ch T L P = 61 ∨ ch T L P = 62
    · have hP : P < L := by
        rcases Nat.lt_or_ge P L with h | h
        · exact h
        · rw [ch_end (by omega)] at hx
          exact absurd hx (by decide)
      have e1 : ∀ A B : Option (Bool × Sto), (if ch T L P = 60 then A else if ch T L P = 61 then A else if ch T L P = 62 then A else B) = A := by
        intro A B
        rcases hx with q | q | q
        · rw [if_pos q]
        · rw [q, if_neg (by decide), if_pos rfl]
        · rw [q, if_neg (by decide), if_neg (by decide), if_pos rfl]
      have e2 : ∀ A B : Option Sto, (if ch T L P = 60 then A else if ch T L P = 61 then A else if ch T L P = 62 then A else B) = A := by
        intro A B
        rcases hx with q | q | q
        · rw [if_pos q]
        · rw [q, if_neg (by decide), if_pos rfl]
        · rw [q, if_neg (by decide), if_neg (by decide), if_pos rfl]
      have hop : tokO (20000 + ch T L P) = true ∧ cv8 (20000 + ch T L P) = -(ch T L P) := by
        rcases hx with q | q | q <;> rw [q] <;> decide
      obtain ⟨a8, b8⟩ := adv_c h8 hP
      obtain ⟨a9, b9⟩ := adv_f h9 hP
      rw [e1, e2]
      unfold f_X3_readComparison_L33 f_X9_compared_L27
      rw [lp_b, lp_b]
      generalize sI σ8 55 4 (σ8.1 55 4 + 1) = σ8' at a8 b8 ⊢
      generalize sI σ9 81 6 (σ9.1 81 6 + 1) = σ9' at a9 b9 ⊢
      rcases hs (P + 1) c σ8' σ9' a8 a9 with ⟨P', ts, τ8, τ9, r1, r2, r3, r4, r5, r6, r7, r8'⟩ | ⟨F, τ8, τ9, r1, r2, r3, r4, r5, r6, r7⟩
      · have hlen : (c ++ ts).length < P' := by
          have := h8.2.2.1
          rw [List.length_append]
          omega
        obtain ⟨χ8, x1, x2, x3⟩ := add_c r3 hlen (20000 + ch T L P)
        obtain ⟨χ9, y1, y2, y3⟩ := lay_f r4 hlen (20000 + ch T L P)
        rw [hop.2] at x1
        rw [r1, bind_s, if_pos rfl, x1, bind_s, r2, bind_s, y1, bind_s]
        refine Or.inl ⟨P', ts ++ [20000 + ch T L P], χ8, χ9, rfl, rfl, by rw [← List.append_assoc]; exact x2, by rw [← List.append_assoc]; exact y2, by rw [List.length_append, List.length_singleton]; omega, ?_, (b8.tr r7).tr x3, (b9.tr r8').tr y3⟩
        intro h rest q
        obtain ⟨k1, k2, -⟩ := tokO_not hop.1
        rw [List.append_assoc]
        apply r6
        rw [List.singleton_append, wfh_op (by rw [k1]; decide) k2, if_pos hop.1, Bool.and_eq_true]
        exact ⟨by simp, q⟩
      · refine Or.inr ⟨F, τ8, τ9, ?_, ?_, r3, r4, r5, b8.tr r6, b9.tr r7⟩
        · rw [r1, bind_s, if_neg (by simp)]
        · rw [r2, bind_s, lay_x r3 r5, bind_s]
    · rw [not_or, not_or] at hx
      rw [if_neg hx.1, if_neg hx.2.1, if_neg hx.2.2, if_neg hx.1, if_neg hx.2.1, if_neg hx.2.2]
      exact Or.inl ⟨P, [], σ8, σ9, rfl, rfl, by rw [List.append_nil]; exact h8, by rw [List.append_nil]; exact h9, by simp, fun h rest q => q, e8.rf _, e9.rf _⟩
  · intro F σ hF h
    show (f_X9_here σ).bind _ = _
    rw [here_x hF h, bind_s, if_neg (by decide), if_neg (by decide), if_neg (by decide)]
def dig (x : Int32) : Bool := !isO x 48 57
theorem dig8 (x : Int32) : f_X3_isDigit x = some (dig x) := by
  unfold f_X3_isDigit dig isO
  by_cases h : x < 48
  · rw [if_pos h, decide_eq_true h]; rfl
  · rw [if_neg h, decide_eq_false h]
    by_cases h' : (57 : Int32) < x
    · rw [if_pos h', decide_eq_true h']; rfl
    · rw [if_neg h', decide_eq_false h']; rfl
theorem dig9 (x : Int32) : f_X9_in x.toInt64 (48 : Int64) (57 : Int64) = some (dig x) := in_eq x 48 57
theorem dig_n {x : Int32} (h : dig x = true) : ∃ e, e ≤ 9 ∧ x = nI (48 + e) := by
  have h' : isO x 48 57 = false := by unfold dig at h; cases q : isO x 48 57 <;> simp [q] at h ⊢
  simp only [isO, Bool.or_eq_false_iff, decide_eq_false_iff_not] at h'
  obtain ⟨h1, h2⟩ := h'
  obtain ⟨m, hm, rfl⟩ := nI_of (x := x) (by
    intro z
    apply h1
    rw [Int32.lt_iff_toInt_lt] at z ⊢
    rw [show (0 : Int32).toInt = 0 from rfl] at z
    rw [show (48 : Int32).toInt = 48 from rfl]
    omega)
  have g1 : ¬ nI m < nI 48 := h1
  have g2 : ¬ nI 57 < nI m := h2
  rw [nI_ltI hm (by omega)] at g1
  rw [nI_ltI (by omega) hm] at g2
  exact ⟨m - 48, by omega, congrArg nI (by omega)⟩
theorem num_step : ∀ v, v < 1000 → ∀ e, e ≤ 9 → (nI v * 10 + nI (48 + e) - 48 : Int32) = nI (10 * v + e) ∧ (10 * nI v + nI (48 + e) - 48 : Int32) = nI (10 * v + e) := by
  intro v hv e he
  have e1 : (nI v * 10 : Int32) = nI (10 * v) := (show ∀ v, v < 1000 → (nI v * 10 : Int32) = nI (10 * v) by decide +kernel) v hv
  have e2 : (10 * nI v : Int32) = nI (10 * v) := (show ∀ v, v < 1000 → (10 * nI v : Int32) = nI (10 * v) by decide +kernel) v hv
  have e3 : (nI (10 * v) + nI (48 + e) - 48 : Int32) = nI (10 * v + e) := by
    rw [nI_add, show (48 : Int32) = nI 48 from rfl, nI_sub (by omega) (by omega)]
    exact congrArg nI (by omega)
  rw [e1, e2]
  exact ⟨e3, e3⟩
theorem number_S {T : Nat → Int32} {L u o : Nat} {r9 : Nat → Int32 → Sto → Option Sto} : ∀ (r n n' v P : Nat) (c : List Int32) (σ8 σ9 : Sto), r ≤ 4 → r < n → r < n' → v < 10 ^ (4 - r) → PC T L u P c σ8 → PF T L u o P c σ9 → (r = 4 → dig (ch T L P) = true) → (r < 4 → c.length < P) →
    ∃ P' w τ8 τ9, f_X3_readNumber_L4 n (nI v) (nI (4 - r)) σ8 = some τ8 ∧ f_X9_unit_L58 r9 n' (nI v) (nI (4 - r)) σ9 = some τ9 ∧ w ≤ 9999 ∧ PC T L u P' (c ++ [nI w]) τ8 ∧ PF T L u o P' (c ++ [nI w]) τ9 ∧ P ≤ P' ∧ c.length + 1 ≤ P' ∧ (r = 4 → P + 1 ≤ P') ∧ e8 σ8 τ8 ∧ e9 σ9 τ9 := by
  have fin : ∀ (r v P : Nat) (c : List Int32) (σ8 σ9 : Sto), r < 4 → v < 10000 → PC T L u P c σ8 → PF T L u o P c σ9 → c.length < P → ∃ P' w τ8 τ9, (f_X3_add σ8 (nI v)).bind (fun r50 => some r50) = some τ8 ∧ f_X9_unit_L110 r9 (nI v) (nI (4 - r)) σ9 = some τ9 ∧ w ≤ 9999 ∧ PC T L u P' (c ++ [nI w]) τ8 ∧ PF T L u o P' (c ++ [nI w]) τ9 ∧ P ≤ P' ∧ c.length + 1 ≤ P' ∧ (r = 4 → P + 1 ≤ P') ∧ e8 σ8 τ8 ∧ e9 σ9 τ9 := by
    intro r v P c σ8 σ9 hr hv h8 h9 hc
    obtain ⟨χ8, x1, x2, x3⟩ := add_c h8 hc (nI v)
    obtain ⟨χ9, y1, y2, y3⟩ := lay_f h9 hc (nI v)
    rw [cv8_num hv] at x1
    refine ⟨P, v, χ8, χ9, by rw [x1, bind_s], ?_, by omega, x2, y2, Nat.le_refl _, hc, fun z => by omega, x3, y3⟩
    unfold f_X9_unit_L110
    rw [if_neg (show ¬ nI (4 - r) = 0 from fun z => absurd ((nI_eq (by omega) (by decide)).mp z) (show ¬ 4 - r = 0 by omega)), y1, bind_s]
  intro r
  induction r with
  | zero =>
    intro n n' v P c σ8 σ9 _ h2 h3 hv h8 h9 _ hc
    obtain ⟨n, rfl⟩ : ∃ k, n = k + 1 := ⟨n - 1, by omega⟩
    obtain ⟨n', rfl⟩ : ∃ k, n' = k + 1 := ⟨n' - 1, by omega⟩
    rw [f_X3_readNumber_L4, f_X9_unit_L58, if_pos (by decide), if_pos (by decide)]
    exact fin 0 v P c σ8 σ9 (by omega) (by simpa using hv) h8 h9 (hc (by omega))
  | succ r ih =>
    intro n n' v P c σ8 σ9 h1 h2 h3 hv h8 h9 hd hc
    obtain ⟨n, rfl⟩ : ∃ k, n = k + 1 := ⟨n - 1, by omega⟩
    obtain ⟨n', rfl⟩ : ∃ k, n' = k + 1 := ⟨n' - 1, by omega⟩
    have g4 : ¬ (4 : Int32) ≤ nI (4 - (r + 1)) := nI_ge (b := 4) (by omega) (by omega)
    have e4 : 4 - r = 4 - (r + 1) + 1 := by omega
    rw [f_X3_readNumber_L4, f_X9_unit_L58, if_neg g4, if_neg g4, next_c h8, bind_s, dig8, bind_s, here_f h9, bind_s, bind_s, dig9, bind_s]
    cases hx : dig (ch T L P) with
    | true =>
      have hP : P < L := by
        rcases Nat.lt_or_ge P L with h | h
        · exact h
        · rw [ch_end (by omega)] at hx
          exact absurd hx (by decide)
      obtain ⟨e, he, ex⟩ := dig_n hx
      obtain ⟨a8, b8⟩ := adv_c h8 hP
      obtain ⟨a9, b9⟩ := adv_f h9 hP
      have hv3 : v < 1000 := by
        rcases (show r = 0 ∨ r = 1 ∨ r = 2 ∨ r = 3 by omega) with rfl | rfl | rfl | rfl <;> simp at hv <;> omega
      obtain ⟨s1, s2⟩ := num_step v hv3 e he
      rw [if_pos rfl, if_pos rfl, lp_b, bind_s, lp_b, ex, s1, s2, nI_1, ← e4]
      generalize sI σ8 55 4 (σ8.1 55 4 + 1) = σ8' at a8 b8 ⊢
      generalize sI σ9 81 6 (σ9.1 81 6 + 1) = σ9' at a9 b9 ⊢
      obtain ⟨P', w, τ8, τ9, z1, z2, z3, z4, z5, z6, z7, z8, z9, z10⟩ := ih n n' (10 * v + e) (P + 1) c σ8' σ9' (by omega) (by omega) (by omega) (by
        rcases (show r = 0 ∨ r = 1 ∨ r = 2 ∨ r = 3 by omega) with rfl | rfl | rfl | rfl <;> simp at hv ⊢ <;> omega) a8 a9 (fun z => by omega) (fun _ => by have := h8.2.2.1; omega)
      exact ⟨P', w, τ8, τ9, z1, z2, z3, z4, z5, by omega, z7, fun _ => z6, b8.tr z9, b9.tr z10⟩
    | false =>
      have hr4 : r + 1 < 4 := by
        rcases (show r + 1 = 4 ∨ r + 1 < 4 by omega) with h | h
        · rw [hd h] at hx; cases hx
        · exact h
      rw [if_neg (by decide), if_neg (by decide)]
      refine fin (r + 1) v P c σ8 σ9 hr4 ?_ h8 h9 (hc hr4)
      rcases (show r = 0 ∨ r = 1 ∨ r = 2 by omega) with rfl | rfl | rfl <;> simp at hv <;> omega
def nmU (u : Nat) (x : Int32) : Int32 := if u = 0 then (if x = 99 then 0 else if x = 119 then 1 else if x = 108 then 2 else -1) else (if x = 98 then 0 else if x = 121 then 1 else if x = 119 then 2 else -1)
theorem nm8 : ∀ u, u < 2 → ∀ m, m < 256 → f_ixS (1 + u) (i2c (nI m)) = some (nmU u (nI m)) := by decide +kernel
theorem nm9 {T : Nat → Int32} {L u o P : Nat} {c : List Int32} {σ : Sto} (hu : u = 0 ∨ u = 1) (h : PF T L u o P c σ) (x : Int32) : f_X9_nameOf σ x = some (nmU u x) := by
  have e10 := h.2.2.2.2.2.1
  unfold f_X9_nameOf nmU
  rcases hu with rfl | rfl
  · rw [e10, if_pos (show nI 0 = 0 by decide), if_pos rfl]
    by_cases h1 : x = 99
    · rw [if_pos h1, if_pos h1]
    · rw [if_neg h1, if_neg h1]
      by_cases h2 : x = 119
      · rw [if_pos h2, if_pos h2]
      · rw [if_neg h2, if_neg h2]
        by_cases h3 : x = 108
        · rw [if_pos h3, if_pos h3]
        · rw [if_neg h3, if_neg h3]
  · rw [e10, if_neg (show ¬ nI 1 = 0 by decide), if_neg (show ¬ (1 : Nat) = 0 by decide)]
    by_cases h1 : x = 98
    · rw [if_pos h1, if_pos h1]
    · rw [if_neg h1, if_neg h1]
      by_cases h2 : x = 121
      · rw [if_pos h2, if_pos h2]
      · rw [if_neg h2, if_neg h2]
        by_cases h3 : x = 119
        · rw [if_pos h3, if_pos h3]
        · rw [if_neg h3, if_neg h3]
theorem nmU_c (u : Nat) (x : Int32) : nmU u x = -1 ∨ (nmU u x = 0 ∨ nmU u x = 1 ∨ nmU u x = 2) ∧ ¬ x = 33 ∧ ¬ x = 40 := by
  unfold nmU
  by_cases hu : u = 0
  · rw [if_pos hu]
    by_cases h1 : x = 99
    · subst h1; exact Or.inr (by decide)
    · rw [if_neg h1]
      by_cases h2 : x = 119
      · subst h2; exact Or.inr (by decide)
      · rw [if_neg h2]
        by_cases h3 : x = 108
        · subst h3; exact Or.inr (by decide)
        · rw [if_neg h3]; exact Or.inl rfl
  · rw [if_neg hu]
    by_cases h1 : x = 98
    · subst h1; exact Or.inr (by decide)
    · rw [if_neg h1]
      by_cases h2 : x = 121
      · subst h2; exact Or.inr (by decide)
      · rw [if_neg h2]
        by_cases h3 : x = 119
        · subst h3; exact Or.inr (by decide)
        · rw [if_neg h3]; exact Or.inl rfl
theorem nmU_dig : ∀ u, u < 2 → ∀ e, e ≤ 9 → nmU u (nI (48 + e)) = -1 ∧ ¬ nI (48 + e) = 33 ∧ ¬ nI (48 + e) = 40 := by decide +kernel
theorem wrong_f {T : Nat → Int32} {L u o P : Nat} {c : List Int32} {σ : Sto} (h : PF T L u o P c σ) : f_X9_wrong σ = some (sI σ 81 8 (nI P)) := by
  unfold f_X9_wrong f_X9_wrong_L19
  rw [h.2.2.2.2.2.2.2.2.1, if_neg (by decide), h.2.2.2.2.2.2.2.1, lp_b]
theorem wrong_x {F : Nat} (hF : F ≤ 50) {σ : Sto} (h : σ.1 81 8 = nI F) : f_X9_wrong σ = some (sI σ 81 8 (nI F)) := by
  unfold f_X9_wrong f_X9_wrong_L19
  rw [h, if_pos (nI_pos' (by omega)), lp_b]
theorem open_f {T : Nat → Int32} {L u o o' P : Nat} {c : List Int32} {σ : Sto} (h : PF T L u o P c σ) : PF T L u o' P c (sI σ 81 9 (nI o')) := by
  obtain ⟨h1, h2, h3, h4, h5, h6, h7, h8, h9, h10, h11, h12⟩ := h
  exact ⟨h1, h2, h3, by rw [sI_nj (by decide)]; exact h4, by rw [sI_nj (by decide)]; exact h5, by rw [sI_nj (by decide)]; exact h6, fun i hi => by rw [sI_ne (by decide)]; exact h7 i hi, by rw [sI_nj (by decide)]; exact h8, by rw [sI_nj (by decide)]; exact h9, by rw [sI_at, if_pos rfl], by rw [sI_nj (by decide)]; exact h11, fun i hi => by rw [sI_ne (by decide)]; exact h12 i hi⟩
theorem unit_bad {T : Nat → Int32} {L u o P : Nat} {c : List Int32} {σ : Sto} {r9 : Nat → Int32 → Sto → Option Sto} (h : PF T L u o P c σ) (hx : dig (ch T L P) = false) : f_X9_unit_L58 r9 FU 0 0 σ = some (sI σ 81 8 (nI P)) := by
  have hP := h.1
  have hP' := h.2.1
  rw [show FU = 9999 + 1 from rfl, f_X9_unit_L58, if_neg (by decide), here_f h, bind_s, bind_s, dig9, bind_s, hx, if_neg (by decide)]
  unfold f_X9_unit_L110
  rw [if_pos rfl, wrong_f h, bind_s, lay_x (F := P) (by omega) (by rw [sI_at, if_pos rfl]), bind_s]
theorem bal_tok {v : Int32} (h : tokN v = true) : bal [v] := fun k rest q => by
  rw [List.singleton_append, wfh_tok h]
  exact q
theorem tok_num {w : Nat} (h : w ≤ 10002) : tokN (nI w) = true := by
  unfold tokN
  rw [show isO (nI w) 0 10002 = false from isO_lit (n := 10002) h (by omega)]
  rfl
theorem part_S {T : Nat → Int32} {L u o : Nat} (hu : u = 0 ∨ u = 1) (hT : ∀ i, i < L → isO (T i) 0 255 = false) (ho : o ≤ 5) {r8 q8 : Nat → Int32 → Sto → Option (Bool × Sto)} {r9 q9 : Nat → Int32 → Sto → Option Sto}
    (h2 : ∀ a σ, r8 2 a σ = b_X3_readBracket q8 σ a) (h4 : ∀ a σ, r8 4 a σ = b_X3_readNot q8 σ a) (h3 : ∀ a σ, r9 3 a σ = b_X9_opens q9 σ a) (hp : o < 5 → PS T L u (o + 1) (q8 5 (nI (o + 1))) (q9 6 0)) (ha : o < 5 → PS T L u (o + 1) (q8 1 (nI (o + 1))) (q9 2 0)) :
    PS T L u o (fun σ => b_X3_readPart r8 σ (nI o)) (fun σ => b_X9_unit r9 σ) := by
  intro P c σ8 σ9 h8 h9
  have hL := h8.1
  have hPL := h8.2.1
  have hcP := h8.2.2.1
  show RS bal T L u o P c σ8 σ9 (b_X3_readPart r8 σ8 (nI o)) (b_X9_unit r9 σ9)
  unfold b_X3_readPart b_X9_unit
  rw [next_c h8, bind_s, dig8, bind_s, here_f h9, bind_s]
  -- the common end of all faults here
  have bad : RS bal T L u o P c σ8 σ9 (some (false, σ8)) (some (sI σ9 81 8 (nI P))) := Or.inr ⟨P, σ8, _, rfl, rfl, by omega, h8.2.2.2.2.2.2.1, by rw [sI_at, if_pos rfl], e8.rf _, e9.w _ (by omega) _⟩
  cases hx : dig (ch T L P) with
  | true =>
    obtain ⟨e, he, ex⟩ := dig_n hx
    obtain ⟨m1, m2, m3⟩ := nmU_dig u (by omega) e he
    obtain ⟨P', w, τ8, τ9, z1, z2, z3, z4, z5, z6, z7, z8, z9, z10⟩ := number_S (r9 := r9) 4 FU FU 0 P c σ8 σ9 (by omega) (by unfold FU; omega) (by unfold FU; omega) (by decide) h8 h9 (fun _ => hx) (fun z => by omega)
    rw [if_pos rfl, ex, if_neg m2, if_neg m3, nm9 hu h9, bind_s, m1, if_pos (by decide)]
    unfold f_X3_readNumber
    rw [show f_X3_readNumber_L4 FU 0 0 σ8 = some τ8 from z1, bind_s]
    exact Or.inl ⟨P', [nI w], τ8, τ9, rfl, z2, z4, z5, by have := z8 rfl; simp; omega, bal_tok (tok_num (by omega)), z9, z10⟩
  | false =>
    rw [if_neg Bool.false_ne_true]
    by_cases hP : P < L
    · have hb := hT P hP
      have exT : ch T L P = T P := if_pos hP
      obtain ⟨m, hm, em⟩ := isO_nI (n := 255) rfl hb
      rw [← exT] at em
      have e5 := h8.2.2.2.2.1
      rw [em, if_pos (nI_pos' (by omega))]
      rw [e5]
      show RS bal T L u o P c σ8 σ9 ((if 1003 ≤ 1004 + u ∧ 1004 + u < 1006 then (f_ixS (1004 + u - 1003) (i2c (nI m))).bind (fun r32 => f_X3_readPart_L35 r8 (nI o) (nI m) r32 σ8) else none)) _
      rw [if_pos ⟨by omega, by omega⟩, show 1004 + u - 1003 = 1 + u by omega, nm8 u (by omega) m (by omega), bind_s]
      rw [← em]
      obtain ⟨a8, b8⟩ := adv_c h8 hP
      obtain ⟨a9, b9⟩ := adv_f h9 hP
      unfold f_X3_readPart_L35
      rcases nmU_c u (ch T L P) with y | ⟨y, y33, y40⟩
      · rw [y, if_pos (by decide)]
        by_cases h5 : o = 5
        · subst h5
          rw [if_pos (by decide)]
          by_cases x33 : ch T L P = 33
          · rw [if_pos x33, h3]
            unfold b_X9_opens
            rw [h9.2.2.2.2.2.2.2.2.2.1, if_pos (by decide), wrong_f h9, bind_s, bind_s]
            exact bad
          · by_cases x40 : ch T L P = 40
            · rw [if_neg x33, if_pos x40, h3]
              unfold b_X9_opens
              rw [h9.2.2.2.2.2.2.2.2.2.1, if_pos (by decide), wrong_f h9, bind_s, bind_s]
              exact bad
            · rw [if_neg x33, if_neg x40, nm9 hu h9, bind_s, y, if_pos (by decide), unit_bad h9 hx]
              exact bad
        · have ho5 : o < 5 := by omega
          have n5 : ¬ (5 : Int32) ≤ nI o := nI_ge (b := 5) ho5 (by omega)
          have n5' : ¬ nI o = 5 := nI_ne _ 5 rfl (by omega) (by omega) h5
          rw [if_neg n5]
          -- one bracket deeper
          have deep : PF T L u (o + 1) (P + 1) c (sI (sI σ9 81 9 (σ9.1 81 9 + 1)) 81 6 ((sI σ9 81 9 (σ9.1 81 9 + 1)).1 81 6 + 1)) ∧ e9 σ9 (sI (sI σ9 81 9 (σ9.1 81 9 + 1)) 81 6 ((sI σ9 81 9 (σ9.1 81 9 + 1)).1 81 6 + 1)) := by
            rw [h9.2.2.2.2.2.2.2.2.2.1, nI_1]
            obtain ⟨g1, g2⟩ := adv_f (open_f (o' := o + 1) h9) hP
            exact ⟨g1, (e9.w _ (by omega) _).tr g2⟩
          have up9 : ∀ τ : Sto, τ.1 81 9 = nI (o + 1) → f_X9_opens_L70 r9 τ = some (sI τ 81 9 (nI o)) := fun τ e => by
            unfold f_X9_opens_L70
            rw [lp_b, e, nI_pred]
          obtain ⟨d1, d2⟩ := deep
          by_cases x33 : ch T L P = 33
          · rw [if_pos x33, if_pos x33, h3]
            unfold b_X9_opens f_X3_readPart_L78 f_X9_opens_L70
            rw [h9.2.2.2.2.2.2.2.2.2.1] at d1 d2
            rw [h9.2.2.2.2.2.2.2.2.2.1, if_neg n5', lp_b, lp_b, lp_b, if_pos x33, if_pos x33, h4, nI_1]
            unfold b_X3_readNot
            rw [nI_1] at d1 d2
            generalize sI (sI σ9 81 9 (nI (o + 1))) 81 6 ((sI σ9 81 9 (nI (o + 1))).1 81 6 + 1) = σ9' at d1 d2 ⊢
            generalize sI σ8 55 4 (σ8.1 55 4 + 1) = σ8' at a8 b8 ⊢
            rcases hp ho5 (P + 1) c σ8' σ9' a8 d1 with ⟨P', ts, τ8, τ9, r1, r2, r3, r4, r5, r6, r7, r8'⟩ | ⟨F, τ8, τ9, r1, r2, r3, r4, r5, r6, r7⟩
            · have hlen : (c ++ ts).length < P' := by
                rw [List.length_append]
                omega
              obtain ⟨χ8, u1, u2, u3⟩ := add_c r3 hlen 20033
              obtain ⟨χ9, v1, v2, v3⟩ := lay_f r4 hlen 20033
              rw [show cv8 20033 = -33 by decide] at u1
              rw [r1, bind_s, if_pos rfl, u1, bind_s, bind_s, r2, bind_s, v1, bind_s, lp_b, v2.2.2.2.2.2.2.2.2.2.1, nI_pred, bind_s]
              refine Or.inl ⟨P', ts ++ [20033], χ8, _, rfl, rfl, by rw [← List.append_assoc]; exact u2, by rw [← List.append_assoc]; exact open_f v2, by rw [List.length_append, List.length_singleton]; omega, ?_, (b8.tr r7).tr u3, ((d2.tr r8').tr v3).tr (e9.w _ (by omega) _)⟩
              intro h rest q
              rw [List.append_assoc]
              apply r6
              rw [List.singleton_append, wfh_33, Bool.and_eq_true]
              exact ⟨by simp, q⟩
            · rw [r1, bind_s, if_neg Bool.false_ne_true, bind_s, r2, bind_s, lay_x r3 r5, bind_s, lp_b, bind_s]
              exact Or.inr ⟨F, τ8, _, rfl, rfl, r3, r4, by rw [sI_nj (by decide)]; exact r5, b8.tr r6, (d2.tr r7).tr (e9.w _ (by omega) _)⟩
          · by_cases x40 : ch T L P = 40
            · rw [if_neg x33, if_pos x40, if_neg x33, if_pos x40, h3]
              unfold b_X9_opens f_X3_readPart_L78 f_X9_opens_L70
              rw [h9.2.2.2.2.2.2.2.2.2.1] at d1 d2
              rw [h9.2.2.2.2.2.2.2.2.2.1, if_neg n5', lp_b, lp_b, lp_b, if_neg x33, if_neg x33, h2, nI_1]
              unfold b_X3_readBracket
              rw [nI_1] at d1 d2
              generalize sI (sI σ9 81 9 (nI (o + 1))) 81 6 ((sI σ9 81 9 (nI (o + 1))).1 81 6 + 1) = σ9' at d1 d2 ⊢
              generalize sI σ8 55 4 (σ8.1 55 4 + 1) = σ8' at a8 b8 ⊢
              rcases ha ho5 (P + 1) c σ8' σ9' a8 d1 with ⟨P', ts, τ8, τ9, r1, r2, r3, r4, r5, r6, r7, r8'⟩ | ⟨F, τ8, τ9, r1, r2, r3, r4, r5, r6, r7⟩
              · rw [r1, bind_s, if_pos rfl, next_c r3, bind_s, r2, bind_s]
                by_cases x41 : ch T L P' = 41
                · have hP' : P' < L := by
                    rcases Nat.lt_or_ge P' L with h | h
                    · exact h
                    · rw [ch_end (by omega)] at x41
                      exact absurd x41 (by decide)
                  obtain ⟨u1, u2⟩ := adv_c r3 hP'
                  obtain ⟨v1, v2⟩ := adv_f r4 hP'
                  rw [if_pos x41, lp_b, bind_s, takes_t r4 x41, bind_s, if_pos rfl, lp_b, sI_nj (by decide), r4.2.2.2.2.2.2.2.2.2.1, nI_pred, bind_s]
                  exact Or.inl ⟨P' + 1, ts, _, _, rfl, rfl, u1, open_f v1, by omega, r6, (b8.tr r7).tr u2, ((d2.tr r8').tr v2).tr (e9.w _ (by omega) _)⟩
                · rw [if_neg x41, bind_s, takes_f r4 x41, bind_s, if_neg Bool.false_ne_true, wrong_f r4, bind_s, lp_b, bind_s]
                  exact Or.inr ⟨P', τ8, _, rfl, rfl, by have := r3.2.1; omega, r3.2.2.2.2.2.2.1, by rw [sI_nj (by decide), sI_at, if_pos rfl], b8.tr r7, ((d2.tr r8').tr (e9.w _ (by omega) _)).tr (e9.w _ (by omega) _)⟩
              · rw [r1, bind_s, if_neg Bool.false_ne_true, bind_s, r2, bind_s, takes_x r3 r5 (by decide), bind_s, if_neg Bool.false_ne_true, wrong_x r3 r5, bind_s, lp_b, bind_s]
                exact Or.inr ⟨F, τ8, _, rfl, rfl, r3, r4, by rw [sI_nj (by decide), sI_at, if_pos rfl], b8.tr r6, ((d2.tr r7).tr (e9.w _ (by omega) _)).tr (e9.w _ (by omega) _)⟩
            · rw [if_neg x33, if_neg x40, if_neg x33, if_neg x40, nm9 hu h9, bind_s, y, if_pos (by decide), unit_bad h9 hx]
              exact bad
      · have ny : ¬ nmU u (ch T L P) < 0 := by rcases y with q | q | q <;> rw [q] <;> decide
        have ty : tokN (10000 + nmU u (ch T L P)) = true ∧ cv8 (10000 + nmU u (ch T L P)) = -1 - nmU u (ch T L P) := by rcases y with q | q | q <;> rw [q] <;> decide
        rw [if_neg ny, if_neg y33, if_neg y40, nm9 hu h9, bind_s, if_neg ny, lp_b, lp_b]
        generalize sI σ8 55 4 (σ8.1 55 4 + 1) = σ8' at a8 b8 ⊢
        generalize sI σ9 81 6 (σ9.1 81 6 + 1) = σ9' at a9 b9 ⊢
        obtain ⟨χ8, x1, x2, x3⟩ := add_c a8 (by omega) (10000 + nmU u (ch T L P))
        obtain ⟨χ9, y1, y2, y3⟩ := lay_f a9 (by omega) (10000 + nmU u (ch T L P))
        rw [ty.2] at x1
        rw [x1, bind_s, y1, bind_s]
        exact Or.inl ⟨P + 1, [10000 + nmU u (ch T L P)], χ8, χ9, rfl, rfl, x2, y2, by simp, bal_tok ty.1, b8.tr x3, b9.tr y3⟩
    · have exT := ch_end (T := T) hP
      rw [exT, if_neg (by decide)]
      unfold f_X3_readPart_L35
      rw [if_pos (show (-1 : Int32) < 0 by decide), if_neg (show ¬ (-1 : Int32) = 33 by decide), if_neg (show ¬ (-1 : Int32) = 40 by decide), if_neg (show ¬ (-1 : Int32) = 33 by decide), if_neg (show ¬ (-1 : Int32) = 40 by decide), ite_self, nm9 hu h9, bind_s, show nmU u (-1) = -1 by (rcases hu with rfl | rfl <;> decide), if_pos (show (-1 : Int32) < 0 by decide), unit_bad h9 hx]
      exact bad
/-! The whole reader, and text. -/
theorem any_PS {T : Nat → Int32} {L u o D : Nat} {a : Int32} (hp : ∀ d8 d9, D ≤ d8 → D ≤ d9 → PS T L u o (g_X3_readAll d8 5 a) (g_X9_both d9 6 0)) : ∀ d8 d9, D + 5 ≤ d8 → D + 5 ≤ d9 → PS T L u o (g_X3_readAll d8 1 a) (g_X9_both d9 2 0) := by
  have pr : ∀ d8 d9, D + 1 ≤ d8 → D + 1 ≤ d9 → PS T L u o (g_X3_readAll d8 6 a) (g_X9_both d9 4 0) := by
    intro d8 d9 h1 h2
    obtain ⟨d8, rfl⟩ : ∃ k, d8 = k + 1 := ⟨d8 - 1, by omega⟩
    obtain ⟨d9, rfl⟩ : ∃ k, d9 = k + 1 := ⟨d9 - 1, by omega⟩
    exact product_S (r8 := g_X3_readAll d8) (r9 := g_X9_both d9) a (hp d8 d9 (by omega) (by omega))
  have su : ∀ d8 d9, D + 2 ≤ d8 → D + 2 ≤ d9 → PS T L u o (g_X3_readAll d8 7 a) (g_X9_both d9 5 0) := by
    intro d8 d9 h1 h2
    obtain ⟨d8, rfl⟩ : ∃ k, d8 = k + 1 := ⟨d8 - 1, by omega⟩
    obtain ⟨d9, rfl⟩ : ∃ k, d9 = k + 1 := ⟨d9 - 1, by omega⟩
    exact sum_S (r8 := g_X3_readAll d8) (r9 := g_X9_both d9) a (pr d8 d9 (by omega) (by omega))
  have co : ∀ d8 d9, D + 3 ≤ d8 → D + 3 ≤ d9 → PS T L u o (g_X3_readAll d8 3 a) (g_X9_both d9 1 0) := by
    intro d8 d9 h1 h2
    obtain ⟨d8, rfl⟩ : ∃ k, d8 = k + 1 := ⟨d8 - 1, by omega⟩
    obtain ⟨d9, rfl⟩ : ∃ k, d9 = k + 1 := ⟨d9 - 1, by omega⟩
    exact comp_S (r8 := g_X3_readAll d8) (r9 := g_X9_both d9) a (su d8 d9 (by omega) (by omega))
  have al : ∀ d8 d9, D + 4 ≤ d8 → D + 4 ≤ d9 → PS T L u o (g_X3_readAll d8 0 a) (g_X9_both d9 0 0) := by
    intro d8 d9 h1 h2
    obtain ⟨d8, rfl⟩ : ∃ k, d8 = k + 1 := ⟨d8 - 1, by omega⟩
    obtain ⟨d9, rfl⟩ : ∃ k, d9 = k + 1 := ⟨d9 - 1, by omega⟩
    exact all_S (r8 := g_X3_readAll d8) (r9 := g_X9_both d9) a (co d8 d9 (by omega) (by omega))
  intro d8 d9 h1 h2
  obtain ⟨d8, rfl⟩ : ∃ k, d8 = k + 1 := ⟨d8 - 1, by omega⟩
  obtain ⟨d9, rfl⟩ : ∃ k, d9 = k + 1 := ⟨d9 - 1, by omega⟩
  exact any_S (r8 := g_X3_readAll d8) (r9 := g_X9_both d9) a (al d8 d9 (by omega) (by omega))
theorem part_PS {T : Nat → Int32} {L u : Nat} (hu : u = 0 ∨ u = 1) (hT : ∀ i, i < L → isO (T i) 0 255 = false) : ∀ r, r ≤ 5 → ∀ d8 d9, 2 + 7 * r ≤ d8 → 2 + 7 * r ≤ d9 → PS T L u (5 - r) (g_X3_readAll d8 5 (nI (5 - r))) (g_X9_both d9 6 0) := by
  intro r
  induction r with
  | zero =>
    intro _ d8 d9 h1 h2
    obtain ⟨d8, rfl⟩ : ∃ k, d8 = k + 2 := ⟨d8 - 2, by omega⟩
    obtain ⟨d9, rfl⟩ : ∃ k, d9 = k + 2 := ⟨d9 - 2, by omega⟩
    exact part_S hu hT (o := 5) (by omega) (r8 := g_X3_readAll (d8 + 1)) (q8 := g_X3_readAll d8) (r9 := g_X9_both (d9 + 1)) (q9 := g_X9_both d9) (fun _ _ => rfl) (fun _ _ => rfl) (fun _ _ => rfl) (fun h => by omega) (fun h => by omega)
  | succ r ih =>
    intro hr d8 d9 h1 h2
    obtain ⟨d8, rfl⟩ : ∃ k, d8 = k + 2 := ⟨d8 - 2, by omega⟩
    obtain ⟨d9, rfl⟩ : ∃ k, d9 = k + 2 := ⟨d9 - 2, by omega⟩
    have e : 5 - (r + 1) + 1 = 5 - r := by omega
    exact part_S hu hT (o := 5 - (r + 1)) (by omega) (r8 := g_X3_readAll (d8 + 1)) (q8 := g_X3_readAll d8) (r9 := g_X9_both (d9 + 1)) (q9 := g_X9_both d9) (fun _ _ => rfl) (fun _ _ => rfl) (fun _ _ => rfl) (fun _ => by rw [e]; exact ih (by omega) d8 d9 (by omega) (by omega)) (fun _ => by rw [e]; exact any_PS (ih (by omega)) d8 d9 (by omega) (by omega))
theorem top_PS {T : Nat → Int32} {L u : Nat} (hu : u = 0 ∨ u = 1) (hT : ∀ i, i < L → isO (T i) 0 255 = false) : PS T L u 0 (g_X3_readAll 64 1 0) (g_X9_both 64 2 0) := any_PS (D := 37) (a := 0) (part_PS hu hT 5 (by omega)) 64 64 (by omega) (by omega)
/-- the class reads -/
def sc7 (σ τ : Sto) : Prop := ∀ a b, a ≠ 55 → a ≠ 56 → a ≠ 57 → τ.1 a b = σ.1 a b
theorem sc7.fr {σ τ : Sto} (h : sc7 σ τ) : Fr σ τ := fun k j hs => h k j (by rintro rfl; simp [scr] at hs) (by rintro rfl; simp [scr] at hs) (by rintro rfl; simp [scr] at hs)
theorem e9.fr {σ τ : Sto} (h : e9 σ τ) : Fr σ τ := fun k j hs => h k j (by rintro rfl; simp [scr] at hs) (by rintro ⟨rfl, h⟩; rcases h with rfl | rfl | rfl | rfl <;> simp [scr] at hs)
theorem read8 {σ : Sto} {t u : Nat} (ht : t ≤ 50) (hu : u = 0 ∨ u = 1) : ∃ ρ, f_X3_read σ 10 (nI t) (nI u) = (g_X3_readAll 64 1 0 ρ).bind (fun r56 => if r56.1 = true then (if (r56.2.1 55 4) = (r56.2.1 55 3) then (some ((-1 : Int32), r56.2)) else some ((r56.2.1 55 4), r56.2)) else some ((r56.2.1 55 4), r56.2)) ∧ PC (fun i => σ.1 10 i) t u 0 [] ρ ∧ sc7 σ ρ := by
  have eL : imin (imin (nI t) (Int32.ofNat (Ln0 10))) 50 = nI t := (show ∀ t, t ≤ 50 → imin (imin (nI t) (Int32.ofNat (Ln0 10))) 50 = nI t by decide) t ht
  unfold f_X3_read
  rw [eL, lp_b, sI_at, if_pos rfl, cpA_n (by show t ≤ 50; exact ht) (by show t ≤ 50; exact ht), bind_s]
  generalize hα : sW (sI σ 55 3 (nI t)) 57 _ = α
  have a1 : ∀ j, j < t → α.1 57 j = σ.1 10 j := fun j hj => by rw [← hα, sW_at, if_pos hj, sI_ne (by decide)]
  have a2 : α.1 55 3 = nI t := by rw [← hα, sW_ne (by decide), sI_at, if_pos rfl]
  have a3 : sc7 σ α := fun a b h1 h2 h3 => by rw [← hα, sW_ne h3, sI_ne h1]
  refine ⟨sI (sI (sR α 55 5 (some (1004 + u))) 55 4 0) 55 1 0, ?_, ⟨ht, by omega, by simp, ?_, ?_, fun i hi => ?_, ?_, ?_, fun i hi => by simp at hi⟩, fun a b h1 h2 h3 => by rw [sI_ne h1, sI_ne h1]; exact a3 a b h1 h2 h3⟩
  · unfold f_X3_read_L41
    rcases hu with rfl | rfl
    · rw [if_pos (by decide), lp_b, lp_b, lp_b]
    · rw [if_neg (by decide), lp_b, lp_b, lp_b]
  · rw [sI_nj (by decide), sI_nj (by decide)]; exact a2
  · show (if 55 = 55 ∧ 5 = 5 then some (1004 + u) else α.2 55 5) = _
    rw [if_pos ⟨rfl, rfl⟩]
  · rw [sI_ne (by decide), sI_ne (by decide)]; exact a1 i hi
  · rw [sI_nj (by decide), sI_at, if_pos rfl]; rfl
  · rw [sI_at, if_pos rfl]; rfl
def e10 (σ τ : Sto) : Prop := ∀ a b, a ≠ 87 → ¬ (a = 81 ∧ ((5 ≤ b ∧ b ≤ 10) ∨ b = 13)) → τ.1 a b = σ.1 a b
theorem e10.fr {σ τ : Sto} (h : e10 σ τ) : Fr σ τ := fun k j hs => h k j (by rintro rfl; simp [scr] at hs) (by
  rintro ⟨rfl, h⟩
  rcases (show j = 5 ∨ j = 6 ∨ j = 7 ∨ j = 8 ∨ j = 9 ∨ j = 10 ∨ j = 13 by omega) with rfl | rfl | rfl | rfl | rfl | rfl | rfl <;> simp [scr] at hs)
theorem reads9 {σ : Sto} {t u : Nat} (ht : t ≤ 50) (hu : u = 0 ∨ u = 1) : ∃ ρ, f_X9_reads σ 210 (nI t) (nI u) = (g_X9_both 64 2 (0 : Int32) ρ).bind (fun r45 => if 0 ≤ (r45.1 81 8) then (some r45) else if (r45.1 81 7) ≤ (r45.1 81 6) then (some r45) else (f_X9_wrong r45).bind (fun r67 => some r67)) ∧ PF (fun i => σ.1 82 (210 + i)) t u 0 0 [] ρ ∧ e10 σ ρ := by
  unfold f_X9_reads f_X9_reads_L41
  have eb : ∀ τ : Sto, (if nI u = 1 then lp (sI τ 81 10 (b2i true)) (fun σ41 => (g_X9_both 64 2 (0 : Int32) σ41).bind (fun r45 => if 0 ≤ (r45.1 81 8) then (some r45) else if (r45.1 81 7) ≤ (r45.1 81 6) then (some r45) else (f_X9_wrong r45).bind (fun r67 => some r67))) else lp (sI τ 81 10 (b2i false)) (fun σ41 => (g_X9_both 64 2 (0 : Int32) σ41).bind (fun r45 => if 0 ≤ (r45.1 81 8) then (some r45) else if (r45.1 81 7) ≤ (r45.1 81 6) then (some r45) else (f_X9_wrong r45).bind (fun r67 => some r67)))) = (g_X9_both 64 2 (0 : Int32) (sI τ 81 10 (nI u))).bind (fun r45 => if 0 ≤ (r45.1 81 8) then (some r45) else if (r45.1 81 7) ≤ (r45.1 81 6) then (some r45) else (f_X9_wrong r45).bind (fun r67 => some r67)) := by
    intro τ
    rcases hu with rfl | rfl
    · rw [if_neg (by decide), lp_b]; rfl
    · rw [if_pos (by decide), lp_b]; rfl
  rw [lp_b, lp_b, lp_b, lp_b, lp_b, lp_b, eb]
  refine ⟨_, rfl, ⟨ht, by omega, by simp, ?_, ?_, ?_, fun i hi => ?_, ?_, ?_, ?_, ?_, fun i hi => by simp at hi⟩, fun a b h1 h2 => ?_⟩
  · rfl
  · rfl
  · rfl
  · rfl
  · rfl
  · rfl
  · rfl
  · rfl
  · have w : ∀ (τ : Sto) (j : Nat) (v : Int32), ((5 ≤ j ∧ j ≤ 10) ∨ j = 13) → (sI τ 81 j v).1 a b = τ.1 a b := by
      intro τ j v hj
      show (if a = 81 ∧ b = j then v else τ.1 a b) = _
      rw [if_neg (fun z => h2 ⟨z.1, by omega⟩)]
    rw [w _ _ _ (by omega), w _ _ _ (by omega), w _ _ _ (by omega), w _ _ _ (by omega), w _ _ _ (by omega), w _ _ _ (by omega), w _ _ _ (by omega)]
theorem CD.keep3 {k A u : Nat} {σ τ : Sto} (h : CD k A u σ) (h1 : τ.1 k 3 = σ.1 k 3) (h2 : ∀ j, j < 50 → τ.1 (k + 1) j = σ.1 (k + 1) j) (h3 : τ.1 A (88 + u) = σ.1 A (88 + u)) (h4 : ∀ i, i < 50 → τ.1 A (110 + 50 * u + i) = σ.1 A (110 + 50 * u + i)) : CD k A u τ := by
  obtain ⟨n, q1, q2, q3, q4, q5⟩ := h
  refine ⟨n, q1, by rw [h1]; exact q2, by rw [h3]; exact q3, fun i hi => by rw [h2 i (by omega), h4 i (by omega)]; exact q4 i hi, q5.imp id (fun q => ?_)⟩
  rw [show codeL (τ.1 A) u n = codeL (σ.1 A) u n from List.map_congr_left (fun i hi => h4 _ (by have := List.mem_range.mp hi; omega))]
  exact q
/-- a law is laid anew in both -/
theorem Inv.code {σ τ : Sto} (h : Inv σ) {u : Nat} (hu : u = 0 ∨ u = 1) (hc : CD (4 + 3 * u) 82 u τ) (hk : ∀ a b, scr a b = false → a ≠ 82 → a ≠ 5 + 3 * u → ¬ (a = 4 + 3 * u ∧ b = 3) → τ.1 a b = σ.1 a b) (hr : ∀ b, b ≠ 88 + u → ¬ (110 + 50 * u ≤ b ∧ b < 160 + 50 * u) → τ.1 82 b = σ.1 82 b) : Inv τ := by
  obtain ⟨q1, q2, q3, q4, q5, q6, q7, q8⟩ := h.1.1
  have ls : ∀ k j, 1 ≤ k → k ≤ 27 → k ≠ 6 → k ≠ 9 → scr k j = false := fun k j h1 h2 h3 h4 => lk_scr (Or.inl ⟨rfl, rfl⟩) (Or.inl (by omega)) j
  have eN : NN (τ.1 82) = NN (σ.1 82) := by unfold NN; rw [hr 12 (by omega) (by omega)]
  obtain ⟨N, hN, -, hNN⟩ := okv_12 q4
  have other : ∀ u', u' ≤ 1 → u' ≠ u → CD (4 + 3 * u') 82 u' σ → CD (4 + 3 * u') 82 u' τ := fun u' h1 h2 hcd => hcd.keep3 (hk _ _ (ls _ _ (by omega) (by omega) (by omega) (by omega)) (by omega) (by omega) (by omega)) (fun j _ => hk _ _ (ls _ _ (by omega) (by omega) (by omega) (by omega)) (by omega) (by omega) (by omega)) (hr _ (by omega) (by omega)) (fun i hi => hr _ (by omega) (by omega))
  have hL : LR 1 82 τ := by
    refine ⟨fun i hi => ?_, fun q hq => ?_, fun p j hp hj => ?_, fun i => ?_, fun i hi => ?_, fun i hi => ?_, ?_, ?_⟩
    · rw [hk _ _ (ls _ _ (by omega) (by omega) (by omega) (by omega)) (by omega) (by omega) (by omega), hr _ (by omega) (by omega)]; exact q1 i hi
    · rw [hk _ _ (ls _ _ (by omega) (by omega) (by omega) (by omega)) (by omega) (by omega) (by omega), hr _ (by have := mp_lo q hq; omega) (by have := mp_lo q hq; omega)]; exact q2 q hq
    · rw [eN] at hp
      have := q3 p j hp hj
      rw [S8_congr (fun j => hk _ j (ls _ _ (by omega) (by omega) (by omega) (by omega)) (by omega) (by omega) (by omega)) (fun j => hk _ j (ls _ _ (by omega) (by omega) (by omega) (by omega)) (by omega) (by omega) (by omega)), this]
      unfold S9
      rw [hr _ (by omega) (by omega)]
    · by_cases hi : i = 88 + u ∨ (110 + 50 * u ≤ i ∧ i < 160 + 50 * u)
      · unfold okv
        rw [if_neg (by omega), if_neg (by omega), if_neg (by omega), if_neg (by omega), if_neg (by omega), if_neg (by omega)]
      · rw [hr i (by omega) (by omega)]; exact q4 i
    · rw [hk _ _ (ls _ _ (by omega) (by omega) (by omega) (by omega)) (by omega) (by omega) (by omega), hr _ (by omega) (by omega)]; exact q5 i hi
    · rw [hk _ _ (ls _ _ (by omega) (by omega) (by omega) (by omega)) (by omega) (by omega) (by omega), hr _ (by omega) (by omega)]; exact q6 i hi
    · rcases hu with rfl | rfl
      · exact hc
      · exact other 0 (by omega) (by omega) q7
    · rcases hu with rfl | rfl
      · exact other 1 (by omega) (by omega) q8
      · exact hc
  refine ⟨h.1.lake hL (fun a b ha hs _ _ => hk a b hs (by rintro rfl; exact ha (Or.inr rfl)) (by unfold lkc at ha; omega) (by unfold lkc at ha; omega)) ⟨hk 4 0 (by decide) (by decide) (by omega) (by omega), hk 7 0 (by decide) (by decide) (by omega) (by omega)⟩, fun x hx => ?_⟩
  rw [hk 68 x (by simp [scr]) (by decide) (by omega) (by omega), hk 85 x (by simp [scr]) (by decide) (by omega) (by omega)]
  exact h.2 x hx
theorem text9_L {u n : Nat} (hu : u = 0 ∨ u = 1) (hn : n ≤ 50) : ∀ (d m : Nat) (σ : Sto), d ≤ n → d < m → σ.1 81 13 = nI n → ∃ τ, f_X9_text_L71 (nI u) m (nI (n - d)) σ = some (1, τ) ∧ (∀ j, τ.1 82 j = if 110 + 50 * u + (n - d) ≤ j ∧ j < 110 + 50 * u + n then σ.1 87 (j - (110 + 50 * u)) else σ.1 82 j) ∧ ∀ a b, a ≠ 82 → τ.1 a b = σ.1 a b := by
  have eb : (110 + 50 * nI u : Int32) = nI (110 + 50 * u) := by rcases hu with rfl | rfl <;> rfl
  intro d
  induction d with
  | zero =>
    intro m σ _ h2 e
    obtain ⟨m, rfl⟩ : ∃ k, m = k + 1 := ⟨m - 1, by omega⟩
    rw [f_X9_text_L71, e, if_pos (nI_le (by omega) (by omega))]
    exact ⟨σ, rfl, fun j => by rw [if_neg (by omega)], fun _ _ _ => rfl⟩
  | succ d ih =>
    intro m σ h1 h2 e
    obtain ⟨m, rfl⟩ : ∃ k, m = k + 1 := ⟨m - 1, by omega⟩
    have e1 : n - d = (n - (d + 1)) + 1 := by omega
    rw [f_X9_text_L71, e, if_neg (nI_ge (by omega) (by omega)), rd_nI (by show n - (d + 1) < 60; omega), bind_s, eb, nI_add, wr_nI (by show 110 + 50 * u + (n - (d + 1)) < 270; omega), bind_s, nI_1, ← e1]
    obtain ⟨τ, t1, t2, t3⟩ := ih m (sI σ 82 (110 + 50 * u + (n - (d + 1))) (σ.1 87 (n - (d + 1)))) (by omega) (by omega) (by rw [sI_ne (by decide)]; exact e)
    refine ⟨τ, t1, fun j => ?_, fun a b h => by rw [t3 a b h, sI_ne h]⟩
    rw [t2 j, sI_at, sI_ne (by decide)]
    by_cases h : 110 + 50 * u + (n - d) ≤ j ∧ j < 110 + 50 * u + n
    · rw [if_pos h, if_pos (by omega)]
    · rw [if_neg h]
      by_cases h' : j = 110 + 50 * u + (n - (d + 1))
      · rw [if_pos h', if_pos (by omega), h', show 110 + 50 * u + (n - (d + 1)) - (110 + 50 * u) = n - (d + 1) by omega]
      · rw [if_neg h', if_neg (by omega)]
theorem s_text_u {σ : Sto} (hI : Inv σ) {u : Nat} (hu : u = 0 ∨ u = 1) (b : Bool) : ∃ r s, f_X8_text σ (nI u) = some r ∧ f_X9_text r.2 (nI u) = some s ∧ (b = true → r.1 = s.1) ∧ Inv s.2 := by
  obtain ⟨t, ht, et⟩ := tape_n hI.1.ok
  have e12 : σ.1 1 12 = nI t := (hI.1.mp (i := 14) (j := 12) (by decide)).trans et
  have hT : ∀ i, i < t → isO (σ.1 10 i) 0 255 = false := by
    intro i hi
    have q := hI.1.ok (210 + i)
    unfold okv at q
    rw [if_neg (by omega), if_neg (by omega), if_neg (by omega), if_neg (by omega), if_neg (by omega), if_pos (by omega)] at q
    rw [show σ.1 10 i = σ.1 82 (210 + i) from hI.1.1.2.2.2.2.2.1 i (by omega)]
    exact not_t q
  have hω := upd_mp hI (i := 14) (j := 12) (by decide) (by decide) (okv_14 (t := 0) (by omega))
  generalize hω' : sI (sI σ 1 12 (nI 0)) 82 14 (nI 0) = ω at hω
  have ω8 : ∀ a b, a ≠ 82 → ¬ (a = 1 ∧ b = 12) → ω.1 a b = σ.1 a b := fun a b h1 h2 => by
    rw [← hω', sI_ne h1]
    show (if a = 1 ∧ b = 12 then _ else σ.1 a b) = _
    rw [if_neg h2]
  have ω12 : ω.1 1 12 = 0 := by rw [← hω', sI_ne (by decide), sI_at, if_pos rfl]; rfl
  have ω9 : ∀ j, ω.1 82 j = if j = 14 then 0 else σ.1 82 j := fun j => by rw [← hω', sI_at, sI_ne (by decide)]; rfl
  obtain ⟨ρ8, R8, hρ8, kρ8⟩ := read8 (σ := σ) ht hu
  have run : ∀ χ : Sto, χ.1 82 = σ.1 82 → ∃ ρ9, f_X9_reads (sI χ 82 14 0) 210 (nI t) (nI u) = (g_X9_both 64 2 (0 : Int32) ρ9).bind (fun r45 => if 0 ≤ (r45.1 81 8) then (some r45) else if (r45.1 81 7) ≤ (r45.1 81 6) then (some r45) else (f_X9_wrong r45).bind (fun r67 => some r67)) ∧ e10 (sI χ 82 14 0) ρ9 ∧ RS bal (fun i => σ.1 10 i) t u 0 0 [] ρ8 ρ9 (g_X3_readAll 64 1 0 ρ8) (g_X9_both 64 2 0 ρ9) := by
    intro χ hχ
    obtain ⟨ρ9, R9, hρ9, kρ9⟩ := reads9 (σ := sI χ 82 14 0) ht hu
    refine ⟨ρ9, R9, kρ9, top_PS hu hT 0 [] ρ8 ρ9 hρ8 ?_⟩
    obtain ⟨h1, h2, h3, h4, h5, h6, h7, h8⟩ := hρ9
    refine ⟨h1, h2, h3, h4, h5, h6, fun i hi => (h7 i hi).trans ?_, h8⟩
    show (sI χ 82 14 0).1 82 (210 + i) = σ.1 10 i
    rw [sI_nj (by omega), hχ]
    exact (hI.1.1.2.2.2.2.2.1 i (by omega)).symm
  obtain ⟨_, _, _, run0⟩ := run σ rfl
  obtain ⟨b8, τ8, x8, k8⟩ : ∃ b8 τ8, g_X3_readAll 64 1 0 ρ8 = some (b8, τ8) ∧ e8 ρ8 τ8 := by
    rcases run0 with ⟨P', ts, τ8, τ9, r1, -, -, -, -, -, r7, -⟩ | ⟨F, τ8, τ9, r1, -, -, -, -, r6, -⟩
    · exact ⟨_, _, r1, r7⟩
    · exact ⟨_, _, r1, r6⟩
  have o8 : ∀ a b, a ≠ 55 → a ≠ 56 → a ≠ 57 → τ8.1 a b = σ.1 a b := fun a b h1 h2 h3 => by rw [k8.2 a b h1 h2, kρ8 a b h1 h2 h3]
  have law : f_X0_lawOf σ 1 (nI u) = some (some (4 + 3 * u)) ∧ K0 (4 + 3 * u) = 1 ∧ A0 (4 + 3 * u) 1 = 5 + 3 * u ∧ Ln0 (5 + 3 * u) = 50 := by
    unfold f_X0_lawOf
    rcases hu with rfl | rfl
    · exact ⟨rfl, by decide, by decide, by decide⟩
    · exact ⟨rfl, by decide, by decide, by decide⟩
  obtain ⟨l1, l2, l3, l4⟩ := law
  rw [x8, bind_s] at R8
  have in01 : isO (nI u) 0 1 = false := isO_lit (n := 1) (by omega) (by omega)
  -- what is left over in both when nothing is laid
  have rest : ∀ (F : Nat) (χ τ9 ρ9 : Sto), F ≤ 50 → χ = sI τ8 1 12 0 → f_X3_read σ 10 (nI t) (nI u) = some (nI F, τ8) → f_X9_reads (sI χ 82 14 0) 210 (nI t) (nI u) = some τ9 → e10 (sI χ 82 14 0) ρ9 → e9 ρ9 τ9 → τ9.1 81 8 = nI F → ∃ r s, f_X8_text σ (nI u) = some r ∧ f_X9_text r.2 (nI u) = some s ∧ (b = true → r.1 = s.1) ∧ Inv s.2 := by
    intro F χ τ9 ρ9 hF hχ R8' R9' k9 k9' e8'
    subst hχ
    refine ⟨(-10 - nI F, sI τ8 1 12 0), (-10 - nI F, τ9), ?_, ?_, fun _ => rfl, hω.fr ?_⟩
    · unfold f_X8_text
      rw [l1, bind_s, onN_1, e12, R8', bind_s, lp_b, if_neg (nI_pos (by omega))]
    · show f_X9_text (sI τ8 1 12 0) (nI u) = _
      unfold f_X9_text
      rw [in_0_1, bind_s, in01, if_pos (by decide), rdA_82_14, bind_s, wrA_82_14, bind_s, sI_ne (by decide), o8 82 14 (by decide) (by decide) (by decide), et, R9', bind_s, e8', if_neg (nI_pos (by omega))]
    · have f0 : Fr ω (sI (sI τ8 1 12 0) 82 14 0) := fun k j hs => by
        by_cases hk : k = 82
        · subst hk
          rw [sI_at, sI_ne (by decide), ω9, o8 82 j (by decide) (by decide) (by decide)]
        · have z : k ≠ 55 ∧ k ≠ 56 ∧ k ≠ 57 := by refine ⟨?_, ?_, ?_⟩ <;> (rintro rfl; simp [scr] at hs)
          rw [sI_ne hk]
          by_cases h1 : k = 1 ∧ j = 12
          · rw [h1.1, h1.2, sI_at, if_pos rfl, ω12]
          · show (if k = 1 ∧ j = 12 then _ else τ8.1 k j) = _
            rw [if_neg h1, o8 k j z.1 z.2.1 z.2.2, ω8 k j hk h1]
      exact (f0.tr k9.fr).tr k9'.fr
  have d1 : (sI τ8 1 12 0).1 82 = σ.1 82 := funext fun j => by rw [sI_ne (by decide), o8 82 j (by decide) (by decide) (by decide)]
  cases b8 with
  | false =>
    rw [if_neg Bool.false_ne_true] at R8
    obtain ⟨ρ9, R9, k9, rs⟩ := run (sI τ8 1 12 0) d1
    rcases rs with ⟨P', ts, τ8', τ9, r1, r2, r3, r4, r5, r6, r7, r8⟩ | ⟨F, τ8', τ9, r1, r2, r3, r4, r5, r6, r7⟩
    · rw [x8] at r1; cases r1
    · rw [x8] at r1
      cases r1
      rw [r2, bind_s, r5, if_pos (nI_pos' (by omega))] at R9
      rw [r4] at R8
      exact rest F _ τ9 ρ9 r3 rfl R8 R9 k9 r7 r5
  | true =>
    rw [if_pos rfl] at R8
    by_cases hpos : τ8.1 55 4 = τ8.1 55 3
    · rw [if_pos hpos] at R8
      generalize hτ : sW (sI (sI τ8 1 12 0) (4 + 3 * u) 3 (τ8.1 55 1)) (5 + 3 * u) (fun k => if k < 50 then τ8.1 56 k else τ8.1 (5 + 3 * u) k) = τ
      have oτ : ∀ a b, a ≠ 5 + 3 * u → ¬ (a = 4 + 3 * u ∧ b = 3) → ¬ (a = 1 ∧ b = 12) → τ.1 a b = τ8.1 a b := fun a b h1 h2 h3 => by
        rw [← hτ, sW_ne h1]
        show (if a = 4 + 3 * u ∧ b = 3 then _ else if a = 1 ∧ b = 12 then _ else τ8.1 a b) = _
        rw [if_neg h2, if_neg h3]
      have dτ : τ.1 82 = σ.1 82 := funext fun j => by rw [oτ 82 j (by omega) (by omega) (by omega), o8 82 j (by decide) (by decide) (by decide)]
      have s8 : f_X8_text σ (nI u) = some (1, τ) := by
        unfold f_X8_text f_X1_take
        rw [l1, bind_s, onN_1, e12, R8, bind_s, lp_b, if_pos (show ((-1 : Int32), (true, τ8).2).1 < 0 from (show (-1 : Int32) < 0 by decide)), if_pos l2, lp_b, sI_ne (by decide), l3, show (50 : Int32) = nI 50 from rfl, cpA_n (by show 50 ≤ 50; omega) (by rw [l4]; omega), bind_s, bind_s]
        rw [← hτ]
        have e : (fun k => if k < 50 then (sI (sI τ8 1 12 0) (4 + 3 * u) 3 (τ8.1 55 1)).1 56 k else (sI (sI τ8 1 12 0) (4 + 3 * u) 3 (τ8.1 55 1)).1 (5 + 3 * u) k) = (fun k => if k < 50 then τ8.1 56 k else τ8.1 (5 + 3 * u) k) := by
          funext k
          rw [sI_ne (by omega), sI_ne (by decide), sI_ne (by omega), sI_ne (by omega)]
        rw [e]
      obtain ⟨ρ9, R9, k9, rs⟩ := run τ dτ
      rcases rs with ⟨P', ts, τ8', τ9, r1, r2, r3, r4, r5, r6, r7, r8⟩ | ⟨F, τ8', τ9, r1, r2, r3, r4, r5, r6, r7⟩
      · rw [x8] at r1
        cases r1
        rw [List.nil_append] at r3 r4
        obtain ⟨c1, c2, c3, c4, c5, c6, c7, c8, c9⟩ := r3
        obtain ⟨g1, g2, g3, g4, g5, g6, g7, g8, g9, g10, g11, g12⟩ := r4
        have hP : P' = t := by
          rw [c7, c4] at hpos
          exact (nI_eq (by omega) (by omega)).mp hpos
        subst hP
        rw [r2, bind_s, g9, if_neg (by decide), g5, g8, if_pos (nI_le (Nat.le_refl _) (by omega))] at R9
        have hn : ts.length ≤ 50 := by omega
        obtain ⟨υ, u1, u2, u3⟩ := text9_L hu hn ts.length FU (sI τ9 82 (88 + u) (nI ts.length)) (by omega) (by unfold FU; omega) (by rw [sI_ne (by decide)]; exact g11)
        rw [Nat.sub_self] at u1 u2
        have z9 : ∀ a b, a ≠ 87 → ¬ (a = 81 ∧ ((5 ≤ b ∧ b ≤ 10) ∨ b = 13)) → τ9.1 a b = (sI τ 82 14 0).1 a b := fun a b h1 h2 => by rw [r8 a b h1 (fun z => h2 ⟨z.1, by omega⟩), k9 a b h1 h2]
        have rυ : ∀ j, υ.1 82 j = if 110 + 50 * u ≤ j ∧ j < 110 + 50 * u + ts.length then ts.getD (j - (110 + 50 * u)) 0 else if j = 88 + u then nI ts.length else if j = 14 then 0 else σ.1 82 j := by
          intro j
          rw [u2 j, sI_ne (by decide), sI_at, z9 82 j (by decide) (by omega), sI_at, dτ]
          by_cases h : 110 + 50 * u ≤ j ∧ j < 110 + 50 * u + ts.length
          · rw [if_pos (by omega), if_pos h, g12 _ (by omega)]
          · rw [if_neg (by omega), if_neg h]
        have oυ : ∀ a b, scr a b = false → a ≠ 82 → υ.1 a b = τ.1 a b := fun a b hs ha => by
          have n87 : a ≠ 87 := by rintro rfl; simp [scr] at hs
          have n81 : ¬ (a = 81 ∧ ((5 ≤ b ∧ b ≤ 10) ∨ b = 13)) := by
            rintro ⟨rfl, h⟩
            rcases (show b = 5 ∨ b = 6 ∨ b = 7 ∨ b = 8 ∨ b = 9 ∨ b = 10 ∨ b = 13 by omega) with rfl | rfl | rfl | rfl | rfl | rfl | rfl <;> simp [scr] at hs
          rw [u3 a b ha, sI_ne ha, z9 a b n87 n81, sI_ne ha]
        have ls : ∀ k j, 1 ≤ k → k ≤ 27 → k ≠ 6 → k ≠ 9 → scr k j = false := fun k j h1 h2 h3 h4 => lk_scr (Or.inl ⟨rfl, rfl⟩) (Or.inl (by omega)) j
        refine ⟨(1, τ), (1, υ), s8, ?_, fun _ => rfl, hω.code hu ?_ (fun a b hs h82 h5 h4 => ?_) (fun j h1 h2 => ?_)⟩
        · show f_X9_text τ (nI u) = _
          unfold f_X9_text
          rw [in_0_1, bind_s, in01, if_pos (by decide), rdA_82_14, bind_s, wrA_82_14, bind_s, dτ, et, R9, bind_s, g9, if_pos (by decide), show (88 + nI u : Int32) = nI (88 + u) from nI_add 88 u, wr_nI (by show 88 + u < 270; omega), bind_s, g11]
          exact u1
        · refine ⟨ts.length, hn, ?_, ?_, fun i hi => ?_, Or.inr ?_⟩
          · rw [oυ _ _ (ls _ _ (by omega) (by omega) (by omega) (by omega)) (by omega), ← hτ, sW_ne (by omega), sI_at, if_pos rfl, c8]
          · rw [rυ, if_neg (by omega), if_pos rfl]
          · rw [show 4 + 3 * u + 1 = 5 + 3 * u by omega, oυ _ _ (ls _ _ (by omega) (by omega) (by omega) (by omega)) (by omega), ← hτ, sW_at, if_pos (by omega), c9 i hi, rυ, if_pos (by omega), show 110 + 50 * u + i - (110 + 50 * u) = i by omega]
          · have e : codeL (υ.1 82) u ts.length = ts := by
              apply List.ext_getElem
              · rw [codeL_len]
              · intro i h1 h2
                have q := codeL_at (V := υ.1 82) (u := u) (n := ts.length) h2
                rw [List.getD_eq_getElem?_getD, List.getElem?_eq_getElem h1] at q
                rw [show (codeL (υ.1 82) u ts.length)[i] = υ.1 82 (110 + 50 * u + i) from q, rυ, if_pos (by omega), show 110 + 50 * u + i - (110 + 50 * u) = i by omega, List.getD_eq_getElem?_getD, List.getElem?_eq_getElem h2]
                rfl
            rw [e]
            have := r6 0 [] rfl
            rw [List.append_nil] at this
            exact this
        · rw [oυ a b hs h82]
          have z : a ≠ 55 ∧ a ≠ 56 ∧ a ≠ 57 := by refine ⟨?_, ?_, ?_⟩ <;> (rintro rfl; simp [scr] at hs)
          by_cases h1 : a = 1 ∧ b = 12
          · rw [h1.1, h1.2, ω12, ← hτ, sW_ne (by omega), sI_ne (by omega), sI_at, if_pos rfl]
          · rw [oτ a b h5 h4 h1, o8 a b z.1 z.2.1 z.2.2, ω8 a b h82 h1]
        · rw [rυ, if_neg (by omega), if_neg h1, ω9]
      · rw [x8] at r1; cases r1
    · rw [if_neg hpos] at R8
      obtain ⟨ρ9, R9, k9, rs⟩ := run (sI τ8 1 12 0) d1
      rcases rs with ⟨P', ts, τ8', τ9, r1, r2, r3, r4, r5, r6, r7, r8⟩ | ⟨F, τ8', τ9, r1, r2, r3, r4, r5, r6, r7⟩
      · rw [x8] at r1
        cases r1
        have hPt : P' < t := by
          have h1 := r3.2.1
          have h2 := r3.2.2.2.1
          have h3 := r3.2.2.2.2.2.2.1
          rcases (show P' = t ∨ P' < t by omega) with rfl | h
          · exact absurd (h3.trans h2.symm) hpos
          · exact h
        rw [r2, bind_s, r4.2.2.2.2.2.2.2.2.1, if_neg (by decide), r4.2.2.2.2.1, r4.2.2.2.2.2.2.2.1, if_neg (nI_ge hPt (by omega)), wrong_f r4, bind_s] at R9
        rw [r3.2.2.2.2.2.2.1] at R8
        exact rest P' _ _ ρ9 (by omega) rfl R8 R9 k9 (r8.tr (e9.w _ (by omega) _)) (by rw [sI_at, if_pos rfl])
      · rw [x8] at r1; cases r1
theorem s_text (a1 : Int32) (b : Bool) : LPr (fun σ => f_X8_text σ a1) (fun σ => f_X9_text σ a1) b Inv Inv := by
  intro σ hI
  by_cases h0 : a1 = 0
  · subst h0
    exact s_text_u hI (u := 0) (Or.inl rfl) b
  · by_cases h1 : a1 = 1
    · subst h1
      exact s_text_u hI (u := 1) (Or.inr rfl) b
    · refine er_LPr (f := fun σ => f_X8_text σ a1) (g := fun σ => f_X9_text σ a1) (k := 1) hI ?_ ?_
      · show f_X8_text σ a1 = _
        unfold f_X8_text f_X0_lawOf
        rw [if_neg h0, if_neg h1, bind_s, onN_0, r8_1, bind_s]
      · show f_X9_text (rf σ 1) a1 = _
        unfold f_X9_text
        rw [in_0_1, bind_s, isO_01 h0 h1, if_neg (by decide), r9_1, bind_s]
/-! The best plan: the reference goes through all plans in their order. -/
def dg (v i : Nat) : Nat := if i = 0 then v / 216 % 6 else if i = 1 then v / 36 % 6 else if i = 2 then v / 6 % 6 else v % 6
def pv (v : Nat) : Nat → Int32 := l4 (nI (dg v 0)) (nI (dg v 1)) (nI (dg v 2)) (nI (dg v 3))
theorem dg_lt (v i : Nat) : dg v i < 6 := by
  unfold dg
  by_cases h0 : i = 0
  · rw [if_pos h0]; exact Nat.mod_lt _ (by omega)
  · rw [if_neg h0]
    by_cases h1 : i = 1
    · rw [if_pos h1]; exact Nat.mod_lt _ (by omega)
    · rw [if_neg h1]
      by_cases h2 : i = 2
      · rw [if_pos h2]; exact Nat.mod_lt _ (by omega)
      · rw [if_neg h2]; exact Nat.mod_lt _ (by omega)
theorem laneIn_eq : ∀ v, v < 1296 → ∀ i, i < 4 → f_X9_laneIn (nI v) (nI i) = some (nI (dg v i)) := by decide +kernel
theorem pv_ok (v i : Nat) : ∃ l, l < 6 ∧ pv v i = nI l := by
  unfold pv l4
  by_cases h0 : i = 0
  · rw [if_pos h0]; exact ⟨_, dg_lt v 0, rfl⟩
  · rw [if_neg h0]
    by_cases h1 : i = 1
    · rw [if_pos h1]; exact ⟨_, dg_lt v 1, rfl⟩
    · rw [if_neg h1]
      by_cases h2 : i = 2
      · rw [if_pos h2]; exact ⟨_, dg_lt v 2, rfl⟩
      · rw [if_neg h2]; exact ⟨_, dg_lt v 3, rfl⟩
def stB (A B : Nat → Int32) (fl : Int32 → Int32) (s : Int32) (v : Nat) (st : Option (Nat × Int32)) : Option (Nat × Int32) := match met (PL A (pv v)) B fl s with
  | none => st
  | some u => match st with
    | none => some (v, metP (PL A (pv v)) B fl u)
    | some x => if bt (A 2) (metP (PL A (pv v)) B fl u) x.2 = true then some (v, metP (PL A (pv v)) B fl u) else some x
def bpS (A B : Nat → Int32) (fl : Int32 → Int32) (s : Int32) : Nat → Option (Nat × Int32) → Option (Nat × Int32)
  | 0, st => st
  | d + 1, st => bpS A B fl s d (stB A B fl s (1295 - d) st)
def outB (a3 : Int32) (st : Option (Nat × Int32)) : Int32 ⊕ Nat := match st with
  | none => .inr 2
  | some x => .inl (if 0 ≤ a3 then nI (dg x.1 a3.toNatClampNeg) else x.2)
theorem best9_L {σ0 : Sto} {V : Nat → Int32} (h0 : σ0.1 82 = V) (ok : ∀ i, okv i (V i) = true) (hc : CW V 0) {p q : Nat} (hp : p < 8) (hq : q < 8) (hu : ¬ S9 V p 2 = S9 V q 2) {a3 : Int32} (ha : a3 = -1 ∨ ∃ i, i < 4 ∧ a3 = nI i) : ∀ (d n : Nat) (st : Option (Nat × Int32)) (v4 v5 : Int32) (σ : Sto), d ≤ 1296 → d < n → (st = none → v4 = -1) → (∀ x, st = some x → x.1 < 1296 ∧ v4 = nI x.1 ∧ v5 = x.2) → HS σ0 V p p σ →
    C9 (f_X9_bestPlan_L49 (nI p) (nI q) a3 n v4 v5 (nI (1296 - d)) σ) σ0 (outB a3 (bpS (S9 V p) (S9 V q) (flV V (V 6)) (V 7) d st)) := by
  have hpq : q ≠ p := by rintro rfl; exact hu rfl
  intro d
  induction d with
  | zero =>
    intro n st v4 v5 σ _ h2 h5 h6 h
    obtain ⟨n, rfl⟩ : ∃ n', n = n' + 1 := ⟨n - 1, by omega⟩
    obtain ⟨τ, t1, t2⟩ := h.back hp hp h0
    rw [f_X9_bestPlan_L49, if_pos (by decide), t1, bind_s, bpS]
    cases st with
    | none =>
      rw [h5 rfl, if_neg (by decide), r9_2, bind_s]
      exact ⟨τ, rfl, t2⟩
    | some x =>
      obtain ⟨x1, x2, x3⟩ := h6 x rfl
      rw [x2, if_pos (nI_pos' (by omega))]
      unfold outB
      rcases ha with rfl | ⟨i, hi, rfl⟩
      · rw [if_neg (by decide), x3]
        exact ⟨τ, rfl, t2⟩
      · rw [if_pos (nI_pos' (by omega)), laneIn_eq _ x1 i hi, bind_s]
        refine ⟨τ, ?_, t2⟩
        show some (nI (dg x.1 i), τ) = some ((if 0 ≤ nI i then nI (dg x.1 (nI i).toNatClampNeg) else x.2), τ)
        rw [if_pos (nI_pos' (by omega)), nI_clamp (by omega)]
  | succ d ih =>
    intro n st v4 v5 σ h1 h2 h5 h6 h
    obtain ⟨n, rfl⟩ : ∃ n', n = n' + 1 := ⟨n - 1, by omega⟩
    have e1 : 1296 - (d + 1) = 1295 - d := by omega
    have e2 : 1296 - d = (1295 - d) + 1 := by omega
    have hv : 1295 - d < 1296 := by omega
    obtain ⟨k1, k2, k3⟩ := h
    rw [e1, f_X9_bestPlan_L49, if_neg (show ¬ (1296 : Int32) ≤ nI (1295 - d) from nI_ge (b := 1296) (by omega) (by omega)), show f_X9_laneIn (nI (1295 - d)) 0 = _ from laneIn_eq _ hv 0 (by omega), bind_s, show f_X9_laneIn (nI (1295 - d)) 1 = _ from laneIn_eq _ hv 1 (by omega), bind_s, show f_X9_laneIn (nI (1295 - d)) 2 = _ from laneIn_eq _ hv 2 (by omega), bind_s, show f_X9_laneIn (nI (1295 - d)) 3 = _ from laneIn_eq _ hv 3 (by omega), bind_s]
    rw [bpS]
    generalize 1295 - d = v at hv e2 ⊢
    obtain ⟨α, a1, a2, a3'⟩ := plans9 (σ := σ) hp (nI (dg v 0)) (nI (dg v 1)) (nI (dg v 2)) (nI (dg v 3))
    have lo : ∀ j, ¬ (16 + 9 * p + 5 ≤ j ∧ j < 16 + 9 * p + 9) → α.1 82 j = V j := fun j n1 => by rw [a2, if_neg n1, k3 j n1 n1]
    have eA : Eq9 (S9 (α.1 82) p) (PL (S9 V p) (pv v)) := by
      intro j hj
      unfold PL
      show α.1 82 (16 + 9 * p + j) = _
      by_cases h5 : 5 ≤ j ∧ j < 9
      · rw [if_pos h5, a2, if_pos (by omega), show 16 + 9 * p + j - (16 + 9 * p + 5) = j - 5 by omega]
        rfl
      · rw [if_neg h5, lo _ (by omega)]; rfl
    have eB : Eq9 (S9 (α.1 82) q) (S9 V q) := by
      intro j hj
      show α.1 82 (16 + 9 * q + j) = _
      rw [lo _ (by omega)]; rfl
    obtain ⟨τ, t1, t2, t3⟩ := swimW (σ := α) (V := V) (w := V 6) (s := V 7) rfl ⟨fun x hx => lo x (by omega), fun x hx => lo x (by omega)⟩ hc (lo 6 (by omega)) (lo 7 (by omega)) hp hq eA eB ((gr9 ok hp).pl2 (fun i _ => pv_ok v i)) (gr9 ok hq) (by rw [PL_lo (by omega)]; exact hu)
    have kα : K9 σ0 α := fun k j hk hs => by rw [a3' k j hk, k1 k j hk hs]
    have hτ : HS σ0 V p p τ := ⟨kα.tr t2.fr.k9, fun j hj => by rw [t2 83 j (by decide) (by decide) (by omega), a3' 83 j (by decide), k2 j hj], fun j n1 _ => by rw [t2.d, lo j n1]⟩
    have o2 : f_X9_of τ (nI p) 2 = some (S9 V p 2) := by
      rw [show f_X9_of τ (nI p) 2 = _ from of_eq hp (j := 2) (by omega)]
      unfold S9
      rw [t2.d, lo _ (by omega)]
    rw [a1, bind_s, t1, bind_s]
    unfold f_X9_bestPlan_L128 f_X9_bestPlan_L118 f_X9_bestPlan_L128 stB
    rw [nI_1, ← e2]
    cases hm : met (PL (S9 V p) (pv v)) (S9 V q) (flV V (V 6)) (V 7) with
    | none =>
      rw [if_neg (show ¬ (none : Option Nat).isSome = true by decide)]
      exact ih n st v4 v5 τ (by omega) (by omega) h5 h6 hτ
    | some u =>
      obtain ⟨-, v2⟩ := t3 u hm
      rw [if_pos (show (some u).isSome = true from rfl), v2]
      cases st with
      | none =>
        rw [h5 rfl, if_pos (by decide)]
        exact ih n (some (v, metP (PL (S9 V p) (pv v)) (S9 V q) (flV V (V 6)) u)) _ _ τ (by omega) (by omega) (fun z => by cases z) (fun x hx => by cases hx; exact ⟨hv, rfl, rfl⟩) hτ
      | some x =>
        obtain ⟨x1, x2, x3⟩ := h6 x rfl
        rw [x2, if_neg (nI_pos (by omega)), o2, bind_s, bt9, bind_s, x3]
        cases hb : bt (S9 V p 2) (metP (PL (S9 V p) (pv v)) (S9 V q) (flV V (V 6)) u) x.2 with
        | true =>
          rw [if_pos rfl]
          simp only [hb, if_true]
          exact ih n (some (v, metP (PL (S9 V p) (pv v)) (S9 V q) (flV V (V 6)) u)) _ _ τ (by omega) (by omega) (fun z => by cases z) (fun y hy => by cases hy; exact ⟨hv, rfl, rfl⟩) hτ
        | false =>
          rw [if_neg (by decide)]
          simp only [hb, Bool.false_eq_true, if_false]
          exact ih n (some x) _ _ τ (by omega) (by omega) (fun z => by cases z) (fun y hy => by cases hy; exact ⟨x1, rfl, rfl⟩) hτ
/-! Plans with one beginning have one beginning of their swims. -/
theorem pl_pc {A f : Nat → Int32} (t : Int32) : pPc (PL A f) t = pPc A t := by
  unfold pPc pPl
  rw [PL_lo (by omega), PL_lo (by omega), PL_lo (by omega)]
theorem pPos_pl {A f g : Nat → Int32} {k : Nat} (hk : k ≤ 4) (h : ∀ i, i < k → f i = g i) (fl : Int32 → Int32) : ∀ t, t ≤ 10 * k → pPos (PL A f) fl t = pPos (PL A g) fl t := by
  intro t
  induction t with
  | zero =>
    intro _
    rw [pPos, pPos, PL_lo (by omega), PL_lo (by omega)]
  | succ t ih =>
    intro ht
    have e : pLn (PL A f) t = pLn (PL A g) t := by rw [PL_ln, PL_ln, h _ (by omega)]
    rw [pPos, pPos, ih (by omega)]
    unfold pGo
    rw [pl_pc, pl_pc, e, PL_lo (by omega), PL_lo (by omega)]
theorem mtT_pl {A B f g : Nat → Int32} {k : Nat} (hk : k ≤ 4) (h : ∀ i, i < k → f i = g i) (fl : Int32 → Int32) (s : Int32) {t : Nat} (ht : t < 10 * k) : mtT (PL A f) B fl s t = mtT (PL A g) B fl s t := by
  unfold mtT gapT
  rw [PL_ln, PL_ln, h _ (by omega), pPos_pl hk h fl (t + 1) (by omega), PL_lo (by omega), PL_lo (by omega)]
/-- the first minute at which they meet, told by minutes -/
theorem mtD_some {A B : Nat → Int32} {fl : Int32 → Int32} {s : Int32} : ∀ {d : Nat}, d ≤ 60 → ∀ {u : Nat}, 60 - d ≤ u → u < 60 → mtT A B fl s u = true → (∀ t, 60 - d ≤ t → t < u → mtT A B fl s t = false) → mtD A B fl s d = some u := by
  intro d
  induction d with
  | zero => intro _ u h1 h2; omega
  | succ d ih =>
    intro hd u h1 h2 h3 h4
    rw [mtD]
    by_cases hu : u = 59 - d
    · rw [← hu, if_pos h3]
    · rw [h4 (59 - d) (by omega) (by omega), if_neg (by decide)]
      exact ih (by omega) (by omega) h2 h3 (fun t a b => h4 t (by omega) b)
theorem mtD_none {A B : Nat → Int32} {fl : Int32 → Int32} {s : Int32} : ∀ {d : Nat}, d ≤ 60 → (∀ t, 60 - d ≤ t → t < 60 → mtT A B fl s t = false) → mtD A B fl s d = none := by
  intro d
  induction d with
  | zero => intro _ _; rfl
  | succ d ih =>
    intro hd h
    rw [mtD, h (59 - d) (by omega) (by omega), if_neg (by decide)]
    exact ih (by omega) (fun t a b => h t (by omega) b)
theorem met_some {A B : Nat → Int32} {fl : Int32 → Int32} {s : Int32} {u : Nat} (h2 : u < 60) (h3 : mtT A B fl s u = true) (h4 : ∀ t, t < u → mtT A B fl s t = false) : met A B fl s = some u := mtD_some (Nat.le_refl _) (by omega) h2 h3 (fun t _ b => h4 t b)
theorem met_none {A B : Nat → Int32} {fl : Int32 → Int32} {s : Int32} (h : ∀ t, t < 60 → mtT A B fl s t = false) : met A B fl s = none := mtD_none (Nat.le_refl _) (fun t _ b => h t b)
/-- all plans that begin with f's first k lanes meet as f does, if f meets before 10 * k -/
theorem met_pl {A B f g : Nat → Int32} {k : Nat} (hk : k ≤ 4) (h : ∀ i, i < k → f i = g i) (fl : Int32 → Int32) (s : Int32) {u : Nat} (hu : u < 10 * k) (hu6 : u < 60) (h3 : mtT (PL A f) B fl s u = true) (h4 : ∀ t, t < u → mtT (PL A f) B fl s t = false) : met (PL A g) B fl s = some u ∧ metP (PL A g) B fl u = metP (PL A f) B fl u := by
  refine ⟨met_some hu6 (by rw [← mtT_pl hk h fl s hu]; exact h3) (fun t ht => by rw [← mtT_pl hk h fl s (by omega)]; exact h4 t ht), ?_⟩
  unfold metP
  rw [pPos_pl hk h fl (u + 1) (by omega)]
/-! Blocks of plans. -/
def bpN (A B : Nat → Int32) (fl : Int32 → Int32) (s : Int32) : Nat → Nat → Option (Nat × Int32) → Option (Nat × Int32)
  | _, 0, st => st
  | a, n + 1, st => bpN A B fl s (a + 1) n (stB A B fl s a st)
theorem bpS_N {A B : Nat → Int32} {fl : Int32 → Int32} {s : Int32} : ∀ (d : Nat) (st : Option (Nat × Int32)), d ≤ 1296 → bpS A B fl s d st = bpN A B fl s (1296 - d) d st := by
  intro d
  induction d with
  | zero => intro st _; rfl
  | succ d ih =>
    intro st hd
    rw [bpS, bpN, ih _ (by omega), show 1296 - (d + 1) = 1295 - d by omega, show 1295 - d + 1 = 1296 - d by omega]
theorem bpN_add {A B : Nat → Int32} {fl : Int32 → Int32} {s : Int32} : ∀ (m n a : Nat) (st : Option (Nat × Int32)), bpN A B fl s a (m + n) st = bpN A B fl s (a + m) n (bpN A B fl s a m st) := by
  intro m
  induction m with
  | zero => intro n a st; rw [Nat.zero_add, Nat.add_zero, bpN]
  | succ m ih =>
    intro n a st
    rw [show m + 1 + n = (m + n) + 1 by omega, bpN, ih, bpN, show a + 1 + m = a + (m + 1) by omega]
/-- a plan with the place P is taken, if it is the first or the better -/
def tkB (sd : Int32) (v : Nat) (P : Int32) (st : Option (Nat × Int32)) : Option (Nat × Int32) := match st with
  | none => some (v, P)
  | some x => if bt sd P x.2 = true then some (v, P) else some x
theorem stB_tk {A B : Nat → Int32} {fl : Int32 → Int32} {s : Int32} {v u : Nat} (h : met (PL A (pv v)) B fl s = some u) (st : Option (Nat × Int32)) : stB A B fl s v st = tkB (A 2) v (metP (PL A (pv v)) B fl u) st := by
  unfold stB tkB
  rw [h]
  all_goals (cases st <;> rfl)
theorem stB_no {A B : Nat → Int32} {fl : Int32 → Int32} {s : Int32} {v : Nat} (h : met (PL A (pv v)) B fl s = none) (st : Option (Nat × Int32)) : stB A B fl s v st = st := by
  unfold stB
  rw [h]
theorem tk_again {sd P : Int32} {v w : Nat} {st : Option (Nat × Int32)} : tkB sd w P (tkB sd v P st) = tkB sd v P st := by
  cases st with
  | none =>
    show (if bt sd P P = true then some (w, P) else some (v, P)) = some (v, P)
    rw [bt_rf, if_neg (by decide)]
  | some x =>
    show tkB sd w P (if bt sd P x.2 = true then some (v, P) else some x) = (if bt sd P x.2 = true then some (v, P) else some x)
    cases h : bt sd P x.2 with
    | true =>
      rw [if_pos rfl]
      show (if bt sd P P = true then some (w, P) else some (v, P)) = some (v, P)
      rw [bt_rf, if_neg (by decide)]
    | false =>
      rw [if_neg (by decide)]
      show (if bt sd P x.2 = true then some (w, P) else some x) = some x
      rw [h, if_neg (by decide)]
/-- a block with one meeting: only its first plan can be taken -/
theorem blk_one {A B : Nat → Int32} {fl : Int32 → Int32} {s P : Int32} {u : Nat} : ∀ (n a v : Nat) (st : Option (Nat × Int32)), (∀ w, a ≤ w → w < a + n → met (PL A (pv w)) B fl s = some u ∧ metP (PL A (pv w)) B fl u = P) → bpN A B fl s a n (tkB (A 2) v P st) = tkB (A 2) v P st := by
  intro n
  induction n with
  | zero => intro a v st _; rfl
  | succ n ih =>
    intro a v st h
    obtain ⟨h1, h2⟩ := h a (by omega) (by omega)
    rw [bpN, stB_tk h1, h2, tk_again]
    exact ih (a + 1) v st (fun w x y => h w (by omega) (by omega))
theorem blk_some {A B : Nat → Int32} {fl : Int32 → Int32} {s P : Int32} {u : Nat} {n a : Nat} {st : Option (Nat × Int32)} (h : ∀ w, a ≤ w → w < a + (n + 1) → met (PL A (pv w)) B fl s = some u ∧ metP (PL A (pv w)) B fl u = P) : bpN A B fl s a (n + 1) st = tkB (A 2) a P st := by
  obtain ⟨h1, h2⟩ := h a (by omega) (by omega)
  rw [bpN, stB_tk h1, h2]
  exact blk_one n (a + 1) a st (fun w x y => h w (by omega) (by omega))
theorem blk_none {A B : Nat → Int32} {fl : Int32 → Int32} {s : Int32} : ∀ (n a : Nat) (st : Option (Nat × Int32)), (∀ w, a ≤ w → w < a + n → met (PL A (pv w)) B fl s = none) → bpN A B fl s a n st = st := by
  intro n
  induction n with
  | zero => intro a st _; rfl
  | succ n ih =>
    intro a st h
    rw [bpN, stB_no (h a (by omega) (by omega))]
    exact ih (a + 1) st (fun w x y => h w (by omega) (by omega))
/-! The class's search: a part's lane is set, the later ones are 0. -/
theorem setLane_L {k l : Nat} (hk : k < 4) : ∀ (d n : Nat) (σ : Sto), d ≤ 4 → d < n → ∃ τ, f_X2_setLane_L6 (nI k) (nI l) n (nI (4 - d)) σ = some τ ∧ (∀ j, τ.1 63 j = if 4 - d ≤ j ∧ j < 4 then (if j = k then nI l else 0) else σ.1 63 j) ∧ (∀ a b, a ≠ 63 → τ.1 a b = σ.1 a b) ∧ τ.2 = σ.2 := by
  intro d
  induction d with
  | zero =>
    intro n σ _ h2
    obtain ⟨n, rfl⟩ : ∃ n', n = n' + 1 := ⟨n - 1, by omega⟩
    rw [f_X2_setLane_L6, if_pos (by decide)]
    exact ⟨σ, rfl, fun j => by rw [if_neg (by omega)], fun _ _ _ => rfl, rfl⟩
  | succ d ih =>
    intro n σ h1 h2
    obtain ⟨n, rfl⟩ : ∃ n', n = n' + 1 := ⟨n - 1, by omega⟩
    have e1 : 4 - d = (4 - (d + 1)) + 1 := by omega
    have step : ∀ v : Int32, v = (if 4 - (d + 1) = k then nI l else 0) → ∃ τ, f_X2_setLane_L29 (f_X2_setLane_L6 (nI k) (nI l) n) (nI k) (nI l) (nI (4 - (d + 1))) v (nI (4 - (d + 1))) σ = some τ ∧ (∀ j, τ.1 63 j = if 4 - (d + 1) ≤ j ∧ j < 4 then (if j = k then nI l else 0) else σ.1 63 j) ∧ (∀ a b, a ≠ 63 → τ.1 a b = σ.1 a b) ∧ τ.2 = σ.2 := by
      intro v hv
      unfold f_X2_setLane_L29
      rw [wr_nI (by show 4 - (d + 1) < 4; omega), bind_s, nI_1, ← e1]
      obtain ⟨τ, t1, t2, t3, t4⟩ := ih n (sI σ 63 (4 - (d + 1)) v) (by omega) (by omega)
      refine ⟨τ, t1, fun j => ?_, fun a b h => by rw [t3 a b h, sI_ne h], by rw [t4]; rfl⟩
      rw [t2 j, sI_at]
      by_cases h : 4 - d ≤ j ∧ j < 4
      · rw [if_pos h, if_pos (show 4 - (d + 1) ≤ j ∧ j < 4 by omega)]
      · rw [if_neg h]
        by_cases h' : j = 4 - (d + 1)
        · rw [if_pos h', if_pos (show 4 - (d + 1) ≤ j ∧ j < 4 by omega), hv, h']
        · rw [if_neg h', if_neg (show ¬ (4 - (d + 1) ≤ j ∧ j < 4) by omega)]
    rw [f_X2_setLane_L6, if_neg (show ¬ (4 : Int32) ≤ nI (4 - (d + 1)) from nI_ge (b := 4) (by omega) (by omega))]
    by_cases hq : 4 - (d + 1) = k
    · rw [if_pos (show nI (4 - (d + 1)) = nI k by rw [hq])]
      exact step (nI l) (by rw [if_pos hq])
    · rw [if_neg (fun z => hq ((nI_eq (by omega) (by omega)).mp z))]
      exact step 0 (by rw [if_neg hq])
theorem setLane8 (σ : Sto) {k l : Nat} (hk : k < 4) : ∃ τ, f_X2_setLane σ (nI k) (nI l) = some τ ∧ (∀ j, τ.1 63 j = if k ≤ j ∧ j < 4 then (if j = k then nI l else 0) else σ.1 63 j) ∧ (∀ a b, a ≠ 63 → τ.1 a b = σ.1 a b) ∧ τ.2 = σ.2 := by
  have e : imax 0 (nI k) = nI (4 - (4 - k)) := (show ∀ k, k < 4 → imax 0 (nI k) = nI (4 - (4 - k)) by decide) k hk
  obtain ⟨τ, t1, t2, t3, t4⟩ := setLane_L (l := l) hk (4 - k) FU σ (by omega) (by unfold FU; omega)
  refine ⟨τ, ?_, fun j => ?_, t3, t4⟩
  · unfold f_X2_setLane
    rw [e]
    exact t1
  · rw [t2 j, show 4 - (4 - k) = k by omega]
theorem nmR_b {γ : Type} (x : Option Nat) (f : Option Nat → γ) : nmR x f = f x := rfl
/-- the best so far, as the class keeps it -/
def BS (σ : Sto) (st : Option (Nat × Int32)) : Prop := (st = none → σ.1 60 0 = 0) ∧ ∀ x, st = some x → ¬ σ.1 60 0 = 0 ∧ σ.1 60 1 = x.2 ∧ ∀ i, i < 4 → σ.1 61 i = nI (dg x.1 i)
/-- a minute of the search: meetsAt -/
theorem meetsAt8 {σ : Sto} {A B : Nat → Int32} {fl : Int32 → Int32} {s : Int32} {q t v : Nat} {st : Option (Nat × Int32)} (hq : q < 8) (ht : t < 60) (hr : σ.2 60 6 = some (12 + 2 * q)) (hA : Eq9 (S8 σ 62) A) (hB : Eq9 (S8 σ (12 + 2 * q)) B) (hs : σ.1 60 7 = s) (h64 : σ.1 64 t = pPos B fl (t + 1)) (h63 : ∀ i, i < 4 → σ.1 63 i = nI (dg v i)) (hb : BS σ st) :
    ∃ τ, f_X2_meetsAt σ (pPos A fl (t + 1)) (nI t) = some (mtT A B fl s t, τ) ∧ (mtT A B fl s t = true → BS τ (tkB (A 2) v (metP A B fl t) st)) ∧ (mtT A B fl s t = false → τ = σ) ∧ τ.2 = σ.2 ∧ ∀ a b, a ≠ 61 → ¬ (a = 60 ∧ b < 2) → τ.1 a b = σ.1 a b := by
  have e62 : σ.1 62 2 = A 2 := hA 2 (by omega)
  have put : ∀ P : Int32, ∃ τ, f_X2_meetsAt_L115 P σ = some (true, τ) ∧ BS τ (some (v, P)) ∧ τ.2 = σ.2 ∧ ∀ a b, a ≠ 61 → ¬ (a = 60 ∧ b < 2) → τ.1 a b = σ.1 a b := by
    intro P
    unfold f_X2_meetsAt_L115
    rw [lp_b, lp_b, show (4 : Int32) = nI 4 from rfl, cpA_n (by decide) (by decide), bind_s]
    refine ⟨_, rfl, ⟨(fun h => (by cases h)), fun x hx => ?_⟩, rfl, fun a b h1 h2 => ?_⟩
    · cases hx
      refine ⟨?_, ?_, fun i hi => ?_⟩
      · rw [sW_ne (by decide), sI_nj (by decide), sI_at, if_pos rfl]; decide
      · rw [sW_ne (by decide), sI_at, if_pos rfl]
      · rw [sW_at, if_pos hi, sI_ne (by decide), sI_ne (by decide)]; exact h63 i hi
    · rw [sW_ne h1]
      show (if a = 60 ∧ b = 1 then P else if a = 60 ∧ b = 0 then 1 else σ.1 a b) = _
      rw [if_neg (fun z => h2 ⟨z.1, by omega⟩), if_neg (fun z => h2 ⟨z.1, by omega⟩)]
  have l69 : ∀ g : Int32, g = gapT A B fl (t + 1) → ∃ τ, f_X2_meetsAt_L69 (pPos A fl (t + 1)) (pPos B fl (t + 1)) g σ = some (!decide (s < gapT A B fl (t + 1)), τ) ∧ ((!decide (s < gapT A B fl (t + 1))) = true → BS τ (tkB (A 2) v (metP A B fl t) st)) ∧ ((!decide (s < gapT A B fl (t + 1))) = false → τ = σ) ∧ τ.2 = σ.2 ∧ ∀ a b, a ≠ 61 → ¬ (a = 60 ∧ b < 2) → τ.1 a b = σ.1 a b := by
    intro g hg
    subst hg
    unfold f_X2_meetsAt_L69
    rw [hs]
    by_cases hgs : gapT A B fl (t + 1) ≤ s
    · have hn : ¬ s < gapT A B fl (t + 1) := Int32.not_lt.mpr hgs
      rw [if_pos hgs, decide_eq_false hn]
      obtain ⟨τ, t1, t2, t3, t4⟩ := put (metP A B fl t)
      cases st with
      | none =>
        rw [if_pos (hb.1 rfl)]
        exact ⟨τ, t1, fun _ => t2, (fun z => (by cases z)), t3, t4⟩
      | some x =>
        obtain ⟨b1, b2, b3⟩ := hb.2 x rfl
        rw [if_neg b1, e62, b2, bt8, bind_s]
        show ∃ τ, (if bt (A 2) (metP A B fl t) x.2 = true then _ else _) = _ ∧ (_ → BS τ (if bt (A 2) (metP A B fl t) x.2 = true then some (v, metP A B fl t) else some x)) ∧ _
        cases hbt : bt (A 2) (metP A B fl t) x.2 with
        | true =>
          rw [if_pos rfl, if_pos rfl]
          exact ⟨τ, t1, fun _ => t2, (fun z => (by cases z)), t3, t4⟩
        | false =>
          rw [if_neg (by decide), if_neg (by decide)]
          exact ⟨σ, rfl, fun _ => hb, (fun z => (by cases z)), rfl, fun _ _ _ _ => rfl⟩
    · rw [if_neg hgs, decide_eq_true (Int32.not_le.mp hgs)]
      exact ⟨σ, rfl, (fun z => (by cases z)), fun _ => rfl, rfl, fun _ _ _ _ => rfl⟩
  unfold f_X2_meetsAt
  rw [hr]
  rw [nmR_b, onN_1, out_eq, bind_s, show isO (nI t) 0 (60 - 1) = false from isO_lit (n := 59) (by omega) (by omega), if_neg (by decide), lane8 (k := 62) (by decide) ht, bind_s]
  rw [nmR_b, deref6 (K12 q hq), lane8 (K12 q hq) ht, bind_s, hA.ln, hB.ln]
  unfold mtT
  by_cases hl : pLn A t = pLn B t
  · rw [if_pos hl, rd_nI (by show t < 60; exact ht), bind_s, h64, e62, decide_eq_true hl, Bool.true_and]
    by_cases h0 : A 2 = 0
    · rw [if_pos h0]
      exact l69 _ (by unfold gapT; rw [if_pos h0])
    · rw [if_neg h0]
      exact l69 _ (by unfold gapT; rw [if_neg h0])
  · rw [if_neg hl, decide_eq_false hl, Bool.false_and]
    exact ⟨σ, rfl, (fun z => (by cases z)), fun _ => rfl, rfl, fun _ _ _ _ => rfl⟩
/-! The minutes of a part, with its lanes set. -/
theorem pv_dg (v : Nat) {i : Nat} (hi : i < 4) : pv v i = nI (dg v i) := by
  unfold pv l4
  rcases (show i = 0 ∨ i = 1 ∨ i = 2 ∨ i = 3 by omega) with rfl | rfl | rfl | rfl <;> rfl
/-- where the search stands -/
def SS (A B : Nat → Int32) (fl : Int32 → Int32) (s : Int32) (q : Nat) (σ : Sto) : Prop := Fl σ fl ∧ σ.2 60 5 = some 58 ∧ σ.2 60 6 = some (12 + 2 * q) ∧ (∀ j, j < 5 → σ.1 62 j = A j) ∧ Eq9 (S8 σ (12 + 2 * q)) B ∧ σ.1 60 7 = s ∧ ∀ t, t < 60 → σ.1 64 t = pPos B fl (t + 1)
def Ch (k : Nat) (σ τ : Sto) : Prop := τ.2 = σ.2 ∧ (∀ i, i < k → τ.1 63 i = σ.1 63 i) ∧ ∀ a b, a ≠ 61 → a ≠ 63 → ¬ (a = 60 ∧ b < 2) → τ.1 a b = σ.1 a b
theorem Ch.rf (k : Nat) (σ : Sto) : Ch k σ σ := ⟨rfl, fun _ _ => rfl, fun _ _ _ _ _ => rfl⟩
theorem Ch.tr {k : Nat} {σ τ υ : Sto} (h : Ch k σ τ) (h' : Ch k τ υ) : Ch k σ υ := ⟨h'.1.trans h.1, fun i hi => (h'.2.1 i hi).trans (h.2.1 i hi), fun a b x y z => (h'.2.2 a b x y z).trans (h.2.2 a b x y z)⟩
theorem Ch.lo {k m : Nat} {σ τ : Sto} (hk : m ≤ k) (h : Ch k σ τ) : Ch m σ τ := ⟨h.1, fun i hi => h.2.1 i (by omega), h.2.2⟩
theorem SS.ch {A B : Nat → Int32} {fl : Int32 → Int32} {s : Int32} {q k : Nat} {σ τ : Sto} (hq : q < 8) (h : SS A B fl s q σ) (c : Ch k σ τ) : SS A B fl s q τ := by
  obtain ⟨h1, h2, h3, h4, h5, h6, h7⟩ := h
  obtain ⟨c1, -, c3⟩ := c
  refine ⟨fun i hi => ?_, by rw [c1]; exact h2, by rw [c1]; exact h3, fun j hj => ?_, ?_, ?_, fun t ht => ?_⟩
  · rw [c3 59 i (by decide) (by decide) (by omega)]; exact h1 i hi
  · rw [c3 62 j (by decide) (by decide) (by omega)]; exact h4 j hj
  · rw [S8_congr (σ := σ) (τ := τ) (fun j => c3 _ j (by omega) (by omega) (by omega)) (fun j => c3 _ j (by omega) (by omega) (by omega))]; exact h5
  · rw [c3 60 7 (by decide) (by decide) (by omega)]; exact h6
  · rw [c3 64 t (by decide) (by decide) (by omega)]; exact h7 t ht
theorem SS.pl {A B : Nat → Int32} {fl : Int32 → Int32} {s : Int32} {q v : Nat} {σ : Sto} (h : SS A B fl s q σ) (h63 : ∀ i, i < 4 → σ.1 63 i = nI (dg v i)) : Eq9 (S8 σ 62) (PL A (pv v)) := by
  intro j hj
  unfold S8 PL
  by_cases h5 : j < 5
  · rw [if_pos h5, if_neg (by omega)]; exact h.2.2.2.1 j h5
  · rw [if_neg h5, if_pos (by omega), pv_dg v (by omega)]; exact h63 (j - 5) (by omega)
theorem BS.ch {σ τ : Sto} {st : Option (Nat × Int32)} (h : BS σ st) (e0 : τ.1 60 0 = σ.1 60 0) (e1 : τ.1 60 1 = σ.1 60 1) (e2 : ∀ i, τ.1 61 i = σ.1 61 i) : BS τ st := by
  refine ⟨fun z => by rw [e0]; exact h.1 z, fun x hx => ?_⟩
  obtain ⟨b1, b2, b3⟩ := h.2 x hx
  exact ⟨by rw [e0]; exact b1, by rw [e1]; exact b2, fun i hi => by rw [e2]; exact b3 i hi⟩
theorem deref5 {β : Type} (f : Nat → Option β) : deref 5 (some 58) f = f 58 := rfl
theorem mins8 {σ : Sto} {A B : Nat → Int32} {fl : Int32 → Int32} {s : Int32} {q v m : Nat} {st : Option (Nat × Int32)} (hq : q < 8) (gA : GR A) (hS : SS A B fl s q σ) (h63 : ∀ i, i < 4 → σ.1 63 i = nI (dg v i)) (hb : BS σ st) (hm : m ≤ 60) (rec : Nat → Int32 → Int32 → Sto → Option Sto) (K : Int32 → Sto → Option Sto) (v1 v2 : Int32) (v3 : Bool) (v4 : Int32) : ∀ (d n t : Nat), t + d = m → d < n →
    (∃ u τ, t ≤ u ∧ u < m ∧ mtT (PL A (pv v)) B fl s u = true ∧ (∀ w, t ≤ w → w < u → mtT (PL A (pv v)) B fl s w = false) ∧ f_X2_tryLanes_L101 rec K v1 v2 v3 v4 (nI m) n (pPos (PL A (pv v)) fl t) false (nI t) σ = f_X2_tryLanes_L146 rec K v1 v2 v3 v4 (pPos (PL A (pv v)) fl (u + 1)) true τ ∧ BS τ (tkB (A 2) v (metP (PL A (pv v)) B fl u) st) ∧ Ch 4 σ τ) ∨
    ((∀ w, t ≤ w → w < m → mtT (PL A (pv v)) B fl s w = false) ∧ f_X2_tryLanes_L101 rec K v1 v2 v3 v4 (nI m) n (pPos (PL A (pv v)) fl t) false (nI t) σ = f_X2_tryLanes_L146 rec K v1 v2 v3 v4 (pPos (PL A (pv v)) fl m) false σ) := by
  have eX := hS.pl h63
  have gX : GR (PL A (pv v)) := gA.pl2 (fun i _ => pv_ok v i)
  have e2 : PL A (pv v) 2 = A 2 := PL_lo (by omega)
  obtain ⟨hF, r5, r6, -, eB, s7, h64⟩ := hS
  generalize PL A (pv v) = X at *
  intro d
  induction d with
  | zero =>
    intro n t h1 h2
    obtain ⟨n, rfl⟩ : ∃ n', n = n' + 1 := ⟨n - 1, by omega⟩
    obtain rfl : t = m := by omega
    refine Or.inr ⟨fun w _ _ => by omega, ?_⟩
    rw [f_X2_tryLanes_L101, if_pos (nI_le (Nat.le_refl _) (by omega))]
  | succ d ih =>
    intro n t h1 h2
    obtain ⟨n, rfl⟩ : ∃ n', n = n' + 1 := ⟨n - 1, by omega⟩
    have ht : t < 60 := by omega
    obtain ⟨τ, t1, t2, t3, t4, t5⟩ := meetsAt8 hq ht r6 eX eB s7 (h64 t ht) h63 hb
    have step : f_X2_tryLanes_L101 rec K v1 v2 v3 v4 (nI m) (n + 1) (pPos X fl t) false (nI t) σ = f_X2_tryLanes_L101 rec K v1 v2 v3 v4 (nI m) n (pPos X fl (t + 1)) (mtT X B fl s t) (nI (t + 1)) τ := by
      rw [f_X2_tryLanes_L101, if_neg (nI_ge (by omega) (by omega)), if_neg (by decide), r5, nmR_b, deref5, next8 (k := 62) (by decide) (eX.gr gX) hF _ ht, bind_s, eX.go, ← pPos, t1, bind_s, nI_1]
    rw [step]
    cases hmt : mtT X B fl s t with
    | true =>
      refine Or.inl ⟨t, τ, Nat.le_refl _, by omega, hmt, fun w _ _ => by omega, ?_, ?_, t4, fun i hi => t5 63 i (by decide) (by omega), fun a b x _ z => t5 a b x z⟩
      · obtain ⟨n, rfl⟩ : ∃ n', n = n' + 1 := ⟨n - 1, by omega⟩
        rw [f_X2_tryLanes_L101]
        by_cases h : nI m ≤ nI (t + 1)
        · rw [if_pos h]
        · rw [if_neg h, if_pos rfl]
      · rw [← e2]; exact t2 hmt
    | false =>
      rw [t3 hmt]
      rcases ih n (t + 1) (by omega) (by omega) with ⟨u, υ, u1, u2, u3, u4, u5, u6, u7⟩ | ⟨u1, u2⟩
      · refine Or.inl ⟨u, υ, by omega, u2, u3, fun w w1 w2 => ?_, u5, u6, u7⟩
        by_cases hw : w = t
        · rw [hw]; exact hmt
        · exact u4 w (by omega) w2
      · refine Or.inr ⟨fun w w1 w2 => ?_, u2⟩
        by_cases hw : w = t
        · rw [hw]; exact hmt
        · exact u1 w (by omega) w2
/-! The lanes of a part, and the parts. -/
theorem dg0 (v : Nat) : dg v 0 = v / 216 % 6 := rfl
theorem dg1 (v : Nat) : dg v 1 = v / 36 % 6 := rfl
theorem dg2 (v : Nat) : dg v 2 = v / 6 % 6 := rfl
theorem dg3 (v : Nat) : dg v 3 = v % 6 := rfl
theorem dg_set (k : Nat) (hk : k < 4) (a : Nat) (ha : a < 1296) (hak : a % 6 ^ (4 - k) = 0) (l : Nat) (hl : l < 6) : a + l * 6 ^ (3 - k) < 1296 ∧ (a + l * 6 ^ (3 - k)) % 6 ^ (3 - k) = 0 ∧ ∀ i, i < 4 → dg (a + l * 6 ^ (3 - k)) i = if i < k then dg a i else if i = k then l else 0 := by
  rcases (show k = 0 ∨ k = 1 ∨ k = 2 ∨ k = 3 by omega) with rfl | rfl | rfl | rfl
  · rw [show 6 ^ (4 - 0) = 1296 by decide] at hak
    rw [show 6 ^ (3 - 0) = 216 by decide]
    refine ⟨by omega, by omega, fun i hi => ?_⟩
    rcases (show i = 0 ∨ i = 1 ∨ i = 2 ∨ i = 3 by omega) with rfl | rfl | rfl | rfl <;> (first | rw [dg0] | rw [dg1] | rw [dg2] | rw [dg3]) <;> first | (rw [if_pos (by omega)]; (first | rw [dg0] | rw [dg1] | rw [dg2]); omega) | (rw [if_neg (by omega), if_pos (by omega)]; omega) | (rw [if_neg (by omega), if_neg (by omega)]; omega)
  · rw [show 6 ^ (4 - 1) = 216 by decide] at hak
    rw [show 6 ^ (3 - 1) = 36 by decide]
    refine ⟨by omega, by omega, fun i hi => ?_⟩
    rcases (show i = 0 ∨ i = 1 ∨ i = 2 ∨ i = 3 by omega) with rfl | rfl | rfl | rfl <;> (first | rw [dg0] | rw [dg1] | rw [dg2] | rw [dg3]) <;> first | (rw [if_pos (by omega)]; (first | rw [dg0] | rw [dg1] | rw [dg2]); omega) | (rw [if_neg (by omega), if_pos (by omega)]; omega) | (rw [if_neg (by omega), if_neg (by omega)]; omega)
  · rw [show 6 ^ (4 - 2) = 36 by decide] at hak
    rw [show 6 ^ (3 - 2) = 6 by decide]
    refine ⟨by omega, by omega, fun i hi => ?_⟩
    rcases (show i = 0 ∨ i = 1 ∨ i = 2 ∨ i = 3 by omega) with rfl | rfl | rfl | rfl <;> (first | rw [dg0] | rw [dg1] | rw [dg2] | rw [dg3]) <;> first | (rw [if_pos (by omega)]; (first | rw [dg0] | rw [dg1] | rw [dg2]); omega) | (rw [if_neg (by omega), if_pos (by omega)]; omega) | (rw [if_neg (by omega), if_neg (by omega)]; omega)
  · rw [show 6 ^ (4 - 3) = 6 by decide] at hak
    rw [show 6 ^ (3 - 3) = 1 by decide]
    refine ⟨by omega, by omega, fun i hi => ?_⟩
    rcases (show i = 0 ∨ i = 1 ∨ i = 2 ∨ i = 3 by omega) with rfl | rfl | rfl | rfl <;> (first | rw [dg0] | rw [dg1] | rw [dg2] | rw [dg3]) <;> first | (rw [if_pos (by omega)]; (first | rw [dg0] | rw [dg1] | rw [dg2]); omega) | (rw [if_neg (by omega), if_pos (by omega)]; omega) | (rw [if_neg (by omega), if_neg (by omega)]; omega)
theorem dg_blk (k : Nat) (hk : k < 4) (b : Nat) (_ : b < 1296) (hb : b % 6 ^ (3 - k) = 0) (x : Nat) (hx : x < 6 ^ (3 - k)) (i : Nat) (hi : i < k + 1) : dg (b + x) i = dg b i := by
  rcases (show k = 0 ∨ k = 1 ∨ k = 2 ∨ k = 3 by omega) with rfl | rfl | rfl | rfl
  · rw [show 6 ^ (3 - 0) = 216 by decide] at hb hx
    obtain rfl : i = 0 := by omega
    simp only [dg0]; omega
  · rw [show 6 ^ (3 - 1) = 36 by decide] at hb hx
    rcases (show i = 0 ∨ i = 1 by omega) with rfl | rfl <;> simp only [dg0, dg1] <;> omega
  · rw [show 6 ^ (3 - 2) = 6 by decide] at hb hx
    rcases (show i = 0 ∨ i = 1 ∨ i = 2 by omega) with rfl | rfl | rfl <;> simp only [dg0, dg1, dg2] <;> omega
  · rw [show 6 ^ (3 - 3) = 1 by decide] at hx
    obtain rfl : x = 0 := by omega
    rfl
theorem part_n : ∀ k, k < 4 → (nI k * 10 : Int32) = nI (10 * k) ∧ ((nI k + 1) * 10 : Int32) = nI (10 * (k + 1)) := by decide +kernel
/-- a part's lanes tried: what the search of a part answers for -/
def TL (A B : Nat → Int32) (fl : Int32 → Int32) (s : Int32) (q : Nat) (rec : Nat → Int32 → Int32 → Sto → Option Sto) (k : Nat) : Prop := ∀ (a : Nat) (σ : Sto) (st : Option (Nat × Int32)), a < 1296 → a % 6 ^ (4 - k) = 0 → SS A B fl s q σ → BS σ st → (∀ i, i < k → σ.1 63 i = nI (dg a i)) → (∀ w, w < 10 * k → mtT (PL A (pv a)) B fl s w = false) →
  ∃ τ, rec 0 (nI k) (pPos (PL A (pv a)) fl (10 * k)) σ = some τ ∧ BS τ (bpN A B fl s a (6 ^ (4 - k)) st) ∧ Ch k σ τ
theorem lane_one {A B : Nat → Int32} {fl : Int32 → Int32} {s : Int32} {q k a l : Nat} (hq : q < 8) (gA : GR A) (hk : k < 4) {rec : Nat → Int32 → Int32 → Sto → Option Sto} (hrec : k < 3 → TL A B fl s q rec (k + 1)) (ha : a < 1296) (hak : a % 6 ^ (4 - k) = 0) (hl : l < 6) (K : Int32 → Sto → Option Sto) {σ : Sto} {st : Option (Nat × Int32)} (hS : SS A B fl s q σ) (hb : BS σ st) (h63 : ∀ i, i < k → σ.1 63 i = nI (dg a i)) (hn : ∀ w, w < 10 * k → mtT (PL A (pv a)) B fl s w = false) :
    ∃ τ, f_X2_tryLanes_L65 rec K (nI k) (pPos (PL A (pv a)) fl (10 * k)) (decide (k = 3)) (nI l) σ = K (nI l + 1) τ ∧ BS τ (bpN A B fl s (a + l * 6 ^ (3 - k)) (6 ^ (3 - k)) st) ∧ Ch k σ τ := by
  obtain ⟨b1, b2, b3⟩ := dg_set k hk a ha hak l hl
  have b4 := dg_blk k hk (a + l * 6 ^ (3 - k)) b1 b2
  have pN : 0 < 6 ^ (3 - k) := Nat.pow_pos (by omega)
  have low : ∀ i, i < k → pv a i = pv (a + l * 6 ^ (3 - k)) i := fun i hi => by rw [pv_dg _ (by omega), pv_dg _ (by omega), b3 i (by omega), if_pos hi]
  have eP := pPos_pl (A := A) (f := pv a) (g := pv (a + l * 6 ^ (3 - k))) (by omega) low fl (10 * k) (Nat.le_refl _)
  have hn' : ∀ w, w < 10 * k → mtT (PL A (pv (a + l * 6 ^ (3 - k)))) B fl s w = false := fun w hw => by rw [← mtT_pl (f := pv a) (by omega) low fl s hw]; exact hn w hw
  obtain ⟨ρ, r1, r2, r3, r4⟩ := setLane8 σ (l := l) hk
  have ρ63 : ∀ i, i < 4 → ρ.1 63 i = nI (dg (a + l * 6 ^ (3 - k)) i) := by
    intro i hi
    rw [r2 i, b3 i hi]
    by_cases h : i < k
    · rw [if_neg (by omega), if_pos h]; exact h63 i h
    · rw [if_pos (by omega), if_neg h]
      by_cases h' : i = k
      · rw [if_pos h', if_pos h']
      · rw [if_neg h', if_neg h']; rfl
  have cρ : Ch k σ ρ := ⟨r4, fun i hi => by rw [r2 i, if_neg (by omega)], fun x y _ h2 _ => r3 x y h2⟩
  generalize hB : a + l * 6 ^ (3 - k) = b at *
  have hSρ := hS.ch hq cρ
  have hbρ : BS ρ st := hb.ch (r3 _ _ (by decide)) (r3 _ _ (by decide)) (fun i => r3 _ _ (by decide))
  obtain ⟨p1, p2⟩ := part_n k hk
  obtain ⟨m, hm, hm60, hm3⟩ : ∃ m, m = (if k = 3 then 60 else 10 * (k + 1)) ∧ m ≤ 60 ∧ 10 * k ≤ m := ⟨_, rfl, by split <;> omega, by split <;> omega⟩
  have go : f_X2_tryLanes_L65 rec K (nI k) (pPos (PL A (pv a)) fl (10 * k)) (decide (k = 3)) (nI l) σ = f_X2_tryLanes_L101 rec K (nI k) (pPos (PL A (pv b)) fl (10 * k)) (decide (k = 3)) (nI l) (nI m) FU (pPos (PL A (pv b)) fl (10 * k)) false (nI (10 * k)) ρ := by
    unfold f_X2_tryLanes_L65 f_X2_tryLanes_L93
    rw [r1, bind_s, eP, p1, p2, hm]
    by_cases h3 : k = 3
    · rw [if_pos (decide_eq_true h3), if_pos h3]; rfl
    · rw [if_neg (by rw [decide_eq_false h3]; decide), if_neg h3]
  rw [go]
  rcases mins8 hq gA hSρ ρ63 hbρ hm60 rec K (nI k) (pPos (PL A (pv b)) fl (10 * k)) (decide (k = 3)) (nI l) (m - 10 * k) FU (10 * k) (by omega) (by unfold FU; omega) with ⟨u, τ, u1, u2, u3, u4, u5, u6, u7⟩ | ⟨u1, u2⟩
  · refine ⟨τ, ?_, ?_, cρ.tr (u7.lo (by omega))⟩
    · rw [u5, f_X2_tryLanes_L146, if_pos rfl]; rfl
    · have hw4 : ∀ w, w < u → mtT (PL A (pv b)) B fl s w = false := fun w hw => by
        by_cases h : w < 10 * k
        · exact hn' w h
        · exact u4 w (by omega) hw
      obtain ⟨N, hN⟩ : ∃ N, 6 ^ (3 - k) = N + 1 := ⟨6 ^ (3 - k) - 1, by omega⟩
      rw [hN, blk_some (u := u) (P := metP (PL A (pv b)) B fl u)]
      · exact u6
      · intro w w1 w2
        by_cases h3 : k = 3
        · have hw : w = b := by
            subst h3
            rw [show 6 ^ (3 - 3) = 1 by decide] at hN
            omega
          subst hw
          exact ⟨met_some (by omega) u3 hw4, rfl⟩
        · have hx := b4 (w - b) (by omega)
          rw [show b + (w - b) = w by omega] at hx
          rw [if_neg h3] at hm
          exact met_pl (f := pv b) (g := pv w) (k := k + 1) (by omega) (fun i hi => by rw [pv_dg _ (by omega), pv_dg _ (by omega), hx i hi]) fl s (by omega) (by omega) u3 hw4
  · by_cases h3 : k = 3
    · refine ⟨ρ, ?_, ?_, cρ⟩
      · rw [u2, f_X2_tryLanes_L146, if_neg (by decide), if_pos (decide_eq_true h3)]; rfl
      · rw [blk_none]
        · exact hbρ
        · intro w w1 w2
          have hw : w = b := by
            subst h3
            rw [show 6 ^ (3 - 3) = 1 by decide] at w2
            omega
          subst hw
          rw [if_pos h3] at hm
          exact met_none (fun t ht => by
            by_cases h : t < 10 * k
            · exact hn' t h
            · exact u1 t (by omega) (by omega))
    · rw [if_neg h3] at hm
      subst hm
      obtain ⟨τ, t1, t2, t3⟩ := hrec (by omega) b ρ st b1 (by rw [show 4 - (k + 1) = 3 - k by omega]; exact b2) hSρ hbρ (fun i hi => ρ63 i (by omega)) (fun w hw => by
        by_cases h : w < 10 * k
        · exact hn' w h
        · exact u1 w (by omega) hw)
      rw [show 4 - (k + 1) = 3 - k by omega] at t2
      refine ⟨τ, ?_, t2, cρ.tr (t3.lo (by omega))⟩
      rw [u2, f_X2_tryLanes_L146, if_neg (by decide), if_neg (by rw [decide_eq_false h3]; decide), nI_1, t1, bind_s]
      rfl
/-- in the last part a lane unlike the other's is passed over -/
theorem lane_not {A B : Nat → Int32} {fl : Int32 → Int32} {s : Int32} {a l : Nat} (ha : a < 1296) (hl : l < 6) (ha6 : a % 6 = 0) (hne : ¬ nI l = B 8) (hn : ∀ w, w < 30 → mtT (PL A (pv a)) B fl s w = false) (st : Option (Nat × Int32)) : bpN A B fl s (a + l) 1 st = st := by
  obtain ⟨b1, b2, b3⟩ := dg_set 3 (by decide) a ha (by rw [show 6 ^ (4 - 3) = 6 by decide]; exact ha6) l hl
  rw [show 6 ^ (3 - 3) = 1 by decide, Nat.mul_one] at b1 b3
  refine blk_none 1 (a + l) st (fun w w1 w2 => ?_)
  obtain rfl : w = a + l := by omega
  refine met_none (fun t ht => ?_)
  by_cases h : t < 30
  · rw [← mtT_pl (f := pv a) (k := 3) (by omega) (fun i hi => by rw [pv_dg _ (by omega), pv_dg _ (by omega), b3 i (by omega), if_pos hi]) fl s (by omega)]
    exact hn t h
  · unfold mtT
    rw [PL_ln, show min 3 (t / 10) = 3 by omega, pv_dg _ (by omega), b3 3 (by omega), if_neg (by omega), if_pos rfl, show pLn B t = B 8 by unfold pLn; rw [show min 3 (t / 10) = 3 by omega], decide_eq_false hne, Bool.false_and]
theorem laneOf8 {σ : Sto} {k : Nat} (hk : K0 k = 6) {i : Nat} (hi : i < 4) : f_X6_laneOf σ k (nI i) = some (S8 σ k (5 + i)) := by
  obtain ⟨A, Ln, -⟩ := sw6 hk
  unfold f_X6_laneOf S8
  rw [if_neg (nI_pos (by omega)), if_pos (show nI i < 4 from nI_lt (b := 4) hi (by omega)), A, rd_nI (by rw [Ln]; omega), bind_s, if_neg (by omega), show 5 + i - 5 = i by omega]
theorem lanes8 {A B : Nat → Int32} {fl : Int32 → Int32} {s : Int32} {q k a : Nat} (hq : q < 8) (gA : GR A) (hk : k < 4) {rec : Nat → Int32 → Int32 → Sto → Option Sto} (hrec : k < 3 → TL A B fl s q rec (k + 1)) (ha : a < 1296) (hak : a % 6 ^ (4 - k) = 0) (hn : ∀ w, w < 10 * k → mtT (PL A (pv a)) B fl s w = false) : ∀ (d n : Nat) (σ : Sto) (st : Option (Nat × Int32)), d ≤ 6 → d < n → SS A B fl s q σ → BS σ st → (∀ i, i < k → σ.1 63 i = nI (dg a i)) →
    ∃ τ, f_X2_tryLanes_L38 rec (nI k) (pPos (PL A (pv a)) fl (10 * k)) (decide (k = 3)) n (nI (6 - d)) σ = some τ ∧ BS τ (bpN A B fl s (a + (6 - d) * 6 ^ (3 - k)) (d * 6 ^ (3 - k)) st) ∧ Ch k σ τ := by
  intro d
  induction d with
  | zero =>
    intro n σ st _ h2 hS hb _
    obtain ⟨n, rfl⟩ : ∃ n', n = n' + 1 := ⟨n - 1, by omega⟩
    rw [f_X2_tryLanes_L38, if_pos (by decide), Nat.zero_mul, bpN]
    exact ⟨σ, rfl, hb, Ch.rf k σ⟩
  | succ d ih =>
    intro n σ st h1 h2 hS hb h63
    obtain ⟨n, rfl⟩ : ∃ n', n = n' + 1 := ⟨n - 1, by omega⟩
    obtain ⟨l, hl, hl1, hl2⟩ : ∃ l, l < 6 ∧ 6 - (d + 1) = l ∧ 6 - d = l + 1 := ⟨5 - d, by omega, by omega, by omega⟩
    have hsum : a + (l + 1) * 6 ^ (3 - k) = a + l * 6 ^ (3 - k) + 6 ^ (3 - k) := by rw [Nat.succ_mul, Nat.add_assoc]
    rw [hl1, show (d + 1) * 6 ^ (3 - k) = 6 ^ (3 - k) + d * 6 ^ (3 - k) by rw [Nat.succ_mul, Nat.add_comm], bpN_add, ← hsum]
    have nx : ∀ τ, BS τ (bpN A B fl s (a + l * 6 ^ (3 - k)) (6 ^ (3 - k)) st) → Ch k σ τ → ∃ υ, f_X2_tryLanes_L38 rec (nI k) (pPos (PL A (pv a)) fl (10 * k)) (decide (k = 3)) n (nI l + 1) τ = some υ ∧ BS υ (bpN A B fl s (a + (l + 1) * 6 ^ (3 - k)) (d * 6 ^ (3 - k)) (bpN A B fl s (a + l * 6 ^ (3 - k)) (6 ^ (3 - k)) st)) ∧ Ch k σ υ := by
      intro τ t1 t2
      obtain ⟨υ, u1, u2, u3⟩ := ih n τ (bpN A B fl s (a + l * 6 ^ (3 - k)) (6 ^ (3 - k)) st) (by omega) (by omega) (hS.ch hq t2) t1 (fun i hi => by rw [t2.2.1 i hi]; exact h63 i hi)
      rw [hl2] at u1 u2
      rw [nI_1]
      exact ⟨υ, u1, u2, t2.tr u3⟩
    obtain ⟨τ, t1, t2, t3⟩ := lane_one (l := l) hq gA hk hrec ha hak hl (f_X2_tryLanes_L38 rec (nI k) (pPos (PL A (pv a)) fl (10 * k)) (decide (k = 3)) n) hS hb h63 hn
    rw [f_X2_tryLanes_L38, if_neg (show ¬ (6 : Int32) ≤ nI l from nI_ge (b := 6) hl (by omega))]
    by_cases h3 : k = 3
    · rw [if_pos (decide_eq_true h3), hS.2.2.1, nmR_b, deref6 (K12 q hq), laneOf8 (K12 q hq) hk, bind_s, hS.2.2.2.2.1 (5 + k) (by omega)]
      by_cases he : nI l = B (5 + k)
      · rw [if_pos he, t1]
        exact nx τ t2 t3
      · rw [if_neg he]
        have hN : 6 ^ (3 - k) = 1 := by rw [h3]
        have hz : bpN A B fl s (a + l * 6 ^ (3 - k)) (6 ^ (3 - k)) st = st := by
          rw [hN, Nat.mul_one]
          exact lane_not ha hl (by rw [h3] at hak; exact hak) (by rw [h3] at he; exact he) (by rw [h3] at hn; exact hn) st
        exact nx σ (by rw [hz]; exact hb) (Ch.rf k σ)
    · rw [if_neg (by rw [decide_eq_false h3]; decide), t1]
      exact nx τ t2 t3
theorem try8 {A B : Nat → Int32} {fl : Int32 → Int32} {s : Int32} {q : Nat} (hq : q < 8) (gA : GR A) : ∀ (e k D : Nat), k + e = 3 → e < D → TL A B fl s q (g_X2_tryLanes D) k := by
  intro e
  induction e with
  | zero =>
    intro k D hk hD a σ st ha hak hS hb h63 hn
    obtain ⟨D, rfl⟩ : ∃ n', D = n' + 1 := ⟨D - 1, by omega⟩
    obtain ⟨τ, t1, t2, t3⟩ := lanes8 (rec := g_X2_tryLanes D) hq gA (by omega) (fun h => by omega) ha hak hn 6 FU σ st (by omega) (by unfold FU; omega) hS hb h63
    refine ⟨τ, ?_, ?_, t3⟩
    · rw [g_X2_tryLanes]
      unfold b_X2_tryLanes f_X2_tryLanes_L34
      rw [out_eq, bind_s, show isO (nI k) 0 3 = false from isO_lit (n := 3) (by omega) (by omega), if_neg (by decide), hS.2.1, nmR_b, onN_1, hS.2.2.1, nmR_b, onN_1, if_pos (by rw [show k = 3 by omega]; rfl), ← t1, decide_eq_true (show k = 3 by omega)]
      rfl
    · rw [show 6 ^ (4 - k) = 6 * 6 ^ (3 - k) by rw [show k = 3 by omega]]
      have t2' := t2
      rw [show a + (6 - 6) * 6 ^ (3 - k) = a by omega] at t2'
      exact t2'
  | succ e ih =>
    intro k D hk hD a σ st ha hak hS hb h63 hn
    obtain ⟨D, rfl⟩ : ∃ n', D = n' + 1 := ⟨D - 1, by omega⟩
    obtain ⟨τ, t1, t2, t3⟩ := lanes8 (rec := g_X2_tryLanes D) hq gA (by omega) (fun h => ih (k + 1) D (by omega) (by omega)) ha hak hn 6 FU σ st (by omega) (by unfold FU; omega) hS hb h63
    refine ⟨τ, ?_, ?_, t3⟩
    · rw [g_X2_tryLanes]
      unfold b_X2_tryLanes f_X2_tryLanes_L34
      rw [out_eq, bind_s, show isO (nI k) 0 3 = false from isO_lit (n := 3) (by omega) (by omega), if_neg (by decide), hS.2.1, nmR_b, onN_1, hS.2.2.1, nmR_b, onN_1, if_neg (nI_ne (3 : Int32) 3 rfl (by omega) (by omega) (by omega)), ← t1, decide_eq_false (show ¬ k = 3 by omega)]
      rfl
    · rw [show 6 ^ (4 - k) = 6 * 6 ^ (3 - k) by rw [show 4 - k = (3 - k) + 1 by omega, Nat.pow_succ, Nat.mul_comm]]
      have t2' := t2
      rw [show a + (6 - 6) * 6 ^ (3 - k) = a by omega] at t2'
      exact t2'
/-! The search from its beginning. -/
theorem cpA_r {σ τ : Sto} {a b : Nat} {i j n : Int32} (h : cpA σ a i b j n = some τ) : τ.2 = σ.2 := by
  unfold cpA at h
  split at h
  · cases h; rfl
  · cases h
theorem bind_r {x : Option Sto} {σ τ : Sto} (h : x.bind (fun σ51 => some σ51) = some τ) (hx : ∀ υ, x = some υ → υ.2 = σ.2) : τ.2 = σ.2 := by
  cases x with
  | none => cases h
  | some υ => cases h; exact hx _ rfl
theorem copy6_r {σ τ : Sto} {t k : Nat} (h : f_X6_copy σ t k = some τ) : τ.2 = σ.2 := by
  unfold f_X6_copy at h
  simp only [lp_b] at h
  exact bind_r h (fun υ hυ => (cpA_r hυ).trans rfl)
theorem seek_L {B : Nat → Int32} {fl : Int32 → Int32} {q : Nat} (hq : q < 8) (gB : GR B) : ∀ (d n t : Nat) (σ : Sto), t + d = 60 → d < n → Fl σ fl → Eq9 (S8 σ (12 + 2 * q)) B → (∀ w, w < t → σ.1 64 w = pPos B fl (w + 1)) →
    ∃ τ, f_X2_seek_L43 (12 + 2 * q) n (pPos B fl t) (nI t) σ = (f_X6_shore τ 62).bind (fun r85 => (g_X2_tryLanes 8 0 (0 : Int32) r85 τ).bind (fun r88 => some r88)) ∧ τ.2 = σ.2 ∧ (∀ w, w < 60 → τ.1 64 w = pPos B fl (w + 1)) ∧ ∀ a b, a ≠ 64 → τ.1 a b = σ.1 a b := by
  intro d
  induction d with
  | zero =>
    intro n t σ h1 h2 _ _ h64
    obtain ⟨n, rfl⟩ : ∃ n', n = n' + 1 := ⟨n - 1, by omega⟩
    obtain rfl : t = 60 := by omega
    refine ⟨σ, ?_, rfl, h64, fun _ _ _ => rfl⟩
    rw [f_X2_seek_L43, if_pos (show (60 : Int32) ≤ nI 60 by decide)]
  | succ d ih =>
    intro n t σ h1 h2 hF hB h64
    obtain ⟨n, rfl⟩ : ∃ n', n = n' + 1 := ⟨n - 1, by omega⟩
    have ht : t < 60 := by omega
    have o : ∀ a b, a ≠ 64 → (sI σ 64 t (pPos B fl (t + 1))).1 a b = σ.1 a b := fun a b h => sI_ne h
    obtain ⟨τ, t1, t2, t3, t4⟩ := ih n (t + 1) (sI σ 64 t (pPos B fl (t + 1))) (by omega) (by omega) (fun i hi => by rw [o 59 i (by decide)]; exact hF i hi) (by rw [S8_congr (fun j => o _ j (by omega)) (fun j => o _ j (by omega))]; exact hB) (fun w hw => by
      rw [sI_at]
      by_cases h : w = t
      · rw [if_pos h, h]
      · rw [if_neg h]; exact h64 w (by omega))
    refine ⟨τ, ?_, t2, t3, fun a b h => by rw [t4 a b h, o a b h]⟩
    rw [f_X2_seek_L43, if_neg (show ¬ (60 : Int32) ≤ nI t from nI_ge (b := 60) ht (by omega)), next8 (K12 q hq) (hB.gr gB) hF _ ht, bind_s, hB.go, ← pPos, wr_nI (by show t < 60; exact ht), bind_s, nI_1, t1]
theorem seek8 {σ : Sto} {A B : Nat → Int32} {fl : Int32 → Int32} (s : Int32) {p q : Nat} (hp : p < 8) (hq : q < 8) (gA : GR A) (gB : GR B) (hF : Fl σ fl) (hA : Eq9 (S8 σ (12 + 2 * p)) A) (hB : Eq9 (S8 σ (12 + 2 * q)) B) :
    ∃ τ, f_X2_seek σ (12 + 2 * p) (12 + 2 * q) s = some τ ∧ BS τ (bpN A B fl s 0 1296 none) ∧ ∀ a b, a ≠ 60 → a ≠ 61 → a ≠ 62 → a ≠ 63 → a ≠ 64 → τ.1 a b = σ.1 a b := by
  generalize hα : sI (sI (sI (sR (sR σ 60 5 (some 58)) 60 6 (some (12 + 2 * q))) 60 7 s) 60 0 0) 60 1 0 = α
  have a1 : ∀ a b, a ≠ 60 → α.1 a b = σ.1 a b := fun a b h => by rw [← hα, sI_ne h, sI_ne h, sI_ne h]; rfl
  have a2 : α.1 60 0 = 0 := by rw [← hα, sI_nj (by decide), sI_at, if_pos rfl]
  have a7 : α.1 60 7 = s := by rw [← hα, sI_nj (by decide), sI_nj (by decide), sI_at, if_pos rfl]
  have a5 : α.2 60 5 = some 58 ∧ α.2 60 6 = some (12 + 2 * q) := by rw [← hα]; exact ⟨rfl, rfl⟩
  obtain ⟨β, b1, b2, b3⟩ := copy6g α (t := 62) (k := 12 + 2 * p) (by decide) (K12 p hp) (by omega)
  have b4 : β.2 = α.2 := copy6_r b1
  have eB : Eq9 (S8 β (12 + 2 * q)) B := by
    rw [S8_congr (fun j => b3 _ j (by omega) (by omega)) (fun j => b3 _ j (by omega) (by omega)), S8_congr (fun j => a1 _ j (by omega)) (fun j => a1 _ j (by omega))]
    exact hB
  have eA : Eq9 (S8 β 62) A := b2.tr (by
    rw [S8_congr (fun j => a1 _ j (by omega)) (fun j => a1 _ j (by omega))]
    exact hA)
  have hFβ : Fl β fl := fun i hi => by rw [b3 59 i (by decide) (by decide), a1 59 i (by decide)]; exact hF i hi
  obtain ⟨γ, c1, c2, c3, c4⟩ := seek_L (fl := fl) hq gB 60 FU 0 β (by omega) (by unfold FU; omega) hFβ eB (fun w hw => by omega)
  have eA' : ∀ j, j < 5 → γ.1 62 j = A j := fun j hj => by
    rw [c4 62 j (by decide)]
    have h := eA j (by omega)
    unfold S8 at h
    rw [if_pos hj] at h
    exact h
  have hS : SS A B fl s q γ := ⟨fun i hi => by rw [c4 59 i (by decide)]; exact hFβ i hi, by rw [c2, b4]; exact a5.1, by rw [c2, b4]; exact a5.2, eA', by rw [S8_congr (fun j => c4 _ j (by omega)) (fun j => c4 _ j (by omega))]; exact eB, by rw [c4 60 7 (by decide), b3 60 7 (by decide) (by decide)]; exact a7, c3⟩
  have hb : BS γ none := ⟨fun _ => by rw [c4 60 0 (by decide), b3 60 0 (by decide) (by decide)]; exact a2, fun x hx => by cases hx⟩
  obtain ⟨δ, d1, d2, d3⟩ := try8 hq gA 3 0 8 (by omega) (by omega) 0 γ none (by omega) (by decide) hS hb (fun i hi => by omega) (fun w hw => by omega)
  have e0 : pPos (PL A (pv 0)) fl (10 * 0) = pPos A fl 0 := by
    rw [show 10 * 0 = 0 by omega, pPos, pPos, PL_lo (by omega)]
  have esh : f_X6_shore γ 62 = some (pPos A fl 0) := by
    rw [shore8 (fl := fl), pPos, pPos, show S8 γ 62 2 = A 2 from eA' 2 (by omega)]
  refine ⟨δ, ?_, d2, fun a b h0 h1 h2 h3 h4 => by rw [d3.2.2 a b h1 h3 (fun z => h0 z.1), c4 a b h4, b3 a b h2 h3, a1 a b h0]⟩
  unfold f_X2_seek
  simp only [lp_b]
  rw [hα, b1, bind_s, shore8 (fl := fl), bind_s, eB.pos, show (0 : Int32) = nI 0 from rfl, c1, esh, bind_s]
  rw [e0] at d1
  rw [show (0 : Int32) = nI 0 from rfl, d1, bind_s]
/-! bestPlan, by class and by reference. -/
theorem isO_m1 {a : Int32} (h : isO a (-1) 3 = false) : a = -1 ∨ ∃ i, i < 4 ∧ a = nI i := by
  obtain ⟨h1, h2⟩ := isO_f h
  by_cases hn : a < 0
  · left
    rw [Int32.lt_iff_toInt_lt] at hn
    rw [Int32.le_iff_toInt_le] at h1
    rw [show (0 : Int32).toInt = 0 by decide] at hn
    rw [show (-1 : Int32).toInt = -1 by decide] at h1
    rw [← Int32.toInt_inj, show (-1 : Int32).toInt = -1 by decide]
    omega
  · right
    obtain ⟨j, hj, e⟩ := isO_nI (n := 3) (v := a) (h := 3) rfl (by
      unfold isO
      rw [decide_eq_false hn, decide_eq_false (Int32.not_lt.mpr h2)]
      rfl)
    exact ⟨j, by omega, e⟩
theorem bpN_lt {A B : Nat → Int32} {fl : Int32 → Int32} {s : Int32} : ∀ (n a : Nat) (st : Option (Nat × Int32)), a + n ≤ 1296 → (∀ x, st = some x → x.1 < 1296) → ∀ x, bpN A B fl s a n st = some x → x.1 < 1296 := by
  intro n
  induction n with
  | zero => intro a st _ h x hx; exact h x hx
  | succ n ih =>
    intro a st h1 h x hx
    rw [bpN] at hx
    refine ih (a + 1) _ (by omega) (fun y hy => ?_) x hx
    unfold stB at hy
    cases hm : met (PL A (pv a)) B fl s with
    | none => rw [hm] at hy; exact h y hy
    | some u =>
      rw [hm] at hy
      cases st with
      | none => cases hy; show a < 1296; omega
      | some z =>
        have hy' : (if bt (A 2) (metP (PL A (pv a)) B fl u) z.2 = true then some (a, metP (PL A (pv a)) B fl u) else some z) = some y := hy
        by_cases hb : bt (A 2) (metP (PL A (pv a)) B fl u) z.2 = true
        · rw [if_pos hb] at hy'; cases hy'; show a < 1296; omega
        · rw [if_neg hb] at hy'; cases hy'; exact h _ rfl
def bestS (V : Nat → Int32) (a1 a2 a3 : Int32) : Int32 ⊕ Nat := if unl V a1 a2 = true then (if isO a3 (-1) 3 = true then .inr 1 else outB a3 (bpS (S9 V a1.toNatClampNeg) (S9 V a2.toNatClampNeg) (flV V (V 6)) (V 7) 1296 none)) else .inr 1
theorem best9_W {d : Nat} (hd : d = 1296) {σ0 : Sto} {V : Nat → Int32} (h0 : σ0.1 82 = V) (ok : ∀ i, okv i (V i) = true) (hc : CW V 0) {p q : Nat} (hp : p < 8) (hq : q < 8) (hu : ¬ S9 V p 2 = S9 V q 2) {a3 : Int32} (ha : a3 = -1 ∨ ∃ i, i < 4 ∧ a3 = nI i) {st : Option (Nat × Int32)} (hX : bpS (S9 V p) (S9 V q) (flV V (V 6)) (V 7) d none = st) {σ : Sto} (h : HS σ0 V p p σ) :
    C9 (f_X9_bestPlan_L49 (nI p) (nI q) a3 FU (-1) 0 (nI 0) σ) σ0 (outB a3 st) := by
  have e := best9_L h0 ok hc hp hq hu ha d FU none (-1) 0 σ (by omega) (by unfold FU; omega) (fun _ => rfl) (fun x hx => by cases hx) h
  rw [hX, show 1296 - d = 0 by omega] at e
  exact e
theorem s_bestPlan (a1 a2 a3 : Int32) (b : Bool) : LPr (fun σ => f_X8_bestPlan σ a1 a2 a3) (fun σ => f_X9_bestPlan σ a1 a2 a3) b Inv Inv := by
  refine pr_ro (fun σ => bestS (σ.1 82) a1 a2 a3) (fun σ τ h => by show _ = _; rw [h.d]) (fun σ h => ?_) (fun σ h => ?_) b
  · show C8 (f_X8_bestPlan σ a1 a2 a3) σ (bestS (σ.1 82) a1 a2 a3)
    unfold f_X8_bestPlan bestS
    rcases unl_c h a1 a2 with ⟨hn, ⟨r5, r15, e1, e2, e3⟩, -⟩ | ⟨p, q, hp, hq, hpN, hqN, rfl, rfl, hu, hn, e1, e2, e3, -⟩
    · rw [hn, if_neg (by decide)]
      exact ⟨σ, by rw [e1, bind_s, e2, bind_s, e3, bind_s, if_neg (by decide), r8_1, bind_s], Fr.rf σ⟩
    · rw [hn, if_pos rfl, e1, bind_s, e2, bind_s, e3, bind_s, if_pos rfl, out_eq, bind_s]
      cases h3 : isO a3 (-1) 3 with
      | true =>
        rw [if_pos rfl, if_pos rfl]
        exact ⟨σ, by rw [r8_1, bind_s], Fr.rf σ⟩
      | false =>
        rw [if_neg (by decide), if_neg (by decide), nI_clamp (by omega), nI_clamp (by omega)]
        generalize hX : bpS (S9 (σ.1 82) p) (S9 (σ.1 82) q) (flV (σ.1 82) (σ.1 82 6)) (σ.1 82 7) 1296 none = st
        rw [bpS_N 1296 none (Nat.le_refl _), Nat.sub_self] at hX
        obtain ⟨τ, t1, t2, t3⟩ := feel_eq h.ic (σ.1 1 1)
        have hf : Fl τ (flV (σ.1 82) (σ.1 82 6)) := by rw [← h.mp (i := 6) (j := 1) (by decide)]; exact t2
        have eA : Eq9 (S8 τ (12 + 2 * p)) (S9 (σ.1 82) p) := by rw [swm_fr t3 hp]; exact sw_Eq9 h hpN
        have eB : Eq9 (S8 τ (12 + 2 * q)) (S9 (σ.1 82) q) := by rw [swm_fr t3 hq]; exact sw_Eq9 h hqN
        have e7 : τ.1 1 2 = σ.1 82 7 := by rw [t3 1 2 (by decide) (by decide)]; exact h.mp (i := 7) (j := 2) (by decide)
        obtain ⟨υ, u1, u2, u3⟩ := seek8 (σ.1 82 7) hp hq (gr9 h.ok hp) (gr9 h.ok hq) hf eA eB
        have f : Fr σ υ := (feel_fr t3).tr (fun k j hs => u3 k j (by rintro rfl; simp [scr] at hs) (by rintro rfl; simp [scr] at hs) (by rintro rfl; simp [scr] at hs) (by rintro rfl; simp [scr] at hs) (by rintro rfl; simp [scr] at hs))
        rw [t1, bind_s, deref6 (K12 p hp), deref6 (K12 q hq), e7, u1, bind_s]
        have lt := bpN_lt (A := S9 (σ.1 82) p) (B := S9 (σ.1 82) q) (fl := flV (σ.1 82) (σ.1 82 6)) (s := σ.1 82 7) 1296 0 none (by omega) (fun x hx => by cases hx)
        rw [hX] at u2 lt
        cases st with
        | none =>
          rw [u2.1 rfl, if_pos rfl, r8_2, bind_s]
          exact ⟨υ, rfl, f⟩
        | some x =>
          obtain ⟨w1, w2, w3⟩ := u2.2 x rfl
          rw [if_neg w1]
          show C8 _ σ (.inl (if 0 ≤ a3 then nI (dg x.1 a3.toNatClampNeg) else x.2))
          rcases isO_m1 h3 with rfl | ⟨i, hi, rfl⟩
          · rw [if_neg (by decide), if_neg (by decide), w2]
            exact ⟨υ, rfl, f⟩
          · rw [if_pos (nI_pos' (by omega)), if_pos (nI_pos' (by omega)), nI_clamp (by omega)]
            unfold f_X2_bestLane
            rw [out_eq, bind_s, show isO (nI i) 0 (4 - 1) = false from isO_lit (n := 3) (by omega) (by omega), if_neg (by decide), rd_nI (by show i < 4; exact hi), bind_s, bind_s, w3 i hi]
            exact ⟨υ, rfl, f⟩
  · show C9 (f_X9_bestPlan σ a1 a2 a3) σ (bestS (σ.1 82) a1 a2 a3)
    unfold f_X9_bestPlan bestS
    rcases unl_c h a1 a2 with ⟨hn, -, e3⟩ | ⟨p, q, hp, hq, hpN, hqN, rfl, rfl, hu, hn, -, -, -, e3⟩
    · rw [hn, if_neg (by decide)]
      exact ⟨σ, by rw [e3, bind_s, if_neg (by decide), r9_1, bind_s], Fr.rf σ⟩
    · rw [hn, if_pos rfl, e3, bind_s, if_pos rfl, in_m1_3, bind_s]
      cases h3 : isO a3 (-1) 3 with
      | true =>
        rw [if_neg (by decide), if_pos rfl]
        exact ⟨σ, by rw [r9_1, bind_s], Fr.rf σ⟩
      | false =>
        rw [if_pos (by decide), if_neg (by decide), nI_clamp (by omega), nI_clamp (by omega)]
        generalize hX : bpS (S9 (σ.1 82) p) (S9 (σ.1 82) q) (flV (σ.1 82) (σ.1 82 6)) (σ.1 82 7) 1296 none = st
        obtain ⟨α, a1', a2', a3'⟩ := HS.st (σ := σ) p p
        rw [a1', bind_s]
        exact best9_W rfl rfl h.ok h.cd.1.cw hp hq hu (isO_m1 h3) hX a2'
/-! The law's start, and one call of it. -/
def law_Iv (_ : Nat) (σ : Sto) : Prop := Inv σ
theorem law_steps {L : Nat} (_ : L ≤ 3072) (j : Nat) (_ : 6 * j + 6 ≤ L) : LSt law_eqs (law_Iv j) (law_Iv (j + 1)) :=
  ⟨fun _ h => h, fun a1 a2 => s_current a1 a2 _, fun a1 a2 => s_set a1 a2 _, fun a1 => s_flow a1 _, fun a1 a2 => s_swimmer a1 a2 _, fun a1 a2 => s_ofSwimmer a1 a2 _, fun a1 a2 => s_train a1 a2 _, fun a1 a2 a3 => s_plan a1 a2 a3 _, fun a1 a2 => s_become a1 a2 _, fun a1 a2 => s_as a1 a2 _, fun a1 a2 => s_pace a1 a2 _, fun a1 a2 => s_feed a1 a2 _, fun a1 => s_text a1 _, fun a1 a2 a3 a4 => s_law a1 a2 a3 a4 _, fun a1 a2 => s_where a1 a2 _, fun a1 a2 a3 => s_meet a1 a2 a3 _, fun a1 a2 => s_year a1 a2 _, fun a1 a2 => s_loose a1 a2 _, fun a1 a2 a3 => s_bestPlan a1 a2 a3 _, fun a1 a2 a3 => s_hold a1 a2 a3 _, fun a1 a2 => s_ask a1 a2 _, fun a1 a2 => s_leastSight a1 a2 _, fun a1 => s_send a1 _, fun a1 a2 a3 a4 a5 => s_diary a1 a2 a3 a4 a5 _, fun a1 a2 a3 => s_training a1 a2 a3 _, fun a1 a2 => s_fair a1 a2 _, fun a1 => s_seed a1 _, fun a1 a2 a3 => s_voice a1 a2 a3 _, fun a1 => s_trace a1 _, fun a1 a2 a3 => s_sheet a1 a2 a3 _, fun a1 a2 a3 => s_put a1 a2 a3 _, fun a1 a2 a3 a4 a5 => s_move a1 a2 a3 a4 a5 _, fun a1 => s_years a1 _, fun a1 a2 => s_judge a1 a2 _, s_image _, s_restore _, fun a1 => s_tell a1 _, fun a1 a2 => s_check a1 a2, fun a1 => s_count a1 _, fun a1 => s_told a1 _⟩
theorem law_I0 : law_Iv 0 st_0 := by
  have n12 : st_0.1 82 12 = 0 := by decide +kernel
  have i3 : st_0.1 81 3 = 0 := by decide +kernel
  have ok : ∀ i, i < 270 → okv i (st_0.1 82 i) = true := by decide +kernel
  have sh : ∀ s, s < 4 → st_0.1 (73 + 2 * s) 2 = st_0.1 90 s ∧ st_0.1 (73 + 2 * s) 1 = st_0.1 91 s ∧ st_0.1 91 s = nI 0 ∧ ∀ i, i < 40 → st_0.1 (74 + 2 * s) i = st_0.1 92 (40 * s + i) := by decide +kernel
  refine ⟨⟨⟨?_, ?_, fun p j hp _ => ?_, fun i => ?_, ?_, ?_, ⟨0, by omega, ?_, ?_, fun i hi => by omega, Or.inl rfl⟩, ⟨0, by omega, ?_, ?_, fun i hi => by omega, Or.inl rfl⟩⟩, ?_, fun h => absurd i3 h, ⟨0, by omega, ?_, ?_, fun i hi => by omega⟩, fun s hs => ?_, ⟨?_, ?_⟩⟩, ?_⟩
  · decide +kernel
  · decide +kernel
  · exfalso
    unfold NN at hp
    rw [n12, show (0 : Int32).toNatClampNeg = 0 by decide] at hp
    omega
  · by_cases h : i < 270
    · exact ok i h
    · exact okv_hi (by omega) _
  · decide +kernel
  · decide +kernel
  · decide +kernel
  · decide +kernel
  · decide +kernel
  · decide +kernel
  · decide +kernel
  · decide +kernel
  · decide +kernel
  · obtain ⟨q1, q2, q3, q4⟩ := sh s hs
    exact ⟨q1, q2, ⟨0, by omega, q3⟩, q4⟩
  · decide +kernel
  · decide +kernel
  · unfold ER
    decide +kernel
