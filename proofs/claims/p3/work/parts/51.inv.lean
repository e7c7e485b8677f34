/-! The invariant between the class's cells and the reference's, and what may change without touching it. -/
def scr (k j : Nat) : Bool := k == 6 || k == 9 || k == 33 || k == 36 || (decide (55 ≤ k) && decide (k ≤ 64)) || (decide (69 ≤ k) && decide (k ≤ 72)) || (k == 65 && decide (2 ≤ j)) || (k == 81 && ((decide (5 ≤ j) && decide (j ≤ 10)) || j == 13 || j == 15 || j == 16 || j == 19)) || k == 83 || k == 86 || k == 87 || k == 88 || k == 93
def Fr (σ τ : Sto) : Prop := ∀ k j, scr k j = false → τ.1 k j = σ.1 k j
theorem Fr.rf (σ : Sto) : Fr σ σ := fun _ _ _ => rfl
theorem Fr.tr {σ τ υ : Sto} (h1 : Fr σ τ) (h2 : Fr τ υ) : Fr σ υ := fun k j h => (h2 k j h).trans (h1 k j h)
theorem Fr.i {σ τ : Sto} {k j : Nat} {v : Int32} (h : Fr σ τ) (hs : scr k j = true) : Fr σ (sI τ k j v) := by
  intro a b hab
  have hne : ¬ (a = k ∧ b = j) := by
    rintro ⟨rfl, rfl⟩
    rw [hs] at hab
    cases hab
  show (if a = k ∧ b = j then v else τ.1 a b) = _
  rw [if_neg hne]
  exact h a b hab
theorem Fr.w {σ τ : Sto} {k : Nat} {f : Nat → Int32} (h : Fr σ τ) (hs : ∀ j, scr k j = true) : Fr σ (sW τ k f) := by
  intro a b hab
  have hne : ¬ a = k := by
    rintro rfl
    rw [hs] at hab
    cases hab
  show (if a = k then f b else τ.1 a b) = _
  rw [if_neg hne]
  exact h a b hab
theorem Fr.r {σ τ : Sto} {k j : Nat} {v : Option Nat} (h : Fr σ τ) : Fr σ (sR τ k j v) := h
theorem scr_82 (j : Nat) : scr 82 j = false := by simp [scr]
theorem Fr.d {σ τ : Sto} (h : Fr σ τ) : τ.1 82 = σ.1 82 := funext fun j => h 82 j (scr_82 j)
/-- a swimmer's nine numbers, of the class's cell k -/
def S8 (σ : Sto) (k j : Nat) : Int32 := if j < 5 then σ.1 k j else σ.1 (k + 1) (j - 5)
/-- a swimmer's nine numbers, of the reference's row -/
def S9 (V : Nat → Int32) (p j : Nat) : Int32 := V (16 + 9 * p + j)
def NN (V : Nat → Int32) : Nat := (V 12).toNatClampNeg
def oks (j : Nat) (v : Int32) : Bool := if j = 0 then !isO v 0 6 else if j = 2 then !isO v 0 1 else if j = 3 then !isO v 0 30 else if 5 ≤ j then !isO v 0 5 else true
def okv (i : Nat) (v : Int32) : Bool := if i = 11 then !isO v 0 9999 else if i = 12 then !isO v 0 8 else if i = 14 then !isO v 0 50 else if i = 15 then !isO v 0 20 else if 16 ≤ i ∧ i < 88 then oks ((i - 16) % 9) v else if 210 ≤ i ∧ i < 260 then !isO v 0 255 else true
def cv8 (v : Int32) : Int32 := if v < 10000 then v else if v < 20000 then -1 - (v - 10000) else -(v - 20000)
def tokN (v : Int32) : Bool := !isO v 0 10002
def tokO (v : Int32) : Bool := decide (v ∈ ([20124, 20038, 20060, 20061, 20062, 20043, 20045, 20042, 20047, 20037] : List Int32))
def wfh : List Int32 → Nat → Bool
  | [], h => h == 1
  | it :: r, h => if tokN it = true then wfh r (h + 1) else if it = 20033 then decide (1 ≤ h) && wfh r h else if tokO it = true then decide (2 ≤ h) && wfh r (h - 1) else false
def codeL (V : Nat → Int32) (u n : Nat) : List Int32 := (List.range n).map (fun i => V (110 + 50 * u + i))
/-- a law of the lake: class cell k (its row k + 1), the reference's row A, use u -/
def CD (k A u : Nat) (σ : Sto) : Prop := ∃ n, n ≤ 50 ∧ σ.1 k 3 = nI n ∧ σ.1 A (88 + u) = nI n ∧ (∀ i, i < n → σ.1 (k + 1) i = cv8 (σ.1 A (110 + 50 * u + i))) ∧ (n = 0 ∨ wfh (codeL (σ.1 A) u n) 0 = true)
def mpL : List (Nat × Nat) := [(6, 1), (7, 2), (8, 3), (9, 5), (10, 6), (11, 4), (12, 8), (13, 15), (14, 12), (15, 14)]
/-- a lake of the class, at cell k0, and a row A of the reference -/
def LR (k0 A : Nat) (σ : Sto) : Prop :=
  (∀ i, i < 6 → σ.1 (k0 + 1) i = σ.1 A i) ∧ (∀ q ∈ mpL, σ.1 k0 q.2 = σ.1 A q.1) ∧ (∀ p j, p < NN (σ.1 A) → j < 9 → S8 σ (k0 + 11 + 2 * p) j = S9 (σ.1 A) p j) ∧ (∀ i, okv i (σ.1 A i) = true) ∧
  (∀ i, i < 20 → σ.1 (k0 + 10) i = σ.1 A (90 + i)) ∧ (∀ i, i < 50 → σ.1 (k0 + 9) i = σ.1 A (210 + i)) ∧ CD (k0 + 3) A 0 σ ∧ CD (k0 + 6) A 1 σ
def TR (σ : Sto) : Prop := ∃ n, n ≤ 40 ∧ σ.1 65 1 = nI n ∧ σ.1 81 18 = nI n ∧ ∀ i, i < n → σ.1 66 i = σ.1 89 i
def SH (σ : Sto) : Prop := ∀ s, s < 4 → σ.1 (73 + 2 * s) 2 = σ.1 90 s ∧ σ.1 (73 + 2 * s) 1 = σ.1 91 s ∧ (∃ n, n ≤ 40 ∧ σ.1 91 s = nI n) ∧ ∀ i, i < 40 → σ.1 (74 + 2 * s) i = σ.1 92 (40 * s + i)
def ER (σ : Sto) : Prop := ∀ k, k < 6 → σ.1 68 k = σ.1 85 k
def US (σ : Sto) : Prop := σ.1 4 0 = 0 ∧ σ.1 7 0 = 1
def Iw (σ : Sto) : Prop := LR 1 82 σ ∧ σ.1 0 10 = σ.1 81 3 ∧ (σ.1 81 3 ≠ 0 → LR 28 84 σ) ∧ TR σ ∧ SH σ ∧ US σ
def Inv (σ : Sto) : Prop := Iw σ ∧ ER σ
theorem okv_12 {V : Nat → Int32} (h : ∀ i, okv i (V i) = true) : ∃ n, n ≤ 8 ∧ V 12 = nI n ∧ NN V = n := by
  have h12 := h 12
  unfold okv at h12
  rw [if_neg (by decide), if_pos rfl] at h12
  obtain ⟨n, hn, e⟩ := isO_nI (n := 8) (h := 8) rfl (by cases hq : isO (V 12) 0 8 <;> simp [hq] at h12 ⊢)
  exact ⟨n, hn, e, by unfold NN; rw [e, nI_clamp (by omega)]⟩
/-- the cells that a lake and its row consist of -/
def lkc (k0 A k : Nat) : Prop := (k0 ≤ k ∧ k ≤ k0 + 26 ∧ k ≠ k0 + 5 ∧ k ≠ k0 + 8) ∨ k = A
theorem CD.keep {k A u : Nat} {σ τ : Sto} (h : CD k A u σ) (h1 : ∀ j, τ.1 k j = σ.1 k j) (h2 : ∀ j, τ.1 (k + 1) j = σ.1 (k + 1) j) (h3 : τ.1 A = σ.1 A) : CD k A u τ := by
  obtain ⟨n, q1, q2, q3, q4, q5⟩ := h
  exact ⟨n, q1, by rw [h1]; exact q2, by rw [h3]; exact q3, fun i hi => by rw [h2, h3]; exact q4 i hi, by rw [h3]; exact q5⟩
theorem LR.keep {k0 A : Nat} {σ τ : Sto} (h : LR k0 A σ) (hk : ∀ k j, lkc k0 A k → τ.1 k j = σ.1 k j) : LR k0 A τ := by
  obtain ⟨h1, h2, h3, h4, h5, h6, h7, h8⟩ := h
  have hA : τ.1 A = σ.1 A := funext fun j => hk A j (Or.inr rfl)
  obtain ⟨N, hN, -, hNN⟩ := okv_12 h4
  refine ⟨fun i hi => ?_, fun q hq => ?_, fun p j hp hj => ?_, fun i => by rw [hA]; exact h4 i, fun i hi => ?_, fun i hi => ?_, h7.keep (fun j => hk _ j (Or.inl (by omega))) (fun j => hk _ j (Or.inl (by omega))) hA, h8.keep (fun j => hk _ j (Or.inl (by omega))) (fun j => hk _ j (Or.inl (by omega))) hA⟩
  · rw [hk (k0 + 1) i (Or.inl (by omega)), hA]; exact h1 i hi
  · rw [hk k0 q.2 (Or.inl (by omega)), hA]; exact h2 q hq
  · rw [hA] at hp ⊢
    rw [← h3 p j hp hj]
    unfold S8
    rw [hk _ j (Or.inl (by omega)), hk _ (j - 5) (Or.inl (by omega))]
  · rw [hk (k0 + 10) i (Or.inl (by omega)), hA]; exact h5 i hi
  · rw [hk (k0 + 9) i (Or.inl (by omega)), hA]; exact h6 i hi
theorem lk_scr {k0 A k : Nat} (h : (k0 = 1 ∧ A = 82) ∨ (k0 = 28 ∧ A = 84)) (hk : lkc k0 A k) (j : Nat) : scr k j = false := by
  have hc : (k ≤ 54 ∧ k ≠ 6 ∧ k ≠ 9 ∧ k ≠ 33 ∧ k ≠ 36) ∨ k = 82 ∨ k = 84 := by
    unfold lkc at hk
    omega
  simp only [scr, Bool.or_eq_false_iff, Bool.and_eq_false_iff, beq_eq_false_iff_ne, decide_eq_false_iff_not, ne_eq]
  omega
theorem TR.keep {σ τ : Sto} (h : TR σ) (h1 : τ.1 65 1 = σ.1 65 1) (h2 : τ.1 81 18 = σ.1 81 18) (h3 : ∀ j, τ.1 66 j = σ.1 66 j) (h4 : ∀ j, τ.1 89 j = σ.1 89 j) : TR τ := by
  obtain ⟨n, q1, q2, q3, q4⟩ := h
  exact ⟨n, q1, by rw [h1]; exact q2, by rw [h2]; exact q3, fun i hi => by rw [h3, h4]; exact q4 i hi⟩
theorem SH.keep {σ τ : Sto} (h : SH σ) (hk : ∀ k j, (73 ≤ k ∧ k ≤ 80) ∨ (90 ≤ k ∧ k ≤ 92) → τ.1 k j = σ.1 k j) : SH τ := by
  intro s hs
  obtain ⟨q1, q2, q3, q4⟩ := h s hs
  refine ⟨?_, ?_, ?_, fun i hi => ?_⟩
  · rw [hk _ _ (Or.inl (by omega)), hk 90 s (Or.inr (by omega))]; exact q1
  · rw [hk _ _ (Or.inl (by omega)), hk 91 s (Or.inr (by omega))]; exact q2
  · rw [hk 91 s (Or.inr (by omega))]; exact q3
  · rw [hk _ _ (Or.inl (by omega)), hk 92 _ (Or.inr (by omega))]; exact q4 i hi
/-- what else than the lake stays -/
theorem Iw.lake {σ τ : Sto} (h : Iw σ) (hL : LR 1 82 τ) (hk : ∀ k j, ¬ lkc 1 82 k → scr k j = false → k ≠ 68 → k ≠ 85 → τ.1 k j = σ.1 k j) (hu : τ.1 4 0 = σ.1 4 0 ∧ τ.1 7 0 = σ.1 7 0) : Iw τ := by
  obtain ⟨-, q2, q3, q4, q5, q6⟩ := h
  have e1 : τ.1 81 3 = σ.1 81 3 := hk 81 3 (by unfold lkc; omega) (by decide) (by decide) (by decide)
  refine ⟨hL, by rw [hk 0 10 (by unfold lkc; omega) (by decide) (by decide) (by decide), e1]; exact q2, fun hn => (q3 (e1 ▸ hn)).keep (fun k j hkj => hk k j ?_ (lk_scr (Or.inr ⟨rfl, rfl⟩) hkj j) ?_ ?_), q4.keep (hk 65 1 (by unfold lkc; omega) (by decide) (by decide) (by decide)) (hk 81 18 (by unfold lkc; omega) (by decide) (by decide) (by decide)) (fun j => hk 66 j (by unfold lkc; omega) (by simp [scr]) (by decide) (by decide)) (fun j => hk 89 j (by unfold lkc; omega) (by simp [scr]) (by decide) (by decide)), q5.keep (fun k j hkj => hk k j ?_ ?_ ?_ ?_), by unfold US; rw [hu.1, hu.2]; exact q6⟩
  · unfold lkc at hkj ⊢; omega
  · unfold lkc at hkj; omega
  · unfold lkc at hkj; omega
  · unfold lkc; omega
  · simp only [scr, Bool.or_eq_false_iff, Bool.and_eq_false_iff, beq_eq_false_iff_ne, decide_eq_false_iff_not, ne_eq]
    omega
  · omega
  · omega
theorem Iw.fr {σ τ : Sto} (h : Iw σ) (hf : ∀ k j, scr k j = false → k ≠ 68 → k ≠ 85 → τ.1 k j = σ.1 k j) : Iw τ :=
  h.lake (h.1.keep (fun k j hk => hf k j (lk_scr (Or.inl ⟨rfl, rfl⟩) hk j) (by unfold lkc at hk; omega) (by unfold lkc at hk; omega))) (fun k j _ h2 h3 h4 => hf k j h2 h3 h4) ⟨hf 4 0 (by decide) (by decide) (by decide), hf 7 0 (by decide) (by decide) (by decide)⟩
theorem ER.fr {σ τ : Sto} (h : ER σ) (hf : Fr σ τ) : ER τ := fun k hk => by rw [hf 68 k (by simp [scr]), hf 85 k (by simp [scr])]; exact h k hk
theorem Inv.fr {σ τ : Sto} (h : Inv σ) (hf : Fr σ τ) : Inv τ := ⟨h.1.fr (fun k j hs _ _ => hf k j hs), h.2.fr hf⟩
theorem rf_at {σ : Sto} {e k j : Nat} (h : k ≠ 68) : (rf σ e).1 k j = σ.1 k j := by
  show (if k = 68 ∧ j = e then _ else σ.1 k j) = _
  rw [if_neg (fun q => h q.1)]
theorem fi_at {σ : Sto} {e k j : Nat} (h : k ≠ 85) : (fi σ e).1 k j = σ.1 k j := by
  show (if k = 85 ∧ j = e then _ else σ.1 k j) = _
  rw [if_neg (fun q => h q.1)]
theorem Iw.rf {σ τ : Sto} {e : Nat} (h : Iw σ) (hf : Fr σ τ) : Iw (rf τ e) := h.fr (fun k j hs h1 _ => by rw [rf_at h1]; exact hf k j hs)
theorem inv_err {σ σ1 σ2 : Sto} {e : Nat} (h : Inv σ) (h1 : Fr σ σ1) (h2 : Fr (rf σ1 e) σ2) : Inv (fi σ2 e) := by
  refine ⟨h.1.fr (fun k j hs n1 n2 => by rw [fi_at n2, h2 k j hs, rf_at n1]; exact h1 k j hs), fun k hk => ?_⟩
  rw [fi_at (by decide), h2 68 k (by simp [scr])]
  have q := h.2 k hk
  show (if 68 = 68 ∧ k = e then σ1.1 68 e + 1 else σ1.1 68 k) = (if 85 = 85 ∧ k = e then σ2.1 85 e + 1 else σ2.1 85 k)
  by_cases hke : k = e
  · subst hke
    rw [if_pos ⟨rfl, rfl⟩, if_pos ⟨rfl, rfl⟩, h2 85 k (by simp [scr]), rf_at (by decide), h1 85 k (by simp [scr]), h1 68 k (by simp [scr]), q]
  · rw [if_neg (fun z => hke z.2), if_neg (fun z => hke z.2), h2 85 k (by simp [scr]), rf_at (by decide), h1 85 k (by simp [scr]), h1 68 k (by simp [scr]), q]
/-- how a call that changes nothing but scratch cells ends: with an answer, or an ERROR -/
def C8 (x : Option (Int32 × Sto)) (σ : Sto) (o : Int32 ⊕ Nat) : Prop := match o with
  | .inl v => ∃ τ, x = some (v, τ) ∧ Fr σ τ
  | .inr k => ∃ τ, x = some (-1000000000 - nI k, rf τ k) ∧ Fr σ τ
def C9 (x : Option (Int32 × Sto)) (σ : Sto) (o : Int32 ⊕ Nat) : Prop := match o with
  | .inl v => ∃ τ, x = some (v, τ) ∧ Fr σ τ
  | .inr k => ∃ τ, x = some (-1000000000 - nI k, fi τ k) ∧ Fr σ τ
def sameRow (σ τ : Sto) : Prop := ∀ k j, k = 82 ∨ k = 90 ∨ k = 91 ∨ k = 92 ∨ (k = 81 ∧ j = 18) ∨ k = 89 → τ.1 k j = σ.1 k j
theorem pr_ro {f g : Sto → Option (Int32 × Sto)} (S : Sto → Int32 ⊕ Nat) (hS : ∀ σ τ, sameRow σ τ → S τ = S σ) (h8 : ∀ σ, Iw σ → C8 (f σ) σ (S σ)) (h9 : ∀ σ, Iw σ → C9 (g σ) σ (S σ)) (b : Bool) : LPr f g b Inv Inv := by
  intro σ hI
  have q8 := h8 σ hI.1
  cases hs : S σ with
  | inl v =>
    rw [hs] at q8
    obtain ⟨τ, t1, t2⟩ := q8
    have q9 := h9 τ (hI.fr t2).1
    rw [hS σ τ (fun k j hk => t2 k j (by rcases hk with rfl | rfl | rfl | rfl | ⟨rfl, rfl⟩ | rfl <;> simp [scr])), hs] at q9
    obtain ⟨υ, u1, u2⟩ := q9
    exact ⟨_, _, t1, u1, fun _ => rfl, hI.fr (t2.tr u2)⟩
  | inr k =>
    rw [hs] at q8
    obtain ⟨τ, t1, t2⟩ := q8
    have q9 := h9 (rf τ k) (hI.1.rf t2)
    rw [hS σ (rf τ k) (fun a j hk => by rw [rf_at (by omega)]; exact t2 a j (by rcases hk with rfl | rfl | rfl | rfl | ⟨rfl, rfl⟩ | rfl <;> simp [scr])), hs] at q9
    obtain ⟨υ, u1, u2⟩ := q9
    exact ⟨_, _, t1, u1, fun _ => rfl, inv_err hI t2 u2⟩
