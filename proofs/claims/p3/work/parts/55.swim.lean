/-! Paces, lanes, places: a swim of either as one thing over a swimmer's nine numbers. -/
theorem r8_1 (σ : Sto) : f_X8_refuse σ 1 = some (-1000000000 - nI 1, rf σ 1) := refuse_nI (k := 1) (by decide) (by decide)
theorem r8_2 (σ : Sto) : f_X8_refuse σ 2 = some (-1000000000 - nI 2, rf σ 2) := refuse_nI (k := 2) (by decide) (by decide)
theorem r8_3 (σ : Sto) : f_X8_refuse σ 3 = some (-1000000000 - nI 3, rf σ 3) := refuse_nI (k := 3) (by decide) (by decide)
theorem r8_4 (σ : Sto) : f_X8_refuse σ 4 = some (-1000000000 - nI 4, rf σ 4) := refuse_nI (k := 4) (by decide) (by decide)
theorem r8_5 (σ : Sto) : f_X8_refuse σ 5 = some (-1000000000 - nI 5, rf σ 5) := refuse_nI (k := 5) (by decide) (by decide)
theorem r9_1 (σ : Sto) : f_X9_finds σ 1 = some (-1000000000 - nI 1, fi σ 1) := finds_nI (k := 1) (by decide)
theorem r9_2 (σ : Sto) : f_X9_finds σ 2 = some (-1000000000 - nI 2, fi σ 2) := finds_nI (k := 2) (by decide)
theorem r9_3 (σ : Sto) : f_X9_finds σ 3 = some (-1000000000 - nI 3, fi σ 3) := finds_nI (k := 3) (by decide)
theorem r9_4 (σ : Sto) : f_X9_finds σ 4 = some (-1000000000 - nI 4, fi σ 4) := finds_nI (k := 4) (by decide)
theorem r9_5 (σ : Sto) : f_X9_finds σ 5 = some (-1000000000 - nI 5, fi σ 5) := finds_nI (k := 5) (by decide)
theorem sameRow.d {σ τ : Sto} (h : sameRow σ τ) : τ.1 82 = σ.1 82 := funext fun j => h 82 j (Or.inl rfl)
theorem isO_01 {a : Int32} (h0 : ¬ a = 0) (h1 : ¬ a = 1) : isO a 0 1 = true := by
  cases h : isO a 0 1 with
  | true => rfl
  | false =>
    obtain ⟨j, hj, rfl⟩ := isO_nI (n := 1) rfl h
    rcases (show j = 0 ∨ j = 1 by omega) with rfl | rfl
    · exact absurd rfl h0
    · exact absurd rfl h1
theorem s_law (a1 a2 a3 a4 : Int32) (b : Bool) : LPr (fun σ => f_X8_law σ a1 a2 a3 a4) (fun σ => f_X9_law σ a1 a2 a3 a4) b Inv Inv := by
  refine pr_ro (fun σ => if a1 = 0 then .inl (gv (σ.1 82) 0 a2 a3 a4) else if a1 = 1 then .inl (gv (σ.1 82) 1 a2 a3 a4) else .inr 1) (fun σ τ h => by show _ = _; rw [h.d]) (fun σ h => ?_) (fun σ h => ?_) b
  · show C8 (f_X8_law σ a1 a2 a3 a4) σ _
    unfold f_X8_law f_X0_lawOf
    by_cases h0 : a1 = 0
    · simp only [if_pos h0]
      obtain ⟨τ, t1, t2, -⟩ := g8f h.ic a2 a3 a4
      refine ⟨τ, ?_, t2⟩
      rw [bind_s, onN_1, if_pos (by decide), show A0 1 9 = 4 by decide, t1, bind_s]
    · by_cases h1 : a1 = 1
      · simp only [if_neg h0, if_pos h1]
        obtain ⟨τ, t1, t2, -⟩ := g8c h.ic a2 a3 a4
        refine ⟨τ, ?_, t2⟩
        rw [bind_s, onN_1, if_pos (by decide), show A0 1 10 = 7 by decide, t1, bind_s]
      · simp only [if_neg h0, if_neg h1]
        refine ⟨σ, ?_, Fr.rf σ⟩
        rw [bind_s, onN_0, r8_1, bind_s]
  · show C9 (f_X9_law σ a1 a2 a3 a4) σ _
    unfold f_X9_law
    by_cases h0 : a1 = 0
    · subst h0
      obtain ⟨τ, t1, t2, -⟩ := g9 (Or.inl rfl) h.cd.1.cw a2 a3 a4
      simp only [if_pos]
      refine ⟨τ, ?_, t2⟩
      rw [in_0_1, bind_s, if_pos (by decide), show f_X9_gives σ 0 a2 a3 a4 = _ from t1, bind_s]
    · by_cases h1 : a1 = 1
      · subst h1
        obtain ⟨τ, t1, t2, -⟩ := g9 (Or.inr rfl) h.cd.2.cw a2 a3 a4
        simp only [if_neg h0, if_pos]
        refine ⟨τ, ?_, t2⟩
        rw [in_0_1, bind_s, if_pos (by decide), show f_X9_gives σ 1 a2 a3 a4 = _ from t1, bind_s]
      · simp only [if_neg h0, if_neg h1]
        refine ⟨σ, ?_, Fr.rf σ⟩
        rw [in_0_1, bind_s, isO_01 h0 h1, if_neg (by decide), r9_1, bind_s]
/-- the flow of a lane, with a wind -/
def flV (V : Nat → Int32) (w l : Int32) : Int32 := gv V 0 (V l.toNatClampNeg) w l
theorem flowOf8 {σ : Sto} (h : Ic σ) {i : Nat} (hi : i < 6) (w : Int32) : ∃ τ, f_X0_flowOf σ 1 (nI i) w = some (flV (σ.1 82) w (nI i), τ) ∧ Fr σ τ ∧ ∀ x j, x ≠ 6 → τ.1 x j = σ.1 x j := by
  obtain ⟨τ, t1, t2, t3⟩ := g8f h (σ.1 82 i) w (nI i)
  refine ⟨τ, ?_, t2, t3⟩
  unfold f_X0_flowOf flV
  rw [out_eq, bind_s, show isO (nI i) 0 5 = false from isO_lit (n := 5) (by omega) (by omega), if_neg (by decide), show A0 1 0 = 2 by decide, rd_nI (by show i < 6; omega), bind_s, show A0 1 9 = 4 by decide, show σ.1 2 i = σ.1 82 i from h.1 i hi, t1, bind_s, nI_clamp (by omega)]
theorem flowOf9 {σ : Sto} (h : CW (σ.1 82) 0) {i : Nat} (hi : i < 6) : ∃ τ, f_X9_flowOf σ (nI i) = some (flV (σ.1 82) (σ.1 82 6) (nI i), τ) ∧ Fr σ τ ∧ ∀ x j, x ≠ 86 → x ≠ 88 → τ.1 x j = σ.1 x j := by
  obtain ⟨τ, t1, t2, t3⟩ := g9 (Or.inl rfl) h (σ.1 82 i) (σ.1 82 6) (nI i)
  refine ⟨τ, ?_, t2, t3⟩
  unfold f_X9_flowOf flV
  rw [Int32.zero_add, rd_nI (by show i < 270; omega), bind_s, rdA_82_6, bind_s, show f_X9_gives σ 0 _ _ _ = _ from t1, bind_s, nI_clamp (by omega)]
theorem s_flow (a1 : Int32) (b : Bool) : LPr (fun σ => f_X8_flow σ a1) (fun σ => f_X9_flow σ a1) b Inv Inv := by
  refine pr_ro (fun σ => if isO a1 0 5 = true then .inr 1 else .inl (flV (σ.1 82) (σ.1 82 6) a1)) (fun σ τ h => by show _ = _; rw [h.d]) (fun σ h => ?_) (fun σ h => ?_) b
  · show C8 (f_X8_flow σ a1) σ _
    unfold f_X8_flow
    cases hq : isO a1 0 5 with
    | true =>
      refine ⟨σ, ?_, Fr.rf σ⟩
      rw [out_eq, bind_s, hq, if_pos rfl, r8_1, bind_s]
    | false =>
      obtain ⟨j, hj, rfl⟩ := isO_nI (n := 5) rfl hq
      obtain ⟨τ, t1, t2, -⟩ := flowOf8 h.ic (i := j) (by omega) (σ.1 1 1)
      refine ⟨τ, ?_, t2⟩
      rw [out_eq, bind_s, hq, if_neg (by decide), t1, bind_s, show σ.1 1 1 = σ.1 82 6 from h.mp (i := 6) (by decide)]
  · show C9 (f_X9_flow σ a1) σ _
    unfold f_X9_flow
    cases hq : isO a1 0 5 with
    | true =>
      refine ⟨σ, ?_, Fr.rf σ⟩
      rw [lane_eq, bind_s, hq, if_neg (by decide), r9_1, bind_s]
    | false =>
      obtain ⟨j, hj, rfl⟩ := isO_nI (n := 5) rfl hq
      obtain ⟨τ, t1, t2, -⟩ := flowOf9 h.cd.1.cw (i := j) (by omega)
      refine ⟨τ, ?_, t2⟩
      rw [lane_eq, bind_s, hq, if_pos (by decide), t1, bind_s]
theorem feel_L {V : Nat → Int32} (w : Int32) : ∀ (n j : Nat) (σ : Sto), j ≤ 6 → 6 < n + j → Ic σ → σ.1 82 = V → (∀ i, i < j → σ.1 59 i = flV V w (nI i)) → ∃ τ, f_X5_feel_L2 1 w n (nI j) σ = some τ ∧ (∀ i, i < 6 → τ.1 59 i = flV V w (nI i)) ∧ (∀ x y, x ≠ 6 → x ≠ 59 → τ.1 x y = σ.1 x y) := by
  intro n
  induction n with
  | zero => intro j σ h1 h2; omega
  | succ n ih =>
    intro j σ h1 h2 h3 h4 h5
    rw [f_X5_feel_L2]
    by_cases h : j = 6
    · subst h
      rw [if_pos (by decide)]
      exact ⟨σ, rfl, h5, fun _ _ _ _ => rfl⟩
    · obtain ⟨τ, t1, t2, t3⟩ := flowOf8 h3 (i := j) (by omega) w
      rw [if_neg (show ¬ (6 : Int32) ≤ nI j from nI_ge (b := 6) (by omega) (by omega)), t1, bind_s, wr_nI (by show j < 6; omega), bind_s, nI_1]
      have f1 : Fr σ (sI τ 59 j (flV (σ.1 82) w (nI j))) := t2.i (by simp [scr])
      obtain ⟨υ, u1, u2, u3⟩ := ih (j + 1) (sI τ 59 j (flV (σ.1 82) w (nI j))) (by omega) (by omega) (h3.fr f1) (f1.d.trans h4) (fun i hi => by
        rw [sI_at]
        by_cases hij : i = j
        · subst hij; rw [if_pos rfl, h4]
        · rw [if_neg hij, t3 59 i (by decide)]; exact h5 i (by omega))
      exact ⟨υ, u1, u2, fun x y hx hy => by rw [u3 x y hx hy, sI_ne hy, t3 x y hx]⟩
theorem feel_eq {σ : Sto} (h : Ic σ) (w : Int32) : ∃ τ, f_X5_feel σ 1 w = some τ ∧ (∀ i, i < 6 → τ.1 59 i = flV (σ.1 82) w (nI i)) ∧ (∀ x y, x ≠ 6 → x ≠ 59 → τ.1 x y = σ.1 x y) := feel_L w FU 0 σ (by omega) (by unfold FU; omega) h rfl (fun i hi => by omega)
theorem feel_fr {σ τ : Sto} (h : ∀ x y, x ≠ 6 → x ≠ 59 → τ.1 x y = σ.1 x y) : Fr σ τ := fun k j hs => h k j (by rintro rfl; simp [scr] at hs) (by rintro rfl; simp [scr] at hs)
-- paces
def GR (R : Nat → Int32) : Prop := ∀ j, j < 9 → oks j (R j) = true
def pPl (R : Nat → Int32) (t : Int32) : Int32 := if (5 : Int32) ≤ 20 + R 3 - t / 4 then 20 + R 3 - t / 4 else 5
def pPc (R : Nat → Int32) (t : Int32) : Int32 :=
  if R 0 = 1 then (if R 1 ≤ t then pPl R t / 2 else pPl R t + 20) else if R 0 = 2 then pPl R t + R 1 else if R 0 = 3 then 5 else if R 0 = 4 then (if (3 : Int32) < t then (if R 1 ≤ t then pPl R t / 2 else pPl R t + 20) else 0) else if R 0 = 5 then 20 + R 3 + R 1 else if R 0 = 6 then (if irem t 10 = R 1 then 0 else 5) else pPl R t
def pLn (R : Nat → Int32) (t : Nat) : Int32 := R (5 + min 3 (t / 10))
theorem GR.skill {R : Nat → Int32} (h : GR R) : ∃ a, a ≤ 30 ∧ R 3 = nI a := by
  have q := h 3 (by omega)
  unfold oks at q
  rw [if_neg (by omega), if_neg (by omega), if_pos rfl] at q
  obtain ⟨l, h1, h2⟩ := isO_nI (n := 30) rfl (not_t q)
  exact ⟨l, h1, h2⟩
theorem GR.lane {R : Nat → Int32} (h : GR R) {j : Nat} (hj : j < 4) : ∃ l, l < 6 ∧ R (5 + j) = nI l := by
  have q := h (5 + j) (by omega)
  unfold oks at q
  rw [if_neg (by omega), if_neg (by omega), if_neg (by omega), if_pos (by omega)] at q
  obtain ⟨l, h1, h2⟩ := isO_nI (n := 5) rfl (not_t q)
  exact ⟨l, by omega, h2⟩
theorem GR.side {R : Nat → Int32} (h : GR R) : R 2 = 0 ∨ R 2 = 1 := by
  have q := h 2 (by omega)
  unfold oks at q
  rw [if_neg (by omega), if_pos rfl] at q
  obtain ⟨l, h1, h2⟩ := isO_nI (n := 1) rfl (not_t q)
  rw [h2]
  rcases (show l = 0 ∨ l = 1 by omega) with rfl | rfl
  · exact Or.inl rfl
  · exact Or.inr rfl
theorem GR.pLn {R : Nat → Int32} (h : GR R) (t : Nat) : ∃ l, l < 6 ∧ pLn R t = nI l := h.lane (j := min 3 (t / 10)) (by omega)
theorem gr9 {V : Nat → Int32} (h : ∀ i, okv i (V i) = true) {p : Nat} (hp : p < 8) : GR (S9 V p) := fun _ hj => oks_of h hp hj
theorem steady0 : ∀ a, a ≤ 30 → (20 + nI a - 0 / 4 : Int32) = 20 + nI a ∧ (5 : Int32) ≤ 20 + nI a := by decide +kernel
theorem pace8 {σ : Sto} {k : Nat} (h : GR (S8 σ k)) (t : Int32) : f_X6_paceIn σ k t = some (pPc (S8 σ k) t) := by
  obtain ⟨a, ha, e3⟩ := h.skill
  obtain ⟨z1, z2⟩ := steady0 a ha
  have r0 : S8 σ k 0 = σ.1 k 0 := rfl
  have r1 : S8 σ k 1 = σ.1 k 1 := rfl
  have r3 : S8 σ k 3 = σ.1 k 3 := rfl
  have pl : ∀ t, f_X6_plainPace σ k t = some (pPl (S8 σ k) t) := by
    intro t
    unfold f_X6_plainPace pPl
    rw [r3]
    by_cases hc : (5 : Int32) ≤ 20 + σ.1 k 3 - t / 4
    · rw [if_pos hc, if_pos hc]
    · rw [if_neg hc, if_neg hc]
  have st : pPl (S8 σ k) 0 = 20 + σ.1 k 3 := by
    unfold pPl
    rw [← r3, e3, z1, if_pos z2]
  unfold f_X6_paceIn
  rw [pl t, bind_s]
  have e : (if σ.1 k 1 ≤ t then f_X6_paceIn_L24 σ k t (pPl (S8 σ k) t) (pPl (S8 σ k) t / 2) else f_X6_paceIn_L24 σ k t (pPl (S8 σ k) t) (pPl (S8 σ k) t + 20)) = f_X6_paceIn_L24 σ k t (pPl (S8 σ k) t) (if σ.1 k 1 ≤ t then pPl (S8 σ k) t / 2 else pPl (S8 σ k) t + 20) := by
    by_cases h1 : σ.1 k 1 ≤ t
    · rw [if_pos h1, if_pos h1]
    · rw [if_neg h1, if_neg h1]
  rw [e]
  unfold f_X6_paceIn_L24 pPc
  rw [pl 0, bind_s, st, r0, r1, r3]
  generalize (if σ.1 k 1 ≤ t then pPl (S8 σ k) t / 2 else pPl (S8 σ k) t + 20) = sp
  generalize pPl (S8 σ k) t = pp
  by_cases k1 : σ.1 k 0 = 1
  · rw [if_pos k1, if_pos k1]
  rw [if_neg k1, if_neg k1]
  by_cases k2 : σ.1 k 0 = 2
  · rw [if_pos k2, if_pos k2]
  rw [if_neg k2, if_neg k2]
  by_cases k3 : σ.1 k 0 = 3
  · rw [if_pos k3, if_pos k3]
  rw [if_neg k3, if_neg k3]
  by_cases k4 : σ.1 k 0 = 4
  · rw [if_pos k4, if_pos k4]
    by_cases h3 : (3 : Int32) < t
    · rw [if_pos h3, if_pos h3]
    · rw [if_neg h3, if_neg h3]
  rw [if_neg k4, if_neg k4]
  by_cases k5 : σ.1 k 0 = 5
  · rw [if_pos k5, if_pos k5]
  rw [if_neg k5, if_neg k5]
  by_cases k6 : σ.1 k 0 = 6
  · rw [if_pos k6, if_pos k6]
    by_cases hm : irem t 10 = σ.1 k 1
    · rw [if_pos hm, if_pos hm]
    · rw [if_neg hm, if_neg hm]
  rw [if_neg k6, if_neg k6]
theorem greater_eq (x : Int32) : f_X9_greater 5 x = some (if (5 : Int32) ≤ x then x else 5) := by
  unfold f_X9_greater
  by_cases h : (5 : Int32) ≤ x
  · rw [if_pos h, if_pos h]
  · rw [if_neg h, if_neg h]
theorem pace9 {σ : Sto} {p : Nat} (hp : p < 8) (t : Int32) : f_X9_paceOf σ (nI p) t = some (pPc (S9 (σ.1 82) p) t) := by
  have o0 : f_X9_of σ (nI p) 0 = some (S9 (σ.1 82) p 0) := of_eq hp (j := 0) (by omega)
  have o1 : f_X9_of σ (nI p) 1 = some (S9 (σ.1 82) p 1) := of_eq hp (j := 1) (by omega)
  have o3 : f_X9_of σ (nI p) 3 = some (S9 (σ.1 82) p 3) := of_eq hp (j := 3) (by omega)
  unfold f_X9_paceOf
  rw [o1, bind_s, o3, bind_s, greater_eq, bind_s]
  have ep : (if (5 : Int32) ≤ 20 + S9 (σ.1 82) p 3 - t / 4 then 20 + S9 (σ.1 82) p 3 - t / 4 else 5) = pPl (S9 (σ.1 82) p) t := rfl
  rw [ep]
  have e : (if S9 (σ.1 82) p 1 ≤ t then f_X9_paceOf_L43 σ (nI p) t (S9 (σ.1 82) p 1) (pPl (S9 (σ.1 82) p) t) (pPl (S9 (σ.1 82) p) t / 2) else f_X9_paceOf_L43 σ (nI p) t (S9 (σ.1 82) p 1) (pPl (S9 (σ.1 82) p) t) (pPl (S9 (σ.1 82) p) t + 20)) = f_X9_paceOf_L43 σ (nI p) t (S9 (σ.1 82) p 1) (pPl (S9 (σ.1 82) p) t) (if S9 (σ.1 82) p 1 ≤ t then pPl (S9 (σ.1 82) p) t / 2 else pPl (S9 (σ.1 82) p) t + 20) := by
    by_cases h1 : S9 (σ.1 82) p 1 ≤ t
    · rw [if_pos h1, if_pos h1]
    · rw [if_neg h1, if_neg h1]
  rw [e]
  unfold f_X9_paceOf_L43 pPc
  rw [o0, bind_s]
  generalize (if S9 (σ.1 82) p 1 ≤ t then pPl (S9 (σ.1 82) p) t / 2 else pPl (S9 (σ.1 82) p) t + 20) = sp
  generalize pPl (S9 (σ.1 82) p) t = pp
  by_cases k1 : S9 (σ.1 82) p 0 = 1
  · rw [if_pos k1, if_pos k1]
  rw [if_neg k1, if_neg k1]
  by_cases k2 : S9 (σ.1 82) p 0 = 2
  · rw [if_pos k2, if_pos k2]
  rw [if_neg k2, if_neg k2]
  by_cases k3 : S9 (σ.1 82) p 0 = 3
  · rw [if_pos k3, if_pos k3]
  rw [if_neg k3, if_neg k3]
  by_cases k4 : S9 (σ.1 82) p 0 = 4
  · rw [if_pos k4, if_pos k4]
    by_cases h3 : (3 : Int32) < t
    · rw [if_pos h3, if_pos h3]
    · rw [if_neg h3, if_neg h3]
  rw [if_neg k4, if_neg k4]
  by_cases k5 : S9 (σ.1 82) p 0 = 5
  · rw [if_pos k5, if_pos k5, o3, bind_s]
  rw [if_neg k5, if_neg k5]
  by_cases k6 : S9 (σ.1 82) p 0 = 6
  · rw [if_pos k6, if_pos k6]
    by_cases hm : irem t 10 = S9 (σ.1 82) p 1
    · rw [if_pos hm, if_pos hm]
    · rw [if_neg hm, if_neg hm]
  rw [if_neg k6, if_neg k6]
theorem div10 : ∀ t, t < 60 → (nI t / 10 : Int32) = nI (t / 10) := by decide +kernel
theorem lane8 {σ : Sto} {k : Nat} (hk : K0 k = 6) {t : Nat} (ht : t < 60) : f_X6_laneIn σ k (nI t) = some (pLn (S8 σ k) t) := by
  obtain ⟨A, Ln, -⟩ := sw6 hk
  have lo : ∀ i, i < 4 → f_X6_laneOf σ k (nI i) = some (S8 σ k (5 + i)) := by
    intro i hi
    unfold f_X6_laneOf S8
    rw [if_neg (nI_pos (by omega)), if_pos (show nI i < 4 from nI_lt (b := 4) hi (by omega)), A, rd_nI (by rw [Ln]; omega), bind_s, if_neg (by omega), show 5 + i - 5 = i by omega]
  unfold f_X6_laneIn pLn
  rw [div10 t ht]
  by_cases h4 : t / 10 < 4
  · rw [if_neg (show ¬ (4 : Int32) ≤ nI (t / 10) from nI_ge (b := 4) h4 (by omega)), lo _ h4, bind_s, show min 3 (t / 10) = t / 10 by omega]
  · rw [if_pos (show (4 : Int32) ≤ nI (t / 10) from nI_le (a := 4) (by omega) (by omega)), show f_X6_laneOf σ k 3 = _ from lo 3 (by omega), bind_s, show min 3 (t / 10) = 3 by omega]
theorem lane9 {σ : Sto} {p : Nat} (hp : p < 8) {t : Nat} (ht : t < 60) : f_X9_laneOf σ (nI p) (nI t) = some (pLn (S9 (σ.1 82) p) t) := by
  unfold f_X9_laneOf f_X9_lesser pLn
  rw [div10 t ht]
  by_cases h3 : t / 10 ≤ 3
  · rw [if_pos (show nI (t / 10) ≤ 3 from nI_le (b := 3) h3 (by omega)), bind_s, show (5 : Int32) = nI 5 from rfl, nI_add, of_eq hp (by omega), bind_s, show min 3 (t / 10) = t / 10 by omega]
  · rw [if_neg (show ¬ nI (t / 10) ≤ 3 from nI_ge (a := 3) (by omega) (by omega)), bind_s, show (5 + 3 : Int32) = nI 8 from rfl, of_eq hp (by omega), bind_s, show min 3 (t / 10) = 3 by omega]
def pGo (R : Nat → Int32) (fl : Int32 → Int32) (x : Int32) (t : Nat) : Int32 := imax 0 (imin 1200 (x + (if R 2 = 0 then pPc R (nI t) else -(pPc R (nI t))) + fl (pLn R t)))
def pPos (R : Nat → Int32) (fl : Int32 → Int32) : Nat → Int32
  | 0 => if R 2 = 0 then 0 else 1200
  | t + 1 => pGo R fl (pPos R fl t) t
/-- the class's flows are those of fl -/
def Fl (σ : Sto) (fl : Int32 → Int32) : Prop := ∀ i, i < 6 → σ.1 59 i = fl (nI i)
theorem next8 {σ : Sto} {k : Nat} (hk : K0 k = 6) (h : GR (S8 σ k)) {fl : Int32 → Int32} (hf : Fl σ fl) (x : Int32) {t : Nat} (ht : t < 60) : f_X5_placeNext σ k x (nI t) = some (pGo (S8 σ k) fl x t) := by
  obtain ⟨l, hl, el⟩ := h.pLn t
  have fi_ : f_X5_flowIn σ (nI l) = some (fl (nI l)) := by
    unfold f_X5_flowIn
    rw [out_eq, bind_s, show isO (nI l) 0 (6 - 1) = false from isO_lit (n := 5) (by omega) (by omega), if_neg (by decide), rd_nI (by show l < 6; omega), bind_s, hf l hl]
  unfold f_X5_placeNext f_X5_placeNext_L22 pGo f_X8_heldWithin
  rw [pace8 h, bind_s, show S8 σ k 2 = σ.1 k 2 from rfl]
  by_cases hs : σ.1 k 2 = 0
  · rw [if_pos hs, if_pos hs, lane8 hk ht, bind_s, el, fi_, bind_s, bind_s]
  · rw [if_neg hs, if_neg hs, lane8 hk ht, bind_s, el, fi_, bind_s, bind_s]
theorem goes9 {σ : Sto} (hc : CW (σ.1 82) 0) {p : Nat} (hp : p < 8) (h : GR (S9 (σ.1 82) p)) (x : Int32) {t : Nat} (ht : t < 60) : ∃ τ, f_X9_goes σ (nI p) x (nI t) = some (pGo (S9 (σ.1 82) p) (flV (σ.1 82) (σ.1 82 6)) x t, τ) ∧ ∀ a b, a ≠ 86 → a ≠ 88 → τ.1 a b = σ.1 a b := by
  obtain ⟨l, hl, el⟩ := h.pLn t
  obtain ⟨τ, t1, t2, t3⟩ := flowOf9 hc hl
  refine ⟨τ, ?_, t3⟩
  have o2 : f_X9_of σ (nI p) 2 = some (S9 (σ.1 82) p 2) := of_eq hp (j := 2) (by omega)
  unfold f_X9_goes f_X9_goes_L26 pGo
  rw [pace9 hp, bind_s, o2, bind_s]
  by_cases hs : S9 (σ.1 82) p 2 = 0
  · rw [if_pos hs, if_pos hs, lane9 hp ht, bind_s, el, t1, bind_s, held_eq _ _ _ (by decide), bind_s]
  · rw [if_neg hs, if_neg hs, lane9 hp ht, bind_s, el, t1, bind_s, held_eq _ _ _ (by decide), bind_s]
theorem shore8 {σ : Sto} {k : Nat} {fl : Int32 → Int32} : f_X6_shore σ k = some (pPos (S8 σ k) fl 0) := by
  unfold f_X6_shore
  show _ = some (if S8 σ k 2 = 0 then 0 else 1200)
  rw [show S8 σ k 2 = σ.1 k 2 from rfl]
  by_cases h : σ.1 k 2 = 0
  · rw [if_pos h, if_pos h]
  · rw [if_neg h, if_neg h]
theorem S8_congr {σ τ : Sto} {k : Nat} (h1 : ∀ j, τ.1 k j = σ.1 k j) (h2 : ∀ j, τ.1 (k + 1) j = σ.1 (k + 1) j) : S8 τ k = S8 σ k := by
  funext j
  unfold S8
  rw [h1, h2]
theorem sw_eq {σ : Sto} (h : Iw σ) {p : Nat} (hp : p < NN (σ.1 82)) (j : Nat) (hj : j < 9) : S8 σ (12 + 2 * p) j = S9 (σ.1 82) p j := sw8 h hp hj
/-- functions of a swimmer look at nine numbers alone -/
def Eq9 (A B : Nat → Int32) : Prop := ∀ j, j < 9 → A j = B j
theorem Eq9.gr {A B : Nat → Int32} (h : Eq9 A B) (g : GR B) : GR A := fun j hj => by rw [h j hj]; exact g j hj
theorem Eq9.pl {A B : Nat → Int32} (h : Eq9 A B) (t : Int32) : pPl A t = pPl B t := by unfold pPl; rw [h 3 (by omega)]
theorem Eq9.pc {A B : Nat → Int32} (h : Eq9 A B) (t : Int32) : pPc A t = pPc B t := by unfold pPc; rw [h.pl, h 0 (by omega), h 1 (by omega), h 3 (by omega)]
theorem Eq9.ln {A B : Nat → Int32} (h : Eq9 A B) (t : Nat) : pLn A t = pLn B t := h _ (by omega)
theorem Eq9.go {A B : Nat → Int32} (h : Eq9 A B) (fl : Int32 → Int32) (x : Int32) (t : Nat) : pGo A fl x t = pGo B fl x t := by unfold pGo; rw [h.pc, h.ln, h 2 (by omega)]
theorem Eq9.pos {A B : Nat → Int32} (h : Eq9 A B) (fl : Int32 → Int32) : ∀ t, pPos A fl t = pPos B fl t := by
  intro t
  induction t with
  | zero => unfold pPos; rw [h 2 (by omega)]
  | succ t ih => unfold pPos; rw [ih, h.go]
theorem sw_Eq9 {σ : Sto} (h : Iw σ) {p : Nat} (hp : p < NN (σ.1 82)) : Eq9 (S8 σ (12 + 2 * p)) (S9 (σ.1 82) p) := fun j hj => sw8 h hp hj
theorem swm_fr {σ τ : Sto} (h : ∀ x y, x ≠ 6 → x ≠ 59 → τ.1 x y = σ.1 x y) {p : Nat} (hp : p < 8) : S8 τ (12 + 2 * p) = S8 σ (12 + 2 * p) := S8_congr (fun j => h _ j (by omega) (by omega)) (fun j => h _ j (by omega) (by omega))
theorem s_pace (a1 a2 : Int32) (b : Bool) : LPr (fun σ => f_X8_pace σ a1 a2) (fun σ => f_X9_pace σ a1 a2) b Inv Inv := by
  refine pr_ro (fun σ => if isO a1 0 (σ.1 82 12 - 1) = true then .inr 1 else if isO a2 0 59 = true then .inr 1 else .inl (pPc (S9 (σ.1 82) a1.toNatClampNeg) a2)) (fun σ τ h => by show _ = _; rw [h.d]) (fun σ h => ?_) (fun σ h => ?_) b
  · show C8 (f_X8_pace σ a1 a2) σ _
    unfold f_X8_pace
    rcases sA8 h a1 with ⟨q, e⟩ | ⟨p, hp, hpN, rfl, q, e⟩
    · simp only [q, if_true]
      exact ⟨σ, by rw [e, bind_s, onN_0, r8_1, bind_s], Fr.rf σ⟩
    · simp only [q, Bool.false_eq_true, if_false]
      cases h2 : isO a2 0 59 with
      | true => exact ⟨σ, by rw [e, bind_s, onN_1, out_eq, bind_s, h2, if_pos rfl, r8_1, bind_s], Fr.rf σ⟩
      | false =>
        refine ⟨σ, ?_, Fr.rf σ⟩
        rw [e, bind_s, onN_1, out_eq, bind_s, h2, if_neg (by decide), if_pos (K12 p hp), pace8 ((sw_Eq9 h hpN).gr (gr9 h.ok hp)), bind_s, (sw_Eq9 h hpN).pc, nI_clamp (by omega)]
  · show C9 (f_X9_pace σ a1 a2) σ _
    unfold f_X9_pace
    rcases sA8 h a1 with ⟨q, e⟩ | ⟨p, hp, hpN, rfl, q, e⟩
    · simp only [q, if_true]
      exact ⟨σ, by rw [isS_eq, bind_s, q, if_neg (by decide), r9_1, bind_s], Fr.rf σ⟩
    · simp only [q, Bool.false_eq_true, if_false]
      cases h2 : isO a2 0 59 with
      | true => exact ⟨σ, by rw [isS_eq, bind_s, q, if_pos (by decide), in_0_59, bind_s, h2, if_neg (by decide), r9_1, bind_s], Fr.rf σ⟩
      | false => exact ⟨σ, by rw [isS_eq, bind_s, q, if_pos (by decide), in_0_59, bind_s, h2, if_pos (by decide), pace9 hp, bind_s, nI_clamp (by omega)], Fr.rf σ⟩
theorem behind_L {σ : Sto} {k : Nat} (hk : K0 k = 6) (h : GR (S8 σ k)) {fl : Int32 → Int32} (hf : Fl σ fl) {m : Nat} (hm : m ≤ 60) : ∀ (n j : Nat), j ≤ m → m < n + j → f_X5_placeBehind_L8 σ k (nI m) n (pPos (S8 σ k) fl j) (nI j) = some (pPos (S8 σ k) fl m) := by
  intro n
  induction n with
  | zero => intro j h1 h2; omega
  | succ n ih =>
    intro j h1 h2
    rw [f_X5_placeBehind_L8]
    by_cases hj : j = m
    · subst hj
      rw [if_pos (nI_le (Nat.le_refl _) (by omega))]
    · rw [if_neg (nI_ge (by omega) (by omega)), next8 hk h hf _ (by omega), bind_s, nI_1]
      exact ih (j + 1) (by omega) (by omega)
theorem where_L {V : Nat → Int32} (hV : ∀ i, okv i (V i) = true) (hc : CW V 0) {p : Nat} (hp : p < 8) {m : Nat} (hm : m ≤ 60) : ∀ (n j : Nat) (σ : Sto), j ≤ m → m < n + j → σ.1 82 = V → ∃ τ, f_X9_where_L46 (nI p) (nI m) n (pPos (S9 V p) (flV V (V 6)) j) (nI j) σ = some (pPos (S9 V p) (flV V (V 6)) m, τ) ∧ ∀ a b, a ≠ 86 → a ≠ 88 → τ.1 a b = σ.1 a b := by
  intro n
  induction n with
  | zero => intro j σ h1 h2; omega
  | succ n ih =>
    intro j σ h1 h2 h3
    rw [f_X9_where_L46]
    by_cases hj : j = m
    · subst hj
      rw [if_pos (nI_le (Nat.le_refl _) (by omega))]
      exact ⟨σ, rfl, fun _ _ _ _ => rfl⟩
    · obtain ⟨τ, t1, t2⟩ := goes9 (σ := σ) (by rw [h3]; exact hc) hp (by rw [h3]; exact gr9 hV hp) (pPos (S9 V p) (flV V (V 6)) j) (t := j) (by omega)
      rw [h3] at t1
      rw [if_neg (nI_ge (by omega) (by omega)), t1, bind_s, nI_1]
      obtain ⟨υ, u1, u2⟩ := ih (j + 1) τ (by omega) (by omega) (by rw [← h3]; funext i; exact t2 82 i (by decide) (by decide))
      refine ⟨υ, ?_, fun a b ha hb => by rw [u2 a b ha hb, t2 a b ha hb]⟩
      rw [← u1, pPos]
theorem fr_9 {σ τ : Sto} (h : ∀ a b, a ≠ 86 → a ≠ 88 → τ.1 a b = σ.1 a b) : Fr σ τ := fun k j hs => h k j (by rintro rfl; simp [scr] at hs) (by rintro rfl; simp [scr] at hs)
theorem s_where (a1 a2 : Int32) (b : Bool) : LPr (fun σ => f_X8_where σ a1 a2) (fun σ => f_X9_where σ a1 a2) b Inv Inv := by
  refine pr_ro (fun σ => if isO a1 0 (σ.1 82 12 - 1) = true then .inr 1 else if isO a2 0 60 = true then .inr 1 else .inl (pPos (S9 (σ.1 82) a1.toNatClampNeg) (flV (σ.1 82) (σ.1 82 6)) a2.toNatClampNeg)) (fun σ τ h => by show _ = _; rw [h.d]) (fun σ h => ?_) (fun σ h => ?_) b
  · show C8 (f_X8_where σ a1 a2) σ _
    unfold f_X8_where
    rcases sA8 h a1 with ⟨q, e⟩ | ⟨p, hp, hpN, rfl, q, e⟩
    · simp only [q, if_true]
      exact ⟨σ, by rw [e, bind_s, onN_0, r8_1, bind_s], Fr.rf σ⟩
    · simp only [q, Bool.false_eq_true, if_false]
      cases h2 : isO a2 0 60 with
      | true => exact ⟨σ, by rw [e, bind_s, onN_1, out_eq, bind_s, h2, if_pos rfl, r8_1, bind_s], Fr.rf σ⟩
      | false =>
        obtain ⟨m, hm, rfl⟩ := isO_nI (n := 60) rfl h2
        obtain ⟨τ, t1, t2, t3⟩ := feel_eq h.ic (σ.1 1 1)
        have hf : Fl τ (flV (σ.1 82) (σ.1 82 6)) := by rw [← h.mp (i := 6) (j := 1) (by decide)]; exact t2
        have e9 : Eq9 (S8 τ (12 + 2 * p)) (S9 (σ.1 82) p) := by rw [swm_fr t3 hp]; exact sw_Eq9 h hpN
        refine ⟨τ, ?_, feel_fr t3⟩
        unfold f_X5_placeBehind
        rw [e, bind_s, onN_1, out_eq, bind_s, h2, if_neg (by decide), t1, bind_s, if_pos (K12 p hp), shore8 (fl := flV (σ.1 82) (σ.1 82 6)), bind_s, show (0 : Int32) = nI 0 from rfl, behind_L (K12 p hp) (e9.gr (gr9 h.ok hp)) hf hm FU 0 (by omega) (by unfold FU; omega), bind_s, e9.pos, nI_clamp (by omega), nI_clamp (by omega)]
  · show C9 (f_X9_where σ a1 a2) σ _
    unfold f_X9_where f_X9_where_L42
    rcases sA8 h a1 with ⟨q, e⟩ | ⟨p, hp, hpN, rfl, q, e⟩
    · simp only [q, if_true]
      exact ⟨σ, by rw [isS_eq, bind_s, q, if_neg (by decide), r9_1, bind_s], Fr.rf σ⟩
    · simp only [q, Bool.false_eq_true, if_false]
      cases h2 : isO a2 0 60 with
      | true => exact ⟨σ, by rw [isS_eq, bind_s, q, if_pos (by decide), in_0_60, bind_s, h2, if_neg (by decide), r9_1, bind_s], Fr.rf σ⟩
      | false =>
        obtain ⟨m, hm, rfl⟩ := isO_nI (n := 60) rfl h2
        obtain ⟨τ, t1, t2⟩ := where_L h.ok h.cd.1.cw hp hm FU 0 σ (by omega) (by unfold FU; omega) rfl
        have o2 : f_X9_of σ (nI p) 2 = some (S9 (σ.1 82) p 2) := of_eq hp (j := 2) (by omega)
        refine ⟨τ, ?_, fr_9 t2⟩
        rw [isS_eq, bind_s, q, if_pos (by decide), in_0_60, bind_s, h2, if_pos (by decide), o2, bind_s, nI_clamp (by omega), nI_clamp (by omega), ← t1]
        unfold pPos
        by_cases hs : S9 (σ.1 82) p 2 = 0
        · rw [if_pos hs, if_pos hs]; rfl
        · rw [if_neg hs, if_neg hs]; rfl
