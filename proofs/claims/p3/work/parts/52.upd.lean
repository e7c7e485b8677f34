/-! Swimmers' cells and rows; how a written place keeps the lake's relation. -/
theorem sw6 {k : Nat} (hk : K0 k = 6) : A0 k 5 = k + 1 ∧ Ln0 (k + 1) = 4 ∧ K0 (k + 1) = 20 := (show ∀ k, k < NC → K0 k = 6 → A0 k 5 = k + 1 ∧ Ln0 (k + 1) = 4 ∧ K0 (k + 1) = 20 by decide +kernel) k (K0_lt hk (by decide)) hk
theorem K12 : ∀ p, p < 8 → K0 (12 + 2 * p) = 6 := by decide
theorem R3_12 : ∀ p, p < 8 → R0 3 p = some (12 + 2 * p) := by decide
theorem mul9 : ∀ p, p < 8 → (16 + 9 * nI p : Int32) = nI (16 + 9 * p) := by decide +kernel
theorem isO_lt {p N : Nat} (hN : N ≤ 8) : isO (nI p) 0 (nI N - 1) = false → p < 2 ^ 31 → p < N := by
  intro h hp
  obtain ⟨-, h2⟩ := isO_f h
  cases N with
  | zero =>
    rw [Int32.le_iff_toInt_le, nI_toInt hp, show (nI 0 - 1 : Int32).toInt = -1 from rfl] at h2
    omega
  | succ n =>
    rw [nI_pred, nI_leI hp (by omega)] at h2
    omega
theorem isO_ge {p N : Nat} (hN : N ≤ 8) (hp : p < N) : isO (nI p) 0 (nI N - 1) = false := by
  cases N with
  | zero => omega
  | succ n =>
    simp only [isO, Bool.or_eq_false_iff, decide_eq_false_iff_not]
    exact ⟨nI_pos (by omega), by rw [nI_pred]; exact nI_nlt (by omega) (by omega)⟩
theorem isO_lit {p n : Nat} (hp : p ≤ n) (hn : n < 2 ^ 31) : isO (nI p) 0 (nI n) = false := by
  simp only [isO, Bool.or_eq_false_iff, decide_eq_false_iff_not]
  exact ⟨nI_pos (by omega), nI_nlt (by omega) (by omega)⟩
theorem Iw.N {σ : Sto} (h : Iw σ) : ∃ N, N ≤ 8 ∧ σ.1 82 12 = nI N ∧ σ.1 1 8 = nI N ∧ NN (σ.1 82) = N := by
  obtain ⟨N, h1, h2, h3⟩ := okv_12 h.1.2.2.2.1
  exact ⟨N, h1, h2, (h.1.2.1 (12, 8) (by decide)).trans h2, h3⟩
/-- a swimmer's number, or none -/
theorem sA8 {σ : Sto} (h : Iw σ) (a : Int32) : (isO a 0 (σ.1 82 12 - 1) = true ∧ f_X0_swimmerAt σ 1 a = some none) ∨ ∃ p, p < 8 ∧ p < NN (σ.1 82) ∧ a = nI p ∧ isO a 0 (σ.1 82 12 - 1) = false ∧ f_X0_swimmerAt σ 1 a = some (some (12 + 2 * p)) := by
  obtain ⟨N, hN, e9, e8, eN⟩ := h.N
  cases hq : isO a 0 (σ.1 82 12 - 1) with
  | true => exact Or.inl ⟨rfl, sAt_none (by rw [e8, ← e9]; exact hq)⟩
  | false =>
    obtain ⟨h1, h2⟩ := isO_f hq
    obtain ⟨p, hp, rfl⟩ := nI_of (Int32.not_lt.mpr h1)
    have hpN := isO_lt hN (by rw [← e9]; exact hq) hp
    refine Or.inr ⟨p, by omega, by omega, rfl, rfl, ?_⟩
    unfold f_X0_swimmerAt
    rw [out_eq, bind_s, e8, ← e9, hq, if_neg (by decide), if_pos (show nI p < 8 from nI_lt (b := 8) (by omega) (by omega)), show A0 1 7 = 3 by decide, rdR_nI (by show p < 8; omega), bind_s, R3_12 p (by omega)]
theorem sw8 {σ : Sto} (h : Iw σ) {p j : Nat} (hp : p < NN (σ.1 82)) (hj : j < 9) : S8 σ (12 + 2 * p) j = S9 (σ.1 82) p j := by
  have := h.1.2.2.1 p j hp hj
  rw [show 1 + 11 + 2 * p = 12 + 2 * p by omega] at this
  exact this
theorem sw8f {σ : Sto} (h : Iw σ) {p j : Nat} (hp : p < NN (σ.1 82)) (hj : j < 5) : σ.1 (12 + 2 * p) j = S9 (σ.1 82) p j := by
  rw [← sw8 h hp (by omega)]
  unfold S8
  rw [if_pos hj]
theorem sw8l {σ : Sto} (h : Iw σ) {p j : Nat} (hp : p < NN (σ.1 82)) (hj : j < 4) : σ.1 (13 + 2 * p) j = S9 (σ.1 82) p (5 + j) := by
  rw [← sw8 h hp (by omega)]
  unfold S8
  rw [if_neg (by omega), show 12 + 2 * p + 1 = 13 + 2 * p by omega, show 5 + j - 5 = j by omega]
theorem of_eq {σ : Sto} {p j : Nat} (hp : p < 8) (hj : j < 9) : f_X9_of σ (nI p) (nI j) = some (S9 (σ.1 82) p j) := by
  unfold f_X9_of S9
  rw [mul9 p hp, nI_add, rd_nI (by show 16 + 9 * p + j < 270; omega), bind_s]
theorem bec_eq {σ : Sto} {p j : Nat} (hp : p < 8) (hj : j < 9) (v : Int32) : f_X9_becomes σ (nI p) (nI j) v = some (sI σ 82 (16 + 9 * p + j) v) := by
  unfold f_X9_becomes
  rw [mul9 p hp, nI_add, wr_nI (by show 16 + 9 * p + j < 270; omega), bind_s]
theorem oks_of {V : Nat → Int32} (h : ∀ i, okv i (V i) = true) {p j : Nat} (hp : p < 8) (hj : j < 9) : oks j (S9 V p j) = true := by
  have q := h (16 + 9 * p + j)
  unfold okv at q
  rw [if_neg (by omega), if_neg (by omega), if_neg (by omega), if_neg (by omega), if_pos (by omega), show (16 + 9 * p + j - 16) % 9 = j by omega] at q
  exact q
theorem Iw.ok {σ : Sto} (h : Iw σ) : ∀ i, okv i (σ.1 82 i) = true := h.1.2.2.2.1
theorem not_t {b : Bool} (h : (!b) = true) : b = false := by cases b <;> simp_all
theorem sw_lane {V : Nat → Int32} (h : ∀ i, okv i (V i) = true) {p j : Nat} (hp : p < 8) (hj : j < 4) : ∃ l, l < 6 ∧ S9 V p (5 + j) = nI l := by
  have q := oks_of h hp (j := 5 + j) (by omega)
  unfold oks at q
  rw [if_neg (by omega), if_neg (by omega), if_neg (by omega), if_pos (by omega)] at q
  obtain ⟨l, h1, h2⟩ := isO_nI (n := 5) rfl (not_t q)
  exact ⟨l, by omega, h2⟩
theorem sw_side {V : Nat → Int32} (h : ∀ i, okv i (V i) = true) {p : Nat} (hp : p < 8) : S9 V p 2 = 0 ∨ S9 V p 2 = 1 := by
  have q := oks_of h hp (j := 2) (by omega)
  unfold oks at q
  rw [if_neg (by omega), if_pos rfl] at q
  obtain ⟨l, h1, h2⟩ := isO_nI (n := 1) rfl (not_t q)
  rw [h2]
  rcases (show l = 0 ∨ l = 1 by omega) with rfl | rfl
  · exact Or.inl rfl
  · exact Or.inr rfl
theorem sw_kind {V : Nat → Int32} (h : ∀ i, okv i (V i) = true) {p : Nat} (hp : p < 8) : ∃ a, a ≤ 6 ∧ S9 V p 0 = nI a := by
  have q := oks_of h hp (j := 0) (by omega)
  unfold oks at q
  rw [if_pos rfl] at q
  obtain ⟨l, h1, h2⟩ := isO_nI (n := 6) rfl (not_t q)
  exact ⟨l, h1, h2⟩
theorem sw_skill {V : Nat → Int32} (h : ∀ i, okv i (V i) = true) {p : Nat} (hp : p < 8) : ∃ a, a ≤ 30 ∧ S9 V p 3 = nI a := by
  have q := oks_of h hp (j := 3) (by omega)
  unfold oks at q
  rw [if_neg (by omega), if_neg (by omega), if_pos rfl] at q
  obtain ⟨l, h1, h2⟩ := isO_nI (n := 30) rfl (not_t q)
  exact ⟨l, h1, h2⟩
theorem CD.keep2 {k A u : Nat} (hu : u ≤ 1) {σ τ : Sto} (h : CD k A u σ) (h1 : ∀ j, τ.1 k j = σ.1 k j) (h2 : ∀ j, τ.1 (k + 1) j = σ.1 (k + 1) j) (h3 : ∀ i, (88 ≤ i ∧ i < 90) ∨ (110 ≤ i ∧ i < 210) → τ.1 A i = σ.1 A i) : CD k A u τ := by
  obtain ⟨n, q1, q2, q3, q4, q5⟩ := h
  refine ⟨n, q1, by rw [h1]; exact q2, by rw [h3 _ (by omega)]; exact q3, fun i hi => by rw [h2, h3 _ (by omega)]; exact q4 i hi, q5.imp id (fun q => ?_)⟩
  have e : codeL (τ.1 A) u n = codeL (σ.1 A) u n := List.map_congr_left (fun i hi => h3 _ (by have := List.mem_range.mp hi; omega))
  rw [e]
  exact q
theorem mp_lo : ∀ q ∈ mpL, 6 ≤ q.1 ∧ q.1 < 16 := by decide
/-- one place of the row and its mirror are written -/
theorem LR.upd {σ τ : Sto} (h : LR 1 82 σ) (i0 : Nat) (v : Int32) (hi : i0 < 88 ∨ (90 ≤ i0 ∧ i0 < 110) ∨ 210 ≤ i0) (h12 : i0 ≠ 12) (hok : okv i0 v = true) (hA : ∀ x, τ.1 82 x = if x = i0 then v else σ.1 82 x) (e1 : ∀ x, x < 6 → τ.1 2 x = if x = i0 then v else σ.1 2 x) (e2 : ∀ q ∈ mpL, τ.1 1 q.2 = if q.1 = i0 then v else σ.1 1 q.2)
    (e3 : ∀ p j, p < 8 → j < 9 → S8 τ (12 + 2 * p) j = if 16 + 9 * p + j = i0 then v else S8 σ (12 + 2 * p) j) (e5 : ∀ x, x < 20 → τ.1 11 x = if 90 + x = i0 then v else σ.1 11 x) (e6 : ∀ x, x < 50 → τ.1 10 x = if 210 + x = i0 then v else σ.1 10 x) (e7 : ∀ k j, k = 4 ∨ k = 5 ∨ k = 7 ∨ k = 8 → τ.1 k j = σ.1 k j) : LR 1 82 τ := by
  obtain ⟨h1, h2, h3, h4, h5, h6, h7, h8⟩ := h
  obtain ⟨N, hN, -, hNN⟩ := okv_12 h4
  have hNN' : NN (τ.1 82) = NN (σ.1 82) := by unfold NN; rw [hA, if_neg (Ne.symm h12)]
  refine ⟨fun i hi' => ?_, fun q hq => ?_, fun p j hp hj => ?_, fun i => ?_, fun i hi' => ?_, fun i hi' => ?_, h7.keep2 (by decide) (fun j => e7 4 j (by omega)) (fun j => e7 5 j (by omega)) (fun i hi' => by rw [hA, if_neg (by omega)]), h8.keep2 (by decide) (fun j => e7 7 j (by omega)) (fun j => e7 8 j (by omega)) (fun i hi' => by rw [hA, if_neg (by omega)])⟩
  · show τ.1 2 i = _
    rw [e1 i hi', hA, show σ.1 2 i = σ.1 82 i from h1 i hi']
  · rw [e2 q hq, hA, show σ.1 1 q.2 = σ.1 82 q.1 from h2 q hq]
  · rw [hNN'] at hp
    have := h3 p j hp hj
    rw [show 1 + 11 + 2 * p = 12 + 2 * p by omega] at this ⊢
    rw [e3 p j (by omega) hj, this]
    unfold S9
    rw [hA]
  · rw [hA]
    by_cases hx : i = i0
    · subst hx; rw [if_pos rfl]; exact hok
    · rw [if_neg hx]; exact h4 i
  · show τ.1 11 i = _
    rw [e5 i hi', hA, show σ.1 11 i = σ.1 82 (90 + i) from h5 i hi']
  · show τ.1 10 i = _
    rw [e6 i hi', hA, show σ.1 10 i = σ.1 82 (210 + i) from h6 i hi']
theorem sI_ne {σ : Sto} {k j a b : Nat} {v : Int32} (h : a ≠ k) : (sI σ k j v).1 a b = σ.1 a b := by
  show (if a = k ∧ b = j then v else σ.1 a b) = _
  rw [if_neg (fun q => h q.1)]
theorem sI_nj {σ : Sto} {k j a b : Nat} {v : Int32} (h : b ≠ j) : (sI σ k j v).1 a b = σ.1 a b := by
  show (if a = k ∧ b = j then v else σ.1 a b) = _
  rw [if_neg (fun q => h q.2)]
theorem sI_at {σ : Sto} {k j b : Nat} {v : Int32} : (sI σ k j v).1 k b = if b = j then v else σ.1 k b := by
  show (if k = k ∧ b = j then v else σ.1 k b) = _
  by_cases h : b = j
  · rw [if_pos ⟨rfl, h⟩, if_pos h]
  · rw [if_neg (fun q => h q.2), if_neg h]
theorem S8_ne {σ : Sto} {k j a b : Nat} {v : Int32} (h : a ≠ k) (h' : a + 1 ≠ k) : S8 (sI σ k j v) a b = S8 σ a b := by
  unfold S8
  rw [sI_ne h, sI_ne h']
/-- two cells are written, both of the lake and its row: what else stays -/
theorem Inv.two {σ : Sto} (h : Inv σ) {k j i : Nat} {v w : Int32} (hk : lkc 1 82 k) (hk4 : k ≠ 4 ∧ k ≠ 7 ∧ k ≠ 82) (hL : LR 1 82 (sI (sI σ k j v) 82 i w)) : Inv (sI (sI σ k j v) 82 i w) := by
  refine ⟨h.1.lake hL (fun a b ha hs _ _ => ?_) ⟨?_, ?_⟩, fun a ha => ?_⟩
  · rw [sI_ne (by rintro rfl; exact ha (Or.inr rfl)), sI_ne (by rintro rfl; exact ha hk)]
  · rw [sI_ne (by decide), sI_ne (Ne.symm hk4.1)]
  · rw [sI_ne (by decide), sI_ne (Ne.symm hk4.2.1)]
  · have n68 : (68 : Nat) ≠ k := by rintro rfl; unfold lkc at hk; omega
    have n85 : (85 : Nat) ≠ k := by rintro rfl; unfold lkc at hk; omega
    rw [sI_ne (by decide), sI_ne n68, sI_ne (by decide), sI_ne n85]
    exact h.2 a ha
theorem upd_cur {σ : Sto} (h : Inv σ) {i : Nat} (hi : i < 6) (v : Int32) : Inv (sI (sI σ 2 i v) 82 i v) := by
  refine h.two (Or.inl (by omega)) (by decide) (h.1.1.upd i v (by omega) (by omega) ?_ (fun x => by rw [sI_at, sI_ne (by decide)]) (fun x hx => by rw [sI_ne (by decide), sI_at]) (fun q hq => by rw [sI_ne (by decide), sI_ne (by decide), if_neg (by have := mp_lo q hq; omega)]) (fun p j hp hj => by rw [S8_ne (by omega) (by omega), S8_ne (by omega) (by omega), if_neg (by omega)]) (fun x hx => by rw [sI_ne (by decide), sI_ne (by decide), if_neg (by omega)]) (fun x hx => by rw [sI_ne (by decide), sI_ne (by decide), if_neg (by omega)]) (fun k j hk => by rw [sI_ne (by omega), sI_ne (by omega)]))
  unfold okv
  rw [if_neg (by omega), if_neg (by omega), if_neg (by omega), if_neg (by omega), if_neg (by omega), if_neg (by omega)]
theorem upd_mp {σ : Sto} (h : Inv σ) {i j : Nat} (hm : (i, j) ∈ mpL) (h12 : i ≠ 12) {v : Int32} (hok : okv i v = true) : Inv (sI (sI σ 1 j v) 82 i v) := by
  have hl := mp_lo _ hm
  have inj : ∀ q ∈ mpL, (q.1 = i ↔ q.2 = j) := by
    intro q hq
    exact (show ∀ q ∈ mpL, ∀ r ∈ mpL, (q.1 = r.1 ↔ q.2 = r.2) by decide) q hq _ hm
  exact h.two (Or.inl (by omega)) (by decide) (h.1.1.upd i v (by omega) h12 hok (fun x => by rw [sI_at, sI_ne (by decide)]) (fun x hx => by rw [sI_ne (by decide), sI_ne (by decide), if_neg (by omega)]) (fun q hq => by
      rw [sI_ne (by decide), sI_at]
      by_cases hq2 : q.2 = j
      · rw [if_pos hq2, if_pos ((inj q hq).mpr hq2)]
      · rw [if_neg hq2, if_neg (fun z => hq2 ((inj q hq).mp z))]) (fun p j hp hj => by rw [S8_ne (by omega) (by omega), S8_ne (by omega) (by omega), if_neg (by omega)]) (fun x hx => by rw [sI_ne (by decide), sI_ne (by decide), if_neg (by omega)]) (fun x hx => by rw [sI_ne (by decide), sI_ne (by decide), if_neg (by omega)]) (fun k j hk => by rw [sI_ne (by omega), sI_ne (by omega)]))
theorem okv_sw {p j : Nat} (hp : p < 8) (hj : j < 9) {v : Int32} (h : oks j v = true) : okv (16 + 9 * p + j) v = true := by
  unfold okv
  rw [if_neg (by omega), if_neg (by omega), if_neg (by omega), if_neg (by omega), if_pos (by omega), show (16 + 9 * p + j - 16) % 9 = j by omega]
  exact h
theorem upd_swf {σ : Sto} (h : Inv σ) {p j : Nat} (hp : p < 8) (hj : j < 5) {v : Int32} (hok : oks j v = true) : Inv (sI (sI σ (12 + 2 * p) j v) 82 (16 + 9 * p + j) v) := by
  refine h.two (Or.inl (by omega)) (by omega) (h.1.1.upd (16 + 9 * p + j) v (by omega) (by omega) (okv_sw hp (by omega) hok) (fun x => by rw [sI_at, sI_ne (by omega)]) (fun x hx => by rw [sI_ne (by decide), sI_ne (by omega), if_neg (by omega)]) (fun q hq => by rw [sI_ne (by decide), sI_ne (by omega), if_neg (by have := mp_lo q hq; omega)]) (fun q i hq hi => ?_) (fun x hx => by rw [sI_ne (by decide), sI_ne (by omega), if_neg (by omega)]) (fun x hx => by rw [sI_ne (by decide), sI_ne (by omega), if_neg (by omega)]) (fun k j hk => by rw [sI_ne (by omega), sI_ne (by omega)]))
  rw [S8_ne (by omega) (by omega)]
  unfold S8
  by_cases hq2 : q = p
  · subst hq2
    rw [sI_at, sI_ne (by omega)]
    by_cases hi5 : i < 5
    · rw [if_pos hi5, if_pos hi5]
      by_cases hij : i = j
      · rw [if_pos hij, if_pos (by omega)]
      · rw [if_neg hij, if_neg (by omega)]
    · rw [if_neg hi5, if_neg hi5, if_neg (by omega)]
  · rw [sI_ne (by omega), sI_ne (by omega), if_neg (show ¬ 16 + 9 * q + i = 16 + 9 * p + j by omega)]
theorem upd_swl {σ : Sto} (h : Inv σ) {p j : Nat} (hp : p < 8) (hj : j < 4) {v : Int32} (hok : oks (5 + j) v = true) : Inv (sI (sI σ (13 + 2 * p) j v) 82 (16 + 9 * p + (5 + j)) v) := by
  refine h.two (Or.inl (by omega)) (by omega) (h.1.1.upd (16 + 9 * p + (5 + j)) v (by omega) (by omega) (okv_sw hp (by omega) hok) (fun x => by rw [sI_at, sI_ne (by omega)]) (fun x hx => by rw [sI_ne (by decide), sI_ne (by omega), if_neg (by omega)]) (fun q hq => by rw [sI_ne (by decide), sI_ne (by omega), if_neg (by have := mp_lo q hq; omega)]) (fun q i hq hi => ?_) (fun x hx => by rw [sI_ne (by decide), sI_ne (by omega), if_neg (by omega)]) (fun x hx => by rw [sI_ne (by decide), sI_ne (by omega), if_neg (by omega)]) (fun k j hk => by rw [sI_ne (by omega), sI_ne (by omega)]))
  rw [S8_ne (by omega) (by omega)]
  unfold S8
  by_cases hq2 : q = p
  · subst hq2
    rw [sI_ne (show 12 + 2 * q ≠ 13 + 2 * q by omega), show 12 + 2 * q + 1 = 13 + 2 * q by omega, sI_at]
    by_cases hi5 : i < 5
    · rw [if_pos hi5, if_pos hi5, if_neg (by omega)]
    · rw [if_neg hi5, if_neg hi5]
      by_cases hij : i - 5 = j
      · rw [if_pos hij, if_pos (by omega)]
      · rw [if_neg hij, if_neg (by omega)]
  · rw [sI_ne (by omega), sI_ne (by omega), if_neg (show ¬ 16 + 9 * q + i = 16 + 9 * p + (5 + j) by omega)]
theorem upd_wait {σ : Sto} (h : Inv σ) {i : Nat} (hi : i < 20) (v : Int32) : Inv (sI (sI σ 11 i v) 82 (90 + i) v) := by
  refine h.two (Or.inl (by omega)) (by decide) (h.1.1.upd (90 + i) v (by omega) (by omega) ?_ (fun x => by rw [sI_at, sI_ne (by decide)]) (fun x hx => by rw [sI_ne (by decide), sI_ne (by decide), if_neg (by omega)]) (fun q hq => by rw [sI_ne (by decide), sI_ne (by decide), if_neg (by have := mp_lo q hq; omega)]) (fun p j hp hj => by rw [S8_ne (by omega) (by omega), S8_ne (by omega) (by omega), if_neg (by omega)]) (fun x hx => by
      rw [sI_ne (by decide), sI_at]
      by_cases hx : x = i
      · rw [if_pos hx, if_pos (by omega)]
      · rw [if_neg hx, if_neg (by omega)]) (fun x hx => by rw [sI_ne (by decide), sI_ne (by decide), if_neg (by omega)]) (fun k j hk => by rw [sI_ne (by omega), sI_ne (by omega)]))
  unfold okv
  rw [if_neg (by omega), if_neg (by omega), if_neg (by omega), if_neg (by omega), if_neg (by omega), if_neg (by omega)]
theorem upd_tape {σ : Sto} (h : Inv σ) {i : Nat} (hi : i < 50) {v : Int32} (hv : isO v 0 255 = false) : Inv (sI (sI σ 10 i v) 82 (210 + i) v) := by
  refine h.two (Or.inl (by omega)) (by decide) (h.1.1.upd (210 + i) v (by omega) (by omega) ?_ (fun x => by rw [sI_at, sI_ne (by decide)]) (fun x hx => by rw [sI_ne (by decide), sI_ne (by decide), if_neg (by omega)]) (fun q hq => by rw [sI_ne (by decide), sI_ne (by decide), if_neg (by have := mp_lo q hq; omega)]) (fun p j hp hj => by rw [S8_ne (by omega) (by omega), S8_ne (by omega) (by omega), if_neg (by omega)]) (fun x hx => by rw [sI_ne (by decide), sI_ne (by decide), if_neg (by omega)]) (fun x hx => by
      rw [sI_ne (by decide), sI_at]
      by_cases hx : x = i
      · rw [if_pos hx, if_pos (by omega)]
      · rw [if_neg hx, if_neg (by omega)]) (fun k j hk => by rw [sI_ne (by omega), sI_ne (by omega)]))
  unfold okv
  rw [if_neg (by omega), if_neg (by omega), if_neg (by omega), if_neg (by omega), if_neg (by omega), if_pos (by omega), hv]
  rfl
theorem sI_comm {σ : Sto} {k j k' j' : Nat} {v w : Int32} (h : k ≠ k') : sI (sI σ k j v) k' j' w = sI (sI σ k' j' w) k j v := by
  refine Prod.ext ?_ rfl
  funext a b
  show (if a = k' ∧ b = j' then w else if a = k ∧ b = j then v else σ.1 a b) = (if a = k ∧ b = j then v else if a = k' ∧ b = j' then w else σ.1 a b)
  by_cases h1 : a = k ∧ b = j
  · rw [if_pos h1, if_pos h1, if_neg (fun q => h (h1.1.symm.trans q.1))]
  · rw [if_neg h1, if_neg h1]
theorem nI_ne {a : Nat} (v : Int32) (c : Nat) (hv : v = nI c) (ha : a < 2 ^ 31) (hc : c < 2 ^ 31) (h : a ≠ c) : ¬ nI a = v := fun z => h ((nI_eq ha hc).mp (z.trans hv))
