/-! Years: the class and the reference go on side by side. -/
theorem imin_lesser (a b : Int32) : f_X9_lesser a b = some (imin a b) := by
  unfold f_X9_lesser imin
  by_cases h1 : b ≤ a
  · rw [if_pos h1]
    by_cases h2 : b < a
    · rw [if_pos h2]
    · rw [if_neg h2, show b = a from Int32.le_antisymm h1 (Int32.not_lt.mp h2)]
  · rw [if_neg h1, if_neg (fun h2 => h1 (Int32.le_of_lt h2))]
def Vc (V0 V : Nat → Int32) : Prop := (∀ i, i < 6 → V0 i = V i) ∧ ∀ i, (88 ≤ i ∧ i < 90) ∨ (110 ≤ i ∧ i < 210) → V0 i = V i
theorem Vc.gv {V0 V : Nat → Int32} (h : Vc V0 V) {u : Nat} (hu : u ≤ 1) (hc : CW V u) (a b c : Int32) : gv V0 u a b c = gv V u a b c := by
  obtain ⟨n, q1, q2, -⟩ := hc
  have e : gvr V0 u a b c = gvr V u a b c := by
    unfold gvr
    rw [h.2 (88 + u) (by omega), q2, nI_clamp (by omega), show codeL V0 u n = codeL V u n from List.map_congr_left (fun i hi => h.2 _ (by have := List.mem_range.mp hi; omega))]
  show (if u = 0 then imax (-30) (imin 30 (gvr V0 u a b c)) else imax 0 (imin 100 (gvr V0 u a b c))) = _
  rw [e]
  rfl
theorem Vc.fl {V0 V : Nat → Int32} (h : Vc V0 V) (hc : CW V 0) (w : Int32) {i : Nat} (hi : i < 6) : flV V0 w (nI i) = flV V w (nI i) := by
  unfold flV
  rw [h.gv (by omega) hc, nI_clamp (by omega), h.1 i hi]
/-- the class stands at σ8, the reference at σ9; ω is the class's cells with the reference's row -/
def YS (σ8 σ9 ω : Sto) : Prop := (∀ k j, k ≠ 82 → scr k j = false → ω.1 k j = σ8.1 k j) ∧ ω.1 82 = σ9.1 82 ∧ Inv ω ∧ Ic σ8 ∧ Vc (σ8.1 82) (σ9.1 82) ∧ ∀ k j, 90 ≤ k → k ≤ 92 → σ9.1 k j = σ8.1 k j
theorem YS.s8 {σ8 σ8' σ9 ω : Sto} (h : YS σ8 σ9 ω) (f : Fr σ8 σ8') : YS σ8' σ9 ω := by
  obtain ⟨h1, h2, h3, h4, h5, h6⟩ := h
  exact ⟨fun k j hk hs => by rw [f k j hs]; exact h1 k j hk hs, h2, h3, h4.fr f, by rw [f.d]; exact h5, fun k j hk hk' => by rw [f k j (by rcases (show k = 90 ∨ k = 91 ∨ k = 92 by omega) with rfl | rfl | rfl <;> simp [scr])]; exact h6 k j hk hk'⟩
theorem YS.s9 {σ8 σ9 σ9' ω : Sto} (h : YS σ8 σ9 ω) (f : σ9'.1 82 = σ9.1 82) (f' : ∀ k j, 90 ≤ k → k ≤ 92 → σ9'.1 k j = σ9.1 k j) : YS σ8 σ9' ω := by
  obtain ⟨h1, h2, h3, h4, h5, h6⟩ := h
  exact ⟨h1, by rw [f]; exact h2, h3, h4, by rw [f]; exact h5, fun k j hk hk' => by rw [f' k j hk hk']; exact h6 k j hk hk'⟩
theorem YS.f9 {σ8 σ9 σ9' ω : Sto} (h : YS σ8 σ9 ω) (f : Fr σ9 σ9') : YS σ8 σ9' ω := h.s9 f.d (fun k j hk hk' => f k j (by rcases (show k = 90 ∨ k = 91 ∨ k = 92 by omega) with rfl | rfl | rfl <;> simp [scr]))
theorem YS.two {σ8 σ9 ω : Sto} (h : YS σ8 σ9 ω) {k j i : Nat} {v : Int32} (hI : Inv (sI (sI ω k j v) 82 i v)) (hk : k ≠ 2 ∧ k ≠ 4 ∧ k ≠ 5 ∧ k ≠ 7 ∧ k ≠ 8 ∧ k < 82) (hi : ¬ (i < 6 ∨ (88 ≤ i ∧ i < 90) ∨ (110 ≤ i ∧ i < 210))) : YS (sI σ8 k j v) (sI σ9 82 i v) (sI (sI ω k j v) 82 i v) := by
  obtain ⟨h1, h2, -, h4, h5, h6⟩ := h
  have n82 : (82 : Nat) ≠ k := by omega
  refine ⟨fun a b ha hs => ?_, ?_, hI, h4.keep (fun a b hab => by rw [sI_ne (by omega)]), ⟨fun x hx => ?_, fun x hx => ?_⟩, fun a b ha hb => by rw [sI_ne (by omega), sI_ne (by omega)]; exact h6 a b ha hb⟩
  · rw [sI_ne ha]
    show (if a = k ∧ b = j then v else ω.1 a b) = (if a = k ∧ b = j then v else σ8.1 a b)
    rw [h1 a b ha hs]
  · funext b
    rw [sI_at, sI_at, sI_ne n82, h2]
  · rw [sI_ne n82, sI_nj (by omega)]; exact h5.1 x hx
  · rw [sI_ne n82, sI_nj (by omega)]; exact h5.2 x hx
theorem YS.mp {σ8 σ9 ω : Sto} (h : YS σ8 σ9 ω) {i j : Nat} (hm : (i, j) ∈ mpL) (h12 : i ≠ 12) {v : Int32} (hok : okv i v = true) : YS (sI σ8 1 j v) (sI σ9 82 i v) (sI (sI ω 1 j v) 82 i v) :=
  h.two (upd_mp h.2.2.1 hm h12 hok) (by decide) (by have := mp_lo _ hm; omega)
theorem YS.sw {σ8 σ9 ω : Sto} (h : YS σ8 σ9 ω) {p j : Nat} (hp : p < 8) (hj : j < 5) {v : Int32} (hok : oks j v = true) : YS (sI σ8 (12 + 2 * p) j v) (sI σ9 82 (16 + 9 * p + j) v) (sI (sI ω (12 + 2 * p) j v) 82 (16 + 9 * p + j) v) :=
  h.two (upd_swf h.2.2.1 hp hj hok) (by omega) (by omega)
theorem YS.r {σ8 σ9 ω : Sto} (h : YS σ8 σ9 ω) {i j : Nat} (hm : (i, j) ∈ mpL) : σ8.1 1 j = σ9.1 82 i := by
  rw [← h.1 1 j (by decide) (by simp [scr]), ← h.2.1]
  exact h.2.2.1.1.mp hm
theorem YS.rs {σ8 σ9 ω : Sto} (h : YS σ8 σ9 ω) {p : Nat} (hp : p < NN (σ9.1 82)) : Eq9 (S8 σ8 (12 + 2 * p)) (S9 (σ9.1 82) p) := by
  obtain ⟨N, hN, -, -, eN⟩ := h.2.2.1.1.N
  rw [h.2.1] at eN
  intro j hj
  have q := sw8 h.2.2.1.1 (p := p) (by rw [h.2.1]; exact hp) hj
  rw [h.2.1] at q
  rw [← q]
  have n1 : scr (12 + 2 * p) j = false := lk_scr (Or.inl ⟨rfl, rfl⟩) (Or.inl (by omega)) j
  have n2 : scr (12 + 2 * p + 1) (j - 5) = false := lk_scr (Or.inl ⟨rfl, rfl⟩) (Or.inl (by omega)) (j - 5)
  unfold S8
  rw [h.1 _ _ (by omega) n1, h.1 _ _ (by omega) n2]
theorem YS.cw {σ8 σ9 ω : Sto} (h : YS σ8 σ9 ω) : CW (σ9.1 82) 0 ∧ CW (σ9.1 82) 1 := by
  rw [← h.2.1]
  exact ⟨h.2.2.1.1.cd.1.cw, h.2.2.1.1.cd.2.cw⟩
theorem YS.ok {σ8 σ9 ω : Sto} (h : YS σ8 σ9 ω) : ∀ i, okv i (σ9.1 82 i) = true := by
  rw [← h.2.1]
  exact h.2.2.1.1.ok
/-- what either leaves alone -/
def K8 (σ τ : Sto) : Prop := ∀ k j, k = 82 ∨ (90 ≤ k ∧ k ≤ 92) → τ.1 k j = σ.1 k j
def K9 (σ τ : Sto) : Prop := ∀ k j, k ≠ 82 → scr k j = false → τ.1 k j = σ.1 k j
theorem Fr.k8 {σ τ : Sto} (h : Fr σ τ) : K8 σ τ := fun k j hk => h k j (by rcases (show k = 82 ∨ k = 90 ∨ k = 91 ∨ k = 92 by omega) with rfl | rfl | rfl | rfl <;> simp [scr])
theorem Fr.k9 {σ τ : Sto} (h : Fr σ τ) : K9 σ τ := fun k j _ hs => h k j hs
theorem K8.tr {σ τ υ : Sto} (h : K8 σ τ) (h' : K8 τ υ) : K8 σ υ := fun k j hk => (h' k j hk).trans (h k j hk)
theorem K9.tr {σ τ υ : Sto} (h : K9 σ τ) (h' : K9 τ υ) : K9 σ υ := fun k j hk hs => (h' k j hk hs).trans (h k j hk hs)
theorem K8.w (σ : Sto) {k j : Nat} {v : Int32} (hk : k < 82) : K8 σ (sI σ k j v) := fun a b h => sI_ne (by omega)
theorem K9.w (σ : Sto) {j : Nat} {v : Int32} : K9 σ (sI σ 82 j v) := fun a b h _ => sI_ne h
theorem K8.rf (σ : Sto) : K8 σ σ := fun _ _ _ => rfl
theorem K9.rf (σ : Sto) : K9 σ σ := fun _ _ _ _ => rfl
theorem YS.st {σ σ9 : Sto} (h : Inv σ) (k : K8 σ σ9) : YS σ σ9 σ := by
  have d : σ9.1 82 = σ.1 82 := funext fun j => k 82 j (by omega)
  exact ⟨fun _ _ _ _ => rfl, d.symm, h, h.1.ic, by rw [d]; exact ⟨fun _ _ => rfl, fun _ _ => rfl⟩, fun a b ha hb => k a b (by omega)⟩
theorem YS.fin {σ8 σ9 ω : Sto} (h : YS σ8 σ9 ω) (k : K9 σ8 σ9) : Inv σ9 := h.2.2.1.fr (fun a b hs => by
  by_cases ha : a = 82
  · subst ha; rw [h.2.1]
  · rw [k a b ha hs, h.1 a b ha hs])
/-- both done side by side is both done one after the other -/
theorem fin_ys {f g : Sto → Option (Int32 × Sto)} {b : Bool} {σ : Sto} (hI : Inv σ) (hs : ∀ σ9, K8 σ σ9 → ∃ v σ8' σ9' ω', f σ = some (v, σ8') ∧ g σ9 = some (v, σ9') ∧ YS σ8' σ9' ω' ∧ K8 σ σ8' ∧ K9 σ9 σ9') : ∃ r s, f σ = some r ∧ g r.2 = some s ∧ (b = true → r.1 = s.1) ∧ Inv s.2 := by
  obtain ⟨v, τ, _, _, t1, _, _, t4, _⟩ := hs σ (K8.rf σ)
  obtain ⟨w, τ', υ, ω, u1, u2, u3, u4, u5⟩ := hs τ t4
  rw [t1] at u1
  obtain ⟨z1, z2⟩ := Prod.mk.inj (Option.some.inj u1)
  subst z1 z2
  exact ⟨_, _, t1, u2, fun _ => rfl, u3.fin u5⟩
theorem ok_free {i : Nat} (h : i = 6 ∨ i = 7 ∨ i = 8 ∨ i = 9 ∨ i = 10 ∨ i = 13) (v : Int32) : okv i v = true := by
  unfold okv
  rw [if_neg (by omega), if_neg (by omega), if_neg (by omega), if_neg (by omega), if_neg (by omega), if_neg (by omega)]
theorem year_n {V : Nat → Int32} (h : ∀ i, okv i (V i) = true) : ∃ y, y ≤ 9999 ∧ V 11 = nI y := by
  have q := h 11
  unfold okv at q
  rw [if_pos rfl] at q
  exact isO_nI (n := 9999) rfl (not_t q)
theorem okv_11 {y : Nat} (h : y < 9999) : okv 11 (nI (y + 1)) = true := by
  unfold okv
  rw [if_pos rfl, show isO (nI (y + 1)) 0 9999 = false from isO_lit (n := 9999) (by omega) (by omega)]
  rfl
theorem share_go {σ8 σ9 ω : Sto} (h : YS σ8 σ9 ω) (h11 : ¬ σ9.1 82 11 = 9999) : ∃ σ8' σ9' ω', f_X8_letYearGoBy_L115 σ8 = some σ8' ∧ f_X9_goesBy_L60 σ9 = some σ9' ∧ YS σ8' σ9' ω' ∧ K8 σ8 σ8' ∧ K9 σ9 σ9' := by
  obtain ⟨y, hy, ey⟩ := year_n h.ok
  have hy9 : y < 9999 := by
    rcases (show y = 9999 ∨ y < 9999 by omega) with rfl | h'
    · exact absurd ey h11
    · exact h'
  obtain ⟨τ8, t1, t2, -⟩ := g8c h.2.2.2.1 (σ8.1 1 3) (σ8.1 1 4) (σ8.1 1 1)
  obtain ⟨τ9, u1, u2, -⟩ := g9 (Or.inr rfl) h.cw.2 (σ9.1 82 8) (σ9.1 82 11) (σ9.1 82 6)
  rw [h.2.2.2.2.1.gv (by omega) h.cw.2, h.r (i := 8) (by decide), h.r (i := 11) (by decide), h.r (i := 6) (by decide)] at t1
  have y0 := (h.s8 t2).f9 u2
  generalize hg : gv (σ9.1 82) 1 (σ9.1 82 8) (σ9.1 82 11) (σ9.1 82 6) = g at t1 u1
  have y1 := y0.mp (i := 9) (j := 5) (by decide) (by decide) (v := imin 999999 (τ9.1 82 9 + g)) (ok_free (by decide) _)
  generalize hv1 : imin 999999 (τ9.1 82 9 + g) = v1 at y1
  have y2 := y1.mp (i := 10) (j := 6) (by decide) (by decide) (v := imin 999999 ((sI τ9 82 9 v1).1 82 10 + 100 - g)) (ok_free (by decide) _)
  generalize hv2 : imin 999999 ((sI τ9 82 9 v1).1 82 10 + 100 - g) = v2 at y2
  have e11 : (sI (sI τ9 82 9 v1) 82 10 v2).1 82 11 = nI y := by rw [sI_nj (by decide), sI_nj (by decide), u2 82 11 (by simp [scr]), ey]
  have y3 := y2.mp (i := 11) (j := 4) (by decide) (by decide) (v := nI (y + 1)) (okv_11 hy9)
  refine ⟨_, _, _, ?_, ?_, y3, ?_, ?_⟩
  · unfold f_X8_letYearGoBy_L115 f_X0_share
    rw [show A0 1 10 = 7 by decide, h.r (i := 8) (by decide), h.r (i := 11) (by decide), h.r (i := 6) (by decide), t1, bind_s, lp_b, y0.r (i := 9) (j := 5) (by decide), hv1, lp_b, y1.r (i := 10) (j := 6) (by decide), hv2, bind_s, lp_b, y2.r (i := 11) (j := 4) (by decide), e11, nI_1]
  · unfold f_X9_goesBy_L60
    rw [rdA_82_8, bind_s, rdA_82_11, bind_s, rdA_82_6, bind_s, show f_X9_gives σ9 1 _ _ _ = _ from u1, bind_s, rdA_82_9, bind_s, imin_lesser, bind_s, hv1, wrA_82_9, bind_s, rdA_82_10, bind_s, imin_lesser, bind_s, hv2, wrA_82_10, bind_s, rdA_82_11, bind_s, e11, nI_1, wrA_82_11, bind_s]
  · exact ((t2.k8.tr (K8.w _ (by decide))).tr (K8.w _ (by decide))).tr (K8.w _ (by decide))
  · exact ((u2.k9.tr (K9.w _)).tr (K9.w _)).tr (K9.w _)
