/-! The best plan: the reference goes through all plans in their order. -/
def dg (v i : Nat) : Nat := if i = 0 then v / 216 % 6 else if i = 1 then v / 36 % 6 else if i = 2 then v / 6 % 6 else v % 6
def pv (v : Nat) : Nat → Int32 := l4 (nI (dg v 0)) (nI (dg v 1)) (nI (dg v 2)) (nI (dg v 3))
theorem dg_lt (v i : Nat) : dg v i < 6 := by
  unfold dg
  by_cases h0 : i = 0
  · rw [if_pos h0]; exact Nat.mod_lt _ (by omega)
  · rw [if_neg h0]
    by_cases h1 : i = 1
    · rw [if_pos h1]; exact Nat.mod_lt _ (by omega)
    · rw [if_neg h1]
      by_cases h2 : i = 2
      · rw [if_pos h2]; exact Nat.mod_lt _ (by omega)
      · rw [if_neg h2]; exact Nat.mod_lt _ (by omega)
theorem laneIn_eq : ∀ v, v < 1296 → ∀ i, i < 4 → f_X9_laneIn (nI v) (nI i) = some (nI (dg v i)) := by decide +kernel
theorem pv_ok (v i : Nat) : ∃ l, l < 6 ∧ pv v i = nI l := by
  unfold pv l4
  by_cases h0 : i = 0
  · rw [if_pos h0]; exact ⟨_, dg_lt v 0, rfl⟩
  · rw [if_neg h0]
    by_cases h1 : i = 1
    · rw [if_pos h1]; exact ⟨_, dg_lt v 1, rfl⟩
    · rw [if_neg h1]
      by_cases h2 : i = 2
      · rw [if_pos h2]; exact ⟨_, dg_lt v 2, rfl⟩
      · rw [if_neg h2]; exact ⟨_, dg_lt v 3, rfl⟩
def stB (A B : Nat → Int32) (fl : Int32 → Int32) (s : Int32) (v : Nat) (st : Option (Nat × Int32)) : Option (Nat × Int32) := match met (PL A (pv v)) B fl s with
  | none => st
  | some u => match st with
    | none => some (v, metP (PL A (pv v)) B fl u)
    | some x => if bt (A 2) (metP (PL A (pv v)) B fl u) x.2 = true then some (v, metP (PL A (pv v)) B fl u) else some x
def bpS (A B : Nat → Int32) (fl : Int32 → Int32) (s : Int32) : Nat → Option (Nat × Int32) → Option (Nat × Int32)
  | 0, st => st
  | d + 1, st => bpS A B fl s d (stB A B fl s (1295 - d) st)
def outB (a3 : Int32) (st : Option (Nat × Int32)) : Int32 ⊕ Nat := match st with
  | none => .inr 2
  | some x => .inl (if 0 ≤ a3 then nI (dg x.1 a3.toNatClampNeg) else x.2)
theorem best9_L {σ0 : Sto} {V : Nat → Int32} (h0 : σ0.1 82 = V) (ok : ∀ i, okv i (V i) = true) (hc : CW V 0) {p q : Nat} (hp : p < 8) (hq : q < 8) (hu : ¬ S9 V p 2 = S9 V q 2) {a3 : Int32} (ha : a3 = -1 ∨ ∃ i, i < 4 ∧ a3 = nI i) : ∀ (d n : Nat) (st : Option (Nat × Int32)) (v4 v5 : Int32) (σ : Sto), d ≤ 1296 → d < n → (st = none → v4 = -1) → (∀ x, st = some x → x.1 < 1296 ∧ v4 = nI x.1 ∧ v5 = x.2) → HS σ0 V p p σ →
    C9 (f_X9_bestPlan_L49 (nI p) (nI q) a3 n v4 v5 (nI (1296 - d)) σ) σ0 (outB a3 (bpS (S9 V p) (S9 V q) (flV V (V 6)) (V 7) d st)) := by
  have hpq : q ≠ p := by rintro rfl; exact hu rfl
  intro d
  induction d with
  | zero =>
    intro n st v4 v5 σ _ h2 h5 h6 h
    obtain ⟨n, rfl⟩ : ∃ n', n = n' + 1 := ⟨n - 1, by omega⟩
    obtain ⟨τ, t1, t2⟩ := h.back hp hp h0
    rw [f_X9_bestPlan_L49, if_pos (by decide), t1, bind_s, bpS]
    cases st with
    | none =>
      rw [h5 rfl, if_neg (by decide), r9_2, bind_s]
      exact ⟨τ, rfl, t2⟩
    | some x =>
      obtain ⟨x1, x2, x3⟩ := h6 x rfl
      rw [x2, if_pos (nI_pos' (by omega))]
      unfold outB
      rcases ha with rfl | ⟨i, hi, rfl⟩
      · rw [if_neg (by decide), x3]
        exact ⟨τ, rfl, t2⟩
      · rw [if_pos (nI_pos' (by omega)), laneIn_eq _ x1 i hi, bind_s]
        refine ⟨τ, ?_, t2⟩
        show some (nI (dg x.1 i), τ) = some ((if 0 ≤ nI i then nI (dg x.1 (nI i).toNatClampNeg) else x.2), τ)
        rw [if_pos (nI_pos' (by omega)), nI_clamp (by omega)]
  | succ d ih =>
    intro n st v4 v5 σ h1 h2 h5 h6 h
    obtain ⟨n, rfl⟩ : ∃ n', n = n' + 1 := ⟨n - 1, by omega⟩
    have e1 : 1296 - (d + 1) = 1295 - d := by omega
    have e2 : 1296 - d = (1295 - d) + 1 := by omega
    have hv : 1295 - d < 1296 := by omega
    obtain ⟨k1, k2, k3⟩ := h
    rw [e1, f_X9_bestPlan_L49, if_neg (show ¬ (1296 : Int32) ≤ nI (1295 - d) from nI_ge (b := 1296) (by omega) (by omega)), show f_X9_laneIn (nI (1295 - d)) 0 = _ from laneIn_eq _ hv 0 (by omega), bind_s, show f_X9_laneIn (nI (1295 - d)) 1 = _ from laneIn_eq _ hv 1 (by omega), bind_s, show f_X9_laneIn (nI (1295 - d)) 2 = _ from laneIn_eq _ hv 2 (by omega), bind_s, show f_X9_laneIn (nI (1295 - d)) 3 = _ from laneIn_eq _ hv 3 (by omega), bind_s]
    rw [bpS]
    generalize 1295 - d = v at hv e2 ⊢
    obtain ⟨α, a1, a2, a3'⟩ := plans9 (σ := σ) hp (nI (dg v 0)) (nI (dg v 1)) (nI (dg v 2)) (nI (dg v 3))
    have lo : ∀ j, ¬ (16 + 9 * p + 5 ≤ j ∧ j < 16 + 9 * p + 9) → α.1 82 j = V j := fun j n1 => by rw [a2, if_neg n1, k3 j n1 n1]
    have eA : Eq9 (S9 (α.1 82) p) (PL (S9 V p) (pv v)) := by
      intro j hj
      unfold PL
      show α.1 82 (16 + 9 * p + j) = _
      by_cases h5 : 5 ≤ j ∧ j < 9
      · rw [if_pos h5, a2, if_pos (by omega), show 16 + 9 * p + j - (16 + 9 * p + 5) = j - 5 by omega]
        rfl
      · rw [if_neg h5, lo _ (by omega)]; rfl
    have eB : Eq9 (S9 (α.1 82) q) (S9 V q) := by
      intro j hj
      show α.1 82 (16 + 9 * q + j) = _
      rw [lo _ (by omega)]; rfl
    obtain ⟨τ, t1, t2, t3⟩ := swimW (σ := α) (V := V) (w := V 6) (s := V 7) rfl ⟨fun x hx => lo x (by omega), fun x hx => lo x (by omega)⟩ hc (lo 6 (by omega)) (lo 7 (by omega)) hp hq eA eB ((gr9 ok hp).pl2 (fun i _ => pv_ok v i)) (gr9 ok hq) (by rw [PL_lo (by omega)]; exact hu)
    have kα : K9 σ0 α := fun k j hk hs => by rw [a3' k j hk, k1 k j hk hs]
    have hτ : HS σ0 V p p τ := ⟨kα.tr t2.fr.k9, fun j hj => by rw [t2 83 j (by decide) (by decide) (by omega), a3' 83 j (by decide), k2 j hj], fun j n1 _ => by rw [t2.d, lo j n1]⟩
    have o2 : f_X9_of τ (nI p) 2 = some (S9 V p 2) := by
      rw [show f_X9_of τ (nI p) 2 = _ from of_eq hp (j := 2) (by omega)]
      unfold S9
      rw [t2.d, lo _ (by omega)]
    rw [a1, bind_s, t1, bind_s]
    unfold f_X9_bestPlan_L128 f_X9_bestPlan_L118 f_X9_bestPlan_L128 stB
    rw [nI_1, ← e2]
    cases hm : met (PL (S9 V p) (pv v)) (S9 V q) (flV V (V 6)) (V 7) with
    | none =>
      rw [if_neg (show ¬ (none : Option Nat).isSome = true by decide)]
      exact ih n st v4 v5 τ (by omega) (by omega) h5 h6 hτ
    | some u =>
      obtain ⟨-, v2⟩ := t3 u hm
      rw [if_pos (show (some u).isSome = true from rfl), v2]
      cases st with
      | none =>
        rw [h5 rfl, if_pos (by decide)]
        exact ih n (some (v, metP (PL (S9 V p) (pv v)) (S9 V q) (flV V (V 6)) u)) _ _ τ (by omega) (by omega) (fun z => by cases z) (fun x hx => by cases hx; exact ⟨hv, rfl, rfl⟩) hτ
      | some x =>
        obtain ⟨x1, x2, x3⟩ := h6 x rfl
        rw [x2, if_neg (nI_pos (by omega)), o2, bind_s, bt9, bind_s, x3]
        cases hb : bt (S9 V p 2) (metP (PL (S9 V p) (pv v)) (S9 V q) (flV V (V 6)) u) x.2 with
        | true =>
          rw [if_pos rfl]
          simp only [hb, if_true]
          exact ih n (some (v, metP (PL (S9 V p) (pv v)) (S9 V q) (flV V (V 6)) u)) _ _ τ (by omega) (by omega) (fun z => by cases z) (fun y hy => by cases hy; exact ⟨hv, rfl, rfl⟩) hτ
        | false =>
          rw [if_neg (by decide)]
          simp only [hb, Bool.false_eq_true, if_false]
          exact ih n (some x) _ _ τ (by omega) (by omega) (fun z => by cases z) (fun y hy => by cases hy; exact ⟨x1, rfl, rfl⟩) hτ
