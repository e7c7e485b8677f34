/-! The lanes of a part, and the parts. -/
theorem dg0 (v : Nat) : dg v 0 = v / 216 % 6 := rfl
theorem dg1 (v : Nat) : dg v 1 = v / 36 % 6 := rfl
theorem dg2 (v : Nat) : dg v 2 = v / 6 % 6 := rfl
theorem dg3 (v : Nat) : dg v 3 = v % 6 := rfl
theorem dg_set (k : Nat) (hk : k < 4) (a : Nat) (ha : a < 1296) (hak : a % 6 ^ (4 - k) = 0) (l : Nat) (hl : l < 6) : a + l * 6 ^ (3 - k) < 1296 ∧ (a + l * 6 ^ (3 - k)) % 6 ^ (3 - k) = 0 ∧ ∀ i, i < 4 → dg (a + l * 6 ^ (3 - k)) i = if i < k then dg a i else if i = k then l else 0 := by
  rcases (show k = 0 ∨ k = 1 ∨ k = 2 ∨ k = 3 by omega) with rfl | rfl | rfl | rfl
  · rw [show 6 ^ (4 - 0) = 1296 by decide] at hak
    rw [show 6 ^ (3 - 0) = 216 by decide]
    refine ⟨by omega, by omega, fun i hi => ?_⟩
    rcases (show i = 0 ∨ i = 1 ∨ i = 2 ∨ i = 3 by omega) with rfl | rfl | rfl | rfl <;> (first | rw [dg0] | rw [dg1] | rw [dg2] | rw [dg3]) <;> first | (rw [if_pos (by omega)]; (first | rw [dg0] | rw [dg1] | rw [dg2]); omega) | (rw [if_neg (by omega), if_pos (by omega)]; omega) | (rw [if_neg (by omega), if_neg (by omega)]; omega)
  · rw [show 6 ^ (4 - 1) = 216 by decide] at hak
    rw [show 6 ^ (3 - 1) = 36 by decide]
    refine ⟨by omega, by omega, fun i hi => ?_⟩
    rcases (show i = 0 ∨ i = 1 ∨ i = 2 ∨ i = 3 by omega) with rfl | rfl | rfl | rfl <;> (first | rw [dg0] | rw [dg1] | rw [dg2] | rw [dg3]) <;> first | (rw [if_pos (by omega)]; (first | rw [dg0] | rw [dg1] | rw [dg2]); omega) | (rw [if_neg (by omega), if_pos (by omega)]; omega) | (rw [if_neg (by omega), if_neg (by omega)]; omega)
  · rw [show 6 ^ (4 - 2) = 36 by decide] at hak
    rw [show 6 ^ (3 - 2) = 6 by decide]
    refine ⟨by omega, by omega, fun i hi => ?_⟩
    rcases (show i = 0 ∨ i = 1 ∨ i = 2 ∨ i = 3 by omega) with rfl | rfl | rfl | rfl <;> (first | rw [dg0] | rw [dg1] | rw [dg2] | rw [dg3]) <;> first | (rw [if_pos (by omega)]; (first | rw [dg0] | rw [dg1] | rw [dg2]); omega) | (rw [if_neg (by omega), if_pos (by omega)]; omega) | (rw [if_neg (by omega), if_neg (by omega)]; omega)
  · rw [show 6 ^ (4 - 3) = 6 by decide] at hak
    rw [show 6 ^ (3 - 3) = 1 by decide]
    refine ⟨by omega, by omega, fun i hi => ?_⟩
    rcases (show i = 0 ∨ i = 1 ∨ i = 2 ∨ i = 3 by omega) with rfl | rfl | rfl | rfl <;> (first | rw [dg0] | rw [dg1] | rw [dg2] | rw [dg3]) <;> first | (rw [if_pos (by omega)]; (first | rw [dg0] | rw [dg1] | rw [dg2]); omega) | (rw [if_neg (by omega), if_pos (by omega)]; omega) | (rw [if_neg (by omega), if_neg (by omega)]; omega)
theorem dg_blk (k : Nat) (hk : k < 4) (b : Nat) (_ : b < 1296) (hb : b % 6 ^ (3 - k) = 0) (x : Nat) (hx : x < 6 ^ (3 - k)) (i : Nat) (hi : i < k + 1) : dg (b + x) i = dg b i := by
  rcases (show k = 0 ∨ k = 1 ∨ k = 2 ∨ k = 3 by omega) with rfl | rfl | rfl | rfl
  · rw [show 6 ^ (3 - 0) = 216 by decide] at hb hx
    obtain rfl : i = 0 := by omega
    simp only [dg0]; omega
  · rw [show 6 ^ (3 - 1) = 36 by decide] at hb hx
    rcases (show i = 0 ∨ i = 1 by omega) with rfl | rfl <;> simp only [dg0, dg1] <;> omega
  · rw [show 6 ^ (3 - 2) = 6 by decide] at hb hx
    rcases (show i = 0 ∨ i = 1 ∨ i = 2 by omega) with rfl | rfl | rfl <;> simp only [dg0, dg1, dg2] <;> omega
  · rw [show 6 ^ (3 - 3) = 1 by decide] at hx
    obtain rfl : x = 0 := by omega
    rfl
theorem part_n : ∀ k, k < 4 → (nI k * 10 : Int32) = nI (10 * k) ∧ ((nI k + 1) * 10 : Int32) = nI (10 * (k + 1)) := by decide +kernel
/-- a part's lanes tried: what the search of a part answers for -/
def TL (A B : Nat → Int32) (fl : Int32 → Int32) (s : Int32) (q : Nat) (rec : Nat → Int32 → Int32 → Sto → Option Sto) (k : Nat) : Prop := ∀ (a : Nat) (σ : Sto) (st : Option (Nat × Int32)), a < 1296 → a % 6 ^ (4 - k) = 0 → SS A B fl s q σ → BS σ st → (∀ i, i < k → σ.1 63 i = nI (dg a i)) → (∀ w, w < 10 * k → mtT (PL A (pv a)) B fl s w = false) →
  ∃ τ, rec 0 (nI k) (pPos (PL A (pv a)) fl (10 * k)) σ = some τ ∧ BS τ (bpN A B fl s a (6 ^ (4 - k)) st) ∧ Ch k σ τ
theorem lane_one {A B : Nat → Int32} {fl : Int32 → Int32} {s : Int32} {q k a l : Nat} (hq : q < 8) (gA : GR A) (hk : k < 4) {rec : Nat → Int32 → Int32 → Sto → Option Sto} (hrec : k < 3 → TL A B fl s q rec (k + 1)) (ha : a < 1296) (hak : a % 6 ^ (4 - k) = 0) (hl : l < 6) (K : Int32 → Sto → Option Sto) {σ : Sto} {st : Option (Nat × Int32)} (hS : SS A B fl s q σ) (hb : BS σ st) (h63 : ∀ i, i < k → σ.1 63 i = nI (dg a i)) (hn : ∀ w, w < 10 * k → mtT (PL A (pv a)) B fl s w = false) :
    ∃ τ, f_X2_tryLanes_L65 rec K (nI k) (pPos (PL A (pv a)) fl (10 * k)) (decide (k = 3)) (nI l) σ = K (nI l + 1) τ ∧ BS τ (bpN A B fl s (a + l * 6 ^ (3 - k)) (6 ^ (3 - k)) st) ∧ Ch k σ τ := by
  obtain ⟨b1, b2, b3⟩ := dg_set k hk a ha hak l hl
  have b4 := dg_blk k hk (a + l * 6 ^ (3 - k)) b1 b2
  have pN : 0 < 6 ^ (3 - k) := Nat.pow_pos (by omega)
  have low : ∀ i, i < k → pv a i = pv (a + l * 6 ^ (3 - k)) i := fun i hi => by rw [pv_dg _ (by omega), pv_dg _ (by omega), b3 i (by omega), if_pos hi]
  have eP := pPos_pl (A := A) (f := pv a) (g := pv (a + l * 6 ^ (3 - k))) (by omega) low fl (10 * k) (Nat.le_refl _)
  have hn' : ∀ w, w < 10 * k → mtT (PL A (pv (a + l * 6 ^ (3 - k)))) B fl s w = false := fun w hw => by rw [← mtT_pl (f := pv a) (by omega) low fl s hw]; exact hn w hw
  obtain ⟨ρ, r1, r2, r3, r4⟩ := setLane8 σ (l := l) hk
  have ρ63 : ∀ i, i < 4 → ρ.1 63 i = nI (dg (a + l * 6 ^ (3 - k)) i) := by
    intro i hi
    rw [r2 i, b3 i hi]
    by_cases h : i < k
    · rw [if_neg (by omega), if_pos h]; exact h63 i h
    · rw [if_pos (by omega), if_neg h]
      by_cases h' : i = k
      · rw [if_pos h', if_pos h']
      · rw [if_neg h', if_neg h']; rfl
  have cρ : Ch k σ ρ := ⟨r4, fun i hi => by rw [r2 i, if_neg (by omega)], fun x y _ h2 _ => r3 x y h2⟩
  generalize hB : a + l * 6 ^ (3 - k) = b at *
  have hSρ := hS.ch hq cρ
  have hbρ : BS ρ st := hb.ch (r3 _ _ (by decide)) (r3 _ _ (by decide)) (fun i => r3 _ _ (by decide))
  obtain ⟨p1, p2⟩ := part_n k hk
  obtain ⟨m, hm, hm60, hm3⟩ : ∃ m, m = (if k = 3 then 60 else 10 * (k + 1)) ∧ m ≤ 60 ∧ 10 * k ≤ m := ⟨_, rfl, by split <;> omega, by split <;> omega⟩
  have go : f_X2_tryLanes_L65 rec K (nI k) (pPos (PL A (pv a)) fl (10 * k)) (decide (k = 3)) (nI l) σ = f_X2_tryLanes_L101 rec K (nI k) (pPos (PL A (pv b)) fl (10 * k)) (decide (k = 3)) (nI l) (nI m) FU (pPos (PL A (pv b)) fl (10 * k)) false (nI (10 * k)) ρ := by
    unfold f_X2_tryLanes_L65 f_X2_tryLanes_L93
    rw [r1, bind_s, eP, p1, p2, hm]
    by_cases h3 : k = 3
    · rw [if_pos (decide_eq_true h3), if_pos h3]; rfl
    · rw [if_neg (by rw [decide_eq_false h3]; decide), if_neg h3]
  rw [go]
  rcases mins8 hq gA hSρ ρ63 hbρ hm60 rec K (nI k) (pPos (PL A (pv b)) fl (10 * k)) (decide (k = 3)) (nI l) (m - 10 * k) FU (10 * k) (by omega) (by unfold FU; omega) with ⟨u, τ, u1, u2, u3, u4, u5, u6, u7⟩ | ⟨u1, u2⟩
  · refine ⟨τ, ?_, ?_, cρ.tr (u7.lo (by omega))⟩
    · rw [u5, f_X2_tryLanes_L146, if_pos rfl]; rfl
    · have hw4 : ∀ w, w < u → mtT (PL A (pv b)) B fl s w = false := fun w hw => by
        by_cases h : w < 10 * k
        · exact hn' w h
        · exact u4 w (by omega) hw
      obtain ⟨N, hN⟩ : ∃ N, 6 ^ (3 - k) = N + 1 := ⟨6 ^ (3 - k) - 1, by omega⟩
      rw [hN, blk_some (u := u) (P := metP (PL A (pv b)) B fl u)]
      · exact u6
      · intro w w1 w2
        by_cases h3 : k = 3
        · have hw : w = b := by
            subst h3
            rw [show 6 ^ (3 - 3) = 1 by decide] at hN
            omega
          subst hw
          exact ⟨met_some (by omega) u3 hw4, rfl⟩
        · have hx := b4 (w - b) (by omega)
          rw [show b + (w - b) = w by omega] at hx
          rw [if_neg h3] at hm
          exact met_pl (f := pv b) (g := pv w) (k := k + 1) (by omega) (fun i hi => by rw [pv_dg _ (by omega), pv_dg _ (by omega), hx i hi]) fl s (by omega) (by omega) u3 hw4
  · by_cases h3 : k = 3
    · refine ⟨ρ, ?_, ?_, cρ⟩
      · rw [u2, f_X2_tryLanes_L146, if_neg (by decide), if_pos (decide_eq_true h3)]; rfl
      · rw [blk_none]
        · exact hbρ
        · intro w w1 w2
          have hw : w = b := by
            subst h3
            rw [show 6 ^ (3 - 3) = 1 by decide] at w2
            omega
          subst hw
          rw [if_pos h3] at hm
          exact met_none (fun t ht => by
            by_cases h : t < 10 * k
            · exact hn' t h
            · exact u1 t (by omega) (by omega))
    · rw [if_neg h3] at hm
      subst hm
      obtain ⟨τ, t1, t2, t3⟩ := hrec (by omega) b ρ st b1 (by rw [show 4 - (k + 1) = 3 - k by omega]; exact b2) hSρ hbρ (fun i hi => ρ63 i (by omega)) (fun w hw => by
        by_cases h : w < 10 * k
        · exact hn' w h
        · exact u1 w (by omega) hw)
      rw [show 4 - (k + 1) = 3 - k by omega] at t2
      refine ⟨τ, ?_, t2, cρ.tr (t3.lo (by omega))⟩
      rw [u2, f_X2_tryLanes_L146, if_neg (by decide), if_neg (by rw [decide_eq_false h3]; decide), nI_1, t1, bind_s]
      rfl
/-- in the last part a lane unlike the other's is passed over -/
theorem lane_not {A B : Nat → Int32} {fl : Int32 → Int32} {s : Int32} {a l : Nat} (ha : a < 1296) (hl : l < 6) (ha6 : a % 6 = 0) (hne : ¬ nI l = B 8) (hn : ∀ w, w < 30 → mtT (PL A (pv a)) B fl s w = false) (st : Option (Nat × Int32)) : bpN A B fl s (a + l) 1 st = st := by
  obtain ⟨b1, b2, b3⟩ := dg_set 3 (by decide) a ha (by rw [show 6 ^ (4 - 3) = 6 by decide]; exact ha6) l hl
  rw [show 6 ^ (3 - 3) = 1 by decide, Nat.mul_one] at b1 b3
  refine blk_none 1 (a + l) st (fun w w1 w2 => ?_)
  obtain rfl : w = a + l := by omega
  refine met_none (fun t ht => ?_)
  by_cases h : t < 30
  · rw [← mtT_pl (f := pv a) (k := 3) (by omega) (fun i hi => by rw [pv_dg _ (by omega), pv_dg _ (by omega), b3 i (by omega), if_pos hi]) fl s (by omega)]
    exact hn t h
  · unfold mtT
    rw [PL_ln, show min 3 (t / 10) = 3 by omega, pv_dg _ (by omega), b3 3 (by omega), if_neg (by omega), if_pos rfl, show pLn B t = B 8 by unfold pLn; rw [show min 3 (t / 10) = 3 by omega], decide_eq_false hne, Bool.false_and]
theorem laneOf8 {σ : Sto} {k : Nat} (hk : K0 k = 6) {i : Nat} (hi : i < 4) : f_X6_laneOf σ k (nI i) = some (S8 σ k (5 + i)) := by
  obtain ⟨A, Ln, -⟩ := sw6 hk
  unfold f_X6_laneOf S8
  rw [if_neg (nI_pos (by omega)), if_pos (show nI i < 4 from nI_lt (b := 4) hi (by omega)), A, rd_nI (by rw [Ln]; omega), bind_s, if_neg (by omega), show 5 + i - 5 = i by omega]
theorem lanes8 {A B : Nat → Int32} {fl : Int32 → Int32} {s : Int32} {q k a : Nat} (hq : q < 8) (gA : GR A) (hk : k < 4) {rec : Nat → Int32 → Int32 → Sto → Option Sto} (hrec : k < 3 → TL A B fl s q rec (k + 1)) (ha : a < 1296) (hak : a % 6 ^ (4 - k) = 0) (hn : ∀ w, w < 10 * k → mtT (PL A (pv a)) B fl s w = false) : ∀ (d n : Nat) (σ : Sto) (st : Option (Nat × Int32)), d ≤ 6 → d < n → SS A B fl s q σ → BS σ st → (∀ i, i < k → σ.1 63 i = nI (dg a i)) →
    ∃ τ, f_X2_tryLanes_L38 rec (nI k) (pPos (PL A (pv a)) fl (10 * k)) (decide (k = 3)) n (nI (6 - d)) σ = some τ ∧ BS τ (bpN A B fl s (a + (6 - d) * 6 ^ (3 - k)) (d * 6 ^ (3 - k)) st) ∧ Ch k σ τ := by
  intro d
  induction d with
  | zero =>
    intro n σ st _ h2 hS hb _
    obtain ⟨n, rfl⟩ : ∃ n', n = n' + 1 := ⟨n - 1, by omega⟩
    rw [f_X2_tryLanes_L38, if_pos (by decide), Nat.zero_mul, bpN]
    exact ⟨σ, rfl, hb, Ch.rf k σ⟩
  | succ d ih =>
    intro n σ st h1 h2 hS hb h63
    obtain ⟨n, rfl⟩ : ∃ n', n = n' + 1 := ⟨n - 1, by omega⟩
    obtain ⟨l, hl, hl1, hl2⟩ : ∃ l, l < 6 ∧ 6 - (d + 1) = l ∧ 6 - d = l + 1 := ⟨5 - d, by omega, by omega, by omega⟩
    have hsum : a + (l + 1) * 6 ^ (3 - k) = a + l * 6 ^ (3 - k) + 6 ^ (3 - k) := by rw [Nat.succ_mul, Nat.add_assoc]
    rw [hl1, show (d + 1) * 6 ^ (3 - k) = 6 ^ (3 - k) + d * 6 ^ (3 - k) by rw [Nat.succ_mul, Nat.add_comm], bpN_add, ← hsum]
    have nx : ∀ τ, BS τ (bpN A B fl s (a + l * 6 ^ (3 - k)) (6 ^ (3 - k)) st) → Ch k σ τ → ∃ υ, f_X2_tryLanes_L38 rec (nI k) (pPos (PL A (pv a)) fl (10 * k)) (decide (k = 3)) n (nI l + 1) τ = some υ ∧ BS υ (bpN A B fl s (a + (l + 1) * 6 ^ (3 - k)) (d * 6 ^ (3 - k)) (bpN A B fl s (a + l * 6 ^ (3 - k)) (6 ^ (3 - k)) st)) ∧ Ch k σ υ := by
      intro τ t1 t2
      obtain ⟨υ, u1, u2, u3⟩ := ih n τ (bpN A B fl s (a + l * 6 ^ (3 - k)) (6 ^ (3 - k)) st) (by omega) (by omega) (hS.ch hq t2) t1 (fun i hi => by rw [t2.2.1 i hi]; exact h63 i hi)
      rw [hl2] at u1 u2
      rw [nI_1]
      exact ⟨υ, u1, u2, t2.tr u3⟩
    obtain ⟨τ, t1, t2, t3⟩ := lane_one (l := l) hq gA hk hrec ha hak hl (f_X2_tryLanes_L38 rec (nI k) (pPos (PL A (pv a)) fl (10 * k)) (decide (k = 3)) n) hS hb h63 hn
    rw [f_X2_tryLanes_L38, if_neg (show ¬ (6 : Int32) ≤ nI l from nI_ge (b := 6) hl (by omega))]
    by_cases h3 : k = 3
    · rw [if_pos (decide_eq_true h3), hS.2.2.1, nmR_b, deref6 (K12 q hq), laneOf8 (K12 q hq) hk, bind_s, hS.2.2.2.2.1 (5 + k) (by omega)]
      by_cases he : nI l = B (5 + k)
      · rw [if_pos he, t1]
        exact nx τ t2 t3
      · rw [if_neg he]
        have hN : 6 ^ (3 - k) = 1 := by rw [h3]
        have hz : bpN A B fl s (a + l * 6 ^ (3 - k)) (6 ^ (3 - k)) st = st := by
          rw [hN, Nat.mul_one]
          exact lane_not ha hl (by rw [h3] at hak; exact hak) (by rw [h3] at he; exact he) (by rw [h3] at hn; exact hn) st
        exact nx σ (by rw [hz]; exact hb) (Ch.rf k σ)
    · rw [if_neg (by rw [decide_eq_false h3]; decide), t1]
      exact nx τ t2 t3
theorem try8 {A B : Nat → Int32} {fl : Int32 → Int32} {s : Int32} {q : Nat} (hq : q < 8) (gA : GR A) : ∀ (e k D : Nat), k + e = 3 → e < D → TL A B fl s q (g_X2_tryLanes D) k := by
  intro e
  induction e with
  | zero =>
    intro k D hk hD a σ st ha hak hS hb h63 hn
    obtain ⟨D, rfl⟩ : ∃ n', D = n' + 1 := ⟨D - 1, by omega⟩
    obtain ⟨τ, t1, t2, t3⟩ := lanes8 (rec := g_X2_tryLanes D) hq gA (by omega) (fun h => by omega) ha hak hn 6 FU σ st (by omega) (by unfold FU; omega) hS hb h63
    refine ⟨τ, ?_, ?_, t3⟩
    · rw [g_X2_tryLanes]
      unfold b_X2_tryLanes f_X2_tryLanes_L34
      rw [out_eq, bind_s, show isO (nI k) 0 3 = false from isO_lit (n := 3) (by omega) (by omega), if_neg (by decide), hS.2.1, nmR_b, onN_1, hS.2.2.1, nmR_b, onN_1, if_pos (by rw [show k = 3 by omega]; rfl), ← t1, decide_eq_true (show k = 3 by omega)]
      rfl
    · rw [show 6 ^ (4 - k) = 6 * 6 ^ (3 - k) by rw [show k = 3 by omega]]
      have t2' := t2
      rw [show a + (6 - 6) * 6 ^ (3 - k) = a by omega] at t2'
      exact t2'
  | succ e ih =>
    intro k D hk hD a σ st ha hak hS hb h63 hn
    obtain ⟨D, rfl⟩ : ∃ n', D = n' + 1 := ⟨D - 1, by omega⟩
    obtain ⟨τ, t1, t2, t3⟩ := lanes8 (rec := g_X2_tryLanes D) hq gA (by omega) (fun h => ih (k + 1) D (by omega) (by omega)) ha hak hn 6 FU σ st (by omega) (by unfold FU; omega) hS hb h63
    refine ⟨τ, ?_, ?_, t3⟩
    · rw [g_X2_tryLanes]
      unfold b_X2_tryLanes f_X2_tryLanes_L34
      rw [out_eq, bind_s, show isO (nI k) 0 3 = false from isO_lit (n := 3) (by omega) (by omega), if_neg (by decide), hS.2.1, nmR_b, onN_1, hS.2.2.1, nmR_b, onN_1, if_neg (nI_ne (3 : Int32) 3 rfl (by omega) (by omega) (by omega)), ← t1, decide_eq_false (show ¬ k = 3 by omega)]
      rfl
    · rw [show 6 ^ (4 - k) = 6 * 6 ^ (3 - k) by rw [show 4 - k = (3 - k) + 1 by omega, Nat.pow_succ, Nat.mul_comm]]
      have t2' := t2
      rw [show a + (6 - 6) * 6 ^ (3 - k) = a by omega] at t2'
      exact t2'
