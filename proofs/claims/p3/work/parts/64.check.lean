/-! Rows copied whole; the check. -/
theorem copies_L {a b : Nat} (ha : Ln0 a = 270) (hb : Ln0 b = 270) (hab : a ≠ b) : ∀ (d n : Nat) (σ : Sto), d ≤ 270 → d < n → ∃ τ, f_X9_copies_L2 a b n (nI (270 - d)) σ = some τ ∧ (∀ j, τ.1 b j = if 270 - d ≤ j ∧ j < 270 then σ.1 a j else σ.1 b j) ∧ ∀ k j, k ≠ b → τ.1 k j = σ.1 k j := by
  intro d
  induction d with
  | zero =>
    intro n σ _ h2
    obtain ⟨n, rfl⟩ : ∃ n', n = n' + 1 := ⟨n - 1, by omega⟩
    rw [f_X9_copies_L2, if_pos (by decide)]
    exact ⟨σ, rfl, fun j => by rw [if_neg (by omega)], fun _ _ _ => rfl⟩
  | succ d ih =>
    intro n σ h1 h2
    obtain ⟨n, rfl⟩ : ∃ n', n = n' + 1 := ⟨n - 1, by omega⟩
    have e1 : 270 - d = (270 - (d + 1)) + 1 := by omega
    rw [f_X9_copies_L2, if_neg (show ¬ (270 : Int32) ≤ nI (270 - (d + 1)) from nI_ge (b := 270) (by omega) (by omega)), rd_nI (by rw [ha]; omega), bind_s, wr_nI (by rw [hb]; omega), bind_s, nI_1, ← e1]
    obtain ⟨τ, t1, t2, t3⟩ := ih n (sI σ b (270 - (d + 1)) (σ.1 a (270 - (d + 1)))) (by omega) (by omega)
    refine ⟨τ, t1, fun j => ?_, fun k j hk => by rw [t3 k j hk, sI_ne hk]⟩
    rw [t2 j, sI_ne hab, sI_at]
    by_cases h : 270 - d ≤ j ∧ j < 270
    · rw [if_pos h, if_pos (by omega)]
    · rw [if_neg h]
      by_cases h' : j = 270 - (d + 1)
      · rw [if_pos h', if_pos (by omega), h']
      · rw [if_neg h', if_neg (by omega)]
theorem copies9 {a b : Nat} (ha : Ln0 a = 270) (hb : Ln0 b = 270) (hab : a ≠ b) (σ : Sto) : ∃ τ, f_X9_copies σ a b = some τ ∧ (∀ j, τ.1 b j = if j < 270 then σ.1 a j else σ.1 b j) ∧ ∀ k j, k ≠ b → τ.1 k j = σ.1 k j := by
  obtain ⟨τ, t1, t2, t3⟩ := copies_L ha hb hab 270 FU σ (by omega) (by unfold FU; omega)
  refine ⟨τ, t1, fun j => ?_, t3⟩
  rw [t2 j]
  by_cases h : j < 270
  · rw [if_pos (by omega), if_pos h]
  · rw [if_neg (by omega), if_neg h]
/-- a year of the reference alone -/
theorem goesR {σ : Sto} (hc0 : CW (σ.1 82) 0) (hc1 : CW (σ.1 82) 1) {p q : Nat} (hp : p < 8) (hq : q < 8) (gA : GR (S9 (σ.1 82) p)) (gB : GR (S9 (σ.1 82) q)) (hu : ¬ S9 (σ.1 82) p 2 = S9 (σ.1 82) q 2) :
    ∃ τ, f_X9_goesBy σ (nI p) (nI q) = some τ ∧ K9 σ τ ∧ (∀ j, τ.1 83 j = σ.1 83 j) ∧ ∀ j, j ≠ 8 → j ≠ 9 → j ≠ 10 → j ≠ 11 → j ≠ 16 + 9 * p + 4 → j ≠ 16 + 9 * q + 4 → τ.1 82 j = σ.1 82 j := by
  have share : ∀ χ : Sto, CW (χ.1 82) 1 → ∃ τ, f_X9_goesBy_L60 χ = some τ ∧ K9 χ τ ∧ (∀ j, τ.1 83 j = χ.1 83 j) ∧ ∀ j, j ≠ 9 → j ≠ 10 → j ≠ 11 → τ.1 82 j = χ.1 82 j := by
    intro χ hc
    obtain ⟨τ9, u1, u2, u3⟩ := g9 (Or.inr rfl) hc (χ.1 82 8) (χ.1 82 11) (χ.1 82 6)
    unfold f_X9_goesBy_L60
    rw [rdA_82_8, bind_s, rdA_82_11, bind_s, rdA_82_6, bind_s, show f_X9_gives χ 1 _ _ _ = _ from u1, bind_s, rdA_82_9, bind_s, imin_lesser, bind_s, wrA_82_9, bind_s, rdA_82_10, bind_s, imin_lesser, bind_s, wrA_82_10, bind_s, rdA_82_11, bind_s, wrA_82_11, bind_s]
    exact ⟨_, rfl, ((u2.k9.tr (K9.w _)).tr (K9.w _)).tr (K9.w _), fun j => by rw [sI_ne (by decide), sI_ne (by decide), sI_ne (by decide), u3 83 j (by decide) (by decide)], fun j h1 h2 h3 => by rw [sI_nj h3, sI_nj h2, sI_nj h1, u3 82 j (by decide) (by decide)]⟩
  obtain ⟨χ, x1, x2, x3⟩ := swim9 hc0 hp hq gA gB hu
  have d0 : χ.1 82 = σ.1 82 := x2.d
  have s83 : ∀ j, χ.1 83 j = σ.1 83 j := fun j => x2 83 j (by decide) (by decide) (by omega)
  unfold f_X9_goesBy
  rw [x1, bind_s]
  cases hm : met (S9 (σ.1 82) p) (S9 (σ.1 82) q) (flV (σ.1 82) (σ.1 82 6)) (σ.1 82 7) with
  | none =>
    obtain ⟨τ, z1, z2, z3, z4⟩ := share χ (by rw [d0]; exact hc1)
    rw [if_neg (show ¬ (none : Option Nat).isSome = true by decide)]
    exact ⟨τ, z1, x2.fr.k9.tr z2, fun j => by rw [z3, s83], fun j _ h9 h10 h11 _ _ => by rw [z4 j h9 h10 h11, d0]⟩
  | some u =>
    have o1 : f_X9_of (sI χ 82 8 (χ.1 81 16)) (nI p) 4 = some (S9 ((sI χ 82 8 (χ.1 81 16)).1 82) p 4) := of_eq hp (j := 4) (by omega)
    generalize imin 9999 (S9 ((sI χ 82 8 (χ.1 81 16)).1 82) p 4 + 1) = c1
    have b1 : ∀ c1, f_X9_becomes (sI χ 82 8 (χ.1 81 16)) (nI p) 4 c1 = some (sI (sI χ 82 8 (χ.1 81 16)) 82 (16 + 9 * p + 4) c1) := fun c1 => bec_eq hp (j := 4) (by omega) _
    have o2 : ∀ c1, f_X9_of (sI (sI χ 82 8 (χ.1 81 16)) 82 (16 + 9 * p + 4) c1) (nI q) 4 = some (S9 ((sI (sI χ 82 8 (χ.1 81 16)) 82 (16 + 9 * p + 4) c1).1 82) q 4) := fun c1 => of_eq hq (j := 4) (by omega)
    have b2 : ∀ c1 c2, f_X9_becomes (sI (sI χ 82 8 (χ.1 81 16)) 82 (16 + 9 * p + 4) c1) (nI q) 4 c2 = some (sI (sI (sI χ 82 8 (χ.1 81 16)) 82 (16 + 9 * p + 4) c1) 82 (16 + 9 * q + 4) c2) := fun c1 c2 => bec_eq hq (j := 4) (by omega) _
    rw [if_pos (show (some u).isSome = true from rfl), wrA_82_8, bind_s, o1, bind_s, imin_lesser, bind_s, b1, bind_s, o2, bind_s, imin_lesser, bind_s, b2, bind_s]
    generalize hω : sI (sI (sI χ 82 8 (χ.1 81 16)) 82 (16 + 9 * p + 4) _) 82 (16 + 9 * q + 4) _ = ω
    have w1 : ∀ j, j ≠ 8 → j ≠ 16 + 9 * p + 4 → j ≠ 16 + 9 * q + 4 → ω.1 82 j = σ.1 82 j := fun j h1 h2 h3 => by rw [← hω, sI_nj h3, sI_nj h2, sI_nj h1, d0]
    have w2 : K9 χ ω := by rw [← hω]; exact ((K9.w _).tr (K9.w _)).tr (K9.w _)
    have w3 : ∀ j, ω.1 83 j = χ.1 83 j := fun j => by rw [← hω, sI_ne (by decide), sI_ne (by decide), sI_ne (by decide)]
    obtain ⟨τ, z1, z2, z3, z4⟩ := share ω (hc1.vc (by omega) (fun i hi => w1 i (by omega) (by omega) (by omega)))
    exact ⟨τ, z1, (x2.fr.k9.tr w2).tr z2, fun j => by rw [z3, w3, s83], fun j h8 h9 h10 h11 hp hq => by rw [z4 j h9 h10 h11, w1 j h8 hp hq]⟩
theorem check8_L (v3 v6 : Int32) : ∀ (d n : Nat) (σ : Sto), d ≤ 20 → d < n → ∃ v, f_X8_check_L113 v3 v6 n (nI (20 - d)) σ = some (v, σ) := by
  intro d
  induction d with
  | zero =>
    intro n σ _ h2
    obtain ⟨n, rfl⟩ : ∃ n', n = n' + 1 := ⟨n - 1, by omega⟩
    rw [f_X8_check_L113]
    by_cases h : v3 ≤ nI (20 - 0)
    · rw [if_pos h]; exact ⟨_, rfl⟩
    · rw [if_neg h, if_pos (by decide)]; exact ⟨_, rfl⟩
  | succ d ih =>
    intro n σ h1 h2
    obtain ⟨n, rfl⟩ : ∃ n', n = n' + 1 := ⟨n - 1, by omega⟩
    have e1 : 20 - d = (20 - (d + 1)) + 1 := by omega
    rw [f_X8_check_L113]
    by_cases h : v3 ≤ nI (20 - (d + 1))
    · rw [if_pos h]; exact ⟨_, rfl⟩
    · rw [if_neg h, if_neg (show ¬ (20 : Int32) ≤ nI (20 - (d + 1)) from nI_ge (b := 20) (by omega) (by omega))]
      unfold f_X8_check_L147
      by_cases h' : (9999 : Int32) ≤ σ.1 1 4 + nI (20 - (d + 1))
      · rw [if_pos h', if_neg (by decide)]; exact ⟨_, rfl⟩
      · rw [if_neg h', if_pos rfl, rd_nI (by show 20 - (d + 1) < 20; omega), bind_s]
        by_cases h'' : σ.1 11 (20 - (d + 1)) = v6
        · rw [if_pos h'', nI_1, ← e1]
          exact ih n σ (by omega) (by omega)
        · rw [if_neg h'']; exact ⟨_, rfl⟩
/-- the reference's state while it checks: its row was V -/
def CS (σ0 : Sto) (V : Nat → Int32) (p q : Nat) (σ : Sto) : Prop := K9 σ0 σ ∧ (∀ j, j < 270 → σ.1 83 j = V j) ∧ ∀ j, j ≠ 8 → j ≠ 9 → j ≠ 10 → j ≠ 11 → j ≠ 16 + 9 * p + 4 → j ≠ 16 + 9 * q + 4 → σ.1 82 j = V j
theorem back9 {σ0 σ : Sto} {V : Nat → Int32} (h0 : σ0.1 82 = V) (hk : K9 σ0 σ) (h83 : ∀ j, j < 270 → σ.1 83 j = V j) (hV : ∀ j, 270 ≤ j → σ.1 82 j = V j) : ∃ τ, f_X9_copies σ 83 82 = some τ ∧ Fr σ0 τ := by
  obtain ⟨τ, t1, t2, t3⟩ := copies9 (a := 83) (b := 82) (by decide) (by decide) (by decide) σ
  refine ⟨τ, t1, fun k j hs => ?_⟩
  by_cases hk' : k = 82
  · subst hk'
    rw [t2 j, h0]
    by_cases h : j < 270
    · rw [if_pos h, h83 j h]
    · rw [if_neg h, hV j (by omega)]
  · rw [t3 k j hk', hk k j hk' hs]
theorem check9_L {V : Nat → Int32} (ok : ∀ i, okv i (V i) = true) (hc0 : CW V 0) (hc1 : CW V 1) {p q : Nat} (hp : p < 8) (hq : q < 8) (hu : ¬ S9 V p 2 = S9 V q 2) {σ0 : Sto} (h0 : σ0.1 82 = V) {c : Nat} (hc : c ≤ 20) : ∀ (d n : Nat) (v4 : Int32) (σ : Sto), d ≤ c → d < n → CS σ0 V p q σ →
    ∃ v τ, f_X9_check_L48 (nI p) (nI q) (nI c) n v4 (nI (c - d)) σ = some (v, τ) ∧ Fr σ0 τ := by
  have stop : ∀ (σ : Sto) (v4 : Int32), CS σ0 V p q σ → ∃ v τ, (f_X9_copies σ 83 82).bind (fun r109 => some (v4, r109)) = some (v, τ) ∧ Fr σ0 τ := by
    intro σ v4 h
    obtain ⟨τ, t1, t2⟩ := back9 h0 h.1 h.2.1 (fun j hj => h.2.2 j (by omega) (by omega) (by omega) (by omega) (by omega) (by omega))
    rw [t1, bind_s]
    exact ⟨_, τ, rfl, t2⟩
  intro d
  induction d with
  | zero =>
    intro n v4 σ _ h2 h
    obtain ⟨n, rfl⟩ : ∃ n', n = n' + 1 := ⟨n - 1, by omega⟩
    rw [f_X9_check_L48, if_pos (nI_le (by omega) (by omega))]
    exact stop σ v4 h
  | succ d ih =>
    intro n v4 σ h1 h2 h
    obtain ⟨n, rfl⟩ : ∃ n', n = n' + 1 := ⟨n - 1, by omega⟩
    have e1 : c - d = (c - (d + 1)) + 1 := by omega
    rw [f_X9_check_L48, if_neg (nI_ge (by omega) (by omega))]
    by_cases hz : v4 = 0
    · obtain ⟨k1, k2, k3⟩ := h
      have gr : ∀ r, r < 8 → GR (S9 (σ.1 82) r) := by
        intro r hr j hj
        by_cases h4 : j = 4
        · subst h4
          unfold oks
          rw [if_neg (by omega), if_neg (by omega), if_neg (by omega), if_neg (by omega)]
        · unfold S9
          rw [k3 _ (by omega) (by omega) (by omega) (by omega) (by omega) (by omega)]
          exact gr9 ok hr j hj
      have s2 : ∀ r, S9 (σ.1 82) r 2 = S9 V r 2 := fun r => k3 _ (by omega) (by omega) (by omega) (by omega) (by omega) (by omega)
      obtain ⟨τ, t1, t2, t3, t4⟩ := goesR (σ := σ) (hc0.vc (by omega) (fun i hi => k3 i (by omega) (by omega) (by omega) (by omega) (by omega) (by omega))) (hc1.vc (by omega) (fun i hi => k3 i (by omega) (by omega) (by omega) (by omega) (by omega) (by omega))) hp hq (gr p hp) (gr q hq) (by rw [s2, s2]; exact hu)
      have hτ : CS σ0 V p q τ := ⟨k1.tr t2, fun j hj => by rw [t3, k2 j hj], fun j a1 a2 a3 a4 a5 a6 => by rw [t4 j a1 a2 a3 a4 a5 a6, k3 j a1 a2 a3 a4 a5 a6]⟩
      rw [if_pos hz, t1, bind_s, rdA_82_8, bind_s, show (90 + nI (c - (d + 1)) : Int32) = nI (90 + (c - (d + 1))) from nI_add 90 _, rd_nI (by show 90 + (c - (d + 1)) < 270; omega), bind_s]
      unfold f_X9_check_L93
      rw [nI_1, ← e1]
      by_cases hx : τ.1 82 8 = τ.1 82 (90 + (c - (d + 1)))
      · rw [if_pos hx]; exact ih n _ τ (by omega) (by omega) hτ
      · rw [if_neg hx]; exact ih n _ τ (by omega) (by omega) hτ
    · rw [if_neg hz]
      exact stop σ v4 h
theorem cnt_n {V : Nat → Int32} (h : ∀ i, okv i (V i) = true) : ∃ c, c ≤ 20 ∧ V 15 = nI c := by
  have q := h 15
  unfold okv at q
  rw [if_neg (by decide), if_neg (by decide), if_neg (by decide), if_pos rfl] at q
  exact isO_nI (n := 20) rfl (not_t q)
theorem ok_15 : okv 15 0 = true := by decide
theorem s_check (a1 a2 : Int32) : LPr (fun σ => f_X8_check σ a1 a2) (fun σ => f_X9_check σ a1 a2) false Inv Inv := by
  intro σ hI
  obtain ⟨c, hc, ec⟩ := cnt_n hI.1.ok
  have hω := upd_mp hI (i := 15) (j := 14) (by decide) (by decide) ok_15
  generalize hω' : sI (sI σ 1 14 0) 82 15 0 = ω at hω
  generalize hρ : sI σ 1 14 0 = ρ at *
  have dρ : ρ.1 82 = σ.1 82 := by rw [← hρ]; funext j; rw [sI_ne (by decide)]
  have dω : ∀ j, j ≠ 15 → ω.1 82 j = σ.1 82 j := fun j hj => by rw [← hω', sI_nj hj, dρ]
  have oω : ∀ k j, k ≠ 82 → ω.1 k j = ρ.1 k j := fun k j hk => by rw [← hω', sI_ne hk]
  -- the reference's store, after the class's
  have fin9 : ∀ τ : Sto, Fr ρ τ → Fr ω (sI τ 82 15 0) := fun τ f k j hs => by
    by_cases hk : k = 82
    · subst hk
      rw [← hω', sI_at, sI_at, f.d]
    · rw [sI_ne hk, oω k j hk, f k j hs]
  rcases unl_c hω.1 a1 a2 with ⟨hn, ⟨r5, r15, e1, e2, e3⟩, e4⟩ | ⟨p, q, hp, hq, hpN, hqN, rfl, rfl, hu, hn, e1, e2, e3, e4⟩
  · have s1 : f_X8_check σ a1 a2 = some (-1000000000 - nI 1, rf ρ 1) := by
      unfold f_X8_check
      have e3' : f_X8_areUnlike ρ r5 r15 = some false := by
        rw [← e3]
        cases r5 with
        | none => rfl
        | some k =>
          cases r15 with
          | none => rfl
          | some k' =>
            have sw : ∀ a k, f_X0_swimmerAt ω 1 a = some (some k) → ω.1 k 2 = ρ.1 k 2 := by
              intro a k q1
              rcases sA8 hω.1 a with ⟨-, e⟩ | ⟨p, hp, -, -, -, e⟩
              · rw [e] at q1; cases q1
              · rw [e] at q1
                cases q1
                exact oω _ _ (by omega)
            unfold f_X8_areUnlike
            rw [onN_1, onN_1, onN_1, onN_1, sw a1 k e1, sw a2 k' e2]
      rw [lp_b, hρ, sA_eq (oω 1 8 (by decide)).symm, e1, bind_s, sA_eq (oω 1 8 (by decide)).symm, e2, bind_s, e3', bind_s, if_neg (by decide), r8_1, bind_s]
    have e4' : f_X9_areUnlike (sI (rf ρ 1) 82 15 0) a1 a2 = some false := by
      rw [← e4]
      have o : ∀ a b, f_X9_of (sI (rf ρ 1) 82 15 0) a b = f_X9_of ω a b := by
        intro a b
        have e : (sI (rf ρ 1) 82 15 0).1 82 = ω.1 82 := by rw [← hω']; funext j; rw [sI_at, sI_at, rf_at (by decide)]
        unfold f_X9_of rdA
        rw [e]
      have e : (sI (rf ρ 1) 82 15 0).1 82 = ω.1 82 := by rw [← hω']; funext j; rw [sI_at, sI_at, rf_at (by decide)]
      unfold f_X9_areUnlike
      rw [isS_eq, isS_eq, isS_eq, isS_eq, e, o, o]
    refine ⟨_, (-1000000000 - nI 1, fi (sI (rf ρ 1) 82 15 0) 1), s1, ?_, (fun h => (by cases h)), ?_⟩
    · show f_X9_check (rf ρ 1) a1 a2 = _
      unfold f_X9_check
      rw [rdA_82_15, bind_s, wrA_82_15, bind_s, e4', bind_s, if_neg (by decide), r9_1, bind_s]
    · refine (inv_err hω (Fr.rf ω) (Fr.rf (rf ω 1))).fr (fun k j hs => ?_)
      have x : ∀ (χ : Sto), (fi χ 1).1 k j = if k = 85 ∧ j = 1 then χ.1 85 1 + 1 else χ.1 k j := fun χ => rfl
      have y : ∀ (χ : Sto) k j, (rf χ 1).1 k j = if k = 68 ∧ j = 1 then χ.1 68 1 + 1 else χ.1 k j := fun χ k j => rfl
      rw [x, x, ← hω']
      by_cases h85 : k = 85 ∧ j = 1
      · rw [if_pos h85, if_pos h85, sI_ne (by decide), y, y, sI_ne (by decide), sI_ne (by decide)]
      · rw [if_neg h85, if_neg h85, y]
        by_cases h68 : k = 68 ∧ j = 1
        · rw [if_pos h68, sI_ne (by omega), y, if_pos h68, sI_ne (by decide)]
        · rw [if_neg h68]
          by_cases hk : k = 82
          · subst hk; rw [sI_at, sI_at, y, if_neg h68]
          · rw [sI_ne hk, y, if_neg h68, sI_ne hk]
  · have hv : Vc (ρ.1 82) (ω.1 82) := ⟨fun i hi => by rw [dρ, dω i (by omega)], fun i hi => by rw [dρ, dω i (by omega)]⟩
    have icρ : Ic ρ := hI.1.ic.keep (fun k j hk => by rw [← hρ, sI_ne (by omega)])
    have e3' : f_X8_areUnlike ρ (some (12 + 2 * p)) (some (12 + 2 * q)) = some true := by
      rw [← e3]
      unfold f_X8_areUnlike
      rw [onN_1, onN_1, onN_1, onN_1, oω _ _ (by omega), oω _ _ (by omega)]
    have S : ∀ r, r < 8 → S8 ρ (12 + 2 * r) = S8 ω (12 + 2 * r) := fun r hr => S8_congr (fun j => (oω _ j (by omega)).symm) (fun j => (oω _ j (by omega)).symm)
    obtain ⟨τ, υ, t1, t2, t3, t4⟩ := meetW icρ (V := ρ.1 82) (w := ρ.1 1 1) (s := ρ.1 1 2) rfl (K12 p hp) (K12 q hq) (by omega) (by omega) (by rw [S p hp]; exact sw_Eq9 hω.1 hpN) (by rw [S q hq]; exact sw_Eq9 hω.1 hqN) (gr9 hω.1.ok hp) (gr9 hω.1.ok hq) rfl
    have f8 : Fr ρ υ := fr_m t3
    obtain ⟨v, hv8⟩ : ∃ v, f_X8_check σ (nI p) (nI q) = some (v, υ) := by
      unfold f_X8_check f_X8_check_L108
      rw [lp_b, hρ, sA_eq (oω 1 8 (by decide)).symm, e1, bind_s, sA_eq (oω 1 8 (by decide)).symm, e2, bind_s, e3', bind_s, if_pos rfl, t1, bind_s, deref6 (K12 p hp), deref6 (K12 q hq), t2, bind_s]
      cases (met (S9 (ω.1 82) p) (S9 (ω.1 82) q) (flV (ρ.1 82) (ρ.1 1 1)) (ρ.1 1 2)).isSome with
      | true => rw [if_pos rfl]; exact check8_L _ _ 20 FU υ (by omega) (by unfold FU; omega)
      | false => rw [if_neg (show ¬ (false, υ).1 = true from Bool.false_ne_true)]; exact check8_L _ _ 20 FU υ (by omega) (by unfold FU; omega)
    have fX := fin9 υ f8
    have dX : (sI υ 82 15 0).1 82 = ω.1 82 := fX.d
    have e4' : f_X9_areUnlike (sI υ 82 15 0) (nI p) (nI q) = some true := by
      rw [← e4]
      have o : ∀ a b, f_X9_of (sI υ 82 15 0) a b = f_X9_of ω a b := by
        intro a b
        unfold f_X9_of rdA
        rw [dX]
      unfold f_X9_areUnlike
      rw [isS_eq, isS_eq, isS_eq, isS_eq, dX, o, o]
    obtain ⟨χ, c1, c2, c3⟩ := copies9 (a := 82) (b := 83) (by decide) (by decide) (by decide) (sI υ 82 15 0)
    have hCS : CS ω (ω.1 82) p q χ := ⟨fun k j hk hs => by
        rw [c3 k j (by rintro rfl; simp [scr] at hs)]
        exact fX k j hs, fun j hj => by rw [c2 j, if_pos hj, dX], fun j _ _ _ _ _ _ => by rw [c3 82 j (by decide), dX]⟩
    have e15 : υ.1 82 15 = nI c := by rw [f8 82 15 (by decide), dρ, ec]
    obtain ⟨w, τ', z1, z2⟩ := check9_L hω.1.ok hω.1.cd.1.cw hω.1.cd.2.cw hp hq hu rfl hc c FU 0 χ (by omega) (by unfold FU; omega) hCS
    refine ⟨_, (w, τ'), hv8, ?_, fun h => (by cases h), hω.fr z2⟩
    show f_X9_check υ (nI p) (nI q) = _
    unfold f_X9_check
    rw [rdA_82_15, bind_s, wrA_82_15, bind_s, e4', bind_s, if_pos rfl, c1, bind_s, e15]
    rw [Nat.sub_self] at z1
    exact z1
