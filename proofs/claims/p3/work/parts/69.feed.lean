/-! A new swimmer; bytes to the tape. -/
theorem byte_k (a b : BitVec 64) (h : ∀ k, k < 8 → a.getLsbD k = b.getLsbD k) : a.signExtend 32 &&& 255#32 = (b &&& 255#64).signExtend 32 := by
  apply BitVec.eq_of_getLsbD_eq
  intro k hk
  have e32 : (255#32 : BitVec 32).getLsbD k = decide (k < 8) := (show ∀ k, k < 32 → (255#32 : BitVec 32).getLsbD k = decide (k < 8) by decide) k hk
  have e64 : (255#64 : BitVec 64).getLsbD k = decide (k < 8) := (show ∀ k, k < 32 → (255#64 : BitVec 64).getLsbD k = decide (k < 8) by decide) k hk
  rw [BitVec.getLsbD_and, BitVec.getLsbD_signExtend, BitVec.getLsbD_signExtend, BitVec.getLsbD_and, e32, e64]
  have h64 : k < 64 := by omega
  by_cases h8 : k < 8
  · rw [if_pos h64, if_pos h64, h k h8, decide_eq_true h8]
    simp [hk]
  · rw [if_pos h64, if_pos h64, decide_eq_false h8]
    simp
theorem byte_eq (x : Int64) : ∀ i, i < 8 → Int64.toInt32 (lushr x (8 * nI i)) &&& 255 = Int64.toInt32 (lshr x (8 * nI i) &&& 255) := by
  intro i hi
  have key : ∀ n : Nat, n ≤ 56 → ∀ k, k < 8 → (x.toBitVec >>> n).getLsbD k = (x.toBitVec.sshiftRight n).getLsbD k := by
    intro n hn k hk
    rw [BitVec.getLsbD_ushiftRight, BitVec.getLsbD_sshiftRight]
    simp [show n + k < 64 by omega, show ¬ 64 ≤ k by omega]
  rcases (show i = 0 ∨ i = 1 ∨ i = 2 ∨ i = 3 ∨ i = 4 ∨ i = 5 ∨ i = 6 ∨ i = 7 by omega) with rfl | rfl | rfl | rfl | rfl | rfl | rfl | rfl
  · exact Int32.toBitVec_inj.mp (byte_k _ _ (key 0 (by omega)))
  · exact Int32.toBitVec_inj.mp (byte_k _ _ (key 8 (by omega)))
  · exact Int32.toBitVec_inj.mp (byte_k _ _ (key 16 (by omega)))
  · exact Int32.toBitVec_inj.mp (byte_k _ _ (key 24 (by omega)))
  · exact Int32.toBitVec_inj.mp (byte_k _ _ (key 32 (by omega)))
  · exact Int32.toBitVec_inj.mp (byte_k _ _ (key 40 (by omega)))
  · exact Int32.toBitVec_inj.mp (byte_k _ _ (key 48 (by omega)))
  · exact Int32.toBitVec_inj.mp (byte_k _ _ (key 56 (by omega)))
theorem byte_r (y : Int32) : isO (y &&& 255) 0 255 = false := by
  have h : (y &&& 255).toBitVec.toNat ≤ 255 := by
    show (y.toBitVec &&& 255#32).toNat ≤ 255
    rw [BitVec.toNat_and]
    exact Nat.and_le_right
  have e : y &&& 255 = nI (y &&& 255).toBitVec.toNat := by
    apply Int32.toBitVec_inj.mp
    apply BitVec.eq_of_toNat_eq
    show _ = (BitVec.ofNat 32 (y &&& 255).toBitVec.toNat).toNat
    rw [BitVec.toNat_ofNat, Nat.mod_eq_of_lt (by omega)]
  rw [e]
  exact isO_lit (n := 255) h (by omega)
theorem tape_n {V : Nat → Int32} (h : ∀ i, okv i (V i) = true) : ∃ t, t ≤ 50 ∧ V 14 = nI t := by
  have q := h 14
  unfold okv at q
  rw [if_neg (by decide), if_neg (by decide), if_pos rfl] at q
  exact isO_nI (n := 50) rfl (not_t q)
theorem okv_14 {t : Nat} (h : t ≤ 50) : okv 14 (nI t) = true := by
  unfold okv
  rw [if_neg (by decide), if_neg (by decide), if_pos rfl, show isO (nI t) 0 50 = false from isO_lit (n := 50) h (by omega)]
  rfl
theorem YS.tape {σ8 σ9 ω : Sto} (h : YS σ8 σ9 ω) {i : Nat} (hi : i < 50) {v : Int32} (hv : isO v 0 255 = false) : YS (sI σ8 10 i v) (sI σ9 82 (210 + i) v) (sI (sI ω 10 i v) 82 (210 + i) v) := h.two (upd_tape h.2.2.1 hi hv) (by decide) (by omega)
theorem feed_L (x : Int64) {m : Nat} (hm : m ≤ 8) : ∀ (d n n' : Nat) (t : Nat) (σ8 σ9 ω : Sto), d ≤ m → d < n → d < n' → t + d ≤ 50 → YS σ8 σ9 ω → σ9.1 82 14 = nI t →
    ∃ α β γ, f_X0_addToTape_L3 1 x (nI m) n (nI (m - d)) σ8 = some α ∧ f_X9_feed_L41 x (nI m) n' (nI (m - d)) σ9 = some (nI (t + d), β) ∧ YS α β γ ∧ K8 σ8 α ∧ K9 σ9 β ∧ β.1 82 14 = nI (t + d) := by
  intro d
  induction d with
  | zero =>
    intro n n' t σ8 σ9 ω _ h2 h2' _ h ht
    obtain ⟨n, rfl⟩ : ∃ k, n = k + 1 := ⟨n - 1, by omega⟩
    obtain ⟨n', rfl⟩ : ∃ k, n' = k + 1 := ⟨n' - 1, by omega⟩
    rw [f_X0_addToTape_L3, f_X9_feed_L41, if_pos (nI_le (by omega) (by omega)), if_pos (nI_le (by omega) (by omega)), rdA_82_14, bind_s, ht]
    exact ⟨_, _, _, rfl, rfl, h, K8.rf _, K9.rf _, ht⟩
  | succ d ih =>
    intro n n' t σ8 σ9 ω h1 h2 h2' h3 h ht
    obtain ⟨n, rfl⟩ : ∃ k, n = k + 1 := ⟨n - 1, by omega⟩
    obtain ⟨n', rfl⟩ : ∃ k, n' = k + 1 := ⟨n' - 1, by omega⟩
    have e1 : m - d = (m - (d + 1)) + 1 := by omega
    have h12 : σ8.1 1 12 = nI t := (h.r (i := 14) (j := 12) (by decide)).trans ht
    have y1 := h.tape (i := t) (by omega) (v := Int64.toInt32 (lshr x (8 * nI (m - (d + 1))) &&& 255)) (by rw [← byte_eq x _ (by omega)]; exact byte_r _)
    have y2 := y1.mp (i := 14) (j := 12) (by decide) (by decide) (v := nI (t + 1)) (okv_14 (by omega))
    obtain ⟨α, β, γ, z1, z2, z3, z4, z5, z6⟩ := ih n n' (t + 1) _ _ _ (by omega) (by omega) (by omega) (by omega) y2 (by rw [sI_at, if_pos rfl])
    refine ⟨α, β, γ, ?_, ?_, z3, ((K8.w _ (by decide)).tr (K8.w _ (by decide))).tr z4, ((K9.w _).tr (K9.w _)).tr z5, by rw [z6]; exact congrArg nI (by omega)⟩
    · rw [f_X0_addToTape_L3, if_neg (nI_ge (by omega) (by omega)), h12, if_neg (show ¬ (50 : Int32) ≤ nI t from nI_ge (b := 50) (by omega) (by omega)), show A0 1 11 = 10 by decide, wr_nI (by show t < 50; omega), bind_s, lp_b, byte_eq x _ (by omega), sI_ne (by decide), h12, nI_1, nI_1, ← e1]
      exact z1
    · rw [f_X9_feed_L41, if_neg (nI_ge (by omega) (by omega)), rdA_82_14, bind_s, ht, show (210 + nI t : Int32) = nI (210 + t) from nI_add 210 t, wr_nI (by show 210 + t < 270; omega), bind_s, rdA_82_14, bind_s, sI_nj (by omega), ht, nI_1, nI_1, wrA_82_14, bind_s, ← e1, show t + (d + 1) = t + 1 + d by omega]
      exact z2
theorem s_feed (a1 : Int64) (a2 : Int32) (b : Bool) : LPr (fun σ => f_X8_feed σ a1 a2) (fun σ => f_X9_feed σ a1 a2) b Inv Inv := by
  intro σ hI
  obtain ⟨t, ht, et⟩ := tape_n hI.1.ok
  have e12 : σ.1 1 12 = nI t := (hI.1.mp (i := 14) (j := 12) (by decide)).trans et
  cases hq : isO a2 1 8 with
  | true =>
    refine er_LPr (f := fun σ => f_X8_feed σ a1 a2) (g := fun σ => f_X9_feed σ a1 a2) (k := 1) hI ?_ ?_
    · show f_X8_feed σ a1 a2 = _
      unfold f_X8_feed
      rw [out_eq, bind_s, hq, if_pos rfl, r8_1, bind_s]
    · show f_X9_feed (rf σ 1) a1 a2 = _
      unfold f_X9_feed
      rw [in_1_8, bind_s, hq, if_neg (by decide), r9_1, bind_s]
  | false =>
    obtain ⟨m, hm, rfl⟩ : ∃ m, m ≤ 8 ∧ a2 = nI m := by
      simp only [isO, Bool.or_eq_false_iff, decide_eq_false_iff_not] at hq
      obtain ⟨q1, q2⟩ := hq
      obtain ⟨m, hm, e⟩ := nI_of (x := a2) (by
        intro z
        apply q1
        rw [Int32.lt_iff_toInt_lt] at z ⊢
        rw [show (0 : Int32).toInt = 0 from rfl] at z
        rw [show (1 : Int32).toInt = 1 from rfl]
        omega)
      refine ⟨m, ?_, e⟩
      rw [e] at q2
      have : ¬ nI 8 < nI m := q2
      rw [nI_ltI (by omega) hm] at this
      omega
    by_cases h50 : t + m ≤ 50
    · refine fin_ys (f := fun σ => f_X8_feed σ a1 (nI m)) (g := fun σ => f_X9_feed σ a1 (nI m)) hI (fun σ9 hk => ?_)
      have y1 := YS.st hI hk
      have d9 : σ9.1 82 14 = nI t := (hk 82 14 (by omega)).trans et
      obtain ⟨α, β, γ, z1, z2, z3, z4, z5, z6⟩ := feed_L a1 hm m FU FU t σ σ9 σ (by omega) (by unfold FU; omega) (by unfold FU; omega) h50 y1 d9
      rw [Nat.sub_self] at z1 z2
      refine ⟨nI (t + m), α, β, γ, ?_, ?_, z3, z4, z5⟩
      · show f_X8_feed σ a1 (nI m) = _
        unfold f_X8_feed f_X0_addToTape
        rw [out_eq, bind_s, hq, if_neg (by decide), e12, nI_add, if_pos (show nI (t + m) ≤ 50 from nI_le (b := 50) h50 (by omega)), show f_X0_addToTape_L3 1 a1 (nI m) FU 0 σ = some α from z1, bind_s, z3.r (i := 14) (j := 12) (by decide), z6]
      · show f_X9_feed σ9 a1 (nI m) = _
        unfold f_X9_feed
        rw [in_1_8, bind_s, hq, if_pos (by decide), rdA_82_14, bind_s, d9, nI_add, if_pos (show nI (t + m) ≤ 50 from nI_le (b := 50) h50 (by omega))]
        exact z2
    · refine er_LPr (f := fun σ => f_X8_feed σ a1 (nI m)) (g := fun σ => f_X9_feed σ a1 (nI m)) (k := 4) hI ?_ ?_
      · show f_X8_feed σ a1 (nI m) = _
        unfold f_X8_feed
        rw [out_eq, bind_s, hq, if_neg (by decide), e12, nI_add, if_neg (show ¬ nI (t + m) ≤ 50 from nI_ge (a := 50) (by omega) (by omega)), r8_4, bind_s]
      · show f_X9_feed (rf σ 4) a1 (nI m) = _
        unfold f_X9_feed
        rw [in_1_8, bind_s, hq, if_pos (by decide), rdA_82_14, bind_s, rf_at (by decide), et, nI_add, if_neg (show ¬ nI (t + m) ≤ 50 from nI_ge (a := 50) (by omega) (by omega)), r9_4, bind_s]
