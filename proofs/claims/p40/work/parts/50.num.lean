/-! Numbers; reads and writes at written places. -/
def isO (v l h : Int32) : Bool := decide (v < l) || decide (h < v)
theorem out_eq (v l h : Int32) : f_X8_isOutside v l h = some (isO v l h) := by
  unfold f_X8_isOutside f_X8_isOutside_L10 isO
  by_cases h1 : v < l
  · simp [h1]
  · by_cases h2 : v ≤ h
    · have h3 : ¬ h < v := Int32.not_lt.mpr h2
      simp [h1, h2, h3]
    · have h3 : h < v := Int32.not_le.mp h2
      simp [h1, h2, h3]
theorem lg_lt (x y : Int64) : lg_cmp x y < 0 ↔ x < y := by
  have h := lg_cmp_ge x y
  rw [← Int32.not_le, h, Int64.not_le]
theorem lg_gt (x y : Int64) : 0 < lg_cmp x y ↔ y < x := by
  have h := lg_cmp_le x y
  rw [← Int32.not_le, h, Int64.not_le]
theorem lt64 (x y : Int32) : x.toInt64 < y.toInt64 ↔ x < y := by
  rw [Int64.lt_iff_toInt_lt, Int32.lt_iff_toInt_lt, Int32.toInt_toInt64, Int32.toInt_toInt64]
theorem in_eq (v l h : Int32) : f_X9_in v.toInt64 l.toInt64 h.toInt64 = some (!isO v l h) := by
  unfold f_X9_in isO
  by_cases h1 : v < l
  · rw [if_pos ((lg_lt _ _).mpr ((lt64 _ _).mpr h1))]
    simp [h1]
  · rw [if_neg (fun q => h1 ((lt64 _ _).mp ((lg_lt _ _).mp q)))]
    by_cases h2 : h < v
    · rw [if_pos ((lg_gt _ _).mpr ((lt64 _ _).mpr h2))]
      simp [h1, h2]
    · rw [if_neg (fun q => h2 ((lt64 _ _).mp ((lg_gt _ _).mp q)))]
      simp [h1, h2]
theorem in_0d (v h : Int32) : f_X9_in v.toInt64 (0 : Int64) h.toInt64 = some (!isO v 0 h) := in_eq v 0 h
theorem isO_f {v l h : Int32} (q : isO v l h = false) : l ≤ v ∧ v ≤ h := by
  simp only [isO, Bool.or_eq_false_iff, decide_eq_false_iff_not, Int32.not_lt] at q
  exact q
theorem isO_nI {v : Int32} {h : Int32} {n : Nat} (hh : h.toInt = n) (q : isO v 0 h = false) : ∃ j, j ≤ n ∧ v = nI j := by
  obtain ⟨h1, h2⟩ := isO_f q
  exact nI_of2 hh (Int32.not_lt.mpr h1) h2
theorem inB_nI {j n : Nat} (h : j < n) (hn : n < 2 ^ 31) : inB (nI j) n = true := by
  simp only [inB, Bool.and_eq_true, decide_eq_true_eq]
  exact ⟨nI_pos (by omega), by rw [nI_clamp (by omega)]; exact h⟩
theorem Ln0_lt (k : Nat) : Ln0 k < 1000 := by
  by_cases h : k < 94
  · exact (show ∀ k, k < 94 → Ln0 k < 1000 by decide +kernel) k h
  · have : Ln0 k = 0 := by
      have hl : Ln0L.length ≤ k := Nat.le_trans (by decide) (Nat.not_lt.mp h)
      simp [Ln0, List.getD_eq_getElem?_getD, hl]
    omega
theorem rd_nI {σ : Sto} {k j : Nat} (h : j < Ln0 k) : rdA σ k (nI j) = some (σ.1 k j) := by
  have := Ln0_lt k
  unfold rdA
  rw [if_pos (inB_nI h (by omega)), nI_clamp (by omega)]
theorem wr_nI {σ : Sto} {k j : Nat} {x : Int32} (h : j < Ln0 k) : wrA σ k (nI j) x = some (sI σ k j x) := by
  have := Ln0_lt k
  unfold wrA
  rw [if_pos (inB_nI h (by omega)), nI_clamp (by omega)]
theorem rdC_nI {f : Nat → Int32} {n j : Nat} (h : j < n) (hn : n < 1000) : rdC f n (nI j) = some (f j) := by
  unfold rdC
  rw [if_pos (inB_nI h (by omega)), nI_clamp (by omega)]
theorem rdR_nI {k j : Nat} (h : j < Ln0 k) : rdR k (nI j) = some (R0 k j) := by
  have := Ln0_lt k
  unfold rdR
  rw [if_pos (inB_nI h (by omega)), nI_clamp (by omega)]
theorem bind_s {α β : Type} (a : α) (f : α → Option β) : (some a).bind f = f a := rfl
theorem lp_eq {γ : Type} (x : Sto) (f : Sto → γ) : lp x f = f x := rfl
theorem in_0_5 (v : Int32) : f_X9_in v.toInt64 (0 : Int64) (5 : Int64) = some (!isO v 0 5) := in_eq v (0) 5
theorem in_48_57 (v : Int32) : f_X9_in v.toInt64 (48 : Int64) (57 : Int64) = some (!isO v 48 57) := in_eq v (48) 57
theorem in_1_8 (v : Int32) : f_X9_in v.toInt64 (1 : Int64) (8 : Int64) = some (!isO v 1 8) := in_eq v (1) 8
theorem in_0_1 (v : Int32) : f_X9_in v.toInt64 (0 : Int64) (1 : Int64) = some (!isO v 0 1) := in_eq v (0) 1
theorem in_m9_9 (v : Int32) : f_X9_in v.toInt64 (-9 : Int64) (9 : Int64) = some (!isO v (-9) 9) := in_eq v (-9) 9
theorem in_m3_3 (v : Int32) : f_X9_in v.toInt64 (-3 : Int64) (3 : Int64) = some (!isO v (-3) 3) := in_eq v (-3) 3
theorem in_0_200 (v : Int32) : f_X9_in v.toInt64 (0 : Int64) (200 : Int64) = some (!isO v 0 200) := in_eq v (0) 200
theorem in_0_1200 (v : Int32) : f_X9_in v.toInt64 (0 : Int64) (1200 : Int64) = some (!isO v 0 1200) := in_eq v (0) 1200
theorem in_0_69 (v : Int32) : f_X9_in v.toInt64 (0 : Int64) (69 : Int64) = some (!isO v 0 69) := in_eq v (0) 69
theorem in_0_8 (v : Int32) : f_X9_in v.toInt64 (0 : Int64) (8 : Int64) = some (!isO v 0 8) := in_eq v (0) 8
theorem in_0_30 (v : Int32) : f_X9_in v.toInt64 (0 : Int64) (30 : Int64) = some (!isO v 0 30) := in_eq v (0) 30
theorem in_0_3 (v : Int32) : f_X9_in v.toInt64 (0 : Int64) (3 : Int64) = some (!isO v 0 3) := in_eq v (0) 3
theorem in_0_6 (v : Int32) : f_X9_in v.toInt64 (0 : Int64) (6 : Int64) = some (!isO v 0 6) := in_eq v (0) 6
theorem in_0_59 (v : Int32) : f_X9_in v.toInt64 (0 : Int64) (59 : Int64) = some (!isO v 0 59) := in_eq v (0) 59
theorem in_0_60 (v : Int32) : f_X9_in v.toInt64 (0 : Int64) (60 : Int64) = some (!isO v 0 60) := in_eq v (0) 60
theorem in_0_2 (v : Int32) : f_X9_in v.toInt64 (0 : Int64) (2 : Int64) = some (!isO v 0 2) := in_eq v (0) 2
theorem in_m1_3 (v : Int32) : f_X9_in v.toInt64 (-1 : Int64) (3 : Int64) = some (!isO v (-1) 3) := in_eq v (-1) 3
theorem in_1_5 (v : Int32) : f_X9_in v.toInt64 (1 : Int64) (5 : Int64) = some (!isO v 1 5) := in_eq v (1) 5
theorem rdA_82_10 (σ : Sto) : rdA σ 82 (10 : Int32) = some (σ.1 82 10) := rd_nI (j := 10) (by decide)
theorem rdA_82_11 (σ : Sto) : rdA σ 82 (11 : Int32) = some (σ.1 82 11) := rd_nI (j := 11) (by decide)
theorem rdA_82_12 (σ : Sto) : rdA σ 82 (12 : Int32) = some (σ.1 82 12) := rd_nI (j := 12) (by decide)
theorem rdA_82_13 (σ : Sto) : rdA σ 82 (13 : Int32) = some (σ.1 82 13) := rd_nI (j := 13) (by decide)
theorem rdA_82_14 (σ : Sto) : rdA σ 82 (14 : Int32) = some (σ.1 82 14) := rd_nI (j := 14) (by decide)
theorem rdA_82_15 (σ : Sto) : rdA σ 82 (15 : Int32) = some (σ.1 82 15) := rd_nI (j := 15) (by decide)
theorem rdA_82_6 (σ : Sto) : rdA σ 82 (6 : Int32) = some (σ.1 82 6) := rd_nI (j := 6) (by decide)
theorem rdA_82_7 (σ : Sto) : rdA σ 82 (7 : Int32) = some (σ.1 82 7) := rd_nI (j := 7) (by decide)
theorem rdA_82_8 (σ : Sto) : rdA σ 82 (8 : Int32) = some (σ.1 82 8) := rd_nI (j := 8) (by decide)
theorem rdA_82_9 (σ : Sto) : rdA σ 82 (9 : Int32) = some (σ.1 82 9) := rd_nI (j := 9) (by decide)
theorem rdA_88_0 (σ : Sto) : rdA σ 88 (0 : Int32) = some (σ.1 88 0) := rd_nI (j := 0) (by decide)
theorem wrA_82_10 (σ : Sto) (x : Int32) : wrA σ 82 (10 : Int32) x = some (sI σ 82 10 x) := wr_nI (j := 10) (by decide)
theorem wrA_82_11 (σ : Sto) (x : Int32) : wrA σ 82 (11 : Int32) x = some (sI σ 82 11 x) := wr_nI (j := 11) (by decide)
theorem wrA_82_12 (σ : Sto) (x : Int32) : wrA σ 82 (12 : Int32) x = some (sI σ 82 12 x) := wr_nI (j := 12) (by decide)
theorem wrA_82_13 (σ : Sto) (x : Int32) : wrA σ 82 (13 : Int32) x = some (sI σ 82 13 x) := wr_nI (j := 13) (by decide)
theorem wrA_82_14 (σ : Sto) (x : Int32) : wrA σ 82 (14 : Int32) x = some (sI σ 82 14 x) := wr_nI (j := 14) (by decide)
theorem wrA_82_15 (σ : Sto) (x : Int32) : wrA σ 82 (15 : Int32) x = some (sI σ 82 15 x) := wr_nI (j := 15) (by decide)
theorem wrA_82_6 (σ : Sto) (x : Int32) : wrA σ 82 (6 : Int32) x = some (sI σ 82 6 x) := wr_nI (j := 6) (by decide)
theorem wrA_82_7 (σ : Sto) (x : Int32) : wrA σ 82 (7 : Int32) x = some (sI σ 82 7 x) := wr_nI (j := 7) (by decide)
theorem wrA_82_8 (σ : Sto) (x : Int32) : wrA σ 82 (8 : Int32) x = some (sI σ 82 8 x) := wr_nI (j := 8) (by decide)
theorem wrA_82_9 (σ : Sto) (x : Int32) : wrA σ 82 (9 : Int32) x = some (sI σ 82 9 x) := wr_nI (j := 9) (by decide)
theorem wrA_86_0 (σ : Sto) (x : Int32) : wrA σ 86 (0 : Int32) x = some (sI σ 86 0 x) := wr_nI (j := 0) (by decide)
theorem wrA_86_1 (σ : Sto) (x : Int32) : wrA σ 86 (1 : Int32) x = some (sI σ 86 1 x) := wr_nI (j := 1) (by decide)
theorem wrA_86_2 (σ : Sto) (x : Int32) : wrA σ 86 (2 : Int32) x = some (sI σ 86 2 x) := wr_nI (j := 2) (by decide)
def rf (σ : Sto) (k : Nat) : Sto := sI σ 68 k (σ.1 68 k + 1)
def fi (σ : Sto) (k : Nat) : Sto := sI σ 85 k (σ.1 85 k + 1)
theorem refuse_nI {σ : Sto} {k : Nat} (h1 : 1 ≤ k) (h5 : k ≤ 5) : f_X8_refuse σ (nI k) = some (-1000000000 - nI k, rf σ k) := by
  have e : isO (nI k) 1 5 = false := by
    simp only [isO, Bool.or_eq_false_iff, decide_eq_false_iff_not]
    exact ⟨nI_nlt (b := 1) (by omega) (by omega), nI_nlt (a := 5) (by omega) (by omega)⟩
  unfold f_X8_refuse rf
  rw [out_eq, bind_s, e, if_neg (by decide), rd_nI (by show k < 6; omega), bind_s, wr_nI (by show k < 6; omega), bind_s]
theorem finds_nI {σ : Sto} {k : Nat} (h5 : k ≤ 5) : f_X9_finds σ (nI k) = some (-1000000000 - nI k, fi σ k) := by
  unfold f_X9_finds fi
  rw [rd_nI (by show k < 6; omega), bind_s, wr_nI (by show k < 6; omega), bind_s]
theorem refuse_1 (σ : Sto) : f_X8_refuse σ (1 : Int32) = some (-1000000001, rf σ 1) := refuse_nI (k := 1) (by decide) (by decide)
theorem finds_1 (σ : Sto) : f_X9_finds σ (1 : Int32) = some (-1000000001, fi σ 1) := finds_nI (k := 1) (by decide)
theorem refuse_2 (σ : Sto) : f_X8_refuse σ (2 : Int32) = some (-1000000002, rf σ 2) := refuse_nI (k := 2) (by decide) (by decide)
theorem finds_2 (σ : Sto) : f_X9_finds σ (2 : Int32) = some (-1000000002, fi σ 2) := finds_nI (k := 2) (by decide)
theorem refuse_3 (σ : Sto) : f_X8_refuse σ (3 : Int32) = some (-1000000003, rf σ 3) := refuse_nI (k := 3) (by decide) (by decide)
theorem finds_3 (σ : Sto) : f_X9_finds σ (3 : Int32) = some (-1000000003, fi σ 3) := finds_nI (k := 3) (by decide)
theorem refuse_4 (σ : Sto) : f_X8_refuse σ (4 : Int32) = some (-1000000004, rf σ 4) := refuse_nI (k := 4) (by decide) (by decide)
theorem finds_4 (σ : Sto) : f_X9_finds σ (4 : Int32) = some (-1000000004, fi σ 4) := finds_nI (k := 4) (by decide)
theorem refuse_5 (σ : Sto) : f_X8_refuse σ (5 : Int32) = some (-1000000005, rf σ 5) := refuse_nI (k := 5) (by decide) (by decide)
theorem finds_5 (σ : Sto) : f_X9_finds σ (5 : Int32) = some (-1000000005, fi σ 5) := finds_nI (k := 5) (by decide)
theorem lane_eq (v : Int32) : f_X9_isLane v = some (!isO v 0 5) := by unfold f_X9_isLane; rw [in_0_5, bind_s]
theorem sheet_eq (v : Int32) : f_X9_isSheet v = some (!isO v 0 3) := by unfold f_X9_isSheet; rw [in_0_3, bind_s]
theorem isS_eq (σ : Sto) (v : Int32) : f_X9_isSwimmer σ v = some (!isO v 0 (σ.1 82 12 - 1)) := by unfold f_X9_isSwimmer; rw [rdA_82_12, bind_s, in_0d, bind_s]
theorem held_eq (v l h : Int32) (hl : l ≤ h) : f_X9_held v l h = some (imax l (imin h v)) := by
  unfold f_X9_held imax imin
  by_cases h1 : l ≤ v
  · rw [if_pos h1]
    by_cases h2 : v ≤ h
    · rw [if_pos h2]
      by_cases h3 : v < h
      · rw [if_pos h3]
        by_cases h4 : l < v
        · rw [if_pos h4]
        · rw [if_neg h4, Int32.le_antisymm h1 (Int32.not_lt.mp h4)]
      · rw [if_neg h3]
        have e : v = h := Int32.le_antisymm h2 (Int32.not_lt.mp h3)
        subst e
        by_cases h4 : l < v
        · rw [if_pos h4]
        · rw [if_neg h4, Int32.le_antisymm h1 (Int32.not_lt.mp h4)]
    · have h3 : ¬ v < h := fun q => h2 (Int32.le_of_lt q)
      rw [if_neg h2, if_neg h3]
      by_cases h4 : l < h
      · rw [if_pos h4]
      · rw [if_neg h4, Int32.le_antisymm hl (Int32.not_lt.mp h4)]
  · have h1' : v < l := Int32.not_le.mp h1
    have h3 : v < h := Int32.lt_of_lt_of_le h1' hl
    rw [if_neg h1, if_pos h3, if_neg (fun q => h1 (Int32.le_of_lt q))]
theorem sAt_none {σ : Sto} {k0 : Nat} {a : Int32} (h : isO a 0 (σ.1 k0 8 - 1) = true) : f_X0_swimmerAt σ k0 a = some none := by
  unfold f_X0_swimmerAt
  rw [out_eq, bind_s, if_pos h]
theorem unl_0 (σ : Sto) (b : Option Nat) : f_X8_areUnlike σ none b = some false := rfl
theorem onN_0 {γ : Type} (a : γ) (b : Nat → γ) : onN none a b = a := rfl
theorem onN_1 {γ : Type} (k : Nat) (a : γ) (b : Nat → γ) : onN (some k) a b = b k := rfl
