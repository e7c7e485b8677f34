def law_Iv (j : Nat) (σ : Sto) : Prop := j = 0 → σ = st_0
theorem law_I0 : law_Iv 0 st_0 := fun _ => rfl
/-! p1: one call on the fresh object -/
def Zf (σ : Sto) : Prop := ∀ k j, σ.1 k j = st_0.1 k j
theorem zt {σ : Sto} (z : Zf σ) {k j : Nat} {v : Int32} (h : st_0.1 k j = v) : σ.1 k j = v := (z k j).trans h
theorem z_8 {σ : Sto} (z : Zf σ) : σ.1 1 8 = 0 := zt z (by decide +kernel)
theorem z_9 {σ : Sto} (z : Zf σ) : σ.1 82 12 = 0 := zt z (by decide +kernel)
theorem isO_m1 (a : Int32) : isO a 0 (0 - 1) = true := by
  unfold isO
  by_cases h : a < 0
  · simp [h]
  · have : (0 - 1 : Int32) < a := by
      rw [Int32.lt_iff_toInt_lt] at h ⊢
      have e1 : (0 : Int32).toInt = 0 := rfl
      have e2 : (0 - 1 : Int32).toInt = -1 := rfl
      omega
    rw [decide_eq_true this, Bool.or_true]
theorem n8 {σ : Sto} (h : σ.1 1 8 = 0) (a : Int32) : f_X0_swimmerAt σ 1 a = some none := sAt_none (by rw [h]; exact isO_m1 a)
theorem n9 {σ : Sto} (h : σ.1 82 12 = 0) (a : Int32) : f_X9_isSwimmer σ a = some false := by rw [isS_eq, h, isO_m1]; rfl
theorem u8 {σ : Sto} (a : Option Nat) : f_X8_areUnlike σ none a = some false := rfl
theorem u9 {σ : Sto} (h : σ.1 82 12 = 0) (a b : Int32) : f_X9_areUnlike σ a b = some false := by unfold f_X9_areUnlike; rw [n9 h, bind_s, if_neg (by decide)]
theorem pr_of {f g : Sto → Option (Int32 × Sto)} (h : ∀ σ, Zf σ → ∃ r s, f σ = some r ∧ g r.2 = some s ∧ r.1 = s.1) : LPr f g true (law_Iv 0) (law_Iv (0 + 1)) := by
  intro σ hI
  obtain ⟨r, s, h1, h2, h3⟩ := h σ (by rw [hI rfl]; exact fun _ _ => rfl)
  exact ⟨r, s, h1, h2, fun _ => h3, fun q => absurd q (by decide)⟩
theorem p1_ofSwimmer (a1 : Int32) (a2 : Int32) : LPr (fun σ => f_X8_ofSwimmer σ a1 a2) (fun σ => f_X9_ofSwimmer σ a1 a2) true (law_Iv 0) (law_Iv (0 + 1)) := by
  refine pr_of (fun σ z => ?_)
  refine ⟨(-1000000001, rf σ 1), (-1000000001, fi (rf σ 1) 1), ?_, ?_, rfl⟩
  · show f_X8_ofSwimmer σ a1 a2 = _
    unfold f_X8_ofSwimmer
    simp only [n8 (z_8 z), bind_s, onN_0, refuse_1]
  · show f_X9_ofSwimmer (rf σ 1) a1 a2 = _
    unfold f_X9_ofSwimmer
    rw [n9 (show (rf σ 1).1 82 12 = 0 from (show σ.1 82 12 = 0 from z_9 z)), bind_s, if_neg (by decide), finds_1, bind_s]
theorem p1_train (a1 : Int32) (a2 : Int32) : LPr (fun σ => f_X8_train σ a1 a2) (fun σ => f_X9_train σ a1 a2) true (law_Iv 0) (law_Iv (0 + 1)) := by
  refine pr_of (fun σ z => ?_)
  refine ⟨(-1000000001, rf σ 1), (-1000000001, fi (rf σ 1) 1), ?_, ?_, rfl⟩
  · show f_X8_train σ a1 a2 = _
    unfold f_X8_train
    simp only [n8 (z_8 z), bind_s, onN_0, refuse_1]
  · show f_X9_train (rf σ 1) a1 a2 = _
    unfold f_X9_train
    rw [n9 (show (rf σ 1).1 82 12 = 0 from (show σ.1 82 12 = 0 from z_9 z)), bind_s, if_neg (by decide), finds_1, bind_s]
theorem p1_plan (a1 : Int32) (a2 : Int32) (a3 : Int32) : LPr (fun σ => f_X8_plan σ a1 a2 a3) (fun σ => f_X9_plan σ a1 a2 a3) true (law_Iv 0) (law_Iv (0 + 1)) := by
  refine pr_of (fun σ z => ?_)
  refine ⟨(-1000000001, rf σ 1), (-1000000001, fi (rf σ 1) 1), ?_, ?_, rfl⟩
  · show f_X8_plan σ a1 a2 a3 = _
    unfold f_X8_plan
    simp only [n8 (z_8 z), bind_s, onN_0, refuse_1]
  · show f_X9_plan (rf σ 1) a1 a2 a3 = _
    unfold f_X9_plan
    rw [n9 (show (rf σ 1).1 82 12 = 0 from (show σ.1 82 12 = 0 from z_9 z)), bind_s, if_neg (by decide), finds_1, bind_s]
theorem p1_become (a1 : Int32) (a2 : Int32) : LPr (fun σ => f_X8_become σ a1 a2) (fun σ => f_X9_become σ a1 a2) true (law_Iv 0) (law_Iv (0 + 1)) := by
  refine pr_of (fun σ z => ?_)
  refine ⟨(-1000000001, rf σ 1), (-1000000001, fi (rf σ 1) 1), ?_, ?_, rfl⟩
  · show f_X8_become σ a1 a2 = _
    unfold f_X8_become
    simp only [n8 (z_8 z), bind_s, onN_0, refuse_1]
  · show f_X9_become (rf σ 1) a1 a2 = _
    unfold f_X9_become
    rw [n9 (show (rf σ 1).1 82 12 = 0 from (show σ.1 82 12 = 0 from z_9 z)), bind_s, if_neg (by decide), finds_1, bind_s]
theorem p1_as (a1 : Int32) (a2 : Int32) : LPr (fun σ => f_X8_as σ a1 a2) (fun σ => f_X9_as σ a1 a2) true (law_Iv 0) (law_Iv (0 + 1)) := by
  refine pr_of (fun σ z => ?_)
  refine ⟨(-1000000001, rf σ 1), (-1000000001, fi (rf σ 1) 1), ?_, ?_, rfl⟩
  · show f_X8_as σ a1 a2 = _
    unfold f_X8_as
    simp only [n8 (z_8 z), bind_s, onN_0, refuse_1]
  · show f_X9_as (rf σ 1) a1 a2 = _
    unfold f_X9_as
    rw [n9 (show (rf σ 1).1 82 12 = 0 from (show σ.1 82 12 = 0 from z_9 z)), bind_s, if_neg (by decide), finds_1, bind_s]
theorem p1_pace (a1 : Int32) (a2 : Int32) : LPr (fun σ => f_X8_pace σ a1 a2) (fun σ => f_X9_pace σ a1 a2) true (law_Iv 0) (law_Iv (0 + 1)) := by
  refine pr_of (fun σ z => ?_)
  refine ⟨(-1000000001, rf σ 1), (-1000000001, fi (rf σ 1) 1), ?_, ?_, rfl⟩
  · show f_X8_pace σ a1 a2 = _
    unfold f_X8_pace
    simp only [n8 (z_8 z), bind_s, onN_0, refuse_1]
  · show f_X9_pace (rf σ 1) a1 a2 = _
    unfold f_X9_pace
    rw [n9 (show (rf σ 1).1 82 12 = 0 from (show σ.1 82 12 = 0 from z_9 z)), bind_s, if_neg (by decide), finds_1, bind_s]
theorem p1_where (a1 : Int32) (a2 : Int32) : LPr (fun σ => f_X8_where σ a1 a2) (fun σ => f_X9_where σ a1 a2) true (law_Iv 0) (law_Iv (0 + 1)) := by
  refine pr_of (fun σ z => ?_)
  refine ⟨(-1000000001, rf σ 1), (-1000000001, fi (rf σ 1) 1), ?_, ?_, rfl⟩
  · show f_X8_where σ a1 a2 = _
    unfold f_X8_where
    simp only [n8 (z_8 z), bind_s, onN_0, refuse_1]
  · show f_X9_where (rf σ 1) a1 a2 = _
    unfold f_X9_where
    rw [n9 (show (rf σ 1).1 82 12 = 0 from (show σ.1 82 12 = 0 from z_9 z)), bind_s, if_neg (by decide), finds_1, bind_s]
theorem p1_voice (a1 : Int32) (a2 : Int32) (a3 : Int32) : LPr (fun σ => f_X8_voice σ a1 a2 a3) (fun σ => f_X9_voice σ a1 a2 a3) true (law_Iv 0) (law_Iv (0 + 1)) := by
  refine pr_of (fun σ z => ?_)
  refine ⟨(-1000000001, rf σ 1), (-1000000001, fi (rf σ 1) 1), ?_, ?_, rfl⟩
  · show f_X8_voice σ a1 a2 a3 = _
    unfold f_X8_voice
    simp only [n8 (z_8 z), bind_s, onN_0, refuse_1]
  · show f_X9_voice (rf σ 1) a1 a2 a3 = _
    unfold f_X9_voice
    rw [n9 (show (rf σ 1).1 82 12 = 0 from (show σ.1 82 12 = 0 from z_9 z)), bind_s, if_neg (by decide), finds_1, bind_s]
theorem p1_meet (a1 : Int32) (a2 : Int32) (a3 : Int32) : LPr (fun σ => f_X8_meet σ a1 a2 a3) (fun σ => f_X9_meet σ a1 a2 a3) true (law_Iv 0) (law_Iv (0 + 1)) := by
  refine pr_of (fun σ z => ?_)
  refine ⟨(-1000000001, rf σ 1), (-1000000001, fi (rf σ 1) 1), ?_, ?_, rfl⟩
  · show f_X8_meet σ a1 a2 a3 = _
    unfold f_X8_meet
    rw [n8 (z_8 z), bind_s, n8 (z_8 z), bind_s, u8, bind_s, if_neg (by decide), refuse_1, bind_s]
  · show f_X9_meet (rf σ 1) a1 a2 a3 = _
    unfold f_X9_meet
    rw [u9 (show (rf σ 1).1 82 12 = 0 from (show σ.1 82 12 = 0 from z_9 z)), bind_s, if_neg (by decide), finds_1, bind_s]
theorem p1_bestPlan (a1 : Int32) (a2 : Int32) (a3 : Int32) : LPr (fun σ => f_X8_bestPlan σ a1 a2 a3) (fun σ => f_X9_bestPlan σ a1 a2 a3) true (law_Iv 0) (law_Iv (0 + 1)) := by
  refine pr_of (fun σ z => ?_)
  refine ⟨(-1000000001, rf σ 1), (-1000000001, fi (rf σ 1) 1), ?_, ?_, rfl⟩
  · show f_X8_bestPlan σ a1 a2 a3 = _
    unfold f_X8_bestPlan
    rw [n8 (z_8 z), bind_s, n8 (z_8 z), bind_s, u8, bind_s, if_neg (by decide), refuse_1, bind_s]
  · show f_X9_bestPlan (rf σ 1) a1 a2 a3 = _
    unfold f_X9_bestPlan
    rw [u9 (show (rf σ 1).1 82 12 = 0 from (show σ.1 82 12 = 0 from z_9 z)), bind_s, if_neg (by decide), finds_1, bind_s]
theorem p1_hold (a1 : Int32) (a2 : Int32) (a3 : Int32) : LPr (fun σ => f_X8_hold σ a1 a2 a3) (fun σ => f_X9_hold σ a1 a2 a3) true (law_Iv 0) (law_Iv (0 + 1)) := by
  refine pr_of (fun σ z => ?_)
  refine ⟨(-1000000001, rf σ 1), (-1000000001, fi (rf σ 1) 1), ?_, ?_, rfl⟩
  · show f_X8_hold σ a1 a2 a3 = _
    unfold f_X8_hold
    rw [n8 (z_8 z), bind_s, n8 (z_8 z), bind_s, u8, bind_s, if_neg (by decide), refuse_1, bind_s]
  · show f_X9_hold (rf σ 1) a1 a2 a3 = _
    unfold f_X9_hold
    rw [u9 (show (rf σ 1).1 82 12 = 0 from (show σ.1 82 12 = 0 from z_9 z)), bind_s, if_neg (by decide), finds_1, bind_s]
theorem p1_ask (a1 : Int32) (a2 : Int32) : LPr (fun σ => f_X8_ask σ a1 a2) (fun σ => f_X9_ask σ a1 a2) true (law_Iv 0) (law_Iv (0 + 1)) := by
  refine pr_of (fun σ z => ?_)
  refine ⟨(-1000000001, rf σ 1), (-1000000001, fi (rf σ 1) 1), ?_, ?_, rfl⟩
  · show f_X8_ask σ a1 a2 = _
    unfold f_X8_ask
    rw [n8 (z_8 z), bind_s, n8 (z_8 z), bind_s, u8, bind_s, if_neg (by decide), refuse_1, bind_s]
  · show f_X9_ask (rf σ 1) a1 a2 = _
    unfold f_X9_ask
    rw [u9 (show (rf σ 1).1 82 12 = 0 from (show σ.1 82 12 = 0 from z_9 z)), bind_s, if_neg (by decide), finds_1, bind_s]
theorem p1_leastSight (a1 : Int32) (a2 : Int32) : LPr (fun σ => f_X8_leastSight σ a1 a2) (fun σ => f_X9_leastSight σ a1 a2) true (law_Iv 0) (law_Iv (0 + 1)) := by
  refine pr_of (fun σ z => ?_)
  refine ⟨(-1000000001, rf σ 1), (-1000000001, fi (rf σ 1) 1), ?_, ?_, rfl⟩
  · show f_X8_leastSight σ a1 a2 = _
    unfold f_X8_leastSight
    rw [n8 (z_8 z), bind_s, n8 (z_8 z), bind_s, u8, bind_s, if_neg (by decide), refuse_1, bind_s]
  · show f_X9_leastSight (rf σ 1) a1 a2 = _
    unfold f_X9_leastSight
    rw [u9 (show (rf σ 1).1 82 12 = 0 from (show σ.1 82 12 = 0 from z_9 z)), bind_s, if_neg (by decide), finds_1, bind_s]
theorem p1_diary (a1 : Int32) (a2 : Int32) (a3 : Int32) (a4 : Int32) (a5 : Int32) : LPr (fun σ => f_X8_diary σ a1 a2 a3 a4 a5) (fun σ => f_X9_diary σ a1 a2 a3 a4 a5) true (law_Iv 0) (law_Iv (0 + 1)) := by
  refine pr_of (fun σ z => ?_)
  refine ⟨(-1000000001, rf σ 1), (-1000000001, fi (rf σ 1) 1), ?_, ?_, rfl⟩
  · show f_X8_diary σ a1 a2 a3 a4 a5 = _
    unfold f_X8_diary
    rw [n8 (z_8 z), bind_s, n8 (z_8 z), bind_s, u8, bind_s, if_neg (by decide), refuse_1, bind_s]
  · show f_X9_diary (rf σ 1) a1 a2 a3 a4 a5 = _
    unfold f_X9_diary
    rw [u9 (show (rf σ 1).1 82 12 = 0 from (show σ.1 82 12 = 0 from z_9 z)), bind_s, if_neg (by decide), finds_1, bind_s]
theorem p1_training (a1 : Int32) (a2 : Int32) (a3 : Int32) : LPr (fun σ => f_X8_training σ a1 a2 a3) (fun σ => f_X9_training σ a1 a2 a3) true (law_Iv 0) (law_Iv (0 + 1)) := by
  refine pr_of (fun σ z => ?_)
  refine ⟨(-1000000001, rf σ 1), (-1000000001, fi (rf σ 1) 1), ?_, ?_, rfl⟩
  · show f_X8_training σ a1 a2 a3 = _
    unfold f_X8_training
    rw [n8 (z_8 z), bind_s, n8 (z_8 z), bind_s, u8, bind_s, if_neg (by decide), refuse_1, bind_s]
  · show f_X9_training (rf σ 1) a1 a2 a3 = _
    unfold f_X9_training
    rw [u9 (show (rf σ 1).1 82 12 = 0 from (show σ.1 82 12 = 0 from z_9 z)), bind_s, if_neg (by decide), finds_1, bind_s]
theorem p1_fair (a1 : Int32) (a2 : Int32) : LPr (fun σ => f_X8_fair σ a1 a2) (fun σ => f_X9_fair σ a1 a2) true (law_Iv 0) (law_Iv (0 + 1)) := by
  refine pr_of (fun σ z => ?_)
  refine ⟨(-1000000001, rf σ 1), (-1000000001, fi (rf σ 1) 1), ?_, ?_, rfl⟩
  · show f_X8_fair σ a1 a2 = _
    unfold f_X8_fair
    rw [n8 (z_8 z), bind_s, n8 (z_8 z), bind_s, u8, bind_s, if_neg (by decide), refuse_1, bind_s]
  · show f_X9_fair (rf σ 1) a1 a2 = _
    unfold f_X9_fair
    rw [u9 (show (rf σ 1).1 82 12 = 0 from (show σ.1 82 12 = 0 from z_9 z)), bind_s, if_neg (by decide), finds_1, bind_s]
theorem p1_send (a1 : Int32) : LPr (fun σ => f_X8_send σ a1) (fun σ => f_X9_send σ a1) true (law_Iv 0) (law_Iv (0 + 1)) := by
  refine pr_of (fun σ z => ?_)
  refine ⟨(-1000000001, rf σ 1), (-1000000001, fi (rf σ 1) 1), ?_, ?_, rfl⟩
  · show f_X8_send σ a1 = _
    unfold f_X8_send
    simp only [n8 (z_8 z), bind_s, onN_0, refuse_1]
  · show f_X9_send (rf σ 1) a1 = _
    unfold f_X9_send
    rw [n9 (show (rf σ 1).1 82 12 = 0 from (show σ.1 82 12 = 0 from z_9 z)), bind_s, if_neg (by decide), finds_1, bind_s]
theorem p1_year (a1 : Int32) (a2 : Int32) : LPr (fun σ => f_X8_year σ a1 a2) (fun σ => f_X9_year σ a1 a2) true (law_Iv 0) (law_Iv (0 + 1)) := by
  refine pr_of (fun σ z => ?_)
  refine ⟨(-1000000001, rf σ 1), (-1000000001, fi (rf σ 1) 1), ?_, ?_, rfl⟩
  · show f_X8_year σ a1 a2 = _
    unfold f_X8_year f_X8_whyNoYear
    rw [n8 (z_8 z), bind_s, n8 (z_8 z), bind_s, u8, bind_s, if_neg (by decide), bind_s, if_neg (by decide), refuse_1, bind_s]
  · show f_X9_year (rf σ 1) a1 a2 = _
    unfold f_X9_year f_X9_aYear
    rw [u9 (show (rf σ 1).1 82 12 = 0 from (show σ.1 82 12 = 0 from z_9 z)), bind_s, if_neg (by decide), finds_1, bind_s, bind_s]
theorem p1_loose (a1 : Int32) (a2 : Int32) : LPr (fun σ => f_X8_loose σ a1 a2) (fun σ => f_X9_loose σ a1 a2) true (law_Iv 0) (law_Iv (0 + 1)) := by
  refine pr_of (fun σ z => ?_)
  refine ⟨(-1000000001, rf σ 1), (-1000000001, fi (rf σ 1) 1), ?_, ?_, rfl⟩
  · show f_X8_loose σ a1 a2 = _
    unfold f_X8_loose f_X8_whyNoYear
    rw [n8 (z_8 z), bind_s, n8 (z_8 z), bind_s, u8, bind_s, if_neg (by decide), bind_s, if_neg (by decide), refuse_1, bind_s]
  · show f_X9_loose (rf σ 1) a1 a2 = _
    unfold f_X9_loose f_X9_aYear
    rw [u9 (show (rf σ 1).1 82 12 = 0 from (show σ.1 82 12 = 0 from z_9 z)), bind_s, if_neg (by decide), finds_1, bind_s, bind_s]
theorem p1_check (a1 : Int32) (a2 : Int32) : LPr (fun σ => f_X8_check σ a1 a2) (fun σ => f_X9_check σ a1 a2) true (law_Iv 0) (law_Iv (0 + 1)) := by
  refine pr_of (fun σ z => ?_)
  refine ⟨(-1000000001, rf (sI σ 1 14 0) 1), (-1000000001, fi (sI (rf (sI σ 1 14 0) 1) 82 15 0) 1), ?_, ?_, rfl⟩
  · show f_X8_check σ a1 a2 = _
    unfold f_X8_check
    have h : (sI σ 1 14 0).1 1 8 = 0 := (show σ.1 1 8 = 0 from z_8 z)
    rw [lp_eq, n8 h, bind_s, n8 h, bind_s, u8, bind_s, if_neg (by decide), refuse_1, bind_s]
  · show f_X9_check (rf (sI σ 1 14 0) 1) a1 a2 = _
    unfold f_X9_check
    have h : (sI (rf (sI σ 1 14 0) 1) 82 15 0).1 82 12 = 0 := (show σ.1 82 12 = 0 from z_9 z)
    rw [rdA_82_15, bind_s, wrA_82_15, bind_s, u9 h, bind_s, if_neg (by decide), finds_1, bind_s]
theorem sheetAt_o {σ : Sto} {a : Int32} (h : isO a 0 3 = true) : f_X8_sheetAt σ a = some none := by unfold f_X8_sheetAt; rw [out_eq, bind_s, if_pos h]
theorem R67 : ∀ j, j < 4 → R0 67 j = some (73 + 2 * j) := by decide
theorem sheetAt_i {σ : Sto} {j : Nat} (h : j < 4) : f_X8_sheetAt σ (nI j) = some (some (73 + 2 * j)) := by
  have e : isO (nI j) 0 3 = false := by
    simp only [isO, Bool.or_eq_false_iff, decide_eq_false_iff_not]
    exact ⟨nI_pos (by omega), nI_nlt (a := 3) (by omega) (by omega)⟩
  unfold f_X8_sheetAt; rw [out_eq, bind_s, e, if_neg (by decide), rdR_nI (by show j < 4; omega), bind_s, R67 j h]
theorem p1_judge (a1 : Int32) (a2 : Int32) : LPr (fun σ => f_X8_judge σ a1 a2) (fun σ => f_X9_judge σ a1 a2) true (law_Iv 0) (law_Iv (0 + 1)) := by
  refine pr_of (fun σ z => ?_)
  have e8 : f_X8_judge σ a1 a2 = some (-1000000001, rf σ 1) := by
    unfold f_X8_judge
    cases h : isO a1 0 3 with
    | true => rw [sheetAt_o h, bind_s, n8 (z_8 z), bind_s, onN_0, refuse_1, bind_s]
    | false =>
      obtain ⟨j, hj, rfl⟩ := isO_nI (n := 3) rfl h
      rw [sheetAt_i (by omega), bind_s, n8 (z_8 z), bind_s, onN_1, onN_0, refuse_1, bind_s]
  refine ⟨_, (-1000000001, fi (rf σ 1) 1), e8, ?_, rfl⟩
  show f_X9_judge (rf σ 1) a1 a2 = _
  unfold f_X9_judge
  rw [sheet_eq, bind_s, n9 (show (rf σ 1).1 82 12 = 0 from (show σ.1 82 12 = 0 from z_9 z)), bind_s]
  cases h : isO a1 0 3 with
  | true => rw [if_neg (by decide), finds_1, bind_s]
  | false => rw [if_pos (by decide), if_neg (by decide), finds_1, bind_s]
theorem p1_trace (a1 : Int32) : LPr (fun σ => f_X8_trace σ a1) (fun σ => f_X9_trace σ a1) true (law_Iv 0) (law_Iv (0 + 1)) := by
  refine pr_of (fun σ z => ?_)
  refine ⟨(-1000000002, rf σ 2), (-1000000002, fi (rf σ 2) 2), ?_, ?_, rfl⟩
  · show f_X8_trace σ a1 = _
    unfold f_X8_trace
    rw [out_eq, bind_s, show σ.1 65 1 = 0 from zt z (by decide +kernel), isO_m1, if_pos (by decide), refuse_2, bind_s]
  · show f_X9_trace (rf σ 2) a1 = _
    unfold f_X9_trace
    rw [in_0d, bind_s, show (rf σ 2).1 81 18 = 0 from (show σ.1 81 18 = 0 from zt z (by decide +kernel)), isO_m1, if_neg (by decide), finds_2, bind_s]
theorem z_cur {σ : Sto} (z : Zf σ) : ∀ j, j < 6 → σ.1 2 j = 0 ∧ σ.1 82 j = 0 := by
  have h : ∀ j, j < 6 → st_0.1 2 j = 0 ∧ st_0.1 82 j = 0 := by decide +kernel
  exact fun j hj => ⟨zt z (h j hj).1, zt z (h j hj).2⟩
theorem p1_current (a1 : Int32) (a2 : Int32) : LPr (fun σ => f_X8_current σ a1 a2) (fun σ => f_X9_current σ a1 a2) true (law_Iv 0) (law_Iv (0 + 1)) := by
  refine pr_of (fun σ z => ?_)
  cases h1 : isO a1 0 5 with
  | true =>
    refine ⟨(-1000000001, rf σ 1), (-1000000001, fi (rf σ 1) 1), ?_, ?_, rfl⟩
    · show f_X8_current σ a1 a2 = _
      unfold f_X8_current
      rw [out_eq, bind_s, h1, if_pos (by decide), refuse_1, bind_s]
    · show f_X9_current (rf σ 1) a1 a2 = _
      unfold f_X9_current
      rw [lane_eq, bind_s, h1, if_neg (by decide), finds_1, bind_s]
  | false =>
    cases h2 : isO a2 (-9) 9 with
    | true =>
      refine ⟨(-1000000001, rf σ 1), (-1000000001, fi (rf σ 1) 1), ?_, ?_, rfl⟩
      · show f_X8_current σ a1 a2 = _
        unfold f_X8_current
        rw [out_eq, bind_s, h1, if_neg (by decide), out_eq, bind_s, h2, if_pos (by decide), refuse_1, bind_s]
      · show f_X9_current (rf σ 1) a1 a2 = _
        unfold f_X9_current
        rw [lane_eq, bind_s, h1, if_pos (by decide), in_m9_9, bind_s, h2, if_neg (by decide), finds_1, bind_s]
    | false =>
      obtain ⟨j, hj, rfl⟩ := isO_nI (n := 5) rfl h1
      obtain ⟨c1, c2⟩ := z_cur z j (by omega)
      refine ⟨(0, sI σ 2 j a2), (0, sI (sI σ 2 j a2) 82 j a2), ?_, ?_, rfl⟩
      · show f_X8_current σ (nI j) a2 = _
        unfold f_X8_current
        rw [out_eq, bind_s, h1, if_neg (by decide), out_eq, bind_s, h2, if_neg (by decide), rd_nI (by show j < 6; omega), bind_s, wr_nI (by show j < 6; omega), bind_s, c1]
      · show f_X9_current (sI σ 2 j a2) (nI j) a2 = _
        unfold f_X9_current
        rw [lane_eq, bind_s, h1, if_pos (by decide), in_m9_9, bind_s, h2, if_pos (by decide), Int32.zero_add, rd_nI (by show j < 270; omega), bind_s, wr_nI (by show j < 270; omega), bind_s, show (sI σ 2 j a2).1 82 j = 0 from (show σ.1 82 j = 0 from c2)]
theorem z_w {σ : Sto} (z : Zf σ) : σ.1 1 1 = 0 ∧ σ.1 1 2 = 10 ∧ σ.1 1 3 = 600 ∧ σ.1 82 6 = 0 ∧ σ.1 82 7 = 10 ∧ σ.1 82 8 = 600 := ⟨zt z (by decide +kernel), zt z (by decide +kernel), zt z (by decide +kernel), zt z (by decide +kernel), zt z (by decide +kernel), zt z (by decide +kernel)⟩
theorem p1_set (a1 : Int32) (a2 : Int32) : LPr (fun σ => f_X8_set σ a1 a2) (fun σ => f_X9_set σ a1 a2) true (law_Iv 0) (law_Iv (0 + 1)) := by
  refine pr_of (fun σ z => ?_)
  by_cases h0 : a1 = 0
  · subst h0
    cases h2 : isO a2 (-3) 3 with
    | false =>
      refine ⟨(0, sI σ 1 1 a2), (0, sI (sI σ 1 1 a2) 82 6 a2), ?_, ?_, rfl⟩
      · show f_X8_set σ 0 a2 = _
        unfold f_X8_set
        rw [if_pos (by decide), out_eq, bind_s, h2, if_neg (by decide), lp_eq, (z_w z).1]
      · show f_X9_set (sI σ 1 1 a2) 0 a2 = _
        unfold f_X9_set f_X9_set_L57
        rw [if_pos (by decide), in_m3_3, bind_s, h2, if_pos (by decide), show (6 + 0 : Int32) = 6 from rfl, rdA_82_6, bind_s, wrA_82_6, bind_s, show (sI σ 1 1 a2).1 82 6 = 0 from (show σ.1 82 6 = 0 from (z_w z).2.2.2.1)]
    | true =>
      refine ⟨(-1000000001, rf σ 1), (-1000000001, fi (rf σ 1) 1), ?_, ?_, rfl⟩
      · show f_X8_set σ 0 a2 = _
        unfold f_X8_set f_X8_set_L33 f_X8_set_L68 f_X8_set_L103
        rw [if_pos (by decide), out_eq, bind_s, h2, if_pos (by decide), if_neg (by decide), if_neg (by decide), refuse_1, bind_s]
      · show f_X9_set (rf σ 1) 0 a2 = _
        unfold f_X9_set f_X9_set_L57
        rw [if_pos (by decide), in_m3_3, bind_s, h2, if_neg (by decide), finds_1, bind_s]
  · by_cases h1 : a1 = 1
    · subst h1
      cases h2 : isO a2 0 200 with
      | false =>
        refine ⟨(10, sI σ 1 2 a2), (10, sI (sI σ 1 2 a2) 82 7 a2), ?_, ?_, rfl⟩
        · show f_X8_set σ 1 a2 = _
          unfold f_X8_set f_X8_set_L33
          rw [if_neg h0, if_pos (by decide), out_eq, bind_s, h2, if_neg (by decide), lp_eq, (z_w z).2.1]
        · show f_X9_set (sI σ 1 2 a2) 1 a2 = _
          unfold f_X9_set f_X9_set_L57
          rw [if_neg h0, if_pos (by decide), in_0_200, bind_s, h2, if_pos (by decide), show (6 + 1 : Int32) = 7 from rfl, rdA_82_7, bind_s, show (7 : Int32) = nI 7 from rfl, wr_nI (by decide), bind_s, show (sI σ 1 2 a2).1 82 7 = 10 from (show σ.1 82 7 = 10 from (z_w z).2.2.2.2.1)]
      | true =>
        refine ⟨(-1000000001, rf σ 1), (-1000000001, fi (rf σ 1) 1), ?_, ?_, rfl⟩
        · show f_X8_set σ 1 a2 = _
          unfold f_X8_set f_X8_set_L33 f_X8_set_L68 f_X8_set_L103
          rw [if_neg h0, if_pos (by decide), out_eq, bind_s, h2, if_pos (by decide), if_neg (by decide), refuse_1, bind_s]
        · show f_X9_set (rf σ 1) 1 a2 = _
          unfold f_X9_set f_X9_set_L57
          rw [if_neg h0, if_pos (by decide), in_0_200, bind_s, h2, if_neg (by decide), finds_1, bind_s]
    · by_cases h3 : a1 = 2
      · subst h3
        cases h2 : isO a2 0 1200 with
        | false =>
          refine ⟨(600, sI σ 1 3 a2), (600, sI (sI σ 1 3 a2) 82 8 a2), ?_, ?_, rfl⟩
          · show f_X8_set σ 2 a2 = _
            unfold f_X8_set f_X8_set_L33 f_X8_set_L68
            rw [if_neg h0, if_neg h1, if_pos (by decide), out_eq, bind_s, h2, if_neg (by decide), lp_eq, (z_w z).2.2.1]
          · show f_X9_set (sI σ 1 3 a2) 2 a2 = _
            unfold f_X9_set f_X9_set_L57
            rw [if_neg h0, if_neg h1, if_pos (by decide), in_0_1200, bind_s, h2, if_pos (by decide), if_pos (by decide), show (6 + 2 : Int32) = 8 from rfl, rdA_82_8, bind_s, wrA_82_8, bind_s, show (sI σ 1 3 a2).1 82 8 = 600 from (show σ.1 82 8 = 600 from (z_w z).2.2.2.2.2)]
        | true =>
          refine ⟨(-1000000001, rf σ 1), (-1000000001, fi (rf σ 1) 1), ?_, ?_, rfl⟩
          · show f_X8_set σ 2 a2 = _
            unfold f_X8_set f_X8_set_L33 f_X8_set_L68 f_X8_set_L103
            rw [if_neg h0, if_neg h1, if_pos (by decide), out_eq, bind_s, h2, if_pos (by decide), refuse_1, bind_s]
          · show f_X9_set (rf σ 1) 2 a2 = _
            unfold f_X9_set f_X9_set_L56 f_X9_set_L57
            rw [if_neg h0, if_neg h1, if_pos (by decide), in_0_1200, bind_s, h2, if_neg (by decide), if_neg (by decide), finds_1, bind_s]
      · refine ⟨(-1000000001, rf σ 1), (-1000000001, fi (rf σ 1) 1), ?_, ?_, rfl⟩
        · show f_X8_set σ a1 a2 = _
          unfold f_X8_set f_X8_set_L33 f_X8_set_L68 f_X8_set_L103
          rw [if_neg h0, if_neg h1, if_neg h3, refuse_1, bind_s]
        · show f_X9_set (rf σ 1) a1 a2 = _
          unfold f_X9_set f_X9_set_L56 f_X9_set_L57
          rw [if_neg h0, if_neg h1, if_neg h3, if_neg (by decide), finds_1, bind_s]
theorem p1_seed (a1 : Int32) : LPr (fun σ => f_X8_seed σ a1) (fun σ => f_X9_seed σ a1) true (law_Iv 0) (law_Iv (0 + 1)) := by
  refine pr_of (fun σ z => ?_)
  refine ⟨(1, sI σ 1 15 a1), (1, sI (sI σ 1 15 a1) 82 13 a1), ?_, ?_, rfl⟩
  · show f_X8_seed σ a1 = _
    unfold f_X8_seed
    rw [lp_eq, show σ.1 1 15 = 1 from zt z (by decide +kernel)]
  · show f_X9_seed (sI σ 1 15 a1) a1 = _
    unfold f_X9_seed
    rw [rdA_82_13, bind_s, wrA_82_13, bind_s, show (sI σ 1 15 a1).1 82 13 = 1 from (show σ.1 82 13 = 1 from zt z (by decide +kernel))]
theorem p1_restore  : LPr (fun σ => f_X8_restore σ ) (fun σ => f_X9_restore σ ) true (law_Iv 0) (law_Iv (0 + 1)) := by
  refine pr_of (fun σ z => ?_)
  refine ⟨(-1000000002, rf σ 2), (-1000000002, fi (rf σ 2) 2), ?_, ?_, rfl⟩
  · show f_X8_restore σ = _
    unfold f_X8_restore
    rw [if_pos (show σ.1 0 10 = 0 from zt z (by decide +kernel)), refuse_2, bind_s]
  · show f_X9_restore (rf σ 2) = _
    unfold f_X9_restore
    rw [if_pos (show (rf σ 2).1 81 3 = 0 from (show σ.1 81 3 = 0 from zt z (by decide +kernel))), finds_2, bind_s]
theorem p1_tell (a1 : Int32) : LPr (fun σ => f_X8_tell σ a1) (fun σ => f_X9_tell σ a1) true (law_Iv 0) (law_Iv (0 + 1)) := by
  refine pr_of (fun σ z => ?_)
  have e8 : σ.1 1 14 = 0 := zt z (by decide +kernel)
  have e9 : σ.1 82 15 = 0 := zt z (by decide +kernel)
  refine ⟨(1, sI (sI σ 11 0 a1) 1 14 1), (1, sI (sI (sI (sI σ 11 0 a1) 1 14 1) 82 90 a1) 82 15 1), ?_, ?_, rfl⟩
  · show f_X8_tell σ a1 = _
    unfold f_X8_tell
    rw [out_eq, bind_s, e8, if_neg (by decide), show (0 : Int32) = nI 0 from rfl, wr_nI (by decide), bind_s, lp_eq]
    rfl
  · show f_X9_tell (sI (sI σ 11 0 a1) 1 14 1) a1 = _
    unfold f_X9_tell
    rw [rdA_82_15, bind_s, show (sI (sI σ 11 0 a1) 1 14 1).1 82 15 = 0 from (show σ.1 82 15 = 0 from e9), if_neg (by decide), bind_s, show (90 + 0 : Int32) = nI 90 from rfl, wr_nI (by decide), bind_s, rdA_82_15, bind_s, show (sI (sI (sI σ 11 0 a1) 1 14 1) 82 90 a1).1 82 15 = 0 from (show σ.1 82 15 = 0 from e9), wrA_82_15, bind_s, rdA_82_15, bind_s]
    rfl
theorem p1_told (a1 : Int32) : LPr (fun σ => f_X8_told σ a1) (fun σ => f_X9_told σ a1) true (law_Iv 0) (law_Iv (0 + 1)) := by
  refine pr_of (fun σ z => ?_)
  cases h : isO a1 1 5 with
  | true =>
    refine ⟨(-1000000001, rf σ 1), (-1000000001, fi (rf σ 1) 1), ?_, ?_, rfl⟩
    · show f_X8_told σ a1 = _
      unfold f_X8_told
      rw [out_eq, bind_s, h, if_pos (by decide), refuse_1, bind_s]
    · show f_X9_told (rf σ 1) a1 = _
      unfold f_X9_told
      rw [in_1_5, bind_s, h, if_neg (by decide), finds_1, bind_s]
  | false =>
    obtain ⟨q1, q2⟩ := isO_f h
    obtain ⟨j, hj, rfl⟩ := nI_of2 (M := 5) (n := 5) rfl (Int32.not_lt.mpr (Int32.le_trans (by decide) q1)) q2
    obtain ⟨c1, c2⟩ : σ.1 68 j = 0 ∧ σ.1 85 j = 0 := (fun q : st_0.1 68 j = 0 ∧ st_0.1 85 j = 0 => ⟨zt z q.1, zt z q.2⟩) ((show ∀ j, j < 6 → st_0.1 68 j = 0 ∧ st_0.1 85 j = 0 by decide +kernel) j (by omega))
    refine ⟨(0, σ), (0, σ), ?_, ?_, rfl⟩
    · show f_X8_told σ (nI j) = _
      unfold f_X8_told
      rw [out_eq, bind_s, h, if_neg (by decide), rd_nI (by show j < 6; omega), bind_s, c1]
    · show f_X9_told σ (nI j) = _
      unfold f_X9_told
      rw [in_1_5, bind_s, h, if_pos (by decide), rd_nI (by show j < 6; omega), bind_s, c2]
theorem p1_count (a1 : Int32) : LPr (fun σ => f_X8_count σ a1) (fun σ => f_X9_count σ a1) true (law_Iv 0) (law_Iv (0 + 1)) := by
  refine pr_of (fun σ z => ?_)
  by_cases h0 : a1 = 0
  · refine ⟨(0, σ), (0, σ), ?_, ?_, rfl⟩
    · show f_X8_count σ a1 = _
      unfold f_X8_count
      rw [if_pos h0, show σ.1 1 4 = 0 from zt z (by decide +kernel)]
    · show f_X9_count σ a1 = _
      unfold f_X9_count
      rw [if_pos h0, rdA_82_11, bind_s, show σ.1 82 11 = 0 from zt z (by decide +kernel)]
  by_cases h1 : a1 = 1
  · refine ⟨(0, σ), (0, σ), ?_, ?_, rfl⟩
    · show f_X8_count σ a1 = _
      unfold f_X8_count
      rw [if_neg h0, if_pos h1, show σ.1 1 8 = 0 from zt z (by decide +kernel)]
    · show f_X9_count σ a1 = _
      unfold f_X9_count
      rw [if_neg h0, if_pos h1, rdA_82_12, bind_s, show σ.1 82 12 = 0 from zt z (by decide +kernel)]
  by_cases h2 : a1 = 2
  · refine ⟨(600, σ), (600, σ), ?_, ?_, rfl⟩
    · show f_X8_count σ a1 = _
      unfold f_X8_count
      rw [if_neg h0, if_neg h1, if_pos h2, show σ.1 1 3 = 600 from zt z (by decide +kernel)]
    · show f_X9_count σ a1 = _
      unfold f_X9_count
      rw [if_neg h0, if_neg h1, if_pos h2, rdA_82_8, bind_s, show σ.1 82 8 = 600 from zt z (by decide +kernel)]
  by_cases h3 : a1 = 3
  · refine ⟨(0, σ), (0, σ), ?_, ?_, rfl⟩
    · show f_X8_count σ a1 = _
      unfold f_X8_count
      rw [if_neg h0, if_neg h1, if_neg h2, if_pos h3, show σ.1 1 5 = 0 from zt z (by decide +kernel)]
    · show f_X9_count σ a1 = _
      unfold f_X9_count
      rw [if_neg h0, if_neg h1, if_neg h2, if_pos h3, rdA_82_9, bind_s, show σ.1 82 9 = 0 from zt z (by decide +kernel)]
  by_cases h4 : a1 = 4
  · refine ⟨(0, σ), (0, σ), ?_, ?_, rfl⟩
    · show f_X8_count σ a1 = _
      unfold f_X8_count
      rw [if_neg h0, if_neg h1, if_neg h2, if_neg h3, if_pos h4, show σ.1 1 6 = 0 from zt z (by decide +kernel)]
    · show f_X9_count σ a1 = _
      unfold f_X9_count
      rw [if_neg h0, if_neg h1, if_neg h2, if_neg h3, if_pos h4, rdA_82_10, bind_s, show σ.1 82 10 = 0 from zt z (by decide +kernel)]
  by_cases h5 : a1 = 5
  · refine ⟨(0, σ), (0, σ), ?_, ?_, rfl⟩
    · show f_X8_count σ a1 = _
      unfold f_X8_count
      rw [if_neg h0, if_neg h1, if_neg h2, if_neg h3, if_neg h4, if_pos h5, show σ.1 1 1 = 0 from zt z (by decide +kernel)]
    · show f_X9_count σ a1 = _
      unfold f_X9_count
      rw [if_neg h0, if_neg h1, if_neg h2, if_neg h3, if_neg h4, if_pos h5, rdA_82_6, bind_s, show σ.1 82 6 = 0 from zt z (by decide +kernel)]
  by_cases h6 : a1 = 6
  · refine ⟨(10, σ), (10, σ), ?_, ?_, rfl⟩
    · show f_X8_count σ a1 = _
      unfold f_X8_count
      rw [if_neg h0, if_neg h1, if_neg h2, if_neg h3, if_neg h4, if_neg h5, if_pos h6, show σ.1 1 2 = 10 from zt z (by decide +kernel)]
    · show f_X9_count σ a1 = _
      unfold f_X9_count
      rw [if_neg h0, if_neg h1, if_neg h2, if_neg h3, if_neg h4, if_neg h5, if_pos h6, rdA_82_7, bind_s, show σ.1 82 7 = 10 from zt z (by decide +kernel)]
  by_cases h7 : a1 = 7
  · refine ⟨(0, σ), (0, σ), ?_, ?_, rfl⟩
    · show f_X8_count σ a1 = _
      unfold f_X8_count
      rw [if_neg h0, if_neg h1, if_neg h2, if_neg h3, if_neg h4, if_neg h5, if_neg h6, if_pos h7, show σ.1 1 12 = 0 from zt z (by decide +kernel)]
    · show f_X9_count σ a1 = _
      unfold f_X9_count
      rw [if_neg h0, if_neg h1, if_neg h2, if_neg h3, if_neg h4, if_neg h5, if_neg h6, if_pos h7, rdA_82_14, bind_s, show σ.1 82 14 = 0 from zt z (by decide +kernel)]
  by_cases h8 : a1 = 8
  · refine ⟨(0, σ), (0, σ), ?_, ?_, rfl⟩
    · show f_X8_count σ a1 = _
      unfold f_X8_count
      rw [if_neg h0, if_neg h1, if_neg h2, if_neg h3, if_neg h4, if_neg h5, if_neg h6, if_neg h7, if_pos h8, show σ.1 1 14 = 0 from zt z (by decide +kernel)]
    · show f_X9_count σ a1 = _
      unfold f_X9_count
      rw [if_neg h0, if_neg h1, if_neg h2, if_neg h3, if_neg h4, if_neg h5, if_neg h6, if_neg h7, if_pos h8, rdA_82_15, bind_s, show σ.1 82 15 = 0 from zt z (by decide +kernel)]
  by_cases h9 : a1 = 9
  · refine ⟨(0, σ), (0, σ), ?_, ?_, rfl⟩
    · show f_X8_count σ a1 = _
      unfold f_X8_count
      rw [if_neg h0, if_neg h1, if_neg h2, if_neg h3, if_neg h4, if_neg h5, if_neg h6, if_neg h7, if_neg h8, if_pos h9, show σ.1 65 1 = 0 from zt z (by decide +kernel)]
    · show f_X9_count σ a1 = _
      unfold f_X9_count
      rw [if_neg h0, if_neg h1, if_neg h2, if_neg h3, if_neg h4, if_neg h5, if_neg h6, if_neg h7, if_neg h8, if_pos h9, show σ.1 81 18 = 0 from zt z (by decide +kernel)]
  by_cases h10 : a1 = 10
  · refine ⟨(1, σ), (1, σ), ?_, ?_, rfl⟩
    · show f_X8_count σ a1 = _
      unfold f_X8_count
      rw [if_neg h0, if_neg h1, if_neg h2, if_neg h3, if_neg h4, if_neg h5, if_neg h6, if_neg h7, if_neg h8, if_neg h9, if_pos h10, show σ.1 1 15 = 1 from zt z (by decide +kernel)]
    · show f_X9_count σ a1 = _
      unfold f_X9_count
      rw [if_neg h0, if_neg h1, if_neg h2, if_neg h3, if_neg h4, if_neg h5, if_neg h6, if_neg h7, if_neg h8, if_neg h9, if_pos h10, rdA_82_13, bind_s, show σ.1 82 13 = 1 from zt z (by decide +kernel)]
  refine ⟨(-1000000001, rf σ 1), (-1000000001, fi (rf σ 1) 1), ?_, ?_, rfl⟩
  · show f_X8_count σ a1 = _
    unfold f_X8_count
    rw [if_neg h0, if_neg h1, if_neg h2, if_neg h3, if_neg h4, if_neg h5, if_neg h6, if_neg h7, if_neg h8, if_neg h9, if_neg h10, refuse_1, bind_s]
  · show f_X9_count (rf σ 1) a1 = _
    unfold f_X9_count
    rw [if_neg h0, if_neg h1, if_neg h2, if_neg h3, if_neg h4, if_neg h5, if_neg h6, if_neg h7, if_neg h8, if_neg h9, if_neg h10, finds_1, bind_s]
theorem lz {σ : Sto} (z : Zf σ) (k : Nat) (h : st_0.1 k 3 ≤ 0) : σ.1 k 3 ≤ 0 := by rw [z k 3]; exact h
theorem g8 {σ : Sto} {k : Nat} (hl : σ.1 k 3 ≤ 0) (a b c : Int32) : f_X1_give σ k a b c = some (if σ.1 k 0 = 0 then imax (-30) (imin 30 (a + 2 * b)) else imax 0 (imin 100 (a / 12)), σ) := by
  unfold f_X1_give f_X8_heldWithin
  by_cases h : σ.1 k 0 = 0
  · rw [if_pos h, if_pos hl, bind_s, if_pos h]
  · rw [if_neg h, if_pos hl, bind_s, if_neg h]
theorem g9_0 {σ : Sto} (hl : σ.1 82 88 ≤ 0) (a b c : Int32) : f_X9_gives σ 0 a b c = some (imax (-30) (imin 30 (a + 2 * b)), σ) := by
  unfold f_X9_gives f_X9_gives_L16 f_X9_gives_L74
  rw [if_pos (by decide), show (88 + 0 : Int32) = nI 88 from rfl, rd_nI (by decide), bind_s, if_pos hl, if_pos (by decide), held_eq _ _ _ (by decide), bind_s]
theorem g9_1 {σ : Sto} (hl : σ.1 82 89 ≤ 0) (a b c : Int32) : f_X9_gives σ 1 a b c = some (imax 0 (imin 100 (a / 12)), σ) := by
  unfold f_X9_gives f_X9_gives_L16 f_X9_gives_L74
  rw [if_neg (by decide), show (88 + 1 : Int32) = nI 89 from rfl, rd_nI (by decide), bind_s, if_pos hl, if_neg (by decide), held_eq _ _ _ (by decide), bind_s]
theorem p1_law (a1 : Int32) (a2 : Int32) (a3 : Int32) (a4 : Int32) : LPr (fun σ => f_X8_law σ a1 a2 a3 a4) (fun σ => f_X9_law σ a1 a2 a3 a4) true (law_Iv 0) (law_Iv (0 + 1)) := by
  refine pr_of (fun σ z => ?_)
  by_cases h0 : a1 = 0
  · subst h0
    refine ⟨(imax (-30) (imin 30 (a2 + 2 * a3)), σ), (imax (-30) (imin 30 (a2 + 2 * a3)), σ), ?_, ?_, rfl⟩
    · show f_X8_law σ 0 a2 a3 a4 = _
      unfold f_X8_law f_X0_lawOf
      rw [if_pos (by decide), bind_s, onN_1, if_pos (by decide), show A0 1 9 = 4 by decide, g8 (lz z 4 (by decide +kernel)), bind_s, if_pos (show σ.1 4 0 = 0 from zt z (by decide +kernel))]
    · show f_X9_law σ 0 a2 a3 a4 = _
      unfold f_X9_law
      rw [in_0_1, bind_s, if_pos (by decide), g9_0 (by rw [z 82 88]; decide +kernel), bind_s]
  · by_cases h1 : a1 = 1
    · subst h1
      refine ⟨(imax 0 (imin 100 (a2 / 12)), σ), (imax 0 (imin 100 (a2 / 12)), σ), ?_, ?_, rfl⟩
      · show f_X8_law σ 1 a2 a3 a4 = _
        unfold f_X8_law f_X0_lawOf
        rw [if_neg (by decide), if_pos (by decide), bind_s, onN_1, if_pos (by decide), show A0 1 10 = 7 by decide, g8 (lz z 7 (by decide +kernel)), bind_s, if_neg (show ¬ σ.1 7 0 = 0 by rw [z 7 0]; decide +kernel)]
      · show f_X9_law σ 1 a2 a3 a4 = _
        unfold f_X9_law
        rw [in_0_1, bind_s, if_pos (by decide), g9_1 (by rw [z 82 89]; decide +kernel), bind_s]
    · refine ⟨(-1000000001, rf σ 1), (-1000000001, fi (rf σ 1) 1), ?_, ?_, rfl⟩
      · show f_X8_law σ a1 a2 a3 a4 = _
        unfold f_X8_law f_X0_lawOf
        rw [if_neg h0, if_neg h1, bind_s, onN_0, refuse_1, bind_s]
      · show f_X9_law (rf σ 1) a1 a2 a3 a4 = _
        unfold f_X9_law
        have e : isO a1 0 1 = true := by
          cases h : isO a1 0 1 with
          | true => rfl
          | false =>
            obtain ⟨j, hj, rfl⟩ := isO_nI (n := 1) rfl h
            rcases (show j = 0 ∨ j = 1 by omega) with rfl | rfl
            · exact absurd rfl h0
            · exact absurd rfl h1
        rw [in_0_1, bind_s, e, if_neg (by decide), finds_1, bind_s]
theorem p1_flow (a1 : Int32) : LPr (fun σ => f_X8_flow σ a1) (fun σ => f_X9_flow σ a1) true (law_Iv 0) (law_Iv (0 + 1)) := by
  refine pr_of (fun σ z => ?_)
  cases h : isO a1 0 5 with
  | true =>
    refine ⟨(-1000000001, rf σ 1), (-1000000001, fi (rf σ 1) 1), ?_, ?_, rfl⟩
    · show f_X8_flow σ a1 = _
      unfold f_X8_flow
      rw [out_eq, bind_s, h, if_pos (by decide), refuse_1, bind_s]
    · show f_X9_flow (rf σ 1) a1 = _
      unfold f_X9_flow
      rw [lane_eq, bind_s, h, if_neg (by decide), finds_1, bind_s]
  | false =>
    obtain ⟨j, hj, rfl⟩ := isO_nI (n := 5) rfl h
    obtain ⟨c1, c2⟩ := z_cur z j (by omega)
    refine ⟨(0, σ), (0, σ), ?_, ?_, rfl⟩
    · show f_X8_flow σ (nI j) = _
      unfold f_X8_flow f_X0_flowOf
      rw [out_eq, bind_s, h, if_neg (by decide), bind_s, if_neg (by decide), show A0 1 0 = 2 by decide, rd_nI (by show j < 6; omega), bind_s, show A0 1 9 = 4 by decide, g8 (lz z 4 (by decide +kernel)), bind_s, bind_s, if_pos (show σ.1 4 0 = 0 from zt z (by decide +kernel)), c1, (z_w z).1]
      rfl
    · show f_X9_flow σ (nI j) = _
      unfold f_X9_flow f_X9_flowOf
      rw [lane_eq, bind_s, h, if_pos (by decide), Int32.zero_add, rd_nI (by show j < 270; omega), bind_s, rdA_82_6, bind_s, g9_0 (by rw [z 82 88]; decide +kernel), bind_s, bind_s, c2, (z_w z).2.2.2.1]
      rfl
theorem z_sh {σ : Sto} (z : Zf σ) : ∀ j, j < 4 → σ.1 (73 + 2 * j) 2 = 0 ∧ σ.1 90 j = 0 := by
  have h : ∀ j, j < 4 → st_0.1 (73 + 2 * j) 2 = 0 ∧ st_0.1 90 j = 0 := by decide +kernel
  exact fun j hj => ⟨zt z (h j hj).1, zt z (h j hj).2⟩
theorem K73 : ∀ j, j < 4 → K0 (73 + 2 * j) = 4 ∧ A0 (73 + 2 * j) 0 = 74 + 2 * j ∧ K0 (74 + 2 * j) = 20 ∧ Ln0 (74 + 2 * j) = 40 := by decide
theorem miss8 {σ : Sto} {k : Nat} (h : σ.1 k 2 = 0) : f_X4_isMissing σ k = some true := by unfold f_X4_isMissing; rw [if_pos h]
theorem p1_put (a1 : Int32) (a2 : Int32) (a3 : Int32) : LPr (fun σ => f_X8_put σ a1 a2 a3) (fun σ => f_X9_put σ a1 a2 a3) true (law_Iv 0) (law_Iv (0 + 1)) := by
  refine pr_of (fun σ z => ?_)
  cases h : isO a1 0 3 with
  | true =>
    refine ⟨(-1000000001, rf σ 1), (-1000000001, fi (rf σ 1) 1), ?_, ?_, rfl⟩
    · show f_X8_put σ a1 a2 a3 = _
      unfold f_X8_put
      rw [sheetAt_o h, bind_s, onN_0, refuse_1, bind_s]
    · show f_X9_put (rf σ 1) a1 a2 a3 = _
      unfold f_X9_put
      rw [sheet_eq, bind_s, h, if_neg (by decide), finds_1, bind_s]
  | false =>
    obtain ⟨j, hj, rfl⟩ := isO_nI (n := 3) rfl h
    obtain ⟨c1, c2⟩ := z_sh z j (by omega)
    refine ⟨(-1000000002, rf σ 2), (-1000000002, fi (rf σ 2) 2), ?_, ?_, rfl⟩
    · show f_X8_put σ (nI j) a2 a3 = _
      unfold f_X8_put
      rw [sheetAt_i (by omega), bind_s, onN_1, if_pos (K73 j (by omega)).1, miss8 c1, bind_s, if_pos (by decide), refuse_2, bind_s]
    · show f_X9_put (rf σ 2) (nI j) a2 a3 = _
      unfold f_X9_put
      rw [sheet_eq, bind_s, h, if_pos (by decide), rd_nI (by show j < 4; omega), bind_s, show (rf σ 2).1 90 j = 0 from (show σ.1 90 j = 0 from c2), if_pos (by decide), finds_2, bind_s]
theorem p1_years (a1 : Int32) : LPr (fun σ => f_X8_years σ a1) (fun σ => f_X9_years σ a1) true (law_Iv 0) (law_Iv (0 + 1)) := by
  refine pr_of (fun σ z => ?_)
  cases h : isO a1 0 3 with
  | true =>
    refine ⟨(-1000000001, rf σ 1), (-1000000001, fi (rf σ 1) 1), ?_, ?_, rfl⟩
    · show f_X8_years σ a1 = _
      unfold f_X8_years
      rw [sheetAt_o h, bind_s, onN_0, refuse_1, bind_s]
    · show f_X9_years (rf σ 1) a1 = _
      unfold f_X9_years
      rw [sheet_eq, bind_s, h, if_neg (by decide), finds_1, bind_s]
  | false =>
    obtain ⟨j, hj, rfl⟩ := isO_nI (n := 3) rfl h
    obtain ⟨c1, c2⟩ := z_sh z j (by omega)
    refine ⟨(-1000000002, rf σ 2), (-1000000002, fi (rf σ 2) 2), ?_, ?_, rfl⟩
    · show f_X8_years σ (nI j) = _
      unfold f_X8_years
      rw [sheetAt_i (by omega), bind_s, onN_1, if_pos (K73 j (by omega)).1, miss8 c1, bind_s, if_pos (by decide), refuse_2, bind_s]
    · show f_X9_years (rf σ 2) (nI j) = _
      unfold f_X9_years
      rw [sheet_eq, bind_s, h, if_pos (by decide), rd_nI (by show j < 4; omega), bind_s, show (rf σ 2).1 90 j = 0 from (show σ.1 90 j = 0 from c2), if_pos (by decide), finds_2, bind_s]
theorem p1_move (a1 : Int32) (a2 : Int32) (a3 : Int32) (a4 : Int32) (a5 : Int32) : LPr (fun σ => f_X8_move σ a1 a2 a3 a4 a5) (fun σ => f_X9_move σ a1 a2 a3 a4 a5) true (law_Iv 0) (law_Iv (0 + 1)) := by
  refine pr_of (fun σ z => ?_)
  cases h : isO a1 0 3 with
  | true =>
    have e8 : f_X8_move σ a1 a2 a3 a4 a5 = some (-1000000001, rf σ 1) := by
      unfold f_X8_move
      cases h3 : isO a3 0 3 with
      | true => rw [sheetAt_o h, bind_s, sheetAt_o h3, bind_s, onN_0, refuse_1, bind_s]
      | false =>
        obtain ⟨j, hj, rfl⟩ := isO_nI (n := 3) rfl h3
        rw [sheetAt_o h, bind_s, sheetAt_i (by omega), bind_s, onN_0, refuse_1, bind_s]
    refine ⟨_, (-1000000001, fi (rf σ 1) 1), e8, ?_, rfl⟩
    show f_X9_move (rf σ 1) a1 a2 a3 a4 a5 = _
    unfold f_X9_move
    rw [sheet_eq, bind_s, h, if_neg (by decide), finds_1, bind_s]
  | false =>
    obtain ⟨j, hj, rfl⟩ := isO_nI (n := 3) rfl h
    obtain ⟨c1, c2⟩ := z_sh z j (by omega)
    cases h3 : isO a3 0 3 with
    | true =>
      refine ⟨(-1000000001, rf σ 1), (-1000000001, fi (rf σ 1) 1), ?_, ?_, rfl⟩
      · show f_X8_move σ (nI j) a2 a3 a4 a5 = _
        unfold f_X8_move
        rw [sheetAt_i (by omega), bind_s, sheetAt_o h3, bind_s, onN_1, onN_0, refuse_1, bind_s]
      · show f_X9_move (rf σ 1) (nI j) a2 a3 a4 a5 = _
        unfold f_X9_move
        rw [sheet_eq, bind_s, h, if_pos (by decide), sheet_eq, bind_s, h3, if_neg (by decide), finds_1, bind_s]
    | false =>
      obtain ⟨i, hi, rfl⟩ := isO_nI (n := 3) rfl h3
      refine ⟨(-1000000002, rf σ 2), (-1000000002, fi (rf σ 2) 2), ?_, ?_, rfl⟩
      · show f_X8_move σ (nI j) a2 (nI i) a4 a5 = _
        unfold f_X8_move
        rw [sheetAt_i (by omega), bind_s, sheetAt_i (by omega), bind_s, onN_1, onN_1, if_pos (K73 j (by omega)).1, miss8 c1, bind_s, if_pos (by decide), refuse_2, bind_s]
      · show f_X9_move (rf σ 2) (nI j) a2 (nI i) a4 a5 = _
        unfold f_X9_move
        rw [sheet_eq, bind_s, h, if_pos (by decide), sheet_eq, bind_s, h3, if_pos (by decide), rd_nI (by show j < 4; omega), bind_s, show (rf σ 2).1 90 j = 0 from (show σ.1 90 j = 0 from c2), if_pos (by decide), finds_2, bind_s]
theorem clear_L (k : Nat) (hA : A0 k 0 < 94 ∧ Ln0 (A0 k 0) = 40) : ∀ (n j : Nat) (σ : Sto), j ≤ 40 → 40 < n + j → ∃ σ', f_X4_clear_L18 k n (nI j) σ = some σ' ∧ (∀ a b, a ≠ A0 k 0 → σ'.1 a b = σ.1 a b) := by
  intro n
  induction n with
  | zero => intro j σ h1 h2; omega
  | succ n ih =>
    intro j σ h1 h2
    rw [f_X4_clear_L18]
    by_cases h : j = 40
    · subst h
      rw [if_pos (by decide)]
      exact ⟨σ, rfl, fun _ _ _ => rfl⟩
    · rw [if_neg (show ¬ (40 : Int32) ≤ nI j from nI_ge (b := 40) (by omega) (by omega)), wr_nI (by rw [hA.2]; omega), bind_s, nI_1]
      obtain ⟨σ', e1, e2⟩ := ih (j + 1) (sI σ (A0 k 0) j 0) (by omega) (by omega)
      exact ⟨σ', e1, fun a b hab => by rw [e2 a b hab]; simp [sI, hab]⟩
theorem clear_E {σ : Sto} {k : Nat} (hA : A0 k 0 < 94 ∧ Ln0 (A0 k 0) = 40) (v n : Int32) : ∃ σ', f_X4_clear σ k v n = some σ' ∧ (∀ a b, a ≠ A0 k 0 → a ≠ k → σ'.1 a b = σ.1 a b) := by
  unfold f_X4_clear f_X8_heldWithin
  rw [lp_eq, bind_s, lp_eq]
  obtain ⟨σ', e1, e2⟩ := clear_L k hA FU 0 (sI (sI σ k 2 v) k 1 (imax 0 (imin 40 n))) (by omega) (by unfold FU; omega)
  exact ⟨σ', e1, fun a b h1 h2 => by rw [e2 a b h1]; simp [sI, h2]⟩
theorem sheet_L (s : Nat) (hs : s < 4) : ∀ (n j : Nat) (σ : Sto), j ≤ 40 → 40 < n + j → ∃ σ', f_X9_sheet_L90 (nI s) n (nI j) σ = some (1, σ') := by
  intro n
  induction n with
  | zero => intro j σ h1 h2; omega
  | succ n ih =>
    intro j σ h1 h2
    rw [f_X9_sheet_L90]
    by_cases h : j = 40
    · subst h
      rw [if_pos (by decide)]
      exact ⟨σ, rfl⟩
    · have e : (40 * nI s + nI j : Int32) = nI (40 * s + j) := by
        rcases (show s = 0 ∨ s = 1 ∨ s = 2 ∨ s = 3 by omega) with rfl | rfl | rfl | rfl
        · exact nI_add 0 j
        · exact nI_add 40 j
        · exact nI_add 80 j
        · exact nI_add 120 j
      rw [if_neg (show ¬ (40 : Int32) ≤ nI j from nI_ge (b := 40) (by omega) (by omega)), e, wr_nI (by show 40 * s + j < 160; omega), bind_s, nI_1]
      exact ih (j + 1) _ (by omega) (by omega)
theorem sheet_86 (σ : Sto) (s : Nat) (hs : s < 4) (v : Int32) : ∃ σ', f_X9_sheet_L86 (nI s) v (nI s) σ = some (1, σ') := by
  unfold f_X9_sheet_L86
  rw [wr_nI (by show s < 4; omega), bind_s]
  exact sheet_L s hs FU 0 _ (by omega) (by unfold FU; omega)
theorem sheet_65 (σ : Sto) (s : Nat) (hs : s < 4) (v2 v3 : Int32) : ∃ σ', f_X9_sheet_L65 (nI s) v2 v3 σ = some (1, σ') := by
  unfold f_X9_sheet_L65
  rw [wr_nI (by show s < 4; omega), bind_s]
  by_cases h : v2 = 0
  · rw [if_pos h]; exact sheet_86 _ s hs _
  · rw [if_neg h]; exact sheet_86 _ s hs _
theorem A73 : ∀ j, j < 4 → A0 (73 + 2 * j) 0 < 94 ∧ Ln0 (A0 (73 + 2 * j) 0) = 40 := by decide
theorem p1_sheet (a1 : Int32) (a2 : Int32) (a3 : Int32) : LPr (fun σ => f_X8_sheet σ a1 a2 a3) (fun σ => f_X9_sheet σ a1 a2 a3) true (law_Iv 0) (law_Iv (0 + 1)) := by
  refine pr_of (fun σ z => ?_)
  cases h : isO a1 0 3 with
  | true =>
    refine ⟨(-1000000001, rf σ 1), (-1000000001, fi (rf σ 1) 1), ?_, ?_, rfl⟩
    · show f_X8_sheet σ a1 a2 a3 = _
      unfold f_X8_sheet
      rw [sheetAt_o h, bind_s, onN_0, refuse_1, bind_s]
    · show f_X9_sheet (rf σ 1) a1 a2 a3 = _
      unfold f_X9_sheet
      rw [sheet_eq, bind_s, h, if_neg (by decide), finds_1, bind_s]
  | false =>
    obtain ⟨j, hj, rfl⟩ := isO_nI (n := 3) rfl h
    have key : ∃ r s, f_X8_sheet_L40 a2 a3 (some (73 + 2 * j)) σ = some r ∧ f_X9_sheet_L35 (nI j) a2 a3 r.2 = some s ∧ r.1 = s.1 := by
      unfold f_X8_sheet_L40 f_X9_sheet_L35
      by_cases h0 : a2 = 0
      · obtain ⟨τ, t1, -⟩ := clear_E (σ := σ) (A73 j (by omega)) 0 0
        obtain ⟨u, u1⟩ := sheet_65 τ j (by omega) a2 a3
        refine ⟨(1, τ), (1, u), ?_, ?_, rfl⟩
        · rw [if_pos h0]
          unfold deref
          simp only [if_pos (K73 j (by omega)).1, t1, bind_s]
        · rw [if_pos h0]
          unfold f_X9_sheet_L49
          rw [if_pos h0]
          exact u1
      · by_cases h1 : 0 ≤ a3
        · by_cases h2 : a3 ≤ 40
          · obtain ⟨τ, t1, -⟩ := clear_E (σ := σ) (A73 j (by omega)) a2 a3
            obtain ⟨u, u1⟩ := sheet_65 τ j (by omega) a2 a3
            refine ⟨(1, τ), (1, u), ?_, ?_, rfl⟩
            · rw [if_neg h0, if_pos h1, if_pos h2]
              unfold deref
              simp only [if_pos (K73 j (by omega)).1, t1, bind_s]
            · rw [if_neg h0, if_pos h1]
              unfold f_X9_sheet_L49
              rw [if_neg h0, if_pos h2]
              exact u1
          · refine ⟨(-1000000001, rf σ 1), (-1000000001, fi (rf σ 1) 1), ?_, ?_, rfl⟩
            · rw [if_neg h0, if_pos h1, if_neg h2, refuse_1, bind_s]
            · rw [if_neg h0, if_pos h1]
              unfold f_X9_sheet_L49
              rw [if_neg h0, if_neg h2, finds_1, bind_s]
        · refine ⟨(-1000000003, rf σ 3), (-1000000003, fi (rf σ 3) 3), ?_, ?_, rfl⟩
          · rw [if_neg h0, if_neg h1, refuse_3, bind_s]
          · rw [if_neg h0, if_neg h1, finds_3, bind_s]
    have hw : ∀ (o8 : Option (Int32 × Sto)) (o9 : Sto → Option (Int32 × Sto)), (a2 = 0 ∨ a2 = 8 ∨ a2 = 16 ∨ a2 = 32) → f_X8_sheet σ (nI j) a2 a3 = f_X8_sheet_L40 a2 a3 (some (73 + 2 * j)) σ ∧ ∀ τ, f_X9_sheet τ (nI j) a2 a3 = f_X9_sheet_L35 (nI j) a2 a3 τ := by
      intro _ _ hq
      unfold f_X8_sheet f_X9_sheet
      rw [sheetAt_i (by omega), bind_s, onN_1]
      refine ⟨?_, fun τ => ?_⟩
      · rcases hq with q | q | q | q <;> simp [q]
      · rw [sheet_eq, bind_s, h]
        rcases hq with q | q | q | q <;> simp [q]
    by_cases hq : a2 = 0 ∨ a2 = 8 ∨ a2 = 16 ∨ a2 = 32
    · obtain ⟨r, s, k1, k2, k3⟩ := key
      obtain ⟨w1, w2⟩ := hw none (fun _ => none) hq
      exact ⟨r, s, w1.trans k1, (w2 _).trans k2, k3⟩
    · refine ⟨(-1000000001, rf σ 1), (-1000000001, fi (rf σ 1) 1), ?_, ?_, rfl⟩
      · show f_X8_sheet σ (nI j) a2 a3 = _
        unfold f_X8_sheet
        rw [sheetAt_i (by omega), bind_s, onN_1, if_neg (fun q => hq (Or.inl q)), if_neg (fun q => hq (Or.inr (Or.inl q))), if_neg (fun q => hq (Or.inr (Or.inr (Or.inl q)))), if_neg (fun q => hq (Or.inr (Or.inr (Or.inr q)))), refuse_1, bind_s]
      · show f_X9_sheet (rf σ 1) (nI j) a2 a3 = _
        unfold f_X9_sheet
        rw [sheet_eq, bind_s, h, if_pos (by decide), if_neg (fun q => hq (Or.inl q)), if_neg (fun q => hq (Or.inr (Or.inl q))), if_neg (fun q => hq (Or.inr (Or.inr (Or.inl q)))), if_neg (fun q => hq (Or.inr (Or.inr (Or.inr q)))), finds_1, bind_s]
theorem keep_L (k : Nat) (hA : Ln0 (A0 k 5) = 4) (l : Int32) : ∀ (n j : Nat) (σ : Sto), j ≤ 4 → 4 < n + j → ∃ σ', f_X6_keepTo_L2 k l n (nI j) σ = some σ' ∧ (∀ a b, a ≠ A0 k 5 → σ'.1 a b = σ.1 a b) := by
  intro n
  induction n with
  | zero => intro j σ h1 h2; omega
  | succ n ih =>
    intro j σ h1 h2
    rw [f_X6_keepTo_L2]
    by_cases h : j = 4
    · subst h
      rw [if_pos (by decide)]
      exact ⟨σ, rfl, fun _ _ _ => rfl⟩
    · rw [if_neg (show ¬ (4 : Int32) ≤ nI j from nI_ge (b := 4) (by omega) (by omega)), wr_nI (by rw [hA]; omega), bind_s, nI_1]
      obtain ⟨σ', e1, e2⟩ := ih (j + 1) (sI σ (A0 k 5) j l) (by omega) (by omega)
      exact ⟨σ', e1, fun a b hab => by rw [e2 a b hab]; simp [sI, hab]⟩
theorem begin_E {σ : Sto} {k : Nat} (hA : Ln0 (A0 k 5) = 4) (a b : Int32) : ∃ σ', f_X6_begin σ k a b = some σ' ∧ (∀ x y, x ≠ A0 k 5 → x ≠ k → σ'.1 x y = σ.1 x y) := by
  unfold f_X6_begin f_X6_turnInto f_X6_keepTo
  simp only [lp_eq, bind_s]
  obtain ⟨σ', e1, e2⟩ := keep_L k hA 0 FU 0 (sI (sI (sI (sI (sI σ k 0 (a / 10)) k 1 (irem a 10)) k 2 b) k 3 10) k 4 0) (by omega) (by unfold FU; omega)
  refine ⟨σ', ?_, fun x y h1 h2 => by rw [e2 x y h1]; simp [sI, h2]⟩
  rw [show (0 : Int32) = nI 0 from rfl] at e1 ⊢
  rw [e1, bind_s]
theorem bec_0 {σ : Sto} {j : Nat} (hj : j < 9) (v : Int32) : f_X9_becomes σ 0 (nI j) v = some (sI σ 82 (16 + j) v) := by
  unfold f_X9_becomes
  rw [show (16 + 9 * 0 : Int32) = nI 16 from rfl, nI_add, wr_nI (by show 16 + j < 270; omega), bind_s]
theorem swim_L : ∀ (n j : Nat) (σ : Sto), j ≤ 4 → 4 < n + j → ∃ σ', f_X9_swimmer_L99 0 n (nI j) σ = some (0, σ') := by
  intro n
  induction n with
  | zero => intro j σ h1 h2; omega
  | succ n ih =>
    intro j σ h1 h2
    rw [f_X9_swimmer_L99]
    by_cases h : j = 4
    · subst h
      rw [if_pos (by decide), rdA_82_12, bind_s, wrA_82_12, bind_s]
      exact ⟨_, rfl⟩
    · rw [if_neg (show ¬ (4 : Int32) ≤ nI j from nI_ge (b := 4) (by omega) (by omega)), show (5 : Int32) = nI 5 from rfl, nI_add, bec_0 (by omega), bind_s, nI_1]
      exact ih (j + 1) _ (by omega) (by omega)
theorem p1_swimmer (a1 : Int32) (a2 : Int32) : LPr (fun σ => f_X8_swimmer σ a1 a2) (fun σ => f_X9_swimmer σ a1 a2) true (law_Iv 0) (law_Iv (0 + 1)) := by
  refine pr_of (fun σ z => ?_)
  cases h : isO a1 0 69 with
  | true =>
    refine ⟨(-1000000001, rf σ 1), (-1000000001, fi (rf σ 1) 1), ?_, ?_, rfl⟩
    · show f_X8_swimmer σ a1 a2 = _
      unfold f_X8_swimmer
      rw [out_eq, bind_s, h, if_pos (by decide), refuse_1, bind_s]
    · show f_X9_swimmer (rf σ 1) a1 a2 = _
      unfold f_X9_swimmer
      rw [in_0_69, bind_s, h, if_neg (by decide), finds_1, bind_s]
  | false =>
    cases h2 : isO a2 0 1 with
    | true =>
      refine ⟨(-1000000001, rf σ 1), (-1000000001, fi (rf σ 1) 1), ?_, ?_, rfl⟩
      · show f_X8_swimmer σ a1 a2 = _
        unfold f_X8_swimmer
        rw [out_eq, bind_s, h, if_neg (by decide), out_eq, bind_s, h2, if_pos (by decide), refuse_1, bind_s]
      · show f_X9_swimmer (rf σ 1) a1 a2 = _
        unfold f_X9_swimmer
        rw [in_0_69, bind_s, h, if_pos (by decide), in_0_1, bind_s, h2, if_neg (by decide), finds_1, bind_s]
    | false =>
      obtain ⟨τ, t1, t2⟩ := begin_E (σ := sI σ 1 8 1) (k := 12) (by decide) a1 a2
      have c9 : τ.1 82 12 = 0 := by rw [t2 82 12 (by decide) (by decide)]; exact (show σ.1 82 12 = 0 from z_9 z)
      obtain ⟨u, u1⟩ := swim_L FU 0 (sI (sI (sI (sI (sI τ 82 16 (a1 / 10)) 82 17 (irem a1 10)) 82 18 a2) 82 19 10) 82 20 0) (by omega) (by unfold FU; omega)
      refine ⟨(0, τ), (0, u), ?_, ?_, rfl⟩
      · show f_X8_swimmer σ a1 a2 = _
        unfold f_X8_swimmer f_X0_swimmerAt
        rw [out_eq, bind_s, h, if_neg (by decide), out_eq, bind_s, h2, if_neg (by decide), z_8 z, if_pos (by decide), lp_eq, show (0 + 1 : Int32) = 1 from rfl, out_eq, bind_s, show (sI σ 1 8 1).1 1 8 = 1 from rfl, if_neg (by decide), if_pos (by decide), show A0 1 7 = 3 by decide, show (0 : Int32) = nI 0 from rfl, rdR_nI (by decide), bind_s, bind_s, show R0 3 0 = some 12 by decide, onN_1, if_pos (by decide), t1, bind_s]
      · show f_X9_swimmer τ a1 a2 = _
        unfold f_X9_swimmer
        rw [in_0_69, bind_s, h, if_pos (by decide), in_0_1, bind_s, h2, if_pos (by decide), rdA_82_12, bind_s, c9, if_neg (by decide), bind_s,
          show f_X9_becomes τ 0 0 (a1 / 10) = _ from bec_0 (j := 0) (by omega) _, bind_s, show ∀ s v, f_X9_becomes s 0 1 v = _ from fun s v => bec_0 (j := 1) (by omega) v, bind_s, show ∀ s v, f_X9_becomes s 0 2 v = _ from fun s v => bec_0 (j := 2) (by omega) v, bind_s, show ∀ s v, f_X9_becomes s 0 3 v = _ from fun s v => bec_0 (j := 3) (by omega) v, bind_s, show ∀ s v, f_X9_becomes s 0 4 v = _ from fun s v => bec_0 (j := 4) (by omega) v, bind_s]
        exact u1
theorem tape_L (w : Int64) (m : Nat) (hm : m ≤ 8) : ∀ (n j t : Nat) (σ : Sto), j ≤ m → m < n + j → σ.1 1 12 = nI t → t + (m - j) ≤ 50 → ∃ σ', f_X0_addToTape_L3 1 w (nI m) n (nI j) σ = some σ' ∧ σ'.1 1 12 = nI (t + (m - j)) ∧ (∀ a b, a ≠ 10 → a ≠ 1 → σ'.1 a b = σ.1 a b) := by
  intro n
  induction n with
  | zero => intro j t σ h1 h2; omega
  | succ n ih =>
    intro j t σ h1 h2 h3 h4
    rw [f_X0_addToTape_L3]
    by_cases h : j = m
    · subst h
      rw [if_pos (nI_le (Nat.le_refl _) (by omega))]
      exact ⟨σ, rfl, by rw [h3]; congr 1; omega, fun _ _ _ _ => rfl⟩
    · rw [if_neg (nI_ge (by omega) (by omega)), h3, if_neg (show ¬ (50 : Int32) ≤ nI t from nI_ge (b := 50) (by omega) (by omega)), show A0 1 11 = 10 by decide, wr_nI (by show t < 50; omega), bind_s, lp_eq, nI_1]
      have e : ∀ v, (sI σ 10 t v).1 1 12 = nI t := fun v => h3
      rw [e, nI_1]
      obtain ⟨σ', e1, e2, e3⟩ := ih (j + 1) (t + 1) (sI (sI σ 10 t (Int64.toInt32 (lushr w (8 * nI j)) &&& 255)) 1 12 (nI (t + 1))) (by omega) (by omega) rfl (by omega)
      exact ⟨σ', e1, by rw [e2]; congr 1; omega, fun a b ha hb => by rw [e3 a b ha hb]; simp [sI, ha, hb]⟩
theorem feed_L (w : Int64) (m : Nat) (hm : m ≤ 8) : ∀ (n j t : Nat) (σ : Sto), j ≤ m → m < n + j → σ.1 82 14 = nI t → t + (m - j) ≤ 50 → ∃ σ', f_X9_feed_L41 w (nI m) n (nI j) σ = some (nI (t + (m - j)), σ') := by
  intro n
  induction n with
  | zero => intro j t σ h1 h2; omega
  | succ n ih =>
    intro j t σ h1 h2 h3 h4
    rw [f_X9_feed_L41]
    by_cases h : j = m
    · subst h
      rw [if_pos (nI_le (Nat.le_refl _) (by omega)), rdA_82_14, bind_s, h3]
      exact ⟨σ, by congr 3; omega⟩
    · rw [if_neg (nI_ge (by omega) (by omega)), rdA_82_14, bind_s, h3, show (210 : Int32) = nI 210 from rfl, nI_add, wr_nI (by show 210 + t < 270; omega), bind_s, rdA_82_14, bind_s, nI_1]
      have e : ∀ v, (sI σ 82 (210 + t) v).1 82 14 = nI t := fun v => by simp [sI, h3]; omega
      rw [e, nI_1, wrA_82_14, bind_s]
      obtain ⟨σ', e1⟩ := ih (j + 1) (t + 1) (sI (sI σ 82 (210 + t) (Int64.toInt32 (lshr w (8 * nI j) &&& 255))) 82 14 (nI (t + 1))) (by omega) (by omega) rfl (by omega)
      exact ⟨σ', by rw [e1]; congr 3; omega⟩
theorem p1_feed (a1 : Int64) (a3 : Int32) : LPr (fun σ => f_X8_feed σ a1 a3) (fun σ => f_X9_feed σ a1 a3) true (law_Iv 0) (law_Iv (0 + 1)) := by
  refine pr_of (fun σ z => ?_)
  cases h : isO a3 1 8 with
  | true =>
    refine ⟨(-1000000001, rf σ 1), (-1000000001, fi (rf σ 1) 1), ?_, ?_, rfl⟩
    · show f_X8_feed σ a1 a3 = _
      unfold f_X8_feed
      rw [out_eq, bind_s, h, if_pos (by decide), refuse_1, bind_s]
    · show f_X9_feed (rf σ 1) a1 a3 = _
      unfold f_X9_feed
      rw [in_1_8, bind_s, h, if_neg (by decide), finds_1, bind_s]
  | false =>
    obtain ⟨q1, q2⟩ := isO_f h
    obtain ⟨m, hm, rfl⟩ := nI_of2 (M := 8) (n := 8) rfl (Int32.not_lt.mpr (Int32.le_trans (by decide) q1)) q2
    have c8 : σ.1 1 12 = nI 0 := zt z (by decide +kernel)
    have c9 : σ.1 82 14 = nI 0 := zt z (by decide +kernel)
    obtain ⟨τ, t1, t2, t3⟩ := tape_L a1 m hm FU 0 0 σ (by omega) (by unfold FU; omega) c8 (by omega)
    have c9' : τ.1 82 14 = nI 0 := by rw [t3 82 14 (by decide) (by decide)]; exact c9
    obtain ⟨u, u1⟩ := feed_L a1 m hm FU 0 0 τ (by omega) (by unfold FU; omega) c9' (by omega)
    have le50 : (nI 0 + nI m : Int32) ≤ 50 := by rw [nI_add]; exact nI_le (b := 50) (by omega) (by omega)
    refine ⟨(nI (0 + (m - 0)), τ), (nI (0 + (m - 0)), u), ?_, ?_, rfl⟩
    · show f_X8_feed σ a1 (nI m) = _
      unfold f_X8_feed f_X0_addToTape
      rw [out_eq, bind_s, h, if_neg (by decide), c8, if_pos le50, show (0 : Int32) = nI 0 from rfl, t1, bind_s, t2]
    · show f_X9_feed τ a1 (nI m) = _
      unfold f_X9_feed
      rw [in_1_8, bind_s, h, if_pos (by decide), rdA_82_14, bind_s, c9', if_pos le50]
      exact u1
theorem tx_next {σ : Sto} (h4 : σ.1 55 4 = 0) (h3 : σ.1 55 3 = 0) : f_X3_next σ = some (-1) := by
  unfold f_X3_next f_X3_next_L30
  rw [h4, h3, if_neg (by decide), if_pos (by decide)]
theorem tx_5 {σ : Sto} (h4 : σ.1 55 4 = 0) (h3 : σ.1 55 3 = 0) (d : Nat) : g_X3_readAll (d + 1) 5 0 σ = some (false, σ) := by
  rw [g_X3_readAll]
  unfold b_X3_readPart f_X3_readPart_L35 f_X3_isDigit
  rw [tx_next h4 h3, bind_s, if_pos (by decide), bind_s, if_neg (by decide), if_neg (by decide), if_pos (by decide), if_neg (by decide), if_neg (by decide), if_neg (by decide)]
theorem tx_6 {σ : Sto} (h4 : σ.1 55 4 = 0) (h3 : σ.1 55 3 = 0) (d : Nat) : g_X3_readAll (d + 2) 6 0 σ = some (false, σ) := by
  rw [g_X3_readAll]
  unfold b_X3_readProduct
  rw [tx_5 h4 h3, bind_s, if_neg Bool.false_ne_true]
theorem tx_7 {σ : Sto} (h4 : σ.1 55 4 = 0) (h3 : σ.1 55 3 = 0) (d : Nat) : g_X3_readAll (d + 3) 7 0 σ = some (false, σ) := by
  rw [g_X3_readAll]
  unfold b_X3_readSum
  rw [tx_6 h4 h3, bind_s, if_neg Bool.false_ne_true]
theorem tx_3 {σ : Sto} (h4 : σ.1 55 4 = 0) (h3 : σ.1 55 3 = 0) (d : Nat) : g_X3_readAll (d + 4) 3 0 σ = some (false, σ) := by
  rw [g_X3_readAll]
  unfold b_X3_readComparison
  rw [tx_7 h4 h3, bind_s, if_neg Bool.false_ne_true]
theorem tx_0 {σ : Sto} (h4 : σ.1 55 4 = 0) (h3 : σ.1 55 3 = 0) (d : Nat) : g_X3_readAll (d + 5) 0 0 σ = some (false, σ) := by
  rw [g_X3_readAll]
  unfold b_X3_readAll
  rw [tx_3 h4 h3, bind_s, if_neg Bool.false_ne_true]
theorem tx_1 {σ : Sto} (h4 : σ.1 55 4 = 0) (h3 : σ.1 55 3 = 0) (d : Nat) : g_X3_readAll (d + 6) 1 0 σ = some (false, σ) := by
  rw [g_X3_readAll]
  unfold b_X3_readAny
  rw [tx_0 h4 h3, bind_s, if_neg Bool.false_ne_true]
theorem tx_read {σ : Sto} (u : Int32) : ∃ σ', f_X3_read σ 10 0 u = some (0, σ') ∧ ∀ a b, a ≠ 55 → a ≠ 57 → σ'.1 a b = σ.1 a b := by
  unfold f_X3_read
  rw [lp_eq, show imin (imin 0 (Int32.ofNat (Ln0 10))) 50 = 0 by decide +kernel]
  have c : cpA (sI σ 55 3 0) 10 0 57 0 0 = some (sW (sI σ 55 3 0) 57 (va_cpy ((sI σ 55 3 0).1 10) ((sI σ 55 3 0).1 57) 0 0 0)) := by
    unfold cpA
    rw [if_pos (by decide +kernel)]
    rfl
  rw [show (sI σ 55 3 0).1 55 3 = 0 from rfl, c, bind_s]
  generalize hτ : sW (sI σ 55 3 0) 57 (va_cpy ((sI σ 55 3 0).1 10) ((sI σ 55 3 0).1 57) 0 0 0) = τ
  have h3 : τ.1 55 3 = 0 := by rw [← hτ]; rfl
  have hk : ∀ a b, a ≠ 55 → a ≠ 57 → τ.1 a b = σ.1 a b := by
    intro a b ha hb
    rw [← hτ]
    simp [sW, sI, ha, hb]
  have L : ∀ r, ∃ σ', f_X3_read_L41 r τ = some (0, σ') ∧ ∀ a b, a ≠ 55 → a ≠ 57 → σ'.1 a b = σ.1 a b := by
    intro r
    unfold f_X3_read_L41
    rw [lp_eq, lp_eq, lp_eq]
    have f4 : (sI (sI (sR τ 55 5 r) 55 4 0) 55 1 0).1 55 4 = 0 := rfl
    have f3 : (sI (sI (sR τ 55 5 r) 55 4 0) 55 1 0).1 55 3 = 0 := h3
    rw [show (64 : Nat) = 58 + 6 from rfl, tx_1 f4 f3, bind_s, if_neg Bool.false_ne_true, f4]
    exact ⟨_, rfl, fun a b ha hb => by simp [sI, sR, ha]; exact hk a b ha hb⟩
  by_cases hu : u = 0
  · rw [if_pos hu]; exact L _
  · rw [if_neg hu]; exact L _
theorem ty_here {σ : Sto} (h : 0 ≤ σ.1 81 8 ∨ σ.1 81 7 ≤ σ.1 81 6) : f_X9_here σ = some (-1) := by
  unfold f_X9_here
  by_cases h1 : σ.1 81 7 ≤ σ.1 81 6
  · rw [if_pos h1]
  · rw [if_neg h1, if_pos (h.resolve_right h1)]
theorem ty_6 {σ : Sto} (h8 : σ.1 81 8 = -1) (h6 : σ.1 81 6 = 0) (h7 : σ.1 81 7 = 0) (d : Nat) : g_X9_both (d + 1) 6 0 σ = some (sI σ 81 8 0) := by
  have hh := ty_here (σ := σ) (Or.inr (by rw [h6, h7]; decide))
  have nm : f_X9_nameOf σ (-1) = some (-1) := by
    unfold f_X9_nameOf
    by_cases h : σ.1 81 10 = 0
    · rw [if_pos h, if_neg (by decide), if_neg (by decide), if_neg (by decide)]
    · rw [if_neg h, if_neg (by decide), if_neg (by decide), if_neg (by decide)]
  rw [g_X9_both]
  unfold b_X9_unit
  rw [hh, bind_s, if_neg (by decide), if_neg (by decide), nm, bind_s, if_pos (by decide), show FU = 9999 + 1 from rfl, f_X9_unit_L58, if_neg (by decide), hh, bind_s, in_48_57, bind_s, if_neg (by decide)]
  unfold f_X9_unit_L110 f_X9_wrong f_X9_wrong_L19 f_X9_lay
  rw [if_pos (by decide), h8, if_neg (by decide), lp_eq, bind_s, h6, if_pos (show (0 : Int32) ≤ (sI σ 81 8 0).1 81 8 from (show (0 : Int32) ≤ 0 by decide)), bind_s]
theorem ty_4 {σ : Sto} (h8 : σ.1 81 8 = -1) (h6 : σ.1 81 6 = 0) (h7 : σ.1 81 7 = 0) (d : Nat) : g_X9_both (d + 2) 4 0 σ = some (sI σ 81 8 0) := by
  have hh := ty_here (σ := sI σ 81 8 0) (Or.inl (show (0 : Int32) ≤ 0 by decide))
  rw [g_X9_both]
  unfold b_X9_product
  rw [ty_6 h8 h6 h7, bind_s, show FU = 9999 + 1 from rfl, f_X9_product_L4, hh, bind_s, if_neg (by decide), bind_s, if_neg (by decide), bind_s, if_neg (by decide)]
theorem ty_5 {σ : Sto} (h8 : σ.1 81 8 = -1) (h6 : σ.1 81 6 = 0) (h7 : σ.1 81 7 = 0) (d : Nat) : g_X9_both (d + 3) 5 0 σ = some (sI σ 81 8 0) := by
  have hh := ty_here (σ := sI σ 81 8 0) (Or.inl (show (0 : Int32) ≤ 0 by decide))
  rw [g_X9_both]
  unfold b_X9_sum
  rw [ty_4 h8 h6 h7, bind_s, show FU = 9999 + 1 from rfl, f_X9_sum_L4, hh, bind_s, if_neg (by decide), bind_s, if_neg (by decide)]
theorem ty_1 {σ : Sto} (h8 : σ.1 81 8 = -1) (h6 : σ.1 81 6 = 0) (h7 : σ.1 81 7 = 0) (d : Nat) : g_X9_both (d + 4) 1 0 σ = some (sI σ 81 8 0) := by
  have hh := ty_here (σ := sI σ 81 8 0) (Or.inl (show (0 : Int32) ≤ 0 by decide))
  rw [g_X9_both]
  unfold b_X9_compared
  rw [ty_5 h8 h6 h7, bind_s, hh, bind_s, if_neg (by decide), if_neg (by decide), if_neg (by decide)]
theorem ty_tk {σ : Sto} (h : f_X9_here σ = some (-1)) (v : Int32) (hv : ¬ -1 = v) : f_X9_takes σ v = some (false, σ) := by
  unfold f_X9_takes
  rw [h, bind_s, if_neg hv]
theorem ty_0 {σ : Sto} (h8 : σ.1 81 8 = -1) (h6 : σ.1 81 6 = 0) (h7 : σ.1 81 7 = 0) (d : Nat) : g_X9_both (d + 5) 0 0 σ = some (sI σ 81 8 0) := by
  have hh := ty_here (σ := sI σ 81 8 0) (Or.inl (show (0 : Int32) ≤ 0 by decide))
  rw [g_X9_both]
  unfold b_X9_both
  rw [ty_1 h8 h6 h7, bind_s, show FU = 9999 + 1 from rfl, f_X9_both_L4, ty_tk hh _ (by decide), bind_s, if_neg Bool.false_ne_true]
theorem ty_2 {σ : Sto} (h8 : σ.1 81 8 = -1) (h6 : σ.1 81 6 = 0) (h7 : σ.1 81 7 = 0) (d : Nat) : g_X9_both (d + 6) 2 0 σ = some (sI σ 81 8 0) := by
  have hh := ty_here (σ := sI σ 81 8 0) (Or.inl (show (0 : Int32) ≤ 0 by decide))
  rw [g_X9_both]
  unfold b_X9_either
  rw [ty_0 h8 h6 h7, bind_s, show FU = 9999 + 1 from rfl, f_X9_either_L4, ty_tk hh _ (by decide), bind_s, if_neg Bool.false_ne_true]
theorem ty_reads {σ : Sto} (u : Int32) : ∃ σ', f_X9_reads σ 210 0 u = some σ' ∧ σ'.1 81 8 = 0 := by
  unfold f_X9_reads
  simp only [lp_eq]
  generalize hτ : sI (sI (sI (sI (sI (sI σ 81 5 210) 81 6 0) 81 7 0) 81 8 (-1)) 81 9 0) 81 13 0 = τ
  have h8 : τ.1 81 8 = -1 := by rw [← hτ]; rfl
  have h6 : τ.1 81 6 = 0 := by rw [← hτ]; rfl
  have h7 : τ.1 81 7 = 0 := by rw [← hτ]; rfl
  have L : ∀ b, ∃ σ', f_X9_reads_L41 b τ = some σ' ∧ σ'.1 81 8 = 0 := by
    intro b
    unfold f_X9_reads_L41
    rw [lp_eq, show (64 : Nat) = 58 + 6 from rfl, ty_2 (show (sI τ 81 10 (b2i b)).1 81 8 = -1 from h8) (show (sI τ 81 10 (b2i b)).1 81 6 = 0 from h6) (show (sI τ 81 10 (b2i b)).1 81 7 = 0 from h7), bind_s, if_pos (show (0 : Int32) ≤ (sI (sI τ 81 10 (b2i b)) 81 8 0).1 81 8 from (show (0 : Int32) ≤ 0 by decide))]
    exact ⟨_, rfl, rfl⟩
  by_cases hu : u = 1
  · rw [if_pos hu]; exact L _
  · rw [if_neg hu]; exact L _
theorem p1_text (a1 : Int32) : LPr (fun σ => f_X8_text σ a1) (fun σ => f_X9_text σ a1) true (law_Iv 0) (law_Iv (0 + 1)) := by
  refine pr_of (fun σ z => ?_)
  have e8 : σ.1 1 12 = 0 := zt z (by decide +kernel)
  have e9 : σ.1 82 14 = 0 := zt z (by decide +kernel)
  have key : (a1 = 0 ∨ a1 = 1) → ∀ k, f_X0_lawOf σ 1 a1 = some (some k) → ∃ r s, f_X8_text σ a1 = some r ∧ f_X9_text r.2 a1 = some s ∧ r.1 = s.1 := by
    intro hq k hk
    obtain ⟨τ, t1, t2⟩ := tx_read (σ := σ) a1
    have c9 : (sI τ 1 12 0).1 82 14 = 0 := by
      show τ.1 82 14 = 0
      rw [t2 82 14 (by decide) (by decide)]; exact e9
    obtain ⟨u, u1, u2⟩ := ty_reads (σ := sI (sI τ 1 12 0) 82 14 0) a1
    refine ⟨(-10 - 0, sI τ 1 12 0), (-10 - 0, u), ?_, ?_, rfl⟩
    · unfold f_X8_text
      rw [hk, bind_s, onN_1, e8, t1, bind_s, lp_eq, if_neg (show ¬ ((0 : Int32), τ).1 < 0 from (show ¬ (0 : Int32) < 0 by decide))]
    · show f_X9_text (sI τ 1 12 0) a1 = _
      unfold f_X9_text
      have hin : isO a1 0 1 = false := by rcases hq with rfl | rfl <;> decide
      rw [in_0_1, bind_s, hin, if_pos (by decide), rdA_82_14, bind_s, wrA_82_14, bind_s, c9, u1, bind_s, if_neg (by rw [u2]; decide), u2]
  by_cases h0 : a1 = 0
  · exact key (Or.inl h0) 4 (by unfold f_X0_lawOf; rw [if_pos h0, show A0 1 9 = 4 by decide])
  · by_cases h1 : a1 = 1
    · exact key (Or.inr h1) 7 (by unfold f_X0_lawOf; rw [if_neg h0, if_pos h1, show A0 1 10 = 7 by decide])
    · refine ⟨(-1000000001, rf σ 1), (-1000000001, fi (rf σ 1) 1), ?_, ?_, rfl⟩
      · show f_X8_text σ a1 = _
        unfold f_X8_text f_X0_lawOf
        rw [if_neg h0, if_neg h1, bind_s, onN_0, refuse_1, bind_s]
      · show f_X9_text (rf σ 1) a1 = _
        unfold f_X9_text
        have e : isO a1 0 1 = true := by
          cases h : isO a1 0 1 with
          | true => rfl
          | false =>
            obtain ⟨j, hj, rfl⟩ := isO_nI (n := 1) rfl h
            rcases (show j = 0 ∨ j = 1 by omega) with rfl | rfl
            · exact absurd rfl h0
            · exact absurd rfl h1
        rw [in_0_1, bind_s, e, if_neg (by decide), finds_1, bind_s]
theorem cop_L (a b : Nat) (ha : Ln0 a = 270) (hb : Ln0 b = 270) : ∀ (n j : Nat) (σ : Sto), j ≤ 270 → 270 < n + j → ∃ σ', f_X9_copies_L2 a b n (nI j) σ = some σ' ∧ (∀ x y, x ≠ b → σ'.1 x y = σ.1 x y) := by
  intro n
  induction n with
  | zero => intro j σ h1 h2; omega
  | succ n ih =>
    intro j σ h1 h2
    rw [f_X9_copies_L2]
    by_cases h : j = 270
    · subst h
      rw [if_pos (by decide)]
      exact ⟨σ, rfl, fun _ _ _ => rfl⟩
    · rw [if_neg (show ¬ (270 : Int32) ≤ nI j from nI_ge (b := 270) (by omega) (by omega)), rd_nI (by rw [ha]; omega), bind_s, wr_nI (by rw [hb]; omega), bind_s, nI_1]
      obtain ⟨σ', e1, e2⟩ := ih (j + 1) (sI σ b j (σ.1 a j)) (by omega) (by omega)
      exact ⟨σ', e1, fun x y hx => by rw [e2 x y hx]; simp [sI, hx]⟩
theorem cpA_eq {σ : Sto} {a b n : Nat} (ha : n ≤ Ln0 a) (hb : n ≤ Ln0 b) : cpA σ a 0 b 0 (nI n) = some (sW σ b (va_cpy (σ.1 a) (σ.1 b) 0 0 n)) := by
  have := Ln0_lt a
  unfold cpA
  have e : (nI n).toNatClampNeg = n := nI_clamp (by omega)
  rw [if_pos ⟨by decide, by decide, nI_pos (by omega), by rw [e]; show 0 + n ≤ _; omega, by rw [e]; show 0 + n ≤ _; omega⟩, e]
  rfl
theorem x1copy_E {σ : Sto} {k m : Nat} (hk : Ln0 (A0 k 1) = 50) (hm : Ln0 (A0 m 1) = 50) : ∃ σ', f_X1_copy σ k m = some σ' ∧ ∀ x y, x ≠ k → x ≠ A0 k 1 → σ'.1 x y = σ.1 x y := by
  unfold f_X1_copy
  rw [lp_eq, show (50 : Int32) = nI 50 from rfl, cpA_eq (by omega) (by omega), bind_s]
  exact ⟨_, rfl, fun x y h1 h2 => by simp [sW, sI, h1, h2]⟩
theorem x0copy_E {σ : Sto} (h8 : σ.1 1 8 = 0) : ∃ σ', f_X0_copy σ 28 1 = some σ' ∧ ∀ y, σ'.1 81 y = σ.1 81 y ∧ σ'.1 0 y = σ.1 0 y := by
  unfold f_X0_copy
  simp only [lp_eq]
  generalize hτ : sI (sI (sI (sI (sI (sI (sI (sI (sI (sI σ 28 1 (σ.1 1 1)) 28 2 _) 28 3 _) 28 4 _) 28 5 _) 28 6 _) 28 8 _) 28 12 _) 28 14 _) 28 15 _ = τ
  have k1 : ∀ x y, x ≠ 28 → τ.1 x y = σ.1 x y := by intro x y h; rw [← hτ]; simp [sI, h]
  have k8 : τ.1 28 8 = 0 := by rw [← hτ]; simp [sI]; exact h8
  rw [show A0 28 9 = 31 by decide, show A0 1 9 = 4 by decide, show A0 28 10 = 34 by decide, show A0 1 10 = 7 by decide, show A0 28 0 = 29 by decide, show A0 1 0 = 2 by decide, show A0 28 11 = 37 by decide, show A0 1 11 = 10 by decide, show A0 28 13 = 38 by decide, show A0 1 13 = 11 by decide]
  obtain ⟨u, u1, u2⟩ := x1copy_E (σ := τ) (k := 31) (m := 4) (by decide) (by decide)
  obtain ⟨v, v1, v2⟩ := x1copy_E (σ := u) (k := 34) (m := 7) (by decide) (by decide)
  rw [u1, bind_s, v1, bind_s, show (6 : Int32) = nI 6 from rfl, cpA_eq (by decide) (by decide), bind_s, show (50 : Int32) = nI 50 from rfl, cpA_eq (by decide) (by decide), bind_s, show (20 : Int32) = nI 20 from rfl, cpA_eq (by decide) (by decide), bind_s]
  generalize hω : sW (sW (sW v 29 _) 37 _) 38 _ = ω
  have w1 : ∀ x y, x ≠ 28 → x ≠ 29 → x ≠ 31 → x ≠ 32 → x ≠ 34 → x ≠ 35 → x ≠ 37 → x ≠ 38 → ω.1 x y = σ.1 x y := by
    intro x y a1 a2 a3 a4 a5 a6 a7 a8
    rw [← hω]
    simp only [sW, if_neg a2, if_neg a7, if_neg a8]
    rw [v2 x y a5 a6, u2 x y a3 a4, k1 x y a1]
  have w8 : ω.1 28 8 = 0 := by
    rw [← hω]
    show v.1 28 8 = 0
    rw [v2 28 8 (by decide) (by decide), u2 28 8 (by decide) (by decide), k8]
  rw [show FU = 9999 + 1 from rfl, f_X0_copy_L149, w8, if_pos (by decide)]
  exact ⟨ω, rfl, fun y => ⟨w1 81 y (by decide) (by decide) (by decide) (by decide) (by decide) (by decide) (by decide) (by decide), w1 0 y (by decide) (by decide) (by decide) (by decide) (by decide) (by decide) (by decide) (by decide)⟩⟩
theorem p1_image  : LPr (fun σ => f_X8_image σ ) (fun σ => f_X9_image σ ) true (law_Iv 0) (law_Iv (0 + 1)) := by
  refine pr_of (fun σ z => ?_)
  obtain ⟨τ, t1, t2⟩ := x0copy_E (z_8 z)
  have i8 : σ.1 0 10 = 0 := zt z (by decide +kernel)
  have i9 : σ.1 81 3 = 0 := zt z (by decide +kernel)
  obtain ⟨u, u1, u2⟩ := cop_L 82 84 (by decide) (by decide) FU 0 (sI τ 0 10 (τ.1 0 10 + 1)) (by omega) (by unfold FU; omega)
  refine ⟨(1, sI τ 0 10 (τ.1 0 10 + 1)), (1, sI u 81 3 (u.1 81 3 + 1)), ?_, ?_, rfl⟩
  · show f_X8_image σ = _
    unfold f_X8_image
    rw [t1, bind_s, lp_eq, show (sI τ 0 10 (τ.1 0 10 + 1)).1 0 10 = τ.1 0 10 + 1 from rfl, (t2 10).2, i8]
    rfl
  · show f_X9_image (sI τ 0 10 (τ.1 0 10 + 1)) = _
    unfold f_X9_image f_X9_copies
    rw [show (0 : Int32) = nI 0 from rfl, u1, bind_s, lp_eq, show (sI u 81 3 (u.1 81 3 + 1)).1 81 3 = u.1 81 3 + 1 from rfl, u2 81 3 (by decide), show (sI τ 0 10 (τ.1 0 10 + 1)).1 81 3 = τ.1 81 3 from rfl, (t2 3).1, i9]
    rfl
theorem law_steps {L : Nat} (hL : L ≤ 6) (j : Nat) (hj : 6 * j + 6 ≤ L) : LSt law_eqs (law_Iv j) (law_Iv (j + 1)) := by
  have h0 : j = 0 := by omega
  subst h0
  exact ⟨fun σ _ q => absurd q (by decide), p1_current, p1_set, p1_flow, p1_swimmer, p1_ofSwimmer, p1_train, p1_plan, p1_become, p1_as, p1_pace, p1_feed, p1_text, p1_law, p1_where, p1_meet, p1_year, p1_loose, p1_bestPlan, p1_hold, p1_ask, p1_leastSight, p1_send, p1_diary, p1_training, p1_fair, p1_seed, p1_voice, p1_trace, p1_sheet, p1_put, p1_move, p1_years, p1_judge, p1_image, p1_restore, p1_tell, p1_check, p1_count, p1_told⟩
