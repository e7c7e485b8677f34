def law_Iv (j : Nat) (σ : Sto) : Prop := j = 0 → σ = st_0
theorem law_I0 : law_Iv 0 st_0 := fun _ => rfl
/-! p1: one call on the fresh object -/
theorem z_8 : st_0.1 1 8 = 0 := by decide +kernel
theorem z_9 : st_0.1 82 12 = 0 := by decide +kernel
theorem isO_m1 (a : Int32) : isO a 0 (0 - 1) = true := by
  unfold isO
  by_cases h : a < 0
  · simp [h]
  · have : (0 - 1 : Int32) < a := by
      rw [Int32.lt_iff_toInt_lt] at h ⊢
      have e1 : (0 : Int32).toInt = 0 := rfl
      have e2 : (0 - 1 : Int32).toInt = -1 := rfl
      omega
    simp [this]
theorem n8 {σ : Sto} (h : σ.1 1 8 = 0) (a : Int32) : f_X0_swimmerAt σ 1 a = some none := sAt_none (by rw [h]; exact isO_m1 a)
theorem n9 {σ : Sto} (h : σ.1 82 12 = 0) (a : Int32) : f_X9_isSwimmer σ a = some false := by rw [isS_eq, h, isO_m1]; rfl
theorem u8 {σ : Sto} (a : Option Nat) : f_X8_areUnlike σ none a = some false := rfl
theorem u9 {σ : Sto} (h : σ.1 82 12 = 0) (a b : Int32) : f_X9_areUnlike σ a b = some false := by unfold f_X9_areUnlike; rw [n9 h, bind_s, if_neg (by decide)]
theorem b22 (σ : Sto) : ((some ((-1000000001 : Int32), σ)).bind (fun r => some (r.1, r.2)) : Option (Int32 × Sto)) = some (-1000000001, σ) := rfl
def E1 (f : Sto → Option (Int32 × Sto)) (σ : Sto) (k : Nat) : Prop := f σ = some (-1000000000 - nI k, rf σ k)
def E9 (f : Sto → Option (Int32 × Sto)) (σ : Sto) (k : Nat) : Prop := f σ = some (-1000000000 - nI k, fi σ k)
theorem pr_of {f g : Sto → Option (Int32 × Sto)} {r s : Int32 × Sto} (h1 : f st_0 = some r) (h2 : g r.2 = some s) (h3 : r.1 = s.1) : LPr f g true (law_Iv 0) (law_Iv (0 + 1)) := by
  intro σ hI
  rw [hI rfl]
  exact ⟨r, s, h1, h2, fun _ => h3, fun q => absurd q (by decide)⟩
theorem p1_ofSwimmer (a1 : Int32) (a2 : Int32) : LPr (fun σ => f_X8_ofSwimmer σ a1 a2) (fun σ => f_X9_ofSwimmer σ a1 a2) true (law_Iv 0) (law_Iv (0 + 1)) := by
  refine pr_of (r := (-1000000001, rf st_0 1)) (s := (-1000000001, fi (rf st_0 1) 1)) ?_ ?_ rfl
  · show f_X8_ofSwimmer st_0 a1 a2 = _
    unfold f_X8_ofSwimmer
    simp only [n8 z_8, bind_s, onN_0, refuse_1]
  · show f_X9_ofSwimmer (rf st_0 1) a1 a2 = _
    unfold f_X9_ofSwimmer
    rw [n9 (show (rf st_0 1).1 82 12 = 0 from z_9), bind_s, if_neg (by decide), finds_1, bind_s]
theorem p1_train (a1 : Int32) (a2 : Int32) : LPr (fun σ => f_X8_train σ a1 a2) (fun σ => f_X9_train σ a1 a2) true (law_Iv 0) (law_Iv (0 + 1)) := by
  refine pr_of (r := (-1000000001, rf st_0 1)) (s := (-1000000001, fi (rf st_0 1) 1)) ?_ ?_ rfl
  · show f_X8_train st_0 a1 a2 = _
    unfold f_X8_train
    simp only [n8 z_8, bind_s, onN_0, refuse_1]
  · show f_X9_train (rf st_0 1) a1 a2 = _
    unfold f_X9_train
    rw [n9 (show (rf st_0 1).1 82 12 = 0 from z_9), bind_s, if_neg (by decide), finds_1, bind_s]
theorem p1_plan (a1 : Int32) (a2 : Int32) (a3 : Int32) : LPr (fun σ => f_X8_plan σ a1 a2 a3) (fun σ => f_X9_plan σ a1 a2 a3) true (law_Iv 0) (law_Iv (0 + 1)) := by
  refine pr_of (r := (-1000000001, rf st_0 1)) (s := (-1000000001, fi (rf st_0 1) 1)) ?_ ?_ rfl
  · show f_X8_plan st_0 a1 a2 a3 = _
    unfold f_X8_plan
    simp only [n8 z_8, bind_s, onN_0, refuse_1]
  · show f_X9_plan (rf st_0 1) a1 a2 a3 = _
    unfold f_X9_plan
    rw [n9 (show (rf st_0 1).1 82 12 = 0 from z_9), bind_s, if_neg (by decide), finds_1, bind_s]
theorem p1_become (a1 : Int32) (a2 : Int32) : LPr (fun σ => f_X8_become σ a1 a2) (fun σ => f_X9_become σ a1 a2) true (law_Iv 0) (law_Iv (0 + 1)) := by
  refine pr_of (r := (-1000000001, rf st_0 1)) (s := (-1000000001, fi (rf st_0 1) 1)) ?_ ?_ rfl
  · show f_X8_become st_0 a1 a2 = _
    unfold f_X8_become
    simp only [n8 z_8, bind_s, onN_0, refuse_1]
  · show f_X9_become (rf st_0 1) a1 a2 = _
    unfold f_X9_become
    rw [n9 (show (rf st_0 1).1 82 12 = 0 from z_9), bind_s, if_neg (by decide), finds_1, bind_s]
theorem p1_as (a1 : Int32) (a2 : Int32) : LPr (fun σ => f_X8_as σ a1 a2) (fun σ => f_X9_as σ a1 a2) true (law_Iv 0) (law_Iv (0 + 1)) := by
  refine pr_of (r := (-1000000001, rf st_0 1)) (s := (-1000000001, fi (rf st_0 1) 1)) ?_ ?_ rfl
  · show f_X8_as st_0 a1 a2 = _
    unfold f_X8_as
    simp only [n8 z_8, bind_s, onN_0, refuse_1]
  · show f_X9_as (rf st_0 1) a1 a2 = _
    unfold f_X9_as
    rw [n9 (show (rf st_0 1).1 82 12 = 0 from z_9), bind_s, if_neg (by decide), finds_1, bind_s]
theorem p1_pace (a1 : Int32) (a2 : Int32) : LPr (fun σ => f_X8_pace σ a1 a2) (fun σ => f_X9_pace σ a1 a2) true (law_Iv 0) (law_Iv (0 + 1)) := by
  refine pr_of (r := (-1000000001, rf st_0 1)) (s := (-1000000001, fi (rf st_0 1) 1)) ?_ ?_ rfl
  · show f_X8_pace st_0 a1 a2 = _
    unfold f_X8_pace
    simp only [n8 z_8, bind_s, onN_0, refuse_1]
  · show f_X9_pace (rf st_0 1) a1 a2 = _
    unfold f_X9_pace
    rw [n9 (show (rf st_0 1).1 82 12 = 0 from z_9), bind_s, if_neg (by decide), finds_1, bind_s]
theorem p1_where (a1 : Int32) (a2 : Int32) : LPr (fun σ => f_X8_where σ a1 a2) (fun σ => f_X9_where σ a1 a2) true (law_Iv 0) (law_Iv (0 + 1)) := by
  refine pr_of (r := (-1000000001, rf st_0 1)) (s := (-1000000001, fi (rf st_0 1) 1)) ?_ ?_ rfl
  · show f_X8_where st_0 a1 a2 = _
    unfold f_X8_where
    simp only [n8 z_8, bind_s, onN_0, refuse_1]
  · show f_X9_where (rf st_0 1) a1 a2 = _
    unfold f_X9_where
    rw [n9 (show (rf st_0 1).1 82 12 = 0 from z_9), bind_s, if_neg (by decide), finds_1, bind_s]
theorem p1_voice (a1 : Int32) (a2 : Int32) (a3 : Int32) : LPr (fun σ => f_X8_voice σ a1 a2 a3) (fun σ => f_X9_voice σ a1 a2 a3) true (law_Iv 0) (law_Iv (0 + 1)) := by
  refine pr_of (r := (-1000000001, rf st_0 1)) (s := (-1000000001, fi (rf st_0 1) 1)) ?_ ?_ rfl
  · show f_X8_voice st_0 a1 a2 a3 = _
    unfold f_X8_voice
    simp only [n8 z_8, bind_s, onN_0, refuse_1]
  · show f_X9_voice (rf st_0 1) a1 a2 a3 = _
    unfold f_X9_voice
    rw [n9 (show (rf st_0 1).1 82 12 = 0 from z_9), bind_s, if_neg (by decide), finds_1, bind_s]
theorem p1_meet (a1 : Int32) (a2 : Int32) (a3 : Int32) : LPr (fun σ => f_X8_meet σ a1 a2 a3) (fun σ => f_X9_meet σ a1 a2 a3) true (law_Iv 0) (law_Iv (0 + 1)) := by
  refine pr_of (r := (-1000000001, rf st_0 1)) (s := (-1000000001, fi (rf st_0 1) 1)) ?_ ?_ rfl
  · show f_X8_meet st_0 a1 a2 a3 = _
    unfold f_X8_meet
    rw [n8 z_8, bind_s, n8 z_8, bind_s, u8, bind_s, if_neg (by decide), refuse_1, bind_s]
  · show f_X9_meet (rf st_0 1) a1 a2 a3 = _
    unfold f_X9_meet
    rw [u9 (show (rf st_0 1).1 82 12 = 0 from z_9), bind_s, if_neg (by decide), finds_1, bind_s]
theorem p1_bestPlan (a1 : Int32) (a2 : Int32) (a3 : Int32) : LPr (fun σ => f_X8_bestPlan σ a1 a2 a3) (fun σ => f_X9_bestPlan σ a1 a2 a3) true (law_Iv 0) (law_Iv (0 + 1)) := by
  refine pr_of (r := (-1000000001, rf st_0 1)) (s := (-1000000001, fi (rf st_0 1) 1)) ?_ ?_ rfl
  · show f_X8_bestPlan st_0 a1 a2 a3 = _
    unfold f_X8_bestPlan
    rw [n8 z_8, bind_s, n8 z_8, bind_s, u8, bind_s, if_neg (by decide), refuse_1, bind_s]
  · show f_X9_bestPlan (rf st_0 1) a1 a2 a3 = _
    unfold f_X9_bestPlan
    rw [u9 (show (rf st_0 1).1 82 12 = 0 from z_9), bind_s, if_neg (by decide), finds_1, bind_s]
theorem p1_hold (a1 : Int32) (a2 : Int32) (a3 : Int32) : LPr (fun σ => f_X8_hold σ a1 a2 a3) (fun σ => f_X9_hold σ a1 a2 a3) true (law_Iv 0) (law_Iv (0 + 1)) := by
  refine pr_of (r := (-1000000001, rf st_0 1)) (s := (-1000000001, fi (rf st_0 1) 1)) ?_ ?_ rfl
  · show f_X8_hold st_0 a1 a2 a3 = _
    unfold f_X8_hold
    rw [n8 z_8, bind_s, n8 z_8, bind_s, u8, bind_s, if_neg (by decide), refuse_1, bind_s]
  · show f_X9_hold (rf st_0 1) a1 a2 a3 = _
    unfold f_X9_hold
    rw [u9 (show (rf st_0 1).1 82 12 = 0 from z_9), bind_s, if_neg (by decide), finds_1, bind_s]
theorem p1_ask (a1 : Int32) (a2 : Int32) : LPr (fun σ => f_X8_ask σ a1 a2) (fun σ => f_X9_ask σ a1 a2) true (law_Iv 0) (law_Iv (0 + 1)) := by
  refine pr_of (r := (-1000000001, rf st_0 1)) (s := (-1000000001, fi (rf st_0 1) 1)) ?_ ?_ rfl
  · show f_X8_ask st_0 a1 a2 = _
    unfold f_X8_ask
    rw [n8 z_8, bind_s, n8 z_8, bind_s, u8, bind_s, if_neg (by decide), refuse_1, bind_s]
  · show f_X9_ask (rf st_0 1) a1 a2 = _
    unfold f_X9_ask
    rw [u9 (show (rf st_0 1).1 82 12 = 0 from z_9), bind_s, if_neg (by decide), finds_1, bind_s]
theorem p1_leastSight (a1 : Int32) (a2 : Int32) : LPr (fun σ => f_X8_leastSight σ a1 a2) (fun σ => f_X9_leastSight σ a1 a2) true (law_Iv 0) (law_Iv (0 + 1)) := by
  refine pr_of (r := (-1000000001, rf st_0 1)) (s := (-1000000001, fi (rf st_0 1) 1)) ?_ ?_ rfl
  · show f_X8_leastSight st_0 a1 a2 = _
    unfold f_X8_leastSight
    rw [n8 z_8, bind_s, n8 z_8, bind_s, u8, bind_s, if_neg (by decide), refuse_1, bind_s]
  · show f_X9_leastSight (rf st_0 1) a1 a2 = _
    unfold f_X9_leastSight
    rw [u9 (show (rf st_0 1).1 82 12 = 0 from z_9), bind_s, if_neg (by decide), finds_1, bind_s]
theorem p1_diary (a1 : Int32) (a2 : Int32) (a3 : Int32) (a4 : Int32) (a5 : Int32) : LPr (fun σ => f_X8_diary σ a1 a2 a3 a4 a5) (fun σ => f_X9_diary σ a1 a2 a3 a4 a5) true (law_Iv 0) (law_Iv (0 + 1)) := by
  refine pr_of (r := (-1000000001, rf st_0 1)) (s := (-1000000001, fi (rf st_0 1) 1)) ?_ ?_ rfl
  · show f_X8_diary st_0 a1 a2 a3 a4 a5 = _
    unfold f_X8_diary
    rw [n8 z_8, bind_s, n8 z_8, bind_s, u8, bind_s, if_neg (by decide), refuse_1, bind_s]
  · show f_X9_diary (rf st_0 1) a1 a2 a3 a4 a5 = _
    unfold f_X9_diary
    rw [u9 (show (rf st_0 1).1 82 12 = 0 from z_9), bind_s, if_neg (by decide), finds_1, bind_s]
theorem p1_training (a1 : Int32) (a2 : Int32) (a3 : Int32) : LPr (fun σ => f_X8_training σ a1 a2 a3) (fun σ => f_X9_training σ a1 a2 a3) true (law_Iv 0) (law_Iv (0 + 1)) := by
  refine pr_of (r := (-1000000001, rf st_0 1)) (s := (-1000000001, fi (rf st_0 1) 1)) ?_ ?_ rfl
  · show f_X8_training st_0 a1 a2 a3 = _
    unfold f_X8_training
    rw [n8 z_8, bind_s, n8 z_8, bind_s, u8, bind_s, if_neg (by decide), refuse_1, bind_s]
  · show f_X9_training (rf st_0 1) a1 a2 a3 = _
    unfold f_X9_training
    rw [u9 (show (rf st_0 1).1 82 12 = 0 from z_9), bind_s, if_neg (by decide), finds_1, bind_s]
theorem p1_fair (a1 : Int32) (a2 : Int32) : LPr (fun σ => f_X8_fair σ a1 a2) (fun σ => f_X9_fair σ a1 a2) true (law_Iv 0) (law_Iv (0 + 1)) := by
  refine pr_of (r := (-1000000001, rf st_0 1)) (s := (-1000000001, fi (rf st_0 1) 1)) ?_ ?_ rfl
  · show f_X8_fair st_0 a1 a2 = _
    unfold f_X8_fair
    rw [n8 z_8, bind_s, n8 z_8, bind_s, u8, bind_s, if_neg (by decide), refuse_1, bind_s]
  · show f_X9_fair (rf st_0 1) a1 a2 = _
    unfold f_X9_fair
    rw [u9 (show (rf st_0 1).1 82 12 = 0 from z_9), bind_s, if_neg (by decide), finds_1, bind_s]
theorem p1_send (a1 : Int32) : LPr (fun σ => f_X8_send σ a1) (fun σ => f_X9_send σ a1) true (law_Iv 0) (law_Iv (0 + 1)) := by
  refine pr_of (r := (-1000000001, rf st_0 1)) (s := (-1000000001, fi (rf st_0 1) 1)) ?_ ?_ rfl
  · show f_X8_send st_0 a1 = _
    unfold f_X8_send
    simp only [n8 z_8, bind_s, onN_0, refuse_1]
  · show f_X9_send (rf st_0 1) a1 = _
    unfold f_X9_send
    rw [n9 (show (rf st_0 1).1 82 12 = 0 from z_9), bind_s, if_neg (by decide), finds_1, bind_s]
theorem p1_year (a1 : Int32) (a2 : Int32) : LPr (fun σ => f_X8_year σ a1 a2) (fun σ => f_X9_year σ a1 a2) true (law_Iv 0) (law_Iv (0 + 1)) := by
  refine pr_of (r := (-1000000001, rf st_0 1)) (s := (-1000000001, fi (rf st_0 1) 1)) ?_ ?_ rfl
  · show f_X8_year st_0 a1 a2 = _
    unfold f_X8_year f_X8_whyNoYear
    rw [n8 z_8, bind_s, n8 z_8, bind_s, u8, bind_s, if_neg (by decide), bind_s, if_neg (by decide), refuse_1, bind_s]
  · show f_X9_year (rf st_0 1) a1 a2 = _
    unfold f_X9_year f_X9_aYear
    rw [u9 (show (rf st_0 1).1 82 12 = 0 from z_9), bind_s, if_neg (by decide), finds_1, bind_s, bind_s]
theorem p1_loose (a1 : Int32) (a2 : Int32) : LPr (fun σ => f_X8_loose σ a1 a2) (fun σ => f_X9_loose σ a1 a2) true (law_Iv 0) (law_Iv (0 + 1)) := by
  refine pr_of (r := (-1000000001, rf st_0 1)) (s := (-1000000001, fi (rf st_0 1) 1)) ?_ ?_ rfl
  · show f_X8_loose st_0 a1 a2 = _
    unfold f_X8_loose f_X8_whyNoYear
    rw [n8 z_8, bind_s, n8 z_8, bind_s, u8, bind_s, if_neg (by decide), bind_s, if_neg (by decide), refuse_1, bind_s]
  · show f_X9_loose (rf st_0 1) a1 a2 = _
    unfold f_X9_loose f_X9_aYear
    rw [u9 (show (rf st_0 1).1 82 12 = 0 from z_9), bind_s, if_neg (by decide), finds_1, bind_s, bind_s]
theorem p1_check (a1 : Int32) (a2 : Int32) : LPr (fun σ => f_X8_check σ a1 a2) (fun σ => f_X9_check σ a1 a2) true (law_Iv 0) (law_Iv (0 + 1)) := by
  refine pr_of (r := (-1000000001, rf (sI st_0 1 14 0) 1)) (s := (-1000000001, fi (sI (rf (sI st_0 1 14 0) 1) 82 15 0) 1)) ?_ ?_ rfl
  · show f_X8_check st_0 a1 a2 = _
    unfold f_X8_check
    have h : (sI st_0 1 14 0).1 1 8 = 0 := z_8
    rw [lp_eq, n8 h, bind_s, n8 h, bind_s, u8, bind_s, if_neg (by decide), refuse_1, bind_s]
  · show f_X9_check (rf (sI st_0 1 14 0) 1) a1 a2 = _
    unfold f_X9_check
    have h : (sI (rf (sI st_0 1 14 0) 1) 82 15 0).1 82 12 = 0 := z_9
    rw [rdA_82_15, bind_s, wrA_82_15, bind_s, u9 h, bind_s, if_neg (by decide), finds_1, bind_s]
theorem sheetAt_o {σ : Sto} {a : Int32} (h : isO a 0 3 = true) : f_X8_sheetAt σ a = some none := by unfold f_X8_sheetAt; rw [out_eq, bind_s, if_pos h]
theorem R67 : ∀ j, j < 4 → R0 67 j = some (73 + 2 * j) := by decide
theorem sheetAt_i {σ : Sto} {j : Nat} (h : j < 4) : f_X8_sheetAt σ (nI j) = some (some (73 + 2 * j)) := by
  have e : isO (nI j) 0 3 = false := by
    simp only [isO, Bool.or_eq_false_iff, decide_eq_false_iff_not]
    exact ⟨nI_pos (by omega), nI_nlt (a := 3) (by omega) (by omega)⟩
  unfold f_X8_sheetAt; rw [out_eq, bind_s, e, if_neg (by decide), rdR_nI (by show j < 4; omega), bind_s, R67 j h]
theorem p1_judge (a1 : Int32) (a2 : Int32) : LPr (fun σ => f_X8_judge σ a1 a2) (fun σ => f_X9_judge σ a1 a2) true (law_Iv 0) (law_Iv (0 + 1)) := by
  have e8 : f_X8_judge st_0 a1 a2 = some (-1000000001, rf st_0 1) := by
    unfold f_X8_judge
    cases h : isO a1 0 3 with
    | true => rw [sheetAt_o h, bind_s, n8 z_8, bind_s, onN_0, refuse_1, bind_s]
    | false =>
      obtain ⟨j, hj, rfl⟩ := isO_nI (n := 3) rfl h
      rw [sheetAt_i (by omega), bind_s, n8 z_8, bind_s, onN_1, onN_0, refuse_1, bind_s]
  refine pr_of e8 (s := (-1000000001, fi (rf st_0 1) 1)) ?_ rfl
  show f_X9_judge (rf st_0 1) a1 a2 = _
  unfold f_X9_judge
  rw [sheet_eq, bind_s, n9 (show (rf st_0 1).1 82 12 = 0 from z_9), bind_s]
  cases h : isO a1 0 3 with
  | true => rw [if_neg (by decide), finds_1, bind_s]
  | false => rw [if_pos rfl, if_neg (by decide), finds_1, bind_s]
theorem p1_trace (a1 : Int32) : LPr (fun σ => f_X8_trace σ a1) (fun σ => f_X9_trace σ a1) true (law_Iv 0) (law_Iv (0 + 1)) := by
  refine pr_of (r := (-1000000002, rf st_0 2)) (s := (-1000000002, fi (rf st_0 2) 2)) ?_ ?_ rfl
  · show f_X8_trace st_0 a1 = _
    unfold f_X8_trace
    rw [out_eq, bind_s, show st_0.1 65 1 = 0 by decide +kernel, isO_m1, if_pos rfl, refuse_2, bind_s]
  · show f_X9_trace (rf st_0 2) a1 = _
    unfold f_X9_trace
    rw [in_0d, bind_s, show (rf st_0 2).1 81 18 = 0 by decide +kernel, isO_m1, if_neg (by decide), finds_2, bind_s]
theorem z_cur : ∀ j, j < 6 → st_0.1 2 j = 0 ∧ st_0.1 82 j = 0 := by decide +kernel
theorem p1_current (a1 : Int32) (a2 : Int32) : LPr (fun σ => f_X8_current σ a1 a2) (fun σ => f_X9_current σ a1 a2) true (law_Iv 0) (law_Iv (0 + 1)) := by
  cases h1 : isO a1 0 5 with
  | true =>
    refine pr_of (r := (-1000000001, rf st_0 1)) (s := (-1000000001, fi (rf st_0 1) 1)) ?_ ?_ rfl
    · show f_X8_current st_0 a1 a2 = _
      unfold f_X8_current
      rw [out_eq, bind_s, h1, if_pos rfl, refuse_1, bind_s]
    · show f_X9_current (rf st_0 1) a1 a2 = _
      unfold f_X9_current
      rw [lane_eq, bind_s, h1, if_neg (by decide), finds_1, bind_s]
  | false =>
    cases h2 : isO a2 (-9) 9 with
    | true =>
      refine pr_of (r := (-1000000001, rf st_0 1)) (s := (-1000000001, fi (rf st_0 1) 1)) ?_ ?_ rfl
      · show f_X8_current st_0 a1 a2 = _
        unfold f_X8_current
        rw [out_eq, bind_s, h1, if_neg (by decide), out_eq, bind_s, h2, if_pos rfl, refuse_1, bind_s]
      · show f_X9_current (rf st_0 1) a1 a2 = _
        unfold f_X9_current
        rw [lane_eq, bind_s, h1, if_pos rfl, in_m9_9, bind_s, h2, if_neg (by decide), finds_1, bind_s]
    | false =>
      obtain ⟨j, hj, rfl⟩ := isO_nI (n := 5) rfl h1
      obtain ⟨c1, c2⟩ := z_cur j (by omega)
      refine pr_of (r := (0, sI st_0 2 j a2)) (s := (0, sI (sI st_0 2 j a2) 82 j a2)) ?_ ?_ rfl
      · show f_X8_current st_0 (nI j) a2 = _
        unfold f_X8_current
        rw [out_eq, bind_s, h1, if_neg (by decide), out_eq, bind_s, h2, if_neg (by decide), rd_nI (by show j < 6; omega), bind_s, wr_nI (by show j < 6; omega), bind_s, c1]
      · show f_X9_current (sI st_0 2 j a2) (nI j) a2 = _
        unfold f_X9_current
        rw [lane_eq, bind_s, h1, if_pos rfl, in_m9_9, bind_s, h2, if_pos rfl, Int32.zero_add, rd_nI (by show j < 270; omega), bind_s, wr_nI (by show j < 270; omega), bind_s, show (sI st_0 2 j a2).1 82 j = 0 from c2]
theorem z_w : st_0.1 1 1 = 0 ∧ st_0.1 1 2 = 10 ∧ st_0.1 1 3 = 600 ∧ st_0.1 82 6 = 0 ∧ st_0.1 82 7 = 10 ∧ st_0.1 82 8 = 600 := by decide +kernel
theorem p1_set (a1 : Int32) (a2 : Int32) : LPr (fun σ => f_X8_set σ a1 a2) (fun σ => f_X9_set σ a1 a2) true (law_Iv 0) (law_Iv (0 + 1)) := by
  by_cases h0 : a1 = 0
  · subst h0
    cases h2 : isO a2 (-3) 3 with
    | false =>
      refine pr_of (r := (0, sI st_0 1 1 a2)) (s := (0, sI (sI st_0 1 1 a2) 82 6 a2)) ?_ ?_ rfl
      · show f_X8_set st_0 0 a2 = _
        unfold f_X8_set
        rw [if_pos rfl, out_eq, bind_s, h2, if_neg (by decide), lp_eq, z_w.1]
      · show f_X9_set (sI st_0 1 1 a2) 0 a2 = _
        unfold f_X9_set f_X9_set_L57
        rw [if_pos rfl, in_m3_3, bind_s, h2, if_pos rfl, show (6 + 0 : Int32) = 6 from rfl, rdA_82_6, bind_s, wrA_82_6, bind_s, show (sI st_0 1 1 a2).1 82 6 = 0 from z_w.2.2.2.1]
    | true =>
      refine pr_of (r := (-1000000001, rf st_0 1)) (s := (-1000000001, fi (rf st_0 1) 1)) ?_ ?_ rfl
      · show f_X8_set st_0 0 a2 = _
        unfold f_X8_set f_X8_set_L33 f_X8_set_L68 f_X8_set_L103
        rw [if_pos rfl, out_eq, bind_s, h2, if_pos rfl, if_neg (by decide), if_neg (by decide), refuse_1, bind_s]
      · show f_X9_set (rf st_0 1) 0 a2 = _
        unfold f_X9_set f_X9_set_L57
        rw [if_pos rfl, in_m3_3, bind_s, h2, if_neg (by decide), finds_1, bind_s]
  · by_cases h1 : a1 = 1
    · subst h1
      cases h2 : isO a2 0 200 with
      | false =>
        refine pr_of (r := (10, sI st_0 1 2 a2)) (s := (10, sI (sI st_0 1 2 a2) 82 7 a2)) ?_ ?_ rfl
        · show f_X8_set st_0 1 a2 = _
          unfold f_X8_set f_X8_set_L33
          rw [if_neg h0, if_pos rfl, out_eq, bind_s, h2, if_neg (by decide), lp_eq, z_w.2.1]
        · show f_X9_set (sI st_0 1 2 a2) 1 a2 = _
          unfold f_X9_set f_X9_set_L57
          rw [if_neg h0, if_pos rfl, in_0_200, bind_s, h2, if_pos rfl, show (6 + 1 : Int32) = 7 from rfl, rdA_82_7, bind_s, show (7 : Int32) = nI 7 from rfl, wr_nI (by decide), bind_s, show (sI st_0 1 2 a2).1 82 7 = 10 from z_w.2.2.2.2.1]
      | true =>
        refine pr_of (r := (-1000000001, rf st_0 1)) (s := (-1000000001, fi (rf st_0 1) 1)) ?_ ?_ rfl
        · show f_X8_set st_0 1 a2 = _
          unfold f_X8_set f_X8_set_L33 f_X8_set_L68 f_X8_set_L103
          rw [if_neg h0, if_pos rfl, out_eq, bind_s, h2, if_pos rfl, if_neg (by decide), refuse_1, bind_s]
        · show f_X9_set (rf st_0 1) 1 a2 = _
          unfold f_X9_set f_X9_set_L57
          rw [if_neg h0, if_pos rfl, in_0_200, bind_s, h2, if_neg (by decide), finds_1, bind_s]
    · by_cases h3 : a1 = 2
      · subst h3
        cases h2 : isO a2 0 1200 with
        | false =>
          refine pr_of (r := (600, sI st_0 1 3 a2)) (s := (600, sI (sI st_0 1 3 a2) 82 8 a2)) ?_ ?_ rfl
          · show f_X8_set st_0 2 a2 = _
            unfold f_X8_set f_X8_set_L33 f_X8_set_L68
            rw [if_neg h0, if_neg h1, if_pos rfl, out_eq, bind_s, h2, if_neg (by decide), lp_eq, z_w.2.2.1]
          · show f_X9_set (sI st_0 1 3 a2) 2 a2 = _
            unfold f_X9_set f_X9_set_L57
            rw [if_neg h0, if_neg h1, if_pos rfl, in_0_1200, bind_s, h2, if_pos rfl, if_pos rfl, show (6 + 2 : Int32) = 8 from rfl, rdA_82_8, bind_s, wrA_82_8, bind_s, show (sI st_0 1 3 a2).1 82 8 = 600 from z_w.2.2.2.2.2]
        | true =>
          refine pr_of (r := (-1000000001, rf st_0 1)) (s := (-1000000001, fi (rf st_0 1) 1)) ?_ ?_ rfl
          · show f_X8_set st_0 2 a2 = _
            unfold f_X8_set f_X8_set_L33 f_X8_set_L68 f_X8_set_L103
            rw [if_neg h0, if_neg h1, if_pos rfl, out_eq, bind_s, h2, if_pos rfl, refuse_1, bind_s]
          · show f_X9_set (rf st_0 1) 2 a2 = _
            unfold f_X9_set f_X9_set_L56 f_X9_set_L57
            rw [if_neg h0, if_neg h1, if_pos rfl, in_0_1200, bind_s, h2, if_neg (by decide), if_neg (by decide), finds_1, bind_s]
      · refine pr_of (r := (-1000000001, rf st_0 1)) (s := (-1000000001, fi (rf st_0 1) 1)) ?_ ?_ rfl
        · show f_X8_set st_0 a1 a2 = _
          unfold f_X8_set f_X8_set_L33 f_X8_set_L68 f_X8_set_L103
          rw [if_neg h0, if_neg h1, if_neg h3, refuse_1, bind_s]
        · show f_X9_set (rf st_0 1) a1 a2 = _
          unfold f_X9_set f_X9_set_L56 f_X9_set_L57
          rw [if_neg h0, if_neg h1, if_neg h3, if_neg (by decide), finds_1, bind_s]
theorem p1_seed (a1 : Int32) : LPr (fun σ => f_X8_seed σ a1) (fun σ => f_X9_seed σ a1) true (law_Iv 0) (law_Iv (0 + 1)) := by
  refine pr_of (r := (1, sI st_0 1 15 a1)) (s := (1, sI (sI st_0 1 15 a1) 82 13 a1)) ?_ ?_ rfl
  · show f_X8_seed st_0 a1 = _
    unfold f_X8_seed
    rw [lp_eq, show st_0.1 1 15 = 1 by decide +kernel]
  · show f_X9_seed (sI st_0 1 15 a1) a1 = _
    unfold f_X9_seed
    rw [rdA_82_13, bind_s, wrA_82_13, bind_s, show (sI st_0 1 15 a1).1 82 13 = 1 from (show st_0.1 82 13 = 1 by decide +kernel)]
theorem p1_restore  : LPr (fun σ => f_X8_restore σ ) (fun σ => f_X9_restore σ ) true (law_Iv 0) (law_Iv (0 + 1)) := by
  refine pr_of (r := (-1000000002, rf st_0 2)) (s := (-1000000002, fi (rf st_0 2) 2)) ?_ ?_ rfl
  · show f_X8_restore st_0 = _
    unfold f_X8_restore
    rw [if_pos (by decide +kernel), refuse_2, bind_s]
  · show f_X9_restore (rf st_0 2) = _
    unfold f_X9_restore
    rw [if_pos (by decide +kernel), finds_2, bind_s]
theorem p1_tell (a1 : Int32) : LPr (fun σ => f_X8_tell σ a1) (fun σ => f_X9_tell σ a1) true (law_Iv 0) (law_Iv (0 + 1)) := by
  have e8 : st_0.1 1 14 = 0 := by decide +kernel
  have e9 : st_0.1 82 15 = 0 := by decide +kernel
  refine pr_of (r := (1, sI (sI st_0 11 0 a1) 1 14 1)) (s := (1, sI (sI (sI (sI st_0 11 0 a1) 1 14 1) 82 90 a1) 82 15 1)) ?_ ?_ rfl
  · show f_X8_tell st_0 a1 = _
    unfold f_X8_tell
    rw [out_eq, bind_s, e8, if_neg (by decide), show (0 : Int32) = nI 0 from rfl, wr_nI (by decide), bind_s, lp_eq]
    rfl
  · show f_X9_tell (sI (sI st_0 11 0 a1) 1 14 1) a1 = _
    unfold f_X9_tell
    rw [rdA_82_15, bind_s, show (sI (sI st_0 11 0 a1) 1 14 1).1 82 15 = 0 from e9, if_neg (by decide), rdA_82_15, bind_s, show (sI (sI st_0 11 0 a1) 1 14 1).1 82 15 = 0 from e9, show (90 + 0 : Int32) = nI 90 from rfl, wr_nI (by decide), bind_s, rdA_82_15, bind_s, show (sI (sI (sI st_0 11 0 a1) 1 14 1) 82 90 a1).1 82 15 = 0 from e9, wrA_82_15, bind_s, rdA_82_15, bind_s]
    rfl
theorem p1_told (a1 : Int32) : LPr (fun σ => f_X8_told σ a1) (fun σ => f_X9_told σ a1) true (law_Iv 0) (law_Iv (0 + 1)) := by
  cases h : isO a1 1 5 with
  | true =>
    refine pr_of (r := (-1000000001, rf st_0 1)) (s := (-1000000001, fi (rf st_0 1) 1)) ?_ ?_ rfl
    · show f_X8_told st_0 a1 = _
      unfold f_X8_told
      rw [out_eq, bind_s, h, if_pos rfl, refuse_1, bind_s]
    · show f_X9_told (rf st_0 1) a1 = _
      unfold f_X9_told
      rw [in_1_5, bind_s, h, if_neg (by decide), finds_1, bind_s]
  | false =>
    obtain ⟨q1, q2⟩ := isO_f h
    obtain ⟨j, hj, rfl⟩ := nI_of2 (M := 5) (n := 5) rfl (Int32.not_lt.mpr (Int32.le_trans (by decide) q1)) q2
    obtain ⟨c1, c2⟩ := (show ∀ j, j < 6 → st_0.1 68 j = 0 ∧ st_0.1 85 j = 0 by decide +kernel) j (by omega)
    refine pr_of (r := (0, st_0)) (s := (0, st_0)) ?_ ?_ rfl
    · show f_X8_told st_0 (nI j) = _
      unfold f_X8_told
      rw [out_eq, bind_s, h, if_neg (by decide), rd_nI (by show j < 6; omega), bind_s, c1]
    · show f_X9_told st_0 (nI j) = _
      unfold f_X9_told
      rw [in_1_5, bind_s, h, if_pos rfl, rd_nI (by show j < 6; omega), bind_s, c2]
theorem p1_count (a1 : Int32) : LPr (fun σ => f_X8_count σ a1) (fun σ => f_X9_count σ a1) true (law_Iv 0) (law_Iv (0 + 1)) := by
  by_cases h0 : a1 = 0
  · refine pr_of (r := (0, st_0)) (s := (0, st_0)) ?_ ?_ rfl
    · show f_X8_count st_0 a1 = _
      unfold f_X8_count
      rw [if_pos h0, show st_0.1 1 4 = 0 by decide +kernel]
    · show f_X9_count st_0 a1 = _
      unfold f_X9_count
      rw [if_pos h0, rdA_82_11, bind_s, show st_0.1 82 11 = 0 by decide +kernel]
  by_cases h1 : a1 = 1
  · refine pr_of (r := (0, st_0)) (s := (0, st_0)) ?_ ?_ rfl
    · show f_X8_count st_0 a1 = _
      unfold f_X8_count
      rw [if_neg h0, if_pos h1, show st_0.1 1 8 = 0 by decide +kernel]
    · show f_X9_count st_0 a1 = _
      unfold f_X9_count
      rw [if_neg h0, if_pos h1, rdA_82_12, bind_s, show st_0.1 82 12 = 0 by decide +kernel]
  by_cases h2 : a1 = 2
  · refine pr_of (r := (600, st_0)) (s := (600, st_0)) ?_ ?_ rfl
    · show f_X8_count st_0 a1 = _
      unfold f_X8_count
      rw [if_neg h0, if_neg h1, if_pos h2, show st_0.1 1 3 = 600 by decide +kernel]
    · show f_X9_count st_0 a1 = _
      unfold f_X9_count
      rw [if_neg h0, if_neg h1, if_pos h2, rdA_82_8, bind_s, show st_0.1 82 8 = 600 by decide +kernel]
  by_cases h3 : a1 = 3
  · refine pr_of (r := (0, st_0)) (s := (0, st_0)) ?_ ?_ rfl
    · show f_X8_count st_0 a1 = _
      unfold f_X8_count
      rw [if_neg h0, if_neg h1, if_neg h2, if_pos h3, show st_0.1 1 5 = 0 by decide +kernel]
    · show f_X9_count st_0 a1 = _
      unfold f_X9_count
      rw [if_neg h0, if_neg h1, if_neg h2, if_pos h3, rdA_82_9, bind_s, show st_0.1 82 9 = 0 by decide +kernel]
  by_cases h4 : a1 = 4
  · refine pr_of (r := (0, st_0)) (s := (0, st_0)) ?_ ?_ rfl
    · show f_X8_count st_0 a1 = _
      unfold f_X8_count
      rw [if_neg h0, if_neg h1, if_neg h2, if_neg h3, if_pos h4, show st_0.1 1 6 = 0 by decide +kernel]
    · show f_X9_count st_0 a1 = _
      unfold f_X9_count
      rw [if_neg h0, if_neg h1, if_neg h2, if_neg h3, if_pos h4, rdA_82_10, bind_s, show st_0.1 82 10 = 0 by decide +kernel]
  by_cases h5 : a1 = 5
  · refine pr_of (r := (0, st_0)) (s := (0, st_0)) ?_ ?_ rfl
    · show f_X8_count st_0 a1 = _
      unfold f_X8_count
      rw [if_neg h0, if_neg h1, if_neg h2, if_neg h3, if_neg h4, if_pos h5, show st_0.1 1 1 = 0 by decide +kernel]
    · show f_X9_count st_0 a1 = _
      unfold f_X9_count
      rw [if_neg h0, if_neg h1, if_neg h2, if_neg h3, if_neg h4, if_pos h5, rdA_82_6, bind_s, show st_0.1 82 6 = 0 by decide +kernel]
  by_cases h6 : a1 = 6
  · refine pr_of (r := (10, st_0)) (s := (10, st_0)) ?_ ?_ rfl
    · show f_X8_count st_0 a1 = _
      unfold f_X8_count
      rw [if_neg h0, if_neg h1, if_neg h2, if_neg h3, if_neg h4, if_neg h5, if_pos h6, show st_0.1 1 2 = 10 by decide +kernel]
    · show f_X9_count st_0 a1 = _
      unfold f_X9_count
      rw [if_neg h0, if_neg h1, if_neg h2, if_neg h3, if_neg h4, if_neg h5, if_pos h6, rdA_82_7, bind_s, show st_0.1 82 7 = 10 by decide +kernel]
  by_cases h7 : a1 = 7
  · refine pr_of (r := (0, st_0)) (s := (0, st_0)) ?_ ?_ rfl
    · show f_X8_count st_0 a1 = _
      unfold f_X8_count
      rw [if_neg h0, if_neg h1, if_neg h2, if_neg h3, if_neg h4, if_neg h5, if_neg h6, if_pos h7, show st_0.1 1 12 = 0 by decide +kernel]
    · show f_X9_count st_0 a1 = _
      unfold f_X9_count
      rw [if_neg h0, if_neg h1, if_neg h2, if_neg h3, if_neg h4, if_neg h5, if_neg h6, if_pos h7, rdA_82_14, bind_s, show st_0.1 82 14 = 0 by decide +kernel]
  by_cases h8 : a1 = 8
  · refine pr_of (r := (0, st_0)) (s := (0, st_0)) ?_ ?_ rfl
    · show f_X8_count st_0 a1 = _
      unfold f_X8_count
      rw [if_neg h0, if_neg h1, if_neg h2, if_neg h3, if_neg h4, if_neg h5, if_neg h6, if_neg h7, if_pos h8, show st_0.1 1 14 = 0 by decide +kernel]
    · show f_X9_count st_0 a1 = _
      unfold f_X9_count
      rw [if_neg h0, if_neg h1, if_neg h2, if_neg h3, if_neg h4, if_neg h5, if_neg h6, if_neg h7, if_pos h8, rdA_82_15, bind_s, show st_0.1 82 15 = 0 by decide +kernel]
  by_cases h9 : a1 = 9
  · refine pr_of (r := (0, st_0)) (s := (0, st_0)) ?_ ?_ rfl
    · show f_X8_count st_0 a1 = _
      unfold f_X8_count
      rw [if_neg h0, if_neg h1, if_neg h2, if_neg h3, if_neg h4, if_neg h5, if_neg h6, if_neg h7, if_neg h8, if_pos h9, show st_0.1 65 1 = 0 by decide +kernel]
    · show f_X9_count st_0 a1 = _
      unfold f_X9_count
      rw [if_neg h0, if_neg h1, if_neg h2, if_neg h3, if_neg h4, if_neg h5, if_neg h6, if_neg h7, if_neg h8, if_pos h9, show st_0.1 81 18 = 0 by decide +kernel]
  by_cases h10 : a1 = 10
  · refine pr_of (r := (1, st_0)) (s := (1, st_0)) ?_ ?_ rfl
    · show f_X8_count st_0 a1 = _
      unfold f_X8_count
      rw [if_neg h0, if_neg h1, if_neg h2, if_neg h3, if_neg h4, if_neg h5, if_neg h6, if_neg h7, if_neg h8, if_neg h9, if_pos h10, show st_0.1 1 15 = 1 by decide +kernel]
    · show f_X9_count st_0 a1 = _
      unfold f_X9_count
      rw [if_neg h0, if_neg h1, if_neg h2, if_neg h3, if_neg h4, if_neg h5, if_neg h6, if_neg h7, if_neg h8, if_neg h9, if_pos h10, rdA_82_13, bind_s, show st_0.1 82 13 = 1 by decide +kernel]
  refine pr_of (r := (-1000000001, rf st_0 1)) (s := (-1000000001, fi (rf st_0 1) 1)) ?_ ?_ rfl
  · show f_X8_count st_0 a1 = _
    unfold f_X8_count
    rw [if_neg h0, if_neg h1, if_neg h2, if_neg h3, if_neg h4, if_neg h5, if_neg h6, if_neg h7, if_neg h8, if_neg h9, if_neg h10, refuse_1, bind_s]
  · show f_X9_count (rf st_0 1) a1 = _
    unfold f_X9_count
    rw [if_neg h0, if_neg h1, if_neg h2, if_neg h3, if_neg h4, if_neg h5, if_neg h6, if_neg h7, if_neg h8, if_neg h9, if_neg h10, finds_1, bind_s]
theorem g8 {σ : Sto} {k : Nat} (hl : σ.1 k 3 ≤ 0) (a b c : Int32) : f_X1_give σ k a b c = some (if σ.1 k 0 = 0 then imax (-30) (imin 30 (a + 2 * b)) else imax 0 (imin 100 (a / 12)), σ) := by
  unfold f_X1_give f_X8_heldWithin
  by_cases h : σ.1 k 0 = 0
  · rw [if_pos h, if_pos hl, bind_s, if_pos h]
  · rw [if_neg h, if_pos hl, bind_s, if_neg h]
theorem g9_0 {σ : Sto} (hl : σ.1 82 88 ≤ 0) (a b c : Int32) : f_X9_gives σ 0 a b c = some (imax (-30) (imin 30 (a + 2 * b)), σ) := by
  unfold f_X9_gives f_X9_gives_L16 f_X9_gives_L74
  rw [if_pos rfl, show (88 + 0 : Int32) = nI 88 from rfl, rd_nI (by decide), bind_s, if_pos hl, if_pos rfl, held_eq _ _ _ (by decide), bind_s]
theorem g9_1 {σ : Sto} (hl : σ.1 82 89 ≤ 0) (a b c : Int32) : f_X9_gives σ 1 a b c = some (imax 0 (imin 100 (a / 12)), σ) := by
  unfold f_X9_gives f_X9_gives_L16 f_X9_gives_L74
  rw [if_neg (by decide), show (88 + 1 : Int32) = nI 89 from rfl, rd_nI (by decide), bind_s, if_pos hl, if_neg (by decide), held_eq _ _ _ (by decide), bind_s]
theorem p1_law (a1 : Int32) (a2 : Int32) (a3 : Int32) (a4 : Int32) : LPr (fun σ => f_X8_law σ a1 a2 a3 a4) (fun σ => f_X9_law σ a1 a2 a3 a4) true (law_Iv 0) (law_Iv (0 + 1)) := by
  by_cases h0 : a1 = 0
  · subst h0
    refine pr_of (r := (imax (-30) (imin 30 (a2 + 2 * a3)), st_0)) (s := (imax (-30) (imin 30 (a2 + 2 * a3)), st_0)) ?_ ?_ rfl
    · show f_X8_law st_0 0 a2 a3 a4 = _
      unfold f_X8_law f_X0_lawOf
      rw [if_pos rfl, bind_s, onN_1, if_pos (by decide), show A0 1 9 = 4 by decide, g8 (by decide +kernel), bind_s, if_pos (by decide +kernel)]
    · show f_X9_law st_0 0 a2 a3 a4 = _
      unfold f_X9_law
      rw [in_0_1, bind_s, if_pos (by decide), g9_0 (by decide +kernel), bind_s]
  · by_cases h1 : a1 = 1
    · subst h1
      refine pr_of (r := (imax 0 (imin 100 (a2 / 12)), st_0)) (s := (imax 0 (imin 100 (a2 / 12)), st_0)) ?_ ?_ rfl
      · show f_X8_law st_0 1 a2 a3 a4 = _
        unfold f_X8_law f_X0_lawOf
        rw [if_neg (by decide), if_pos rfl, bind_s, onN_1, if_pos (by decide), show A0 1 10 = 7 by decide, g8 (by decide +kernel), bind_s, if_neg (by decide +kernel)]
      · show f_X9_law st_0 1 a2 a3 a4 = _
        unfold f_X9_law
        rw [in_0_1, bind_s, if_pos (by decide), g9_1 (by decide +kernel), bind_s]
    · refine pr_of (r := (-1000000001, rf st_0 1)) (s := (-1000000001, fi (rf st_0 1) 1)) ?_ ?_ rfl
      · show f_X8_law st_0 a1 a2 a3 a4 = _
        unfold f_X8_law f_X0_lawOf
        rw [if_neg h0, if_neg h1, bind_s, onN_0, refuse_1, bind_s]
      · show f_X9_law (rf st_0 1) a1 a2 a3 a4 = _
        unfold f_X9_law
        have e : isO a1 0 1 = true := by
          cases h : isO a1 0 1 with
          | true => rfl
          | false =>
            obtain ⟨j, hj, rfl⟩ := isO_nI (n := 1) rfl h
            rcases (show j = 0 ∨ j = 1 by omega) with rfl | rfl
            · exact absurd rfl h0
            · exact absurd rfl h1
        rw [in_0_1, bind_s, e, if_neg (by decide), finds_1, bind_s]
theorem p1_flow (a1 : Int32) : LPr (fun σ => f_X8_flow σ a1) (fun σ => f_X9_flow σ a1) true (law_Iv 0) (law_Iv (0 + 1)) := by
  cases h : isO a1 0 5 with
  | true =>
    refine pr_of (r := (-1000000001, rf st_0 1)) (s := (-1000000001, fi (rf st_0 1) 1)) ?_ ?_ rfl
    · show f_X8_flow st_0 a1 = _
      unfold f_X8_flow
      rw [out_eq, bind_s, h, if_pos rfl, refuse_1, bind_s]
    · show f_X9_flow (rf st_0 1) a1 = _
      unfold f_X9_flow
      rw [lane_eq, bind_s, h, if_neg (by decide), finds_1, bind_s]
  | false =>
    obtain ⟨j, hj, rfl⟩ := isO_nI (n := 5) rfl h
    obtain ⟨c1, c2⟩ := z_cur j (by omega)
    refine pr_of (r := (0, st_0)) (s := (0, st_0)) ?_ ?_ rfl
    · show f_X8_flow st_0 (nI j) = _
      unfold f_X8_flow f_X0_flowOf
      rw [out_eq, bind_s, h, if_neg (by decide), bind_s, if_neg (by decide), show A0 1 0 = 2 by decide, rd_nI (by show j < 6; omega), bind_s, show A0 1 9 = 4 by decide, g8 (by decide +kernel), bind_s, bind_s, if_pos (by decide +kernel), c1, z_w.1]
      rfl
    · show f_X9_flow st_0 (nI j) = _
      unfold f_X9_flow f_X9_flowOf
      rw [lane_eq, bind_s, h, if_pos rfl, Int32.zero_add, rd_nI (by show j < 270; omega), bind_s, rdA_82_6, bind_s, g9_0 (by decide +kernel), bind_s, bind_s, c2, z_w.2.2.2.1]
      rfl
