/-! The calls that look at one cell or two. -/
theorem Iw.mp {σ : Sto} (h : Iw σ) {i j : Nat} (hm : (i, j) ∈ mpL) : σ.1 1 j = σ.1 82 i := h.1.2.1 (i, j) hm
theorem notO {v l h : Int32} (q : isO v l h = false) : (!isO v l h) = true := by rw [q]; rfl
theorem s_current (a1 : Int32) (a2 : Int32) (b : Bool) : LPr (fun σ => f_X8_current σ a1 a2) (fun σ => f_X9_current σ a1 a2) b Inv Inv := by
  intro σ hI
  cases h1 : isO a1 0 5 with
  | true =>
    refine ⟨(-1000000001, rf σ 1), (-1000000001, fi (rf σ 1) 1), ?_, ?_, fun _ => rfl, inv_err hI (Fr.rf _) (Fr.rf _)⟩
    · show f_X8_current σ a1 a2 = _
      unfold f_X8_current
      rw [out_eq, bind_s, h1, if_pos (by decide), refuse_1, bind_s]
    · show f_X9_current (rf σ 1) a1 a2 = _
      unfold f_X9_current
      rw [lane_eq, bind_s, h1, if_neg (by decide), finds_1, bind_s]
  | false =>
    cases h2 : isO a2 (-9) 9 with
    | true =>
      refine ⟨(-1000000001, rf σ 1), (-1000000001, fi (rf σ 1) 1), ?_, ?_, fun _ => rfl, inv_err hI (Fr.rf _) (Fr.rf _)⟩
      · show f_X8_current σ a1 a2 = _
        unfold f_X8_current
        rw [out_eq, bind_s, h1, if_neg (by decide), out_eq, bind_s, h2, if_pos (by decide), refuse_1, bind_s]
      · show f_X9_current (rf σ 1) a1 a2 = _
        unfold f_X9_current
        rw [lane_eq, bind_s, h1, if_pos (by decide), in_m9_9, bind_s, h2, if_neg (by decide), finds_1, bind_s]
    | false =>
      obtain ⟨j, hj, rfl⟩ := isO_nI (n := 5) rfl h1
      refine ⟨(σ.1 2 j, sI σ 2 j a2), (σ.1 82 j, sI (sI σ 2 j a2) 82 j a2), ?_, ?_, fun _ => hI.1.1.1 j (by omega), upd_cur hI (by omega) a2⟩
      · show f_X8_current σ (nI j) a2 = _
        unfold f_X8_current
        rw [out_eq, bind_s, h1, if_neg (by decide), out_eq, bind_s, h2, if_neg (by decide), rd_nI (by show j < 6; omega), bind_s, wr_nI (by show j < 6; omega), bind_s]
      · show f_X9_current (sI σ 2 j a2) (nI j) a2 = _
        unfold f_X9_current
        rw [lane_eq, bind_s, h1, if_pos (by decide), in_m9_9, bind_s, h2, if_pos (by decide), Int32.zero_add, rd_nI (by show j < 270; omega), bind_s, wr_nI (by show j < 270; omega), bind_s, sI_ne (by decide)]
theorem s_set (a1 : Int32) (a2 : Int32) (b : Bool) : LPr (fun σ => f_X8_set σ a1 a2) (fun σ => f_X9_set σ a1 a2) b Inv Inv := by
  intro σ hI
  by_cases h0 : a1 = 0
  · subst h0
    cases h2 : isO a2 (-3) 3 with
    | false =>
      refine ⟨(σ.1 1 1, sI σ 1 1 a2), (σ.1 82 6, sI (sI σ 1 1 a2) 82 6 a2), ?_, ?_, fun _ => hI.1.mp (i := 6) (by decide), upd_mp hI (by decide) (by decide) rfl⟩
      · show f_X8_set σ 0 a2 = _
        unfold f_X8_set
        rw [if_pos (by decide), out_eq, bind_s, h2, if_neg (by decide), lp_eq]
      · show f_X9_set (sI σ 1 1 a2) 0 a2 = _
        unfold f_X9_set f_X9_set_L57
        rw [if_pos (by decide), in_m3_3, bind_s, h2, if_pos (by decide), show (6 + 0 : Int32) = 6 from rfl, rdA_82_6, bind_s, wrA_82_6, bind_s, sI_ne (by decide)]
    | true =>
      refine ⟨(-1000000001, rf σ 1), (-1000000001, fi (rf σ 1) 1), ?_, ?_, fun _ => rfl, inv_err hI (Fr.rf _) (Fr.rf _)⟩
      · show f_X8_set σ 0 a2 = _
        unfold f_X8_set f_X8_set_L33 f_X8_set_L68 f_X8_set_L103
        rw [if_pos (by decide), out_eq, bind_s, h2, if_pos (by decide), if_neg (by decide), if_neg (by decide), refuse_1, bind_s]
      · show f_X9_set (rf σ 1) 0 a2 = _
        unfold f_X9_set f_X9_set_L57
        rw [if_pos (by decide), in_m3_3, bind_s, h2, if_neg (by decide), finds_1, bind_s]
  · by_cases h1 : a1 = 1
    · subst h1
      cases h2 : isO a2 0 200 with
      | false =>
        refine ⟨(σ.1 1 2, sI σ 1 2 a2), (σ.1 82 7, sI (sI σ 1 2 a2) 82 7 a2), ?_, ?_, fun _ => hI.1.mp (i := 7) (by decide), upd_mp hI (by decide) (by decide) rfl⟩
        · show f_X8_set σ 1 a2 = _
          unfold f_X8_set f_X8_set_L33
          rw [if_neg h0, if_pos (by decide), out_eq, bind_s, h2, if_neg (by decide), lp_eq]
        · show f_X9_set (sI σ 1 2 a2) 1 a2 = _
          unfold f_X9_set f_X9_set_L57
          rw [if_neg h0, if_pos (by decide), in_0_200, bind_s, h2, if_pos (by decide), show (6 + 1 : Int32) = 7 from rfl, rdA_82_7, bind_s, show (7 : Int32) = nI 7 from rfl, wr_nI (by decide), bind_s, sI_ne (by decide)]
      | true =>
        refine ⟨(-1000000001, rf σ 1), (-1000000001, fi (rf σ 1) 1), ?_, ?_, fun _ => rfl, inv_err hI (Fr.rf _) (Fr.rf _)⟩
        · show f_X8_set σ 1 a2 = _
          unfold f_X8_set f_X8_set_L33 f_X8_set_L68 f_X8_set_L103
          rw [if_neg h0, if_pos (by decide), out_eq, bind_s, h2, if_pos (by decide), if_neg (by decide), refuse_1, bind_s]
        · show f_X9_set (rf σ 1) 1 a2 = _
          unfold f_X9_set f_X9_set_L57
          rw [if_neg h0, if_pos (by decide), in_0_200, bind_s, h2, if_neg (by decide), finds_1, bind_s]
    · by_cases h3 : a1 = 2
      · subst h3
        cases h2 : isO a2 0 1200 with
        | false =>
          refine ⟨(σ.1 1 3, sI σ 1 3 a2), (σ.1 82 8, sI (sI σ 1 3 a2) 82 8 a2), ?_, ?_, fun _ => hI.1.mp (i := 8) (by decide), upd_mp hI (by decide) (by decide) rfl⟩
          · show f_X8_set σ 2 a2 = _
            unfold f_X8_set f_X8_set_L33 f_X8_set_L68
            rw [if_neg h0, if_neg h1, if_pos (by decide), out_eq, bind_s, h2, if_neg (by decide), lp_eq]
          · show f_X9_set (sI σ 1 3 a2) 2 a2 = _
            unfold f_X9_set f_X9_set_L57
            rw [if_neg h0, if_neg h1, if_pos (by decide), in_0_1200, bind_s, h2, if_pos (by decide), if_pos (by decide), show (6 + 2 : Int32) = 8 from rfl, rdA_82_8, bind_s, wrA_82_8, bind_s, sI_ne (by decide)]
        | true =>
          refine ⟨(-1000000001, rf σ 1), (-1000000001, fi (rf σ 1) 1), ?_, ?_, fun _ => rfl, inv_err hI (Fr.rf _) (Fr.rf _)⟩
          · show f_X8_set σ 2 a2 = _
            unfold f_X8_set f_X8_set_L33 f_X8_set_L68 f_X8_set_L103
            rw [if_neg h0, if_neg h1, if_pos (by decide), out_eq, bind_s, h2, if_pos (by decide), refuse_1, bind_s]
          · show f_X9_set (rf σ 1) 2 a2 = _
            unfold f_X9_set f_X9_set_L56 f_X9_set_L57
            rw [if_neg h0, if_neg h1, if_pos (by decide), in_0_1200, bind_s, h2, if_neg (by decide), if_neg (by decide), finds_1, bind_s]
      · refine ⟨(-1000000001, rf σ 1), (-1000000001, fi (rf σ 1) 1), ?_, ?_, fun _ => rfl, inv_err hI (Fr.rf _) (Fr.rf _)⟩
        · show f_X8_set σ a1 a2 = _
          unfold f_X8_set f_X8_set_L33 f_X8_set_L68 f_X8_set_L103
          rw [if_neg h0, if_neg h1, if_neg h3, refuse_1, bind_s]
        · show f_X9_set (rf σ 1) a1 a2 = _
          unfold f_X9_set f_X9_set_L56 f_X9_set_L57
          rw [if_neg h0, if_neg h1, if_neg h3, if_neg (by decide), finds_1, bind_s]
theorem s_seed (a1 : Int32) (b : Bool) : LPr (fun σ => f_X8_seed σ a1) (fun σ => f_X9_seed σ a1) b Inv Inv := by
  intro σ hI
  refine ⟨(σ.1 1 15, sI σ 1 15 a1), (σ.1 82 13, sI (sI σ 1 15 a1) 82 13 a1), ?_, ?_, fun _ => hI.1.mp (i := 13) (by decide), upd_mp hI (by decide) (by decide) rfl⟩
  · show f_X8_seed σ a1 = _
    unfold f_X8_seed
    rw [lp_eq]
  · show f_X9_seed (sI σ 1 15 a1) a1 = _
    unfold f_X9_seed
    rw [rdA_82_13, bind_s, wrA_82_13, bind_s, sI_ne (by decide)]
theorem s_tell (a1 : Int32) (b : Bool) : LPr (fun σ => f_X8_tell σ a1) (fun σ => f_X9_tell σ a1) b Inv Inv := by
  intro σ hI
  obtain ⟨w, hw, e9⟩ := isO_nI (n := 20) rfl (not_t (show (!isO (σ.1 82 15) 0 20) = true from hI.1.ok 15))
  have e8 : σ.1 1 14 = nI w := (hI.1.mp (i := 15) (by decide)).trans e9
  by_cases h20 : w = 20
  · subst h20
    refine ⟨(-1000000004, rf σ 4), (-1000000004, fi (rf σ 4) 4), ?_, ?_, fun _ => rfl, inv_err hI (Fr.rf _) (Fr.rf _)⟩
    · show f_X8_tell σ a1 = _
      unfold f_X8_tell
      rw [out_eq, bind_s, e8, if_pos (by decide), refuse_4, bind_s]
    · show f_X9_tell (rf σ 4) a1 = _
      unfold f_X9_tell
      rw [rdA_82_15, bind_s, rf_at (by decide), e9, if_pos (by decide), finds_4, bind_s]
  · have i1 := upd_wait hI (i := w) (by omega) a1
    have i2 := upd_mp i1 (i := 15) (j := 14) (by decide) (by decide) (v := nI (w + 1)) (notO (isO_lit (n := 20) (by omega) (by omega)))
    refine ⟨(nI (w + 1), sI (sI σ 11 w a1) 1 14 (nI (w + 1))), (nI (w + 1), sI (sI (sI (sI σ 11 w a1) 1 14 (nI (w + 1))) 82 (90 + w) a1) 82 15 (nI (w + 1))), ?_, ?_, fun _ => rfl, ?_⟩
    · show f_X8_tell σ a1 = _
      unfold f_X8_tell
      rw [out_eq, bind_s, e8, show isO (nI w) 0 19 = false from isO_lit (n := 19) (by omega) (by omega), if_neg (by decide), wr_nI (by show w < 20; omega), bind_s, lp_eq, nI_1, sI_at, if_pos rfl]
    · show f_X9_tell (sI (sI σ 11 w a1) 1 14 (nI (w + 1))) a1 = _
      unfold f_X9_tell
      have n20 : ¬ nI w = 20 := fun q => h20 ((nI_eq (a := w) (b := 20) (by omega) (by omega)).mp q)
      rw [rdA_82_15, bind_s, sI_ne (by decide), sI_ne (by decide), e9, if_neg n20, bind_s, show (90 : Int32) = nI 90 from rfl, nI_add, wr_nI (by show 90 + w < 270; omega), bind_s, rdA_82_15, bind_s, sI_at, if_neg (by omega), sI_ne (by decide), sI_ne (by decide), e9, nI_1, wrA_82_15, bind_s, rdA_82_15, bind_s, sI_at, if_pos rfl]
    · rw [sI_comm (σ := sI σ 11 w a1) (show (82 : Nat) ≠ 1 by decide)] at i2
      exact i2
theorem s_told (a1 : Int32) (b : Bool) : LPr (fun σ => f_X8_told σ a1) (fun σ => f_X9_told σ a1) b Inv Inv := by
  intro σ hI
  cases h : isO a1 1 5 with
  | true =>
    refine ⟨(-1000000001, rf σ 1), (-1000000001, fi (rf σ 1) 1), ?_, ?_, fun _ => rfl, inv_err hI (Fr.rf _) (Fr.rf _)⟩
    · show f_X8_told σ a1 = _
      unfold f_X8_told
      rw [out_eq, bind_s, h, if_pos (by decide), refuse_1, bind_s]
    · show f_X9_told (rf σ 1) a1 = _
      unfold f_X9_told
      rw [in_1_5, bind_s, h, if_neg (by decide), finds_1, bind_s]
  | false =>
    obtain ⟨q1, q2⟩ := isO_f h
    obtain ⟨j, hj, rfl⟩ := nI_of2 (M := 5) (n := 5) rfl (Int32.not_lt.mpr (Int32.le_trans (by decide) q1)) q2
    refine ⟨(σ.1 68 j, σ), (σ.1 85 j, σ), ?_, ?_, fun _ => hI.2 j (by omega), hI⟩
    · show f_X8_told σ (nI j) = _
      unfold f_X8_told
      rw [out_eq, bind_s, h, if_neg (by decide), rd_nI (by show j < 6; omega), bind_s]
    · show f_X9_told σ (nI j) = _
      unfold f_X9_told
      rw [in_1_5, bind_s, h, if_pos (by decide), rd_nI (by show j < 6; omega), bind_s]
theorem s_count (a1 : Int32) (b : Bool) : LPr (fun σ => f_X8_count σ a1) (fun σ => f_X9_count σ a1) b Inv Inv := by
  intro σ hI
  by_cases h0 : a1 = 0
  · refine ⟨(σ.1 1 4, σ), (σ.1 82 11, σ), ?_, ?_, fun _ => hI.1.mp (i := 11) (by decide), hI⟩
    · show f_X8_count σ a1 = _
      unfold f_X8_count
      rw [if_pos h0]
    · show f_X9_count σ a1 = _
      unfold f_X9_count
      rw [if_pos h0, rdA_82_11, bind_s]
  by_cases h1 : a1 = 1
  · refine ⟨(σ.1 1 8, σ), (σ.1 82 12, σ), ?_, ?_, fun _ => hI.1.mp (i := 12) (by decide), hI⟩
    · show f_X8_count σ a1 = _
      unfold f_X8_count
      rw [if_neg h0, if_pos h1]
    · show f_X9_count σ a1 = _
      unfold f_X9_count
      rw [if_neg h0, if_pos h1, rdA_82_12, bind_s]
  by_cases h2 : a1 = 2
  · refine ⟨(σ.1 1 3, σ), (σ.1 82 8, σ), ?_, ?_, fun _ => hI.1.mp (i := 8) (by decide), hI⟩
    · show f_X8_count σ a1 = _
      unfold f_X8_count
      rw [if_neg h0, if_neg h1, if_pos h2]
    · show f_X9_count σ a1 = _
      unfold f_X9_count
      rw [if_neg h0, if_neg h1, if_pos h2, rdA_82_8, bind_s]
  by_cases h3 : a1 = 3
  · refine ⟨(σ.1 1 5, σ), (σ.1 82 9, σ), ?_, ?_, fun _ => hI.1.mp (i := 9) (by decide), hI⟩
    · show f_X8_count σ a1 = _
      unfold f_X8_count
      rw [if_neg h0, if_neg h1, if_neg h2, if_pos h3]
    · show f_X9_count σ a1 = _
      unfold f_X9_count
      rw [if_neg h0, if_neg h1, if_neg h2, if_pos h3, rdA_82_9, bind_s]
  by_cases h4 : a1 = 4
  · refine ⟨(σ.1 1 6, σ), (σ.1 82 10, σ), ?_, ?_, fun _ => hI.1.mp (i := 10) (by decide), hI⟩
    · show f_X8_count σ a1 = _
      unfold f_X8_count
      rw [if_neg h0, if_neg h1, if_neg h2, if_neg h3, if_pos h4]
    · show f_X9_count σ a1 = _
      unfold f_X9_count
      rw [if_neg h0, if_neg h1, if_neg h2, if_neg h3, if_pos h4, rdA_82_10, bind_s]
  by_cases h5 : a1 = 5
  · refine ⟨(σ.1 1 1, σ), (σ.1 82 6, σ), ?_, ?_, fun _ => hI.1.mp (i := 6) (by decide), hI⟩
    · show f_X8_count σ a1 = _
      unfold f_X8_count
      rw [if_neg h0, if_neg h1, if_neg h2, if_neg h3, if_neg h4, if_pos h5]
    · show f_X9_count σ a1 = _
      unfold f_X9_count
      rw [if_neg h0, if_neg h1, if_neg h2, if_neg h3, if_neg h4, if_pos h5, rdA_82_6, bind_s]
  by_cases h6 : a1 = 6
  · refine ⟨(σ.1 1 2, σ), (σ.1 82 7, σ), ?_, ?_, fun _ => hI.1.mp (i := 7) (by decide), hI⟩
    · show f_X8_count σ a1 = _
      unfold f_X8_count
      rw [if_neg h0, if_neg h1, if_neg h2, if_neg h3, if_neg h4, if_neg h5, if_pos h6]
    · show f_X9_count σ a1 = _
      unfold f_X9_count
      rw [if_neg h0, if_neg h1, if_neg h2, if_neg h3, if_neg h4, if_neg h5, if_pos h6, rdA_82_7, bind_s]
  by_cases h7 : a1 = 7
  · refine ⟨(σ.1 1 12, σ), (σ.1 82 14, σ), ?_, ?_, fun _ => hI.1.mp (i := 14) (by decide), hI⟩
    · show f_X8_count σ a1 = _
      unfold f_X8_count
      rw [if_neg h0, if_neg h1, if_neg h2, if_neg h3, if_neg h4, if_neg h5, if_neg h6, if_pos h7]
    · show f_X9_count σ a1 = _
      unfold f_X9_count
      rw [if_neg h0, if_neg h1, if_neg h2, if_neg h3, if_neg h4, if_neg h5, if_neg h6, if_pos h7, rdA_82_14, bind_s]
  by_cases h8 : a1 = 8
  · refine ⟨(σ.1 1 14, σ), (σ.1 82 15, σ), ?_, ?_, fun _ => hI.1.mp (i := 15) (by decide), hI⟩
    · show f_X8_count σ a1 = _
      unfold f_X8_count
      rw [if_neg h0, if_neg h1, if_neg h2, if_neg h3, if_neg h4, if_neg h5, if_neg h6, if_neg h7, if_pos h8]
    · show f_X9_count σ a1 = _
      unfold f_X9_count
      rw [if_neg h0, if_neg h1, if_neg h2, if_neg h3, if_neg h4, if_neg h5, if_neg h6, if_neg h7, if_pos h8, rdA_82_15, bind_s]
  by_cases h9 : a1 = 9
  · refine ⟨(σ.1 65 1, σ), (σ.1 81 18, σ), ?_, ?_, fun _ => ?_, hI⟩
    · show f_X8_count σ a1 = _
      unfold f_X8_count
      rw [if_neg h0, if_neg h1, if_neg h2, if_neg h3, if_neg h4, if_neg h5, if_neg h6, if_neg h7, if_neg h8, if_pos h9]
    · show f_X9_count σ a1 = _
      unfold f_X9_count
      rw [if_neg h0, if_neg h1, if_neg h2, if_neg h3, if_neg h4, if_neg h5, if_neg h6, if_neg h7, if_neg h8, if_pos h9]
    · obtain ⟨n, -, t1, t2, -⟩ := hI.1.2.2.2.1
      exact t1.trans t2.symm
  by_cases h10 : a1 = 10
  · refine ⟨(σ.1 1 15, σ), (σ.1 82 13, σ), ?_, ?_, fun _ => hI.1.mp (i := 13) (by decide), hI⟩
    · show f_X8_count σ a1 = _
      unfold f_X8_count
      rw [if_neg h0, if_neg h1, if_neg h2, if_neg h3, if_neg h4, if_neg h5, if_neg h6, if_neg h7, if_neg h8, if_neg h9, if_pos h10]
    · show f_X9_count σ a1 = _
      unfold f_X9_count
      rw [if_neg h0, if_neg h1, if_neg h2, if_neg h3, if_neg h4, if_neg h5, if_neg h6, if_neg h7, if_neg h8, if_neg h9, if_pos h10, rdA_82_13, bind_s]
  refine ⟨(-1000000001, rf σ 1), (-1000000001, fi (rf σ 1) 1), ?_, ?_, fun _ => rfl, inv_err hI (Fr.rf _) (Fr.rf _)⟩
  · show f_X8_count σ a1 = _
    unfold f_X8_count
    rw [if_neg h0, if_neg h1, if_neg h2, if_neg h3, if_neg h4, if_neg h5, if_neg h6, if_neg h7, if_neg h8, if_neg h9, if_neg h10, refuse_1, bind_s]
  · show f_X9_count (rf σ 1) a1 = _
    unfold f_X9_count
    rw [if_neg h0, if_neg h1, if_neg h2, if_neg h3, if_neg h4, if_neg h5, if_neg h6, if_neg h7, if_neg h8, if_neg h9, if_neg h10, finds_1, bind_s]
theorem s_trace (a1 : Int32) (b : Bool) : LPr (fun σ => f_X8_trace σ a1) (fun σ => f_X9_trace σ a1) b Inv Inv := by
  intro σ hI
  obtain ⟨n, hn, t1, t2, t3⟩ := hI.1.2.2.2.1
  cases h : isO a1 0 (nI n - 1) with
  | true =>
    refine ⟨(-1000000002, rf σ 2), (-1000000002, fi (rf σ 2) 2), ?_, ?_, fun _ => rfl, inv_err hI (Fr.rf _) (Fr.rf _)⟩
    · show f_X8_trace σ a1 = _
      unfold f_X8_trace
      rw [out_eq, bind_s, t1, h, if_pos (by decide), refuse_2, bind_s]
    · show f_X9_trace (rf σ 2) a1 = _
      unfold f_X9_trace
      rw [in_0d, bind_s, rf_at (by decide), t2, h, if_neg (by decide), finds_2, bind_s]
  | false =>
    obtain ⟨q1, q2⟩ := isO_f h
    obtain ⟨j, hj, rfl⟩ := nI_of (Int32.not_lt.mpr q1)
    have hjn : j < n := by
      cases n with
      | zero =>
        rw [Int32.le_iff_toInt_le, nI_toInt hj, show (nI 0 - 1 : Int32).toInt = -1 from rfl] at q2
        omega
      | succ n =>
        rw [nI_pred, nI_leI hj (by omega)] at q2
        omega
    refine ⟨(σ.1 66 j, σ), (σ.1 89 j, σ), ?_, ?_, fun _ => t3 j hjn, hI⟩
    · show f_X8_trace σ (nI j) = _
      unfold f_X8_trace
      rw [out_eq, bind_s, t1, h, if_neg (by decide), if_pos (show nI j < 40 from nI_lt (b := 40) (by omega) (by omega)), rd_nI (by show j < 40; omega), bind_s]
    · show f_X9_trace σ (nI j) = _
      unfold f_X9_trace
      rw [in_0d, bind_s, t2, h, if_pos (by decide), rd_nI (by show j < 40; omega), bind_s]
theorem s_ofSwimmer (a1 : Int32) (a2 : Int32) (b : Bool) : LPr (fun σ => f_X8_ofSwimmer σ a1 a2) (fun σ => f_X9_ofSwimmer σ a1 a2) b Inv Inv := by
  intro σ hI
  rcases sA8 hI.1 a1 with ⟨q, e⟩ | ⟨p, hp, hpN, rfl, q, e⟩
  · refine ⟨(-1000000001, rf σ 1), (-1000000001, fi (rf σ 1) 1), ?_, ?_, fun _ => rfl, inv_err hI (Fr.rf _) (Fr.rf _)⟩
    · show f_X8_ofSwimmer σ a1 a2 = _
      unfold f_X8_ofSwimmer
      rw [e, bind_s, onN_0, refuse_1, bind_s]
    · show f_X9_ofSwimmer (rf σ 1) a1 a2 = _
      unfold f_X9_ofSwimmer
      rw [isS_eq, bind_s, rf_at (by decide), q, if_neg (by decide), finds_1, bind_s]
  · cases h2 : isO a2 0 8 with
    | true =>
      refine ⟨(-1000000001, rf σ 1), (-1000000001, fi (rf σ 1) 1), ?_, ?_, fun _ => rfl, inv_err hI (Fr.rf _) (Fr.rf _)⟩
      · show f_X8_ofSwimmer σ (nI p) a2 = _
        unfold f_X8_ofSwimmer
        rw [e, bind_s, onN_1, out_eq, bind_s, h2, if_pos (by decide), refuse_1, bind_s]
      · show f_X9_ofSwimmer (rf σ 1) (nI p) a2 = _
        unfold f_X9_ofSwimmer
        rw [isS_eq, bind_s, rf_at (by decide), q, if_pos (by decide), in_0_8, bind_s, h2, if_neg (by decide), finds_1, bind_s]
    | false =>
      obtain ⟨j, hj, rfl⟩ := isO_nI (n := 8) rfl h2
      refine ⟨(S9 (σ.1 82) p j, σ), (S9 (σ.1 82) p j, σ), ?_, ?_, fun _ => rfl, hI⟩
      · show f_X8_ofSwimmer σ (nI p) (nI j) = _
        unfold f_X8_ofSwimmer
        rw [e, bind_s, onN_1, out_eq, bind_s, h2, if_neg (by decide)]
        have s6 := sw6 (K12 p hp)
        rcases (show j = 0 ∨ j = 1 ∨ j = 2 ∨ j = 3 ∨ j = 4 ∨ 5 ≤ j by omega) with rfl | rfl | rfl | rfl | rfl | h5
        · rw [if_pos (by decide), if_pos (K12 p hp), sw8f hI.1 hpN (by omega)]
        · rw [if_neg (by decide), if_pos (by decide), if_pos (K12 p hp), sw8f hI.1 hpN (by omega)]
        · rw [if_neg (by decide), if_neg (by decide), if_pos (by decide), if_pos (K12 p hp), sw8f hI.1 hpN (by omega)]
        · rw [if_neg (by decide), if_neg (by decide), if_neg (by decide), if_pos (by decide), if_pos (K12 p hp), sw8f hI.1 hpN (by omega)]
        · rw [if_neg (by decide), if_neg (by decide), if_neg (by decide), if_neg (by decide), if_pos (by decide), if_pos (K12 p hp), sw8f hI.1 hpN (by omega)]
        · have ne : ∀ c, c < 5 → ¬ nI j = nI c := fun c hc z => by have := (nI_eq (a := j) (b := c) (by omega) (by omega)).mp z; omega
          obtain ⟨i, rfl⟩ : ∃ i, j = 5 + i := ⟨j - 5, by omega⟩
          have es : (nI (5 + i) - 5 : Int32) = nI i := by
            rcases (show i = 0 ∨ i = 1 ∨ i = 2 ∨ i = 3 by omega) with rfl | rfl | rfl | rfl <;> decide
          rw [if_neg (show ¬ nI (5 + i) = 0 from ne 0 (by omega)), if_neg (show ¬ nI (5 + i) = 1 from ne 1 (by omega)), if_neg (show ¬ nI (5 + i) = 2 from ne 2 (by omega)), if_neg (show ¬ nI (5 + i) = 3 from ne 3 (by omega)), if_neg (show ¬ nI (5 + i) = 4 from ne 4 (by omega)), if_pos (K12 p hp), es]
          unfold f_X6_laneOf
          rw [if_neg (nI_pos (by omega)), if_pos (show nI i < 4 from nI_lt (b := 4) (by omega) (by omega)), s6.1, rd_nI (by rw [s6.2.1]; omega), bind_s, bind_s, show 12 + 2 * p + 1 = 13 + 2 * p by omega, sw8l hI.1 hpN (by omega)]
      · show f_X9_ofSwimmer σ (nI p) (nI j) = _
        unfold f_X9_ofSwimmer
        rw [isS_eq, bind_s, q, if_pos (by decide), in_0_8, bind_s, h2, if_pos (by decide), of_eq hp (by omega), bind_s]
theorem s_train (a1 : Int32) (a2 : Int32) (b : Bool) : LPr (fun σ => f_X8_train σ a1 a2) (fun σ => f_X9_train σ a1 a2) b Inv Inv := by
  intro σ hI
  rcases sA8 hI.1 a1 with ⟨q, e⟩ | ⟨p, hp, hpN, rfl, q, e⟩
  · refine ⟨(-1000000001, rf σ 1), (-1000000001, fi (rf σ 1) 1), ?_, ?_, fun _ => rfl, inv_err hI (Fr.rf _) (Fr.rf _)⟩
    · show f_X8_train σ a1 a2 = _
      unfold f_X8_train
      rw [e, bind_s, onN_0, refuse_1, bind_s]
    · show f_X9_train (rf σ 1) a1 a2 = _
      unfold f_X9_train
      rw [isS_eq, bind_s, rf_at (by decide), q, if_neg (by decide), finds_1, bind_s]
  · cases h2 : isO a2 0 30 with
    | true =>
      refine ⟨(-1000000001, rf σ 1), (-1000000001, fi (rf σ 1) 1), ?_, ?_, fun _ => rfl, inv_err hI (Fr.rf _) (Fr.rf _)⟩
      · show f_X8_train σ (nI p) a2 = _
        unfold f_X8_train
        rw [e, bind_s, onN_1, out_eq, bind_s, h2, if_pos (by decide), refuse_1, bind_s]
      · show f_X9_train (rf σ 1) (nI p) a2 = _
        unfold f_X9_train
        rw [isS_eq, bind_s, rf_at (by decide), q, if_pos (by decide), in_0_30, bind_s, h2, if_neg (by decide), finds_1, bind_s]
    | false =>
      refine ⟨(σ.1 (12 + 2 * p) 3, sI σ (12 + 2 * p) 3 a2), (S9 (σ.1 82) p 3, sI (sI σ (12 + 2 * p) 3 a2) 82 (16 + 9 * p + 3) a2), ?_, ?_, fun _ => sw8f hI.1 hpN (by omega), upd_swf hI hp (by omega) (notO h2)⟩
      · show f_X8_train σ (nI p) a2 = _
        unfold f_X8_train
        rw [e, bind_s, onN_1, out_eq, bind_s, h2, if_neg (by decide), if_pos (K12 p hp), lp_eq]
      · show f_X9_train (sI σ (12 + 2 * p) 3 a2) (nI p) a2 = _
        unfold f_X9_train
        rw [isS_eq, bind_s, sI_ne (by omega), q, if_pos (by decide), in_0_30, bind_s, h2, if_pos (by decide), show (3 : Int32) = nI 3 from rfl, of_eq hp (by omega), bind_s, bec_eq hp (by omega), bind_s]
        unfold S9
        rw [sI_ne (by omega)]
theorem s_plan (a1 : Int32) (a2 : Int32) (a3 : Int32) (b : Bool) : LPr (fun σ => f_X8_plan σ a1 a2 a3) (fun σ => f_X9_plan σ a1 a2 a3) b Inv Inv := by
  intro σ hI
  rcases sA8 hI.1 a1 with ⟨q, e⟩ | ⟨p, hp, hpN, rfl, q, e⟩
  · refine ⟨(-1000000001, rf σ 1), (-1000000001, fi (rf σ 1) 1), ?_, ?_, fun _ => rfl, inv_err hI (Fr.rf _) (Fr.rf _)⟩
    · show f_X8_plan σ a1 a2 a3 = _
      unfold f_X8_plan
      rw [e, bind_s, onN_0, refuse_1, bind_s]
    · show f_X9_plan (rf σ 1) a1 a2 a3 = _
      unfold f_X9_plan
      rw [isS_eq, bind_s, rf_at (by decide), q, if_neg (by decide), finds_1, bind_s]
  · cases h2 : isO a2 0 3 with
    | true =>
      refine ⟨(-1000000001, rf σ 1), (-1000000001, fi (rf σ 1) 1), ?_, ?_, fun _ => rfl, inv_err hI (Fr.rf _) (Fr.rf _)⟩
      · show f_X8_plan σ (nI p) a2 a3 = _
        unfold f_X8_plan
        rw [e, bind_s, onN_1, out_eq, bind_s, h2, if_pos (by decide), refuse_1, bind_s]
      · show f_X9_plan (rf σ 1) (nI p) a2 a3 = _
        unfold f_X9_plan
        rw [isS_eq, bind_s, rf_at (by decide), q, if_pos (by decide), in_0_3, bind_s, h2, if_neg (by decide), finds_1, bind_s]
    | false =>
      cases h3 : isO a3 0 5 with
      | true =>
        refine ⟨(-1000000001, rf σ 1), (-1000000001, fi (rf σ 1) 1), ?_, ?_, fun _ => rfl, inv_err hI (Fr.rf _) (Fr.rf _)⟩
        · show f_X8_plan σ (nI p) a2 a3 = _
          unfold f_X8_plan
          rw [e, bind_s, onN_1, out_eq, bind_s, h2, if_neg (by decide), out_eq, bind_s, h3, if_pos (by decide), refuse_1, bind_s]
        · show f_X9_plan (rf σ 1) (nI p) a2 a3 = _
          unfold f_X9_plan
          rw [isS_eq, bind_s, rf_at (by decide), q, if_pos (by decide), in_0_3, bind_s, h2, if_pos (by decide), lane_eq, bind_s, h3, if_neg (by decide), finds_1, bind_s]
      | false =>
        obtain ⟨j, hj, rfl⟩ := isO_nI (n := 3) rfl h2
        have s6 := sw6 (K12 p hp)
        have ok5 : oks (5 + j) a3 = true := by
          unfold oks
          rw [if_neg (by omega), if_neg (by omega), if_neg (by omega), if_pos (by omega)]
          exact notO h3
        refine ⟨(σ.1 (13 + 2 * p) j, sI σ (13 + 2 * p) j a3), (S9 (σ.1 82) p (5 + j), sI (sI σ (13 + 2 * p) j a3) 82 (16 + 9 * p + (5 + j)) a3), ?_, ?_, fun _ => sw8l hI.1 hpN (by omega), upd_swl hI hp (by omega) ok5⟩
        · show f_X8_plan σ (nI p) (nI j) a3 = _
          unfold f_X8_plan
          rw [e, bind_s, onN_1, out_eq, bind_s, h2, if_neg (by decide), out_eq, bind_s, h3, if_neg (by decide), if_pos (K12 p hp), s6.1, rd_nI (by rw [s6.2.1]; omega), bind_s, wr_nI (by rw [s6.2.1]; omega), bind_s, show 12 + 2 * p + 1 = 13 + 2 * p by omega]
        · show f_X9_plan (sI σ (13 + 2 * p) j a3) (nI p) (nI j) a3 = _
          unfold f_X9_plan
          rw [isS_eq, bind_s, sI_ne (by omega), q, if_pos (by decide), in_0_3, bind_s, h2, if_pos (by decide), lane_eq, bind_s, h3, if_pos (by decide), show (5 : Int32) = nI 5 from rfl, nI_add, of_eq hp (by omega), bind_s, bec_eq hp (by omega), bind_s]
          unfold S9
          rw [sI_ne (by omega)]
theorem km_ok : ∀ k, k ≤ 69 → oks 0 (nI k / 10) = true := by decide +kernel
theorem s_become (a1 : Int32) (a2 : Int32) (b : Bool) : LPr (fun σ => f_X8_become σ a1 a2) (fun σ => f_X9_become σ a1 a2) b Inv Inv := by
  intro σ hI
  rcases sA8 hI.1 a1 with ⟨q, e⟩ | ⟨p, hp, hpN, rfl, q, e⟩
  · refine ⟨(-1000000001, rf σ 1), (-1000000001, fi (rf σ 1) 1), ?_, ?_, fun _ => rfl, inv_err hI (Fr.rf _) (Fr.rf _)⟩
    · show f_X8_become σ a1 a2 = _
      unfold f_X8_become
      rw [e, bind_s, onN_0, refuse_1, bind_s]
    · show f_X9_become (rf σ 1) a1 a2 = _
      unfold f_X9_become
      rw [isS_eq, bind_s, rf_at (by decide), q, if_neg (by decide), finds_1, bind_s]
  · cases h2 : isO a2 0 69 with
    | true =>
      refine ⟨(-1000000001, rf σ 1), (-1000000001, fi (rf σ 1) 1), ?_, ?_, fun _ => rfl, inv_err hI (Fr.rf _) (Fr.rf _)⟩
      · show f_X8_become σ (nI p) a2 = _
        unfold f_X8_become
        rw [e, bind_s, onN_1, out_eq, bind_s, h2, if_pos (by decide), refuse_1, bind_s]
      · show f_X9_become (rf σ 1) (nI p) a2 = _
        unfold f_X9_become
        rw [isS_eq, bind_s, rf_at (by decide), q, if_pos (by decide), in_0_69, bind_s, h2, if_neg (by decide), finds_1, bind_s]
    | false =>
      obtain ⟨m, hm, rfl⟩ := isO_nI (n := 69) rfl h2
      have i1 := upd_swf hI hp (j := 0) (by omega) (v := nI m / 10) (km_ok m hm)
      have i2 := upd_swf i1 hp (j := 1) (by omega) (v := irem (nI m) 10) rfl
      refine ⟨(σ.1 (12 + 2 * p) 0, sI (sI σ (12 + 2 * p) 0 (nI m / 10)) (12 + 2 * p) 1 (irem (nI m) 10)), (S9 (σ.1 82) p 0, sI (sI (sI (sI σ (12 + 2 * p) 0 (nI m / 10)) (12 + 2 * p) 1 (irem (nI m) 10)) 82 (16 + 9 * p + 0) (nI m / 10)) 82 (16 + 9 * p + 1) (irem (nI m) 10)), ?_, ?_, fun _ => sw8f hI.1 hpN (by omega), ?_⟩
      · show f_X8_become σ (nI p) (nI m) = _
        unfold f_X8_become f_X6_turnInto
        rw [e, bind_s, onN_1, out_eq, bind_s, h2, if_neg (by decide), if_pos (K12 p hp), lp_eq, lp_eq, bind_s]
      · show f_X9_become (sI (sI σ (12 + 2 * p) 0 (nI m / 10)) (12 + 2 * p) 1 (irem (nI m) 10)) (nI p) (nI m) = _
        unfold f_X9_become
        rw [isS_eq, bind_s, sI_ne (by omega), sI_ne (by omega), q, if_pos (by decide), in_0_69, bind_s, h2, if_pos (by decide), show (0 : Int32) = nI 0 from rfl, of_eq hp (by omega), bind_s, bec_eq hp (by omega), bind_s, show (1 : Int32) = nI 1 from rfl, bec_eq hp (by omega), bind_s]
        unfold S9
        rw [sI_ne (by omega), sI_ne (by omega)]
      · rw [sI_comm (σ := sI σ (12 + 2 * p) 0 (nI m / 10)) (show (82 : Nat) ≠ 12 + 2 * p by omega)] at i2
        exact i2
def under (k t : Nat) : Bool := t == 0 || t == k || t == (if k < 4 then 0 else k - 3)
theorem und_L : ∀ n k t i, k ≤ 6 → t ≤ 6 → i ≤ 3 → 10 < n + i → (∀ m, m < i → True) → True := fun _ _ _ _ _ _ _ _ _ => trivial
theorem und_step (σ : Sto) (t : Int32) (n k i : Nat) (hk : k ≤ 6) (hi : i < 7) : f_X8_isUnder_L4 σ t (n + 1) (nI k) (nI i) = if nI k = t then some true else f_X8_isUnder_L4 σ t n (abv k) (nI (i + 1)) := by
  rw [f_X8_isUnder_L4, if_neg (show ¬ (7 : Int32) ≤ nI i from nI_ge (b := 7) (by omega) (by omega)), out_eq, bind_s, show isO (nI k) 0 6 = false from isO_lit (n := 6) (by omega) (by omega), if_neg (by decide), rdC_nI (by omega) (by omega), bind_s, nI_1]
theorem und_end (σ : Sto) (t : Int32) (n i : Nat) (hi : i < 7) : f_X8_isUnder_L4 σ t (n + 1) (-1) (nI i) = some false := by
  rw [f_X8_isUnder_L4, if_neg (show ¬ (7 : Int32) ≤ nI i from nI_ge (b := 7) (by omega) (by omega)), out_eq, bind_s, if_pos (by decide)]
theorem und_eq (σ : Sto) : ∀ k, k ≤ 6 → ∀ t, t ≤ 6 → f_X8_isUnder σ (nI k) (nI t) = some (under k t) := by
  intro k hk t ht
  unfold f_X8_isUnder
  have ne : ∀ a, a ≤ 6 → (nI a = nI t ↔ a = t) := fun a ha => nI_eq (by omega) (by omega)
  rw [show FU = 9996 + 1 + 1 + 1 + 1 from rfl, show (0 : Int32) = nI 0 from rfl]
  rcases (show k = 0 ∨ k = 1 ∨ k = 2 ∨ k = 3 ∨ k = 4 ∨ k = 5 ∨ k = 6 by omega) with rfl | rfl | rfl | rfl | rfl | rfl | rfl
  · rw [und_step _ _ _ 0 _ (by omega) (by omega), show abv 0 = -1 from rfl, und_end _ _ _ _ (by omega)]
    by_cases h : 0 = t
    · subst h; rfl
    · rw [if_neg (fun z => h ((ne 0 (by omega)).mp z))]
      have : under 0 t = false := by unfold under; simp; omega
      rw [this]
  all_goals
    rw [und_step _ _ _ _ _ (by omega) (by omega)]
    simp only [show abv 1 = nI 0 from rfl, show abv 2 = nI 0 from rfl, show abv 3 = nI 0 from rfl, show abv 4 = nI 1 from rfl, show abv 5 = nI 2 from rfl, show abv 6 = nI 3 from rfl]
    rw [und_step _ _ _ _ _ (by omega) (by omega)]
    simp only [show abv 0 = -1 from rfl, show abv 1 = nI 0 from rfl, show abv 2 = nI 0 from rfl, show abv 3 = nI 0 from rfl]
    first
      | rw [und_end _ _ _ _ (by omega)]
      | rw [und_step _ _ _ _ _ (by omega) (by omega), show abv 0 = -1 from rfl, und_end _ _ _ _ (by omega)]
    rcases (show t = 0 ∨ t = 1 ∨ t = 2 ∨ t = 3 ∨ t = 4 ∨ t = 5 ∨ t = 6 by omega) with rfl | rfl | rfl | rfl | rfl | rfl | rfl <;> decide +kernel
theorem above_eq : ∀ k, k ≤ 6 → f_X9_above (nI k) = some (nI (if k < 4 then 0 else k - 3)) := by
  intro k hk
  rcases (show k = 0 ∨ k = 1 ∨ k = 2 ∨ k = 3 ∨ k = 4 ∨ k = 5 ∨ k = 6 by omega) with rfl | rfl | rfl | rfl | rfl | rfl | rfl <;> decide +kernel
theorem s_as (a1 : Int32) (a2 : Int32) (b : Bool) : LPr (fun σ => f_X8_as σ a1 a2) (fun σ => f_X9_as σ a1 a2) b Inv Inv := by
  intro σ hI
  rcases sA8 hI.1 a1 with ⟨q, e⟩ | ⟨p, hp, hpN, rfl, q, e⟩
  · refine ⟨(-1000000001, rf σ 1), (-1000000001, fi (rf σ 1) 1), ?_, ?_, fun _ => rfl, inv_err hI (Fr.rf _) (Fr.rf _)⟩
    · show f_X8_as σ a1 a2 = _
      unfold f_X8_as
      rw [e, bind_s, onN_0, refuse_1, bind_s]
    · show f_X9_as (rf σ 1) a1 a2 = _
      unfold f_X9_as
      rw [isS_eq, bind_s, rf_at (by decide), q, if_neg (by decide), finds_1, bind_s]
  · cases h2 : isO a2 0 6 with
    | true =>
      refine ⟨(-1000000001, rf σ 1), (-1000000001, fi (rf σ 1) 1), ?_, ?_, fun _ => rfl, inv_err hI (Fr.rf _) (Fr.rf _)⟩
      · show f_X8_as σ (nI p) a2 = _
        unfold f_X8_as
        rw [e, bind_s, onN_1, out_eq, bind_s, h2, if_pos (by decide), refuse_1, bind_s]
      · show f_X9_as (rf σ 1) (nI p) a2 = _
        unfold f_X9_as
        rw [isS_eq, bind_s, rf_at (by decide), q, if_pos (by decide), in_0_6, bind_s, h2, if_neg (by decide), finds_1, bind_s]
    | false =>
      obtain ⟨t, ht, rfl⟩ := isO_nI (n := 6) rfl h2
      obtain ⟨k, hk, ek⟩ := sw_kind hI.1.ok hp
      have e8 : f_X8_as σ (nI p) (nI t) = if under k t = true then some (σ.1 (12 + 2 * p) 1, σ) else some (-1000000005, rf σ 5) := by
        unfold f_X8_as
        rw [e, bind_s, onN_1, out_eq, bind_s, h2, if_neg (by decide), if_pos (K12 p hp), sw8f hI.1 hpN (by omega), ek, und_eq σ k hk t ht, bind_s, refuse_5, bind_s]
      have e9 : ∀ τ : Sto, τ.1 82 = σ.1 82 → f_X9_as τ (nI p) (nI t) = if under k t = true then some (S9 (σ.1 82) p 1, τ) else some (-1000000005, fi τ 5) := by
        intro τ hτ
        unfold f_X9_as f_X9_as_L50
        rw [isS_eq, bind_s, hτ, q, if_pos (by decide), in_0_6, bind_s, h2, if_pos (by decide), show f_X9_of τ (nI p) 0 = _ from of_eq hp (j := 0) (by omega), bind_s, hτ, ek, above_eq k hk, bind_s, show f_X9_of τ (nI p) 1 = _ from of_eq hp (j := 1) (by omega), bind_s, hτ, finds_5, bind_s]
        by_cases c0 : t = 0
        · subst c0
          rw [if_pos (by decide), if_pos (by unfold under; rfl)]
        · rw [if_neg (show ¬ nI t = 0 from fun z => c0 ((nI_eq (a := t) (b := 0) (by omega) (by omega)).mp z))]
          by_cases c1 : t = k
          · subst c1
            rw [if_pos rfl, if_pos (by unfold under; simp)]
          · rw [if_neg (fun z => c1 ((nI_eq (by omega) (by omega)).mp z))]
            by_cases c2 : t = if k < 4 then 0 else k - 3
            · rw [if_pos (by rw [← c2]), if_pos (by unfold under; simp [c2])]
            · rw [if_neg (fun z => c2 ((nI_eq (by omega) (by split <;> omega)).mp z)), if_neg (by unfold under; simp [c0, c1, c2])]
      by_cases hu : under k t = true
      · rw [if_pos hu] at e8
        refine ⟨_, _, e8, (e9 σ rfl).trans (if_pos hu), fun _ => sw8f hI.1 hpN (by omega), hI⟩
      · rw [if_neg hu] at e8
        refine ⟨_, _, e8, (e9 (rf σ 5) (funext fun j => rf_at (by decide))).trans (if_neg hu), fun _ => rfl, inv_err hI (Fr.rf _) (Fr.rf _)⟩
