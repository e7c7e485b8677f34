def by_X9_ofSwimmer_0 : List Nat := [42, 27, 182, 0, 169, 153, 0, 24, 28, 133, 9, 20, 0, 124, 184, 0]
def by_X9_ofSwimmer_1 : List Nat := [49, 153, 0, 12, 42, 27, 28, 182, 0, 172, 167, 0, 8, 42, 4, 182]
def by_X9_ofSwimmer_z : List Nat := [0, 126, 172]
def by_X9_ofSwimmer : List (List Nat) := [by_X9_ofSwimmer_0, by_X9_ofSwimmer_1]
set_option maxRecDepth 100000 in
theorem byo_X9_ofSwimmer : cX9_ofSwimmer.data.toList.map UInt8.toNat = by_X9_ofSwimmer.flatten ++ by_X9_ofSwimmer_z := by decide +kernel
theorem byl_X9_ofSwimmer : by_X9_ofSwimmer.all (fun r => r.length == 16) = true := by decide +kernel
theorem byr_X9_ofSwimmer_0 {j v : Nat} (h : by_X9_ofSwimmer_0[j]? = some v) : RD cX9_ofSwimmer (0 + j) v := rd_16 byo_X9_ofSwimmer byl_X9_ofSwimmer 0 rfl h
theorem byr_X9_ofSwimmer_1 {j v : Nat} (h : by_X9_ofSwimmer_1[j]? = some v) : RD cX9_ofSwimmer (16 + j) v := rd_16 byo_X9_ofSwimmer byl_X9_ofSwimmer 1 rfl h
theorem byr_X9_ofSwimmer_2 {j v : Nat} (h : by_X9_ofSwimmer_z[j]? = some v) : RD cX9_ofSwimmer (32 + j) v := rd_z byo_X9_ofSwimmer byl_X9_ofSwimmer 2 rfl h
theorem dX9_ofSwimmer_0 : decode cX9_ofSwimmer 0 = .ok (.aload_n 0, 1) := dk_42 (byr_X9_ofSwimmer_0 (j := 0) rfl)
theorem dX9_ofSwimmer_1 : decode cX9_ofSwimmer 1 = .ok (.iload_n 1, 1) := dk_27 (byr_X9_ofSwimmer_0 (j := 1) rfl)
theorem dX9_ofSwimmer_2 : decode cX9_ofSwimmer 2 = .ok (.invokevirtual 169, 3) := dk_182 (byr_X9_ofSwimmer_0 (j := 2) rfl) (byr_X9_ofSwimmer_0 (j := 3) rfl) (byr_X9_ofSwimmer_0 (j := 4) rfl) (by decide)
theorem dX9_ofSwimmer_5 : decode cX9_ofSwimmer 5 = .ok (.ifCond .eq 24, 3) := dk_153 (byr_X9_ofSwimmer_0 (j := 5) rfl) (byr_X9_ofSwimmer_0 (j := 6) rfl) (byr_X9_ofSwimmer_0 (j := 7) rfl) (by decide)
theorem dX9_ofSwimmer_8 : decode cX9_ofSwimmer 8 = .ok (.iload_n 2, 1) := dk_28 (byr_X9_ofSwimmer_0 (j := 8) rfl)
theorem dX9_ofSwimmer_9 : decode cX9_ofSwimmer 9 = .ok (.i2l, 1) := dk_133 (byr_X9_ofSwimmer_0 (j := 9) rfl)
theorem dX9_ofSwimmer_10 : decode cX9_ofSwimmer 10 = .ok (.lconst 0, 1) := dk_9 (byr_X9_ofSwimmer_0 (j := 10) rfl)
theorem dX9_ofSwimmer_11 : decode cX9_ofSwimmer 11 = .ok (.ldc2_w 124, 3) := dk_20 (byr_X9_ofSwimmer_0 (j := 11) rfl) (byr_X9_ofSwimmer_0 (j := 12) rfl) (byr_X9_ofSwimmer_0 (j := 13) rfl) (by decide)
theorem dX9_ofSwimmer_14 : decode cX9_ofSwimmer 14 = .ok (.invokestatic 49, 3) := dk_184 (byr_X9_ofSwimmer_0 (j := 14) rfl) (byr_X9_ofSwimmer_0 (j := 15) rfl) (byr_X9_ofSwimmer_1 (j := 0) rfl) (by decide)
theorem dX9_ofSwimmer_17 : decode cX9_ofSwimmer 17 = .ok (.ifCond .eq 12, 3) := dk_153 (byr_X9_ofSwimmer_1 (j := 1) rfl) (byr_X9_ofSwimmer_1 (j := 2) rfl) (byr_X9_ofSwimmer_1 (j := 3) rfl) (by decide)
theorem dX9_ofSwimmer_20 : decode cX9_ofSwimmer 20 = .ok (.aload_n 0, 1) := dk_42 (byr_X9_ofSwimmer_1 (j := 4) rfl)
theorem dX9_ofSwimmer_21 : decode cX9_ofSwimmer 21 = .ok (.iload_n 1, 1) := dk_27 (byr_X9_ofSwimmer_1 (j := 5) rfl)
theorem dX9_ofSwimmer_22 : decode cX9_ofSwimmer 22 = .ok (.iload_n 2, 1) := dk_28 (byr_X9_ofSwimmer_1 (j := 6) rfl)
theorem dX9_ofSwimmer_23 : decode cX9_ofSwimmer 23 = .ok (.invokevirtual 172, 3) := dk_182 (byr_X9_ofSwimmer_1 (j := 7) rfl) (byr_X9_ofSwimmer_1 (j := 8) rfl) (byr_X9_ofSwimmer_1 (j := 9) rfl) (by decide)
theorem dX9_ofSwimmer_26 : decode cX9_ofSwimmer 26 = .ok (.goto 8, 3) := dk_167 (byr_X9_ofSwimmer_1 (j := 10) rfl) (byr_X9_ofSwimmer_1 (j := 11) rfl) (byr_X9_ofSwimmer_1 (j := 12) rfl) (by decide)
theorem dX9_ofSwimmer_29 : decode cX9_ofSwimmer 29 = .ok (.aload_n 0, 1) := dk_42 (byr_X9_ofSwimmer_1 (j := 13) rfl)
theorem dX9_ofSwimmer_30 : decode cX9_ofSwimmer 30 = .ok (.iconst 1, 1) := dk_4 (byr_X9_ofSwimmer_1 (j := 14) rfl)
theorem dX9_ofSwimmer_31 : decode cX9_ofSwimmer 31 = .ok (.invokevirtual 126, 3) := dk_182 (byr_X9_ofSwimmer_1 (j := 15) rfl) (byr_X9_ofSwimmer_2 (j := 0) rfl) (byr_X9_ofSwimmer_2 (j := 1) rfl) (by decide)
theorem dX9_ofSwimmer_34 : decode cX9_ofSwimmer 34 = .ok (.ireturn, 1) := dk_172 (byr_X9_ofSwimmer_2 (j := 2) rfl)
set_option maxHeartbeats 4000000 in
set_option maxRecDepth 100000 in
theorem c_X9_ofSwimmer (l : Launch) (G : GT) (σ : Sto) (a1 : Int32) (a2 : Int32) (r : (Int32 × Sto)) (h : f_X9_ofSwimmer σ a1 a2 = some r) : MW l G (4) (110) 0 0 yX9_ofSwimmer cX9_ofSwimmer 3 (Option.some Jvm.ClassFile.FieldType.int) [.ref (gad G 81), .int a1, .int a2] (wl G σ) (some (.int r.1)) (wl G r.2) := by
  refine mw_of RX9 (fiI G) [(0, .ref (gad G 81)), (1, .int a1), (2, .int a2)] (by decide +kernel) rfl (Nat.le_of_ble_eq_true rfl) rfl h rfl (fun p e s m args below meth c X hr hnm => ?_)
  unfold f_X9_ofSwimmer
  refine sm_aload_n X 1 0 dX9_ofSwimmer_0 rfl rfl rfl ?_
  refine sm_iload_n X 2 1 dX9_ofSwimmer_1 rfl rfl rfl ?_
  refine sm_bind (fun r2 h2 => ?_)
  refine sm_callV0 X 5 [.int a1] [] [.int (b2i r2)] (c_X9_isSwimmer l G σ a1 r2 h2) cw_X9_isSwimmer q_1086 qs_44 q_1084 rfl (by decide) rfl rfl rfl rfl rfl (Nat.le_of_ble_eq_true rfl) ⟨Nat.le_of_ble_eq_true rfl, Nat.le_of_ble_eq_true rfl⟩ ⟨Nat.le_refl _, Nat.le_refl _⟩ dX9_ofSwimmer_2 rfl ?_
  refine sm_ifz_eq X 8 29 dX9_ofSwimmer_5 rfl (by decide) (fun h5 => ?_) (fun h5 => ?_)
  · refine sm_iload_n X 9 2 dX9_ofSwimmer_8 rfl rfl rfl ?_
    refine sm_i2l X 10 dX9_ofSwimmer_9 rfl ?_
    refine sm_lconst X 11 (0) dX9_ofSwimmer_10 rfl rfl ?_
    refine sm_ldc2 X 14 (8) dX9_ofSwimmer_11 rfl q_959 ?_
    refine sm_bind (fun r14 h14 => ?_)
    refine sm_callS0 X 17 [.long (Int32.toInt64 a2), .long (0 : Int64), .long (8 : Int64)] [] [.int (b2i r14)] (c_X9_in l G σ (Int32.toInt64 a2) (0 : Int64) (8 : Int64) r14 h14) cw_X9_in q_961 q_960 rfl rfl rfl (Nat.le_of_ble_eq_true rfl) ⟨Nat.le_of_ble_eq_true rfl, Nat.le_of_ble_eq_true rfl⟩ ⟨Nat.le_refl _, Nat.le_refl _⟩ dX9_ofSwimmer_14 rfl ?_
    refine sm_ifz_eq X 20 29 dX9_ofSwimmer_17 rfl (by decide) (fun h17 => ?_) (fun h17 => ?_)
    · refine sm_aload_n X 21 0 dX9_ofSwimmer_20 rfl rfl rfl ?_
      refine sm_iload_n X 22 1 dX9_ofSwimmer_21 rfl rfl rfl ?_
      refine sm_iload_n X 23 2 dX9_ofSwimmer_22 rfl rfl rfl ?_
      refine sm_bind (fun r23 h23 => ?_)
      refine sm_callV0 X 26 [.int a1, .int a2] [] [.int r23] (c_X9_of l G σ a1 a2 r23 h23) cw_X9_of q_1090 qs_45 q_1088 rfl (by decide) rfl rfl rfl rfl rfl (Nat.le_of_ble_eq_true rfl) ⟨Nat.le_of_ble_eq_true rfl, Nat.le_of_ble_eq_true rfl⟩ ⟨Nat.le_refl _, Nat.le_refl _⟩ dX9_ofSwimmer_23 rfl ?_
      refine sm_goto X 34 dX9_ofSwimmer_26 (by decide) ?_
      exact sm_iret X hr dX9_ofSwimmer_34 rfl
    · refine sm_aload_n X 30 0 dX9_ofSwimmer_29 rfl rfl rfl ?_
      refine sm_iconst X 31 (1) dX9_ofSwimmer_30 rfl rfl ?_
      refine sm_bind (fun r31 h31 => ?_)
      refine sm_callV0 X 34 [.int 1] [] [.int r31.1] (c_X9_finds l G σ (1 : Int32) r31 h31) cw_X9_finds q_965 qs_26 q_963 rfl (by decide) rfl rfl rfl rfl rfl (Nat.le_of_ble_eq_true rfl) ⟨Nat.le_of_ble_eq_true rfl, Nat.le_of_ble_eq_true rfl⟩ ⟨Nat.le_refl _, Nat.le_refl _⟩ dX9_ofSwimmer_31 rfl ?_
      exact sm_iret X hr dX9_ofSwimmer_34 rfl
  · refine sm_aload_n X 30 0 dX9_ofSwimmer_29 rfl rfl rfl ?_
    refine sm_iconst X 31 (1) dX9_ofSwimmer_30 rfl rfl ?_
    refine sm_bind (fun r31 h31 => ?_)
    refine sm_callV0 X 34 [.int 1] [] [.int r31.1] (c_X9_finds l G σ (1 : Int32) r31 h31) cw_X9_finds q_965 qs_26 q_963 rfl (by decide) rfl rfl rfl rfl rfl (Nat.le_of_ble_eq_true rfl) ⟨Nat.le_of_ble_eq_true rfl, Nat.le_of_ble_eq_true rfl⟩ ⟨Nat.le_refl _, Nat.le_refl _⟩ dX9_ofSwimmer_31 rfl ?_
    exact sm_iret X hr dX9_ofSwimmer_34 rfl
def by_X9_train_0 : List Nat := [42, 27, 182, 0, 169, 153, 0, 15, 28, 133, 9, 20, 0, 175, 184, 0]
def by_X9_train_1 : List Nat := [49, 154, 0, 9, 42, 4, 182, 0, 126, 172, 42, 27, 6, 182, 0, 172]
def by_X9_train_z : List Nat := [62, 42, 27, 6, 28, 182, 0, 166, 29, 172]
def by_X9_train : List (List Nat) := [by_X9_train_0, by_X9_train_1]
set_option maxRecDepth 100000 in
theorem byo_X9_train : cX9_train.data.toList.map UInt8.toNat = by_X9_train.flatten ++ by_X9_train_z := by decide +kernel
theorem byl_X9_train : by_X9_train.all (fun r => r.length == 16) = true := by decide +kernel
theorem byr_X9_train_0 {j v : Nat} (h : by_X9_train_0[j]? = some v) : RD cX9_train (0 + j) v := rd_16 byo_X9_train byl_X9_train 0 rfl h
theorem byr_X9_train_1 {j v : Nat} (h : by_X9_train_1[j]? = some v) : RD cX9_train (16 + j) v := rd_16 byo_X9_train byl_X9_train 1 rfl h
theorem byr_X9_train_2 {j v : Nat} (h : by_X9_train_z[j]? = some v) : RD cX9_train (32 + j) v := rd_z byo_X9_train byl_X9_train 2 rfl h
theorem dX9_train_0 : decode cX9_train 0 = .ok (.aload_n 0, 1) := dk_42 (byr_X9_train_0 (j := 0) rfl)
theorem dX9_train_1 : decode cX9_train 1 = .ok (.iload_n 1, 1) := dk_27 (byr_X9_train_0 (j := 1) rfl)
theorem dX9_train_2 : decode cX9_train 2 = .ok (.invokevirtual 169, 3) := dk_182 (byr_X9_train_0 (j := 2) rfl) (byr_X9_train_0 (j := 3) rfl) (byr_X9_train_0 (j := 4) rfl) (by decide)
theorem dX9_train_5 : decode cX9_train 5 = .ok (.ifCond .eq 15, 3) := dk_153 (byr_X9_train_0 (j := 5) rfl) (byr_X9_train_0 (j := 6) rfl) (byr_X9_train_0 (j := 7) rfl) (by decide)
theorem dX9_train_8 : decode cX9_train 8 = .ok (.iload_n 2, 1) := dk_28 (byr_X9_train_0 (j := 8) rfl)
theorem dX9_train_9 : decode cX9_train 9 = .ok (.i2l, 1) := dk_133 (byr_X9_train_0 (j := 9) rfl)
theorem dX9_train_10 : decode cX9_train 10 = .ok (.lconst 0, 1) := dk_9 (byr_X9_train_0 (j := 10) rfl)
theorem dX9_train_11 : decode cX9_train 11 = .ok (.ldc2_w 175, 3) := dk_20 (byr_X9_train_0 (j := 11) rfl) (byr_X9_train_0 (j := 12) rfl) (byr_X9_train_0 (j := 13) rfl) (by decide)
theorem dX9_train_14 : decode cX9_train 14 = .ok (.invokestatic 49, 3) := dk_184 (byr_X9_train_0 (j := 14) rfl) (byr_X9_train_0 (j := 15) rfl) (byr_X9_train_1 (j := 0) rfl) (by decide)
theorem dX9_train_17 : decode cX9_train 17 = .ok (.ifCond .ne 9, 3) := dk_154 (byr_X9_train_1 (j := 1) rfl) (byr_X9_train_1 (j := 2) rfl) (byr_X9_train_1 (j := 3) rfl) (by decide)
theorem dX9_train_20 : decode cX9_train 20 = .ok (.aload_n 0, 1) := dk_42 (byr_X9_train_1 (j := 4) rfl)
theorem dX9_train_21 : decode cX9_train 21 = .ok (.iconst 1, 1) := dk_4 (byr_X9_train_1 (j := 5) rfl)
theorem dX9_train_22 : decode cX9_train 22 = .ok (.invokevirtual 126, 3) := dk_182 (byr_X9_train_1 (j := 6) rfl) (byr_X9_train_1 (j := 7) rfl) (byr_X9_train_1 (j := 8) rfl) (by decide)
theorem dX9_train_25 : decode cX9_train 25 = .ok (.ireturn, 1) := dk_172 (byr_X9_train_1 (j := 9) rfl)
theorem dX9_train_26 : decode cX9_train 26 = .ok (.aload_n 0, 1) := dk_42 (byr_X9_train_1 (j := 10) rfl)
theorem dX9_train_27 : decode cX9_train 27 = .ok (.iload_n 1, 1) := dk_27 (byr_X9_train_1 (j := 11) rfl)
theorem dX9_train_28 : decode cX9_train 28 = .ok (.iconst 3, 1) := dk_6 (byr_X9_train_1 (j := 12) rfl)
theorem dX9_train_29 : decode cX9_train 29 = .ok (.invokevirtual 172, 3) := dk_182 (byr_X9_train_1 (j := 13) rfl) (byr_X9_train_1 (j := 14) rfl) (byr_X9_train_1 (j := 15) rfl) (by decide)
theorem dX9_train_32 : decode cX9_train 32 = .ok (.istore_n 3, 1) := dk_62 (byr_X9_train_2 (j := 0) rfl)
theorem dX9_train_33 : decode cX9_train 33 = .ok (.aload_n 0, 1) := dk_42 (byr_X9_train_2 (j := 1) rfl)
theorem dX9_train_34 : decode cX9_train 34 = .ok (.iload_n 1, 1) := dk_27 (byr_X9_train_2 (j := 2) rfl)
theorem dX9_train_35 : decode cX9_train 35 = .ok (.iconst 3, 1) := dk_6 (byr_X9_train_2 (j := 3) rfl)
theorem dX9_train_36 : decode cX9_train 36 = .ok (.iload_n 2, 1) := dk_28 (byr_X9_train_2 (j := 4) rfl)
theorem dX9_train_37 : decode cX9_train 37 = .ok (.invokevirtual 166, 3) := dk_182 (byr_X9_train_2 (j := 5) rfl) (byr_X9_train_2 (j := 6) rfl) (byr_X9_train_2 (j := 7) rfl) (by decide)
theorem dX9_train_40 : decode cX9_train 40 = .ok (.iload_n 3, 1) := dk_29 (byr_X9_train_2 (j := 8) rfl)
theorem dX9_train_41 : decode cX9_train 41 = .ok (.ireturn, 1) := dk_172 (byr_X9_train_2 (j := 9) rfl)
set_option maxHeartbeats 4000000 in
set_option maxRecDepth 100000 in
theorem c_X9_train (l : Launch) (G : GT) (σ : Sto) (a1 : Int32) (a2 : Int32) (r : (Int32 × Sto)) (h : f_X9_train σ a1 a2 = some r) : MW l G (4) (110) 0 0 yX9_train cX9_train 4 (Option.some Jvm.ClassFile.FieldType.int) [.ref (gad G 81), .int a1, .int a2] (wl G σ) (some (.int r.1)) (wl G r.2) := by
  refine mw_of RX9 (fiI G) [(0, .ref (gad G 81)), (1, .int a1), (2, .int a2)] (by decide +kernel) rfl (Nat.le_of_ble_eq_true rfl) rfl h rfl (fun p e s m args below meth c X hr hnm => ?_)
  unfold f_X9_train
  refine sm_aload_n X 1 0 dX9_train_0 rfl rfl rfl ?_
  refine sm_iload_n X 2 1 dX9_train_1 rfl rfl rfl ?_
  refine sm_bind (fun r2 h2 => ?_)
  refine sm_callV0 X 5 [.int a1] [] [.int (b2i r2)] (c_X9_isSwimmer l G σ a1 r2 h2) cw_X9_isSwimmer q_1086 qs_44 q_1084 rfl (by decide) rfl rfl rfl rfl rfl (Nat.le_of_ble_eq_true rfl) ⟨Nat.le_of_ble_eq_true rfl, Nat.le_of_ble_eq_true rfl⟩ ⟨Nat.le_refl _, Nat.le_refl _⟩ dX9_train_2 rfl ?_
  refine sm_ifz_eq X 8 20 dX9_train_5 rfl (by decide) (fun h5 => ?_) (fun h5 => ?_)
  · refine sm_iload_n X 9 2 dX9_train_8 rfl rfl rfl ?_
    refine sm_i2l X 10 dX9_train_9 rfl ?_
    refine sm_lconst X 11 (0) dX9_train_10 rfl rfl ?_
    refine sm_ldc2 X 14 (30) dX9_train_11 rfl q_1096 ?_
    refine sm_bind (fun r14 h14 => ?_)
    refine sm_callS0 X 17 [.long (Int32.toInt64 a2), .long (0 : Int64), .long (30 : Int64)] [] [.int (b2i r14)] (c_X9_in l G σ (Int32.toInt64 a2) (0 : Int64) (30 : Int64) r14 h14) cw_X9_in q_961 q_960 rfl rfl rfl (Nat.le_of_ble_eq_true rfl) ⟨Nat.le_of_ble_eq_true rfl, Nat.le_of_ble_eq_true rfl⟩ ⟨Nat.le_refl _, Nat.le_refl _⟩ dX9_train_14 rfl ?_
    refine sm_ifz_ne X 20 26 dX9_train_17 rfl (by decide) (fun h17 => ?_) (fun h17 => ?_)
    · refine sm_aload_n X 27 0 dX9_train_26 rfl rfl rfl ?_
      refine sm_iload_n X 28 1 dX9_train_27 rfl rfl rfl ?_
      refine sm_iconst X 29 (3) dX9_train_28 rfl rfl ?_
      refine sm_bind (fun r29 h29 => ?_)
      refine sm_callV0 X 32 [.int a1, .int 3] [] [.int r29] (c_X9_of l G σ a1 (3 : Int32) r29 h29) cw_X9_of q_1090 qs_45 q_1088 rfl (by decide) rfl rfl rfl rfl rfl (Nat.le_of_ble_eq_true rfl) ⟨Nat.le_of_ble_eq_true rfl, Nat.le_of_ble_eq_true rfl⟩ ⟨Nat.le_refl _, Nat.le_refl _⟩ dX9_train_29 rfl ?_
      refine sm_istore_n X 33 [(3, .int r29), (0, .ref (gad G 81)), (1, .int a1), (2, .int a2)] dX9_train_32 rfl rfl (by decide) rfl ?_
      refine sm_aload_n X 34 1 dX9_train_33 rfl rfl rfl ?_
      refine sm_iload_n X 35 2 dX9_train_34 rfl rfl rfl ?_
      refine sm_iconst X 36 (3) dX9_train_35 rfl rfl ?_
      refine sm_iload_n X 37 3 dX9_train_36 rfl rfl rfl ?_
      refine sm_bind (fun r37 h37 => ?_)
      refine sm_callV0 X 40 [.int a1, .int 3, .int a2] [] [] (c_X9_becomes l G σ a1 (3 : Int32) a2 r37 h37) cw_X9_becomes q_1078 qs_43 q_1076 rfl (by decide) rfl rfl rfl rfl rfl (Nat.le_of_ble_eq_true rfl) ⟨Nat.le_of_ble_eq_true rfl, Nat.le_of_ble_eq_true rfl⟩ ⟨Nat.le_refl _, Nat.le_refl _⟩ dX9_train_37 rfl ?_
      refine sm_iload_n X 41 0 dX9_train_40 rfl rfl rfl ?_
      exact sm_iret X hr dX9_train_41 rfl
    · refine sm_aload_n X 21 0 dX9_train_20 rfl rfl rfl ?_
      refine sm_iconst X 22 (1) dX9_train_21 rfl rfl ?_
      refine sm_bind (fun r22 h22 => ?_)
      refine sm_callV0 X 25 [.int 1] [] [.int r22.1] (c_X9_finds l G σ (1 : Int32) r22 h22) cw_X9_finds q_965 qs_26 q_963 rfl (by decide) rfl rfl rfl rfl rfl (Nat.le_of_ble_eq_true rfl) ⟨Nat.le_of_ble_eq_true rfl, Nat.le_of_ble_eq_true rfl⟩ ⟨Nat.le_refl _, Nat.le_refl _⟩ dX9_train_22 rfl ?_
      exact sm_iret X hr dX9_train_25 rfl
  · refine sm_aload_n X 21 0 dX9_train_20 rfl rfl rfl ?_
    refine sm_iconst X 22 (1) dX9_train_21 rfl rfl ?_
    refine sm_bind (fun r22 h22 => ?_)
    refine sm_callV0 X 25 [.int 1] [] [.int r22.1] (c_X9_finds l G σ (1 : Int32) r22 h22) cw_X9_finds q_965 qs_26 q_963 rfl (by decide) rfl rfl rfl rfl rfl (Nat.le_of_ble_eq_true rfl) ⟨Nat.le_of_ble_eq_true rfl, Nat.le_of_ble_eq_true rfl⟩ ⟨Nat.le_refl _, Nat.le_refl _⟩ dX9_train_22 rfl ?_
    exact sm_iret X hr dX9_train_25 rfl
def by_X9_plan_0 : List Nat := [42, 27, 182, 0, 169, 153, 0, 22, 28, 133, 9, 20, 0, 155, 184, 0]
def by_X9_plan_1 : List Nat := [49, 153, 0, 10, 29, 184, 0, 146, 154, 0, 9, 42, 4, 182, 0, 126]
def by_X9_plan_2 : List Nat := [172, 42, 27, 8, 28, 96, 182, 0, 172, 54, 4, 42, 27, 8, 28, 96]
def by_X9_plan_z : List Nat := [29, 182, 0, 166, 21, 4, 172]
def by_X9_plan : List (List Nat) := [by_X9_plan_0, by_X9_plan_1, by_X9_plan_2]
set_option maxRecDepth 100000 in
theorem byo_X9_plan : cX9_plan.data.toList.map UInt8.toNat = by_X9_plan.flatten ++ by_X9_plan_z := by decide +kernel
theorem byl_X9_plan : by_X9_plan.all (fun r => r.length == 16) = true := by decide +kernel
theorem byr_X9_plan_0 {j v : Nat} (h : by_X9_plan_0[j]? = some v) : RD cX9_plan (0 + j) v := rd_16 byo_X9_plan byl_X9_plan 0 rfl h
theorem byr_X9_plan_1 {j v : Nat} (h : by_X9_plan_1[j]? = some v) : RD cX9_plan (16 + j) v := rd_16 byo_X9_plan byl_X9_plan 1 rfl h
theorem byr_X9_plan_2 {j v : Nat} (h : by_X9_plan_2[j]? = some v) : RD cX9_plan (32 + j) v := rd_16 byo_X9_plan byl_X9_plan 2 rfl h
theorem byr_X9_plan_3 {j v : Nat} (h : by_X9_plan_z[j]? = some v) : RD cX9_plan (48 + j) v := rd_z byo_X9_plan byl_X9_plan 3 rfl h
theorem dX9_plan_0 : decode cX9_plan 0 = .ok (.aload_n 0, 1) := dk_42 (byr_X9_plan_0 (j := 0) rfl)
theorem dX9_plan_1 : decode cX9_plan 1 = .ok (.iload_n 1, 1) := dk_27 (byr_X9_plan_0 (j := 1) rfl)
theorem dX9_plan_2 : decode cX9_plan 2 = .ok (.invokevirtual 169, 3) := dk_182 (byr_X9_plan_0 (j := 2) rfl) (byr_X9_plan_0 (j := 3) rfl) (byr_X9_plan_0 (j := 4) rfl) (by decide)
theorem dX9_plan_5 : decode cX9_plan 5 = .ok (.ifCond .eq 22, 3) := dk_153 (byr_X9_plan_0 (j := 5) rfl) (byr_X9_plan_0 (j := 6) rfl) (byr_X9_plan_0 (j := 7) rfl) (by decide)
theorem dX9_plan_8 : decode cX9_plan 8 = .ok (.iload_n 2, 1) := dk_28 (byr_X9_plan_0 (j := 8) rfl)
theorem dX9_plan_9 : decode cX9_plan 9 = .ok (.i2l, 1) := dk_133 (byr_X9_plan_0 (j := 9) rfl)
theorem dX9_plan_10 : decode cX9_plan 10 = .ok (.lconst 0, 1) := dk_9 (byr_X9_plan_0 (j := 10) rfl)
theorem dX9_plan_11 : decode cX9_plan 11 = .ok (.ldc2_w 155, 3) := dk_20 (byr_X9_plan_0 (j := 11) rfl) (byr_X9_plan_0 (j := 12) rfl) (byr_X9_plan_0 (j := 13) rfl) (by decide)
theorem dX9_plan_14 : decode cX9_plan 14 = .ok (.invokestatic 49, 3) := dk_184 (byr_X9_plan_0 (j := 14) rfl) (byr_X9_plan_0 (j := 15) rfl) (byr_X9_plan_1 (j := 0) rfl) (by decide)
theorem dX9_plan_17 : decode cX9_plan 17 = .ok (.ifCond .eq 10, 3) := dk_153 (byr_X9_plan_1 (j := 1) rfl) (byr_X9_plan_1 (j := 2) rfl) (byr_X9_plan_1 (j := 3) rfl) (by decide)
theorem dX9_plan_20 : decode cX9_plan 20 = .ok (.iload_n 3, 1) := dk_29 (byr_X9_plan_1 (j := 4) rfl)
theorem dX9_plan_21 : decode cX9_plan 21 = .ok (.invokestatic 146, 3) := dk_184 (byr_X9_plan_1 (j := 5) rfl) (byr_X9_plan_1 (j := 6) rfl) (byr_X9_plan_1 (j := 7) rfl) (by decide)
theorem dX9_plan_24 : decode cX9_plan 24 = .ok (.ifCond .ne 9, 3) := dk_154 (byr_X9_plan_1 (j := 8) rfl) (byr_X9_plan_1 (j := 9) rfl) (byr_X9_plan_1 (j := 10) rfl) (by decide)
theorem dX9_plan_27 : decode cX9_plan 27 = .ok (.aload_n 0, 1) := dk_42 (byr_X9_plan_1 (j := 11) rfl)
theorem dX9_plan_28 : decode cX9_plan 28 = .ok (.iconst 1, 1) := dk_4 (byr_X9_plan_1 (j := 12) rfl)
theorem dX9_plan_29 : decode cX9_plan 29 = .ok (.invokevirtual 126, 3) := dk_182 (byr_X9_plan_1 (j := 13) rfl) (byr_X9_plan_1 (j := 14) rfl) (byr_X9_plan_1 (j := 15) rfl) (by decide)
theorem dX9_plan_32 : decode cX9_plan 32 = .ok (.ireturn, 1) := dk_172 (byr_X9_plan_2 (j := 0) rfl)
theorem dX9_plan_33 : decode cX9_plan 33 = .ok (.aload_n 0, 1) := dk_42 (byr_X9_plan_2 (j := 1) rfl)
theorem dX9_plan_34 : decode cX9_plan 34 = .ok (.iload_n 1, 1) := dk_27 (byr_X9_plan_2 (j := 2) rfl)
theorem dX9_plan_35 : decode cX9_plan 35 = .ok (.iconst 5, 1) := dk_8 (byr_X9_plan_2 (j := 3) rfl)
theorem dX9_plan_36 : decode cX9_plan 36 = .ok (.iload_n 2, 1) := dk_28 (byr_X9_plan_2 (j := 4) rfl)
theorem dX9_plan_37 : decode cX9_plan 37 = .ok (.iadd, 1) := dk_96 (byr_X9_plan_2 (j := 5) rfl)
theorem dX9_plan_38 : decode cX9_plan 38 = .ok (.invokevirtual 172, 3) := dk_182 (byr_X9_plan_2 (j := 6) rfl) (byr_X9_plan_2 (j := 7) rfl) (byr_X9_plan_2 (j := 8) rfl) (by decide)
theorem dX9_plan_41 : decode cX9_plan 41 = .ok (.istore 4, 2) := dk_54 (byr_X9_plan_2 (j := 9) rfl) (byr_X9_plan_2 (j := 10) rfl)
theorem dX9_plan_43 : decode cX9_plan 43 = .ok (.aload_n 0, 1) := dk_42 (byr_X9_plan_2 (j := 11) rfl)
theorem dX9_plan_44 : decode cX9_plan 44 = .ok (.iload_n 1, 1) := dk_27 (byr_X9_plan_2 (j := 12) rfl)
theorem dX9_plan_45 : decode cX9_plan 45 = .ok (.iconst 5, 1) := dk_8 (byr_X9_plan_2 (j := 13) rfl)
theorem dX9_plan_46 : decode cX9_plan 46 = .ok (.iload_n 2, 1) := dk_28 (byr_X9_plan_2 (j := 14) rfl)
theorem dX9_plan_47 : decode cX9_plan 47 = .ok (.iadd, 1) := dk_96 (byr_X9_plan_2 (j := 15) rfl)
theorem dX9_plan_48 : decode cX9_plan 48 = .ok (.iload_n 3, 1) := dk_29 (byr_X9_plan_3 (j := 0) rfl)
theorem dX9_plan_49 : decode cX9_plan 49 = .ok (.invokevirtual 166, 3) := dk_182 (byr_X9_plan_3 (j := 1) rfl) (byr_X9_plan_3 (j := 2) rfl) (byr_X9_plan_3 (j := 3) rfl) (by decide)
theorem dX9_plan_52 : decode cX9_plan 52 = .ok (.iload 4, 2) := dk_21 (byr_X9_plan_3 (j := 4) rfl) (byr_X9_plan_3 (j := 5) rfl)
theorem dX9_plan_54 : decode cX9_plan 54 = .ok (.ireturn, 1) := dk_172 (byr_X9_plan_3 (j := 6) rfl)
set_option maxHeartbeats 4000000 in
set_option maxRecDepth 100000 in
theorem c_X9_plan (l : Launch) (G : GT) (σ : Sto) (a1 : Int32) (a2 : Int32) (a3 : Int32) (r : (Int32 × Sto)) (h : f_X9_plan σ a1 a2 a3 = some r) : MW l G (4) (110) 0 0 yX9_plan cX9_plan 5 (Option.some Jvm.ClassFile.FieldType.int) [.ref (gad G 81), .int a1, .int a2, .int a3] (wl G σ) (some (.int r.1)) (wl G r.2) := by
  refine mw_of RX9 (fiI G) [(0, .ref (gad G 81)), (1, .int a1), (2, .int a2), (3, .int a3)] (by decide +kernel) rfl (Nat.le_of_ble_eq_true rfl) rfl h rfl (fun p e s m args below meth c X hr hnm => ?_)
  unfold f_X9_plan
  refine sm_aload_n X 1 0 dX9_plan_0 rfl rfl rfl ?_
  refine sm_iload_n X 2 1 dX9_plan_1 rfl rfl rfl ?_
  refine sm_bind (fun r2 h2 => ?_)
  refine sm_callV0 X 5 [.int a1] [] [.int (b2i r2)] (c_X9_isSwimmer l G σ a1 r2 h2) cw_X9_isSwimmer q_1086 qs_44 q_1084 rfl (by decide) rfl rfl rfl rfl rfl (Nat.le_of_ble_eq_true rfl) ⟨Nat.le_of_ble_eq_true rfl, Nat.le_of_ble_eq_true rfl⟩ ⟨Nat.le_refl _, Nat.le_refl _⟩ dX9_plan_2 rfl ?_
  refine sm_ifz_eq X 8 27 dX9_plan_5 rfl (by decide) (fun h5 => ?_) (fun h5 => ?_)
  · refine sm_iload_n X 9 2 dX9_plan_8 rfl rfl rfl ?_
    refine sm_i2l X 10 dX9_plan_9 rfl ?_
    refine sm_lconst X 11 (0) dX9_plan_10 rfl rfl ?_
    refine sm_ldc2 X 14 (3) dX9_plan_11 rfl q_1060 ?_
    refine sm_bind (fun r14 h14 => ?_)
    refine sm_callS0 X 17 [.long (Int32.toInt64 a2), .long (0 : Int64), .long (3 : Int64)] [] [.int (b2i r14)] (c_X9_in l G σ (Int32.toInt64 a2) (0 : Int64) (3 : Int64) r14 h14) cw_X9_in q_961 q_960 rfl rfl rfl (Nat.le_of_ble_eq_true rfl) ⟨Nat.le_of_ble_eq_true rfl, Nat.le_of_ble_eq_true rfl⟩ ⟨Nat.le_refl _, Nat.le_refl _⟩ dX9_plan_14 rfl ?_
    refine sm_ifz_eq X 20 27 dX9_plan_17 rfl (by decide) (fun h17 => ?_) (fun h17 => ?_)
    · refine sm_iload_n X 21 3 dX9_plan_20 rfl rfl rfl ?_
      refine sm_bind (fun r21 h21 => ?_)
      refine sm_callS0 X 24 [.int a3] [] [.int (b2i r21)] (c_X9_isLane l G σ a3 r21 h21) cw_X9_isLane q_1050 q_1049 rfl rfl rfl (Nat.le_of_ble_eq_true rfl) ⟨Nat.le_of_ble_eq_true rfl, Nat.le_of_ble_eq_true rfl⟩ ⟨Nat.le_refl _, Nat.le_refl _⟩ dX9_plan_21 rfl ?_
      refine sm_ifz_ne X 27 33 dX9_plan_24 rfl (by decide) (fun h24 => ?_) (fun h24 => ?_)
      · refine sm_aload_n X 34 0 dX9_plan_33 rfl rfl rfl ?_
        refine sm_iload_n X 35 1 dX9_plan_34 rfl rfl rfl ?_
        refine sm_iconst X 36 (5) dX9_plan_35 rfl rfl ?_
        refine sm_iload_n X 37 2 dX9_plan_36 rfl rfl rfl ?_
        refine sm_iadd X 38 dX9_plan_37 rfl ?_
        refine sm_bind (fun r38 h38 => ?_)
        refine sm_callV0 X 41 [.int a1, .int ((5 : Int32) + a2)] [] [.int r38] (c_X9_of l G σ a1 ((5 : Int32) + a2) r38 h38) cw_X9_of q_1090 qs_45 q_1088 rfl (by decide) rfl rfl rfl rfl rfl (Nat.le_of_ble_eq_true rfl) ⟨Nat.le_of_ble_eq_true rfl, Nat.le_of_ble_eq_true rfl⟩ ⟨Nat.le_refl _, Nat.le_refl _⟩ dX9_plan_38 rfl ?_
        refine sm_istore X 43 [(4, .int r38), (0, .ref (gad G 81)), (1, .int a1), (2, .int a2), (3, .int a3)] dX9_plan_41 rfl (by decide) rfl ?_
        refine sm_aload_n X 44 1 dX9_plan_43 rfl rfl rfl ?_
        refine sm_iload_n X 45 2 dX9_plan_44 rfl rfl rfl ?_
        refine sm_iconst X 46 (5) dX9_plan_45 rfl rfl ?_
        refine sm_iload_n X 47 3 dX9_plan_46 rfl rfl rfl ?_
        refine sm_iadd X 48 dX9_plan_47 rfl ?_
        refine sm_iload_n X 49 4 dX9_plan_48 rfl rfl rfl ?_
        refine sm_bind (fun r49 h49 => ?_)
        refine sm_callV0 X 52 [.int a1, .int ((5 : Int32) + a2), .int a3] [] [] (c_X9_becomes l G σ a1 ((5 : Int32) + a2) a3 r49 h49) cw_X9_becomes q_1078 qs_43 q_1076 rfl (by decide) rfl rfl rfl rfl rfl (Nat.le_of_ble_eq_true rfl) ⟨Nat.le_of_ble_eq_true rfl, Nat.le_of_ble_eq_true rfl⟩ ⟨Nat.le_refl _, Nat.le_refl _⟩ dX9_plan_49 rfl ?_
        refine sm_iload X 54 0 dX9_plan_52 rfl rfl ?_
        exact sm_iret X hr dX9_plan_54 rfl
      · refine sm_aload_n X 28 0 dX9_plan_27 rfl rfl rfl ?_
        refine sm_iconst X 29 (1) dX9_plan_28 rfl rfl ?_
        refine sm_bind (fun r29 h29 => ?_)
        refine sm_callV0 X 32 [.int 1] [] [.int r29.1] (c_X9_finds l G σ (1 : Int32) r29 h29) cw_X9_finds q_965 qs_26 q_963 rfl (by decide) rfl rfl rfl rfl rfl (Nat.le_of_ble_eq_true rfl) ⟨Nat.le_of_ble_eq_true rfl, Nat.le_of_ble_eq_true rfl⟩ ⟨Nat.le_refl _, Nat.le_refl _⟩ dX9_plan_29 rfl ?_
        exact sm_iret X hr dX9_plan_32 rfl
    · refine sm_aload_n X 28 0 dX9_plan_27 rfl rfl rfl ?_
      refine sm_iconst X 29 (1) dX9_plan_28 rfl rfl ?_
      refine sm_bind (fun r29 h29 => ?_)
      refine sm_callV0 X 32 [.int 1] [] [.int r29.1] (c_X9_finds l G σ (1 : Int32) r29 h29) cw_X9_finds q_965 qs_26 q_963 rfl (by decide) rfl rfl rfl rfl rfl (Nat.le_of_ble_eq_true rfl) ⟨Nat.le_of_ble_eq_true rfl, Nat.le_of_ble_eq_true rfl⟩ ⟨Nat.le_refl _, Nat.le_refl _⟩ dX9_plan_29 rfl ?_
      exact sm_iret X hr dX9_plan_32 rfl
  · refine sm_aload_n X 28 0 dX9_plan_27 rfl rfl rfl ?_
    refine sm_iconst X 29 (1) dX9_plan_28 rfl rfl ?_
    refine sm_bind (fun r29 h29 => ?_)
    refine sm_callV0 X 32 [.int 1] [] [.int r29.1] (c_X9_finds l G σ (1 : Int32) r29 h29) cw_X9_finds q_965 qs_26 q_963 rfl (by decide) rfl rfl rfl rfl rfl (Nat.le_of_ble_eq_true rfl) ⟨Nat.le_of_ble_eq_true rfl, Nat.le_of_ble_eq_true rfl⟩ ⟨Nat.le_refl _, Nat.le_refl _⟩ dX9_plan_29 rfl ?_
    exact sm_iret X hr dX9_plan_32 rfl
def by_X9_become_0 : List Nat := [42, 27, 182, 0, 169, 153, 0, 15, 28, 133, 9, 20, 0, 164, 184, 0]
def by_X9_become_1 : List Nat := [49, 154, 0, 9, 42, 4, 182, 0, 126, 172, 42, 27, 3, 182, 0, 172]
def by_X9_become_2 : List Nat := [62, 42, 27, 3, 28, 16, 10, 108, 182, 0, 166, 42, 27, 4, 28, 16]
def by_X9_become_z : List Nat := [10, 112, 182, 0, 166, 29, 172]
def by_X9_become : List (List Nat) := [by_X9_become_0, by_X9_become_1, by_X9_become_2]
set_option maxRecDepth 100000 in
theorem byo_X9_become : cX9_become.data.toList.map UInt8.toNat = by_X9_become.flatten ++ by_X9_become_z := by decide +kernel
theorem byl_X9_become : by_X9_become.all (fun r => r.length == 16) = true := by decide +kernel
theorem byr_X9_become_0 {j v : Nat} (h : by_X9_become_0[j]? = some v) : RD cX9_become (0 + j) v := rd_16 byo_X9_become byl_X9_become 0 rfl h
theorem byr_X9_become_1 {j v : Nat} (h : by_X9_become_1[j]? = some v) : RD cX9_become (16 + j) v := rd_16 byo_X9_become byl_X9_become 1 rfl h
theorem byr_X9_become_2 {j v : Nat} (h : by_X9_become_2[j]? = some v) : RD cX9_become (32 + j) v := rd_16 byo_X9_become byl_X9_become 2 rfl h
theorem byr_X9_become_3 {j v : Nat} (h : by_X9_become_z[j]? = some v) : RD cX9_become (48 + j) v := rd_z byo_X9_become byl_X9_become 3 rfl h
theorem dX9_become_0 : decode cX9_become 0 = .ok (.aload_n 0, 1) := dk_42 (byr_X9_become_0 (j := 0) rfl)
theorem dX9_become_1 : decode cX9_become 1 = .ok (.iload_n 1, 1) := dk_27 (byr_X9_become_0 (j := 1) rfl)
theorem dX9_become_2 : decode cX9_become 2 = .ok (.invokevirtual 169, 3) := dk_182 (byr_X9_become_0 (j := 2) rfl) (byr_X9_become_0 (j := 3) rfl) (byr_X9_become_0 (j := 4) rfl) (by decide)
theorem dX9_become_5 : decode cX9_become 5 = .ok (.ifCond .eq 15, 3) := dk_153 (byr_X9_become_0 (j := 5) rfl) (byr_X9_become_0 (j := 6) rfl) (byr_X9_become_0 (j := 7) rfl) (by decide)
theorem dX9_become_8 : decode cX9_become 8 = .ok (.iload_n 2, 1) := dk_28 (byr_X9_become_0 (j := 8) rfl)
theorem dX9_become_9 : decode cX9_become 9 = .ok (.i2l, 1) := dk_133 (byr_X9_become_0 (j := 9) rfl)
theorem dX9_become_10 : decode cX9_become 10 = .ok (.lconst 0, 1) := dk_9 (byr_X9_become_0 (j := 10) rfl)
theorem dX9_become_11 : decode cX9_become 11 = .ok (.ldc2_w 164, 3) := dk_20 (byr_X9_become_0 (j := 11) rfl) (byr_X9_become_0 (j := 12) rfl) (byr_X9_become_0 (j := 13) rfl) (by decide)
theorem dX9_become_14 : decode cX9_become 14 = .ok (.invokestatic 49, 3) := dk_184 (byr_X9_become_0 (j := 14) rfl) (byr_X9_become_0 (j := 15) rfl) (byr_X9_become_1 (j := 0) rfl) (by decide)
theorem dX9_become_17 : decode cX9_become 17 = .ok (.ifCond .ne 9, 3) := dk_154 (byr_X9_become_1 (j := 1) rfl) (byr_X9_become_1 (j := 2) rfl) (byr_X9_become_1 (j := 3) rfl) (by decide)
theorem dX9_become_20 : decode cX9_become 20 = .ok (.aload_n 0, 1) := dk_42 (byr_X9_become_1 (j := 4) rfl)
theorem dX9_become_21 : decode cX9_become 21 = .ok (.iconst 1, 1) := dk_4 (byr_X9_become_1 (j := 5) rfl)
theorem dX9_become_22 : decode cX9_become 22 = .ok (.invokevirtual 126, 3) := dk_182 (byr_X9_become_1 (j := 6) rfl) (byr_X9_become_1 (j := 7) rfl) (byr_X9_become_1 (j := 8) rfl) (by decide)
theorem dX9_become_25 : decode cX9_become 25 = .ok (.ireturn, 1) := dk_172 (byr_X9_become_1 (j := 9) rfl)
theorem dX9_become_26 : decode cX9_become 26 = .ok (.aload_n 0, 1) := dk_42 (byr_X9_become_1 (j := 10) rfl)
theorem dX9_become_27 : decode cX9_become 27 = .ok (.iload_n 1, 1) := dk_27 (byr_X9_become_1 (j := 11) rfl)
theorem dX9_become_28 : decode cX9_become 28 = .ok (.iconst 0, 1) := dk_3 (byr_X9_become_1 (j := 12) rfl)
theorem dX9_become_29 : decode cX9_become 29 = .ok (.invokevirtual 172, 3) := dk_182 (byr_X9_become_1 (j := 13) rfl) (byr_X9_become_1 (j := 14) rfl) (byr_X9_become_1 (j := 15) rfl) (by decide)
theorem dX9_become_32 : decode cX9_become 32 = .ok (.istore_n 3, 1) := dk_62 (byr_X9_become_2 (j := 0) rfl)
theorem dX9_become_33 : decode cX9_become 33 = .ok (.aload_n 0, 1) := dk_42 (byr_X9_become_2 (j := 1) rfl)
theorem dX9_become_34 : decode cX9_become 34 = .ok (.iload_n 1, 1) := dk_27 (byr_X9_become_2 (j := 2) rfl)
theorem dX9_become_35 : decode cX9_become 35 = .ok (.iconst 0, 1) := dk_3 (byr_X9_become_2 (j := 3) rfl)
theorem dX9_become_36 : decode cX9_become 36 = .ok (.iload_n 2, 1) := dk_28 (byr_X9_become_2 (j := 4) rfl)
theorem dX9_become_37 : decode cX9_become 37 = .ok (.bipush 10, 2) := dk_16 (byr_X9_become_2 (j := 5) rfl) (byr_X9_become_2 (j := 6) rfl) (by decide)
theorem dX9_become_39 : decode cX9_become 39 = .ok (.idiv, 1) := dk_108 (byr_X9_become_2 (j := 7) rfl)
theorem dX9_become_40 : decode cX9_become 40 = .ok (.invokevirtual 166, 3) := dk_182 (byr_X9_become_2 (j := 8) rfl) (byr_X9_become_2 (j := 9) rfl) (byr_X9_become_2 (j := 10) rfl) (by decide)
theorem dX9_become_43 : decode cX9_become 43 = .ok (.aload_n 0, 1) := dk_42 (byr_X9_become_2 (j := 11) rfl)
theorem dX9_become_44 : decode cX9_become 44 = .ok (.iload_n 1, 1) := dk_27 (byr_X9_become_2 (j := 12) rfl)
theorem dX9_become_45 : decode cX9_become 45 = .ok (.iconst 1, 1) := dk_4 (byr_X9_become_2 (j := 13) rfl)
theorem dX9_become_46 : decode cX9_become 46 = .ok (.iload_n 2, 1) := dk_28 (byr_X9_become_2 (j := 14) rfl)
theorem dX9_become_47 : decode cX9_become 47 = .ok (.bipush 10, 2) := dk_16 (byr_X9_become_2 (j := 15) rfl) (byr_X9_become_3 (j := 0) rfl) (by decide)
theorem dX9_become_49 : decode cX9_become 49 = .ok (.irem, 1) := dk_112 (byr_X9_become_3 (j := 1) rfl)
theorem dX9_become_50 : decode cX9_become 50 = .ok (.invokevirtual 166, 3) := dk_182 (byr_X9_become_3 (j := 2) rfl) (byr_X9_become_3 (j := 3) rfl) (byr_X9_become_3 (j := 4) rfl) (by decide)
theorem dX9_become_53 : decode cX9_become 53 = .ok (.iload_n 3, 1) := dk_29 (byr_X9_become_3 (j := 5) rfl)
theorem dX9_become_54 : decode cX9_become 54 = .ok (.ireturn, 1) := dk_172 (byr_X9_become_3 (j := 6) rfl)
set_option maxHeartbeats 4000000 in
set_option maxRecDepth 100000 in
theorem c_X9_become (l : Launch) (G : GT) (σ : Sto) (a1 : Int32) (a2 : Int32) (r : (Int32 × Sto)) (h : f_X9_become σ a1 a2 = some r) : MW l G (4) (110) 0 0 yX9_become cX9_become 4 (Option.some Jvm.ClassFile.FieldType.int) [.ref (gad G 81), .int a1, .int a2] (wl G σ) (some (.int r.1)) (wl G r.2) := by
  refine mw_of RX9 (fiI G) [(0, .ref (gad G 81)), (1, .int a1), (2, .int a2)] (by decide +kernel) rfl (Nat.le_of_ble_eq_true rfl) rfl h rfl (fun p e s m args below meth c X hr hnm => ?_)
  unfold f_X9_become
  refine sm_aload_n X 1 0 dX9_become_0 rfl rfl rfl ?_
  refine sm_iload_n X 2 1 dX9_become_1 rfl rfl rfl ?_
  refine sm_bind (fun r2 h2 => ?_)
  refine sm_callV0 X 5 [.int a1] [] [.int (b2i r2)] (c_X9_isSwimmer l G σ a1 r2 h2) cw_X9_isSwimmer q_1086 qs_44 q_1084 rfl (by decide) rfl rfl rfl rfl rfl (Nat.le_of_ble_eq_true rfl) ⟨Nat.le_of_ble_eq_true rfl, Nat.le_of_ble_eq_true rfl⟩ ⟨Nat.le_refl _, Nat.le_refl _⟩ dX9_become_2 rfl ?_
  refine sm_ifz_eq X 8 20 dX9_become_5 rfl (by decide) (fun h5 => ?_) (fun h5 => ?_)
  · refine sm_iload_n X 9 2 dX9_become_8 rfl rfl rfl ?_
    refine sm_i2l X 10 dX9_become_9 rfl ?_
    refine sm_lconst X 11 (0) dX9_become_10 rfl rfl ?_
    refine sm_ldc2 X 14 (69) dX9_become_11 rfl q_1075 ?_
    refine sm_bind (fun r14 h14 => ?_)
    refine sm_callS0 X 17 [.long (Int32.toInt64 a2), .long (0 : Int64), .long (69 : Int64)] [] [.int (b2i r14)] (c_X9_in l G σ (Int32.toInt64 a2) (0 : Int64) (69 : Int64) r14 h14) cw_X9_in q_961 q_960 rfl rfl rfl (Nat.le_of_ble_eq_true rfl) ⟨Nat.le_of_ble_eq_true rfl, Nat.le_of_ble_eq_true rfl⟩ ⟨Nat.le_refl _, Nat.le_refl _⟩ dX9_become_14 rfl ?_
    refine sm_ifz_ne X 20 26 dX9_become_17 rfl (by decide) (fun h17 => ?_) (fun h17 => ?_)
    · refine sm_aload_n X 27 0 dX9_become_26 rfl rfl rfl ?_
      refine sm_iload_n X 28 1 dX9_become_27 rfl rfl rfl ?_
      refine sm_iconst X 29 (0) dX9_become_28 rfl rfl ?_
      refine sm_bind (fun r29 h29 => ?_)
      refine sm_callV0 X 32 [.int a1, .int 0] [] [.int r29] (c_X9_of l G σ a1 (0 : Int32) r29 h29) cw_X9_of q_1090 qs_45 q_1088 rfl (by decide) rfl rfl rfl rfl rfl (Nat.le_of_ble_eq_true rfl) ⟨Nat.le_of_ble_eq_true rfl, Nat.le_of_ble_eq_true rfl⟩ ⟨Nat.le_refl _, Nat.le_refl _⟩ dX9_become_29 rfl ?_
      refine sm_istore_n X 33 [(3, .int r29), (0, .ref (gad G 81)), (1, .int a1), (2, .int a2)] dX9_become_32 rfl rfl (by decide) rfl ?_
      refine sm_aload_n X 34 1 dX9_become_33 rfl rfl rfl ?_
      refine sm_iload_n X 35 2 dX9_become_34 rfl rfl rfl ?_
      refine sm_iconst X 36 (0) dX9_become_35 rfl rfl ?_
      refine sm_iload_n X 37 3 dX9_become_36 rfl rfl rfl ?_
      refine sm_bipush X 39 (10) dX9_become_37 rfl rfl ?_
      refine sm_idiv X 40 dX9_become_39 rfl (by first | decide | assumption) ?_
      refine sm_bind (fun r40 h40 => ?_)
      refine sm_callV0 X 43 [.int a1, .int 0, .int (a2 / (10 : Int32))] [] [] (c_X9_becomes l G σ a1 (0 : Int32) (a2 / (10 : Int32)) r40 h40) cw_X9_becomes q_1078 qs_43 q_1076 rfl (by decide) rfl rfl rfl rfl rfl (Nat.le_of_ble_eq_true rfl) ⟨Nat.le_of_ble_eq_true rfl, Nat.le_of_ble_eq_true rfl⟩ ⟨Nat.le_refl _, Nat.le_refl _⟩ dX9_become_40 rfl ?_
      refine sm_aload_n X 44 1 dX9_become_43 rfl rfl rfl ?_
      refine sm_iload_n X 45 2 dX9_become_44 rfl rfl rfl ?_
      refine sm_iconst X 46 (1) dX9_become_45 rfl rfl ?_
      refine sm_iload_n X 47 3 dX9_become_46 rfl rfl rfl ?_
      refine sm_bipush X 49 (10) dX9_become_47 rfl rfl ?_
      refine sm_irem X 50 dX9_become_49 rfl (by first | decide | assumption) ?_
      refine sm_bind (fun r50 h50 => ?_)
      refine sm_callV0 X 53 [.int a1, .int 1, .int (irem a2 (10 : Int32))] [] [] (c_X9_becomes l G r40 a1 (1 : Int32) (irem a2 (10 : Int32)) r50 h50) cw_X9_becomes q_1078 qs_43 q_1076 rfl (by decide) rfl rfl rfl rfl rfl (Nat.le_of_ble_eq_true rfl) ⟨Nat.le_of_ble_eq_true rfl, Nat.le_of_ble_eq_true rfl⟩ ⟨Nat.le_refl _, Nat.le_refl _⟩ dX9_become_50 rfl ?_
      refine sm_iload_n X 54 0 dX9_become_53 rfl rfl rfl ?_
      exact sm_iret X hr dX9_become_54 rfl
    · refine sm_aload_n X 21 0 dX9_become_20 rfl rfl rfl ?_
      refine sm_iconst X 22 (1) dX9_become_21 rfl rfl ?_
      refine sm_bind (fun r22 h22 => ?_)
      refine sm_callV0 X 25 [.int 1] [] [.int r22.1] (c_X9_finds l G σ (1 : Int32) r22 h22) cw_X9_finds q_965 qs_26 q_963 rfl (by decide) rfl rfl rfl rfl rfl (Nat.le_of_ble_eq_true rfl) ⟨Nat.le_of_ble_eq_true rfl, Nat.le_of_ble_eq_true rfl⟩ ⟨Nat.le_refl _, Nat.le_refl _⟩ dX9_become_22 rfl ?_
      exact sm_iret X hr dX9_become_25 rfl
  · refine sm_aload_n X 21 0 dX9_become_20 rfl rfl rfl ?_
    refine sm_iconst X 22 (1) dX9_become_21 rfl rfl ?_
    refine sm_bind (fun r22 h22 => ?_)
    refine sm_callV0 X 25 [.int 1] [] [.int r22.1] (c_X9_finds l G σ (1 : Int32) r22 h22) cw_X9_finds q_965 qs_26 q_963 rfl (by decide) rfl rfl rfl rfl rfl (Nat.le_of_ble_eq_true rfl) ⟨Nat.le_of_ble_eq_true rfl, Nat.le_of_ble_eq_true rfl⟩ ⟨Nat.le_refl _, Nat.le_refl _⟩ dX9_become_22 rfl ?_
    exact sm_iret X hr dX9_become_25 rfl
def by_X9_above_z : List Nat := [26, 7, 162, 0, 7, 3, 167, 0, 6, 26, 6, 100, 172]
def by_X9_above : List (List Nat) := []
set_option maxRecDepth 100000 in
theorem byo_X9_above : cX9_above.data.toList.map UInt8.toNat = by_X9_above.flatten ++ by_X9_above_z := by decide +kernel
theorem byl_X9_above : by_X9_above.all (fun r => r.length == 16) = true := by decide +kernel
theorem byr_X9_above_0 {j v : Nat} (h : by_X9_above_z[j]? = some v) : RD cX9_above (0 + j) v := rd_z byo_X9_above byl_X9_above 0 rfl h
theorem dX9_above_0 : decode cX9_above 0 = .ok (.iload_n 0, 1) := dk_26 (byr_X9_above_0 (j := 0) rfl)
theorem dX9_above_1 : decode cX9_above 1 = .ok (.iconst 4, 1) := dk_7 (byr_X9_above_0 (j := 1) rfl)
theorem dX9_above_2 : decode cX9_above 2 = .ok (.if_icmp .ge 7, 3) := dk_162 (byr_X9_above_0 (j := 2) rfl) (byr_X9_above_0 (j := 3) rfl) (byr_X9_above_0 (j := 4) rfl) (by decide)
theorem dX9_above_5 : decode cX9_above 5 = .ok (.iconst 0, 1) := dk_3 (byr_X9_above_0 (j := 5) rfl)
theorem dX9_above_6 : decode cX9_above 6 = .ok (.goto 6, 3) := dk_167 (byr_X9_above_0 (j := 6) rfl) (byr_X9_above_0 (j := 7) rfl) (byr_X9_above_0 (j := 8) rfl) (by decide)
theorem dX9_above_9 : decode cX9_above 9 = .ok (.iload_n 0, 1) := dk_26 (byr_X9_above_0 (j := 9) rfl)
theorem dX9_above_10 : decode cX9_above 10 = .ok (.iconst 3, 1) := dk_6 (byr_X9_above_0 (j := 10) rfl)
theorem dX9_above_11 : decode cX9_above 11 = .ok (.isub, 1) := dk_100 (byr_X9_above_0 (j := 11) rfl)
theorem dX9_above_12 : decode cX9_above 12 = .ok (.ireturn, 1) := dk_172 (byr_X9_above_0 (j := 12) rfl)
set_option maxHeartbeats 4000000 in
set_option maxRecDepth 100000 in
theorem c_X9_above (l : Launch) (G : GT) (σ : Sto) (a0 : Int32) (r : Int32) (h : f_X9_above a0 = some r) : MW l G (2) (64) 0 0 yX9_above cX9_above 1 (Option.some Jvm.ClassFile.FieldType.int) [.int a0] (wl G σ) (some (.int r)) (wl G σ) := by
  refine mw_of RX9 (fpI G σ) [(0, .int a0)] (by decide +kernel) rfl (Nat.le_of_ble_eq_true rfl) rfl h rfl (fun p e s m args below meth c X hr hnm => ?_)
  unfold f_X9_above
  refine sm_iload_n X 1 0 dX9_above_0 rfl rfl rfl ?_
  refine sm_iconst X 2 (4) dX9_above_1 rfl rfl ?_
  refine sm_icmp_ge X 5 9 dX9_above_2 rfl (by decide) (fun h2 => ?_) (fun h2 => ?_)
  · refine sm_iload_n X 10 0 dX9_above_9 rfl rfl rfl ?_
    refine sm_iconst X 11 (3) dX9_above_10 rfl rfl ?_
    refine sm_isub X 12 dX9_above_11 rfl ?_
    exact sm_iret X hr dX9_above_12 rfl
  · refine sm_iconst X 6 (0) dX9_above_5 rfl rfl ?_
    refine sm_goto X 12 dX9_above_6 (by decide) ?_
    exact sm_iret X hr dX9_above_12 rfl
def by_X9_as_0 : List Nat := [42, 27, 182, 0, 169, 153, 0, 15, 28, 133, 9, 20, 0, 177, 184, 0]
def by_X9_as_1 : List Nat := [49, 154, 0, 9, 42, 4, 182, 0, 126, 172, 42, 27, 3, 182, 0, 172]
def by_X9_as_2 : List Nat := [62, 28, 153, 0, 16, 28, 29, 159, 0, 11, 28, 29, 184, 0, 179, 160]
def by_X9_as_3 : List Nat := [0, 12, 42, 27, 4, 182, 0, 172, 167, 0, 8, 42, 8, 182, 0, 126]
def by_X9_as_z : List Nat := [172]
def by_X9_as : List (List Nat) := [by_X9_as_0, by_X9_as_1, by_X9_as_2, by_X9_as_3]
set_option maxRecDepth 100000 in
theorem byo_X9_as : cX9_as.data.toList.map UInt8.toNat = by_X9_as.flatten ++ by_X9_as_z := by decide +kernel
theorem byl_X9_as : by_X9_as.all (fun r => r.length == 16) = true := by decide +kernel
theorem byr_X9_as_0 {j v : Nat} (h : by_X9_as_0[j]? = some v) : RD cX9_as (0 + j) v := rd_16 byo_X9_as byl_X9_as 0 rfl h
theorem byr_X9_as_1 {j v : Nat} (h : by_X9_as_1[j]? = some v) : RD cX9_as (16 + j) v := rd_16 byo_X9_as byl_X9_as 1 rfl h
theorem byr_X9_as_2 {j v : Nat} (h : by_X9_as_2[j]? = some v) : RD cX9_as (32 + j) v := rd_16 byo_X9_as byl_X9_as 2 rfl h
theorem byr_X9_as_3 {j v : Nat} (h : by_X9_as_3[j]? = some v) : RD cX9_as (48 + j) v := rd_16 byo_X9_as byl_X9_as 3 rfl h
theorem byr_X9_as_4 {j v : Nat} (h : by_X9_as_z[j]? = some v) : RD cX9_as (64 + j) v := rd_z byo_X9_as byl_X9_as 4 rfl h
theorem dX9_as_0 : decode cX9_as 0 = .ok (.aload_n 0, 1) := dk_42 (byr_X9_as_0 (j := 0) rfl)
theorem dX9_as_1 : decode cX9_as 1 = .ok (.iload_n 1, 1) := dk_27 (byr_X9_as_0 (j := 1) rfl)
theorem dX9_as_2 : decode cX9_as 2 = .ok (.invokevirtual 169, 3) := dk_182 (byr_X9_as_0 (j := 2) rfl) (byr_X9_as_0 (j := 3) rfl) (byr_X9_as_0 (j := 4) rfl) (by decide)
theorem dX9_as_5 : decode cX9_as 5 = .ok (.ifCond .eq 15, 3) := dk_153 (byr_X9_as_0 (j := 5) rfl) (byr_X9_as_0 (j := 6) rfl) (byr_X9_as_0 (j := 7) rfl) (by decide)
theorem dX9_as_8 : decode cX9_as 8 = .ok (.iload_n 2, 1) := dk_28 (byr_X9_as_0 (j := 8) rfl)
theorem dX9_as_9 : decode cX9_as 9 = .ok (.i2l, 1) := dk_133 (byr_X9_as_0 (j := 9) rfl)
theorem dX9_as_10 : decode cX9_as 10 = .ok (.lconst 0, 1) := dk_9 (byr_X9_as_0 (j := 10) rfl)
theorem dX9_as_11 : decode cX9_as 11 = .ok (.ldc2_w 177, 3) := dk_20 (byr_X9_as_0 (j := 11) rfl) (byr_X9_as_0 (j := 12) rfl) (byr_X9_as_0 (j := 13) rfl) (by decide)
theorem dX9_as_14 : decode cX9_as 14 = .ok (.invokestatic 49, 3) := dk_184 (byr_X9_as_0 (j := 14) rfl) (byr_X9_as_0 (j := 15) rfl) (byr_X9_as_1 (j := 0) rfl) (by decide)
theorem dX9_as_17 : decode cX9_as 17 = .ok (.ifCond .ne 9, 3) := dk_154 (byr_X9_as_1 (j := 1) rfl) (byr_X9_as_1 (j := 2) rfl) (byr_X9_as_1 (j := 3) rfl) (by decide)
theorem dX9_as_20 : decode cX9_as 20 = .ok (.aload_n 0, 1) := dk_42 (byr_X9_as_1 (j := 4) rfl)
theorem dX9_as_21 : decode cX9_as 21 = .ok (.iconst 1, 1) := dk_4 (byr_X9_as_1 (j := 5) rfl)
theorem dX9_as_22 : decode cX9_as 22 = .ok (.invokevirtual 126, 3) := dk_182 (byr_X9_as_1 (j := 6) rfl) (byr_X9_as_1 (j := 7) rfl) (byr_X9_as_1 (j := 8) rfl) (by decide)
theorem dX9_as_25 : decode cX9_as 25 = .ok (.ireturn, 1) := dk_172 (byr_X9_as_1 (j := 9) rfl)
theorem dX9_as_26 : decode cX9_as 26 = .ok (.aload_n 0, 1) := dk_42 (byr_X9_as_1 (j := 10) rfl)
theorem dX9_as_27 : decode cX9_as 27 = .ok (.iload_n 1, 1) := dk_27 (byr_X9_as_1 (j := 11) rfl)
theorem dX9_as_28 : decode cX9_as 28 = .ok (.iconst 0, 1) := dk_3 (byr_X9_as_1 (j := 12) rfl)
theorem dX9_as_29 : decode cX9_as 29 = .ok (.invokevirtual 172, 3) := dk_182 (byr_X9_as_1 (j := 13) rfl) (byr_X9_as_1 (j := 14) rfl) (byr_X9_as_1 (j := 15) rfl) (by decide)
theorem dX9_as_32 : decode cX9_as 32 = .ok (.istore_n 3, 1) := dk_62 (byr_X9_as_2 (j := 0) rfl)
theorem dX9_as_33 : decode cX9_as 33 = .ok (.iload_n 2, 1) := dk_28 (byr_X9_as_2 (j := 1) rfl)
theorem dX9_as_34 : decode cX9_as 34 = .ok (.ifCond .eq 16, 3) := dk_153 (byr_X9_as_2 (j := 2) rfl) (byr_X9_as_2 (j := 3) rfl) (byr_X9_as_2 (j := 4) rfl) (by decide)
theorem dX9_as_37 : decode cX9_as 37 = .ok (.iload_n 2, 1) := dk_28 (byr_X9_as_2 (j := 5) rfl)
theorem dX9_as_38 : decode cX9_as 38 = .ok (.iload_n 3, 1) := dk_29 (byr_X9_as_2 (j := 6) rfl)
theorem dX9_as_39 : decode cX9_as 39 = .ok (.if_icmp .eq 11, 3) := dk_159 (byr_X9_as_2 (j := 7) rfl) (byr_X9_as_2 (j := 8) rfl) (byr_X9_as_2 (j := 9) rfl) (by decide)
theorem dX9_as_42 : decode cX9_as 42 = .ok (.iload_n 2, 1) := dk_28 (byr_X9_as_2 (j := 10) rfl)
theorem dX9_as_43 : decode cX9_as 43 = .ok (.iload_n 3, 1) := dk_29 (byr_X9_as_2 (j := 11) rfl)
theorem dX9_as_44 : decode cX9_as 44 = .ok (.invokestatic 179, 3) := dk_184 (byr_X9_as_2 (j := 12) rfl) (byr_X9_as_2 (j := 13) rfl) (byr_X9_as_2 (j := 14) rfl) (by decide)
theorem dX9_as_47 : decode cX9_as 47 = .ok (.if_icmp .ne 12, 3) := dk_160 (byr_X9_as_2 (j := 15) rfl) (byr_X9_as_3 (j := 0) rfl) (byr_X9_as_3 (j := 1) rfl) (by decide)
theorem dX9_as_50 : decode cX9_as 50 = .ok (.aload_n 0, 1) := dk_42 (byr_X9_as_3 (j := 2) rfl)
theorem dX9_as_51 : decode cX9_as 51 = .ok (.iload_n 1, 1) := dk_27 (byr_X9_as_3 (j := 3) rfl)
theorem dX9_as_52 : decode cX9_as 52 = .ok (.iconst 1, 1) := dk_4 (byr_X9_as_3 (j := 4) rfl)
theorem dX9_as_53 : decode cX9_as 53 = .ok (.invokevirtual 172, 3) := dk_182 (byr_X9_as_3 (j := 5) rfl) (byr_X9_as_3 (j := 6) rfl) (byr_X9_as_3 (j := 7) rfl) (by decide)
theorem dX9_as_56 : decode cX9_as 56 = .ok (.goto 8, 3) := dk_167 (byr_X9_as_3 (j := 8) rfl) (byr_X9_as_3 (j := 9) rfl) (byr_X9_as_3 (j := 10) rfl) (by decide)
theorem dX9_as_59 : decode cX9_as 59 = .ok (.aload_n 0, 1) := dk_42 (byr_X9_as_3 (j := 11) rfl)
theorem dX9_as_60 : decode cX9_as 60 = .ok (.iconst 5, 1) := dk_8 (byr_X9_as_3 (j := 12) rfl)
theorem dX9_as_61 : decode cX9_as 61 = .ok (.invokevirtual 126, 3) := dk_182 (byr_X9_as_3 (j := 13) rfl) (byr_X9_as_3 (j := 14) rfl) (byr_X9_as_3 (j := 15) rfl) (by decide)
theorem dX9_as_64 : decode cX9_as 64 = .ok (.ireturn, 1) := dk_172 (byr_X9_as_4 (j := 0) rfl)
set_option maxHeartbeats 4000000 in
set_option maxRecDepth 100000 in
theorem c_X9_as (l : Launch) (G : GT) (σ : Sto) (a1 : Int32) (a2 : Int32) (r : (Int32 × Sto)) (h : f_X9_as σ a1 a2 = some r) : MW l G (4) (110) 0 0 yX9_as cX9_as 4 (Option.some Jvm.ClassFile.FieldType.int) [.ref (gad G 81), .int a1, .int a2] (wl G σ) (some (.int r.1)) (wl G r.2) := by
  refine mw_of RX9 (fiI G) [(0, .ref (gad G 81)), (1, .int a1), (2, .int a2)] (by decide +kernel) rfl (Nat.le_of_ble_eq_true rfl) rfl h rfl (fun p e s m args below meth c X hr hnm => ?_)
  have J50 : ∀ (v1 : Int32)  (σ : Sto), Sm p l e { frames := 4, cells := 0, slots := 0, locals := 110 } s m args below meth c G 4 (Qm below args s G 0 0 (fiI G)) 0 0 (wl G σ) 50 [(0, .ref (gad G 81)), (1, .int v1)] [] (f_X9_as_L50  v1 σ) := by
    intro v1 σ
    rw [f_X9_as_L50]
    refine sm_aload_n X 51 0 dX9_as_50 rfl rfl rfl ?_
    refine sm_iload_n X 52 1 dX9_as_51 rfl rfl rfl ?_
    refine sm_iconst X 53 (1) dX9_as_52 rfl rfl ?_
    refine sm_bind (fun r53 h53 => ?_)
    refine sm_callV0 X 56 [.int v1, .int 1] [] [.int r53] (c_X9_of l G σ v1 (1 : Int32) r53 h53) cw_X9_of q_1090 qs_45 q_1088 rfl (by decide) rfl rfl rfl rfl rfl (Nat.le_of_ble_eq_true rfl) ⟨Nat.le_of_ble_eq_true rfl, Nat.le_of_ble_eq_true rfl⟩ ⟨Nat.le_refl _, Nat.le_refl _⟩ dX9_as_53 rfl ?_
    refine sm_goto X 64 dX9_as_56 (by decide) ?_
    exact sm_iret X hr dX9_as_64 rfl
  unfold f_X9_as
  refine sm_aload_n X 1 0 dX9_as_0 rfl rfl rfl ?_
  refine sm_iload_n X 2 1 dX9_as_1 rfl rfl rfl ?_
  refine sm_bind (fun r2 h2 => ?_)
  refine sm_callV0 X 5 [.int a1] [] [.int (b2i r2)] (c_X9_isSwimmer l G σ a1 r2 h2) cw_X9_isSwimmer q_1086 qs_44 q_1084 rfl (by decide) rfl rfl rfl rfl rfl (Nat.le_of_ble_eq_true rfl) ⟨Nat.le_of_ble_eq_true rfl, Nat.le_of_ble_eq_true rfl⟩ ⟨Nat.le_refl _, Nat.le_refl _⟩ dX9_as_2 rfl ?_
  refine sm_ifz_eq X 8 20 dX9_as_5 rfl (by decide) (fun h5 => ?_) (fun h5 => ?_)
  · refine sm_iload_n X 9 2 dX9_as_8 rfl rfl rfl ?_
    refine sm_i2l X 10 dX9_as_9 rfl ?_
    refine sm_lconst X 11 (0) dX9_as_10 rfl rfl ?_
    refine sm_ldc2 X 14 (6) dX9_as_11 rfl q_1109 ?_
    refine sm_bind (fun r14 h14 => ?_)
    refine sm_callS0 X 17 [.long (Int32.toInt64 a2), .long (0 : Int64), .long (6 : Int64)] [] [.int (b2i r14)] (c_X9_in l G σ (Int32.toInt64 a2) (0 : Int64) (6 : Int64) r14 h14) cw_X9_in q_961 q_960 rfl rfl rfl (Nat.le_of_ble_eq_true rfl) ⟨Nat.le_of_ble_eq_true rfl, Nat.le_of_ble_eq_true rfl⟩ ⟨Nat.le_refl _, Nat.le_refl _⟩ dX9_as_14 rfl ?_
    refine sm_ifz_ne X 20 26 dX9_as_17 rfl (by decide) (fun h17 => ?_) (fun h17 => ?_)
    · refine sm_aload_n X 27 0 dX9_as_26 rfl rfl rfl ?_
      refine sm_iload_n X 28 1 dX9_as_27 rfl rfl rfl ?_
      refine sm_iconst X 29 (0) dX9_as_28 rfl rfl ?_
      refine sm_bind (fun r29 h29 => ?_)
      refine sm_callV0 X 32 [.int a1, .int 0] [] [.int r29] (c_X9_of l G σ a1 (0 : Int32) r29 h29) cw_X9_of q_1090 qs_45 q_1088 rfl (by decide) rfl rfl rfl rfl rfl (Nat.le_of_ble_eq_true rfl) ⟨Nat.le_of_ble_eq_true rfl, Nat.le_of_ble_eq_true rfl⟩ ⟨Nat.le_refl _, Nat.le_refl _⟩ dX9_as_29 rfl ?_
      refine sm_istore_n X 33 [(3, .int r29), (0, .ref (gad G 81)), (1, .int a1), (2, .int a2)] dX9_as_32 rfl rfl (by decide) rfl ?_
      refine sm_iload_n X 34 3 dX9_as_33 rfl rfl rfl ?_
      refine sm_if_eq X 37 50 dX9_as_34 rfl (by decide) (fun h34 => ?_) (fun h34 => ?_)
      · exact sm_sub [1, 2] rfl (J50 a1  σ)
      · refine sm_iload_n X 38 3 dX9_as_37 rfl rfl rfl ?_
        refine sm_iload_n X 39 0 dX9_as_38 rfl rfl rfl ?_
        refine sm_icmp_eq X 42 50 dX9_as_39 rfl (by decide) (fun h39 => ?_) (fun h39 => ?_)
        · exact sm_sub [1, 2] rfl (J50 a1  σ)
        · refine sm_iload_n X 43 3 dX9_as_42 rfl rfl rfl ?_
          refine sm_iload_n X 44 0 dX9_as_43 rfl rfl rfl ?_
          refine sm_bind (fun r44 h44 => ?_)
          refine sm_callS0 X 47 [.int r29] [.int a2] [.int r44, .int a2] (c_X9_above l G σ r29 r44 h44) cw_X9_above q_1111 q_1110 rfl rfl rfl (Nat.le_of_ble_eq_true rfl) ⟨Nat.le_of_ble_eq_true rfl, Nat.le_of_ble_eq_true rfl⟩ ⟨Nat.le_refl _, Nat.le_refl _⟩ dX9_as_44 rfl ?_
          refine sm_icmp_ne X 50 59 dX9_as_47 rfl (by decide) (fun h47 => ?_) (fun h47 => ?_)
          · exact sm_sub [1, 2] rfl (J50 a1  σ)
          · refine sm_aload_n X 60 1 dX9_as_59 rfl rfl rfl ?_
            refine sm_iconst X 61 (5) dX9_as_60 rfl rfl ?_
            refine sm_bind (fun r61 h61 => ?_)
            refine sm_callV0 X 64 [.int 5] [] [.int r61.1] (c_X9_finds l G σ (5 : Int32) r61 h61) cw_X9_finds q_965 qs_26 q_963 rfl (by decide) rfl rfl rfl rfl rfl (Nat.le_of_ble_eq_true rfl) ⟨Nat.le_of_ble_eq_true rfl, Nat.le_of_ble_eq_true rfl⟩ ⟨Nat.le_refl _, Nat.le_refl _⟩ dX9_as_61 rfl ?_
            exact sm_iret X hr dX9_as_64 rfl
    · refine sm_aload_n X 21 0 dX9_as_20 rfl rfl rfl ?_
      refine sm_iconst X 22 (1) dX9_as_21 rfl rfl ?_
      refine sm_bind (fun r22 h22 => ?_)
      refine sm_callV0 X 25 [.int 1] [] [.int r22.1] (c_X9_finds l G σ (1 : Int32) r22 h22) cw_X9_finds q_965 qs_26 q_963 rfl (by decide) rfl rfl rfl rfl rfl (Nat.le_of_ble_eq_true rfl) ⟨Nat.le_of_ble_eq_true rfl, Nat.le_of_ble_eq_true rfl⟩ ⟨Nat.le_refl _, Nat.le_refl _⟩ dX9_as_22 rfl ?_
      exact sm_iret X hr dX9_as_25 rfl
  · refine sm_aload_n X 21 0 dX9_as_20 rfl rfl rfl ?_
    refine sm_iconst X 22 (1) dX9_as_21 rfl rfl ?_
    refine sm_bind (fun r22 h22 => ?_)
    refine sm_callV0 X 25 [.int 1] [] [.int r22.1] (c_X9_finds l G σ (1 : Int32) r22 h22) cw_X9_finds q_965 qs_26 q_963 rfl (by decide) rfl rfl rfl rfl rfl (Nat.le_of_ble_eq_true rfl) ⟨Nat.le_of_ble_eq_true rfl, Nat.le_of_ble_eq_true rfl⟩ ⟨Nat.le_refl _, Nat.le_refl _⟩ dX9_as_22 rfl ?_
    exact sm_iret X hr dX9_as_25 rfl
def by_X9_paceOf_0 : List Nat := [42, 27, 4, 182, 0, 172, 62, 8, 16, 20, 42, 27, 6, 182, 0, 172]
def by_X9_paceOf_1 : List Nat := [96, 28, 7, 108, 100, 184, 0, 182, 54, 4, 28, 29, 162, 0, 11, 21]
def by_X9_paceOf_2 : List Nat := [4, 16, 20, 96, 167, 0, 7, 21, 4, 5, 108, 54, 5, 42, 27, 3]
def by_X9_paceOf_3 : List Nat := [182, 0, 172, 170, 0, 0, 0, 85, 0, 0, 0, 1, 0, 0, 0, 6]
def by_X9_paceOf_4 : List Nat := [0, 0, 0, 37, 0, 0, 0, 40, 0, 0, 0, 45, 0, 0, 0, 47]
def by_X9_paceOf_5 : List Nat := [0, 0, 0, 59, 0, 0, 0, 71, 21, 5, 172, 21, 4, 29, 96, 172]
def by_X9_paceOf_6 : List Nat := [8, 172, 28, 6, 163, 0, 7, 3, 167, 0, 5, 21, 5, 172, 16, 20]
def by_X9_paceOf_7 : List Nat := [42, 27, 6, 182, 0, 172, 96, 29, 96, 172, 28, 16, 10, 112, 29, 160]
def by_X9_paceOf_z : List Nat := [0, 7, 3, 167, 0, 4, 8, 172, 21, 4, 172]
def by_X9_paceOf : List (List Nat) := [by_X9_paceOf_0, by_X9_paceOf_1, by_X9_paceOf_2, by_X9_paceOf_3, by_X9_paceOf_4, by_X9_paceOf_5, by_X9_paceOf_6, by_X9_paceOf_7]
set_option maxRecDepth 100000 in
theorem byo_X9_paceOf : cX9_paceOf.data.toList.map UInt8.toNat = by_X9_paceOf.flatten ++ by_X9_paceOf_z := by decide +kernel
theorem byl_X9_paceOf : by_X9_paceOf.all (fun r => r.length == 16) = true := by decide +kernel
theorem byr_X9_paceOf_0 {j v : Nat} (h : by_X9_paceOf_0[j]? = some v) : RD cX9_paceOf (0 + j) v := rd_16 byo_X9_paceOf byl_X9_paceOf 0 rfl h
theorem byr_X9_paceOf_1 {j v : Nat} (h : by_X9_paceOf_1[j]? = some v) : RD cX9_paceOf (16 + j) v := rd_16 byo_X9_paceOf byl_X9_paceOf 1 rfl h
theorem byr_X9_paceOf_2 {j v : Nat} (h : by_X9_paceOf_2[j]? = some v) : RD cX9_paceOf (32 + j) v := rd_16 byo_X9_paceOf byl_X9_paceOf 2 rfl h
theorem byr_X9_paceOf_3 {j v : Nat} (h : by_X9_paceOf_3[j]? = some v) : RD cX9_paceOf (48 + j) v := rd_16 byo_X9_paceOf byl_X9_paceOf 3 rfl h
theorem byr_X9_paceOf_4 {j v : Nat} (h : by_X9_paceOf_4[j]? = some v) : RD cX9_paceOf (64 + j) v := rd_16 byo_X9_paceOf byl_X9_paceOf 4 rfl h
theorem byr_X9_paceOf_5 {j v : Nat} (h : by_X9_paceOf_5[j]? = some v) : RD cX9_paceOf (80 + j) v := rd_16 byo_X9_paceOf byl_X9_paceOf 5 rfl h
theorem byr_X9_paceOf_6 {j v : Nat} (h : by_X9_paceOf_6[j]? = some v) : RD cX9_paceOf (96 + j) v := rd_16 byo_X9_paceOf byl_X9_paceOf 6 rfl h
theorem byr_X9_paceOf_7 {j v : Nat} (h : by_X9_paceOf_7[j]? = some v) : RD cX9_paceOf (112 + j) v := rd_16 byo_X9_paceOf byl_X9_paceOf 7 rfl h
theorem byr_X9_paceOf_8 {j v : Nat} (h : by_X9_paceOf_z[j]? = some v) : RD cX9_paceOf (128 + j) v := rd_z byo_X9_paceOf byl_X9_paceOf 8 rfl h
theorem dX9_paceOf_0 : decode cX9_paceOf 0 = .ok (.aload_n 0, 1) := dk_42 (byr_X9_paceOf_0 (j := 0) rfl)
theorem dX9_paceOf_1 : decode cX9_paceOf 1 = .ok (.iload_n 1, 1) := dk_27 (byr_X9_paceOf_0 (j := 1) rfl)
theorem dX9_paceOf_2 : decode cX9_paceOf 2 = .ok (.iconst 1, 1) := dk_4 (byr_X9_paceOf_0 (j := 2) rfl)
theorem dX9_paceOf_3 : decode cX9_paceOf 3 = .ok (.invokevirtual 172, 3) := dk_182 (byr_X9_paceOf_0 (j := 3) rfl) (byr_X9_paceOf_0 (j := 4) rfl) (byr_X9_paceOf_0 (j := 5) rfl) (by decide)
theorem dX9_paceOf_6 : decode cX9_paceOf 6 = .ok (.istore_n 3, 1) := dk_62 (byr_X9_paceOf_0 (j := 6) rfl)
theorem dX9_paceOf_7 : decode cX9_paceOf 7 = .ok (.iconst 5, 1) := dk_8 (byr_X9_paceOf_0 (j := 7) rfl)
theorem dX9_paceOf_8 : decode cX9_paceOf 8 = .ok (.bipush 20, 2) := dk_16 (byr_X9_paceOf_0 (j := 8) rfl) (byr_X9_paceOf_0 (j := 9) rfl) (by decide)
theorem dX9_paceOf_10 : decode cX9_paceOf 10 = .ok (.aload_n 0, 1) := dk_42 (byr_X9_paceOf_0 (j := 10) rfl)
theorem dX9_paceOf_11 : decode cX9_paceOf 11 = .ok (.iload_n 1, 1) := dk_27 (byr_X9_paceOf_0 (j := 11) rfl)
theorem dX9_paceOf_12 : decode cX9_paceOf 12 = .ok (.iconst 3, 1) := dk_6 (byr_X9_paceOf_0 (j := 12) rfl)
theorem dX9_paceOf_13 : decode cX9_paceOf 13 = .ok (.invokevirtual 172, 3) := dk_182 (byr_X9_paceOf_0 (j := 13) rfl) (byr_X9_paceOf_0 (j := 14) rfl) (byr_X9_paceOf_0 (j := 15) rfl) (by decide)
theorem dX9_paceOf_16 : decode cX9_paceOf 16 = .ok (.iadd, 1) := dk_96 (byr_X9_paceOf_1 (j := 0) rfl)
theorem dX9_paceOf_17 : decode cX9_paceOf 17 = .ok (.iload_n 2, 1) := dk_28 (byr_X9_paceOf_1 (j := 1) rfl)
theorem dX9_paceOf_18 : decode cX9_paceOf 18 = .ok (.iconst 4, 1) := dk_7 (byr_X9_paceOf_1 (j := 2) rfl)
theorem dX9_paceOf_19 : decode cX9_paceOf 19 = .ok (.idiv, 1) := dk_108 (byr_X9_paceOf_1 (j := 3) rfl)
theorem dX9_paceOf_20 : decode cX9_paceOf 20 = .ok (.isub, 1) := dk_100 (byr_X9_paceOf_1 (j := 4) rfl)
theorem dX9_paceOf_21 : decode cX9_paceOf 21 = .ok (.invokestatic 182, 3) := dk_184 (byr_X9_paceOf_1 (j := 5) rfl) (byr_X9_paceOf_1 (j := 6) rfl) (byr_X9_paceOf_1 (j := 7) rfl) (by decide)
theorem dX9_paceOf_24 : decode cX9_paceOf 24 = .ok (.istore 4, 2) := dk_54 (byr_X9_paceOf_1 (j := 8) rfl) (byr_X9_paceOf_1 (j := 9) rfl)
theorem dX9_paceOf_26 : decode cX9_paceOf 26 = .ok (.iload_n 2, 1) := dk_28 (byr_X9_paceOf_1 (j := 10) rfl)
theorem dX9_paceOf_27 : decode cX9_paceOf 27 = .ok (.iload_n 3, 1) := dk_29 (byr_X9_paceOf_1 (j := 11) rfl)
theorem dX9_paceOf_28 : decode cX9_paceOf 28 = .ok (.if_icmp .ge 11, 3) := dk_162 (byr_X9_paceOf_1 (j := 12) rfl) (byr_X9_paceOf_1 (j := 13) rfl) (byr_X9_paceOf_1 (j := 14) rfl) (by decide)
theorem dX9_paceOf_31 : decode cX9_paceOf 31 = .ok (.iload 4, 2) := dk_21 (byr_X9_paceOf_1 (j := 15) rfl) (byr_X9_paceOf_2 (j := 0) rfl)
theorem dX9_paceOf_33 : decode cX9_paceOf 33 = .ok (.bipush 20, 2) := dk_16 (byr_X9_paceOf_2 (j := 1) rfl) (byr_X9_paceOf_2 (j := 2) rfl) (by decide)
theorem dX9_paceOf_35 : decode cX9_paceOf 35 = .ok (.iadd, 1) := dk_96 (byr_X9_paceOf_2 (j := 3) rfl)
theorem dX9_paceOf_36 : decode cX9_paceOf 36 = .ok (.goto 7, 3) := dk_167 (byr_X9_paceOf_2 (j := 4) rfl) (byr_X9_paceOf_2 (j := 5) rfl) (byr_X9_paceOf_2 (j := 6) rfl) (by decide)
theorem dX9_paceOf_39 : decode cX9_paceOf 39 = .ok (.iload 4, 2) := dk_21 (byr_X9_paceOf_2 (j := 7) rfl) (byr_X9_paceOf_2 (j := 8) rfl)
theorem dX9_paceOf_41 : decode cX9_paceOf 41 = .ok (.iconst 2, 1) := dk_5 (byr_X9_paceOf_2 (j := 9) rfl)
theorem dX9_paceOf_42 : decode cX9_paceOf 42 = .ok (.idiv, 1) := dk_108 (byr_X9_paceOf_2 (j := 10) rfl)
theorem dX9_paceOf_43 : decode cX9_paceOf 43 = .ok (.istore 5, 2) := dk_54 (byr_X9_paceOf_2 (j := 11) rfl) (byr_X9_paceOf_2 (j := 12) rfl)
theorem dX9_paceOf_45 : decode cX9_paceOf 45 = .ok (.aload_n 0, 1) := dk_42 (byr_X9_paceOf_2 (j := 13) rfl)
theorem dX9_paceOf_46 : decode cX9_paceOf 46 = .ok (.iload_n 1, 1) := dk_27 (byr_X9_paceOf_2 (j := 14) rfl)
theorem dX9_paceOf_47 : decode cX9_paceOf 47 = .ok (.iconst 0, 1) := dk_3 (byr_X9_paceOf_2 (j := 15) rfl)
theorem dX9_paceOf_48 : decode cX9_paceOf 48 = .ok (.invokevirtual 172, 3) := dk_182 (byr_X9_paceOf_3 (j := 0) rfl) (byr_X9_paceOf_3 (j := 1) rfl) (byr_X9_paceOf_3 (j := 2) rfl) (by decide)
set_option maxRecDepth 20000 in
theorem dX9_paceOf_51 : decode cX9_paceOf 51 = .ok (.tableswitch 85 1 6 #[37, 40, 45, 47, 59, 71], 37) := by decide +kernel
theorem dX9_paceOf_88 : decode cX9_paceOf 88 = .ok (.iload 5, 2) := dk_21 (byr_X9_paceOf_5 (j := 8) rfl) (byr_X9_paceOf_5 (j := 9) rfl)
theorem dX9_paceOf_90 : decode cX9_paceOf 90 = .ok (.ireturn, 1) := dk_172 (byr_X9_paceOf_5 (j := 10) rfl)
theorem dX9_paceOf_91 : decode cX9_paceOf 91 = .ok (.iload 4, 2) := dk_21 (byr_X9_paceOf_5 (j := 11) rfl) (byr_X9_paceOf_5 (j := 12) rfl)
theorem dX9_paceOf_93 : decode cX9_paceOf 93 = .ok (.iload_n 3, 1) := dk_29 (byr_X9_paceOf_5 (j := 13) rfl)
theorem dX9_paceOf_94 : decode cX9_paceOf 94 = .ok (.iadd, 1) := dk_96 (byr_X9_paceOf_5 (j := 14) rfl)
theorem dX9_paceOf_95 : decode cX9_paceOf 95 = .ok (.ireturn, 1) := dk_172 (byr_X9_paceOf_5 (j := 15) rfl)
theorem dX9_paceOf_96 : decode cX9_paceOf 96 = .ok (.iconst 5, 1) := dk_8 (byr_X9_paceOf_6 (j := 0) rfl)
theorem dX9_paceOf_97 : decode cX9_paceOf 97 = .ok (.ireturn, 1) := dk_172 (byr_X9_paceOf_6 (j := 1) rfl)
theorem dX9_paceOf_98 : decode cX9_paceOf 98 = .ok (.iload_n 2, 1) := dk_28 (byr_X9_paceOf_6 (j := 2) rfl)
theorem dX9_paceOf_99 : decode cX9_paceOf 99 = .ok (.iconst 3, 1) := dk_6 (byr_X9_paceOf_6 (j := 3) rfl)
theorem dX9_paceOf_100 : decode cX9_paceOf 100 = .ok (.if_icmp .gt 7, 3) := dk_163 (byr_X9_paceOf_6 (j := 4) rfl) (byr_X9_paceOf_6 (j := 5) rfl) (byr_X9_paceOf_6 (j := 6) rfl) (by decide)
theorem dX9_paceOf_103 : decode cX9_paceOf 103 = .ok (.iconst 0, 1) := dk_3 (byr_X9_paceOf_6 (j := 7) rfl)
theorem dX9_paceOf_104 : decode cX9_paceOf 104 = .ok (.goto 5, 3) := dk_167 (byr_X9_paceOf_6 (j := 8) rfl) (byr_X9_paceOf_6 (j := 9) rfl) (byr_X9_paceOf_6 (j := 10) rfl) (by decide)
theorem dX9_paceOf_107 : decode cX9_paceOf 107 = .ok (.iload 5, 2) := dk_21 (byr_X9_paceOf_6 (j := 11) rfl) (byr_X9_paceOf_6 (j := 12) rfl)
theorem dX9_paceOf_109 : decode cX9_paceOf 109 = .ok (.ireturn, 1) := dk_172 (byr_X9_paceOf_6 (j := 13) rfl)
theorem dX9_paceOf_110 : decode cX9_paceOf 110 = .ok (.bipush 20, 2) := dk_16 (byr_X9_paceOf_6 (j := 14) rfl) (byr_X9_paceOf_6 (j := 15) rfl) (by decide)
theorem dX9_paceOf_112 : decode cX9_paceOf 112 = .ok (.aload_n 0, 1) := dk_42 (byr_X9_paceOf_7 (j := 0) rfl)
theorem dX9_paceOf_113 : decode cX9_paceOf 113 = .ok (.iload_n 1, 1) := dk_27 (byr_X9_paceOf_7 (j := 1) rfl)
theorem dX9_paceOf_114 : decode cX9_paceOf 114 = .ok (.iconst 3, 1) := dk_6 (byr_X9_paceOf_7 (j := 2) rfl)
theorem dX9_paceOf_115 : decode cX9_paceOf 115 = .ok (.invokevirtual 172, 3) := dk_182 (byr_X9_paceOf_7 (j := 3) rfl) (byr_X9_paceOf_7 (j := 4) rfl) (byr_X9_paceOf_7 (j := 5) rfl) (by decide)
theorem dX9_paceOf_118 : decode cX9_paceOf 118 = .ok (.iadd, 1) := dk_96 (byr_X9_paceOf_7 (j := 6) rfl)
theorem dX9_paceOf_119 : decode cX9_paceOf 119 = .ok (.iload_n 3, 1) := dk_29 (byr_X9_paceOf_7 (j := 7) rfl)
theorem dX9_paceOf_120 : decode cX9_paceOf 120 = .ok (.iadd, 1) := dk_96 (byr_X9_paceOf_7 (j := 8) rfl)
theorem dX9_paceOf_121 : decode cX9_paceOf 121 = .ok (.ireturn, 1) := dk_172 (byr_X9_paceOf_7 (j := 9) rfl)
theorem dX9_paceOf_122 : decode cX9_paceOf 122 = .ok (.iload_n 2, 1) := dk_28 (byr_X9_paceOf_7 (j := 10) rfl)
theorem dX9_paceOf_123 : decode cX9_paceOf 123 = .ok (.bipush 10, 2) := dk_16 (byr_X9_paceOf_7 (j := 11) rfl) (byr_X9_paceOf_7 (j := 12) rfl) (by decide)
theorem dX9_paceOf_125 : decode cX9_paceOf 125 = .ok (.irem, 1) := dk_112 (byr_X9_paceOf_7 (j := 13) rfl)
theorem dX9_paceOf_126 : decode cX9_paceOf 126 = .ok (.iload_n 3, 1) := dk_29 (byr_X9_paceOf_7 (j := 14) rfl)
theorem dX9_paceOf_127 : decode cX9_paceOf 127 = .ok (.if_icmp .ne 7, 3) := dk_160 (byr_X9_paceOf_7 (j := 15) rfl) (byr_X9_paceOf_8 (j := 0) rfl) (byr_X9_paceOf_8 (j := 1) rfl) (by decide)
theorem dX9_paceOf_130 : decode cX9_paceOf 130 = .ok (.iconst 0, 1) := dk_3 (byr_X9_paceOf_8 (j := 2) rfl)
theorem dX9_paceOf_131 : decode cX9_paceOf 131 = .ok (.goto 4, 3) := dk_167 (byr_X9_paceOf_8 (j := 3) rfl) (byr_X9_paceOf_8 (j := 4) rfl) (byr_X9_paceOf_8 (j := 5) rfl) (by decide)
theorem dX9_paceOf_134 : decode cX9_paceOf 134 = .ok (.iconst 5, 1) := dk_8 (byr_X9_paceOf_8 (j := 6) rfl)
theorem dX9_paceOf_135 : decode cX9_paceOf 135 = .ok (.ireturn, 1) := dk_172 (byr_X9_paceOf_8 (j := 7) rfl)
theorem dX9_paceOf_136 : decode cX9_paceOf 136 = .ok (.iload 4, 2) := dk_21 (byr_X9_paceOf_8 (j := 8) rfl) (byr_X9_paceOf_8 (j := 9) rfl)
theorem dX9_paceOf_138 : decode cX9_paceOf 138 = .ok (.ireturn, 1) := dk_172 (byr_X9_paceOf_8 (j := 10) rfl)
set_option maxHeartbeats 4000000 in
set_option maxRecDepth 100000 in
theorem c_X9_paceOf (l : Launch) (G : GT) (σ : Sto) (a1 : Int32) (a2 : Int32) (r : Int32) (h : f_X9_paceOf σ a1 a2 = some r) : MW l G (3) (86) 0 0 yX9_paceOf cX9_paceOf 6 (Option.some Jvm.ClassFile.FieldType.int) [.ref (gad G 81), .int a1, .int a2] (wl G σ) (some (.int r)) (wl G σ) := by
  refine mw_of RX9 (fpI G σ) [(0, .ref (gad G 81)), (1, .int a1), (2, .int a2)] (by decide +kernel) rfl (Nat.le_of_ble_eq_true rfl) rfl h rfl (fun p e s m args below meth c X hr hnm => ?_)
  have J43 : ∀ (v1 : Int32) (v2 : Int32) (v3 : Int32) (v4 : Int32) (vs0 : Int32)  , Sm p l e { frames := 3, cells := 0, slots := 0, locals := 86 } s m args below meth c G 6 (Qm below args s G 0 0 (fpI G σ)) 0 0 (wl G σ) 43 [(0, .ref (gad G 81)), (1, .int v1), (2, .int v2), (3, .int v3), (4, .int v4)] [.int vs0] (f_X9_paceOf_L43 σ  v1 v2 v3 v4 vs0) := by
    intro v1 v2 v3 v4 vs0
    rw [f_X9_paceOf_L43]
    refine sm_istore X 45 [(5, .int vs0), (0, .ref (gad G 81)), (1, .int v1), (2, .int v2), (3, .int v3), (4, .int v4)] dX9_paceOf_43 rfl (by decide) rfl ?_
    refine sm_aload_n X 46 1 dX9_paceOf_45 rfl rfl rfl ?_
    refine sm_iload_n X 47 2 dX9_paceOf_46 rfl rfl rfl ?_
    refine sm_iconst X 48 (0) dX9_paceOf_47 rfl rfl ?_
    refine sm_bind (fun r48 h48 => ?_)
    refine sm_callV0 X 51 [.int v1, .int 0] [] [.int r48] (c_X9_of l G σ v1 (0 : Int32) r48 h48) cw_X9_of q_1090 qs_45 q_1088 rfl (by decide) rfl rfl rfl rfl rfl (Nat.le_of_ble_eq_true rfl) ⟨Nat.le_of_ble_eq_true rfl, Nat.le_of_ble_eq_true rfl⟩ ⟨Nat.le_refl _, Nat.le_refl _⟩ dX9_paceOf_48 rfl ?_
    refine sm_if (fun h51_0 => ?_) (fun h51_0 => ?_)
    · refine sm_table X 88 dX9_paceOf_51 (by rw [h51_0]; decide) (by rw [h51_0]; decide) (by first | (rw [h51_0]; done) | (rw [h51_0]; rfl)) (by decide) ?_
      refine sm_iload X 90 0 dX9_paceOf_88 rfl rfl ?_
      exact sm_iret X hr dX9_paceOf_90 rfl
    refine sm_if (fun h51_1 => ?_) (fun h51_1 => ?_)
    · refine sm_table X 91 dX9_paceOf_51 (by rw [h51_1]; decide) (by rw [h51_1]; decide) (by first | (rw [h51_1]; done) | (rw [h51_1]; rfl)) (by decide) ?_
      refine sm_iload X 93 5 dX9_paceOf_91 rfl rfl ?_
      refine sm_iload_n X 94 4 dX9_paceOf_93 rfl rfl rfl ?_
      refine sm_iadd X 95 dX9_paceOf_94 rfl ?_
      exact sm_iret X hr dX9_paceOf_95 rfl
    refine sm_if (fun h51_2 => ?_) (fun h51_2 => ?_)
    · refine sm_table X 96 dX9_paceOf_51 (by rw [h51_2]; decide) (by rw [h51_2]; decide) (by first | (rw [h51_2]; done) | (rw [h51_2]; rfl)) (by decide) ?_
      refine sm_iconst X 97 (5) dX9_paceOf_96 rfl rfl ?_
      exact sm_iret X hr dX9_paceOf_97 rfl
    refine sm_if (fun h51_3 => ?_) (fun h51_3 => ?_)
    · refine sm_table X 98 dX9_paceOf_51 (by rw [h51_3]; decide) (by rw [h51_3]; decide) (by first | (rw [h51_3]; done) | (rw [h51_3]; rfl)) (by decide) ?_
      refine sm_iload_n X 99 3 dX9_paceOf_98 rfl rfl rfl ?_
      refine sm_iconst X 100 (3) dX9_paceOf_99 rfl rfl ?_
      refine sm_icmp_gt X 103 107 dX9_paceOf_100 rfl (by decide) (fun h100 => ?_) (fun h100 => ?_)
      · refine sm_iload X 109 0 dX9_paceOf_107 rfl rfl ?_
        exact sm_iret X hr dX9_paceOf_109 rfl
      · refine sm_iconst X 104 (0) dX9_paceOf_103 rfl rfl ?_
        refine sm_goto X 109 dX9_paceOf_104 (by decide) ?_
        exact sm_iret X hr dX9_paceOf_109 rfl
    refine sm_if (fun h51_4 => ?_) (fun h51_4 => ?_)
    · refine sm_table X 110 dX9_paceOf_51 (by rw [h51_4]; decide) (by rw [h51_4]; decide) (by first | (rw [h51_4]; done) | (rw [h51_4]; rfl)) (by decide) ?_
      refine sm_bipush X 112 (20) dX9_paceOf_110 rfl rfl ?_
      refine sm_aload_n X 113 1 dX9_paceOf_112 rfl rfl rfl ?_
      refine sm_iload_n X 114 2 dX9_paceOf_113 rfl rfl rfl ?_
      refine sm_iconst X 115 (3) dX9_paceOf_114 rfl rfl ?_
      refine sm_bind (fun r115 h115 => ?_)
      refine sm_callV0 X 118 [.int v1, .int 3] [.int 20] [.int r115, .int 20] (c_X9_of l G σ v1 (3 : Int32) r115 h115) cw_X9_of q_1090 qs_45 q_1088 rfl (by decide) rfl rfl rfl rfl rfl (Nat.le_of_ble_eq_true rfl) ⟨Nat.le_of_ble_eq_true rfl, Nat.le_of_ble_eq_true rfl⟩ ⟨Nat.le_refl _, Nat.le_refl _⟩ dX9_paceOf_115 rfl ?_
      refine sm_iadd X 119 dX9_paceOf_118 rfl ?_
      refine sm_iload_n X 120 4 dX9_paceOf_119 rfl rfl rfl ?_
      refine sm_iadd X 121 dX9_paceOf_120 rfl ?_
      exact sm_iret X hr dX9_paceOf_121 rfl
    refine sm_if (fun h51_5 => ?_) (fun h51_5 => ?_)
    · refine sm_table X 122 dX9_paceOf_51 (by rw [h51_5]; decide) (by rw [h51_5]; decide) (by first | (rw [h51_5]; done) | (rw [h51_5]; rfl)) (by decide) ?_
      refine sm_iload_n X 123 3 dX9_paceOf_122 rfl rfl rfl ?_
      refine sm_bipush X 125 (10) dX9_paceOf_123 rfl rfl ?_
      refine sm_irem X 126 dX9_paceOf_125 rfl (by first | decide | assumption) ?_
      refine sm_iload_n X 127 4 dX9_paceOf_126 rfl rfl rfl ?_
      refine sm_icmp_ne X 130 134 dX9_paceOf_127 rfl (by decide) (fun h127 => ?_) (fun h127 => ?_)
      · refine sm_iconst X 131 (0) dX9_paceOf_130 rfl rfl ?_
        refine sm_goto X 135 dX9_paceOf_131 (by decide) ?_
        exact sm_iret X hr dX9_paceOf_135 rfl
      · refine sm_iconst X 135 (5) dX9_paceOf_134 rfl rfl ?_
        exact sm_iret X hr dX9_paceOf_135 rfl
    have q0 : ¬ (r48).toInt = 1 := ne_toInt h51_0
    have q1 : ¬ (r48).toInt = 2 := ne_toInt h51_1
    have q2 : ¬ (r48).toInt = 3 := ne_toInt h51_2
    have q3 : ¬ (r48).toInt = 4 := ne_toInt h51_3
    have q4 : ¬ (r48).toInt = 5 := ne_toInt h51_4
    have q5 : ¬ (r48).toInt = 6 := ne_toInt h51_5
    refine sm_tableD X 136 dX9_paceOf_51 (by omega) (by decide) ?_
    refine sm_iload X 138 5 dX9_paceOf_136 rfl rfl ?_
    exact sm_iret X hr dX9_paceOf_138 rfl
  unfold f_X9_paceOf
  refine sm_aload_n X 1 0 dX9_paceOf_0 rfl rfl rfl ?_
  refine sm_iload_n X 2 1 dX9_paceOf_1 rfl rfl rfl ?_
  refine sm_iconst X 3 (1) dX9_paceOf_2 rfl rfl ?_
  refine sm_bind (fun r3 h3 => ?_)
  refine sm_callV0 X 6 [.int a1, .int 1] [] [.int r3] (c_X9_of l G σ a1 (1 : Int32) r3 h3) cw_X9_of q_1090 qs_45 q_1088 rfl (by decide) rfl rfl rfl rfl rfl (Nat.le_of_ble_eq_true rfl) ⟨Nat.le_of_ble_eq_true rfl, Nat.le_of_ble_eq_true rfl⟩ ⟨Nat.le_refl _, Nat.le_refl _⟩ dX9_paceOf_3 rfl ?_
  refine sm_istore_n X 7 [(3, .int r3), (0, .ref (gad G 81)), (1, .int a1), (2, .int a2)] dX9_paceOf_6 rfl rfl (by decide) rfl ?_
  refine sm_iconst X 8 (5) dX9_paceOf_7 rfl rfl ?_
  refine sm_bipush X 10 (20) dX9_paceOf_8 rfl rfl ?_
  refine sm_aload_n X 11 1 dX9_paceOf_10 rfl rfl rfl ?_
  refine sm_iload_n X 12 2 dX9_paceOf_11 rfl rfl rfl ?_
  refine sm_iconst X 13 (3) dX9_paceOf_12 rfl rfl ?_
  refine sm_bind (fun r13 h13 => ?_)
  refine sm_callV0 X 16 [.int a1, .int 3] [.int 20, .int 5] [.int r13, .int 20, .int 5] (c_X9_of l G σ a1 (3 : Int32) r13 h13) cw_X9_of q_1090 qs_45 q_1088 rfl (by decide) rfl rfl rfl rfl rfl (Nat.le_of_ble_eq_true rfl) ⟨Nat.le_of_ble_eq_true rfl, Nat.le_of_ble_eq_true rfl⟩ ⟨Nat.le_refl _, Nat.le_refl _⟩ dX9_paceOf_13 rfl ?_
  refine sm_iadd X 17 dX9_paceOf_16 rfl ?_
  refine sm_iload_n X 18 3 dX9_paceOf_17 rfl rfl rfl ?_
  refine sm_iconst X 19 (4) dX9_paceOf_18 rfl rfl ?_
  refine sm_idiv X 20 dX9_paceOf_19 rfl (by first | decide | assumption) ?_
  refine sm_isub X 21 dX9_paceOf_20 rfl ?_
  refine sm_bind (fun r21 h21 => ?_)
  refine sm_callS0 X 24 [.int 5, .int (((20 : Int32) + r13) - (a2 / (4 : Int32)))] [] [.int r21] (c_X9_greater l G σ (5 : Int32) (((20 : Int32) + r13) - (a2 / (4 : Int32))) r21 h21) cw_X9_greater q_1123 q_1122 rfl rfl rfl (Nat.le_of_ble_eq_true rfl) ⟨Nat.le_of_ble_eq_true rfl, Nat.le_of_ble_eq_true rfl⟩ ⟨Nat.le_refl _, Nat.le_refl _⟩ dX9_paceOf_21 rfl ?_
  refine sm_istore X 26 [(4, .int r21), (3, .int r3), (0, .ref (gad G 81)), (1, .int a1), (2, .int a2)] dX9_paceOf_24 rfl (by decide) rfl ?_
  refine sm_iload_n X 27 4 dX9_paceOf_26 rfl rfl rfl ?_
  refine sm_iload_n X 28 1 dX9_paceOf_27 rfl rfl rfl ?_
  refine sm_icmp_ge X 31 39 dX9_paceOf_28 rfl (by decide) (fun h28 => ?_) (fun h28 => ?_)
  · refine sm_iload X 41 0 dX9_paceOf_39 rfl rfl ?_
    refine sm_iconst X 42 (2) dX9_paceOf_41 rfl rfl ?_
    refine sm_idiv X 43 dX9_paceOf_42 rfl (by first | decide | assumption) ?_
    exact sm_sub [2, 3, 4, 1, 0] rfl (J43 a1 a2 r3 r21 (r21 / (2 : Int32)))
  · refine sm_iload X 33 0 dX9_paceOf_31 rfl rfl ?_
    refine sm_bipush X 35 (20) dX9_paceOf_33 rfl rfl ?_
    refine sm_iadd X 36 dX9_paceOf_35 rfl ?_
    refine sm_goto X 43 dX9_paceOf_36 (by decide) ?_
    exact sm_sub [2, 3, 4, 1, 0] rfl (J43 a1 a2 r3 r21 (r21 + (20 : Int32)))
def by_X9_pace_0 : List Nat := [42, 27, 182, 0, 169, 153, 0, 24, 28, 133, 9, 20, 0, 185, 184, 0]
def by_X9_pace_1 : List Nat := [49, 153, 0, 12, 42, 27, 28, 182, 0, 187, 167, 0, 8, 42, 4, 182]
def by_X9_pace_z : List Nat := [0, 126, 172]
def by_X9_pace : List (List Nat) := [by_X9_pace_0, by_X9_pace_1]
set_option maxRecDepth 100000 in
theorem byo_X9_pace : cX9_pace.data.toList.map UInt8.toNat = by_X9_pace.flatten ++ by_X9_pace_z := by decide +kernel
theorem byl_X9_pace : by_X9_pace.all (fun r => r.length == 16) = true := by decide +kernel
theorem byr_X9_pace_0 {j v : Nat} (h : by_X9_pace_0[j]? = some v) : RD cX9_pace (0 + j) v := rd_16 byo_X9_pace byl_X9_pace 0 rfl h
theorem byr_X9_pace_1 {j v : Nat} (h : by_X9_pace_1[j]? = some v) : RD cX9_pace (16 + j) v := rd_16 byo_X9_pace byl_X9_pace 1 rfl h
theorem byr_X9_pace_2 {j v : Nat} (h : by_X9_pace_z[j]? = some v) : RD cX9_pace (32 + j) v := rd_z byo_X9_pace byl_X9_pace 2 rfl h
theorem dX9_pace_0 : decode cX9_pace 0 = .ok (.aload_n 0, 1) := dk_42 (byr_X9_pace_0 (j := 0) rfl)
theorem dX9_pace_1 : decode cX9_pace 1 = .ok (.iload_n 1, 1) := dk_27 (byr_X9_pace_0 (j := 1) rfl)
theorem dX9_pace_2 : decode cX9_pace 2 = .ok (.invokevirtual 169, 3) := dk_182 (byr_X9_pace_0 (j := 2) rfl) (byr_X9_pace_0 (j := 3) rfl) (byr_X9_pace_0 (j := 4) rfl) (by decide)
theorem dX9_pace_5 : decode cX9_pace 5 = .ok (.ifCond .eq 24, 3) := dk_153 (byr_X9_pace_0 (j := 5) rfl) (byr_X9_pace_0 (j := 6) rfl) (byr_X9_pace_0 (j := 7) rfl) (by decide)
theorem dX9_pace_8 : decode cX9_pace 8 = .ok (.iload_n 2, 1) := dk_28 (byr_X9_pace_0 (j := 8) rfl)
theorem dX9_pace_9 : decode cX9_pace 9 = .ok (.i2l, 1) := dk_133 (byr_X9_pace_0 (j := 9) rfl)
theorem dX9_pace_10 : decode cX9_pace 10 = .ok (.lconst 0, 1) := dk_9 (byr_X9_pace_0 (j := 10) rfl)
theorem dX9_pace_11 : decode cX9_pace 11 = .ok (.ldc2_w 185, 3) := dk_20 (byr_X9_pace_0 (j := 11) rfl) (byr_X9_pace_0 (j := 12) rfl) (byr_X9_pace_0 (j := 13) rfl) (by decide)
theorem dX9_pace_14 : decode cX9_pace 14 = .ok (.invokestatic 49, 3) := dk_184 (byr_X9_pace_0 (j := 14) rfl) (byr_X9_pace_0 (j := 15) rfl) (byr_X9_pace_1 (j := 0) rfl) (by decide)
theorem dX9_pace_17 : decode cX9_pace 17 = .ok (.ifCond .eq 12, 3) := dk_153 (byr_X9_pace_1 (j := 1) rfl) (byr_X9_pace_1 (j := 2) rfl) (byr_X9_pace_1 (j := 3) rfl) (by decide)
theorem dX9_pace_20 : decode cX9_pace 20 = .ok (.aload_n 0, 1) := dk_42 (byr_X9_pace_1 (j := 4) rfl)
theorem dX9_pace_21 : decode cX9_pace 21 = .ok (.iload_n 1, 1) := dk_27 (byr_X9_pace_1 (j := 5) rfl)
theorem dX9_pace_22 : decode cX9_pace 22 = .ok (.iload_n 2, 1) := dk_28 (byr_X9_pace_1 (j := 6) rfl)
theorem dX9_pace_23 : decode cX9_pace 23 = .ok (.invokevirtual 187, 3) := dk_182 (byr_X9_pace_1 (j := 7) rfl) (byr_X9_pace_1 (j := 8) rfl) (byr_X9_pace_1 (j := 9) rfl) (by decide)
theorem dX9_pace_26 : decode cX9_pace 26 = .ok (.goto 8, 3) := dk_167 (byr_X9_pace_1 (j := 10) rfl) (byr_X9_pace_1 (j := 11) rfl) (byr_X9_pace_1 (j := 12) rfl) (by decide)
theorem dX9_pace_29 : decode cX9_pace 29 = .ok (.aload_n 0, 1) := dk_42 (byr_X9_pace_1 (j := 13) rfl)
theorem dX9_pace_30 : decode cX9_pace 30 = .ok (.iconst 1, 1) := dk_4 (byr_X9_pace_1 (j := 14) rfl)
theorem dX9_pace_31 : decode cX9_pace 31 = .ok (.invokevirtual 126, 3) := dk_182 (byr_X9_pace_1 (j := 15) rfl) (byr_X9_pace_2 (j := 0) rfl) (byr_X9_pace_2 (j := 1) rfl) (by decide)
theorem dX9_pace_34 : decode cX9_pace 34 = .ok (.ireturn, 1) := dk_172 (byr_X9_pace_2 (j := 2) rfl)
set_option maxHeartbeats 4000000 in
set_option maxRecDepth 100000 in
theorem c_X9_pace (l : Launch) (G : GT) (σ : Sto) (a1 : Int32) (a2 : Int32) (r : (Int32 × Sto)) (h : f_X9_pace σ a1 a2 = some r) : MW l G (4) (111) 0 0 yX9_pace cX9_pace 3 (Option.some Jvm.ClassFile.FieldType.int) [.ref (gad G 81), .int a1, .int a2] (wl G σ) (some (.int r.1)) (wl G r.2) := by
  refine mw_of RX9 (fiI G) [(0, .ref (gad G 81)), (1, .int a1), (2, .int a2)] (by decide +kernel) rfl (Nat.le_of_ble_eq_true rfl) rfl h rfl (fun p e s m args below meth c X hr hnm => ?_)
  unfold f_X9_pace
  refine sm_aload_n X 1 0 dX9_pace_0 rfl rfl rfl ?_
  refine sm_iload_n X 2 1 dX9_pace_1 rfl rfl rfl ?_
  refine sm_bind (fun r2 h2 => ?_)
  refine sm_callV0 X 5 [.int a1] [] [.int (b2i r2)] (c_X9_isSwimmer l G σ a1 r2 h2) cw_X9_isSwimmer q_1086 qs_44 q_1084 rfl (by decide) rfl rfl rfl rfl rfl (Nat.le_of_ble_eq_true rfl) ⟨Nat.le_of_ble_eq_true rfl, Nat.le_of_ble_eq_true rfl⟩ ⟨Nat.le_refl _, Nat.le_refl _⟩ dX9_pace_2 rfl ?_
  refine sm_ifz_eq X 8 29 dX9_pace_5 rfl (by decide) (fun h5 => ?_) (fun h5 => ?_)
  · refine sm_iload_n X 9 2 dX9_pace_8 rfl rfl rfl ?_
    refine sm_i2l X 10 dX9_pace_9 rfl ?_
    refine sm_lconst X 11 (0) dX9_pace_10 rfl rfl ?_
    refine sm_ldc2 X 14 (59) dX9_pace_11 rfl q_1117 ?_
    refine sm_bind (fun r14 h14 => ?_)
    refine sm_callS0 X 17 [.long (Int32.toInt64 a2), .long (0 : Int64), .long (59 : Int64)] [] [.int (b2i r14)] (c_X9_in l G σ (Int32.toInt64 a2) (0 : Int64) (59 : Int64) r14 h14) cw_X9_in q_961 q_960 rfl rfl rfl (Nat.le_of_ble_eq_true rfl) ⟨Nat.le_of_ble_eq_true rfl, Nat.le_of_ble_eq_true rfl⟩ ⟨Nat.le_refl _, Nat.le_refl _⟩ dX9_pace_14 rfl ?_
    refine sm_ifz_eq X 20 29 dX9_pace_17 rfl (by decide) (fun h17 => ?_) (fun h17 => ?_)
    · refine sm_aload_n X 21 0 dX9_pace_20 rfl rfl rfl ?_
      refine sm_iload_n X 22 1 dX9_pace_21 rfl rfl rfl ?_
      refine sm_iload_n X 23 2 dX9_pace_22 rfl rfl rfl ?_
      refine sm_bind (fun r23 h23 => ?_)
      refine sm_callV0 X 26 [.int a1, .int a2] [] [.int r23] (c_X9_paceOf l G σ a1 a2 r23 h23) cw_X9_paceOf q_1120 qs_46 q_1118 rfl (by decide) rfl rfl rfl rfl rfl (Nat.le_of_ble_eq_true rfl) ⟨Nat.le_of_ble_eq_true rfl, Nat.le_of_ble_eq_true rfl⟩ ⟨Nat.le_refl _, Nat.le_refl _⟩ dX9_pace_23 rfl ?_
      refine sm_goto X 34 dX9_pace_26 (by decide) ?_
      exact sm_iret X hr dX9_pace_34 rfl
    · refine sm_aload_n X 30 0 dX9_pace_29 rfl rfl rfl ?_
      refine sm_iconst X 31 (1) dX9_pace_30 rfl rfl ?_
      refine sm_bind (fun r31 h31 => ?_)
      refine sm_callV0 X 34 [.int 1] [] [.int r31.1] (c_X9_finds l G σ (1 : Int32) r31 h31) cw_X9_finds q_965 qs_26 q_963 rfl (by decide) rfl rfl rfl rfl rfl (Nat.le_of_ble_eq_true rfl) ⟨Nat.le_of_ble_eq_true rfl, Nat.le_of_ble_eq_true rfl⟩ ⟨Nat.le_refl _, Nat.le_refl _⟩ dX9_pace_31 rfl ?_
      exact sm_iret X hr dX9_pace_34 rfl
  · refine sm_aload_n X 30 0 dX9_pace_29 rfl rfl rfl ?_
    refine sm_iconst X 31 (1) dX9_pace_30 rfl rfl ?_
    refine sm_bind (fun r31 h31 => ?_)
    refine sm_callV0 X 34 [.int 1] [] [.int r31.1] (c_X9_finds l G σ (1 : Int32) r31 h31) cw_X9_finds q_965 qs_26 q_963 rfl (by decide) rfl rfl rfl rfl rfl (Nat.le_of_ble_eq_true rfl) ⟨Nat.le_of_ble_eq_true rfl, Nat.le_of_ble_eq_true rfl⟩ ⟨Nat.le_refl _, Nat.le_refl _⟩ dX9_pace_31 rfl ?_
    exact sm_iret X hr dX9_pace_34 rfl
def by_X9_laneOf_0 : List Nat := [42, 27, 8, 6, 28, 16, 10, 108, 184, 0, 190, 96, 182, 0, 172, 172]
def by_X9_laneOf_z : List Nat := []
def by_X9_laneOf : List (List Nat) := [by_X9_laneOf_0]
set_option maxRecDepth 100000 in
theorem byo_X9_laneOf : cX9_laneOf.data.toList.map UInt8.toNat = by_X9_laneOf.flatten ++ by_X9_laneOf_z := by decide +kernel
theorem byl_X9_laneOf : by_X9_laneOf.all (fun r => r.length == 16) = true := by decide +kernel
theorem byr_X9_laneOf_0 {j v : Nat} (h : by_X9_laneOf_0[j]? = some v) : RD cX9_laneOf (0 + j) v := rd_16 byo_X9_laneOf byl_X9_laneOf 0 rfl h
theorem byr_X9_laneOf_1 {j v : Nat} (h : by_X9_laneOf_z[j]? = some v) : RD cX9_laneOf (16 + j) v := rd_z byo_X9_laneOf byl_X9_laneOf 1 rfl h
theorem dX9_laneOf_0 : decode cX9_laneOf 0 = .ok (.aload_n 0, 1) := dk_42 (byr_X9_laneOf_0 (j := 0) rfl)
theorem dX9_laneOf_1 : decode cX9_laneOf 1 = .ok (.iload_n 1, 1) := dk_27 (byr_X9_laneOf_0 (j := 1) rfl)
theorem dX9_laneOf_2 : decode cX9_laneOf 2 = .ok (.iconst 5, 1) := dk_8 (byr_X9_laneOf_0 (j := 2) rfl)
theorem dX9_laneOf_3 : decode cX9_laneOf 3 = .ok (.iconst 3, 1) := dk_6 (byr_X9_laneOf_0 (j := 3) rfl)
theorem dX9_laneOf_4 : decode cX9_laneOf 4 = .ok (.iload_n 2, 1) := dk_28 (byr_X9_laneOf_0 (j := 4) rfl)
theorem dX9_laneOf_5 : decode cX9_laneOf 5 = .ok (.bipush 10, 2) := dk_16 (byr_X9_laneOf_0 (j := 5) rfl) (byr_X9_laneOf_0 (j := 6) rfl) (by decide)
theorem dX9_laneOf_7 : decode cX9_laneOf 7 = .ok (.idiv, 1) := dk_108 (byr_X9_laneOf_0 (j := 7) rfl)
theorem dX9_laneOf_8 : decode cX9_laneOf 8 = .ok (.invokestatic 190, 3) := dk_184 (byr_X9_laneOf_0 (j := 8) rfl) (byr_X9_laneOf_0 (j := 9) rfl) (byr_X9_laneOf_0 (j := 10) rfl) (by decide)
theorem dX9_laneOf_11 : decode cX9_laneOf 11 = .ok (.iadd, 1) := dk_96 (byr_X9_laneOf_0 (j := 11) rfl)
theorem dX9_laneOf_12 : decode cX9_laneOf 12 = .ok (.invokevirtual 172, 3) := dk_182 (byr_X9_laneOf_0 (j := 12) rfl) (byr_X9_laneOf_0 (j := 13) rfl) (byr_X9_laneOf_0 (j := 14) rfl) (by decide)
theorem dX9_laneOf_15 : decode cX9_laneOf 15 = .ok (.ireturn, 1) := dk_172 (byr_X9_laneOf_0 (j := 15) rfl)
set_option maxHeartbeats 4000000 in
set_option maxRecDepth 100000 in
theorem c_X9_laneOf (l : Launch) (G : GT) (σ : Sto) (a1 : Int32) (a2 : Int32) (r : Int32) (h : f_X9_laneOf σ a1 a2 = some r) : MW l G (3) (86) 0 0 yX9_laneOf cX9_laneOf 3 (Option.some Jvm.ClassFile.FieldType.int) [.ref (gad G 81), .int a1, .int a2] (wl G σ) (some (.int r)) (wl G σ) := by
  refine mw_of RX9 (fpI G σ) [(0, .ref (gad G 81)), (1, .int a1), (2, .int a2)] (by decide +kernel) rfl (Nat.le_of_ble_eq_true rfl) rfl h rfl (fun p e s m args below meth c X hr hnm => ?_)
  unfold f_X9_laneOf
  refine sm_aload_n X 1 0 dX9_laneOf_0 rfl rfl rfl ?_
  refine sm_iload_n X 2 1 dX9_laneOf_1 rfl rfl rfl ?_
  refine sm_iconst X 3 (5) dX9_laneOf_2 rfl rfl ?_
  refine sm_iconst X 4 (3) dX9_laneOf_3 rfl rfl ?_
  refine sm_iload_n X 5 2 dX9_laneOf_4 rfl rfl rfl ?_
  refine sm_bipush X 7 (10) dX9_laneOf_5 rfl rfl ?_
  refine sm_idiv X 8 dX9_laneOf_7 rfl (by first | decide | assumption) ?_
  refine sm_bind (fun r8 h8 => ?_)
  refine sm_callS0 X 11 [.int 3, .int (a2 / (10 : Int32))] [.int 5, .int a1, .ref (gad G 81)] [.int r8, .int 5, .int a1, .ref (gad G 81)] (c_X9_lesser l G σ (3 : Int32) (a2 / (10 : Int32)) r8 h8) cw_X9_lesser q_1139 q_1138 rfl rfl rfl (Nat.le_of_ble_eq_true rfl) ⟨Nat.le_of_ble_eq_true rfl, Nat.le_of_ble_eq_true rfl⟩ ⟨Nat.le_refl _, Nat.le_refl _⟩ dX9_laneOf_8 rfl ?_
  refine sm_iadd X 12 dX9_laneOf_11 rfl ?_
  refine sm_bind (fun r12 h12 => ?_)
  refine sm_callV0 X 15 [.int a1, .int ((5 : Int32) + r8)] [] [.int r12] (c_X9_of l G σ a1 ((5 : Int32) + r8) r12 h12) cw_X9_of q_1090 qs_45 q_1088 rfl (by decide) rfl rfl rfl rfl rfl (Nat.le_of_ble_eq_true rfl) ⟨Nat.le_of_ble_eq_true rfl, Nat.le_of_ble_eq_true rfl⟩ ⟨Nat.le_refl _, Nat.le_refl _⟩ dX9_laneOf_12 rfl ?_
  exact sm_iret X hr dX9_laneOf_15 rfl
def by_X9_goes_0 : List Nat := [42, 27, 29, 182, 0, 187, 54, 4, 28, 42, 27, 5, 182, 0, 172, 154]
def by_X9_goes_1 : List Nat := [0, 8, 21, 4, 167, 0, 6, 21, 4, 116, 96, 42, 42, 27, 29, 182]
def by_X9_goes_z : List Nat := [0, 193, 182, 0, 161, 96, 3, 17, 4, 176, 184, 0, 139, 172]
def by_X9_goes : List (List Nat) := [by_X9_goes_0, by_X9_goes_1]
set_option maxRecDepth 100000 in
theorem byo_X9_goes : cX9_goes.data.toList.map UInt8.toNat = by_X9_goes.flatten ++ by_X9_goes_z := by decide +kernel
theorem byl_X9_goes : by_X9_goes.all (fun r => r.length == 16) = true := by decide +kernel
theorem byr_X9_goes_0 {j v : Nat} (h : by_X9_goes_0[j]? = some v) : RD cX9_goes (0 + j) v := rd_16 byo_X9_goes byl_X9_goes 0 rfl h
theorem byr_X9_goes_1 {j v : Nat} (h : by_X9_goes_1[j]? = some v) : RD cX9_goes (16 + j) v := rd_16 byo_X9_goes byl_X9_goes 1 rfl h
theorem byr_X9_goes_2 {j v : Nat} (h : by_X9_goes_z[j]? = some v) : RD cX9_goes (32 + j) v := rd_z byo_X9_goes byl_X9_goes 2 rfl h
theorem dX9_goes_0 : decode cX9_goes 0 = .ok (.aload_n 0, 1) := dk_42 (byr_X9_goes_0 (j := 0) rfl)
theorem dX9_goes_1 : decode cX9_goes 1 = .ok (.iload_n 1, 1) := dk_27 (byr_X9_goes_0 (j := 1) rfl)
theorem dX9_goes_2 : decode cX9_goes 2 = .ok (.iload_n 3, 1) := dk_29 (byr_X9_goes_0 (j := 2) rfl)
theorem dX9_goes_3 : decode cX9_goes 3 = .ok (.invokevirtual 187, 3) := dk_182 (byr_X9_goes_0 (j := 3) rfl) (byr_X9_goes_0 (j := 4) rfl) (byr_X9_goes_0 (j := 5) rfl) (by decide)
theorem dX9_goes_6 : decode cX9_goes 6 = .ok (.istore 4, 2) := dk_54 (byr_X9_goes_0 (j := 6) rfl) (byr_X9_goes_0 (j := 7) rfl)
theorem dX9_goes_8 : decode cX9_goes 8 = .ok (.iload_n 2, 1) := dk_28 (byr_X9_goes_0 (j := 8) rfl)
theorem dX9_goes_9 : decode cX9_goes 9 = .ok (.aload_n 0, 1) := dk_42 (byr_X9_goes_0 (j := 9) rfl)
theorem dX9_goes_10 : decode cX9_goes 10 = .ok (.iload_n 1, 1) := dk_27 (byr_X9_goes_0 (j := 10) rfl)
theorem dX9_goes_11 : decode cX9_goes 11 = .ok (.iconst 2, 1) := dk_5 (byr_X9_goes_0 (j := 11) rfl)
theorem dX9_goes_12 : decode cX9_goes 12 = .ok (.invokevirtual 172, 3) := dk_182 (byr_X9_goes_0 (j := 12) rfl) (byr_X9_goes_0 (j := 13) rfl) (byr_X9_goes_0 (j := 14) rfl) (by decide)
theorem dX9_goes_15 : decode cX9_goes 15 = .ok (.ifCond .ne 8, 3) := dk_154 (byr_X9_goes_0 (j := 15) rfl) (byr_X9_goes_1 (j := 0) rfl) (byr_X9_goes_1 (j := 1) rfl) (by decide)
theorem dX9_goes_18 : decode cX9_goes 18 = .ok (.iload 4, 2) := dk_21 (byr_X9_goes_1 (j := 2) rfl) (byr_X9_goes_1 (j := 3) rfl)
theorem dX9_goes_20 : decode cX9_goes 20 = .ok (.goto 6, 3) := dk_167 (byr_X9_goes_1 (j := 4) rfl) (byr_X9_goes_1 (j := 5) rfl) (byr_X9_goes_1 (j := 6) rfl) (by decide)
theorem dX9_goes_23 : decode cX9_goes 23 = .ok (.iload 4, 2) := dk_21 (byr_X9_goes_1 (j := 7) rfl) (byr_X9_goes_1 (j := 8) rfl)
theorem dX9_goes_25 : decode cX9_goes 25 = .ok (.ineg, 1) := dk_116 (byr_X9_goes_1 (j := 9) rfl)
theorem dX9_goes_26 : decode cX9_goes 26 = .ok (.iadd, 1) := dk_96 (byr_X9_goes_1 (j := 10) rfl)
theorem dX9_goes_27 : decode cX9_goes 27 = .ok (.aload_n 0, 1) := dk_42 (byr_X9_goes_1 (j := 11) rfl)
theorem dX9_goes_28 : decode cX9_goes 28 = .ok (.aload_n 0, 1) := dk_42 (byr_X9_goes_1 (j := 12) rfl)
theorem dX9_goes_29 : decode cX9_goes 29 = .ok (.iload_n 1, 1) := dk_27 (byr_X9_goes_1 (j := 13) rfl)
theorem dX9_goes_30 : decode cX9_goes 30 = .ok (.iload_n 3, 1) := dk_29 (byr_X9_goes_1 (j := 14) rfl)
theorem dX9_goes_31 : decode cX9_goes 31 = .ok (.invokevirtual 193, 3) := dk_182 (byr_X9_goes_1 (j := 15) rfl) (byr_X9_goes_2 (j := 0) rfl) (byr_X9_goes_2 (j := 1) rfl) (by decide)
theorem dX9_goes_34 : decode cX9_goes 34 = .ok (.invokevirtual 161, 3) := dk_182 (byr_X9_goes_2 (j := 2) rfl) (byr_X9_goes_2 (j := 3) rfl) (byr_X9_goes_2 (j := 4) rfl) (by decide)
theorem dX9_goes_37 : decode cX9_goes 37 = .ok (.iadd, 1) := dk_96 (byr_X9_goes_2 (j := 5) rfl)
theorem dX9_goes_38 : decode cX9_goes 38 = .ok (.iconst 0, 1) := dk_3 (byr_X9_goes_2 (j := 6) rfl)
theorem dX9_goes_39 : decode cX9_goes 39 = .ok (.sipush 1200, 3) := dk_17 (byr_X9_goes_2 (j := 7) rfl) (byr_X9_goes_2 (j := 8) rfl) (byr_X9_goes_2 (j := 9) rfl) (by decide)
theorem dX9_goes_42 : decode cX9_goes 42 = .ok (.invokestatic 139, 3) := dk_184 (byr_X9_goes_2 (j := 10) rfl) (byr_X9_goes_2 (j := 11) rfl) (byr_X9_goes_2 (j := 12) rfl) (by decide)
theorem dX9_goes_45 : decode cX9_goes 45 = .ok (.ireturn, 1) := dk_172 (byr_X9_goes_2 (j := 13) rfl)
set_option maxHeartbeats 4000000 in
set_option maxRecDepth 100000 in
theorem c_X9_goes (l : Launch) (G : GT) (σ : Sto) (a1 : Int32) (a2 : Int32) (a3 : Int32) (r : (Int32 × Sto)) (h : f_X9_goes σ a1 a2 a3 = some r) : MW l G (6) (157) 0 0 yX9_goes cX9_goes 5 (Option.some Jvm.ClassFile.FieldType.int) [.ref (gad G 81), .int a1, .int a2, .int a3] (wl G σ) (some (.int r.1)) (wl G r.2) := by
  refine mw_of RX9 (fiI G) [(0, .ref (gad G 81)), (1, .int a1), (2, .int a2), (3, .int a3)] (by decide +kernel) rfl (Nat.le_of_ble_eq_true rfl) rfl h rfl (fun p e s m args below meth c X hr hnm => ?_)
  have J26 : ∀ (v1 : Int32) (v3 : Int32) (vs0 : Int32) (vs1 : Int32)  (σ : Sto), Sm p l e { frames := 6, cells := 0, slots := 0, locals := 157 } s m args below meth c G 5 (Qm below args s G 0 0 (fiI G)) 0 0 (wl G σ) 26 [(0, .ref (gad G 81)), (1, .int v1), (3, .int v3)] [.int vs0, .int vs1] (f_X9_goes_L26  v1 v3 vs0 vs1 σ) := by
    intro v1 v3 vs0 vs1 σ
    rw [f_X9_goes_L26]
    refine sm_iadd X 27 dX9_goes_26 rfl ?_
    refine sm_aload_n X 28 0 dX9_goes_27 rfl rfl rfl ?_
    refine sm_aload_n X 29 0 dX9_goes_28 rfl rfl rfl ?_
    refine sm_iload_n X 30 1 dX9_goes_29 rfl rfl rfl ?_
    refine sm_iload_n X 31 2 dX9_goes_30 rfl rfl rfl ?_
    refine sm_bind (fun r31 h31 => ?_)
    refine sm_callV0 X 34 [.int v1, .int v3] [.ref (gad G 81), .int (vs1 + vs0)] [.int r31, .ref (gad G 81), .int (vs1 + vs0)] (c_X9_laneOf l G σ v1 v3 r31 h31) cw_X9_laneOf q_1136 qs_48 q_1134 rfl (by decide) rfl rfl rfl rfl rfl (Nat.le_of_ble_eq_true rfl) ⟨Nat.le_of_ble_eq_true rfl, Nat.le_of_ble_eq_true rfl⟩ ⟨Nat.le_refl _, Nat.le_refl _⟩ dX9_goes_31 rfl ?_
    refine sm_bind (fun r34 h34 => ?_)
    refine sm_callV0 X 37 [.int r31] [.int (vs1 + vs0)] [.int r34.1, .int (vs1 + vs0)] (c_X9_flowOf l G σ r31 r34 h34) cw_X9_flowOf q_1069 qs_42 q_1067 rfl (by decide) rfl rfl rfl rfl rfl (Nat.le_of_ble_eq_true rfl) ⟨Nat.le_of_ble_eq_true rfl, Nat.le_of_ble_eq_true rfl⟩ ⟨Nat.le_refl _, Nat.le_refl _⟩ dX9_goes_34 rfl ?_
    refine sm_iadd X 38 dX9_goes_37 rfl ?_
    refine sm_iconst X 39 (0) dX9_goes_38 rfl rfl ?_
    refine sm_sipush X 42 (1200) dX9_goes_39 rfl rfl ?_
    refine sm_bind (fun r42 h42 => ?_)
    refine sm_callS0 X 45 [.int ((vs1 + vs0) + r34.1), .int 0, .int 1200] [] [.int r42] (c_X9_held l G r34.2 ((vs1 + vs0) + r34.1) (0 : Int32) (1200 : Int32) r42 h42) cw_X9_held q_1043 q_1042 rfl rfl rfl (Nat.le_of_ble_eq_true rfl) ⟨Nat.le_of_ble_eq_true rfl, Nat.le_of_ble_eq_true rfl⟩ ⟨Nat.le_refl _, Nat.le_refl _⟩ dX9_goes_42 rfl ?_
    exact sm_iret X hr dX9_goes_45 rfl
  unfold f_X9_goes
  refine sm_aload_n X 1 0 dX9_goes_0 rfl rfl rfl ?_
  refine sm_iload_n X 2 1 dX9_goes_1 rfl rfl rfl ?_
  refine sm_iload_n X 3 3 dX9_goes_2 rfl rfl rfl ?_
  refine sm_bind (fun r3 h3 => ?_)
  refine sm_callV0 X 6 [.int a1, .int a3] [] [.int r3] (c_X9_paceOf l G σ a1 a3 r3 h3) cw_X9_paceOf q_1120 qs_46 q_1118 rfl (by decide) rfl rfl rfl rfl rfl (Nat.le_of_ble_eq_true rfl) ⟨Nat.le_of_ble_eq_true rfl, Nat.le_of_ble_eq_true rfl⟩ ⟨Nat.le_refl _, Nat.le_refl _⟩ dX9_goes_3 rfl ?_
  refine sm_istore X 8 [(4, .int r3), (0, .ref (gad G 81)), (1, .int a1), (2, .int a2), (3, .int a3)] dX9_goes_6 rfl (by decide) rfl ?_
  refine sm_iload_n X 9 3 dX9_goes_8 rfl rfl rfl ?_
  refine sm_aload_n X 10 1 dX9_goes_9 rfl rfl rfl ?_
  refine sm_iload_n X 11 2 dX9_goes_10 rfl rfl rfl ?_
  refine sm_iconst X 12 (2) dX9_goes_11 rfl rfl ?_
  refine sm_bind (fun r12 h12 => ?_)
  refine sm_callV0 X 15 [.int a1, .int 2] [.int a2] [.int r12, .int a2] (c_X9_of l G σ a1 (2 : Int32) r12 h12) cw_X9_of q_1090 qs_45 q_1088 rfl (by decide) rfl rfl rfl rfl rfl (Nat.le_of_ble_eq_true rfl) ⟨Nat.le_of_ble_eq_true rfl, Nat.le_of_ble_eq_true rfl⟩ ⟨Nat.le_refl _, Nat.le_refl _⟩ dX9_goes_12 rfl ?_
  refine sm_if_ne X 18 23 dX9_goes_15 rfl (by decide) (fun h15 => ?_) (fun h15 => ?_)
  · refine sm_iload X 20 0 dX9_goes_18 rfl rfl ?_
    refine sm_goto X 26 dX9_goes_20 (by decide) ?_
    exact sm_sub [1, 2, 4] rfl (J26 a1 a3 r3 a2  σ)
  · refine sm_iload X 25 0 dX9_goes_23 rfl rfl ?_
    refine sm_ineg X 26 dX9_goes_25 rfl ?_
    exact sm_sub [1, 2, 4] rfl (J26 a1 a3 (-r3) a2  σ)
def by_X9_where_0 : List Nat := [42, 27, 182, 0, 169, 153, 0, 15, 28, 133, 9, 20, 0, 196, 184, 0]
def by_X9_where_1 : List Nat := [49, 154, 0, 9, 42, 4, 182, 0, 126, 172, 42, 27, 5, 182, 0, 172]
def by_X9_where_2 : List Nat := [154, 0, 7, 3, 167, 0, 6, 17, 4, 176, 62, 3, 54, 4, 21, 4]
def by_X9_where_3 : List Nat := [28, 162, 0, 18, 42, 27, 29, 21, 4, 182, 0, 198, 62, 132, 4, 1]
def by_X9_where_z : List Nat := [167, 255, 238, 29, 172]
def by_X9_where : List (List Nat) := [by_X9_where_0, by_X9_where_1, by_X9_where_2, by_X9_where_3]
set_option maxRecDepth 100000 in
theorem byo_X9_where : cX9_where.data.toList.map UInt8.toNat = by_X9_where.flatten ++ by_X9_where_z := by decide +kernel
theorem byl_X9_where : by_X9_where.all (fun r => r.length == 16) = true := by decide +kernel
theorem byr_X9_where_0 {j v : Nat} (h : by_X9_where_0[j]? = some v) : RD cX9_where (0 + j) v := rd_16 byo_X9_where byl_X9_where 0 rfl h
theorem byr_X9_where_1 {j v : Nat} (h : by_X9_where_1[j]? = some v) : RD cX9_where (16 + j) v := rd_16 byo_X9_where byl_X9_where 1 rfl h
theorem byr_X9_where_2 {j v : Nat} (h : by_X9_where_2[j]? = some v) : RD cX9_where (32 + j) v := rd_16 byo_X9_where byl_X9_where 2 rfl h
theorem byr_X9_where_3 {j v : Nat} (h : by_X9_where_3[j]? = some v) : RD cX9_where (48 + j) v := rd_16 byo_X9_where byl_X9_where 3 rfl h
theorem byr_X9_where_4 {j v : Nat} (h : by_X9_where_z[j]? = some v) : RD cX9_where (64 + j) v := rd_z byo_X9_where byl_X9_where 4 rfl h
theorem dX9_where_0 : decode cX9_where 0 = .ok (.aload_n 0, 1) := dk_42 (byr_X9_where_0 (j := 0) rfl)
theorem dX9_where_1 : decode cX9_where 1 = .ok (.iload_n 1, 1) := dk_27 (byr_X9_where_0 (j := 1) rfl)
theorem dX9_where_2 : decode cX9_where 2 = .ok (.invokevirtual 169, 3) := dk_182 (byr_X9_where_0 (j := 2) rfl) (byr_X9_where_0 (j := 3) rfl) (byr_X9_where_0 (j := 4) rfl) (by decide)
theorem dX9_where_5 : decode cX9_where 5 = .ok (.ifCond .eq 15, 3) := dk_153 (byr_X9_where_0 (j := 5) rfl) (byr_X9_where_0 (j := 6) rfl) (byr_X9_where_0 (j := 7) rfl) (by decide)
theorem dX9_where_8 : decode cX9_where 8 = .ok (.iload_n 2, 1) := dk_28 (byr_X9_where_0 (j := 8) rfl)
theorem dX9_where_9 : decode cX9_where 9 = .ok (.i2l, 1) := dk_133 (byr_X9_where_0 (j := 9) rfl)
theorem dX9_where_10 : decode cX9_where 10 = .ok (.lconst 0, 1) := dk_9 (byr_X9_where_0 (j := 10) rfl)
theorem dX9_where_11 : decode cX9_where 11 = .ok (.ldc2_w 196, 3) := dk_20 (byr_X9_where_0 (j := 11) rfl) (byr_X9_where_0 (j := 12) rfl) (byr_X9_where_0 (j := 13) rfl) (by decide)
theorem dX9_where_14 : decode cX9_where 14 = .ok (.invokestatic 49, 3) := dk_184 (byr_X9_where_0 (j := 14) rfl) (byr_X9_where_0 (j := 15) rfl) (byr_X9_where_1 (j := 0) rfl) (by decide)
theorem dX9_where_17 : decode cX9_where 17 = .ok (.ifCond .ne 9, 3) := dk_154 (byr_X9_where_1 (j := 1) rfl) (byr_X9_where_1 (j := 2) rfl) (byr_X9_where_1 (j := 3) rfl) (by decide)
theorem dX9_where_20 : decode cX9_where 20 = .ok (.aload_n 0, 1) := dk_42 (byr_X9_where_1 (j := 4) rfl)
theorem dX9_where_21 : decode cX9_where 21 = .ok (.iconst 1, 1) := dk_4 (byr_X9_where_1 (j := 5) rfl)
theorem dX9_where_22 : decode cX9_where 22 = .ok (.invokevirtual 126, 3) := dk_182 (byr_X9_where_1 (j := 6) rfl) (byr_X9_where_1 (j := 7) rfl) (byr_X9_where_1 (j := 8) rfl) (by decide)
theorem dX9_where_25 : decode cX9_where 25 = .ok (.ireturn, 1) := dk_172 (byr_X9_where_1 (j := 9) rfl)
theorem dX9_where_26 : decode cX9_where 26 = .ok (.aload_n 0, 1) := dk_42 (byr_X9_where_1 (j := 10) rfl)
theorem dX9_where_27 : decode cX9_where 27 = .ok (.iload_n 1, 1) := dk_27 (byr_X9_where_1 (j := 11) rfl)
theorem dX9_where_28 : decode cX9_where 28 = .ok (.iconst 2, 1) := dk_5 (byr_X9_where_1 (j := 12) rfl)
theorem dX9_where_29 : decode cX9_where 29 = .ok (.invokevirtual 172, 3) := dk_182 (byr_X9_where_1 (j := 13) rfl) (byr_X9_where_1 (j := 14) rfl) (byr_X9_where_1 (j := 15) rfl) (by decide)
theorem dX9_where_32 : decode cX9_where 32 = .ok (.ifCond .ne 7, 3) := dk_154 (byr_X9_where_2 (j := 0) rfl) (byr_X9_where_2 (j := 1) rfl) (byr_X9_where_2 (j := 2) rfl) (by decide)
theorem dX9_where_35 : decode cX9_where 35 = .ok (.iconst 0, 1) := dk_3 (byr_X9_where_2 (j := 3) rfl)
theorem dX9_where_36 : decode cX9_where 36 = .ok (.goto 6, 3) := dk_167 (byr_X9_where_2 (j := 4) rfl) (byr_X9_where_2 (j := 5) rfl) (byr_X9_where_2 (j := 6) rfl) (by decide)
theorem dX9_where_39 : decode cX9_where 39 = .ok (.sipush 1200, 3) := dk_17 (byr_X9_where_2 (j := 7) rfl) (byr_X9_where_2 (j := 8) rfl) (byr_X9_where_2 (j := 9) rfl) (by decide)
theorem dX9_where_42 : decode cX9_where 42 = .ok (.istore_n 3, 1) := dk_62 (byr_X9_where_2 (j := 10) rfl)
theorem dX9_where_43 : decode cX9_where 43 = .ok (.iconst 0, 1) := dk_3 (byr_X9_where_2 (j := 11) rfl)
theorem dX9_where_44 : decode cX9_where 44 = .ok (.istore 4, 2) := dk_54 (byr_X9_where_2 (j := 12) rfl) (byr_X9_where_2 (j := 13) rfl)
theorem dX9_where_46 : decode cX9_where 46 = .ok (.iload 4, 2) := dk_21 (byr_X9_where_2 (j := 14) rfl) (byr_X9_where_2 (j := 15) rfl)
theorem dX9_where_48 : decode cX9_where 48 = .ok (.iload_n 2, 1) := dk_28 (byr_X9_where_3 (j := 0) rfl)
theorem dX9_where_49 : decode cX9_where 49 = .ok (.if_icmp .ge 18, 3) := dk_162 (byr_X9_where_3 (j := 1) rfl) (byr_X9_where_3 (j := 2) rfl) (byr_X9_where_3 (j := 3) rfl) (by decide)
theorem dX9_where_52 : decode cX9_where 52 = .ok (.aload_n 0, 1) := dk_42 (byr_X9_where_3 (j := 4) rfl)
theorem dX9_where_53 : decode cX9_where 53 = .ok (.iload_n 1, 1) := dk_27 (byr_X9_where_3 (j := 5) rfl)
theorem dX9_where_54 : decode cX9_where 54 = .ok (.iload_n 3, 1) := dk_29 (byr_X9_where_3 (j := 6) rfl)
theorem dX9_where_55 : decode cX9_where 55 = .ok (.iload 4, 2) := dk_21 (byr_X9_where_3 (j := 7) rfl) (byr_X9_where_3 (j := 8) rfl)
theorem dX9_where_57 : decode cX9_where 57 = .ok (.invokevirtual 198, 3) := dk_182 (byr_X9_where_3 (j := 9) rfl) (byr_X9_where_3 (j := 10) rfl) (byr_X9_where_3 (j := 11) rfl) (by decide)
theorem dX9_where_60 : decode cX9_where 60 = .ok (.istore_n 3, 1) := dk_62 (byr_X9_where_3 (j := 12) rfl)
theorem dX9_where_61 : decode cX9_where 61 = .ok (.iinc 4 1, 3) := dk_132 (byr_X9_where_3 (j := 13) rfl) (byr_X9_where_3 (j := 14) rfl) (byr_X9_where_3 (j := 15) rfl) (by decide)
theorem dX9_where_64 : decode cX9_where 64 = .ok (.goto (-18), 3) := dk_167 (byr_X9_where_4 (j := 0) rfl) (byr_X9_where_4 (j := 1) rfl) (byr_X9_where_4 (j := 2) rfl) (by decide)
theorem dX9_where_67 : decode cX9_where 67 = .ok (.iload_n 3, 1) := dk_29 (byr_X9_where_4 (j := 3) rfl)
theorem dX9_where_68 : decode cX9_where 68 = .ok (.ireturn, 1) := dk_172 (byr_X9_where_4 (j := 4) rfl)
set_option maxHeartbeats 4000000 in
set_option maxRecDepth 100000 in
theorem c_X9_where (l : Launch) (G : GT) (σ : Sto) (a1 : Int32) (a2 : Int32) (r : (Int32 × Sto)) (h : f_X9_where σ a1 a2 = some r) : MW l G (7) (181) 0 0 yX9_where cX9_where 5 (Option.some Jvm.ClassFile.FieldType.int) [.ref (gad G 81), .int a1, .int a2] (wl G σ) (some (.int r.1)) (wl G r.2) := by
  refine mw_of RX9 (fiI G) [(0, .ref (gad G 81)), (1, .int a1), (2, .int a2)] (by decide +kernel) rfl (Nat.le_of_ble_eq_true rfl) rfl h rfl (fun p e s m args below meth c X hr hnm => ?_)
  have J46 : ∀ (v1 : Int32) (v2 : Int32)  (n : Nat) (v3 : Int32) (v4 : Int32) (σ : Sto), Sm p l e { frames := 7, cells := 0, slots := 0, locals := 181 } s m args below meth c G 5 (Qm below args s G 0 0 (fiI G)) 0 0 (wl G σ) 46 [(0, .ref (gad G 81)), (1, .int v1), (2, .int v2), (3, .int v3), (4, .int v4)] [] (f_X9_where_L46  v1 v2 n v3 v4 σ) := by
    intro v1 v2 n
    induction n with
    | zero => intro v3 v4 σ; rw [f_X9_where_L46]; exact sm_none
    | succ n ihl =>
      intro v3 v4 σ
      rw [f_X9_where_L46]
      refine sm_iload X 48 4 dX9_where_46 rfl rfl ?_
      refine sm_iload_n X 49 2 dX9_where_48 rfl rfl rfl ?_
      refine sm_icmp_ge X 52 67 dX9_where_49 rfl (by decide) (fun h49 => ?_) (fun h49 => ?_)
      · refine sm_iload_n X 68 3 dX9_where_67 rfl rfl rfl ?_
        exact sm_iret X hr dX9_where_68 rfl
      · refine sm_aload_n X 53 0 dX9_where_52 rfl rfl rfl ?_
        refine sm_iload_n X 54 1 dX9_where_53 rfl rfl rfl ?_
        refine sm_iload_n X 55 3 dX9_where_54 rfl rfl rfl ?_
        refine sm_iload X 57 4 dX9_where_55 rfl rfl ?_
        refine sm_bind (fun r57 h57 => ?_)
        refine sm_callV0 X 60 [.int v1, .int v3, .int v4] [] [.int r57.1] (c_X9_goes l G σ v1 v3 v4 r57 h57) cw_X9_goes q_1132 qs_47 q_1130 rfl (by decide) rfl rfl rfl rfl rfl (Nat.le_of_ble_eq_true rfl) ⟨Nat.le_of_ble_eq_true rfl, Nat.le_of_ble_eq_true rfl⟩ ⟨Nat.le_refl _, Nat.le_refl _⟩ dX9_where_57 rfl ?_
        refine sm_istore_n X 61 [(3, .int r57.1), (0, .ref (gad G 81)), (1, .int v1), (2, .int v2), (4, .int v4)] dX9_where_60 rfl rfl (by decide) rfl ?_
        refine sm_iinc X 64 4 (1 : Int32) [(4, .int (v4 + (1 : Int32))), (3, .int r57.1), (0, .ref (gad G 81)), (1, .int v1), (2, .int v2)] dX9_where_61 rfl rfl rfl (by decide) rfl ?_
        refine sm_goto X 46 dX9_where_64 (by decide) ?_
        exact sm_sub [2, 3, 4, 1, 0] rfl (ihl r57.1 (v4 + (1 : Int32)) r57.2)
  have J42 : ∀ (v1 : Int32) (v2 : Int32) (vs0 : Int32)  (σ : Sto), Sm p l e { frames := 7, cells := 0, slots := 0, locals := 181 } s m args below meth c G 5 (Qm below args s G 0 0 (fiI G)) 0 0 (wl G σ) 42 [(0, .ref (gad G 81)), (1, .int v1), (2, .int v2)] [.int vs0] (f_X9_where_L42  v1 v2 vs0 σ) := by
    intro v1 v2 vs0 σ
    rw [f_X9_where_L42]
    refine sm_istore_n X 43 [(3, .int vs0), (0, .ref (gad G 81)), (1, .int v1), (2, .int v2)] dX9_where_42 rfl rfl (by decide) rfl ?_
    refine sm_iconst X 44 (0) dX9_where_43 rfl rfl ?_
    refine sm_istore X 46 [(4, .int 0), (3, .int vs0), (0, .ref (gad G 81)), (1, .int v1), (2, .int v2)] dX9_where_44 rfl (by decide) rfl ?_
    exact sm_sub [2, 3, 4, 1, 0] rfl (J46 v1 v2  FU vs0 (0 : Int32) σ)
  unfold f_X9_where
  refine sm_aload_n X 1 0 dX9_where_0 rfl rfl rfl ?_
  refine sm_iload_n X 2 1 dX9_where_1 rfl rfl rfl ?_
  refine sm_bind (fun r2 h2 => ?_)
  refine sm_callV0 X 5 [.int a1] [] [.int (b2i r2)] (c_X9_isSwimmer l G σ a1 r2 h2) cw_X9_isSwimmer q_1086 qs_44 q_1084 rfl (by decide) rfl rfl rfl rfl rfl (Nat.le_of_ble_eq_true rfl) ⟨Nat.le_of_ble_eq_true rfl, Nat.le_of_ble_eq_true rfl⟩ ⟨Nat.le_refl _, Nat.le_refl _⟩ dX9_where_2 rfl ?_
  refine sm_ifz_eq X 8 20 dX9_where_5 rfl (by decide) (fun h5 => ?_) (fun h5 => ?_)
  · refine sm_iload_n X 9 2 dX9_where_8 rfl rfl rfl ?_
    refine sm_i2l X 10 dX9_where_9 rfl ?_
    refine sm_lconst X 11 (0) dX9_where_10 rfl rfl ?_
    refine sm_ldc2 X 14 (60) dX9_where_11 rfl q_1129 ?_
    refine sm_bind (fun r14 h14 => ?_)
    refine sm_callS0 X 17 [.long (Int32.toInt64 a2), .long (0 : Int64), .long (60 : Int64)] [] [.int (b2i r14)] (c_X9_in l G σ (Int32.toInt64 a2) (0 : Int64) (60 : Int64) r14 h14) cw_X9_in q_961 q_960 rfl rfl rfl (Nat.le_of_ble_eq_true rfl) ⟨Nat.le_of_ble_eq_true rfl, Nat.le_of_ble_eq_true rfl⟩ ⟨Nat.le_refl _, Nat.le_refl _⟩ dX9_where_14 rfl ?_
    refine sm_ifz_ne X 20 26 dX9_where_17 rfl (by decide) (fun h17 => ?_) (fun h17 => ?_)
    · refine sm_aload_n X 27 0 dX9_where_26 rfl rfl rfl ?_
      refine sm_iload_n X 28 1 dX9_where_27 rfl rfl rfl ?_
      refine sm_iconst X 29 (2) dX9_where_28 rfl rfl ?_
      refine sm_bind (fun r29 h29 => ?_)
      refine sm_callV0 X 32 [.int a1, .int 2] [] [.int r29] (c_X9_of l G σ a1 (2 : Int32) r29 h29) cw_X9_of q_1090 qs_45 q_1088 rfl (by decide) rfl rfl rfl rfl rfl (Nat.le_of_ble_eq_true rfl) ⟨Nat.le_of_ble_eq_true rfl, Nat.le_of_ble_eq_true rfl⟩ ⟨Nat.le_refl _, Nat.le_refl _⟩ dX9_where_29 rfl ?_
      refine sm_if_ne X 35 39 dX9_where_32 rfl (by decide) (fun h32 => ?_) (fun h32 => ?_)
      · refine sm_iconst X 36 (0) dX9_where_35 rfl rfl ?_
        refine sm_goto X 42 dX9_where_36 (by decide) ?_
        exact sm_sub [0, 1, 2] rfl (J42 a1 a2 (0 : Int32)  σ)
      · refine sm_sipush X 42 (1200) dX9_where_39 rfl rfl ?_
        exact sm_sub [0, 1, 2] rfl (J42 a1 a2 (1200 : Int32)  σ)
    · refine sm_aload_n X 21 0 dX9_where_20 rfl rfl rfl ?_
      refine sm_iconst X 22 (1) dX9_where_21 rfl rfl ?_
      refine sm_bind (fun r22 h22 => ?_)
      refine sm_callV0 X 25 [.int 1] [] [.int r22.1] (c_X9_finds l G σ (1 : Int32) r22 h22) cw_X9_finds q_965 qs_26 q_963 rfl (by decide) rfl rfl rfl rfl rfl (Nat.le_of_ble_eq_true rfl) ⟨Nat.le_of_ble_eq_true rfl, Nat.le_of_ble_eq_true rfl⟩ ⟨Nat.le_refl _, Nat.le_refl _⟩ dX9_where_22 rfl ?_
      exact sm_iret X hr dX9_where_25 rfl
  · refine sm_aload_n X 21 0 dX9_where_20 rfl rfl rfl ?_
    refine sm_iconst X 22 (1) dX9_where_21 rfl rfl ?_
    refine sm_bind (fun r22 h22 => ?_)
    refine sm_callV0 X 25 [.int 1] [] [.int r22.1] (c_X9_finds l G σ (1 : Int32) r22 h22) cw_X9_finds q_965 qs_26 q_963 rfl (by decide) rfl rfl rfl rfl rfl (Nat.le_of_ble_eq_true rfl) ⟨Nat.le_of_ble_eq_true rfl, Nat.le_of_ble_eq_true rfl⟩ ⟨Nat.le_refl _, Nat.le_refl _⟩ dX9_where_22 rfl ?_
    exact sm_iret X hr dX9_where_25 rfl
def by_X9_swim_0 : List Nat := [42, 27, 5, 182, 0, 172, 154, 0, 7, 27, 167, 0, 4, 28, 62, 27]
def by_X9_swim_1 : List Nat := [28, 96, 29, 100, 54, 4, 3, 54, 5, 17, 4, 176, 54, 6, 42, 2]
def by_X9_swim_2 : List Nat := [181, 0, 201, 3, 54, 7, 21, 7, 16, 60, 162, 0, 84, 42, 29, 21]
def by_X9_swim_3 : List Nat := [5, 21, 7, 182, 0, 198, 54, 5, 42, 21, 4, 21, 6, 21, 7, 182]
def by_X9_swim_4 : List Nat := [0, 198, 54, 6, 42, 29, 21, 7, 182, 0, 193, 42, 21, 4, 21, 7]
def by_X9_swim_5 : List Nat := [182, 0, 193, 160, 0, 37, 21, 6, 21, 5, 100, 42, 180, 0, 7, 16]
def by_X9_swim_6 : List Nat := [7, 46, 163, 0, 22, 42, 21, 7, 181, 0, 201, 42, 21, 5, 21, 6]
def by_X9_swim_7 : List Nat := [96, 5, 108, 181, 0, 204, 4, 172, 132, 7, 1, 167, 255, 171, 3, 172]
def by_X9_swim_z : List Nat := []
def by_X9_swim : List (List Nat) := [by_X9_swim_0, by_X9_swim_1, by_X9_swim_2, by_X9_swim_3, by_X9_swim_4, by_X9_swim_5, by_X9_swim_6, by_X9_swim_7]
set_option maxRecDepth 100000 in
theorem byo_X9_swim : cX9_swim.data.toList.map UInt8.toNat = by_X9_swim.flatten ++ by_X9_swim_z := by decide +kernel
theorem byl_X9_swim : by_X9_swim.all (fun r => r.length == 16) = true := by decide +kernel
theorem byr_X9_swim_0 {j v : Nat} (h : by_X9_swim_0[j]? = some v) : RD cX9_swim (0 + j) v := rd_16 byo_X9_swim byl_X9_swim 0 rfl h
theorem byr_X9_swim_1 {j v : Nat} (h : by_X9_swim_1[j]? = some v) : RD cX9_swim (16 + j) v := rd_16 byo_X9_swim byl_X9_swim 1 rfl h
theorem byr_X9_swim_2 {j v : Nat} (h : by_X9_swim_2[j]? = some v) : RD cX9_swim (32 + j) v := rd_16 byo_X9_swim byl_X9_swim 2 rfl h
theorem byr_X9_swim_3 {j v : Nat} (h : by_X9_swim_3[j]? = some v) : RD cX9_swim (48 + j) v := rd_16 byo_X9_swim byl_X9_swim 3 rfl h
theorem byr_X9_swim_4 {j v : Nat} (h : by_X9_swim_4[j]? = some v) : RD cX9_swim (64 + j) v := rd_16 byo_X9_swim byl_X9_swim 4 rfl h
theorem byr_X9_swim_5 {j v : Nat} (h : by_X9_swim_5[j]? = some v) : RD cX9_swim (80 + j) v := rd_16 byo_X9_swim byl_X9_swim 5 rfl h
theorem byr_X9_swim_6 {j v : Nat} (h : by_X9_swim_6[j]? = some v) : RD cX9_swim (96 + j) v := rd_16 byo_X9_swim byl_X9_swim 6 rfl h
theorem byr_X9_swim_7 {j v : Nat} (h : by_X9_swim_7[j]? = some v) : RD cX9_swim (112 + j) v := rd_16 byo_X9_swim byl_X9_swim 7 rfl h
theorem byr_X9_swim_8 {j v : Nat} (h : by_X9_swim_z[j]? = some v) : RD cX9_swim (128 + j) v := rd_z byo_X9_swim byl_X9_swim 8 rfl h
theorem dX9_swim_0 : decode cX9_swim 0 = .ok (.aload_n 0, 1) := dk_42 (byr_X9_swim_0 (j := 0) rfl)
theorem dX9_swim_1 : decode cX9_swim 1 = .ok (.iload_n 1, 1) := dk_27 (byr_X9_swim_0 (j := 1) rfl)
theorem dX9_swim_2 : decode cX9_swim 2 = .ok (.iconst 2, 1) := dk_5 (byr_X9_swim_0 (j := 2) rfl)
theorem dX9_swim_3 : decode cX9_swim 3 = .ok (.invokevirtual 172, 3) := dk_182 (byr_X9_swim_0 (j := 3) rfl) (byr_X9_swim_0 (j := 4) rfl) (byr_X9_swim_0 (j := 5) rfl) (by decide)
theorem dX9_swim_6 : decode cX9_swim 6 = .ok (.ifCond .ne 7, 3) := dk_154 (byr_X9_swim_0 (j := 6) rfl) (byr_X9_swim_0 (j := 7) rfl) (byr_X9_swim_0 (j := 8) rfl) (by decide)
theorem dX9_swim_9 : decode cX9_swim 9 = .ok (.iload_n 1, 1) := dk_27 (byr_X9_swim_0 (j := 9) rfl)
theorem dX9_swim_10 : decode cX9_swim 10 = .ok (.goto 4, 3) := dk_167 (byr_X9_swim_0 (j := 10) rfl) (byr_X9_swim_0 (j := 11) rfl) (byr_X9_swim_0 (j := 12) rfl) (by decide)
theorem dX9_swim_13 : decode cX9_swim 13 = .ok (.iload_n 2, 1) := dk_28 (byr_X9_swim_0 (j := 13) rfl)
theorem dX9_swim_14 : decode cX9_swim 14 = .ok (.istore_n 3, 1) := dk_62 (byr_X9_swim_0 (j := 14) rfl)
theorem dX9_swim_15 : decode cX9_swim 15 = .ok (.iload_n 1, 1) := dk_27 (byr_X9_swim_0 (j := 15) rfl)
theorem dX9_swim_16 : decode cX9_swim 16 = .ok (.iload_n 2, 1) := dk_28 (byr_X9_swim_1 (j := 0) rfl)
theorem dX9_swim_17 : decode cX9_swim 17 = .ok (.iadd, 1) := dk_96 (byr_X9_swim_1 (j := 1) rfl)
theorem dX9_swim_18 : decode cX9_swim 18 = .ok (.iload_n 3, 1) := dk_29 (byr_X9_swim_1 (j := 2) rfl)
theorem dX9_swim_19 : decode cX9_swim 19 = .ok (.isub, 1) := dk_100 (byr_X9_swim_1 (j := 3) rfl)
theorem dX9_swim_20 : decode cX9_swim 20 = .ok (.istore 4, 2) := dk_54 (byr_X9_swim_1 (j := 4) rfl) (byr_X9_swim_1 (j := 5) rfl)
theorem dX9_swim_22 : decode cX9_swim 22 = .ok (.iconst 0, 1) := dk_3 (byr_X9_swim_1 (j := 6) rfl)
theorem dX9_swim_23 : decode cX9_swim 23 = .ok (.istore 5, 2) := dk_54 (byr_X9_swim_1 (j := 7) rfl) (byr_X9_swim_1 (j := 8) rfl)
theorem dX9_swim_25 : decode cX9_swim 25 = .ok (.sipush 1200, 3) := dk_17 (byr_X9_swim_1 (j := 9) rfl) (byr_X9_swim_1 (j := 10) rfl) (byr_X9_swim_1 (j := 11) rfl) (by decide)
theorem dX9_swim_28 : decode cX9_swim 28 = .ok (.istore 6, 2) := dk_54 (byr_X9_swim_1 (j := 12) rfl) (byr_X9_swim_1 (j := 13) rfl)
theorem dX9_swim_30 : decode cX9_swim 30 = .ok (.aload_n 0, 1) := dk_42 (byr_X9_swim_1 (j := 14) rfl)
theorem dX9_swim_31 : decode cX9_swim 31 = .ok (.iconst (-1), 1) := dk_2 (byr_X9_swim_1 (j := 15) rfl)
theorem dX9_swim_32 : decode cX9_swim 32 = .ok (.putfield 201, 3) := dk_181 (byr_X9_swim_2 (j := 0) rfl) (byr_X9_swim_2 (j := 1) rfl) (byr_X9_swim_2 (j := 2) rfl) (by decide)
theorem dX9_swim_35 : decode cX9_swim 35 = .ok (.iconst 0, 1) := dk_3 (byr_X9_swim_2 (j := 3) rfl)
theorem dX9_swim_36 : decode cX9_swim 36 = .ok (.istore 7, 2) := dk_54 (byr_X9_swim_2 (j := 4) rfl) (byr_X9_swim_2 (j := 5) rfl)
theorem dX9_swim_38 : decode cX9_swim 38 = .ok (.iload 7, 2) := dk_21 (byr_X9_swim_2 (j := 6) rfl) (byr_X9_swim_2 (j := 7) rfl)
theorem dX9_swim_40 : decode cX9_swim 40 = .ok (.bipush 60, 2) := dk_16 (byr_X9_swim_2 (j := 8) rfl) (byr_X9_swim_2 (j := 9) rfl) (by decide)
theorem dX9_swim_42 : decode cX9_swim 42 = .ok (.if_icmp .ge 84, 3) := dk_162 (byr_X9_swim_2 (j := 10) rfl) (byr_X9_swim_2 (j := 11) rfl) (byr_X9_swim_2 (j := 12) rfl) (by decide)
theorem dX9_swim_45 : decode cX9_swim 45 = .ok (.aload_n 0, 1) := dk_42 (byr_X9_swim_2 (j := 13) rfl)
theorem dX9_swim_46 : decode cX9_swim 46 = .ok (.iload_n 3, 1) := dk_29 (byr_X9_swim_2 (j := 14) rfl)
theorem dX9_swim_47 : decode cX9_swim 47 = .ok (.iload 5, 2) := dk_21 (byr_X9_swim_2 (j := 15) rfl) (byr_X9_swim_3 (j := 0) rfl)
theorem dX9_swim_49 : decode cX9_swim 49 = .ok (.iload 7, 2) := dk_21 (byr_X9_swim_3 (j := 1) rfl) (byr_X9_swim_3 (j := 2) rfl)
theorem dX9_swim_51 : decode cX9_swim 51 = .ok (.invokevirtual 198, 3) := dk_182 (byr_X9_swim_3 (j := 3) rfl) (byr_X9_swim_3 (j := 4) rfl) (byr_X9_swim_3 (j := 5) rfl) (by decide)
theorem dX9_swim_54 : decode cX9_swim 54 = .ok (.istore 5, 2) := dk_54 (byr_X9_swim_3 (j := 6) rfl) (byr_X9_swim_3 (j := 7) rfl)
theorem dX9_swim_56 : decode cX9_swim 56 = .ok (.aload_n 0, 1) := dk_42 (byr_X9_swim_3 (j := 8) rfl)
theorem dX9_swim_57 : decode cX9_swim 57 = .ok (.iload 4, 2) := dk_21 (byr_X9_swim_3 (j := 9) rfl) (byr_X9_swim_3 (j := 10) rfl)
theorem dX9_swim_59 : decode cX9_swim 59 = .ok (.iload 6, 2) := dk_21 (byr_X9_swim_3 (j := 11) rfl) (byr_X9_swim_3 (j := 12) rfl)
theorem dX9_swim_61 : decode cX9_swim 61 = .ok (.iload 7, 2) := dk_21 (byr_X9_swim_3 (j := 13) rfl) (byr_X9_swim_3 (j := 14) rfl)
theorem dX9_swim_63 : decode cX9_swim 63 = .ok (.invokevirtual 198, 3) := dk_182 (byr_X9_swim_3 (j := 15) rfl) (byr_X9_swim_4 (j := 0) rfl) (byr_X9_swim_4 (j := 1) rfl) (by decide)
theorem dX9_swim_66 : decode cX9_swim 66 = .ok (.istore 6, 2) := dk_54 (byr_X9_swim_4 (j := 2) rfl) (byr_X9_swim_4 (j := 3) rfl)
theorem dX9_swim_68 : decode cX9_swim 68 = .ok (.aload_n 0, 1) := dk_42 (byr_X9_swim_4 (j := 4) rfl)
theorem dX9_swim_69 : decode cX9_swim 69 = .ok (.iload_n 3, 1) := dk_29 (byr_X9_swim_4 (j := 5) rfl)
theorem dX9_swim_70 : decode cX9_swim 70 = .ok (.iload 7, 2) := dk_21 (byr_X9_swim_4 (j := 6) rfl) (byr_X9_swim_4 (j := 7) rfl)
theorem dX9_swim_72 : decode cX9_swim 72 = .ok (.invokevirtual 193, 3) := dk_182 (byr_X9_swim_4 (j := 8) rfl) (byr_X9_swim_4 (j := 9) rfl) (byr_X9_swim_4 (j := 10) rfl) (by decide)
theorem dX9_swim_75 : decode cX9_swim 75 = .ok (.aload_n 0, 1) := dk_42 (byr_X9_swim_4 (j := 11) rfl)
theorem dX9_swim_76 : decode cX9_swim 76 = .ok (.iload 4, 2) := dk_21 (byr_X9_swim_4 (j := 12) rfl) (byr_X9_swim_4 (j := 13) rfl)
theorem dX9_swim_78 : decode cX9_swim 78 = .ok (.iload 7, 2) := dk_21 (byr_X9_swim_4 (j := 14) rfl) (byr_X9_swim_4 (j := 15) rfl)
theorem dX9_swim_80 : decode cX9_swim 80 = .ok (.invokevirtual 193, 3) := dk_182 (byr_X9_swim_5 (j := 0) rfl) (byr_X9_swim_5 (j := 1) rfl) (byr_X9_swim_5 (j := 2) rfl) (by decide)
theorem dX9_swim_83 : decode cX9_swim 83 = .ok (.if_icmp .ne 37, 3) := dk_160 (byr_X9_swim_5 (j := 3) rfl) (byr_X9_swim_5 (j := 4) rfl) (byr_X9_swim_5 (j := 5) rfl) (by decide)
theorem dX9_swim_86 : decode cX9_swim 86 = .ok (.iload 6, 2) := dk_21 (byr_X9_swim_5 (j := 6) rfl) (byr_X9_swim_5 (j := 7) rfl)
theorem dX9_swim_88 : decode cX9_swim 88 = .ok (.iload 5, 2) := dk_21 (byr_X9_swim_5 (j := 8) rfl) (byr_X9_swim_5 (j := 9) rfl)
theorem dX9_swim_90 : decode cX9_swim 90 = .ok (.isub, 1) := dk_100 (byr_X9_swim_5 (j := 10) rfl)
theorem dX9_swim_91 : decode cX9_swim 91 = .ok (.aload_n 0, 1) := dk_42 (byr_X9_swim_5 (j := 11) rfl)
theorem dX9_swim_92 : decode cX9_swim 92 = .ok (.getfield 7, 3) := dk_180 (byr_X9_swim_5 (j := 12) rfl) (byr_X9_swim_5 (j := 13) rfl) (byr_X9_swim_5 (j := 14) rfl) (by decide)
theorem dX9_swim_95 : decode cX9_swim 95 = .ok (.bipush 7, 2) := dk_16 (byr_X9_swim_5 (j := 15) rfl) (byr_X9_swim_6 (j := 0) rfl) (by decide)
theorem dX9_swim_97 : decode cX9_swim 97 = .ok (.iaload, 1) := dk_46 (byr_X9_swim_6 (j := 1) rfl)
theorem dX9_swim_98 : decode cX9_swim 98 = .ok (.if_icmp .gt 22, 3) := dk_163 (byr_X9_swim_6 (j := 2) rfl) (byr_X9_swim_6 (j := 3) rfl) (byr_X9_swim_6 (j := 4) rfl) (by decide)
theorem dX9_swim_101 : decode cX9_swim 101 = .ok (.aload_n 0, 1) := dk_42 (byr_X9_swim_6 (j := 5) rfl)
theorem dX9_swim_102 : decode cX9_swim 102 = .ok (.iload 7, 2) := dk_21 (byr_X9_swim_6 (j := 6) rfl) (byr_X9_swim_6 (j := 7) rfl)
theorem dX9_swim_104 : decode cX9_swim 104 = .ok (.putfield 201, 3) := dk_181 (byr_X9_swim_6 (j := 8) rfl) (byr_X9_swim_6 (j := 9) rfl) (byr_X9_swim_6 (j := 10) rfl) (by decide)
theorem dX9_swim_107 : decode cX9_swim 107 = .ok (.aload_n 0, 1) := dk_42 (byr_X9_swim_6 (j := 11) rfl)
theorem dX9_swim_108 : decode cX9_swim 108 = .ok (.iload 5, 2) := dk_21 (byr_X9_swim_6 (j := 12) rfl) (byr_X9_swim_6 (j := 13) rfl)
theorem dX9_swim_110 : decode cX9_swim 110 = .ok (.iload 6, 2) := dk_21 (byr_X9_swim_6 (j := 14) rfl) (byr_X9_swim_6 (j := 15) rfl)
theorem dX9_swim_112 : decode cX9_swim 112 = .ok (.iadd, 1) := dk_96 (byr_X9_swim_7 (j := 0) rfl)
theorem dX9_swim_113 : decode cX9_swim 113 = .ok (.iconst 2, 1) := dk_5 (byr_X9_swim_7 (j := 1) rfl)
theorem dX9_swim_114 : decode cX9_swim 114 = .ok (.idiv, 1) := dk_108 (byr_X9_swim_7 (j := 2) rfl)
theorem dX9_swim_115 : decode cX9_swim 115 = .ok (.putfield 204, 3) := dk_181 (byr_X9_swim_7 (j := 3) rfl) (byr_X9_swim_7 (j := 4) rfl) (byr_X9_swim_7 (j := 5) rfl) (by decide)
theorem dX9_swim_118 : decode cX9_swim 118 = .ok (.iconst 1, 1) := dk_4 (byr_X9_swim_7 (j := 6) rfl)
theorem dX9_swim_119 : decode cX9_swim 119 = .ok (.ireturn, 1) := dk_172 (byr_X9_swim_7 (j := 7) rfl)
theorem dX9_swim_120 : decode cX9_swim 120 = .ok (.iinc 7 1, 3) := dk_132 (byr_X9_swim_7 (j := 8) rfl) (byr_X9_swim_7 (j := 9) rfl) (byr_X9_swim_7 (j := 10) rfl) (by decide)
theorem dX9_swim_123 : decode cX9_swim 123 = .ok (.goto (-85), 3) := dk_167 (byr_X9_swim_7 (j := 11) rfl) (byr_X9_swim_7 (j := 12) rfl) (byr_X9_swim_7 (j := 13) rfl) (by decide)
theorem dX9_swim_126 : decode cX9_swim 126 = .ok (.iconst 0, 1) := dk_3 (byr_X9_swim_7 (j := 14) rfl)
theorem dX9_swim_127 : decode cX9_swim 127 = .ok (.ireturn, 1) := dk_172 (byr_X9_swim_7 (j := 15) rfl)
set_option maxHeartbeats 4000000 in
set_option maxRecDepth 100000 in
theorem c_X9_swim (l : Launch) (G : GT) (σ : Sto) (a1 : Int32) (a2 : Int32) (r : (Bool × Sto)) (h : f_X9_swim σ a1 a2 = some r) : MW l G (7) (181) 0 0 yX9_swim cX9_swim 8 (Option.some Jvm.ClassFile.FieldType.boolean) [.ref (gad G 81), .int a1, .int a2] (wl G σ) (some (.int (b2i r.1))) (wl G r.2) := by
  refine mw_of RX9 (fiZ G) [(0, .ref (gad G 81)), (1, .int a1), (2, .int a2)] (by decide +kernel) rfl (Nat.le_of_ble_eq_true rfl) rfl h rfl (fun p e s m args below meth c X hr hnm => ?_)
  have J120 : ∀ (v3 : Int32) (v4 : Int32) (v5 : Int32) (v6 : Int32) (v7 : Int32) (K38 : Int32 → Int32 → Int32 → Sto → Option (Bool × Sto)) (hK38 : ∀ (v5' : Int32) (v6' : Int32) (v7' : Int32) (σ' : Sto), Sm p l e { frames := 7, cells := 0, slots := 0, locals := 181 } s m args below meth c G 8 (Qm below args s G 0 0 (fiZ G)) 0 0 (wl G σ') 38 [(0, .ref (gad G 81)), (3, .int v3), (4, .int v4), (5, .int v5'), (6, .int v6'), (7, .int v7')] [] (K38 v5' v6' v7' σ')) (σ : Sto), Sm p l e { frames := 7, cells := 0, slots := 0, locals := 181 } s m args below meth c G 8 (Qm below args s G 0 0 (fiZ G)) 0 0 (wl G σ) 120 [(0, .ref (gad G 81)), (3, .int v3), (4, .int v4), (5, .int v5), (6, .int v6), (7, .int v7)] [] (f_X9_swim_L120 K38 v3 v4 v5 v6 v7 σ) := by
    intro v3 v4 v5 v6 v7 K38 hK38 σ
    rw [f_X9_swim_L120]
    refine sm_iinc X 123 5 (1 : Int32) [(7, .int (v7 + (1 : Int32))), (0, .ref (gad G 81)), (3, .int v3), (4, .int v4), (5, .int v5), (6, .int v6)] dX9_swim_120 rfl rfl rfl (by decide) rfl ?_
    refine sm_goto X 38 dX9_swim_123 (by decide) ?_
    exact sm_sub [1, 2, 3, 4, 5, 0] rfl (hK38 v5 v6 (v7 + (1 : Int32)) σ)
  have J38 : ∀ (v3 : Int32) (v4 : Int32)  (n : Nat) (v5 : Int32) (v6 : Int32) (v7 : Int32) (σ : Sto), Sm p l e { frames := 7, cells := 0, slots := 0, locals := 181 } s m args below meth c G 8 (Qm below args s G 0 0 (fiZ G)) 0 0 (wl G σ) 38 [(0, .ref (gad G 81)), (3, .int v3), (4, .int v4), (5, .int v5), (6, .int v6), (7, .int v7)] [] (f_X9_swim_L38  v3 v4 n v5 v6 v7 σ) := by
    intro v3 v4 n
    induction n with
    | zero => intro v5 v6 v7 σ; rw [f_X9_swim_L38]; exact sm_none
    | succ n ihl =>
      intro v5 v6 v7 σ
      rw [f_X9_swim_L38]
      refine sm_iload X 40 5 dX9_swim_38 rfl rfl ?_
      refine sm_bipush X 42 (60) dX9_swim_40 rfl rfl ?_
      refine sm_icmp_ge X 45 126 dX9_swim_42 rfl (by decide) (fun h42 => ?_) (fun h42 => ?_)
      · refine sm_iconst X 127 (0) dX9_swim_126 rfl rfl ?_
        exact sm_zret X (v := false) hr dX9_swim_127 rfl
      · refine sm_aload_n X 46 0 dX9_swim_45 rfl rfl rfl ?_
        refine sm_iload_n X 47 1 dX9_swim_46 rfl rfl rfl ?_
        refine sm_iload X 49 3 dX9_swim_47 rfl rfl ?_
        refine sm_iload X 51 5 dX9_swim_49 rfl rfl ?_
        refine sm_bind (fun r51 h51 => ?_)
        refine sm_callV0 X 54 [.int v3, .int v5, .int v7] [] [.int r51.1] (c_X9_goes l G σ v3 v5 v7 r51 h51) cw_X9_goes q_1132 qs_47 q_1130 rfl (by decide) rfl rfl rfl rfl rfl (Nat.le_of_ble_eq_true rfl) ⟨Nat.le_of_ble_eq_true rfl, Nat.le_of_ble_eq_true rfl⟩ ⟨Nat.le_refl _, Nat.le_refl _⟩ dX9_swim_51 rfl ?_
        refine sm_istore X 56 [(5, .int r51.1), (0, .ref (gad G 81)), (3, .int v3), (4, .int v4), (6, .int v6), (7, .int v7)] dX9_swim_54 rfl (by decide) rfl ?_
        refine sm_aload_n X 57 1 dX9_swim_56 rfl rfl rfl ?_
        refine sm_iload X 59 3 dX9_swim_57 rfl rfl ?_
        refine sm_iload X 61 4 dX9_swim_59 rfl rfl ?_
        refine sm_iload X 63 5 dX9_swim_61 rfl rfl ?_
        refine sm_bind (fun r63 h63 => ?_)
        refine sm_callV0 X 66 [.int v4, .int v6, .int v7] [] [.int r63.1] (c_X9_goes l G r51.2 v4 v6 v7 r63 h63) cw_X9_goes q_1132 qs_47 q_1130 rfl (by decide) rfl rfl rfl rfl rfl (Nat.le_of_ble_eq_true rfl) ⟨Nat.le_of_ble_eq_true rfl, Nat.le_of_ble_eq_true rfl⟩ ⟨Nat.le_refl _, Nat.le_refl _⟩ dX9_swim_63 rfl ?_
        refine sm_istore X 68 [(6, .int r63.1), (5, .int r51.1), (0, .ref (gad G 81)), (3, .int v3), (4, .int v4), (7, .int v7)] dX9_swim_66 rfl (by decide) rfl ?_
        refine sm_aload_n X 69 2 dX9_swim_68 rfl rfl rfl ?_
        refine sm_iload_n X 70 3 dX9_swim_69 rfl rfl rfl ?_
        refine sm_iload X 72 5 dX9_swim_70 rfl rfl ?_
        refine sm_bind (fun r72 h72 => ?_)
        refine sm_callV0 X 75 [.int v3, .int v7] [] [.int r72] (c_X9_laneOf l G r63.2 v3 v7 r72 h72) cw_X9_laneOf q_1136 qs_48 q_1134 rfl (by decide) rfl rfl rfl rfl rfl (Nat.le_of_ble_eq_true rfl) ⟨Nat.le_of_ble_eq_true rfl, Nat.le_of_ble_eq_true rfl⟩ ⟨Nat.le_refl _, Nat.le_refl _⟩ dX9_swim_72 rfl ?_
        refine sm_aload_n X 76 2 dX9_swim_75 rfl rfl rfl ?_
        refine sm_iload X 78 4 dX9_swim_76 rfl rfl ?_
        refine sm_iload X 80 5 dX9_swim_78 rfl rfl ?_
        refine sm_bind (fun r80 h80 => ?_)
        refine sm_callV0 X 83 [.int v4, .int v7] [.int r72] [.int r80, .int r72] (c_X9_laneOf l G r63.2 v4 v7 r80 h80) cw_X9_laneOf q_1136 qs_48 q_1134 rfl (by decide) rfl rfl rfl rfl rfl (Nat.le_of_ble_eq_true rfl) ⟨Nat.le_of_ble_eq_true rfl, Nat.le_of_ble_eq_true rfl⟩ ⟨Nat.le_refl _, Nat.le_refl _⟩ dX9_swim_80 rfl ?_
        refine sm_icmp_ne X 86 120 dX9_swim_83 rfl (by decide) (fun h83 => ?_) (fun h83 => ?_)
        · refine sm_iload X 88 0 dX9_swim_86 rfl rfl ?_
          refine sm_iload X 90 1 dX9_swim_88 rfl rfl ?_
          refine sm_isub X 91 dX9_swim_90 rfl ?_
          refine sm_aload_n X 92 2 dX9_swim_91 rfl rfl rfl ?_
          refine sm_getf X 95 82 rfl fd_9_0 rfl dX9_swim_92 rfl q_882 ?_
          refine sm_bipush X 97 (7) dX9_swim_95 rfl rfl ?_
          refine sm_iald X 98 rfl dX9_swim_97 rfl (fun r97 e97 => ?_)
          clear e97
          refine sm_icmp_gt X 101 120 dX9_swim_98 rfl (by decide) (fun h98 => ?_) (fun h98 => ?_)
          · exact sm_sub [2, 3, 4, 1, 0, 5] rfl (J120 v3 v4 r51.1 r63.1 v7 (f_X9_swim_L38  v3 v4 n) ihl r63.2)
          · refine sm_aload_n X 102 2 dX9_swim_101 rfl rfl rfl ?_
            refine sm_iload X 104 5 dX9_swim_102 rfl rfl ?_
            refine sm_puti X 107 .int rfl fd_9_15 (by decide) rfl rfl rfl dX9_swim_104 rfl q_897 (fun σ104 e104 => ?_)
            clear e104
            refine sm_aload_n X 108 2 dX9_swim_107 rfl rfl rfl ?_
            refine sm_iload X 110 1 dX9_swim_108 rfl rfl ?_
            refine sm_iload X 112 0 dX9_swim_110 rfl rfl ?_
            refine sm_iadd X 113 dX9_swim_112 rfl ?_
            refine sm_iconst X 114 (2) dX9_swim_113 rfl rfl ?_
            refine sm_idiv X 115 dX9_swim_114 rfl (by first | decide | assumption) ?_
            refine sm_puti X 118 .int rfl fd_9_16 (by decide) rfl rfl rfl dX9_swim_115 rfl q_898 (fun σ115 e115 => ?_)
            clear e115
            refine sm_iconst X 119 (1) dX9_swim_118 rfl rfl ?_
            exact sm_zret X (v := true) hr dX9_swim_119 rfl
        · exact sm_sub [2, 3, 4, 1, 0, 5] rfl (J120 v3 v4 r51.1 r63.1 v7 (f_X9_swim_L38  v3 v4 n) ihl r63.2)
  have J14 : ∀ (v1 : Int32) (v2 : Int32) (vs0 : Int32)  (σ : Sto), Sm p l e { frames := 7, cells := 0, slots := 0, locals := 181 } s m args below meth c G 8 (Qm below args s G 0 0 (fiZ G)) 0 0 (wl G σ) 14 [(0, .ref (gad G 81)), (1, .int v1), (2, .int v2)] [.int vs0] (f_X9_swim_L14  v1 v2 vs0 σ) := by
    intro v1 v2 vs0 σ
    rw [f_X9_swim_L14]
    refine sm_istore_n X 15 [(3, .int vs0), (0, .ref (gad G 81)), (1, .int v1), (2, .int v2)] dX9_swim_14 rfl rfl (by decide) rfl ?_
    refine sm_iload_n X 16 2 dX9_swim_15 rfl rfl rfl ?_
    refine sm_iload_n X 17 3 dX9_swim_16 rfl rfl rfl ?_
    refine sm_iadd X 18 dX9_swim_17 rfl ?_
    refine sm_iload_n X 19 0 dX9_swim_18 rfl rfl rfl ?_
    refine sm_isub X 20 dX9_swim_19 rfl ?_
    refine sm_istore X 22 [(4, .int ((v1 + v2) - vs0)), (3, .int vs0), (0, .ref (gad G 81)), (1, .int v1), (2, .int v2)] dX9_swim_20 rfl (by decide) rfl ?_
    refine sm_iconst X 23 (0) dX9_swim_22 rfl rfl ?_
    refine sm_istore X 25 [(5, .int 0), (4, .int ((v1 + v2) - vs0)), (3, .int vs0), (0, .ref (gad G 81)), (1, .int v1), (2, .int v2)] dX9_swim_23 rfl (by decide) rfl ?_
    refine sm_sipush X 28 (1200) dX9_swim_25 rfl rfl ?_
    refine sm_istore X 30 [(6, .int 1200), (5, .int 0), (4, .int ((v1 + v2) - vs0)), (3, .int vs0), (0, .ref (gad G 81)), (1, .int v1), (2, .int v2)] dX9_swim_28 rfl (by decide) rfl ?_
    refine sm_aload_n X 31 4 dX9_swim_30 rfl rfl rfl ?_
    refine sm_iconst X 32 (-1) dX9_swim_31 rfl rfl ?_
    refine sm_puti X 35 .int rfl fd_9_15 (by decide) rfl rfl rfl dX9_swim_32 rfl q_897 (fun σ32 e32 => ?_)
    clear e32
    refine sm_iconst X 36 (0) dX9_swim_35 rfl rfl ?_
    refine sm_istore X 38 [(7, .int 0), (6, .int 1200), (5, .int 0), (4, .int ((v1 + v2) - vs0)), (3, .int vs0), (0, .ref (gad G 81)), (1, .int v1), (2, .int v2)] dX9_swim_36 rfl (by decide) rfl ?_
    exact sm_sub [5, 4, 3, 2, 1, 0] rfl (J38 vs0 ((v1 + v2) - vs0)  FU (0 : Int32) (1200 : Int32) (0 : Int32) σ32)
  unfold f_X9_swim
  refine sm_aload_n X 1 0 dX9_swim_0 rfl rfl rfl ?_
  refine sm_iload_n X 2 1 dX9_swim_1 rfl rfl rfl ?_
  refine sm_iconst X 3 (2) dX9_swim_2 rfl rfl ?_
  refine sm_bind (fun r3 h3 => ?_)
  refine sm_callV0 X 6 [.int a1, .int 2] [] [.int r3] (c_X9_of l G σ a1 (2 : Int32) r3 h3) cw_X9_of q_1090 qs_45 q_1088 rfl (by decide) rfl rfl rfl rfl rfl (Nat.le_of_ble_eq_true rfl) ⟨Nat.le_of_ble_eq_true rfl, Nat.le_of_ble_eq_true rfl⟩ ⟨Nat.le_refl _, Nat.le_refl _⟩ dX9_swim_3 rfl ?_
  refine sm_if_ne X 9 13 dX9_swim_6 rfl (by decide) (fun h6 => ?_) (fun h6 => ?_)
  · refine sm_iload_n X 10 1 dX9_swim_9 rfl rfl rfl ?_
    refine sm_goto X 14 dX9_swim_10 (by decide) ?_
    exact sm_sub [0, 1, 2] rfl (J14 a1 a2 a1  σ)
  · refine sm_iload_n X 14 2 dX9_swim_13 rfl rfl rfl ?_
    exact sm_sub [0, 1, 2] rfl (J14 a1 a2 a2  σ)
def by_X9_areUnlike_0 : List Nat := [42, 27, 182, 0, 169, 153, 0, 30, 42, 28, 182, 0, 169, 153, 0, 22]
def by_X9_areUnlike_1 : List Nat := [42, 27, 5, 182, 0, 172, 42, 28, 5, 182, 0, 172, 159, 0, 7, 4]
def by_X9_areUnlike_z : List Nat := [167, 0, 4, 3, 172]
def by_X9_areUnlike : List (List Nat) := [by_X9_areUnlike_0, by_X9_areUnlike_1]
set_option maxRecDepth 100000 in
theorem byo_X9_areUnlike : cX9_areUnlike.data.toList.map UInt8.toNat = by_X9_areUnlike.flatten ++ by_X9_areUnlike_z := by decide +kernel
theorem byl_X9_areUnlike : by_X9_areUnlike.all (fun r => r.length == 16) = true := by decide +kernel
theorem byr_X9_areUnlike_0 {j v : Nat} (h : by_X9_areUnlike_0[j]? = some v) : RD cX9_areUnlike (0 + j) v := rd_16 byo_X9_areUnlike byl_X9_areUnlike 0 rfl h
theorem byr_X9_areUnlike_1 {j v : Nat} (h : by_X9_areUnlike_1[j]? = some v) : RD cX9_areUnlike (16 + j) v := rd_16 byo_X9_areUnlike byl_X9_areUnlike 1 rfl h
theorem byr_X9_areUnlike_2 {j v : Nat} (h : by_X9_areUnlike_z[j]? = some v) : RD cX9_areUnlike (32 + j) v := rd_z byo_X9_areUnlike byl_X9_areUnlike 2 rfl h
theorem dX9_areUnlike_0 : decode cX9_areUnlike 0 = .ok (.aload_n 0, 1) := dk_42 (byr_X9_areUnlike_0 (j := 0) rfl)
theorem dX9_areUnlike_1 : decode cX9_areUnlike 1 = .ok (.iload_n 1, 1) := dk_27 (byr_X9_areUnlike_0 (j := 1) rfl)
theorem dX9_areUnlike_2 : decode cX9_areUnlike 2 = .ok (.invokevirtual 169, 3) := dk_182 (byr_X9_areUnlike_0 (j := 2) rfl) (byr_X9_areUnlike_0 (j := 3) rfl) (byr_X9_areUnlike_0 (j := 4) rfl) (by decide)
theorem dX9_areUnlike_5 : decode cX9_areUnlike 5 = .ok (.ifCond .eq 30, 3) := dk_153 (byr_X9_areUnlike_0 (j := 5) rfl) (byr_X9_areUnlike_0 (j := 6) rfl) (byr_X9_areUnlike_0 (j := 7) rfl) (by decide)
theorem dX9_areUnlike_8 : decode cX9_areUnlike 8 = .ok (.aload_n 0, 1) := dk_42 (byr_X9_areUnlike_0 (j := 8) rfl)
theorem dX9_areUnlike_9 : decode cX9_areUnlike 9 = .ok (.iload_n 2, 1) := dk_28 (byr_X9_areUnlike_0 (j := 9) rfl)
theorem dX9_areUnlike_10 : decode cX9_areUnlike 10 = .ok (.invokevirtual 169, 3) := dk_182 (byr_X9_areUnlike_0 (j := 10) rfl) (byr_X9_areUnlike_0 (j := 11) rfl) (byr_X9_areUnlike_0 (j := 12) rfl) (by decide)
theorem dX9_areUnlike_13 : decode cX9_areUnlike 13 = .ok (.ifCond .eq 22, 3) := dk_153 (byr_X9_areUnlike_0 (j := 13) rfl) (byr_X9_areUnlike_0 (j := 14) rfl) (byr_X9_areUnlike_0 (j := 15) rfl) (by decide)
theorem dX9_areUnlike_16 : decode cX9_areUnlike 16 = .ok (.aload_n 0, 1) := dk_42 (byr_X9_areUnlike_1 (j := 0) rfl)
theorem dX9_areUnlike_17 : decode cX9_areUnlike 17 = .ok (.iload_n 1, 1) := dk_27 (byr_X9_areUnlike_1 (j := 1) rfl)
theorem dX9_areUnlike_18 : decode cX9_areUnlike 18 = .ok (.iconst 2, 1) := dk_5 (byr_X9_areUnlike_1 (j := 2) rfl)
theorem dX9_areUnlike_19 : decode cX9_areUnlike 19 = .ok (.invokevirtual 172, 3) := dk_182 (byr_X9_areUnlike_1 (j := 3) rfl) (byr_X9_areUnlike_1 (j := 4) rfl) (byr_X9_areUnlike_1 (j := 5) rfl) (by decide)
theorem dX9_areUnlike_22 : decode cX9_areUnlike 22 = .ok (.aload_n 0, 1) := dk_42 (byr_X9_areUnlike_1 (j := 6) rfl)
theorem dX9_areUnlike_23 : decode cX9_areUnlike 23 = .ok (.iload_n 2, 1) := dk_28 (byr_X9_areUnlike_1 (j := 7) rfl)
theorem dX9_areUnlike_24 : decode cX9_areUnlike 24 = .ok (.iconst 2, 1) := dk_5 (byr_X9_areUnlike_1 (j := 8) rfl)
theorem dX9_areUnlike_25 : decode cX9_areUnlike 25 = .ok (.invokevirtual 172, 3) := dk_182 (byr_X9_areUnlike_1 (j := 9) rfl) (byr_X9_areUnlike_1 (j := 10) rfl) (byr_X9_areUnlike_1 (j := 11) rfl) (by decide)
theorem dX9_areUnlike_28 : decode cX9_areUnlike 28 = .ok (.if_icmp .eq 7, 3) := dk_159 (byr_X9_areUnlike_1 (j := 12) rfl) (byr_X9_areUnlike_1 (j := 13) rfl) (byr_X9_areUnlike_1 (j := 14) rfl) (by decide)
theorem dX9_areUnlike_31 : decode cX9_areUnlike 31 = .ok (.iconst 1, 1) := dk_4 (byr_X9_areUnlike_1 (j := 15) rfl)
theorem dX9_areUnlike_32 : decode cX9_areUnlike 32 = .ok (.goto 4, 3) := dk_167 (byr_X9_areUnlike_2 (j := 0) rfl) (byr_X9_areUnlike_2 (j := 1) rfl) (byr_X9_areUnlike_2 (j := 2) rfl) (by decide)
theorem dX9_areUnlike_35 : decode cX9_areUnlike 35 = .ok (.iconst 0, 1) := dk_3 (byr_X9_areUnlike_2 (j := 3) rfl)
theorem dX9_areUnlike_36 : decode cX9_areUnlike 36 = .ok (.ireturn, 1) := dk_172 (byr_X9_areUnlike_2 (j := 4) rfl)
set_option maxHeartbeats 4000000 in
set_option maxRecDepth 100000 in
theorem c_X9_areUnlike (l : Launch) (G : GT) (σ : Sto) (a1 : Int32) (a2 : Int32) (r : Bool) (h : f_X9_areUnlike σ a1 a2 = some r) : MW l G (4) (110) 0 0 yX9_areUnlike cX9_areUnlike 3 (Option.some Jvm.ClassFile.FieldType.boolean) [.ref (gad G 81), .int a1, .int a2] (wl G σ) (some (.int (b2i r))) (wl G σ) := by
  refine mw_of RX9 (fpZ G σ) [(0, .ref (gad G 81)), (1, .int a1), (2, .int a2)] (by decide +kernel) rfl (Nat.le_of_ble_eq_true rfl) rfl h rfl (fun p e s m args below meth c X hr hnm => ?_)
  unfold f_X9_areUnlike
  refine sm_aload_n X 1 0 dX9_areUnlike_0 rfl rfl rfl ?_
  refine sm_iload_n X 2 1 dX9_areUnlike_1 rfl rfl rfl ?_
  refine sm_bind (fun r2 h2 => ?_)
  refine sm_callV0 X 5 [.int a1] [] [.int (b2i r2)] (c_X9_isSwimmer l G σ a1 r2 h2) cw_X9_isSwimmer q_1086 qs_44 q_1084 rfl (by decide) rfl rfl rfl rfl rfl (Nat.le_of_ble_eq_true rfl) ⟨Nat.le_of_ble_eq_true rfl, Nat.le_of_ble_eq_true rfl⟩ ⟨Nat.le_refl _, Nat.le_refl _⟩ dX9_areUnlike_2 rfl ?_
  refine sm_ifz_eq X 8 35 dX9_areUnlike_5 rfl (by decide) (fun h5 => ?_) (fun h5 => ?_)
  · refine sm_aload_n X 9 0 dX9_areUnlike_8 rfl rfl rfl ?_
    refine sm_iload_n X 10 2 dX9_areUnlike_9 rfl rfl rfl ?_
    refine sm_bind (fun r10 h10 => ?_)
    refine sm_callV0 X 13 [.int a2] [] [.int (b2i r10)] (c_X9_isSwimmer l G σ a2 r10 h10) cw_X9_isSwimmer q_1086 qs_44 q_1084 rfl (by decide) rfl rfl rfl rfl rfl (Nat.le_of_ble_eq_true rfl) ⟨Nat.le_of_ble_eq_true rfl, Nat.le_of_ble_eq_true rfl⟩ ⟨Nat.le_refl _, Nat.le_refl _⟩ dX9_areUnlike_10 rfl ?_
    refine sm_ifz_eq X 16 35 dX9_areUnlike_13 rfl (by decide) (fun h13 => ?_) (fun h13 => ?_)
    · refine sm_aload_n X 17 0 dX9_areUnlike_16 rfl rfl rfl ?_
      refine sm_iload_n X 18 1 dX9_areUnlike_17 rfl rfl rfl ?_
      refine sm_iconst X 19 (2) dX9_areUnlike_18 rfl rfl ?_
      refine sm_bind (fun r19 h19 => ?_)
      refine sm_callV0 X 22 [.int a1, .int 2] [] [.int r19] (c_X9_of l G σ a1 (2 : Int32) r19 h19) cw_X9_of q_1090 qs_45 q_1088 rfl (by decide) rfl rfl rfl rfl rfl (Nat.le_of_ble_eq_true rfl) ⟨Nat.le_of_ble_eq_true rfl, Nat.le_of_ble_eq_true rfl⟩ ⟨Nat.le_refl _, Nat.le_refl _⟩ dX9_areUnlike_19 rfl ?_
      refine sm_aload_n X 23 0 dX9_areUnlike_22 rfl rfl rfl ?_
      refine sm_iload_n X 24 2 dX9_areUnlike_23 rfl rfl rfl ?_
      refine sm_iconst X 25 (2) dX9_areUnlike_24 rfl rfl ?_
      refine sm_bind (fun r25 h25 => ?_)
      refine sm_callV0 X 28 [.int a2, .int 2] [.int r19] [.int r25, .int r19] (c_X9_of l G σ a2 (2 : Int32) r25 h25) cw_X9_of q_1090 qs_45 q_1088 rfl (by decide) rfl rfl rfl rfl rfl (Nat.le_of_ble_eq_true rfl) ⟨Nat.le_of_ble_eq_true rfl, Nat.le_of_ble_eq_true rfl⟩ ⟨Nat.le_refl _, Nat.le_refl _⟩ dX9_areUnlike_25 rfl ?_
      refine sm_icmp_eq X 31 35 dX9_areUnlike_28 rfl (by decide) (fun h28 => ?_) (fun h28 => ?_)
      · refine sm_iconst X 36 (0) dX9_areUnlike_35 rfl rfl ?_
        exact sm_zret X (v := false) hr dX9_areUnlike_36 rfl
      · refine sm_iconst X 32 (1) dX9_areUnlike_31 rfl rfl ?_
        refine sm_goto X 36 dX9_areUnlike_32 (by decide) ?_
        exact sm_zret X (v := true) hr dX9_areUnlike_36 rfl
    · refine sm_iconst X 36 (0) dX9_areUnlike_35 rfl rfl ?_
      exact sm_zret X (v := false) hr dX9_areUnlike_36 rfl
  · refine sm_iconst X 36 (0) dX9_areUnlike_35 rfl rfl ?_
    exact sm_zret X (v := false) hr dX9_areUnlike_36 rfl
def by_X9_meet_0 : List Nat := [42, 27, 28, 182, 0, 207, 153, 0, 15, 29, 133, 9, 20, 0, 211, 184]
def by_X9_meet_1 : List Nat := [0, 49, 154, 0, 9, 42, 4, 182, 0, 126, 172, 42, 27, 28, 182, 0]
def by_X9_meet_2 : List Nat := [213, 154, 0, 9, 42, 5, 182, 0, 126, 172, 29, 154, 0, 10, 42, 180]
def by_X9_meet_3 : List Nat := [0, 201, 167, 0, 24, 29, 4, 160, 0, 10, 42, 180, 0, 204, 167, 0]
def by_X9_meet_z : List Nat := [12, 42, 27, 42, 180, 0, 201, 182, 0, 193, 172]
def by_X9_meet : List (List Nat) := [by_X9_meet_0, by_X9_meet_1, by_X9_meet_2, by_X9_meet_3]
set_option maxRecDepth 100000 in
theorem byo_X9_meet : cX9_meet.data.toList.map UInt8.toNat = by_X9_meet.flatten ++ by_X9_meet_z := by decide +kernel
theorem byl_X9_meet : by_X9_meet.all (fun r => r.length == 16) = true := by decide +kernel
theorem byr_X9_meet_0 {j v : Nat} (h : by_X9_meet_0[j]? = some v) : RD cX9_meet (0 + j) v := rd_16 byo_X9_meet byl_X9_meet 0 rfl h
theorem byr_X9_meet_1 {j v : Nat} (h : by_X9_meet_1[j]? = some v) : RD cX9_meet (16 + j) v := rd_16 byo_X9_meet byl_X9_meet 1 rfl h
theorem byr_X9_meet_2 {j v : Nat} (h : by_X9_meet_2[j]? = some v) : RD cX9_meet (32 + j) v := rd_16 byo_X9_meet byl_X9_meet 2 rfl h
theorem byr_X9_meet_3 {j v : Nat} (h : by_X9_meet_3[j]? = some v) : RD cX9_meet (48 + j) v := rd_16 byo_X9_meet byl_X9_meet 3 rfl h
theorem byr_X9_meet_4 {j v : Nat} (h : by_X9_meet_z[j]? = some v) : RD cX9_meet (64 + j) v := rd_z byo_X9_meet byl_X9_meet 4 rfl h
theorem dX9_meet_0 : decode cX9_meet 0 = .ok (.aload_n 0, 1) := dk_42 (byr_X9_meet_0 (j := 0) rfl)
theorem dX9_meet_1 : decode cX9_meet 1 = .ok (.iload_n 1, 1) := dk_27 (byr_X9_meet_0 (j := 1) rfl)
theorem dX9_meet_2 : decode cX9_meet 2 = .ok (.iload_n 2, 1) := dk_28 (byr_X9_meet_0 (j := 2) rfl)
theorem dX9_meet_3 : decode cX9_meet 3 = .ok (.invokevirtual 207, 3) := dk_182 (byr_X9_meet_0 (j := 3) rfl) (byr_X9_meet_0 (j := 4) rfl) (byr_X9_meet_0 (j := 5) rfl) (by decide)
theorem dX9_meet_6 : decode cX9_meet 6 = .ok (.ifCond .eq 15, 3) := dk_153 (byr_X9_meet_0 (j := 6) rfl) (byr_X9_meet_0 (j := 7) rfl) (byr_X9_meet_0 (j := 8) rfl) (by decide)
theorem dX9_meet_9 : decode cX9_meet 9 = .ok (.iload_n 3, 1) := dk_29 (byr_X9_meet_0 (j := 9) rfl)
theorem dX9_meet_10 : decode cX9_meet 10 = .ok (.i2l, 1) := dk_133 (byr_X9_meet_0 (j := 10) rfl)
theorem dX9_meet_11 : decode cX9_meet 11 = .ok (.lconst 0, 1) := dk_9 (byr_X9_meet_0 (j := 11) rfl)
theorem dX9_meet_12 : decode cX9_meet 12 = .ok (.ldc2_w 211, 3) := dk_20 (byr_X9_meet_0 (j := 12) rfl) (byr_X9_meet_0 (j := 13) rfl) (byr_X9_meet_0 (j := 14) rfl) (by decide)
theorem dX9_meet_15 : decode cX9_meet 15 = .ok (.invokestatic 49, 3) := dk_184 (byr_X9_meet_0 (j := 15) rfl) (byr_X9_meet_1 (j := 0) rfl) (byr_X9_meet_1 (j := 1) rfl) (by decide)
theorem dX9_meet_18 : decode cX9_meet 18 = .ok (.ifCond .ne 9, 3) := dk_154 (byr_X9_meet_1 (j := 2) rfl) (byr_X9_meet_1 (j := 3) rfl) (byr_X9_meet_1 (j := 4) rfl) (by decide)
theorem dX9_meet_21 : decode cX9_meet 21 = .ok (.aload_n 0, 1) := dk_42 (byr_X9_meet_1 (j := 5) rfl)
theorem dX9_meet_22 : decode cX9_meet 22 = .ok (.iconst 1, 1) := dk_4 (byr_X9_meet_1 (j := 6) rfl)
theorem dX9_meet_23 : decode cX9_meet 23 = .ok (.invokevirtual 126, 3) := dk_182 (byr_X9_meet_1 (j := 7) rfl) (byr_X9_meet_1 (j := 8) rfl) (byr_X9_meet_1 (j := 9) rfl) (by decide)
theorem dX9_meet_26 : decode cX9_meet 26 = .ok (.ireturn, 1) := dk_172 (byr_X9_meet_1 (j := 10) rfl)
theorem dX9_meet_27 : decode cX9_meet 27 = .ok (.aload_n 0, 1) := dk_42 (byr_X9_meet_1 (j := 11) rfl)
theorem dX9_meet_28 : decode cX9_meet 28 = .ok (.iload_n 1, 1) := dk_27 (byr_X9_meet_1 (j := 12) rfl)
theorem dX9_meet_29 : decode cX9_meet 29 = .ok (.iload_n 2, 1) := dk_28 (byr_X9_meet_1 (j := 13) rfl)
theorem dX9_meet_30 : decode cX9_meet 30 = .ok (.invokevirtual 213, 3) := dk_182 (byr_X9_meet_1 (j := 14) rfl) (byr_X9_meet_1 (j := 15) rfl) (byr_X9_meet_2 (j := 0) rfl) (by decide)
theorem dX9_meet_33 : decode cX9_meet 33 = .ok (.ifCond .ne 9, 3) := dk_154 (byr_X9_meet_2 (j := 1) rfl) (byr_X9_meet_2 (j := 2) rfl) (byr_X9_meet_2 (j := 3) rfl) (by decide)
theorem dX9_meet_36 : decode cX9_meet 36 = .ok (.aload_n 0, 1) := dk_42 (byr_X9_meet_2 (j := 4) rfl)
theorem dX9_meet_37 : decode cX9_meet 37 = .ok (.iconst 2, 1) := dk_5 (byr_X9_meet_2 (j := 5) rfl)
theorem dX9_meet_38 : decode cX9_meet 38 = .ok (.invokevirtual 126, 3) := dk_182 (byr_X9_meet_2 (j := 6) rfl) (byr_X9_meet_2 (j := 7) rfl) (byr_X9_meet_2 (j := 8) rfl) (by decide)
theorem dX9_meet_41 : decode cX9_meet 41 = .ok (.ireturn, 1) := dk_172 (byr_X9_meet_2 (j := 9) rfl)
theorem dX9_meet_42 : decode cX9_meet 42 = .ok (.iload_n 3, 1) := dk_29 (byr_X9_meet_2 (j := 10) rfl)
theorem dX9_meet_43 : decode cX9_meet 43 = .ok (.ifCond .ne 10, 3) := dk_154 (byr_X9_meet_2 (j := 11) rfl) (byr_X9_meet_2 (j := 12) rfl) (byr_X9_meet_2 (j := 13) rfl) (by decide)
theorem dX9_meet_46 : decode cX9_meet 46 = .ok (.aload_n 0, 1) := dk_42 (byr_X9_meet_2 (j := 14) rfl)
theorem dX9_meet_47 : decode cX9_meet 47 = .ok (.getfield 201, 3) := dk_180 (byr_X9_meet_2 (j := 15) rfl) (byr_X9_meet_3 (j := 0) rfl) (byr_X9_meet_3 (j := 1) rfl) (by decide)
theorem dX9_meet_50 : decode cX9_meet 50 = .ok (.goto 24, 3) := dk_167 (byr_X9_meet_3 (j := 2) rfl) (byr_X9_meet_3 (j := 3) rfl) (byr_X9_meet_3 (j := 4) rfl) (by decide)
theorem dX9_meet_53 : decode cX9_meet 53 = .ok (.iload_n 3, 1) := dk_29 (byr_X9_meet_3 (j := 5) rfl)
theorem dX9_meet_54 : decode cX9_meet 54 = .ok (.iconst 1, 1) := dk_4 (byr_X9_meet_3 (j := 6) rfl)
theorem dX9_meet_55 : decode cX9_meet 55 = .ok (.if_icmp .ne 10, 3) := dk_160 (byr_X9_meet_3 (j := 7) rfl) (byr_X9_meet_3 (j := 8) rfl) (byr_X9_meet_3 (j := 9) rfl) (by decide)
theorem dX9_meet_58 : decode cX9_meet 58 = .ok (.aload_n 0, 1) := dk_42 (byr_X9_meet_3 (j := 10) rfl)
theorem dX9_meet_59 : decode cX9_meet 59 = .ok (.getfield 204, 3) := dk_180 (byr_X9_meet_3 (j := 11) rfl) (byr_X9_meet_3 (j := 12) rfl) (byr_X9_meet_3 (j := 13) rfl) (by decide)
theorem dX9_meet_62 : decode cX9_meet 62 = .ok (.goto 12, 3) := dk_167 (byr_X9_meet_3 (j := 14) rfl) (byr_X9_meet_3 (j := 15) rfl) (byr_X9_meet_4 (j := 0) rfl) (by decide)
theorem dX9_meet_65 : decode cX9_meet 65 = .ok (.aload_n 0, 1) := dk_42 (byr_X9_meet_4 (j := 1) rfl)
theorem dX9_meet_66 : decode cX9_meet 66 = .ok (.iload_n 1, 1) := dk_27 (byr_X9_meet_4 (j := 2) rfl)
theorem dX9_meet_67 : decode cX9_meet 67 = .ok (.aload_n 0, 1) := dk_42 (byr_X9_meet_4 (j := 3) rfl)
theorem dX9_meet_68 : decode cX9_meet 68 = .ok (.getfield 201, 3) := dk_180 (byr_X9_meet_4 (j := 4) rfl) (byr_X9_meet_4 (j := 5) rfl) (byr_X9_meet_4 (j := 6) rfl) (by decide)
theorem dX9_meet_71 : decode cX9_meet 71 = .ok (.invokevirtual 193, 3) := dk_182 (byr_X9_meet_4 (j := 7) rfl) (byr_X9_meet_4 (j := 8) rfl) (byr_X9_meet_4 (j := 9) rfl) (by decide)
theorem dX9_meet_74 : decode cX9_meet 74 = .ok (.ireturn, 1) := dk_172 (byr_X9_meet_4 (j := 10) rfl)
set_option maxHeartbeats 4000000 in
set_option maxRecDepth 100000 in
theorem c_X9_meet (l : Launch) (G : GT) (σ : Sto) (a1 : Int32) (a2 : Int32) (a3 : Int32) (r : (Int32 × Sto)) (h : f_X9_meet σ a1 a2 a3 = some r) : MW l G (8) (208) 0 0 yX9_meet cX9_meet 4 (Option.some Jvm.ClassFile.FieldType.int) [.ref (gad G 81), .int a1, .int a2, .int a3] (wl G σ) (some (.int r.1)) (wl G r.2) := by
  refine mw_of RX9 (fiI G) [(0, .ref (gad G 81)), (1, .int a1), (2, .int a2), (3, .int a3)] (by decide +kernel) rfl (Nat.le_of_ble_eq_true rfl) rfl h rfl (fun p e s m args below meth c X hr hnm => ?_)
  unfold f_X9_meet
  refine sm_aload_n X 1 0 dX9_meet_0 rfl rfl rfl ?_
  refine sm_iload_n X 2 1 dX9_meet_1 rfl rfl rfl ?_
  refine sm_iload_n X 3 2 dX9_meet_2 rfl rfl rfl ?_
  refine sm_bind (fun r3 h3 => ?_)
  refine sm_callV0 X 6 [.int a1, .int a2] [] [.int (b2i r3)] (c_X9_areUnlike l G σ a1 a2 r3 h3) cw_X9_areUnlike q_1147 qs_49 q_1145 rfl (by decide) rfl rfl rfl rfl rfl (Nat.le_of_ble_eq_true rfl) ⟨Nat.le_of_ble_eq_true rfl, Nat.le_of_ble_eq_true rfl⟩ ⟨Nat.le_refl _, Nat.le_refl _⟩ dX9_meet_3 rfl ?_
  refine sm_ifz_eq X 9 21 dX9_meet_6 rfl (by decide) (fun h6 => ?_) (fun h6 => ?_)
  · refine sm_iload_n X 10 3 dX9_meet_9 rfl rfl rfl ?_
    refine sm_i2l X 11 dX9_meet_10 rfl ?_
    refine sm_lconst X 12 (0) dX9_meet_11 rfl rfl ?_
    refine sm_ldc2 X 15 (2) dX9_meet_12 rfl q_1149 ?_
    refine sm_bind (fun r15 h15 => ?_)
    refine sm_callS0 X 18 [.long (Int32.toInt64 a3), .long (0 : Int64), .long (2 : Int64)] [] [.int (b2i r15)] (c_X9_in l G σ (Int32.toInt64 a3) (0 : Int64) (2 : Int64) r15 h15) cw_X9_in q_961 q_960 rfl rfl rfl (Nat.le_of_ble_eq_true rfl) ⟨Nat.le_of_ble_eq_true rfl, Nat.le_of_ble_eq_true rfl⟩ ⟨Nat.le_refl _, Nat.le_refl _⟩ dX9_meet_15 rfl ?_
    refine sm_ifz_ne X 21 27 dX9_meet_18 rfl (by decide) (fun h18 => ?_) (fun h18 => ?_)
    · refine sm_aload_n X 28 0 dX9_meet_27 rfl rfl rfl ?_
      refine sm_iload_n X 29 1 dX9_meet_28 rfl rfl rfl ?_
      refine sm_iload_n X 30 2 dX9_meet_29 rfl rfl rfl ?_
      refine sm_bind (fun r30 h30 => ?_)
      refine sm_callV0 X 33 [.int a1, .int a2] [] [.int (b2i r30.1)] (c_X9_swim l G σ a1 a2 r30 h30) cw_X9_swim q_1152 qs_50 q_1150 rfl (by decide) rfl rfl rfl rfl rfl (Nat.le_of_ble_eq_true rfl) ⟨Nat.le_of_ble_eq_true rfl, Nat.le_of_ble_eq_true rfl⟩ ⟨Nat.le_refl _, Nat.le_refl _⟩ dX9_meet_30 rfl ?_
      refine sm_ifz_ne X 36 42 dX9_meet_33 rfl (by decide) (fun h33 => ?_) (fun h33 => ?_)
      · refine sm_iload_n X 43 3 dX9_meet_42 rfl rfl rfl ?_
        refine sm_if_ne X 46 53 dX9_meet_43 rfl (by decide) (fun h43 => ?_) (fun h43 => ?_)
        · refine sm_aload_n X 47 0 dX9_meet_46 rfl rfl rfl ?_
          refine sm_geti X 50 rfl fd_9_15 dX9_meet_47 rfl q_897 ?_
          refine sm_goto X 74 dX9_meet_50 (by decide) ?_
          exact sm_iret X hr dX9_meet_74 rfl
        · refine sm_iload_n X 54 3 dX9_meet_53 rfl rfl rfl ?_
          refine sm_iconst X 55 (1) dX9_meet_54 rfl rfl ?_
          refine sm_icmp_ne X 58 65 dX9_meet_55 rfl (by decide) (fun h55 => ?_) (fun h55 => ?_)
          · refine sm_aload_n X 59 0 dX9_meet_58 rfl rfl rfl ?_
            refine sm_geti X 62 rfl fd_9_16 dX9_meet_59 rfl q_898 ?_
            refine sm_goto X 74 dX9_meet_62 (by decide) ?_
            exact sm_iret X hr dX9_meet_74 rfl
          · refine sm_aload_n X 66 0 dX9_meet_65 rfl rfl rfl ?_
            refine sm_iload_n X 67 1 dX9_meet_66 rfl rfl rfl ?_
            refine sm_aload_n X 68 0 dX9_meet_67 rfl rfl rfl ?_
            refine sm_geti X 71 rfl fd_9_15 dX9_meet_68 rfl q_897 ?_
            refine sm_bind (fun r71 h71 => ?_)
            refine sm_callV0 X 74 [.int a1, .int (r30.2.1 81 15)] [] [.int r71] (c_X9_laneOf l G r30.2 a1 (r30.2.1 81 15) r71 h71) cw_X9_laneOf q_1136 qs_48 q_1134 rfl (by decide) rfl rfl rfl rfl rfl (Nat.le_of_ble_eq_true rfl) ⟨Nat.le_of_ble_eq_true rfl, Nat.le_of_ble_eq_true rfl⟩ ⟨Nat.le_refl _, Nat.le_refl _⟩ dX9_meet_71 rfl ?_
            exact sm_iret X hr dX9_meet_74 rfl
      · refine sm_aload_n X 37 0 dX9_meet_36 rfl rfl rfl ?_
        refine sm_iconst X 38 (2) dX9_meet_37 rfl rfl ?_
        refine sm_bind (fun r38 h38 => ?_)
        refine sm_callV0 X 41 [.int 2] [] [.int r38.1] (c_X9_finds l G r30.2 (2 : Int32) r38 h38) cw_X9_finds q_965 qs_26 q_963 rfl (by decide) rfl rfl rfl rfl rfl (Nat.le_of_ble_eq_true rfl) ⟨Nat.le_of_ble_eq_true rfl, Nat.le_of_ble_eq_true rfl⟩ ⟨Nat.le_refl _, Nat.le_refl _⟩ dX9_meet_38 rfl ?_
        exact sm_iret X hr dX9_meet_41 rfl
    · refine sm_aload_n X 22 0 dX9_meet_21 rfl rfl rfl ?_
      refine sm_iconst X 23 (1) dX9_meet_22 rfl rfl ?_
      refine sm_bind (fun r23 h23 => ?_)
      refine sm_callV0 X 26 [.int 1] [] [.int r23.1] (c_X9_finds l G σ (1 : Int32) r23 h23) cw_X9_finds q_965 qs_26 q_963 rfl (by decide) rfl rfl rfl rfl rfl (Nat.le_of_ble_eq_true rfl) ⟨Nat.le_of_ble_eq_true rfl, Nat.le_of_ble_eq_true rfl⟩ ⟨Nat.le_refl _, Nat.le_refl _⟩ dX9_meet_23 rfl ?_
      exact sm_iret X hr dX9_meet_26 rfl
  · refine sm_aload_n X 22 0 dX9_meet_21 rfl rfl rfl ?_
    refine sm_iconst X 23 (1) dX9_meet_22 rfl rfl ?_
    refine sm_bind (fun r23 h23 => ?_)
    refine sm_callV0 X 26 [.int 1] [] [.int r23.1] (c_X9_finds l G σ (1 : Int32) r23 h23) cw_X9_finds q_965 qs_26 q_963 rfl (by decide) rfl rfl rfl rfl rfl (Nat.le_of_ble_eq_true rfl) ⟨Nat.le_of_ble_eq_true rfl, Nat.le_of_ble_eq_true rfl⟩ ⟨Nat.le_refl _, Nat.le_refl _⟩ dX9_meet_23 rfl ?_
    exact sm_iret X hr dX9_meet_26 rfl
def by_X9_goesBy_0 : List Nat := [42, 27, 28, 182, 0, 213, 153, 0, 54, 42, 180, 0, 7, 16, 8, 42]
def by_X9_goesBy_1 : List Nat := [180, 0, 204, 79, 42, 27, 7, 17, 39, 15, 42, 27, 7, 182, 0, 172]
def by_X9_goesBy_2 : List Nat := [4, 96, 184, 0, 190, 182, 0, 166, 42, 28, 7, 17, 39, 15, 42, 28]
def by_X9_goesBy_3 : List Nat := [7, 182, 0, 172, 4, 96, 184, 0, 190, 182, 0, 166, 42, 4, 42, 180]
def by_X9_goesBy_4 : List Nat := [0, 7, 16, 8, 46, 42, 180, 0, 7, 16, 11, 46, 42, 180, 0, 7]
def by_X9_goesBy_5 : List Nat := [16, 6, 46, 182, 0, 142, 62, 42, 180, 0, 7, 16, 9, 18, 216, 42]
def by_X9_goesBy_6 : List Nat := [180, 0, 7, 16, 9, 46, 29, 96, 184, 0, 190, 79, 42, 180, 0, 7]
def by_X9_goesBy_7 : List Nat := [16, 10, 18, 216, 42, 180, 0, 7, 16, 10, 46, 16, 100, 96, 29, 100]
def by_X9_goesBy_8 : List Nat := [184, 0, 190, 79, 42, 180, 0, 7, 16, 11, 92, 46, 4, 96, 79, 177]
def by_X9_goesBy_z : List Nat := []
def by_X9_goesBy : List (List Nat) := [by_X9_goesBy_0, by_X9_goesBy_1, by_X9_goesBy_2, by_X9_goesBy_3, by_X9_goesBy_4, by_X9_goesBy_5, by_X9_goesBy_6, by_X9_goesBy_7, by_X9_goesBy_8]
set_option maxRecDepth 100000 in
theorem byo_X9_goesBy : cX9_goesBy.data.toList.map UInt8.toNat = by_X9_goesBy.flatten ++ by_X9_goesBy_z := by decide +kernel
theorem byl_X9_goesBy : by_X9_goesBy.all (fun r => r.length == 16) = true := by decide +kernel
theorem byr_X9_goesBy_0 {j v : Nat} (h : by_X9_goesBy_0[j]? = some v) : RD cX9_goesBy (0 + j) v := rd_16 byo_X9_goesBy byl_X9_goesBy 0 rfl h
theorem byr_X9_goesBy_1 {j v : Nat} (h : by_X9_goesBy_1[j]? = some v) : RD cX9_goesBy (16 + j) v := rd_16 byo_X9_goesBy byl_X9_goesBy 1 rfl h
theorem byr_X9_goesBy_2 {j v : Nat} (h : by_X9_goesBy_2[j]? = some v) : RD cX9_goesBy (32 + j) v := rd_16 byo_X9_goesBy byl_X9_goesBy 2 rfl h
theorem byr_X9_goesBy_3 {j v : Nat} (h : by_X9_goesBy_3[j]? = some v) : RD cX9_goesBy (48 + j) v := rd_16 byo_X9_goesBy byl_X9_goesBy 3 rfl h
theorem byr_X9_goesBy_4 {j v : Nat} (h : by_X9_goesBy_4[j]? = some v) : RD cX9_goesBy (64 + j) v := rd_16 byo_X9_goesBy byl_X9_goesBy 4 rfl h
theorem byr_X9_goesBy_5 {j v : Nat} (h : by_X9_goesBy_5[j]? = some v) : RD cX9_goesBy (80 + j) v := rd_16 byo_X9_goesBy byl_X9_goesBy 5 rfl h
theorem byr_X9_goesBy_6 {j v : Nat} (h : by_X9_goesBy_6[j]? = some v) : RD cX9_goesBy (96 + j) v := rd_16 byo_X9_goesBy byl_X9_goesBy 6 rfl h
theorem byr_X9_goesBy_7 {j v : Nat} (h : by_X9_goesBy_7[j]? = some v) : RD cX9_goesBy (112 + j) v := rd_16 byo_X9_goesBy byl_X9_goesBy 7 rfl h
theorem byr_X9_goesBy_8 {j v : Nat} (h : by_X9_goesBy_8[j]? = some v) : RD cX9_goesBy (128 + j) v := rd_16 byo_X9_goesBy byl_X9_goesBy 8 rfl h
theorem byr_X9_goesBy_9 {j v : Nat} (h : by_X9_goesBy_z[j]? = some v) : RD cX9_goesBy (144 + j) v := rd_z byo_X9_goesBy byl_X9_goesBy 9 rfl h
theorem dX9_goesBy_0 : decode cX9_goesBy 0 = .ok (.aload_n 0, 1) := dk_42 (byr_X9_goesBy_0 (j := 0) rfl)
theorem dX9_goesBy_1 : decode cX9_goesBy 1 = .ok (.iload_n 1, 1) := dk_27 (byr_X9_goesBy_0 (j := 1) rfl)
theorem dX9_goesBy_2 : decode cX9_goesBy 2 = .ok (.iload_n 2, 1) := dk_28 (byr_X9_goesBy_0 (j := 2) rfl)
theorem dX9_goesBy_3 : decode cX9_goesBy 3 = .ok (.invokevirtual 213, 3) := dk_182 (byr_X9_goesBy_0 (j := 3) rfl) (byr_X9_goesBy_0 (j := 4) rfl) (byr_X9_goesBy_0 (j := 5) rfl) (by decide)
theorem dX9_goesBy_6 : decode cX9_goesBy 6 = .ok (.ifCond .eq 54, 3) := dk_153 (byr_X9_goesBy_0 (j := 6) rfl) (byr_X9_goesBy_0 (j := 7) rfl) (byr_X9_goesBy_0 (j := 8) rfl) (by decide)
theorem dX9_goesBy_9 : decode cX9_goesBy 9 = .ok (.aload_n 0, 1) := dk_42 (byr_X9_goesBy_0 (j := 9) rfl)
theorem dX9_goesBy_10 : decode cX9_goesBy 10 = .ok (.getfield 7, 3) := dk_180 (byr_X9_goesBy_0 (j := 10) rfl) (byr_X9_goesBy_0 (j := 11) rfl) (byr_X9_goesBy_0 (j := 12) rfl) (by decide)
theorem dX9_goesBy_13 : decode cX9_goesBy 13 = .ok (.bipush 8, 2) := dk_16 (byr_X9_goesBy_0 (j := 13) rfl) (byr_X9_goesBy_0 (j := 14) rfl) (by decide)
theorem dX9_goesBy_15 : decode cX9_goesBy 15 = .ok (.aload_n 0, 1) := dk_42 (byr_X9_goesBy_0 (j := 15) rfl)
theorem dX9_goesBy_16 : decode cX9_goesBy 16 = .ok (.getfield 204, 3) := dk_180 (byr_X9_goesBy_1 (j := 0) rfl) (byr_X9_goesBy_1 (j := 1) rfl) (byr_X9_goesBy_1 (j := 2) rfl) (by decide)
theorem dX9_goesBy_19 : decode cX9_goesBy 19 = .ok (.iastore, 1) := dk_79 (byr_X9_goesBy_1 (j := 3) rfl)
theorem dX9_goesBy_20 : decode cX9_goesBy 20 = .ok (.aload_n 0, 1) := dk_42 (byr_X9_goesBy_1 (j := 4) rfl)
theorem dX9_goesBy_21 : decode cX9_goesBy 21 = .ok (.iload_n 1, 1) := dk_27 (byr_X9_goesBy_1 (j := 5) rfl)
theorem dX9_goesBy_22 : decode cX9_goesBy 22 = .ok (.iconst 4, 1) := dk_7 (byr_X9_goesBy_1 (j := 6) rfl)
theorem dX9_goesBy_23 : decode cX9_goesBy 23 = .ok (.sipush 9999, 3) := dk_17 (byr_X9_goesBy_1 (j := 7) rfl) (byr_X9_goesBy_1 (j := 8) rfl) (byr_X9_goesBy_1 (j := 9) rfl) (by decide)
theorem dX9_goesBy_26 : decode cX9_goesBy 26 = .ok (.aload_n 0, 1) := dk_42 (byr_X9_goesBy_1 (j := 10) rfl)
theorem dX9_goesBy_27 : decode cX9_goesBy 27 = .ok (.iload_n 1, 1) := dk_27 (byr_X9_goesBy_1 (j := 11) rfl)
theorem dX9_goesBy_28 : decode cX9_goesBy 28 = .ok (.iconst 4, 1) := dk_7 (byr_X9_goesBy_1 (j := 12) rfl)
theorem dX9_goesBy_29 : decode cX9_goesBy 29 = .ok (.invokevirtual 172, 3) := dk_182 (byr_X9_goesBy_1 (j := 13) rfl) (byr_X9_goesBy_1 (j := 14) rfl) (byr_X9_goesBy_1 (j := 15) rfl) (by decide)
theorem dX9_goesBy_32 : decode cX9_goesBy 32 = .ok (.iconst 1, 1) := dk_4 (byr_X9_goesBy_2 (j := 0) rfl)
theorem dX9_goesBy_33 : decode cX9_goesBy 33 = .ok (.iadd, 1) := dk_96 (byr_X9_goesBy_2 (j := 1) rfl)
theorem dX9_goesBy_34 : decode cX9_goesBy 34 = .ok (.invokestatic 190, 3) := dk_184 (byr_X9_goesBy_2 (j := 2) rfl) (byr_X9_goesBy_2 (j := 3) rfl) (byr_X9_goesBy_2 (j := 4) rfl) (by decide)
theorem dX9_goesBy_37 : decode cX9_goesBy 37 = .ok (.invokevirtual 166, 3) := dk_182 (byr_X9_goesBy_2 (j := 5) rfl) (byr_X9_goesBy_2 (j := 6) rfl) (byr_X9_goesBy_2 (j := 7) rfl) (by decide)
theorem dX9_goesBy_40 : decode cX9_goesBy 40 = .ok (.aload_n 0, 1) := dk_42 (byr_X9_goesBy_2 (j := 8) rfl)
theorem dX9_goesBy_41 : decode cX9_goesBy 41 = .ok (.iload_n 2, 1) := dk_28 (byr_X9_goesBy_2 (j := 9) rfl)
theorem dX9_goesBy_42 : decode cX9_goesBy 42 = .ok (.iconst 4, 1) := dk_7 (byr_X9_goesBy_2 (j := 10) rfl)
theorem dX9_goesBy_43 : decode cX9_goesBy 43 = .ok (.sipush 9999, 3) := dk_17 (byr_X9_goesBy_2 (j := 11) rfl) (byr_X9_goesBy_2 (j := 12) rfl) (byr_X9_goesBy_2 (j := 13) rfl) (by decide)
theorem dX9_goesBy_46 : decode cX9_goesBy 46 = .ok (.aload_n 0, 1) := dk_42 (byr_X9_goesBy_2 (j := 14) rfl)
theorem dX9_goesBy_47 : decode cX9_goesBy 47 = .ok (.iload_n 2, 1) := dk_28 (byr_X9_goesBy_2 (j := 15) rfl)
theorem dX9_goesBy_48 : decode cX9_goesBy 48 = .ok (.iconst 4, 1) := dk_7 (byr_X9_goesBy_3 (j := 0) rfl)
theorem dX9_goesBy_49 : decode cX9_goesBy 49 = .ok (.invokevirtual 172, 3) := dk_182 (byr_X9_goesBy_3 (j := 1) rfl) (byr_X9_goesBy_3 (j := 2) rfl) (byr_X9_goesBy_3 (j := 3) rfl) (by decide)
theorem dX9_goesBy_52 : decode cX9_goesBy 52 = .ok (.iconst 1, 1) := dk_4 (byr_X9_goesBy_3 (j := 4) rfl)
theorem dX9_goesBy_53 : decode cX9_goesBy 53 = .ok (.iadd, 1) := dk_96 (byr_X9_goesBy_3 (j := 5) rfl)
theorem dX9_goesBy_54 : decode cX9_goesBy 54 = .ok (.invokestatic 190, 3) := dk_184 (byr_X9_goesBy_3 (j := 6) rfl) (byr_X9_goesBy_3 (j := 7) rfl) (byr_X9_goesBy_3 (j := 8) rfl) (by decide)
theorem dX9_goesBy_57 : decode cX9_goesBy 57 = .ok (.invokevirtual 166, 3) := dk_182 (byr_X9_goesBy_3 (j := 9) rfl) (byr_X9_goesBy_3 (j := 10) rfl) (byr_X9_goesBy_3 (j := 11) rfl) (by decide)
theorem dX9_goesBy_60 : decode cX9_goesBy 60 = .ok (.aload_n 0, 1) := dk_42 (byr_X9_goesBy_3 (j := 12) rfl)
theorem dX9_goesBy_61 : decode cX9_goesBy 61 = .ok (.iconst 1, 1) := dk_4 (byr_X9_goesBy_3 (j := 13) rfl)
theorem dX9_goesBy_62 : decode cX9_goesBy 62 = .ok (.aload_n 0, 1) := dk_42 (byr_X9_goesBy_3 (j := 14) rfl)
theorem dX9_goesBy_63 : decode cX9_goesBy 63 = .ok (.getfield 7, 3) := dk_180 (byr_X9_goesBy_3 (j := 15) rfl) (byr_X9_goesBy_4 (j := 0) rfl) (byr_X9_goesBy_4 (j := 1) rfl) (by decide)
theorem dX9_goesBy_66 : decode cX9_goesBy 66 = .ok (.bipush 8, 2) := dk_16 (byr_X9_goesBy_4 (j := 2) rfl) (byr_X9_goesBy_4 (j := 3) rfl) (by decide)
theorem dX9_goesBy_68 : decode cX9_goesBy 68 = .ok (.iaload, 1) := dk_46 (byr_X9_goesBy_4 (j := 4) rfl)
theorem dX9_goesBy_69 : decode cX9_goesBy 69 = .ok (.aload_n 0, 1) := dk_42 (byr_X9_goesBy_4 (j := 5) rfl)
theorem dX9_goesBy_70 : decode cX9_goesBy 70 = .ok (.getfield 7, 3) := dk_180 (byr_X9_goesBy_4 (j := 6) rfl) (byr_X9_goesBy_4 (j := 7) rfl) (byr_X9_goesBy_4 (j := 8) rfl) (by decide)
theorem dX9_goesBy_73 : decode cX9_goesBy 73 = .ok (.bipush 11, 2) := dk_16 (byr_X9_goesBy_4 (j := 9) rfl) (byr_X9_goesBy_4 (j := 10) rfl) (by decide)
theorem dX9_goesBy_75 : decode cX9_goesBy 75 = .ok (.iaload, 1) := dk_46 (byr_X9_goesBy_4 (j := 11) rfl)
theorem dX9_goesBy_76 : decode cX9_goesBy 76 = .ok (.aload_n 0, 1) := dk_42 (byr_X9_goesBy_4 (j := 12) rfl)
theorem dX9_goesBy_77 : decode cX9_goesBy 77 = .ok (.getfield 7, 3) := dk_180 (byr_X9_goesBy_4 (j := 13) rfl) (byr_X9_goesBy_4 (j := 14) rfl) (byr_X9_goesBy_4 (j := 15) rfl) (by decide)
theorem dX9_goesBy_80 : decode cX9_goesBy 80 = .ok (.bipush 6, 2) := dk_16 (byr_X9_goesBy_5 (j := 0) rfl) (byr_X9_goesBy_5 (j := 1) rfl) (by decide)
theorem dX9_goesBy_82 : decode cX9_goesBy 82 = .ok (.iaload, 1) := dk_46 (byr_X9_goesBy_5 (j := 2) rfl)
theorem dX9_goesBy_83 : decode cX9_goesBy 83 = .ok (.invokevirtual 142, 3) := dk_182 (byr_X9_goesBy_5 (j := 3) rfl) (byr_X9_goesBy_5 (j := 4) rfl) (byr_X9_goesBy_5 (j := 5) rfl) (by decide)
theorem dX9_goesBy_86 : decode cX9_goesBy 86 = .ok (.istore_n 3, 1) := dk_62 (byr_X9_goesBy_5 (j := 6) rfl)
theorem dX9_goesBy_87 : decode cX9_goesBy 87 = .ok (.aload_n 0, 1) := dk_42 (byr_X9_goesBy_5 (j := 7) rfl)
theorem dX9_goesBy_88 : decode cX9_goesBy 88 = .ok (.getfield 7, 3) := dk_180 (byr_X9_goesBy_5 (j := 8) rfl) (byr_X9_goesBy_5 (j := 9) rfl) (byr_X9_goesBy_5 (j := 10) rfl) (by decide)
theorem dX9_goesBy_91 : decode cX9_goesBy 91 = .ok (.bipush 9, 2) := dk_16 (byr_X9_goesBy_5 (j := 11) rfl) (byr_X9_goesBy_5 (j := 12) rfl) (by decide)
theorem dX9_goesBy_93 : decode cX9_goesBy 93 = .ok (.ldc 216, 2) := dk_18 (byr_X9_goesBy_5 (j := 13) rfl) (byr_X9_goesBy_5 (j := 14) rfl)
theorem dX9_goesBy_95 : decode cX9_goesBy 95 = .ok (.aload_n 0, 1) := dk_42 (byr_X9_goesBy_5 (j := 15) rfl)
theorem dX9_goesBy_96 : decode cX9_goesBy 96 = .ok (.getfield 7, 3) := dk_180 (byr_X9_goesBy_6 (j := 0) rfl) (byr_X9_goesBy_6 (j := 1) rfl) (byr_X9_goesBy_6 (j := 2) rfl) (by decide)
theorem dX9_goesBy_99 : decode cX9_goesBy 99 = .ok (.bipush 9, 2) := dk_16 (byr_X9_goesBy_6 (j := 3) rfl) (byr_X9_goesBy_6 (j := 4) rfl) (by decide)
theorem dX9_goesBy_101 : decode cX9_goesBy 101 = .ok (.iaload, 1) := dk_46 (byr_X9_goesBy_6 (j := 5) rfl)
theorem dX9_goesBy_102 : decode cX9_goesBy 102 = .ok (.iload_n 3, 1) := dk_29 (byr_X9_goesBy_6 (j := 6) rfl)
theorem dX9_goesBy_103 : decode cX9_goesBy 103 = .ok (.iadd, 1) := dk_96 (byr_X9_goesBy_6 (j := 7) rfl)
theorem dX9_goesBy_104 : decode cX9_goesBy 104 = .ok (.invokestatic 190, 3) := dk_184 (byr_X9_goesBy_6 (j := 8) rfl) (byr_X9_goesBy_6 (j := 9) rfl) (byr_X9_goesBy_6 (j := 10) rfl) (by decide)
theorem dX9_goesBy_107 : decode cX9_goesBy 107 = .ok (.iastore, 1) := dk_79 (byr_X9_goesBy_6 (j := 11) rfl)
theorem dX9_goesBy_108 : decode cX9_goesBy 108 = .ok (.aload_n 0, 1) := dk_42 (byr_X9_goesBy_6 (j := 12) rfl)
theorem dX9_goesBy_109 : decode cX9_goesBy 109 = .ok (.getfield 7, 3) := dk_180 (byr_X9_goesBy_6 (j := 13) rfl) (byr_X9_goesBy_6 (j := 14) rfl) (byr_X9_goesBy_6 (j := 15) rfl) (by decide)
theorem dX9_goesBy_112 : decode cX9_goesBy 112 = .ok (.bipush 10, 2) := dk_16 (byr_X9_goesBy_7 (j := 0) rfl) (byr_X9_goesBy_7 (j := 1) rfl) (by decide)
theorem dX9_goesBy_114 : decode cX9_goesBy 114 = .ok (.ldc 216, 2) := dk_18 (byr_X9_goesBy_7 (j := 2) rfl) (byr_X9_goesBy_7 (j := 3) rfl)
theorem dX9_goesBy_116 : decode cX9_goesBy 116 = .ok (.aload_n 0, 1) := dk_42 (byr_X9_goesBy_7 (j := 4) rfl)
theorem dX9_goesBy_117 : decode cX9_goesBy 117 = .ok (.getfield 7, 3) := dk_180 (byr_X9_goesBy_7 (j := 5) rfl) (byr_X9_goesBy_7 (j := 6) rfl) (byr_X9_goesBy_7 (j := 7) rfl) (by decide)
theorem dX9_goesBy_120 : decode cX9_goesBy 120 = .ok (.bipush 10, 2) := dk_16 (byr_X9_goesBy_7 (j := 8) rfl) (byr_X9_goesBy_7 (j := 9) rfl) (by decide)
theorem dX9_goesBy_122 : decode cX9_goesBy 122 = .ok (.iaload, 1) := dk_46 (byr_X9_goesBy_7 (j := 10) rfl)
theorem dX9_goesBy_123 : decode cX9_goesBy 123 = .ok (.bipush 100, 2) := dk_16 (byr_X9_goesBy_7 (j := 11) rfl) (byr_X9_goesBy_7 (j := 12) rfl) (by decide)
theorem dX9_goesBy_125 : decode cX9_goesBy 125 = .ok (.iadd, 1) := dk_96 (byr_X9_goesBy_7 (j := 13) rfl)
theorem dX9_goesBy_126 : decode cX9_goesBy 126 = .ok (.iload_n 3, 1) := dk_29 (byr_X9_goesBy_7 (j := 14) rfl)
theorem dX9_goesBy_127 : decode cX9_goesBy 127 = .ok (.isub, 1) := dk_100 (byr_X9_goesBy_7 (j := 15) rfl)
theorem dX9_goesBy_128 : decode cX9_goesBy 128 = .ok (.invokestatic 190, 3) := dk_184 (byr_X9_goesBy_8 (j := 0) rfl) (byr_X9_goesBy_8 (j := 1) rfl) (byr_X9_goesBy_8 (j := 2) rfl) (by decide)
theorem dX9_goesBy_131 : decode cX9_goesBy 131 = .ok (.iastore, 1) := dk_79 (byr_X9_goesBy_8 (j := 3) rfl)
theorem dX9_goesBy_132 : decode cX9_goesBy 132 = .ok (.aload_n 0, 1) := dk_42 (byr_X9_goesBy_8 (j := 4) rfl)
theorem dX9_goesBy_133 : decode cX9_goesBy 133 = .ok (.getfield 7, 3) := dk_180 (byr_X9_goesBy_8 (j := 5) rfl) (byr_X9_goesBy_8 (j := 6) rfl) (byr_X9_goesBy_8 (j := 7) rfl) (by decide)
theorem dX9_goesBy_136 : decode cX9_goesBy 136 = .ok (.bipush 11, 2) := dk_16 (byr_X9_goesBy_8 (j := 8) rfl) (byr_X9_goesBy_8 (j := 9) rfl) (by decide)
theorem dX9_goesBy_138 : decode cX9_goesBy 138 = .ok (.dup2, 1) := dk_92 (byr_X9_goesBy_8 (j := 10) rfl)
theorem dX9_goesBy_139 : decode cX9_goesBy 139 = .ok (.iaload, 1) := dk_46 (byr_X9_goesBy_8 (j := 11) rfl)
theorem dX9_goesBy_140 : decode cX9_goesBy 140 = .ok (.iconst 1, 1) := dk_4 (byr_X9_goesBy_8 (j := 12) rfl)
theorem dX9_goesBy_141 : decode cX9_goesBy 141 = .ok (.iadd, 1) := dk_96 (byr_X9_goesBy_8 (j := 13) rfl)
theorem dX9_goesBy_142 : decode cX9_goesBy 142 = .ok (.iastore, 1) := dk_79 (byr_X9_goesBy_8 (j := 14) rfl)
theorem dX9_goesBy_143 : decode cX9_goesBy 143 = .ok (.return_, 1) := dk_177 (byr_X9_goesBy_8 (j := 15) rfl)
set_option maxHeartbeats 4000000 in
set_option maxRecDepth 100000 in
theorem c_X9_goesBy (l : Launch) (G : GT) (σ : Sto) (a1 : Int32) (a2 : Int32) (r : Sto) (h : f_X9_goesBy σ a1 a2 = some r) : MW l G (8) (208) 0 0 yX9_goesBy cX9_goesBy 4 (Option.none : Option Jvm.ClassFile.FieldType) [.ref (gad G 81), .int a1, .int a2] (wl G σ) (none) (wl G r) := by
  refine mw_of RX9 (fiV G) [(0, .ref (gad G 81)), (1, .int a1), (2, .int a2)] (by decide +kernel) rfl (Nat.le_of_ble_eq_true rfl) rfl h rfl (fun p e s m args below meth c X hr hnm => ?_)
  have J60 : ∀   (σ : Sto), Sm p l e { frames := 8, cells := 0, slots := 0, locals := 208 } s m args below meth c G 4 (Qm below args s G 0 0 (fiV G)) 0 0 (wl G σ) 60 [(0, .ref (gad G 81))] [] (f_X9_goesBy_L60  σ) := by
    intro σ
    rw [f_X9_goesBy_L60]
    refine sm_aload_n X 61 0 dX9_goesBy_60 rfl rfl rfl ?_
    refine sm_iconst X 62 (1) dX9_goesBy_61 rfl rfl ?_
    refine sm_aload_n X 63 0 dX9_goesBy_62 rfl rfl rfl ?_
    refine sm_getf X 66 82 rfl fd_9_0 rfl dX9_goesBy_63 rfl q_882 ?_
    refine sm_bipush X 68 (8) dX9_goesBy_66 rfl rfl ?_
    refine sm_iald X 69 rfl dX9_goesBy_68 rfl (fun r68 e68 => ?_)
    clear e68
    refine sm_aload_n X 70 0 dX9_goesBy_69 rfl rfl rfl ?_
    refine sm_getf X 73 82 rfl fd_9_0 rfl dX9_goesBy_70 rfl q_882 ?_
    refine sm_bipush X 75 (11) dX9_goesBy_73 rfl rfl ?_
    refine sm_iald X 76 rfl dX9_goesBy_75 rfl (fun r75 e75 => ?_)
    clear e75
    refine sm_aload_n X 77 0 dX9_goesBy_76 rfl rfl rfl ?_
    refine sm_getf X 80 82 rfl fd_9_0 rfl dX9_goesBy_77 rfl q_882 ?_
    refine sm_bipush X 82 (6) dX9_goesBy_80 rfl rfl ?_
    refine sm_iald X 83 rfl dX9_goesBy_82 rfl (fun r82 e82 => ?_)
    clear e82
    refine sm_bind (fun r83 h83 => ?_)
    refine sm_callV0 X 86 [.int 1, .int r68, .int r75, .int r82] [] [.int r83.1] (c_X9_gives l G σ (1 : Int32) r68 r75 r82 r83 h83) cw_X9_gives q_1033 qs_40 q_1031 rfl (by decide) rfl rfl rfl rfl rfl (Nat.le_of_ble_eq_true rfl) ⟨Nat.le_of_ble_eq_true rfl, Nat.le_of_ble_eq_true rfl⟩ ⟨Nat.le_refl _, Nat.le_refl _⟩ dX9_goesBy_83 rfl ?_
    refine sm_istore_n X 87 [(3, .int r83.1), (0, .ref (gad G 81))] dX9_goesBy_86 rfl rfl (by decide) rfl ?_
    refine sm_aload_n X 88 1 dX9_goesBy_87 rfl rfl rfl ?_
    refine sm_getf X 91 82 rfl fd_9_0 rfl dX9_goesBy_88 rfl q_882 ?_
    refine sm_bipush X 93 (9) dX9_goesBy_91 rfl rfl ?_
    refine sm_ldc X 95 (999999) dX9_goesBy_93 rfl q_1171 ?_
    refine sm_aload_n X 96 1 dX9_goesBy_95 rfl rfl rfl ?_
    refine sm_getf X 99 82 rfl fd_9_0 rfl dX9_goesBy_96 rfl q_882 ?_
    refine sm_bipush X 101 (9) dX9_goesBy_99 rfl rfl ?_
    refine sm_iald X 102 rfl dX9_goesBy_101 rfl (fun r101 e101 => ?_)
    clear e101
    refine sm_iload_n X 103 0 dX9_goesBy_102 rfl rfl rfl ?_
    refine sm_iadd X 104 dX9_goesBy_103 rfl ?_
    refine sm_bind (fun r104 h104 => ?_)
    refine sm_callS0 X 107 [.int 999999, .int (r101 + r83.1)] [.int 9, .ref (gad G 82)] [.int r104, .int 9, .ref (gad G 82)] (c_X9_lesser l G r83.2 (999999 : Int32) (r101 + r83.1) r104 h104) cw_X9_lesser q_1139 q_1138 rfl rfl rfl (Nat.le_of_ble_eq_true rfl) ⟨Nat.le_of_ble_eq_true rfl, Nat.le_of_ble_eq_true rfl⟩ ⟨Nat.le_refl _, Nat.le_refl _⟩ dX9_goesBy_104 rfl ?_
    refine sm_iast X 108 rfl dX9_goesBy_107 rfl (fun σ107 e107 => ?_)
    clear e107
    refine sm_aload_n X 109 1 dX9_goesBy_108 rfl rfl rfl ?_
    refine sm_getf X 112 82 rfl fd_9_0 rfl dX9_goesBy_109 rfl q_882 ?_
    refine sm_bipush X 114 (10) dX9_goesBy_112 rfl rfl ?_
    refine sm_ldc X 116 (999999) dX9_goesBy_114 rfl q_1171 ?_
    refine sm_aload_n X 117 1 dX9_goesBy_116 rfl rfl rfl ?_
    refine sm_getf X 120 82 rfl fd_9_0 rfl dX9_goesBy_117 rfl q_882 ?_
    refine sm_bipush X 122 (10) dX9_goesBy_120 rfl rfl ?_
    refine sm_iald X 123 rfl dX9_goesBy_122 rfl (fun r122 e122 => ?_)
    clear e122
    refine sm_bipush X 125 (100) dX9_goesBy_123 rfl rfl ?_
    refine sm_iadd X 126 dX9_goesBy_125 rfl ?_
    refine sm_iload_n X 127 0 dX9_goesBy_126 rfl rfl rfl ?_
    refine sm_isub X 128 dX9_goesBy_127 rfl ?_
    refine sm_bind (fun r128 h128 => ?_)
    refine sm_callS0 X 131 [.int 999999, .int ((r122 + (100 : Int32)) - r83.1)] [.int 10, .ref (gad G 82)] [.int r128, .int 10, .ref (gad G 82)] (c_X9_lesser l G σ107 (999999 : Int32) ((r122 + (100 : Int32)) - r83.1) r128 h128) cw_X9_lesser q_1139 q_1138 rfl rfl rfl (Nat.le_of_ble_eq_true rfl) ⟨Nat.le_of_ble_eq_true rfl, Nat.le_of_ble_eq_true rfl⟩ ⟨Nat.le_refl _, Nat.le_refl _⟩ dX9_goesBy_128 rfl ?_
    refine sm_iast X 132 rfl dX9_goesBy_131 rfl (fun σ131 e131 => ?_)
    clear e131
    refine sm_aload_n X 133 1 dX9_goesBy_132 rfl rfl rfl ?_
    refine sm_getf X 136 82 rfl fd_9_0 rfl dX9_goesBy_133 rfl q_882 ?_
    refine sm_bipush X 138 (11) dX9_goesBy_136 rfl rfl ?_
    refine sm_dup2 X 139 dX9_goesBy_138 rfl rfl rfl ?_
    refine sm_iald X 140 rfl dX9_goesBy_139 rfl (fun r139 e139 => ?_)
    clear e139
    refine sm_iconst X 141 (1) dX9_goesBy_140 rfl rfl ?_
    refine sm_iadd X 142 dX9_goesBy_141 rfl ?_
    refine sm_iast X 143 rfl dX9_goesBy_142 rfl (fun σ142 e142 => ?_)
    clear e142
    exact sm_vret X hr dX9_goesBy_143 rfl
  unfold f_X9_goesBy
  refine sm_aload_n X 1 0 dX9_goesBy_0 rfl rfl rfl ?_
  refine sm_iload_n X 2 1 dX9_goesBy_1 rfl rfl rfl ?_
  refine sm_iload_n X 3 2 dX9_goesBy_2 rfl rfl rfl ?_
  refine sm_bind (fun r3 h3 => ?_)
  refine sm_callV0 X 6 [.int a1, .int a2] [] [.int (b2i r3.1)] (c_X9_swim l G σ a1 a2 r3 h3) cw_X9_swim q_1152 qs_50 q_1150 rfl (by decide) rfl rfl rfl rfl rfl (Nat.le_of_ble_eq_true rfl) ⟨Nat.le_of_ble_eq_true rfl, Nat.le_of_ble_eq_true rfl⟩ ⟨Nat.le_refl _, Nat.le_refl _⟩ dX9_goesBy_3 rfl ?_
  refine sm_ifz_eq X 9 60 dX9_goesBy_6 rfl (by decide) (fun h6 => ?_) (fun h6 => ?_)
  · refine sm_aload_n X 10 0 dX9_goesBy_9 rfl rfl rfl ?_
    refine sm_getf X 13 82 rfl fd_9_0 rfl dX9_goesBy_10 rfl q_882 ?_
    refine sm_bipush X 15 (8) dX9_goesBy_13 rfl rfl ?_
    refine sm_aload_n X 16 0 dX9_goesBy_15 rfl rfl rfl ?_
    refine sm_geti X 19 rfl fd_9_16 dX9_goesBy_16 rfl q_898 ?_
    refine sm_iast X 20 rfl dX9_goesBy_19 rfl (fun σ19 e19 => ?_)
    clear e19
    refine sm_aload_n X 21 0 dX9_goesBy_20 rfl rfl rfl ?_
    refine sm_iload_n X 22 1 dX9_goesBy_21 rfl rfl rfl ?_
    refine sm_iconst X 23 (4) dX9_goesBy_22 rfl rfl ?_
    refine sm_sipush X 26 (9999) dX9_goesBy_23 rfl rfl ?_
    refine sm_aload_n X 27 0 dX9_goesBy_26 rfl rfl rfl ?_
    refine sm_iload_n X 28 1 dX9_goesBy_27 rfl rfl rfl ?_
    refine sm_iconst X 29 (4) dX9_goesBy_28 rfl rfl ?_
    refine sm_bind (fun r29 h29 => ?_)
    refine sm_callV0 X 32 [.int a1, .int 4] [.int 9999, .int 4, .int a1, .ref (gad G 81)] [.int r29, .int 9999, .int 4, .int a1, .ref (gad G 81)] (c_X9_of l G σ19 a1 (4 : Int32) r29 h29) cw_X9_of q_1090 qs_45 q_1088 rfl (by decide) rfl rfl rfl rfl rfl (Nat.le_of_ble_eq_true rfl) ⟨Nat.le_of_ble_eq_true rfl, Nat.le_of_ble_eq_true rfl⟩ ⟨Nat.le_refl _, Nat.le_refl _⟩ dX9_goesBy_29 rfl ?_
    refine sm_iconst X 33 (1) dX9_goesBy_32 rfl rfl ?_
    refine sm_iadd X 34 dX9_goesBy_33 rfl ?_
    refine sm_bind (fun r34 h34 => ?_)
    refine sm_callS0 X 37 [.int 9999, .int (r29 + (1 : Int32))] [.int 4, .int a1, .ref (gad G 81)] [.int r34, .int 4, .int a1, .ref (gad G 81)] (c_X9_lesser l G σ19 (9999 : Int32) (r29 + (1 : Int32)) r34 h34) cw_X9_lesser q_1139 q_1138 rfl rfl rfl (Nat.le_of_ble_eq_true rfl) ⟨Nat.le_of_ble_eq_true rfl, Nat.le_of_ble_eq_true rfl⟩ ⟨Nat.le_refl _, Nat.le_refl _⟩ dX9_goesBy_34 rfl ?_
    refine sm_bind (fun r37 h37 => ?_)
    refine sm_callV0 X 40 [.int a1, .int 4, .int r34] [] [] (c_X9_becomes l G σ19 a1 (4 : Int32) r34 r37 h37) cw_X9_becomes q_1078 qs_43 q_1076 rfl (by decide) rfl rfl rfl rfl rfl (Nat.le_of_ble_eq_true rfl) ⟨Nat.le_of_ble_eq_true rfl, Nat.le_of_ble_eq_true rfl⟩ ⟨Nat.le_refl _, Nat.le_refl _⟩ dX9_goesBy_37 rfl ?_
    refine sm_aload_n X 41 0 dX9_goesBy_40 rfl rfl rfl ?_
    refine sm_iload_n X 42 2 dX9_goesBy_41 rfl rfl rfl ?_
    refine sm_iconst X 43 (4) dX9_goesBy_42 rfl rfl ?_
    refine sm_sipush X 46 (9999) dX9_goesBy_43 rfl rfl ?_
    refine sm_aload_n X 47 0 dX9_goesBy_46 rfl rfl rfl ?_
    refine sm_iload_n X 48 2 dX9_goesBy_47 rfl rfl rfl ?_
    refine sm_iconst X 49 (4) dX9_goesBy_48 rfl rfl ?_
    refine sm_bind (fun r49 h49 => ?_)
    refine sm_callV0 X 52 [.int a2, .int 4] [.int 9999, .int 4, .int a2, .ref (gad G 81)] [.int r49, .int 9999, .int 4, .int a2, .ref (gad G 81)] (c_X9_of l G r37 a2 (4 : Int32) r49 h49) cw_X9_of q_1090 qs_45 q_1088 rfl (by decide) rfl rfl rfl rfl rfl (Nat.le_of_ble_eq_true rfl) ⟨Nat.le_of_ble_eq_true rfl, Nat.le_of_ble_eq_true rfl⟩ ⟨Nat.le_refl _, Nat.le_refl _⟩ dX9_goesBy_49 rfl ?_
    refine sm_iconst X 53 (1) dX9_goesBy_52 rfl rfl ?_
    refine sm_iadd X 54 dX9_goesBy_53 rfl ?_
    refine sm_bind (fun r54 h54 => ?_)
    refine sm_callS0 X 57 [.int 9999, .int (r49 + (1 : Int32))] [.int 4, .int a2, .ref (gad G 81)] [.int r54, .int 4, .int a2, .ref (gad G 81)] (c_X9_lesser l G r37 (9999 : Int32) (r49 + (1 : Int32)) r54 h54) cw_X9_lesser q_1139 q_1138 rfl rfl rfl (Nat.le_of_ble_eq_true rfl) ⟨Nat.le_of_ble_eq_true rfl, Nat.le_of_ble_eq_true rfl⟩ ⟨Nat.le_refl _, Nat.le_refl _⟩ dX9_goesBy_54 rfl ?_
    refine sm_bind (fun r57 h57 => ?_)
    refine sm_callV0 X 60 [.int a2, .int 4, .int r54] [] [] (c_X9_becomes l G r37 a2 (4 : Int32) r54 r57 h57) cw_X9_becomes q_1078 qs_43 q_1076 rfl (by decide) rfl rfl rfl rfl rfl (Nat.le_of_ble_eq_true rfl) ⟨Nat.le_of_ble_eq_true rfl, Nat.le_of_ble_eq_true rfl⟩ ⟨Nat.le_refl _, Nat.le_refl _⟩ dX9_goesBy_57 rfl ?_
    exact sm_sub [0] rfl (J60 r57)
  · exact sm_sub [0] rfl (J60 r3.2)
def by_X9_drawn_0 : List Nat := [42, 180, 0, 7, 16, 13, 42, 180, 0, 7, 16, 13, 46, 18, 217, 104]
def by_X9_drawn_1 : List Nat := [17, 48, 57, 96, 79, 42, 180, 0, 7, 16, 13, 46, 16, 8, 124, 172]
def by_X9_drawn_z : List Nat := []
def by_X9_drawn : List (List Nat) := [by_X9_drawn_0, by_X9_drawn_1]
set_option maxRecDepth 100000 in
theorem byo_X9_drawn : cX9_drawn.data.toList.map UInt8.toNat = by_X9_drawn.flatten ++ by_X9_drawn_z := by decide +kernel
theorem byl_X9_drawn : by_X9_drawn.all (fun r => r.length == 16) = true := by decide +kernel
theorem byr_X9_drawn_0 {j v : Nat} (h : by_X9_drawn_0[j]? = some v) : RD cX9_drawn (0 + j) v := rd_16 byo_X9_drawn byl_X9_drawn 0 rfl h
theorem byr_X9_drawn_1 {j v : Nat} (h : by_X9_drawn_1[j]? = some v) : RD cX9_drawn (16 + j) v := rd_16 byo_X9_drawn byl_X9_drawn 1 rfl h
theorem byr_X9_drawn_2 {j v : Nat} (h : by_X9_drawn_z[j]? = some v) : RD cX9_drawn (32 + j) v := rd_z byo_X9_drawn byl_X9_drawn 2 rfl h
theorem dX9_drawn_0 : decode cX9_drawn 0 = .ok (.aload_n 0, 1) := dk_42 (byr_X9_drawn_0 (j := 0) rfl)
theorem dX9_drawn_1 : decode cX9_drawn 1 = .ok (.getfield 7, 3) := dk_180 (byr_X9_drawn_0 (j := 1) rfl) (byr_X9_drawn_0 (j := 2) rfl) (byr_X9_drawn_0 (j := 3) rfl) (by decide)
theorem dX9_drawn_4 : decode cX9_drawn 4 = .ok (.bipush 13, 2) := dk_16 (byr_X9_drawn_0 (j := 4) rfl) (byr_X9_drawn_0 (j := 5) rfl) (by decide)
theorem dX9_drawn_6 : decode cX9_drawn 6 = .ok (.aload_n 0, 1) := dk_42 (byr_X9_drawn_0 (j := 6) rfl)
theorem dX9_drawn_7 : decode cX9_drawn 7 = .ok (.getfield 7, 3) := dk_180 (byr_X9_drawn_0 (j := 7) rfl) (byr_X9_drawn_0 (j := 8) rfl) (byr_X9_drawn_0 (j := 9) rfl) (by decide)
theorem dX9_drawn_10 : decode cX9_drawn 10 = .ok (.bipush 13, 2) := dk_16 (byr_X9_drawn_0 (j := 10) rfl) (byr_X9_drawn_0 (j := 11) rfl) (by decide)
theorem dX9_drawn_12 : decode cX9_drawn 12 = .ok (.iaload, 1) := dk_46 (byr_X9_drawn_0 (j := 12) rfl)
theorem dX9_drawn_13 : decode cX9_drawn 13 = .ok (.ldc 217, 2) := dk_18 (byr_X9_drawn_0 (j := 13) rfl) (byr_X9_drawn_0 (j := 14) rfl)
theorem dX9_drawn_15 : decode cX9_drawn 15 = .ok (.imul, 1) := dk_104 (byr_X9_drawn_0 (j := 15) rfl)
theorem dX9_drawn_16 : decode cX9_drawn 16 = .ok (.sipush 12345, 3) := dk_17 (byr_X9_drawn_1 (j := 0) rfl) (byr_X9_drawn_1 (j := 1) rfl) (byr_X9_drawn_1 (j := 2) rfl) (by decide)
theorem dX9_drawn_19 : decode cX9_drawn 19 = .ok (.iadd, 1) := dk_96 (byr_X9_drawn_1 (j := 3) rfl)
theorem dX9_drawn_20 : decode cX9_drawn 20 = .ok (.iastore, 1) := dk_79 (byr_X9_drawn_1 (j := 4) rfl)
theorem dX9_drawn_21 : decode cX9_drawn 21 = .ok (.aload_n 0, 1) := dk_42 (byr_X9_drawn_1 (j := 5) rfl)
theorem dX9_drawn_22 : decode cX9_drawn 22 = .ok (.getfield 7, 3) := dk_180 (byr_X9_drawn_1 (j := 6) rfl) (byr_X9_drawn_1 (j := 7) rfl) (byr_X9_drawn_1 (j := 8) rfl) (by decide)
theorem dX9_drawn_25 : decode cX9_drawn 25 = .ok (.bipush 13, 2) := dk_16 (byr_X9_drawn_1 (j := 9) rfl) (byr_X9_drawn_1 (j := 10) rfl) (by decide)
theorem dX9_drawn_27 : decode cX9_drawn 27 = .ok (.iaload, 1) := dk_46 (byr_X9_drawn_1 (j := 11) rfl)
theorem dX9_drawn_28 : decode cX9_drawn 28 = .ok (.bipush 8, 2) := dk_16 (byr_X9_drawn_1 (j := 12) rfl) (byr_X9_drawn_1 (j := 13) rfl) (by decide)
theorem dX9_drawn_30 : decode cX9_drawn 30 = .ok (.iushr, 1) := dk_124 (byr_X9_drawn_1 (j := 14) rfl)
theorem dX9_drawn_31 : decode cX9_drawn 31 = .ok (.ireturn, 1) := dk_172 (byr_X9_drawn_1 (j := 15) rfl)
set_option maxHeartbeats 4000000 in
set_option maxRecDepth 100000 in
theorem c_X9_drawn (l : Launch) (G : GT) (σ : Sto)  (r : (Int32 × Sto)) (h : f_X9_drawn σ  = some r) : MW l G (2) (64) 0 0 yX9_drawn cX9_drawn 1 (Option.some Jvm.ClassFile.FieldType.int) [.ref (gad G 81)] (wl G σ) (some (.int r.1)) (wl G r.2) := by
  refine mw_of RX9 (fiI G) [(0, .ref (gad G 81))] (by decide +kernel) rfl (Nat.le_of_ble_eq_true rfl) rfl h rfl (fun p e s m args below meth c X hr hnm => ?_)
  unfold f_X9_drawn
  refine sm_aload_n X 1 0 dX9_drawn_0 rfl rfl rfl ?_
  refine sm_getf X 4 82 rfl fd_9_0 rfl dX9_drawn_1 rfl q_882 ?_
  refine sm_bipush X 6 (13) dX9_drawn_4 rfl rfl ?_
  refine sm_aload_n X 7 0 dX9_drawn_6 rfl rfl rfl ?_
  refine sm_getf X 10 82 rfl fd_9_0 rfl dX9_drawn_7 rfl q_882 ?_
  refine sm_bipush X 12 (13) dX9_drawn_10 rfl rfl ?_
  refine sm_iald X 13 rfl dX9_drawn_12 rfl (fun r12 e12 => ?_)
  clear e12
  refine sm_ldc X 15 (1103515245) dX9_drawn_13 rfl q_1166 ?_
  refine sm_imul X 16 dX9_drawn_15 rfl ?_
  refine sm_sipush X 19 (12345) dX9_drawn_16 rfl rfl ?_
  refine sm_iadd X 20 dX9_drawn_19 rfl ?_
  refine sm_iast X 21 rfl dX9_drawn_20 rfl (fun σ20 e20 => ?_)
  clear e20
  refine sm_aload_n X 22 0 dX9_drawn_21 rfl rfl rfl ?_
  refine sm_getf X 25 82 rfl fd_9_0 rfl dX9_drawn_22 rfl q_882 ?_
  refine sm_bipush X 27 (13) dX9_drawn_25 rfl rfl ?_
  refine sm_iald X 28 rfl dX9_drawn_27 rfl (fun r27 e27 => ?_)
  clear e27
  refine sm_bipush X 30 (8) dX9_drawn_28 rfl rfl ?_
  refine sm_iushr X 31 dX9_drawn_30 rfl ?_
  exact sm_iret X hr dX9_drawn_31 rfl
def by_X9_aYear_0 : List Nat := [42, 27, 28, 182, 0, 207, 154, 0, 9, 42, 4, 182, 0, 126, 172, 42]
def by_X9_aYear_1 : List Nat := [180, 0, 7, 16, 11, 46, 17, 39, 15, 160, 0, 9, 42, 6, 182, 0]
def by_X9_aYear_2 : List Nat := [126, 172, 42, 180, 0, 7, 16, 6, 29, 153, 0, 15, 42, 182, 0, 218]
def by_X9_aYear_3 : List Nat := [16, 7, 112, 6, 100, 167, 0, 10, 42, 180, 0, 7, 16, 6, 46, 79]
def by_X9_aYear_z : List Nat := [42, 27, 28, 182, 0, 221, 42, 180, 0, 7, 16, 8, 46, 172]
def by_X9_aYear : List (List Nat) := [by_X9_aYear_0, by_X9_aYear_1, by_X9_aYear_2, by_X9_aYear_3]
set_option maxRecDepth 100000 in
theorem byo_X9_aYear : cX9_aYear.data.toList.map UInt8.toNat = by_X9_aYear.flatten ++ by_X9_aYear_z := by decide +kernel
theorem byl_X9_aYear : by_X9_aYear.all (fun r => r.length == 16) = true := by decide +kernel
theorem byr_X9_aYear_0 {j v : Nat} (h : by_X9_aYear_0[j]? = some v) : RD cX9_aYear (0 + j) v := rd_16 byo_X9_aYear byl_X9_aYear 0 rfl h
theorem byr_X9_aYear_1 {j v : Nat} (h : by_X9_aYear_1[j]? = some v) : RD cX9_aYear (16 + j) v := rd_16 byo_X9_aYear byl_X9_aYear 1 rfl h
theorem byr_X9_aYear_2 {j v : Nat} (h : by_X9_aYear_2[j]? = some v) : RD cX9_aYear (32 + j) v := rd_16 byo_X9_aYear byl_X9_aYear 2 rfl h
theorem byr_X9_aYear_3 {j v : Nat} (h : by_X9_aYear_3[j]? = some v) : RD cX9_aYear (48 + j) v := rd_16 byo_X9_aYear byl_X9_aYear 3 rfl h
theorem byr_X9_aYear_4 {j v : Nat} (h : by_X9_aYear_z[j]? = some v) : RD cX9_aYear (64 + j) v := rd_z byo_X9_aYear byl_X9_aYear 4 rfl h
theorem dX9_aYear_0 : decode cX9_aYear 0 = .ok (.aload_n 0, 1) := dk_42 (byr_X9_aYear_0 (j := 0) rfl)
theorem dX9_aYear_1 : decode cX9_aYear 1 = .ok (.iload_n 1, 1) := dk_27 (byr_X9_aYear_0 (j := 1) rfl)
theorem dX9_aYear_2 : decode cX9_aYear 2 = .ok (.iload_n 2, 1) := dk_28 (byr_X9_aYear_0 (j := 2) rfl)
theorem dX9_aYear_3 : decode cX9_aYear 3 = .ok (.invokevirtual 207, 3) := dk_182 (byr_X9_aYear_0 (j := 3) rfl) (byr_X9_aYear_0 (j := 4) rfl) (byr_X9_aYear_0 (j := 5) rfl) (by decide)
theorem dX9_aYear_6 : decode cX9_aYear 6 = .ok (.ifCond .ne 9, 3) := dk_154 (byr_X9_aYear_0 (j := 6) rfl) (byr_X9_aYear_0 (j := 7) rfl) (byr_X9_aYear_0 (j := 8) rfl) (by decide)
theorem dX9_aYear_9 : decode cX9_aYear 9 = .ok (.aload_n 0, 1) := dk_42 (byr_X9_aYear_0 (j := 9) rfl)
theorem dX9_aYear_10 : decode cX9_aYear 10 = .ok (.iconst 1, 1) := dk_4 (byr_X9_aYear_0 (j := 10) rfl)
theorem dX9_aYear_11 : decode cX9_aYear 11 = .ok (.invokevirtual 126, 3) := dk_182 (byr_X9_aYear_0 (j := 11) rfl) (byr_X9_aYear_0 (j := 12) rfl) (byr_X9_aYear_0 (j := 13) rfl) (by decide)
theorem dX9_aYear_14 : decode cX9_aYear 14 = .ok (.ireturn, 1) := dk_172 (byr_X9_aYear_0 (j := 14) rfl)
theorem dX9_aYear_15 : decode cX9_aYear 15 = .ok (.aload_n 0, 1) := dk_42 (byr_X9_aYear_0 (j := 15) rfl)
theorem dX9_aYear_16 : decode cX9_aYear 16 = .ok (.getfield 7, 3) := dk_180 (byr_X9_aYear_1 (j := 0) rfl) (byr_X9_aYear_1 (j := 1) rfl) (byr_X9_aYear_1 (j := 2) rfl) (by decide)
theorem dX9_aYear_19 : decode cX9_aYear 19 = .ok (.bipush 11, 2) := dk_16 (byr_X9_aYear_1 (j := 3) rfl) (byr_X9_aYear_1 (j := 4) rfl) (by decide)
theorem dX9_aYear_21 : decode cX9_aYear 21 = .ok (.iaload, 1) := dk_46 (byr_X9_aYear_1 (j := 5) rfl)
theorem dX9_aYear_22 : decode cX9_aYear 22 = .ok (.sipush 9999, 3) := dk_17 (byr_X9_aYear_1 (j := 6) rfl) (byr_X9_aYear_1 (j := 7) rfl) (byr_X9_aYear_1 (j := 8) rfl) (by decide)
theorem dX9_aYear_25 : decode cX9_aYear 25 = .ok (.if_icmp .ne 9, 3) := dk_160 (byr_X9_aYear_1 (j := 9) rfl) (byr_X9_aYear_1 (j := 10) rfl) (byr_X9_aYear_1 (j := 11) rfl) (by decide)
theorem dX9_aYear_28 : decode cX9_aYear 28 = .ok (.aload_n 0, 1) := dk_42 (byr_X9_aYear_1 (j := 12) rfl)
theorem dX9_aYear_29 : decode cX9_aYear 29 = .ok (.iconst 3, 1) := dk_6 (byr_X9_aYear_1 (j := 13) rfl)
theorem dX9_aYear_30 : decode cX9_aYear 30 = .ok (.invokevirtual 126, 3) := dk_182 (byr_X9_aYear_1 (j := 14) rfl) (byr_X9_aYear_1 (j := 15) rfl) (byr_X9_aYear_2 (j := 0) rfl) (by decide)
theorem dX9_aYear_33 : decode cX9_aYear 33 = .ok (.ireturn, 1) := dk_172 (byr_X9_aYear_2 (j := 1) rfl)
theorem dX9_aYear_34 : decode cX9_aYear 34 = .ok (.aload_n 0, 1) := dk_42 (byr_X9_aYear_2 (j := 2) rfl)
theorem dX9_aYear_35 : decode cX9_aYear 35 = .ok (.getfield 7, 3) := dk_180 (byr_X9_aYear_2 (j := 3) rfl) (byr_X9_aYear_2 (j := 4) rfl) (byr_X9_aYear_2 (j := 5) rfl) (by decide)
theorem dX9_aYear_38 : decode cX9_aYear 38 = .ok (.bipush 6, 2) := dk_16 (byr_X9_aYear_2 (j := 6) rfl) (byr_X9_aYear_2 (j := 7) rfl) (by decide)
theorem dX9_aYear_40 : decode cX9_aYear 40 = .ok (.iload_n 3, 1) := dk_29 (byr_X9_aYear_2 (j := 8) rfl)
theorem dX9_aYear_41 : decode cX9_aYear 41 = .ok (.ifCond .eq 15, 3) := dk_153 (byr_X9_aYear_2 (j := 9) rfl) (byr_X9_aYear_2 (j := 10) rfl) (byr_X9_aYear_2 (j := 11) rfl) (by decide)
theorem dX9_aYear_44 : decode cX9_aYear 44 = .ok (.aload_n 0, 1) := dk_42 (byr_X9_aYear_2 (j := 12) rfl)
theorem dX9_aYear_45 : decode cX9_aYear 45 = .ok (.invokevirtual 218, 3) := dk_182 (byr_X9_aYear_2 (j := 13) rfl) (byr_X9_aYear_2 (j := 14) rfl) (byr_X9_aYear_2 (j := 15) rfl) (by decide)
theorem dX9_aYear_48 : decode cX9_aYear 48 = .ok (.bipush 7, 2) := dk_16 (byr_X9_aYear_3 (j := 0) rfl) (byr_X9_aYear_3 (j := 1) rfl) (by decide)
theorem dX9_aYear_50 : decode cX9_aYear 50 = .ok (.irem, 1) := dk_112 (byr_X9_aYear_3 (j := 2) rfl)
theorem dX9_aYear_51 : decode cX9_aYear 51 = .ok (.iconst 3, 1) := dk_6 (byr_X9_aYear_3 (j := 3) rfl)
theorem dX9_aYear_52 : decode cX9_aYear 52 = .ok (.isub, 1) := dk_100 (byr_X9_aYear_3 (j := 4) rfl)
theorem dX9_aYear_53 : decode cX9_aYear 53 = .ok (.goto 10, 3) := dk_167 (byr_X9_aYear_3 (j := 5) rfl) (byr_X9_aYear_3 (j := 6) rfl) (byr_X9_aYear_3 (j := 7) rfl) (by decide)
theorem dX9_aYear_56 : decode cX9_aYear 56 = .ok (.aload_n 0, 1) := dk_42 (byr_X9_aYear_3 (j := 8) rfl)
theorem dX9_aYear_57 : decode cX9_aYear 57 = .ok (.getfield 7, 3) := dk_180 (byr_X9_aYear_3 (j := 9) rfl) (byr_X9_aYear_3 (j := 10) rfl) (byr_X9_aYear_3 (j := 11) rfl) (by decide)
theorem dX9_aYear_60 : decode cX9_aYear 60 = .ok (.bipush 6, 2) := dk_16 (byr_X9_aYear_3 (j := 12) rfl) (byr_X9_aYear_3 (j := 13) rfl) (by decide)
theorem dX9_aYear_62 : decode cX9_aYear 62 = .ok (.iaload, 1) := dk_46 (byr_X9_aYear_3 (j := 14) rfl)
theorem dX9_aYear_63 : decode cX9_aYear 63 = .ok (.iastore, 1) := dk_79 (byr_X9_aYear_3 (j := 15) rfl)
theorem dX9_aYear_64 : decode cX9_aYear 64 = .ok (.aload_n 0, 1) := dk_42 (byr_X9_aYear_4 (j := 0) rfl)
theorem dX9_aYear_65 : decode cX9_aYear 65 = .ok (.iload_n 1, 1) := dk_27 (byr_X9_aYear_4 (j := 1) rfl)
theorem dX9_aYear_66 : decode cX9_aYear 66 = .ok (.iload_n 2, 1) := dk_28 (byr_X9_aYear_4 (j := 2) rfl)
theorem dX9_aYear_67 : decode cX9_aYear 67 = .ok (.invokevirtual 221, 3) := dk_182 (byr_X9_aYear_4 (j := 3) rfl) (byr_X9_aYear_4 (j := 4) rfl) (byr_X9_aYear_4 (j := 5) rfl) (by decide)
theorem dX9_aYear_70 : decode cX9_aYear 70 = .ok (.aload_n 0, 1) := dk_42 (byr_X9_aYear_4 (j := 6) rfl)
theorem dX9_aYear_71 : decode cX9_aYear 71 = .ok (.getfield 7, 3) := dk_180 (byr_X9_aYear_4 (j := 7) rfl) (byr_X9_aYear_4 (j := 8) rfl) (byr_X9_aYear_4 (j := 9) rfl) (by decide)
theorem dX9_aYear_74 : decode cX9_aYear 74 = .ok (.bipush 8, 2) := dk_16 (byr_X9_aYear_4 (j := 10) rfl) (byr_X9_aYear_4 (j := 11) rfl) (by decide)
theorem dX9_aYear_76 : decode cX9_aYear 76 = .ok (.iaload, 1) := dk_46 (byr_X9_aYear_4 (j := 12) rfl)
theorem dX9_aYear_77 : decode cX9_aYear 77 = .ok (.ireturn, 1) := dk_172 (byr_X9_aYear_4 (j := 13) rfl)
set_option maxHeartbeats 4000000 in
set_option maxRecDepth 100000 in
theorem c_X9_aYear (l : Launch) (G : GT) (σ : Sto) (a1 : Int32) (a2 : Int32) (a3 : Bool) (r : (Int32 × Sto)) (h : f_X9_aYear σ a1 a2 a3 = some r) : MW l G (9) (231) 0 0 yX9_aYear cX9_aYear 4 (Option.some Jvm.ClassFile.FieldType.int) [.ref (gad G 81), .int a1, .int a2, .int (b2i a3)] (wl G σ) (some (.int r.1)) (wl G r.2) := by
  refine mw_of RX9 (fiI G) [(0, .ref (gad G 81)), (1, .int a1), (2, .int a2), (3, .int (b2i a3))] (by decide +kernel) rfl (Nat.le_of_ble_eq_true rfl) rfl h rfl (fun p e s m args below meth c X hr hnm => ?_)
  have J63 : ∀ (v1 : Int32) (v2 : Int32) (vs0 : Int32) (vs1 : Int32)  (σ : Sto), Sm p l e { frames := 9, cells := 0, slots := 0, locals := 231 } s m args below meth c G 4 (Qm below args s G 0 0 (fiI G)) 0 0 (wl G σ) 63 [(0, .ref (gad G 81)), (1, .int v1), (2, .int v2)] [.int vs0, .int vs1, .ref (gad G 82)] (f_X9_aYear_L63  v1 v2 vs0 vs1 σ) := by
    intro v1 v2 vs0 vs1 σ
    rw [f_X9_aYear_L63]
    refine sm_iast X 64 rfl dX9_aYear_63 rfl (fun σ63 e63 => ?_)
    clear e63
    refine sm_aload_n X 65 0 dX9_aYear_64 rfl rfl rfl ?_
    refine sm_iload_n X 66 1 dX9_aYear_65 rfl rfl rfl ?_
    refine sm_iload_n X 67 2 dX9_aYear_66 rfl rfl rfl ?_
    refine sm_bind (fun r67 h67 => ?_)
    refine sm_callV0 X 70 [.int v1, .int v2] [] [] (c_X9_goesBy l G σ63 v1 v2 r67 h67) cw_X9_goesBy q_1169 qs_53 q_1167 rfl (by decide) rfl rfl rfl rfl rfl (Nat.le_of_ble_eq_true rfl) ⟨Nat.le_of_ble_eq_true rfl, Nat.le_of_ble_eq_true rfl⟩ ⟨Nat.le_refl _, Nat.le_refl _⟩ dX9_aYear_67 rfl ?_
    refine sm_aload_n X 71 0 dX9_aYear_70 rfl rfl rfl ?_
    refine sm_getf X 74 82 rfl fd_9_0 rfl dX9_aYear_71 rfl q_882 ?_
    refine sm_bipush X 76 (8) dX9_aYear_74 rfl rfl ?_
    refine sm_iald X 77 rfl dX9_aYear_76 rfl (fun r76 e76 => ?_)
    clear e76
    exact sm_iret X hr dX9_aYear_77 rfl
  unfold f_X9_aYear
  refine sm_aload_n X 1 0 dX9_aYear_0 rfl rfl rfl ?_
  refine sm_iload_n X 2 1 dX9_aYear_1 rfl rfl rfl ?_
  refine sm_iload_n X 3 2 dX9_aYear_2 rfl rfl rfl ?_
  refine sm_bind (fun r3 h3 => ?_)
  refine sm_callV0 X 6 [.int a1, .int a2] [] [.int (b2i r3)] (c_X9_areUnlike l G σ a1 a2 r3 h3) cw_X9_areUnlike q_1147 qs_49 q_1145 rfl (by decide) rfl rfl rfl rfl rfl (Nat.le_of_ble_eq_true rfl) ⟨Nat.le_of_ble_eq_true rfl, Nat.le_of_ble_eq_true rfl⟩ ⟨Nat.le_refl _, Nat.le_refl _⟩ dX9_aYear_3 rfl ?_
  refine sm_ifz_ne X 9 15 dX9_aYear_6 rfl (by decide) (fun h6 => ?_) (fun h6 => ?_)
  · refine sm_aload_n X 16 0 dX9_aYear_15 rfl rfl rfl ?_
    refine sm_getf X 19 82 rfl fd_9_0 rfl dX9_aYear_16 rfl q_882 ?_
    refine sm_bipush X 21 (11) dX9_aYear_19 rfl rfl ?_
    refine sm_iald X 22 rfl dX9_aYear_21 rfl (fun r21 e21 => ?_)
    clear e21
    refine sm_sipush X 25 (9999) dX9_aYear_22 rfl rfl ?_
    refine sm_icmp_ne X 28 34 dX9_aYear_25 rfl (by decide) (fun h25 => ?_) (fun h25 => ?_)
    · refine sm_aload_n X 29 0 dX9_aYear_28 rfl rfl rfl ?_
      refine sm_iconst X 30 (3) dX9_aYear_29 rfl rfl ?_
      refine sm_bind (fun r30 h30 => ?_)
      refine sm_callV0 X 33 [.int 3] [] [.int r30.1] (c_X9_finds l G σ (3 : Int32) r30 h30) cw_X9_finds q_965 qs_26 q_963 rfl (by decide) rfl rfl rfl rfl rfl (Nat.le_of_ble_eq_true rfl) ⟨Nat.le_of_ble_eq_true rfl, Nat.le_of_ble_eq_true rfl⟩ ⟨Nat.le_refl _, Nat.le_refl _⟩ dX9_aYear_30 rfl ?_
      exact sm_iret X hr dX9_aYear_33 rfl
    · refine sm_aload_n X 35 0 dX9_aYear_34 rfl rfl rfl ?_
      refine sm_getf X 38 82 rfl fd_9_0 rfl dX9_aYear_35 rfl q_882 ?_
      refine sm_bipush X 40 (6) dX9_aYear_38 rfl rfl ?_
      refine sm_iload_n X 41 3 dX9_aYear_40 rfl rfl rfl ?_
      refine sm_ifz_eq X 44 56 dX9_aYear_41 rfl (by decide) (fun h41 => ?_) (fun h41 => ?_)
      · refine sm_aload_n X 45 0 dX9_aYear_44 rfl rfl rfl ?_
        refine sm_bind (fun r45 h45 => ?_)
        refine sm_callV0 X 48 [] [.int 6, .ref (gad G 82)] [.int r45.1, .int 6, .ref (gad G 82)] (c_X9_drawn l G σ  r45 h45) cw_X9_drawn q_1164 qs_52 q_1162 rfl (by decide) rfl rfl rfl rfl rfl (Nat.le_of_ble_eq_true rfl) ⟨Nat.le_of_ble_eq_true rfl, Nat.le_of_ble_eq_true rfl⟩ ⟨Nat.le_refl _, Nat.le_refl _⟩ dX9_aYear_45 rfl ?_
        refine sm_bipush X 50 (7) dX9_aYear_48 rfl rfl ?_
        refine sm_irem X 51 dX9_aYear_50 rfl (by first | decide | assumption) ?_
        refine sm_iconst X 52 (3) dX9_aYear_51 rfl rfl ?_
        refine sm_isub X 53 dX9_aYear_52 rfl ?_
        refine sm_goto X 63 dX9_aYear_53 (by decide) ?_
        exact sm_sub [0, 1, 2] rfl (J63 a1 a2 ((irem r45.1 (7 : Int32)) - (3 : Int32)) (6 : Int32)  r45.2)
      · refine sm_aload_n X 57 0 dX9_aYear_56 rfl rfl rfl ?_
        refine sm_getf X 60 82 rfl fd_9_0 rfl dX9_aYear_57 rfl q_882 ?_
        refine sm_bipush X 62 (6) dX9_aYear_60 rfl rfl ?_
        refine sm_iald X 63 rfl dX9_aYear_62 rfl (fun r62 e62 => ?_)
        clear e62
        exact sm_sub [0, 1, 2] rfl (J63 a1 a2 r62 (6 : Int32)  σ)
  · refine sm_aload_n X 10 0 dX9_aYear_9 rfl rfl rfl ?_
    refine sm_iconst X 11 (1) dX9_aYear_10 rfl rfl ?_
    refine sm_bind (fun r11 h11 => ?_)
    refine sm_callV0 X 14 [.int 1] [] [.int r11.1] (c_X9_finds l G σ (1 : Int32) r11 h11) cw_X9_finds q_965 qs_26 q_963 rfl (by decide) rfl rfl rfl rfl rfl (Nat.le_of_ble_eq_true rfl) ⟨Nat.le_of_ble_eq_true rfl, Nat.le_of_ble_eq_true rfl⟩ ⟨Nat.le_refl _, Nat.le_refl _⟩ dX9_aYear_11 rfl ?_
    exact sm_iret X hr dX9_aYear_14 rfl
def by_X9_year_z : List Nat := [42, 27, 28, 3, 182, 0, 225, 172]
def by_X9_year : List (List Nat) := []
set_option maxRecDepth 100000 in
theorem byo_X9_year : cX9_year.data.toList.map UInt8.toNat = by_X9_year.flatten ++ by_X9_year_z := by decide +kernel
theorem byl_X9_year : by_X9_year.all (fun r => r.length == 16) = true := by decide +kernel
theorem byr_X9_year_0 {j v : Nat} (h : by_X9_year_z[j]? = some v) : RD cX9_year (0 + j) v := rd_z byo_X9_year byl_X9_year 0 rfl h
theorem dX9_year_0 : decode cX9_year 0 = .ok (.aload_n 0, 1) := dk_42 (byr_X9_year_0 (j := 0) rfl)
theorem dX9_year_1 : decode cX9_year 1 = .ok (.iload_n 1, 1) := dk_27 (byr_X9_year_0 (j := 1) rfl)
theorem dX9_year_2 : decode cX9_year 2 = .ok (.iload_n 2, 1) := dk_28 (byr_X9_year_0 (j := 2) rfl)
theorem dX9_year_3 : decode cX9_year 3 = .ok (.iconst 0, 1) := dk_3 (byr_X9_year_0 (j := 3) rfl)
theorem dX9_year_4 : decode cX9_year 4 = .ok (.invokevirtual 225, 3) := dk_182 (byr_X9_year_0 (j := 4) rfl) (byr_X9_year_0 (j := 5) rfl) (byr_X9_year_0 (j := 6) rfl) (by decide)
theorem dX9_year_7 : decode cX9_year 7 = .ok (.ireturn, 1) := dk_172 (byr_X9_year_0 (j := 7) rfl)
set_option maxHeartbeats 4000000 in
set_option maxRecDepth 100000 in
theorem c_X9_year (l : Launch) (G : GT) (σ : Sto) (a1 : Int32) (a2 : Int32) (r : (Int32 × Sto)) (h : f_X9_year σ a1 a2 = some r) : MW l G (10) (254) 0 0 yX9_year cX9_year 3 (Option.some Jvm.ClassFile.FieldType.int) [.ref (gad G 81), .int a1, .int a2] (wl G σ) (some (.int r.1)) (wl G r.2) := by
  refine mw_of RX9 (fiI G) [(0, .ref (gad G 81)), (1, .int a1), (2, .int a2)] (by decide +kernel) rfl (Nat.le_of_ble_eq_true rfl) rfl h rfl (fun p e s m args below meth c X hr hnm => ?_)
  unfold f_X9_year
  refine sm_aload_n X 1 0 dX9_year_0 rfl rfl rfl ?_
  refine sm_iload_n X 2 1 dX9_year_1 rfl rfl rfl ?_
  refine sm_iload_n X 3 2 dX9_year_2 rfl rfl rfl ?_
  refine sm_iconst X 4 (0) dX9_year_3 rfl rfl ?_
  refine sm_bind (fun r4 h4 => ?_)
  refine sm_callV0 X 7 [.int a1, .int a2, .int 0] [] [.int r4.1] (c_X9_aYear l G σ a1 a2 false r4 h4) cw_X9_aYear q_1160 qs_51 q_1158 rfl (by decide) rfl rfl rfl rfl rfl (Nat.le_of_ble_eq_true rfl) ⟨Nat.le_of_ble_eq_true rfl, Nat.le_of_ble_eq_true rfl⟩ ⟨Nat.le_refl _, Nat.le_refl _⟩ dX9_year_4 rfl ?_
  exact sm_iret X hr dX9_year_7 rfl
def by_X9_loose_z : List Nat := [42, 27, 28, 4, 182, 0, 225, 172]
def by_X9_loose : List (List Nat) := []
set_option maxRecDepth 100000 in
theorem byo_X9_loose : cX9_loose.data.toList.map UInt8.toNat = by_X9_loose.flatten ++ by_X9_loose_z := by decide +kernel
theorem byl_X9_loose : by_X9_loose.all (fun r => r.length == 16) = true := by decide +kernel
theorem byr_X9_loose_0 {j v : Nat} (h : by_X9_loose_z[j]? = some v) : RD cX9_loose (0 + j) v := rd_z byo_X9_loose byl_X9_loose 0 rfl h
theorem dX9_loose_0 : decode cX9_loose 0 = .ok (.aload_n 0, 1) := dk_42 (byr_X9_loose_0 (j := 0) rfl)
theorem dX9_loose_1 : decode cX9_loose 1 = .ok (.iload_n 1, 1) := dk_27 (byr_X9_loose_0 (j := 1) rfl)
theorem dX9_loose_2 : decode cX9_loose 2 = .ok (.iload_n 2, 1) := dk_28 (byr_X9_loose_0 (j := 2) rfl)
theorem dX9_loose_3 : decode cX9_loose 3 = .ok (.iconst 1, 1) := dk_4 (byr_X9_loose_0 (j := 3) rfl)
theorem dX9_loose_4 : decode cX9_loose 4 = .ok (.invokevirtual 225, 3) := dk_182 (byr_X9_loose_0 (j := 4) rfl) (byr_X9_loose_0 (j := 5) rfl) (byr_X9_loose_0 (j := 6) rfl) (by decide)
theorem dX9_loose_7 : decode cX9_loose 7 = .ok (.ireturn, 1) := dk_172 (byr_X9_loose_0 (j := 7) rfl)
set_option maxHeartbeats 4000000 in
set_option maxRecDepth 100000 in
theorem c_X9_loose (l : Launch) (G : GT) (σ : Sto) (a1 : Int32) (a2 : Int32) (r : (Int32 × Sto)) (h : f_X9_loose σ a1 a2 = some r) : MW l G (10) (254) 0 0 yX9_loose cX9_loose 3 (Option.some Jvm.ClassFile.FieldType.int) [.ref (gad G 81), .int a1, .int a2] (wl G σ) (some (.int r.1)) (wl G r.2) := by
  refine mw_of RX9 (fiI G) [(0, .ref (gad G 81)), (1, .int a1), (2, .int a2)] (by decide +kernel) rfl (Nat.le_of_ble_eq_true rfl) rfl h rfl (fun p e s m args below meth c X hr hnm => ?_)
  unfold f_X9_loose
  refine sm_aload_n X 1 0 dX9_loose_0 rfl rfl rfl ?_
  refine sm_iload_n X 2 1 dX9_loose_1 rfl rfl rfl ?_
  refine sm_iload_n X 3 2 dX9_loose_2 rfl rfl rfl ?_
  refine sm_iconst X 4 (1) dX9_loose_3 rfl rfl ?_
  refine sm_bind (fun r4 h4 => ?_)
  refine sm_callV0 X 7 [.int a1, .int a2, .int 1] [] [.int r4.1] (c_X9_aYear l G σ a1 a2 true r4 h4) cw_X9_aYear q_1160 qs_51 q_1158 rfl (by decide) rfl rfl rfl rfl rfl (Nat.le_of_ble_eq_true rfl) ⟨Nat.le_of_ble_eq_true rfl, Nat.le_of_ble_eq_true rfl⟩ ⟨Nat.le_refl _, Nat.le_refl _⟩ dX9_loose_4 rfl ?_
  exact sm_iret X hr dX9_loose_7 rfl
def by_X9_isBetter_0 : List Nat := [26, 154, 0, 16, 27, 28, 164, 0, 7, 4, 167, 0, 17, 3, 167, 0]
def by_X9_isBetter_z : List Nat := [13, 27, 28, 162, 0, 7, 4, 167, 0, 4, 3, 172]
def by_X9_isBetter : List (List Nat) := [by_X9_isBetter_0]
set_option maxRecDepth 100000 in
theorem byo_X9_isBetter : cX9_isBetter.data.toList.map UInt8.toNat = by_X9_isBetter.flatten ++ by_X9_isBetter_z := by decide +kernel
theorem byl_X9_isBetter : by_X9_isBetter.all (fun r => r.length == 16) = true := by decide +kernel
theorem byr_X9_isBetter_0 {j v : Nat} (h : by_X9_isBetter_0[j]? = some v) : RD cX9_isBetter (0 + j) v := rd_16 byo_X9_isBetter byl_X9_isBetter 0 rfl h
theorem byr_X9_isBetter_1 {j v : Nat} (h : by_X9_isBetter_z[j]? = some v) : RD cX9_isBetter (16 + j) v := rd_z byo_X9_isBetter byl_X9_isBetter 1 rfl h
theorem dX9_isBetter_0 : decode cX9_isBetter 0 = .ok (.iload_n 0, 1) := dk_26 (byr_X9_isBetter_0 (j := 0) rfl)
theorem dX9_isBetter_1 : decode cX9_isBetter 1 = .ok (.ifCond .ne 16, 3) := dk_154 (byr_X9_isBetter_0 (j := 1) rfl) (byr_X9_isBetter_0 (j := 2) rfl) (byr_X9_isBetter_0 (j := 3) rfl) (by decide)
theorem dX9_isBetter_4 : decode cX9_isBetter 4 = .ok (.iload_n 1, 1) := dk_27 (byr_X9_isBetter_0 (j := 4) rfl)
theorem dX9_isBetter_5 : decode cX9_isBetter 5 = .ok (.iload_n 2, 1) := dk_28 (byr_X9_isBetter_0 (j := 5) rfl)
theorem dX9_isBetter_6 : decode cX9_isBetter 6 = .ok (.if_icmp .le 7, 3) := dk_164 (byr_X9_isBetter_0 (j := 6) rfl) (byr_X9_isBetter_0 (j := 7) rfl) (byr_X9_isBetter_0 (j := 8) rfl) (by decide)
theorem dX9_isBetter_9 : decode cX9_isBetter 9 = .ok (.iconst 1, 1) := dk_4 (byr_X9_isBetter_0 (j := 9) rfl)
theorem dX9_isBetter_10 : decode cX9_isBetter 10 = .ok (.goto 17, 3) := dk_167 (byr_X9_isBetter_0 (j := 10) rfl) (byr_X9_isBetter_0 (j := 11) rfl) (byr_X9_isBetter_0 (j := 12) rfl) (by decide)
theorem dX9_isBetter_13 : decode cX9_isBetter 13 = .ok (.iconst 0, 1) := dk_3 (byr_X9_isBetter_0 (j := 13) rfl)
theorem dX9_isBetter_14 : decode cX9_isBetter 14 = .ok (.goto 13, 3) := dk_167 (byr_X9_isBetter_0 (j := 14) rfl) (byr_X9_isBetter_0 (j := 15) rfl) (byr_X9_isBetter_1 (j := 0) rfl) (by decide)
theorem dX9_isBetter_17 : decode cX9_isBetter 17 = .ok (.iload_n 1, 1) := dk_27 (byr_X9_isBetter_1 (j := 1) rfl)
theorem dX9_isBetter_18 : decode cX9_isBetter 18 = .ok (.iload_n 2, 1) := dk_28 (byr_X9_isBetter_1 (j := 2) rfl)
theorem dX9_isBetter_19 : decode cX9_isBetter 19 = .ok (.if_icmp .ge 7, 3) := dk_162 (byr_X9_isBetter_1 (j := 3) rfl) (byr_X9_isBetter_1 (j := 4) rfl) (byr_X9_isBetter_1 (j := 5) rfl) (by decide)
theorem dX9_isBetter_22 : decode cX9_isBetter 22 = .ok (.iconst 1, 1) := dk_4 (byr_X9_isBetter_1 (j := 6) rfl)
theorem dX9_isBetter_23 : decode cX9_isBetter 23 = .ok (.goto 4, 3) := dk_167 (byr_X9_isBetter_1 (j := 7) rfl) (byr_X9_isBetter_1 (j := 8) rfl) (byr_X9_isBetter_1 (j := 9) rfl) (by decide)
theorem dX9_isBetter_26 : decode cX9_isBetter 26 = .ok (.iconst 0, 1) := dk_3 (byr_X9_isBetter_1 (j := 10) rfl)
theorem dX9_isBetter_27 : decode cX9_isBetter 27 = .ok (.ireturn, 1) := dk_172 (byr_X9_isBetter_1 (j := 11) rfl)
set_option maxHeartbeats 4000000 in
set_option maxRecDepth 100000 in
theorem c_X9_isBetter (l : Launch) (G : GT) (σ : Sto) (a0 : Int32) (a1 : Int32) (a2 : Int32) (r : Bool) (h : f_X9_isBetter a0 a1 a2 = some r) : MW l G (2) (64) 0 0 yX9_isBetter cX9_isBetter 3 (Option.some Jvm.ClassFile.FieldType.boolean) [.int a0, .int a1, .int a2] (wl G σ) (some (.int (b2i r))) (wl G σ) := by
  refine mw_of RX9 (fpZ G σ) [(0, .int a0), (1, .int a1), (2, .int a2)] (by decide +kernel) rfl (Nat.le_of_ble_eq_true rfl) rfl h rfl (fun p e s m args below meth c X hr hnm => ?_)
  unfold f_X9_isBetter
  refine sm_iload_n X 1 0 dX9_isBetter_0 rfl rfl rfl ?_
  refine sm_if_ne X 4 17 dX9_isBetter_1 rfl (by decide) (fun h1 => ?_) (fun h1 => ?_)
  · refine sm_iload_n X 5 1 dX9_isBetter_4 rfl rfl rfl ?_
    refine sm_iload_n X 6 2 dX9_isBetter_5 rfl rfl rfl ?_
    refine sm_icmp_le X 9 13 dX9_isBetter_6 rfl (by decide) (fun h6 => ?_) (fun h6 => ?_)
    · refine sm_iconst X 14 (0) dX9_isBetter_13 rfl rfl ?_
      refine sm_goto X 27 dX9_isBetter_14 (by decide) ?_
      exact sm_zret X (v := false) hr dX9_isBetter_27 rfl
    · refine sm_iconst X 10 (1) dX9_isBetter_9 rfl rfl ?_
      refine sm_goto X 27 dX9_isBetter_10 (by decide) ?_
      exact sm_zret X (v := true) hr dX9_isBetter_27 rfl
  · refine sm_iload_n X 18 1 dX9_isBetter_17 rfl rfl rfl ?_
    refine sm_iload_n X 19 2 dX9_isBetter_18 rfl rfl rfl ?_
    refine sm_icmp_ge X 22 26 dX9_isBetter_19 rfl (by decide) (fun h19 => ?_) (fun h19 => ?_)
    · refine sm_iconst X 27 (0) dX9_isBetter_26 rfl rfl ?_
      exact sm_zret X (v := false) hr dX9_isBetter_27 rfl
    · refine sm_iconst X 23 (1) dX9_isBetter_22 rfl rfl ?_
      refine sm_goto X 27 dX9_isBetter_23 (by decide) ?_
      exact sm_zret X (v := true) hr dX9_isBetter_27 rfl
def by_X9_plans_0 : List Nat := [42, 27, 8, 28, 182, 0, 166, 42, 27, 16, 6, 29, 182, 0, 166, 42]
def by_X9_plans_1 : List Nat := [27, 16, 7, 21, 4, 182, 0, 166, 42, 27, 16, 8, 21, 5, 182, 0]
def by_X9_plans_z : List Nat := [166, 177]
def by_X9_plans : List (List Nat) := [by_X9_plans_0, by_X9_plans_1]
set_option maxRecDepth 100000 in
theorem byo_X9_plans : cX9_plans.data.toList.map UInt8.toNat = by_X9_plans.flatten ++ by_X9_plans_z := by decide +kernel
theorem byl_X9_plans : by_X9_plans.all (fun r => r.length == 16) = true := by decide +kernel
theorem byr_X9_plans_0 {j v : Nat} (h : by_X9_plans_0[j]? = some v) : RD cX9_plans (0 + j) v := rd_16 byo_X9_plans byl_X9_plans 0 rfl h
theorem byr_X9_plans_1 {j v : Nat} (h : by_X9_plans_1[j]? = some v) : RD cX9_plans (16 + j) v := rd_16 byo_X9_plans byl_X9_plans 1 rfl h
theorem byr_X9_plans_2 {j v : Nat} (h : by_X9_plans_z[j]? = some v) : RD cX9_plans (32 + j) v := rd_z byo_X9_plans byl_X9_plans 2 rfl h
theorem dX9_plans_0 : decode cX9_plans 0 = .ok (.aload_n 0, 1) := dk_42 (byr_X9_plans_0 (j := 0) rfl)
theorem dX9_plans_1 : decode cX9_plans 1 = .ok (.iload_n 1, 1) := dk_27 (byr_X9_plans_0 (j := 1) rfl)
theorem dX9_plans_2 : decode cX9_plans 2 = .ok (.iconst 5, 1) := dk_8 (byr_X9_plans_0 (j := 2) rfl)
theorem dX9_plans_3 : decode cX9_plans 3 = .ok (.iload_n 2, 1) := dk_28 (byr_X9_plans_0 (j := 3) rfl)
theorem dX9_plans_4 : decode cX9_plans 4 = .ok (.invokevirtual 166, 3) := dk_182 (byr_X9_plans_0 (j := 4) rfl) (byr_X9_plans_0 (j := 5) rfl) (byr_X9_plans_0 (j := 6) rfl) (by decide)
theorem dX9_plans_7 : decode cX9_plans 7 = .ok (.aload_n 0, 1) := dk_42 (byr_X9_plans_0 (j := 7) rfl)
theorem dX9_plans_8 : decode cX9_plans 8 = .ok (.iload_n 1, 1) := dk_27 (byr_X9_plans_0 (j := 8) rfl)
theorem dX9_plans_9 : decode cX9_plans 9 = .ok (.bipush 6, 2) := dk_16 (byr_X9_plans_0 (j := 9) rfl) (byr_X9_plans_0 (j := 10) rfl) (by decide)
theorem dX9_plans_11 : decode cX9_plans 11 = .ok (.iload_n 3, 1) := dk_29 (byr_X9_plans_0 (j := 11) rfl)
theorem dX9_plans_12 : decode cX9_plans 12 = .ok (.invokevirtual 166, 3) := dk_182 (byr_X9_plans_0 (j := 12) rfl) (byr_X9_plans_0 (j := 13) rfl) (byr_X9_plans_0 (j := 14) rfl) (by decide)
theorem dX9_plans_15 : decode cX9_plans 15 = .ok (.aload_n 0, 1) := dk_42 (byr_X9_plans_0 (j := 15) rfl)
theorem dX9_plans_16 : decode cX9_plans 16 = .ok (.iload_n 1, 1) := dk_27 (byr_X9_plans_1 (j := 0) rfl)
theorem dX9_plans_17 : decode cX9_plans 17 = .ok (.bipush 7, 2) := dk_16 (byr_X9_plans_1 (j := 1) rfl) (byr_X9_plans_1 (j := 2) rfl) (by decide)
theorem dX9_plans_19 : decode cX9_plans 19 = .ok (.iload 4, 2) := dk_21 (byr_X9_plans_1 (j := 3) rfl) (byr_X9_plans_1 (j := 4) rfl)
theorem dX9_plans_21 : decode cX9_plans 21 = .ok (.invokevirtual 166, 3) := dk_182 (byr_X9_plans_1 (j := 5) rfl) (byr_X9_plans_1 (j := 6) rfl) (byr_X9_plans_1 (j := 7) rfl) (by decide)
theorem dX9_plans_24 : decode cX9_plans 24 = .ok (.aload_n 0, 1) := dk_42 (byr_X9_plans_1 (j := 8) rfl)
theorem dX9_plans_25 : decode cX9_plans 25 = .ok (.iload_n 1, 1) := dk_27 (byr_X9_plans_1 (j := 9) rfl)
theorem dX9_plans_26 : decode cX9_plans 26 = .ok (.bipush 8, 2) := dk_16 (byr_X9_plans_1 (j := 10) rfl) (byr_X9_plans_1 (j := 11) rfl) (by decide)
theorem dX9_plans_28 : decode cX9_plans 28 = .ok (.iload 5, 2) := dk_21 (byr_X9_plans_1 (j := 12) rfl) (byr_X9_plans_1 (j := 13) rfl)
theorem dX9_plans_30 : decode cX9_plans 30 = .ok (.invokevirtual 166, 3) := dk_182 (byr_X9_plans_1 (j := 14) rfl) (byr_X9_plans_1 (j := 15) rfl) (byr_X9_plans_2 (j := 0) rfl) (by decide)
theorem dX9_plans_33 : decode cX9_plans 33 = .ok (.return_, 1) := dk_177 (byr_X9_plans_2 (j := 1) rfl)
set_option maxHeartbeats 4000000 in
set_option maxRecDepth 100000 in
theorem c_X9_plans (l : Launch) (G : GT) (σ : Sto) (a1 : Int32) (a2 : Int32) (a3 : Int32) (a4 : Int32) (a5 : Int32) (r : Sto) (h : f_X9_plans σ a1 a2 a3 a4 a5 = some r) : MW l G (3) (87) 0 0 yX9_plans cX9_plans 6 (Option.none : Option Jvm.ClassFile.FieldType) [.ref (gad G 81), .int a1, .int a2, .int a3, .int a4, .int a5] (wl G σ) (none) (wl G r) := by
  refine mw_of RX9 (fiV G) [(0, .ref (gad G 81)), (1, .int a1), (2, .int a2), (3, .int a3), (4, .int a4), (5, .int a5)] (by decide +kernel) rfl (Nat.le_of_ble_eq_true rfl) rfl h rfl (fun p e s m args below meth c X hr hnm => ?_)
  unfold f_X9_plans
  refine sm_aload_n X 1 0 dX9_plans_0 rfl rfl rfl ?_
  refine sm_iload_n X 2 1 dX9_plans_1 rfl rfl rfl ?_
  refine sm_iconst X 3 (5) dX9_plans_2 rfl rfl ?_
  refine sm_iload_n X 4 2 dX9_plans_3 rfl rfl rfl ?_
  refine sm_bind (fun r4 h4 => ?_)
  refine sm_callV0 X 7 [.int a1, .int 5, .int a2] [] [] (c_X9_becomes l G σ a1 (5 : Int32) a2 r4 h4) cw_X9_becomes q_1078 qs_43 q_1076 rfl (by decide) rfl rfl rfl rfl rfl (Nat.le_of_ble_eq_true rfl) ⟨Nat.le_of_ble_eq_true rfl, Nat.le_of_ble_eq_true rfl⟩ ⟨Nat.le_refl _, Nat.le_refl _⟩ dX9_plans_4 rfl ?_
  refine sm_aload_n X 8 0 dX9_plans_7 rfl rfl rfl ?_
  refine sm_iload_n X 9 1 dX9_plans_8 rfl rfl rfl ?_
  refine sm_bipush X 11 (6) dX9_plans_9 rfl rfl ?_
  refine sm_iload_n X 12 3 dX9_plans_11 rfl rfl rfl ?_
  refine sm_bind (fun r12 h12 => ?_)
  refine sm_callV0 X 15 [.int a1, .int 6, .int a3] [] [] (c_X9_becomes l G r4 a1 (6 : Int32) a3 r12 h12) cw_X9_becomes q_1078 qs_43 q_1076 rfl (by decide) rfl rfl rfl rfl rfl (Nat.le_of_ble_eq_true rfl) ⟨Nat.le_of_ble_eq_true rfl, Nat.le_of_ble_eq_true rfl⟩ ⟨Nat.le_refl _, Nat.le_refl _⟩ dX9_plans_12 rfl ?_
  refine sm_aload_n X 16 0 dX9_plans_15 rfl rfl rfl ?_
  refine sm_iload_n X 17 1 dX9_plans_16 rfl rfl rfl ?_
  refine sm_bipush X 19 (7) dX9_plans_17 rfl rfl ?_
  refine sm_iload X 21 4 dX9_plans_19 rfl rfl ?_
  refine sm_bind (fun r21 h21 => ?_)
  refine sm_callV0 X 24 [.int a1, .int 7, .int a4] [] [] (c_X9_becomes l G r12 a1 (7 : Int32) a4 r21 h21) cw_X9_becomes q_1078 qs_43 q_1076 rfl (by decide) rfl rfl rfl rfl rfl (Nat.le_of_ble_eq_true rfl) ⟨Nat.le_of_ble_eq_true rfl, Nat.le_of_ble_eq_true rfl⟩ ⟨Nat.le_refl _, Nat.le_refl _⟩ dX9_plans_21 rfl ?_
  refine sm_aload_n X 25 0 dX9_plans_24 rfl rfl rfl ?_
  refine sm_iload_n X 26 1 dX9_plans_25 rfl rfl rfl ?_
  refine sm_bipush X 28 (8) dX9_plans_26 rfl rfl ?_
  refine sm_iload X 30 5 dX9_plans_28 rfl rfl ?_
  refine sm_bind (fun r30 h30 => ?_)
  refine sm_callV0 X 33 [.int a1, .int 8, .int a5] [] [] (c_X9_becomes l G r21 a1 (8 : Int32) a5 r30 h30) cw_X9_becomes q_1078 qs_43 q_1076 rfl (by decide) rfl rfl rfl rfl rfl (Nat.le_of_ble_eq_true rfl) ⟨Nat.le_of_ble_eq_true rfl, Nat.le_of_ble_eq_true rfl⟩ ⟨Nat.le_refl _, Nat.le_refl _⟩ dX9_plans_30 rfl ?_
  exact sm_vret X hr dX9_plans_33 rfl
def by_X9_laneIn_0 : List Nat := [26, 61, 6, 62, 29, 27, 164, 0, 14, 28, 16, 6, 108, 61, 132, 3]
def by_X9_laneIn_z : List Nat := [255, 167, 255, 243, 28, 16, 6, 112, 172]
def by_X9_laneIn : List (List Nat) := [by_X9_laneIn_0]
set_option maxRecDepth 100000 in
theorem byo_X9_laneIn : cX9_laneIn.data.toList.map UInt8.toNat = by_X9_laneIn.flatten ++ by_X9_laneIn_z := by decide +kernel
theorem byl_X9_laneIn : by_X9_laneIn.all (fun r => r.length == 16) = true := by decide +kernel
theorem byr_X9_laneIn_0 {j v : Nat} (h : by_X9_laneIn_0[j]? = some v) : RD cX9_laneIn (0 + j) v := rd_16 byo_X9_laneIn byl_X9_laneIn 0 rfl h
theorem byr_X9_laneIn_1 {j v : Nat} (h : by_X9_laneIn_z[j]? = some v) : RD cX9_laneIn (16 + j) v := rd_z byo_X9_laneIn byl_X9_laneIn 1 rfl h
theorem dX9_laneIn_0 : decode cX9_laneIn 0 = .ok (.iload_n 0, 1) := dk_26 (byr_X9_laneIn_0 (j := 0) rfl)
theorem dX9_laneIn_1 : decode cX9_laneIn 1 = .ok (.istore_n 2, 1) := dk_61 (byr_X9_laneIn_0 (j := 1) rfl)
theorem dX9_laneIn_2 : decode cX9_laneIn 2 = .ok (.iconst 3, 1) := dk_6 (byr_X9_laneIn_0 (j := 2) rfl)
theorem dX9_laneIn_3 : decode cX9_laneIn 3 = .ok (.istore_n 3, 1) := dk_62 (byr_X9_laneIn_0 (j := 3) rfl)
theorem dX9_laneIn_4 : decode cX9_laneIn 4 = .ok (.iload_n 3, 1) := dk_29 (byr_X9_laneIn_0 (j := 4) rfl)
theorem dX9_laneIn_5 : decode cX9_laneIn 5 = .ok (.iload_n 1, 1) := dk_27 (byr_X9_laneIn_0 (j := 5) rfl)
theorem dX9_laneIn_6 : decode cX9_laneIn 6 = .ok (.if_icmp .le 14, 3) := dk_164 (byr_X9_laneIn_0 (j := 6) rfl) (byr_X9_laneIn_0 (j := 7) rfl) (byr_X9_laneIn_0 (j := 8) rfl) (by decide)
theorem dX9_laneIn_9 : decode cX9_laneIn 9 = .ok (.iload_n 2, 1) := dk_28 (byr_X9_laneIn_0 (j := 9) rfl)
theorem dX9_laneIn_10 : decode cX9_laneIn 10 = .ok (.bipush 6, 2) := dk_16 (byr_X9_laneIn_0 (j := 10) rfl) (byr_X9_laneIn_0 (j := 11) rfl) (by decide)
theorem dX9_laneIn_12 : decode cX9_laneIn 12 = .ok (.idiv, 1) := dk_108 (byr_X9_laneIn_0 (j := 12) rfl)
theorem dX9_laneIn_13 : decode cX9_laneIn 13 = .ok (.istore_n 2, 1) := dk_61 (byr_X9_laneIn_0 (j := 13) rfl)
theorem dX9_laneIn_14 : decode cX9_laneIn 14 = .ok (.iinc 3 (-1), 3) := dk_132 (byr_X9_laneIn_0 (j := 14) rfl) (byr_X9_laneIn_0 (j := 15) rfl) (byr_X9_laneIn_1 (j := 0) rfl) (by decide)
theorem dX9_laneIn_17 : decode cX9_laneIn 17 = .ok (.goto (-13), 3) := dk_167 (byr_X9_laneIn_1 (j := 1) rfl) (byr_X9_laneIn_1 (j := 2) rfl) (byr_X9_laneIn_1 (j := 3) rfl) (by decide)
theorem dX9_laneIn_20 : decode cX9_laneIn 20 = .ok (.iload_n 2, 1) := dk_28 (byr_X9_laneIn_1 (j := 4) rfl)
theorem dX9_laneIn_21 : decode cX9_laneIn 21 = .ok (.bipush 6, 2) := dk_16 (byr_X9_laneIn_1 (j := 5) rfl) (byr_X9_laneIn_1 (j := 6) rfl) (by decide)
theorem dX9_laneIn_23 : decode cX9_laneIn 23 = .ok (.irem, 1) := dk_112 (byr_X9_laneIn_1 (j := 7) rfl)
theorem dX9_laneIn_24 : decode cX9_laneIn 24 = .ok (.ireturn, 1) := dk_172 (byr_X9_laneIn_1 (j := 8) rfl)
set_option maxHeartbeats 4000000 in
set_option maxRecDepth 100000 in
theorem c_X9_laneIn (l : Launch) (G : GT) (σ : Sto) (a0 : Int32) (a1 : Int32) (r : Int32) (h : f_X9_laneIn a0 a1 = some r) : MW l G (2) (64) 0 0 yX9_laneIn cX9_laneIn 4 (Option.some Jvm.ClassFile.FieldType.int) [.int a0, .int a1] (wl G σ) (some (.int r)) (wl G σ) := by
  refine mw_of RX9 (fpI G σ) [(0, .int a0), (1, .int a1)] (by decide +kernel) rfl (Nat.le_of_ble_eq_true rfl) rfl h rfl (fun p e s m args below meth c X hr hnm => ?_)
  have J4 : ∀ (v1 : Int32)  (n : Nat) (v2 : Int32) (v3 : Int32) , Sm p l e { frames := 2, cells := 0, slots := 0, locals := 64 } s m args below meth c G 4 (Qm below args s G 0 0 (fpI G σ)) 0 0 (wl G σ) 4 [(1, .int v1), (2, .int v2), (3, .int v3)] [] (f_X9_laneIn_L4  v1 n v2 v3) := by
    intro v1 n
    induction n with
    | zero => intro v2 v3; rw [f_X9_laneIn_L4]; exact sm_none
    | succ n ihl =>
      intro v2 v3
      rw [f_X9_laneIn_L4]
      refine sm_iload_n X 5 2 dX9_laneIn_4 rfl rfl rfl ?_
      refine sm_iload_n X 6 0 dX9_laneIn_5 rfl rfl rfl ?_
      refine sm_icmp_le X 9 20 dX9_laneIn_6 rfl (by decide) (fun h6 => ?_) (fun h6 => ?_)
      · refine sm_iload_n X 21 1 dX9_laneIn_20 rfl rfl rfl ?_
        refine sm_bipush X 23 (6) dX9_laneIn_21 rfl rfl ?_
        refine sm_irem X 24 dX9_laneIn_23 rfl (by first | decide | assumption) ?_
        exact sm_iret X hr dX9_laneIn_24 rfl
      · refine sm_iload_n X 10 1 dX9_laneIn_9 rfl rfl rfl ?_
        refine sm_bipush X 12 (6) dX9_laneIn_10 rfl rfl ?_
        refine sm_idiv X 13 dX9_laneIn_12 rfl (by first | decide | assumption) ?_
        refine sm_istore_n X 14 [(2, .int (v2 / (6 : Int32))), (1, .int v1), (3, .int v3)] dX9_laneIn_13 rfl rfl (by decide) rfl ?_
        refine sm_iinc X 17 2 (-1 : Int32) [(3, .int (v3 + (-1 : Int32))), (2, .int (v2 / (6 : Int32))), (1, .int v1)] dX9_laneIn_14 rfl rfl rfl (by decide) rfl ?_
        refine sm_goto X 4 dX9_laneIn_17 (by decide) ?_
        exact sm_sub [2, 1, 0] rfl (ihl (v2 / (6 : Int32)) (v3 + (-1 : Int32)))
  unfold f_X9_laneIn
  refine sm_iload_n X 1 0 dX9_laneIn_0 rfl rfl rfl ?_
  refine sm_istore_n X 2 [(2, .int a0), (0, .int a0), (1, .int a1)] dX9_laneIn_1 rfl rfl (by decide) rfl ?_
  refine sm_iconst X 3 (3) dX9_laneIn_2 rfl rfl ?_
  refine sm_istore_n X 4 [(3, .int 3), (2, .int a0), (0, .int a0), (1, .int a1)] dX9_laneIn_3 rfl rfl (by decide) rfl ?_
  exact sm_sub [3, 1, 0] rfl (J4 a1  FU a0 (3 : Int32))
def by_X9_bestPlan_0 : List Nat := [42, 27, 28, 182, 0, 207, 153, 0, 17, 29, 133, 20, 0, 229, 20, 0]
def by_X9_bestPlan_1 : List Nat := [155, 184, 0, 49, 154, 0, 9, 42, 4, 182, 0, 126, 172, 42, 180, 0]
def by_X9_bestPlan_2 : List Nat := [7, 42, 180, 0, 13, 184, 0, 231, 2, 54, 4, 3, 54, 5, 3, 54]
def by_X9_bestPlan_3 : List Nat := [6, 21, 6, 17, 5, 16, 162, 0, 80, 42, 27, 21, 6, 3, 184, 0]
def by_X9_bestPlan_4 : List Nat := [235, 21, 6, 4, 184, 0, 235, 21, 6, 5, 184, 0, 235, 21, 6, 6]
def by_X9_bestPlan_5 : List Nat := [184, 0, 235, 182, 0, 238, 42, 27, 28, 182, 0, 213, 153, 0, 36, 21]
def by_X9_bestPlan_6 : List Nat := [4, 155, 0, 21, 42, 27, 5, 182, 0, 172, 42, 180, 0, 204, 21, 5]
def by_X9_bestPlan_7 : List Nat := [184, 0, 242, 153, 0, 13, 21, 6, 54, 4, 42, 180, 0, 204, 54, 5]
def by_X9_bestPlan_8 : List Nat := [132, 6, 1, 167, 255, 174, 42, 180, 0, 13, 42, 180, 0, 7, 184, 0]
def by_X9_bestPlan_9 : List Nat := [231, 21, 4, 156, 0, 11, 42, 5, 182, 0, 126, 167, 0, 18, 29, 156]
def by_X9_bestPlan_z : List Nat := [0, 8, 21, 5, 167, 0, 9, 21, 4, 29, 184, 0, 235, 172]
def by_X9_bestPlan : List (List Nat) := [by_X9_bestPlan_0, by_X9_bestPlan_1, by_X9_bestPlan_2, by_X9_bestPlan_3, by_X9_bestPlan_4, by_X9_bestPlan_5, by_X9_bestPlan_6, by_X9_bestPlan_7, by_X9_bestPlan_8, by_X9_bestPlan_9]
set_option maxRecDepth 100000 in
theorem byo_X9_bestPlan : cX9_bestPlan.data.toList.map UInt8.toNat = by_X9_bestPlan.flatten ++ by_X9_bestPlan_z := by decide +kernel
theorem byl_X9_bestPlan : by_X9_bestPlan.all (fun r => r.length == 16) = true := by decide +kernel
theorem byr_X9_bestPlan_0 {j v : Nat} (h : by_X9_bestPlan_0[j]? = some v) : RD cX9_bestPlan (0 + j) v := rd_16 byo_X9_bestPlan byl_X9_bestPlan 0 rfl h
theorem byr_X9_bestPlan_1 {j v : Nat} (h : by_X9_bestPlan_1[j]? = some v) : RD cX9_bestPlan (16 + j) v := rd_16 byo_X9_bestPlan byl_X9_bestPlan 1 rfl h
theorem byr_X9_bestPlan_2 {j v : Nat} (h : by_X9_bestPlan_2[j]? = some v) : RD cX9_bestPlan (32 + j) v := rd_16 byo_X9_bestPlan byl_X9_bestPlan 2 rfl h
theorem byr_X9_bestPlan_3 {j v : Nat} (h : by_X9_bestPlan_3[j]? = some v) : RD cX9_bestPlan (48 + j) v := rd_16 byo_X9_bestPlan byl_X9_bestPlan 3 rfl h
theorem byr_X9_bestPlan_4 {j v : Nat} (h : by_X9_bestPlan_4[j]? = some v) : RD cX9_bestPlan (64 + j) v := rd_16 byo_X9_bestPlan byl_X9_bestPlan 4 rfl h
theorem byr_X9_bestPlan_5 {j v : Nat} (h : by_X9_bestPlan_5[j]? = some v) : RD cX9_bestPlan (80 + j) v := rd_16 byo_X9_bestPlan byl_X9_bestPlan 5 rfl h
theorem byr_X9_bestPlan_6 {j v : Nat} (h : by_X9_bestPlan_6[j]? = some v) : RD cX9_bestPlan (96 + j) v := rd_16 byo_X9_bestPlan byl_X9_bestPlan 6 rfl h
theorem byr_X9_bestPlan_7 {j v : Nat} (h : by_X9_bestPlan_7[j]? = some v) : RD cX9_bestPlan (112 + j) v := rd_16 byo_X9_bestPlan byl_X9_bestPlan 7 rfl h
theorem byr_X9_bestPlan_8 {j v : Nat} (h : by_X9_bestPlan_8[j]? = some v) : RD cX9_bestPlan (128 + j) v := rd_16 byo_X9_bestPlan byl_X9_bestPlan 8 rfl h
theorem byr_X9_bestPlan_9 {j v : Nat} (h : by_X9_bestPlan_9[j]? = some v) : RD cX9_bestPlan (144 + j) v := rd_16 byo_X9_bestPlan byl_X9_bestPlan 9 rfl h
theorem byr_X9_bestPlan_10 {j v : Nat} (h : by_X9_bestPlan_z[j]? = some v) : RD cX9_bestPlan (160 + j) v := rd_z byo_X9_bestPlan byl_X9_bestPlan 10 rfl h
theorem dX9_bestPlan_0 : decode cX9_bestPlan 0 = .ok (.aload_n 0, 1) := dk_42 (byr_X9_bestPlan_0 (j := 0) rfl)
theorem dX9_bestPlan_1 : decode cX9_bestPlan 1 = .ok (.iload_n 1, 1) := dk_27 (byr_X9_bestPlan_0 (j := 1) rfl)
theorem dX9_bestPlan_2 : decode cX9_bestPlan 2 = .ok (.iload_n 2, 1) := dk_28 (byr_X9_bestPlan_0 (j := 2) rfl)
theorem dX9_bestPlan_3 : decode cX9_bestPlan 3 = .ok (.invokevirtual 207, 3) := dk_182 (byr_X9_bestPlan_0 (j := 3) rfl) (byr_X9_bestPlan_0 (j := 4) rfl) (byr_X9_bestPlan_0 (j := 5) rfl) (by decide)
theorem dX9_bestPlan_6 : decode cX9_bestPlan 6 = .ok (.ifCond .eq 17, 3) := dk_153 (byr_X9_bestPlan_0 (j := 6) rfl) (byr_X9_bestPlan_0 (j := 7) rfl) (byr_X9_bestPlan_0 (j := 8) rfl) (by decide)
theorem dX9_bestPlan_9 : decode cX9_bestPlan 9 = .ok (.iload_n 3, 1) := dk_29 (byr_X9_bestPlan_0 (j := 9) rfl)
theorem dX9_bestPlan_10 : decode cX9_bestPlan 10 = .ok (.i2l, 1) := dk_133 (byr_X9_bestPlan_0 (j := 10) rfl)
theorem dX9_bestPlan_11 : decode cX9_bestPlan 11 = .ok (.ldc2_w 229, 3) := dk_20 (byr_X9_bestPlan_0 (j := 11) rfl) (byr_X9_bestPlan_0 (j := 12) rfl) (byr_X9_bestPlan_0 (j := 13) rfl) (by decide)
theorem dX9_bestPlan_14 : decode cX9_bestPlan 14 = .ok (.ldc2_w 155, 3) := dk_20 (byr_X9_bestPlan_0 (j := 14) rfl) (byr_X9_bestPlan_0 (j := 15) rfl) (byr_X9_bestPlan_1 (j := 0) rfl) (by decide)
theorem dX9_bestPlan_17 : decode cX9_bestPlan 17 = .ok (.invokestatic 49, 3) := dk_184 (byr_X9_bestPlan_1 (j := 1) rfl) (byr_X9_bestPlan_1 (j := 2) rfl) (byr_X9_bestPlan_1 (j := 3) rfl) (by decide)
theorem dX9_bestPlan_20 : decode cX9_bestPlan 20 = .ok (.ifCond .ne 9, 3) := dk_154 (byr_X9_bestPlan_1 (j := 4) rfl) (byr_X9_bestPlan_1 (j := 5) rfl) (byr_X9_bestPlan_1 (j := 6) rfl) (by decide)
theorem dX9_bestPlan_23 : decode cX9_bestPlan 23 = .ok (.aload_n 0, 1) := dk_42 (byr_X9_bestPlan_1 (j := 7) rfl)
theorem dX9_bestPlan_24 : decode cX9_bestPlan 24 = .ok (.iconst 1, 1) := dk_4 (byr_X9_bestPlan_1 (j := 8) rfl)
theorem dX9_bestPlan_25 : decode cX9_bestPlan 25 = .ok (.invokevirtual 126, 3) := dk_182 (byr_X9_bestPlan_1 (j := 9) rfl) (byr_X9_bestPlan_1 (j := 10) rfl) (byr_X9_bestPlan_1 (j := 11) rfl) (by decide)
theorem dX9_bestPlan_28 : decode cX9_bestPlan 28 = .ok (.ireturn, 1) := dk_172 (byr_X9_bestPlan_1 (j := 12) rfl)
theorem dX9_bestPlan_29 : decode cX9_bestPlan 29 = .ok (.aload_n 0, 1) := dk_42 (byr_X9_bestPlan_1 (j := 13) rfl)
theorem dX9_bestPlan_30 : decode cX9_bestPlan 30 = .ok (.getfield 7, 3) := dk_180 (byr_X9_bestPlan_1 (j := 14) rfl) (byr_X9_bestPlan_1 (j := 15) rfl) (byr_X9_bestPlan_2 (j := 0) rfl) (by decide)
theorem dX9_bestPlan_33 : decode cX9_bestPlan 33 = .ok (.aload_n 0, 1) := dk_42 (byr_X9_bestPlan_2 (j := 1) rfl)
theorem dX9_bestPlan_34 : decode cX9_bestPlan 34 = .ok (.getfield 13, 3) := dk_180 (byr_X9_bestPlan_2 (j := 2) rfl) (byr_X9_bestPlan_2 (j := 3) rfl) (byr_X9_bestPlan_2 (j := 4) rfl) (by decide)
theorem dX9_bestPlan_37 : decode cX9_bestPlan 37 = .ok (.invokestatic 231, 3) := dk_184 (byr_X9_bestPlan_2 (j := 5) rfl) (byr_X9_bestPlan_2 (j := 6) rfl) (byr_X9_bestPlan_2 (j := 7) rfl) (by decide)
theorem dX9_bestPlan_40 : decode cX9_bestPlan 40 = .ok (.iconst (-1), 1) := dk_2 (byr_X9_bestPlan_2 (j := 8) rfl)
theorem dX9_bestPlan_41 : decode cX9_bestPlan 41 = .ok (.istore 4, 2) := dk_54 (byr_X9_bestPlan_2 (j := 9) rfl) (byr_X9_bestPlan_2 (j := 10) rfl)
theorem dX9_bestPlan_43 : decode cX9_bestPlan 43 = .ok (.iconst 0, 1) := dk_3 (byr_X9_bestPlan_2 (j := 11) rfl)
theorem dX9_bestPlan_44 : decode cX9_bestPlan 44 = .ok (.istore 5, 2) := dk_54 (byr_X9_bestPlan_2 (j := 12) rfl) (byr_X9_bestPlan_2 (j := 13) rfl)
theorem dX9_bestPlan_46 : decode cX9_bestPlan 46 = .ok (.iconst 0, 1) := dk_3 (byr_X9_bestPlan_2 (j := 14) rfl)
theorem dX9_bestPlan_47 : decode cX9_bestPlan 47 = .ok (.istore 6, 2) := dk_54 (byr_X9_bestPlan_2 (j := 15) rfl) (byr_X9_bestPlan_3 (j := 0) rfl)
theorem dX9_bestPlan_49 : decode cX9_bestPlan 49 = .ok (.iload 6, 2) := dk_21 (byr_X9_bestPlan_3 (j := 1) rfl) (byr_X9_bestPlan_3 (j := 2) rfl)
theorem dX9_bestPlan_51 : decode cX9_bestPlan 51 = .ok (.sipush 1296, 3) := dk_17 (byr_X9_bestPlan_3 (j := 3) rfl) (byr_X9_bestPlan_3 (j := 4) rfl) (byr_X9_bestPlan_3 (j := 5) rfl) (by decide)
theorem dX9_bestPlan_54 : decode cX9_bestPlan 54 = .ok (.if_icmp .ge 80, 3) := dk_162 (byr_X9_bestPlan_3 (j := 6) rfl) (byr_X9_bestPlan_3 (j := 7) rfl) (byr_X9_bestPlan_3 (j := 8) rfl) (by decide)
theorem dX9_bestPlan_57 : decode cX9_bestPlan 57 = .ok (.aload_n 0, 1) := dk_42 (byr_X9_bestPlan_3 (j := 9) rfl)
theorem dX9_bestPlan_58 : decode cX9_bestPlan 58 = .ok (.iload_n 1, 1) := dk_27 (byr_X9_bestPlan_3 (j := 10) rfl)
theorem dX9_bestPlan_59 : decode cX9_bestPlan 59 = .ok (.iload 6, 2) := dk_21 (byr_X9_bestPlan_3 (j := 11) rfl) (byr_X9_bestPlan_3 (j := 12) rfl)
theorem dX9_bestPlan_61 : decode cX9_bestPlan 61 = .ok (.iconst 0, 1) := dk_3 (byr_X9_bestPlan_3 (j := 13) rfl)
theorem dX9_bestPlan_62 : decode cX9_bestPlan 62 = .ok (.invokestatic 235, 3) := dk_184 (byr_X9_bestPlan_3 (j := 14) rfl) (byr_X9_bestPlan_3 (j := 15) rfl) (byr_X9_bestPlan_4 (j := 0) rfl) (by decide)
theorem dX9_bestPlan_65 : decode cX9_bestPlan 65 = .ok (.iload 6, 2) := dk_21 (byr_X9_bestPlan_4 (j := 1) rfl) (byr_X9_bestPlan_4 (j := 2) rfl)
theorem dX9_bestPlan_67 : decode cX9_bestPlan 67 = .ok (.iconst 1, 1) := dk_4 (byr_X9_bestPlan_4 (j := 3) rfl)
theorem dX9_bestPlan_68 : decode cX9_bestPlan 68 = .ok (.invokestatic 235, 3) := dk_184 (byr_X9_bestPlan_4 (j := 4) rfl) (byr_X9_bestPlan_4 (j := 5) rfl) (byr_X9_bestPlan_4 (j := 6) rfl) (by decide)
theorem dX9_bestPlan_71 : decode cX9_bestPlan 71 = .ok (.iload 6, 2) := dk_21 (byr_X9_bestPlan_4 (j := 7) rfl) (byr_X9_bestPlan_4 (j := 8) rfl)
theorem dX9_bestPlan_73 : decode cX9_bestPlan 73 = .ok (.iconst 2, 1) := dk_5 (byr_X9_bestPlan_4 (j := 9) rfl)
theorem dX9_bestPlan_74 : decode cX9_bestPlan 74 = .ok (.invokestatic 235, 3) := dk_184 (byr_X9_bestPlan_4 (j := 10) rfl) (byr_X9_bestPlan_4 (j := 11) rfl) (byr_X9_bestPlan_4 (j := 12) rfl) (by decide)
theorem dX9_bestPlan_77 : decode cX9_bestPlan 77 = .ok (.iload 6, 2) := dk_21 (byr_X9_bestPlan_4 (j := 13) rfl) (byr_X9_bestPlan_4 (j := 14) rfl)
theorem dX9_bestPlan_79 : decode cX9_bestPlan 79 = .ok (.iconst 3, 1) := dk_6 (byr_X9_bestPlan_4 (j := 15) rfl)
theorem dX9_bestPlan_80 : decode cX9_bestPlan 80 = .ok (.invokestatic 235, 3) := dk_184 (byr_X9_bestPlan_5 (j := 0) rfl) (byr_X9_bestPlan_5 (j := 1) rfl) (byr_X9_bestPlan_5 (j := 2) rfl) (by decide)
theorem dX9_bestPlan_83 : decode cX9_bestPlan 83 = .ok (.invokevirtual 238, 3) := dk_182 (byr_X9_bestPlan_5 (j := 3) rfl) (byr_X9_bestPlan_5 (j := 4) rfl) (byr_X9_bestPlan_5 (j := 5) rfl) (by decide)
theorem dX9_bestPlan_86 : decode cX9_bestPlan 86 = .ok (.aload_n 0, 1) := dk_42 (byr_X9_bestPlan_5 (j := 6) rfl)
theorem dX9_bestPlan_87 : decode cX9_bestPlan 87 = .ok (.iload_n 1, 1) := dk_27 (byr_X9_bestPlan_5 (j := 7) rfl)
theorem dX9_bestPlan_88 : decode cX9_bestPlan 88 = .ok (.iload_n 2, 1) := dk_28 (byr_X9_bestPlan_5 (j := 8) rfl)
theorem dX9_bestPlan_89 : decode cX9_bestPlan 89 = .ok (.invokevirtual 213, 3) := dk_182 (byr_X9_bestPlan_5 (j := 9) rfl) (byr_X9_bestPlan_5 (j := 10) rfl) (byr_X9_bestPlan_5 (j := 11) rfl) (by decide)
theorem dX9_bestPlan_92 : decode cX9_bestPlan 92 = .ok (.ifCond .eq 36, 3) := dk_153 (byr_X9_bestPlan_5 (j := 12) rfl) (byr_X9_bestPlan_5 (j := 13) rfl) (byr_X9_bestPlan_5 (j := 14) rfl) (by decide)
theorem dX9_bestPlan_95 : decode cX9_bestPlan 95 = .ok (.iload 4, 2) := dk_21 (byr_X9_bestPlan_5 (j := 15) rfl) (byr_X9_bestPlan_6 (j := 0) rfl)
theorem dX9_bestPlan_97 : decode cX9_bestPlan 97 = .ok (.ifCond .lt 21, 3) := dk_155 (byr_X9_bestPlan_6 (j := 1) rfl) (byr_X9_bestPlan_6 (j := 2) rfl) (byr_X9_bestPlan_6 (j := 3) rfl) (by decide)
theorem dX9_bestPlan_100 : decode cX9_bestPlan 100 = .ok (.aload_n 0, 1) := dk_42 (byr_X9_bestPlan_6 (j := 4) rfl)
theorem dX9_bestPlan_101 : decode cX9_bestPlan 101 = .ok (.iload_n 1, 1) := dk_27 (byr_X9_bestPlan_6 (j := 5) rfl)
theorem dX9_bestPlan_102 : decode cX9_bestPlan 102 = .ok (.iconst 2, 1) := dk_5 (byr_X9_bestPlan_6 (j := 6) rfl)
theorem dX9_bestPlan_103 : decode cX9_bestPlan 103 = .ok (.invokevirtual 172, 3) := dk_182 (byr_X9_bestPlan_6 (j := 7) rfl) (byr_X9_bestPlan_6 (j := 8) rfl) (byr_X9_bestPlan_6 (j := 9) rfl) (by decide)
theorem dX9_bestPlan_106 : decode cX9_bestPlan 106 = .ok (.aload_n 0, 1) := dk_42 (byr_X9_bestPlan_6 (j := 10) rfl)
theorem dX9_bestPlan_107 : decode cX9_bestPlan 107 = .ok (.getfield 204, 3) := dk_180 (byr_X9_bestPlan_6 (j := 11) rfl) (byr_X9_bestPlan_6 (j := 12) rfl) (byr_X9_bestPlan_6 (j := 13) rfl) (by decide)
theorem dX9_bestPlan_110 : decode cX9_bestPlan 110 = .ok (.iload 5, 2) := dk_21 (byr_X9_bestPlan_6 (j := 14) rfl) (byr_X9_bestPlan_6 (j := 15) rfl)
theorem dX9_bestPlan_112 : decode cX9_bestPlan 112 = .ok (.invokestatic 242, 3) := dk_184 (byr_X9_bestPlan_7 (j := 0) rfl) (byr_X9_bestPlan_7 (j := 1) rfl) (byr_X9_bestPlan_7 (j := 2) rfl) (by decide)
theorem dX9_bestPlan_115 : decode cX9_bestPlan 115 = .ok (.ifCond .eq 13, 3) := dk_153 (byr_X9_bestPlan_7 (j := 3) rfl) (byr_X9_bestPlan_7 (j := 4) rfl) (byr_X9_bestPlan_7 (j := 5) rfl) (by decide)
theorem dX9_bestPlan_118 : decode cX9_bestPlan 118 = .ok (.iload 6, 2) := dk_21 (byr_X9_bestPlan_7 (j := 6) rfl) (byr_X9_bestPlan_7 (j := 7) rfl)
theorem dX9_bestPlan_120 : decode cX9_bestPlan 120 = .ok (.istore 4, 2) := dk_54 (byr_X9_bestPlan_7 (j := 8) rfl) (byr_X9_bestPlan_7 (j := 9) rfl)
theorem dX9_bestPlan_122 : decode cX9_bestPlan 122 = .ok (.aload_n 0, 1) := dk_42 (byr_X9_bestPlan_7 (j := 10) rfl)
theorem dX9_bestPlan_123 : decode cX9_bestPlan 123 = .ok (.getfield 204, 3) := dk_180 (byr_X9_bestPlan_7 (j := 11) rfl) (byr_X9_bestPlan_7 (j := 12) rfl) (byr_X9_bestPlan_7 (j := 13) rfl) (by decide)
theorem dX9_bestPlan_126 : decode cX9_bestPlan 126 = .ok (.istore 5, 2) := dk_54 (byr_X9_bestPlan_7 (j := 14) rfl) (byr_X9_bestPlan_7 (j := 15) rfl)
theorem dX9_bestPlan_128 : decode cX9_bestPlan 128 = .ok (.iinc 6 1, 3) := dk_132 (byr_X9_bestPlan_8 (j := 0) rfl) (byr_X9_bestPlan_8 (j := 1) rfl) (byr_X9_bestPlan_8 (j := 2) rfl) (by decide)
theorem dX9_bestPlan_131 : decode cX9_bestPlan 131 = .ok (.goto (-82), 3) := dk_167 (byr_X9_bestPlan_8 (j := 3) rfl) (byr_X9_bestPlan_8 (j := 4) rfl) (byr_X9_bestPlan_8 (j := 5) rfl) (by decide)
theorem dX9_bestPlan_134 : decode cX9_bestPlan 134 = .ok (.aload_n 0, 1) := dk_42 (byr_X9_bestPlan_8 (j := 6) rfl)
theorem dX9_bestPlan_135 : decode cX9_bestPlan 135 = .ok (.getfield 13, 3) := dk_180 (byr_X9_bestPlan_8 (j := 7) rfl) (byr_X9_bestPlan_8 (j := 8) rfl) (byr_X9_bestPlan_8 (j := 9) rfl) (by decide)
theorem dX9_bestPlan_138 : decode cX9_bestPlan 138 = .ok (.aload_n 0, 1) := dk_42 (byr_X9_bestPlan_8 (j := 10) rfl)
theorem dX9_bestPlan_139 : decode cX9_bestPlan 139 = .ok (.getfield 7, 3) := dk_180 (byr_X9_bestPlan_8 (j := 11) rfl) (byr_X9_bestPlan_8 (j := 12) rfl) (byr_X9_bestPlan_8 (j := 13) rfl) (by decide)
theorem dX9_bestPlan_142 : decode cX9_bestPlan 142 = .ok (.invokestatic 231, 3) := dk_184 (byr_X9_bestPlan_8 (j := 14) rfl) (byr_X9_bestPlan_8 (j := 15) rfl) (byr_X9_bestPlan_9 (j := 0) rfl) (by decide)
theorem dX9_bestPlan_145 : decode cX9_bestPlan 145 = .ok (.iload 4, 2) := dk_21 (byr_X9_bestPlan_9 (j := 1) rfl) (byr_X9_bestPlan_9 (j := 2) rfl)
theorem dX9_bestPlan_147 : decode cX9_bestPlan 147 = .ok (.ifCond .ge 11, 3) := dk_156 (byr_X9_bestPlan_9 (j := 3) rfl) (byr_X9_bestPlan_9 (j := 4) rfl) (byr_X9_bestPlan_9 (j := 5) rfl) (by decide)
theorem dX9_bestPlan_150 : decode cX9_bestPlan 150 = .ok (.aload_n 0, 1) := dk_42 (byr_X9_bestPlan_9 (j := 6) rfl)
theorem dX9_bestPlan_151 : decode cX9_bestPlan 151 = .ok (.iconst 2, 1) := dk_5 (byr_X9_bestPlan_9 (j := 7) rfl)
theorem dX9_bestPlan_152 : decode cX9_bestPlan 152 = .ok (.invokevirtual 126, 3) := dk_182 (byr_X9_bestPlan_9 (j := 8) rfl) (byr_X9_bestPlan_9 (j := 9) rfl) (byr_X9_bestPlan_9 (j := 10) rfl) (by decide)
theorem dX9_bestPlan_155 : decode cX9_bestPlan 155 = .ok (.goto 18, 3) := dk_167 (byr_X9_bestPlan_9 (j := 11) rfl) (byr_X9_bestPlan_9 (j := 12) rfl) (byr_X9_bestPlan_9 (j := 13) rfl) (by decide)
theorem dX9_bestPlan_158 : decode cX9_bestPlan 158 = .ok (.iload_n 3, 1) := dk_29 (byr_X9_bestPlan_9 (j := 14) rfl)
theorem dX9_bestPlan_159 : decode cX9_bestPlan 159 = .ok (.ifCond .ge 8, 3) := dk_156 (byr_X9_bestPlan_9 (j := 15) rfl) (byr_X9_bestPlan_10 (j := 0) rfl) (byr_X9_bestPlan_10 (j := 1) rfl) (by decide)
theorem dX9_bestPlan_162 : decode cX9_bestPlan 162 = .ok (.iload 5, 2) := dk_21 (byr_X9_bestPlan_10 (j := 2) rfl) (byr_X9_bestPlan_10 (j := 3) rfl)
theorem dX9_bestPlan_164 : decode cX9_bestPlan 164 = .ok (.goto 9, 3) := dk_167 (byr_X9_bestPlan_10 (j := 4) rfl) (byr_X9_bestPlan_10 (j := 5) rfl) (byr_X9_bestPlan_10 (j := 6) rfl) (by decide)
theorem dX9_bestPlan_167 : decode cX9_bestPlan 167 = .ok (.iload 4, 2) := dk_21 (byr_X9_bestPlan_10 (j := 7) rfl) (byr_X9_bestPlan_10 (j := 8) rfl)
theorem dX9_bestPlan_169 : decode cX9_bestPlan 169 = .ok (.iload_n 3, 1) := dk_29 (byr_X9_bestPlan_10 (j := 9) rfl)
theorem dX9_bestPlan_170 : decode cX9_bestPlan 170 = .ok (.invokestatic 235, 3) := dk_184 (byr_X9_bestPlan_10 (j := 10) rfl) (byr_X9_bestPlan_10 (j := 11) rfl) (byr_X9_bestPlan_10 (j := 12) rfl) (by decide)
theorem dX9_bestPlan_173 : decode cX9_bestPlan 173 = .ok (.ireturn, 1) := dk_172 (byr_X9_bestPlan_10 (j := 13) rfl)
set_option maxHeartbeats 4000000 in
set_option maxRecDepth 100000 in
theorem c_X9_bestPlan (l : Launch) (G : GT) (σ : Sto) (a1 : Int32) (a2 : Int32) (a3 : Int32) (r : (Int32 × Sto)) (h : f_X9_bestPlan σ a1 a2 a3 = some r) : MW l G (8) (208) 0 0 yX9_bestPlan cX9_bestPlan 7 (Option.some Jvm.ClassFile.FieldType.int) [.ref (gad G 81), .int a1, .int a2, .int a3] (wl G σ) (some (.int r.1)) (wl G r.2) := by
  refine mw_of RX9 (fiI G) [(0, .ref (gad G 81)), (1, .int a1), (2, .int a2), (3, .int a3)] (by decide +kernel) rfl (Nat.le_of_ble_eq_true rfl) rfl h rfl (fun p e s m args below meth c X hr hnm => ?_)
  have J128 : ∀ (v1 : Int32) (v2 : Int32) (v3 : Int32) (v4 : Int32) (v5 : Int32) (v6 : Int32) (K49 : Int32 → Int32 → Int32 → Sto → Option (Int32 × Sto)) (hK49 : ∀ (v4' : Int32) (v5' : Int32) (v6' : Int32) (σ' : Sto), Sm p l e { frames := 8, cells := 0, slots := 0, locals := 208 } s m args below meth c G 7 (Qm below args s G 0 0 (fiI G)) 0 0 (wl G σ') 49 [(0, .ref (gad G 81)), (1, .int v1), (2, .int v2), (3, .int v3), (4, .int v4'), (5, .int v5'), (6, .int v6')] [] (K49 v4' v5' v6' σ')) (σ : Sto), Sm p l e { frames := 8, cells := 0, slots := 0, locals := 208 } s m args below meth c G 7 (Qm below args s G 0 0 (fiI G)) 0 0 (wl G σ) 128 [(0, .ref (gad G 81)), (1, .int v1), (2, .int v2), (3, .int v3), (4, .int v4), (5, .int v5), (6, .int v6)] [] (f_X9_bestPlan_L128 K49 v1 v2 v3 v4 v5 v6 σ) := by
    intro v1 v2 v3 v4 v5 v6 K49 hK49 σ
    rw [f_X9_bestPlan_L128]
    refine sm_iinc X 131 6 (1 : Int32) [(6, .int (v6 + (1 : Int32))), (0, .ref (gad G 81)), (1, .int v1), (2, .int v2), (3, .int v3), (4, .int v4), (5, .int v5)] dX9_bestPlan_128 rfl rfl rfl (by decide) rfl ?_
    refine sm_goto X 49 dX9_bestPlan_131 (by decide) ?_
    exact sm_sub [1, 2, 3, 4, 5, 6, 0] rfl (hK49 v4 v5 (v6 + (1 : Int32)) σ)
  have J118 : ∀ (v1 : Int32) (v2 : Int32) (v3 : Int32) (v6 : Int32) (K49 : Int32 → Int32 → Int32 → Sto → Option (Int32 × Sto)) (hK49 : ∀ (v4' : Int32) (v5' : Int32) (v6' : Int32) (σ' : Sto), Sm p l e { frames := 8, cells := 0, slots := 0, locals := 208 } s m args below meth c G 7 (Qm below args s G 0 0 (fiI G)) 0 0 (wl G σ') 49 [(0, .ref (gad G 81)), (1, .int v1), (2, .int v2), (3, .int v3), (4, .int v4'), (5, .int v5'), (6, .int v6')] [] (K49 v4' v5' v6' σ')) (σ : Sto), Sm p l e { frames := 8, cells := 0, slots := 0, locals := 208 } s m args below meth c G 7 (Qm below args s G 0 0 (fiI G)) 0 0 (wl G σ) 118 [(0, .ref (gad G 81)), (1, .int v1), (2, .int v2), (3, .int v3), (6, .int v6)] [] (f_X9_bestPlan_L118 K49 v1 v2 v3 v6 σ) := by
    intro v1 v2 v3 v6 K49 hK49 σ
    rw [f_X9_bestPlan_L118]
    refine sm_iload X 120 4 dX9_bestPlan_118 rfl rfl ?_
    refine sm_istore X 122 [(4, .int v6), (0, .ref (gad G 81)), (1, .int v1), (2, .int v2), (3, .int v3), (6, .int v6)] dX9_bestPlan_120 rfl (by decide) rfl ?_
    refine sm_aload_n X 123 1 dX9_bestPlan_122 rfl rfl rfl ?_
    refine sm_geti X 126 rfl fd_9_16 dX9_bestPlan_123 rfl q_898 ?_
    refine sm_istore X 128 [(5, .int (σ.1 81 16)), (4, .int v6), (0, .ref (gad G 81)), (1, .int v1), (2, .int v2), (3, .int v3), (6, .int v6)] dX9_bestPlan_126 rfl (by decide) rfl ?_
    exact sm_sub [2, 3, 4, 5, 1, 0, 6] rfl (J128 v1 v2 v3 v6 (σ.1 81 16) v6 K49 hK49 σ)
  have J49 : ∀ (v1 : Int32) (v2 : Int32) (v3 : Int32)  (n : Nat) (v4 : Int32) (v5 : Int32) (v6 : Int32) (σ : Sto), Sm p l e { frames := 8, cells := 0, slots := 0, locals := 208 } s m args below meth c G 7 (Qm below args s G 0 0 (fiI G)) 0 0 (wl G σ) 49 [(0, .ref (gad G 81)), (1, .int v1), (2, .int v2), (3, .int v3), (4, .int v4), (5, .int v5), (6, .int v6)] [] (f_X9_bestPlan_L49  v1 v2 v3 n v4 v5 v6 σ) := by
    intro v1 v2 v3 n
    induction n with
    | zero => intro v4 v5 v6 σ; rw [f_X9_bestPlan_L49]; exact sm_none
    | succ n ihl =>
      intro v4 v5 v6 σ
      rw [f_X9_bestPlan_L49]
      refine sm_iload X 51 6 dX9_bestPlan_49 rfl rfl ?_
      refine sm_sipush X 54 (1296) dX9_bestPlan_51 rfl rfl ?_
      refine sm_icmp_ge X 57 134 dX9_bestPlan_54 rfl (by decide) (fun h54 => ?_) (fun h54 => ?_)
      · refine sm_aload_n X 135 0 dX9_bestPlan_134 rfl rfl rfl ?_
        refine sm_getf X 138 83 rfl fd_9_1 rfl dX9_bestPlan_135 rfl q_883 ?_
        refine sm_aload_n X 139 0 dX9_bestPlan_138 rfl rfl rfl ?_
        refine sm_getf X 142 82 rfl fd_9_0 rfl dX9_bestPlan_139 rfl q_882 ?_
        refine sm_bind (fun r142 h142 => ?_)
        refine sm_callS0 X 145 [.ref (gad G 83), .ref (gad G 82)] [] [] (c_X9_copies l G σ 83 rfl 82 rfl r142 h142) cw_X9_copies q_1182 q_1181 rfl rfl rfl (Nat.le_of_ble_eq_true rfl) ⟨Nat.le_of_ble_eq_true rfl, Nat.le_of_ble_eq_true rfl⟩ ⟨Nat.le_refl _, Nat.le_refl _⟩ dX9_bestPlan_142 rfl ?_
        refine sm_iload X 147 4 dX9_bestPlan_145 rfl rfl ?_
        refine sm_if_ge X 150 158 dX9_bestPlan_147 rfl (by decide) (fun h147 => ?_) (fun h147 => ?_)
        · refine sm_iload_n X 159 3 dX9_bestPlan_158 rfl rfl rfl ?_
          refine sm_if_ge X 162 167 dX9_bestPlan_159 rfl (by decide) (fun h159 => ?_) (fun h159 => ?_)
          · refine sm_iload X 169 4 dX9_bestPlan_167 rfl rfl ?_
            refine sm_iload_n X 170 3 dX9_bestPlan_169 rfl rfl rfl ?_
            refine sm_bind (fun r170 h170 => ?_)
            refine sm_callS0 X 173 [.int v4, .int v3] [] [.int r170] (c_X9_laneIn l G r142 v4 v3 r170 h170) cw_X9_laneIn q_1185 q_1184 rfl rfl rfl (Nat.le_of_ble_eq_true rfl) ⟨Nat.le_of_ble_eq_true rfl, Nat.le_of_ble_eq_true rfl⟩ ⟨Nat.le_refl _, Nat.le_refl _⟩ dX9_bestPlan_170 rfl ?_
            exact sm_iret X hr dX9_bestPlan_173 rfl
          · refine sm_iload X 164 5 dX9_bestPlan_162 rfl rfl ?_
            refine sm_goto X 173 dX9_bestPlan_164 (by decide) ?_
            exact sm_iret X hr dX9_bestPlan_173 rfl
        · refine sm_aload_n X 151 0 dX9_bestPlan_150 rfl rfl rfl ?_
          refine sm_iconst X 152 (2) dX9_bestPlan_151 rfl rfl ?_
          refine sm_bind (fun r152 h152 => ?_)
          refine sm_callV0 X 155 [.int 2] [] [.int r152.1] (c_X9_finds l G r142 (2 : Int32) r152 h152) cw_X9_finds q_965 qs_26 q_963 rfl (by decide) rfl rfl rfl rfl rfl (Nat.le_of_ble_eq_true rfl) ⟨Nat.le_of_ble_eq_true rfl, Nat.le_of_ble_eq_true rfl⟩ ⟨Nat.le_refl _, Nat.le_refl _⟩ dX9_bestPlan_152 rfl ?_
          refine sm_goto X 173 dX9_bestPlan_155 (by decide) ?_
          exact sm_iret X hr dX9_bestPlan_173 rfl
      · refine sm_aload_n X 58 0 dX9_bestPlan_57 rfl rfl rfl ?_
        refine sm_iload_n X 59 1 dX9_bestPlan_58 rfl rfl rfl ?_
        refine sm_iload X 61 6 dX9_bestPlan_59 rfl rfl ?_
        refine sm_iconst X 62 (0) dX9_bestPlan_61 rfl rfl ?_
        refine sm_bind (fun r62 h62 => ?_)
        refine sm_callS0 X 65 [.int v6, .int 0] [.int v1, .ref (gad G 81)] [.int r62, .int v1, .ref (gad G 81)] (c_X9_laneIn l G σ v6 (0 : Int32) r62 h62) cw_X9_laneIn q_1185 q_1184 rfl rfl rfl (Nat.le_of_ble_eq_true rfl) ⟨Nat.le_of_ble_eq_true rfl, Nat.le_of_ble_eq_true rfl⟩ ⟨Nat.le_refl _, Nat.le_refl _⟩ dX9_bestPlan_62 rfl ?_
        refine sm_iload X 67 6 dX9_bestPlan_65 rfl rfl ?_
        refine sm_iconst X 68 (1) dX9_bestPlan_67 rfl rfl ?_
        refine sm_bind (fun r68 h68 => ?_)
        refine sm_callS0 X 71 [.int v6, .int 1] [.int r62, .int v1, .ref (gad G 81)] [.int r68, .int r62, .int v1, .ref (gad G 81)] (c_X9_laneIn l G σ v6 (1 : Int32) r68 h68) cw_X9_laneIn q_1185 q_1184 rfl rfl rfl (Nat.le_of_ble_eq_true rfl) ⟨Nat.le_of_ble_eq_true rfl, Nat.le_of_ble_eq_true rfl⟩ ⟨Nat.le_refl _, Nat.le_refl _⟩ dX9_bestPlan_68 rfl ?_
        refine sm_iload X 73 6 dX9_bestPlan_71 rfl rfl ?_
        refine sm_iconst X 74 (2) dX9_bestPlan_73 rfl rfl ?_
        refine sm_bind (fun r74 h74 => ?_)
        refine sm_callS0 X 77 [.int v6, .int 2] [.int r68, .int r62, .int v1, .ref (gad G 81)] [.int r74, .int r68, .int r62, .int v1, .ref (gad G 81)] (c_X9_laneIn l G σ v6 (2 : Int32) r74 h74) cw_X9_laneIn q_1185 q_1184 rfl rfl rfl (Nat.le_of_ble_eq_true rfl) ⟨Nat.le_of_ble_eq_true rfl, Nat.le_of_ble_eq_true rfl⟩ ⟨Nat.le_refl _, Nat.le_refl _⟩ dX9_bestPlan_74 rfl ?_
        refine sm_iload X 79 6 dX9_bestPlan_77 rfl rfl ?_
        refine sm_iconst X 80 (3) dX9_bestPlan_79 rfl rfl ?_
        refine sm_bind (fun r80 h80 => ?_)
        refine sm_callS0 X 83 [.int v6, .int 3] [.int r74, .int r68, .int r62, .int v1, .ref (gad G 81)] [.int r80, .int r74, .int r68, .int r62, .int v1, .ref (gad G 81)] (c_X9_laneIn l G σ v6 (3 : Int32) r80 h80) cw_X9_laneIn q_1185 q_1184 rfl rfl rfl (Nat.le_of_ble_eq_true rfl) ⟨Nat.le_of_ble_eq_true rfl, Nat.le_of_ble_eq_true rfl⟩ ⟨Nat.le_refl _, Nat.le_refl _⟩ dX9_bestPlan_80 rfl ?_
        refine sm_bind (fun r83 h83 => ?_)
        refine sm_callV0 X 86 [.int v1, .int r62, .int r68, .int r74, .int r80] [] [] (c_X9_plans l G σ v1 r62 r68 r74 r80 r83 h83) cw_X9_plans q_1189 qs_54 q_1187 rfl (by decide) rfl rfl rfl rfl rfl (Nat.le_of_ble_eq_true rfl) ⟨Nat.le_of_ble_eq_true rfl, Nat.le_of_ble_eq_true rfl⟩ ⟨Nat.le_refl _, Nat.le_refl _⟩ dX9_bestPlan_83 rfl ?_
        refine sm_aload_n X 87 0 dX9_bestPlan_86 rfl rfl rfl ?_
        refine sm_iload_n X 88 1 dX9_bestPlan_87 rfl rfl rfl ?_
        refine sm_iload_n X 89 2 dX9_bestPlan_88 rfl rfl rfl ?_
        refine sm_bind (fun r89 h89 => ?_)
        refine sm_callV0 X 92 [.int v1, .int v2] [] [.int (b2i r89.1)] (c_X9_swim l G r83 v1 v2 r89 h89) cw_X9_swim q_1152 qs_50 q_1150 rfl (by decide) rfl rfl rfl rfl rfl (Nat.le_of_ble_eq_true rfl) ⟨Nat.le_of_ble_eq_true rfl, Nat.le_of_ble_eq_true rfl⟩ ⟨Nat.le_refl _, Nat.le_refl _⟩ dX9_bestPlan_89 rfl ?_
        refine sm_ifz_eq X 95 128 dX9_bestPlan_92 rfl (by decide) (fun h92 => ?_) (fun h92 => ?_)
        · refine sm_iload X 97 4 dX9_bestPlan_95 rfl rfl ?_
          refine sm_if_lt X 100 118 dX9_bestPlan_97 rfl (by decide) (fun h97 => ?_) (fun h97 => ?_)
          · exact sm_sub [0, 1, 2, 3, 6] rfl (J118 v1 v2 v3 v6 (f_X9_bestPlan_L49  v1 v2 v3 n) ihl r89.2)
          · refine sm_aload_n X 101 0 dX9_bestPlan_100 rfl rfl rfl ?_
            refine sm_iload_n X 102 1 dX9_bestPlan_101 rfl rfl rfl ?_
            refine sm_iconst X 103 (2) dX9_bestPlan_102 rfl rfl ?_
            refine sm_bind (fun r103 h103 => ?_)
            refine sm_callV0 X 106 [.int v1, .int 2] [] [.int r103] (c_X9_of l G r89.2 v1 (2 : Int32) r103 h103) cw_X9_of q_1090 qs_45 q_1088 rfl (by decide) rfl rfl rfl rfl rfl (Nat.le_of_ble_eq_true rfl) ⟨Nat.le_of_ble_eq_true rfl, Nat.le_of_ble_eq_true rfl⟩ ⟨Nat.le_refl _, Nat.le_refl _⟩ dX9_bestPlan_103 rfl ?_
            refine sm_aload_n X 107 0 dX9_bestPlan_106 rfl rfl rfl ?_
            refine sm_geti X 110 rfl fd_9_16 dX9_bestPlan_107 rfl q_898 ?_
            refine sm_iload X 112 5 dX9_bestPlan_110 rfl rfl ?_
            refine sm_bind (fun r112 h112 => ?_)
            refine sm_callS0 X 115 [.int r103, .int (r89.2.1 81 16), .int v5] [] [.int (b2i r112)] (c_X9_isBetter l G r89.2 r103 (r89.2.1 81 16) v5 r112 h112) cw_X9_isBetter q_1192 q_1191 rfl rfl rfl (Nat.le_of_ble_eq_true rfl) ⟨Nat.le_of_ble_eq_true rfl, Nat.le_of_ble_eq_true rfl⟩ ⟨Nat.le_refl _, Nat.le_refl _⟩ dX9_bestPlan_112 rfl ?_
            refine sm_ifz_eq X 118 128 dX9_bestPlan_115 rfl (by decide) (fun h115 => ?_) (fun h115 => ?_)
            · exact sm_sub [0, 1, 2, 3, 6] rfl (J118 v1 v2 v3 v6 (f_X9_bestPlan_L49  v1 v2 v3 n) ihl r89.2)
            · exact sm_sub [0, 1, 2, 3, 4, 5, 6] rfl (J128 v1 v2 v3 v4 v5 v6 (f_X9_bestPlan_L49  v1 v2 v3 n) ihl r89.2)
        · exact sm_sub [0, 1, 2, 3, 4, 5, 6] rfl (J128 v1 v2 v3 v4 v5 v6 (f_X9_bestPlan_L49  v1 v2 v3 n) ihl r89.2)
  unfold f_X9_bestPlan
  refine sm_aload_n X 1 0 dX9_bestPlan_0 rfl rfl rfl ?_
  refine sm_iload_n X 2 1 dX9_bestPlan_1 rfl rfl rfl ?_
  refine sm_iload_n X 3 2 dX9_bestPlan_2 rfl rfl rfl ?_
  refine sm_bind (fun r3 h3 => ?_)
  refine sm_callV0 X 6 [.int a1, .int a2] [] [.int (b2i r3)] (c_X9_areUnlike l G σ a1 a2 r3 h3) cw_X9_areUnlike q_1147 qs_49 q_1145 rfl (by decide) rfl rfl rfl rfl rfl (Nat.le_of_ble_eq_true rfl) ⟨Nat.le_of_ble_eq_true rfl, Nat.le_of_ble_eq_true rfl⟩ ⟨Nat.le_refl _, Nat.le_refl _⟩ dX9_bestPlan_3 rfl ?_
  refine sm_ifz_eq X 9 23 dX9_bestPlan_6 rfl (by decide) (fun h6 => ?_) (fun h6 => ?_)
  · refine sm_iload_n X 10 3 dX9_bestPlan_9 rfl rfl rfl ?_
    refine sm_i2l X 11 dX9_bestPlan_10 rfl ?_
    refine sm_ldc2 X 14 (-1) dX9_bestPlan_11 rfl q_1180 ?_
    refine sm_ldc2 X 17 (3) dX9_bestPlan_14 rfl q_1060 ?_
    refine sm_bind (fun r17 h17 => ?_)
    refine sm_callS0 X 20 [.long (Int32.toInt64 a3), .long (-1 : Int64), .long (3 : Int64)] [] [.int (b2i r17)] (c_X9_in l G σ (Int32.toInt64 a3) (-1 : Int64) (3 : Int64) r17 h17) cw_X9_in q_961 q_960 rfl rfl rfl (Nat.le_of_ble_eq_true rfl) ⟨Nat.le_of_ble_eq_true rfl, Nat.le_of_ble_eq_true rfl⟩ ⟨Nat.le_refl _, Nat.le_refl _⟩ dX9_bestPlan_17 rfl ?_
    refine sm_ifz_ne X 23 29 dX9_bestPlan_20 rfl (by decide) (fun h20 => ?_) (fun h20 => ?_)
    · refine sm_aload_n X 30 0 dX9_bestPlan_29 rfl rfl rfl ?_
      refine sm_getf X 33 82 rfl fd_9_0 rfl dX9_bestPlan_30 rfl q_882 ?_
      refine sm_aload_n X 34 0 dX9_bestPlan_33 rfl rfl rfl ?_
      refine sm_getf X 37 83 rfl fd_9_1 rfl dX9_bestPlan_34 rfl q_883 ?_
      refine sm_bind (fun r37 h37 => ?_)
      refine sm_callS0 X 40 [.ref (gad G 82), .ref (gad G 83)] [] [] (c_X9_copies l G σ 82 rfl 83 rfl r37 h37) cw_X9_copies q_1182 q_1181 rfl rfl rfl (Nat.le_of_ble_eq_true rfl) ⟨Nat.le_of_ble_eq_true rfl, Nat.le_of_ble_eq_true rfl⟩ ⟨Nat.le_refl _, Nat.le_refl _⟩ dX9_bestPlan_37 rfl ?_
      refine sm_iconst X 41 (-1) dX9_bestPlan_40 rfl rfl ?_
      refine sm_istore X 43 [(4, .int (-1)), (0, .ref (gad G 81)), (1, .int a1), (2, .int a2), (3, .int a3)] dX9_bestPlan_41 rfl (by decide) rfl ?_
      refine sm_iconst X 44 (0) dX9_bestPlan_43 rfl rfl ?_
      refine sm_istore X 46 [(5, .int 0), (4, .int (-1)), (0, .ref (gad G 81)), (1, .int a1), (2, .int a2), (3, .int a3)] dX9_bestPlan_44 rfl (by decide) rfl ?_
      refine sm_iconst X 47 (0) dX9_bestPlan_46 rfl rfl ?_
      refine sm_istore X 49 [(6, .int 0), (5, .int 0), (4, .int (-1)), (0, .ref (gad G 81)), (1, .int a1), (2, .int a2), (3, .int a3)] dX9_bestPlan_47 rfl (by decide) rfl ?_
      exact sm_sub [3, 4, 5, 6, 2, 1, 0] rfl (J49 a1 a2 a3  FU (-1 : Int32) (0 : Int32) (0 : Int32) r37)
    · refine sm_aload_n X 24 0 dX9_bestPlan_23 rfl rfl rfl ?_
      refine sm_iconst X 25 (1) dX9_bestPlan_24 rfl rfl ?_
      refine sm_bind (fun r25 h25 => ?_)
      refine sm_callV0 X 28 [.int 1] [] [.int r25.1] (c_X9_finds l G σ (1 : Int32) r25 h25) cw_X9_finds q_965 qs_26 q_963 rfl (by decide) rfl rfl rfl rfl rfl (Nat.le_of_ble_eq_true rfl) ⟨Nat.le_of_ble_eq_true rfl, Nat.le_of_ble_eq_true rfl⟩ ⟨Nat.le_refl _, Nat.le_refl _⟩ dX9_bestPlan_25 rfl ?_
      exact sm_iret X hr dX9_bestPlan_28 rfl
  · refine sm_aload_n X 24 0 dX9_bestPlan_23 rfl rfl rfl ?_
    refine sm_iconst X 25 (1) dX9_bestPlan_24 rfl rfl ?_
    refine sm_bind (fun r25 h25 => ?_)
    refine sm_callV0 X 28 [.int 1] [] [.int r25.1] (c_X9_finds l G σ (1 : Int32) r25 h25) cw_X9_finds q_965 qs_26 q_963 rfl (by decide) rfl rfl rfl rfl rfl (Nat.le_of_ble_eq_true rfl) ⟨Nat.le_of_ble_eq_true rfl, Nat.le_of_ble_eq_true rfl⟩ ⟨Nat.le_refl _, Nat.le_refl _⟩ dX9_bestPlan_25 rfl ?_
    exact sm_iret X hr dX9_bestPlan_28 rfl
def by_X9_endOf_0 : List Nat := [42, 27, 29, 29, 29, 29, 182, 0, 238, 42, 28, 21, 4, 21, 4, 21]
def by_X9_endOf_1 : List Nat := [4, 21, 4, 182, 0, 238, 42, 27, 28, 182, 0, 213, 153, 0, 10, 42]
def by_X9_endOf_z : List Nat := [180, 0, 204, 167, 0, 10, 42, 180, 0, 7, 16, 8, 46, 172]
def by_X9_endOf : List (List Nat) := [by_X9_endOf_0, by_X9_endOf_1]
set_option maxRecDepth 100000 in
theorem byo_X9_endOf : cX9_endOf.data.toList.map UInt8.toNat = by_X9_endOf.flatten ++ by_X9_endOf_z := by decide +kernel
theorem byl_X9_endOf : by_X9_endOf.all (fun r => r.length == 16) = true := by decide +kernel
theorem byr_X9_endOf_0 {j v : Nat} (h : by_X9_endOf_0[j]? = some v) : RD cX9_endOf (0 + j) v := rd_16 byo_X9_endOf byl_X9_endOf 0 rfl h
theorem byr_X9_endOf_1 {j v : Nat} (h : by_X9_endOf_1[j]? = some v) : RD cX9_endOf (16 + j) v := rd_16 byo_X9_endOf byl_X9_endOf 1 rfl h
theorem byr_X9_endOf_2 {j v : Nat} (h : by_X9_endOf_z[j]? = some v) : RD cX9_endOf (32 + j) v := rd_z byo_X9_endOf byl_X9_endOf 2 rfl h
theorem dX9_endOf_0 : decode cX9_endOf 0 = .ok (.aload_n 0, 1) := dk_42 (byr_X9_endOf_0 (j := 0) rfl)
theorem dX9_endOf_1 : decode cX9_endOf 1 = .ok (.iload_n 1, 1) := dk_27 (byr_X9_endOf_0 (j := 1) rfl)
theorem dX9_endOf_2 : decode cX9_endOf 2 = .ok (.iload_n 3, 1) := dk_29 (byr_X9_endOf_0 (j := 2) rfl)
theorem dX9_endOf_3 : decode cX9_endOf 3 = .ok (.iload_n 3, 1) := dk_29 (byr_X9_endOf_0 (j := 3) rfl)
theorem dX9_endOf_4 : decode cX9_endOf 4 = .ok (.iload_n 3, 1) := dk_29 (byr_X9_endOf_0 (j := 4) rfl)
theorem dX9_endOf_5 : decode cX9_endOf 5 = .ok (.iload_n 3, 1) := dk_29 (byr_X9_endOf_0 (j := 5) rfl)
theorem dX9_endOf_6 : decode cX9_endOf 6 = .ok (.invokevirtual 238, 3) := dk_182 (byr_X9_endOf_0 (j := 6) rfl) (byr_X9_endOf_0 (j := 7) rfl) (byr_X9_endOf_0 (j := 8) rfl) (by decide)
theorem dX9_endOf_9 : decode cX9_endOf 9 = .ok (.aload_n 0, 1) := dk_42 (byr_X9_endOf_0 (j := 9) rfl)
theorem dX9_endOf_10 : decode cX9_endOf 10 = .ok (.iload_n 2, 1) := dk_28 (byr_X9_endOf_0 (j := 10) rfl)
theorem dX9_endOf_11 : decode cX9_endOf 11 = .ok (.iload 4, 2) := dk_21 (byr_X9_endOf_0 (j := 11) rfl) (byr_X9_endOf_0 (j := 12) rfl)
theorem dX9_endOf_13 : decode cX9_endOf 13 = .ok (.iload 4, 2) := dk_21 (byr_X9_endOf_0 (j := 13) rfl) (byr_X9_endOf_0 (j := 14) rfl)
theorem dX9_endOf_15 : decode cX9_endOf 15 = .ok (.iload 4, 2) := dk_21 (byr_X9_endOf_0 (j := 15) rfl) (byr_X9_endOf_1 (j := 0) rfl)
theorem dX9_endOf_17 : decode cX9_endOf 17 = .ok (.iload 4, 2) := dk_21 (byr_X9_endOf_1 (j := 1) rfl) (byr_X9_endOf_1 (j := 2) rfl)
theorem dX9_endOf_19 : decode cX9_endOf 19 = .ok (.invokevirtual 238, 3) := dk_182 (byr_X9_endOf_1 (j := 3) rfl) (byr_X9_endOf_1 (j := 4) rfl) (byr_X9_endOf_1 (j := 5) rfl) (by decide)
theorem dX9_endOf_22 : decode cX9_endOf 22 = .ok (.aload_n 0, 1) := dk_42 (byr_X9_endOf_1 (j := 6) rfl)
theorem dX9_endOf_23 : decode cX9_endOf 23 = .ok (.iload_n 1, 1) := dk_27 (byr_X9_endOf_1 (j := 7) rfl)
theorem dX9_endOf_24 : decode cX9_endOf 24 = .ok (.iload_n 2, 1) := dk_28 (byr_X9_endOf_1 (j := 8) rfl)
theorem dX9_endOf_25 : decode cX9_endOf 25 = .ok (.invokevirtual 213, 3) := dk_182 (byr_X9_endOf_1 (j := 9) rfl) (byr_X9_endOf_1 (j := 10) rfl) (byr_X9_endOf_1 (j := 11) rfl) (by decide)
theorem dX9_endOf_28 : decode cX9_endOf 28 = .ok (.ifCond .eq 10, 3) := dk_153 (byr_X9_endOf_1 (j := 12) rfl) (byr_X9_endOf_1 (j := 13) rfl) (byr_X9_endOf_1 (j := 14) rfl) (by decide)
theorem dX9_endOf_31 : decode cX9_endOf 31 = .ok (.aload_n 0, 1) := dk_42 (byr_X9_endOf_1 (j := 15) rfl)
theorem dX9_endOf_32 : decode cX9_endOf 32 = .ok (.getfield 204, 3) := dk_180 (byr_X9_endOf_2 (j := 0) rfl) (byr_X9_endOf_2 (j := 1) rfl) (byr_X9_endOf_2 (j := 2) rfl) (by decide)
theorem dX9_endOf_35 : decode cX9_endOf 35 = .ok (.goto 10, 3) := dk_167 (byr_X9_endOf_2 (j := 3) rfl) (byr_X9_endOf_2 (j := 4) rfl) (byr_X9_endOf_2 (j := 5) rfl) (by decide)
theorem dX9_endOf_38 : decode cX9_endOf 38 = .ok (.aload_n 0, 1) := dk_42 (byr_X9_endOf_2 (j := 6) rfl)
theorem dX9_endOf_39 : decode cX9_endOf 39 = .ok (.getfield 7, 3) := dk_180 (byr_X9_endOf_2 (j := 7) rfl) (byr_X9_endOf_2 (j := 8) rfl) (byr_X9_endOf_2 (j := 9) rfl) (by decide)
theorem dX9_endOf_42 : decode cX9_endOf 42 = .ok (.bipush 8, 2) := dk_16 (byr_X9_endOf_2 (j := 10) rfl) (byr_X9_endOf_2 (j := 11) rfl) (by decide)
theorem dX9_endOf_44 : decode cX9_endOf 44 = .ok (.iaload, 1) := dk_46 (byr_X9_endOf_2 (j := 12) rfl)
theorem dX9_endOf_45 : decode cX9_endOf 45 = .ok (.ireturn, 1) := dk_172 (byr_X9_endOf_2 (j := 13) rfl)
set_option maxHeartbeats 4000000 in
set_option maxRecDepth 100000 in
theorem c_X9_endOf (l : Launch) (G : GT) (σ : Sto) (a1 : Int32) (a2 : Int32) (a3 : Int32) (a4 : Int32) (r : (Int32 × Sto)) (h : f_X9_endOf σ a1 a2 a3 a4 = some r) : MW l G (8) (208) 0 0 yX9_endOf cX9_endOf 5 (Option.some Jvm.ClassFile.FieldType.int) [.ref (gad G 81), .int a1, .int a2, .int a3, .int a4] (wl G σ) (some (.int r.1)) (wl G r.2) := by
  refine mw_of RX9 (fiI G) [(0, .ref (gad G 81)), (1, .int a1), (2, .int a2), (3, .int a3), (4, .int a4)] (by decide +kernel) rfl (Nat.le_of_ble_eq_true rfl) rfl h rfl (fun p e s m args below meth c X hr hnm => ?_)
  unfold f_X9_endOf
  refine sm_aload_n X 1 0 dX9_endOf_0 rfl rfl rfl ?_
  refine sm_iload_n X 2 1 dX9_endOf_1 rfl rfl rfl ?_
  refine sm_iload_n X 3 3 dX9_endOf_2 rfl rfl rfl ?_
  refine sm_iload_n X 4 3 dX9_endOf_3 rfl rfl rfl ?_
  refine sm_iload_n X 5 3 dX9_endOf_4 rfl rfl rfl ?_
  refine sm_iload_n X 6 3 dX9_endOf_5 rfl rfl rfl ?_
  refine sm_bind (fun r6 h6 => ?_)
  refine sm_callV0 X 9 [.int a1, .int a3, .int a3, .int a3, .int a3] [] [] (c_X9_plans l G σ a1 a3 a3 a3 a3 r6 h6) cw_X9_plans q_1189 qs_54 q_1187 rfl (by decide) rfl rfl rfl rfl rfl (Nat.le_of_ble_eq_true rfl) ⟨Nat.le_of_ble_eq_true rfl, Nat.le_of_ble_eq_true rfl⟩ ⟨Nat.le_refl _, Nat.le_refl _⟩ dX9_endOf_6 rfl ?_
  refine sm_aload_n X 10 0 dX9_endOf_9 rfl rfl rfl ?_
  refine sm_iload_n X 11 2 dX9_endOf_10 rfl rfl rfl ?_
  refine sm_iload X 13 4 dX9_endOf_11 rfl rfl ?_
  refine sm_iload X 15 4 dX9_endOf_13 rfl rfl ?_
  refine sm_iload X 17 4 dX9_endOf_15 rfl rfl ?_
  refine sm_iload X 19 4 dX9_endOf_17 rfl rfl ?_
  refine sm_bind (fun r19 h19 => ?_)
  refine sm_callV0 X 22 [.int a2, .int a4, .int a4, .int a4, .int a4] [] [] (c_X9_plans l G r6 a2 a4 a4 a4 a4 r19 h19) cw_X9_plans q_1189 qs_54 q_1187 rfl (by decide) rfl rfl rfl rfl rfl (Nat.le_of_ble_eq_true rfl) ⟨Nat.le_of_ble_eq_true rfl, Nat.le_of_ble_eq_true rfl⟩ ⟨Nat.le_refl _, Nat.le_refl _⟩ dX9_endOf_19 rfl ?_
  refine sm_aload_n X 23 0 dX9_endOf_22 rfl rfl rfl ?_
  refine sm_iload_n X 24 1 dX9_endOf_23 rfl rfl rfl ?_
  refine sm_iload_n X 25 2 dX9_endOf_24 rfl rfl rfl ?_
  refine sm_bind (fun r25 h25 => ?_)
  refine sm_callV0 X 28 [.int a1, .int a2] [] [.int (b2i r25.1)] (c_X9_swim l G r19 a1 a2 r25 h25) cw_X9_swim q_1152 qs_50 q_1150 rfl (by decide) rfl rfl rfl rfl rfl (Nat.le_of_ble_eq_true rfl) ⟨Nat.le_of_ble_eq_true rfl, Nat.le_of_ble_eq_true rfl⟩ ⟨Nat.le_refl _, Nat.le_refl _⟩ dX9_endOf_25 rfl ?_
  refine sm_ifz_eq X 31 38 dX9_endOf_28 rfl (by decide) (fun h28 => ?_) (fun h28 => ?_)
  · refine sm_aload_n X 32 0 dX9_endOf_31 rfl rfl rfl ?_
    refine sm_geti X 35 rfl fd_9_16 dX9_endOf_32 rfl q_898 ?_
    refine sm_goto X 45 dX9_endOf_35 (by decide) ?_
    exact sm_iret X hr dX9_endOf_45 rfl
  · refine sm_aload_n X 39 0 dX9_endOf_38 rfl rfl rfl ?_
    refine sm_getf X 42 82 rfl fd_9_0 rfl dX9_endOf_39 rfl q_882 ?_
    refine sm_bipush X 44 (8) dX9_endOf_42 rfl rfl ?_
    refine sm_iald X 45 rfl dX9_endOf_44 rfl (fun r44 e44 => ?_)
    clear e44
    exact sm_iret X hr dX9_endOf_45 rfl
def by_X9_hold_0 : List Nat := [42, 27, 28, 182, 0, 207, 153, 0, 13, 29, 133, 9, 10, 184, 0, 49]
def by_X9_hold_1 : List Nat := [154, 0, 9, 42, 4, 182, 0, 126, 172, 42, 180, 0, 7, 42, 180, 0]
def by_X9_hold_2 : List Nat := [13, 184, 0, 231, 42, 27, 5, 182, 0, 172, 54, 4, 2, 54, 5, 3]
def by_X9_hold_3 : List Nat := [54, 6, 3, 54, 7, 21, 7, 16, 6, 162, 0, 94, 42, 27, 28, 21]
def by_X9_hold_4 : List Nat := [7, 3, 182, 0, 246, 54, 8, 4, 54, 9, 21, 9, 16, 6, 162, 0]
def by_X9_hold_5 : List Nat := [42, 42, 27, 28, 21, 7, 21, 9, 182, 0, 246, 54, 10, 21, 4, 21]
def by_X9_hold_6 : List Nat := [8, 21, 10, 184, 0, 242, 153, 0, 8, 21, 10, 167, 0, 5, 21, 8]
def by_X9_hold_7 : List Nat := [54, 8, 132, 9, 1, 167, 255, 213, 21, 5, 155, 0, 15, 21, 4, 21]
def by_X9_hold_8 : List Nat := [8, 21, 6, 184, 0, 242, 153, 0, 11, 21, 7, 54, 5, 21, 8, 54]
def by_X9_hold_9 : List Nat := [6, 132, 7, 1, 167, 255, 161, 42, 180, 0, 13, 42, 180, 0, 7, 184]
def by_X9_hold_z : List Nat := [0, 231, 29, 154, 0, 8, 21, 5, 167, 0, 5, 21, 6, 172]
def by_X9_hold : List (List Nat) := [by_X9_hold_0, by_X9_hold_1, by_X9_hold_2, by_X9_hold_3, by_X9_hold_4, by_X9_hold_5, by_X9_hold_6, by_X9_hold_7, by_X9_hold_8, by_X9_hold_9]
set_option maxRecDepth 100000 in
theorem byo_X9_hold : cX9_hold.data.toList.map UInt8.toNat = by_X9_hold.flatten ++ by_X9_hold_z := by decide +kernel
theorem byl_X9_hold : by_X9_hold.all (fun r => r.length == 16) = true := by decide +kernel
theorem byr_X9_hold_0 {j v : Nat} (h : by_X9_hold_0[j]? = some v) : RD cX9_hold (0 + j) v := rd_16 byo_X9_hold byl_X9_hold 0 rfl h
theorem byr_X9_hold_1 {j v : Nat} (h : by_X9_hold_1[j]? = some v) : RD cX9_hold (16 + j) v := rd_16 byo_X9_hold byl_X9_hold 1 rfl h
theorem byr_X9_hold_2 {j v : Nat} (h : by_X9_hold_2[j]? = some v) : RD cX9_hold (32 + j) v := rd_16 byo_X9_hold byl_X9_hold 2 rfl h
theorem byr_X9_hold_3 {j v : Nat} (h : by_X9_hold_3[j]? = some v) : RD cX9_hold (48 + j) v := rd_16 byo_X9_hold byl_X9_hold 3 rfl h
theorem byr_X9_hold_4 {j v : Nat} (h : by_X9_hold_4[j]? = some v) : RD cX9_hold (64 + j) v := rd_16 byo_X9_hold byl_X9_hold 4 rfl h
theorem byr_X9_hold_5 {j v : Nat} (h : by_X9_hold_5[j]? = some v) : RD cX9_hold (80 + j) v := rd_16 byo_X9_hold byl_X9_hold 5 rfl h
theorem byr_X9_hold_6 {j v : Nat} (h : by_X9_hold_6[j]? = some v) : RD cX9_hold (96 + j) v := rd_16 byo_X9_hold byl_X9_hold 6 rfl h
theorem byr_X9_hold_7 {j v : Nat} (h : by_X9_hold_7[j]? = some v) : RD cX9_hold (112 + j) v := rd_16 byo_X9_hold byl_X9_hold 7 rfl h
theorem byr_X9_hold_8 {j v : Nat} (h : by_X9_hold_8[j]? = some v) : RD cX9_hold (128 + j) v := rd_16 byo_X9_hold byl_X9_hold 8 rfl h
theorem byr_X9_hold_9 {j v : Nat} (h : by_X9_hold_9[j]? = some v) : RD cX9_hold (144 + j) v := rd_16 byo_X9_hold byl_X9_hold 9 rfl h
theorem byr_X9_hold_10 {j v : Nat} (h : by_X9_hold_z[j]? = some v) : RD cX9_hold (160 + j) v := rd_z byo_X9_hold byl_X9_hold 10 rfl h
theorem dX9_hold_0 : decode cX9_hold 0 = .ok (.aload_n 0, 1) := dk_42 (byr_X9_hold_0 (j := 0) rfl)
theorem dX9_hold_1 : decode cX9_hold 1 = .ok (.iload_n 1, 1) := dk_27 (byr_X9_hold_0 (j := 1) rfl)
theorem dX9_hold_2 : decode cX9_hold 2 = .ok (.iload_n 2, 1) := dk_28 (byr_X9_hold_0 (j := 2) rfl)
theorem dX9_hold_3 : decode cX9_hold 3 = .ok (.invokevirtual 207, 3) := dk_182 (byr_X9_hold_0 (j := 3) rfl) (byr_X9_hold_0 (j := 4) rfl) (byr_X9_hold_0 (j := 5) rfl) (by decide)
theorem dX9_hold_6 : decode cX9_hold 6 = .ok (.ifCond .eq 13, 3) := dk_153 (byr_X9_hold_0 (j := 6) rfl) (byr_X9_hold_0 (j := 7) rfl) (byr_X9_hold_0 (j := 8) rfl) (by decide)
theorem dX9_hold_9 : decode cX9_hold 9 = .ok (.iload_n 3, 1) := dk_29 (byr_X9_hold_0 (j := 9) rfl)
theorem dX9_hold_10 : decode cX9_hold 10 = .ok (.i2l, 1) := dk_133 (byr_X9_hold_0 (j := 10) rfl)
theorem dX9_hold_11 : decode cX9_hold 11 = .ok (.lconst 0, 1) := dk_9 (byr_X9_hold_0 (j := 11) rfl)
theorem dX9_hold_12 : decode cX9_hold 12 = .ok (.lconst 1, 1) := dk_10 (byr_X9_hold_0 (j := 12) rfl)
theorem dX9_hold_13 : decode cX9_hold 13 = .ok (.invokestatic 49, 3) := dk_184 (byr_X9_hold_0 (j := 13) rfl) (byr_X9_hold_0 (j := 14) rfl) (byr_X9_hold_0 (j := 15) rfl) (by decide)
theorem dX9_hold_16 : decode cX9_hold 16 = .ok (.ifCond .ne 9, 3) := dk_154 (byr_X9_hold_1 (j := 0) rfl) (byr_X9_hold_1 (j := 1) rfl) (byr_X9_hold_1 (j := 2) rfl) (by decide)
theorem dX9_hold_19 : decode cX9_hold 19 = .ok (.aload_n 0, 1) := dk_42 (byr_X9_hold_1 (j := 3) rfl)
theorem dX9_hold_20 : decode cX9_hold 20 = .ok (.iconst 1, 1) := dk_4 (byr_X9_hold_1 (j := 4) rfl)
theorem dX9_hold_21 : decode cX9_hold 21 = .ok (.invokevirtual 126, 3) := dk_182 (byr_X9_hold_1 (j := 5) rfl) (byr_X9_hold_1 (j := 6) rfl) (byr_X9_hold_1 (j := 7) rfl) (by decide)
theorem dX9_hold_24 : decode cX9_hold 24 = .ok (.ireturn, 1) := dk_172 (byr_X9_hold_1 (j := 8) rfl)
theorem dX9_hold_25 : decode cX9_hold 25 = .ok (.aload_n 0, 1) := dk_42 (byr_X9_hold_1 (j := 9) rfl)
theorem dX9_hold_26 : decode cX9_hold 26 = .ok (.getfield 7, 3) := dk_180 (byr_X9_hold_1 (j := 10) rfl) (byr_X9_hold_1 (j := 11) rfl) (byr_X9_hold_1 (j := 12) rfl) (by decide)
theorem dX9_hold_29 : decode cX9_hold 29 = .ok (.aload_n 0, 1) := dk_42 (byr_X9_hold_1 (j := 13) rfl)
theorem dX9_hold_30 : decode cX9_hold 30 = .ok (.getfield 13, 3) := dk_180 (byr_X9_hold_1 (j := 14) rfl) (byr_X9_hold_1 (j := 15) rfl) (byr_X9_hold_2 (j := 0) rfl) (by decide)
theorem dX9_hold_33 : decode cX9_hold 33 = .ok (.invokestatic 231, 3) := dk_184 (byr_X9_hold_2 (j := 1) rfl) (byr_X9_hold_2 (j := 2) rfl) (byr_X9_hold_2 (j := 3) rfl) (by decide)
theorem dX9_hold_36 : decode cX9_hold 36 = .ok (.aload_n 0, 1) := dk_42 (byr_X9_hold_2 (j := 4) rfl)
theorem dX9_hold_37 : decode cX9_hold 37 = .ok (.iload_n 1, 1) := dk_27 (byr_X9_hold_2 (j := 5) rfl)
theorem dX9_hold_38 : decode cX9_hold 38 = .ok (.iconst 2, 1) := dk_5 (byr_X9_hold_2 (j := 6) rfl)
theorem dX9_hold_39 : decode cX9_hold 39 = .ok (.invokevirtual 172, 3) := dk_182 (byr_X9_hold_2 (j := 7) rfl) (byr_X9_hold_2 (j := 8) rfl) (byr_X9_hold_2 (j := 9) rfl) (by decide)
theorem dX9_hold_42 : decode cX9_hold 42 = .ok (.istore 4, 2) := dk_54 (byr_X9_hold_2 (j := 10) rfl) (byr_X9_hold_2 (j := 11) rfl)
theorem dX9_hold_44 : decode cX9_hold 44 = .ok (.iconst (-1), 1) := dk_2 (byr_X9_hold_2 (j := 12) rfl)
theorem dX9_hold_45 : decode cX9_hold 45 = .ok (.istore 5, 2) := dk_54 (byr_X9_hold_2 (j := 13) rfl) (byr_X9_hold_2 (j := 14) rfl)
theorem dX9_hold_47 : decode cX9_hold 47 = .ok (.iconst 0, 1) := dk_3 (byr_X9_hold_2 (j := 15) rfl)
theorem dX9_hold_48 : decode cX9_hold 48 = .ok (.istore 6, 2) := dk_54 (byr_X9_hold_3 (j := 0) rfl) (byr_X9_hold_3 (j := 1) rfl)
theorem dX9_hold_50 : decode cX9_hold 50 = .ok (.iconst 0, 1) := dk_3 (byr_X9_hold_3 (j := 2) rfl)
theorem dX9_hold_51 : decode cX9_hold 51 = .ok (.istore 7, 2) := dk_54 (byr_X9_hold_3 (j := 3) rfl) (byr_X9_hold_3 (j := 4) rfl)
theorem dX9_hold_53 : decode cX9_hold 53 = .ok (.iload 7, 2) := dk_21 (byr_X9_hold_3 (j := 5) rfl) (byr_X9_hold_3 (j := 6) rfl)
theorem dX9_hold_55 : decode cX9_hold 55 = .ok (.bipush 6, 2) := dk_16 (byr_X9_hold_3 (j := 7) rfl) (byr_X9_hold_3 (j := 8) rfl) (by decide)
theorem dX9_hold_57 : decode cX9_hold 57 = .ok (.if_icmp .ge 94, 3) := dk_162 (byr_X9_hold_3 (j := 9) rfl) (byr_X9_hold_3 (j := 10) rfl) (byr_X9_hold_3 (j := 11) rfl) (by decide)
theorem dX9_hold_60 : decode cX9_hold 60 = .ok (.aload_n 0, 1) := dk_42 (byr_X9_hold_3 (j := 12) rfl)
theorem dX9_hold_61 : decode cX9_hold 61 = .ok (.iload_n 1, 1) := dk_27 (byr_X9_hold_3 (j := 13) rfl)
theorem dX9_hold_62 : decode cX9_hold 62 = .ok (.iload_n 2, 1) := dk_28 (byr_X9_hold_3 (j := 14) rfl)
theorem dX9_hold_63 : decode cX9_hold 63 = .ok (.iload 7, 2) := dk_21 (byr_X9_hold_3 (j := 15) rfl) (byr_X9_hold_4 (j := 0) rfl)
theorem dX9_hold_65 : decode cX9_hold 65 = .ok (.iconst 0, 1) := dk_3 (byr_X9_hold_4 (j := 1) rfl)
theorem dX9_hold_66 : decode cX9_hold 66 = .ok (.invokevirtual 246, 3) := dk_182 (byr_X9_hold_4 (j := 2) rfl) (byr_X9_hold_4 (j := 3) rfl) (byr_X9_hold_4 (j := 4) rfl) (by decide)
theorem dX9_hold_69 : decode cX9_hold 69 = .ok (.istore 8, 2) := dk_54 (byr_X9_hold_4 (j := 5) rfl) (byr_X9_hold_4 (j := 6) rfl)
theorem dX9_hold_71 : decode cX9_hold 71 = .ok (.iconst 1, 1) := dk_4 (byr_X9_hold_4 (j := 7) rfl)
theorem dX9_hold_72 : decode cX9_hold 72 = .ok (.istore 9, 2) := dk_54 (byr_X9_hold_4 (j := 8) rfl) (byr_X9_hold_4 (j := 9) rfl)
theorem dX9_hold_74 : decode cX9_hold 74 = .ok (.iload 9, 2) := dk_21 (byr_X9_hold_4 (j := 10) rfl) (byr_X9_hold_4 (j := 11) rfl)
theorem dX9_hold_76 : decode cX9_hold 76 = .ok (.bipush 6, 2) := dk_16 (byr_X9_hold_4 (j := 12) rfl) (byr_X9_hold_4 (j := 13) rfl) (by decide)
theorem dX9_hold_78 : decode cX9_hold 78 = .ok (.if_icmp .ge 42, 3) := dk_162 (byr_X9_hold_4 (j := 14) rfl) (byr_X9_hold_4 (j := 15) rfl) (byr_X9_hold_5 (j := 0) rfl) (by decide)
theorem dX9_hold_81 : decode cX9_hold 81 = .ok (.aload_n 0, 1) := dk_42 (byr_X9_hold_5 (j := 1) rfl)
theorem dX9_hold_82 : decode cX9_hold 82 = .ok (.iload_n 1, 1) := dk_27 (byr_X9_hold_5 (j := 2) rfl)
theorem dX9_hold_83 : decode cX9_hold 83 = .ok (.iload_n 2, 1) := dk_28 (byr_X9_hold_5 (j := 3) rfl)
theorem dX9_hold_84 : decode cX9_hold 84 = .ok (.iload 7, 2) := dk_21 (byr_X9_hold_5 (j := 4) rfl) (byr_X9_hold_5 (j := 5) rfl)
theorem dX9_hold_86 : decode cX9_hold 86 = .ok (.iload 9, 2) := dk_21 (byr_X9_hold_5 (j := 6) rfl) (byr_X9_hold_5 (j := 7) rfl)
theorem dX9_hold_88 : decode cX9_hold 88 = .ok (.invokevirtual 246, 3) := dk_182 (byr_X9_hold_5 (j := 8) rfl) (byr_X9_hold_5 (j := 9) rfl) (byr_X9_hold_5 (j := 10) rfl) (by decide)
theorem dX9_hold_91 : decode cX9_hold 91 = .ok (.istore 10, 2) := dk_54 (byr_X9_hold_5 (j := 11) rfl) (byr_X9_hold_5 (j := 12) rfl)
theorem dX9_hold_93 : decode cX9_hold 93 = .ok (.iload 4, 2) := dk_21 (byr_X9_hold_5 (j := 13) rfl) (byr_X9_hold_5 (j := 14) rfl)
theorem dX9_hold_95 : decode cX9_hold 95 = .ok (.iload 8, 2) := dk_21 (byr_X9_hold_5 (j := 15) rfl) (byr_X9_hold_6 (j := 0) rfl)
theorem dX9_hold_97 : decode cX9_hold 97 = .ok (.iload 10, 2) := dk_21 (byr_X9_hold_6 (j := 1) rfl) (byr_X9_hold_6 (j := 2) rfl)
theorem dX9_hold_99 : decode cX9_hold 99 = .ok (.invokestatic 242, 3) := dk_184 (byr_X9_hold_6 (j := 3) rfl) (byr_X9_hold_6 (j := 4) rfl) (byr_X9_hold_6 (j := 5) rfl) (by decide)
theorem dX9_hold_102 : decode cX9_hold 102 = .ok (.ifCond .eq 8, 3) := dk_153 (byr_X9_hold_6 (j := 6) rfl) (byr_X9_hold_6 (j := 7) rfl) (byr_X9_hold_6 (j := 8) rfl) (by decide)
theorem dX9_hold_105 : decode cX9_hold 105 = .ok (.iload 10, 2) := dk_21 (byr_X9_hold_6 (j := 9) rfl) (byr_X9_hold_6 (j := 10) rfl)
theorem dX9_hold_107 : decode cX9_hold 107 = .ok (.goto 5, 3) := dk_167 (byr_X9_hold_6 (j := 11) rfl) (byr_X9_hold_6 (j := 12) rfl) (byr_X9_hold_6 (j := 13) rfl) (by decide)
theorem dX9_hold_110 : decode cX9_hold 110 = .ok (.iload 8, 2) := dk_21 (byr_X9_hold_6 (j := 14) rfl) (byr_X9_hold_6 (j := 15) rfl)
theorem dX9_hold_112 : decode cX9_hold 112 = .ok (.istore 8, 2) := dk_54 (byr_X9_hold_7 (j := 0) rfl) (byr_X9_hold_7 (j := 1) rfl)
theorem dX9_hold_114 : decode cX9_hold 114 = .ok (.iinc 9 1, 3) := dk_132 (byr_X9_hold_7 (j := 2) rfl) (byr_X9_hold_7 (j := 3) rfl) (byr_X9_hold_7 (j := 4) rfl) (by decide)
theorem dX9_hold_117 : decode cX9_hold 117 = .ok (.goto (-43), 3) := dk_167 (byr_X9_hold_7 (j := 5) rfl) (byr_X9_hold_7 (j := 6) rfl) (byr_X9_hold_7 (j := 7) rfl) (by decide)
theorem dX9_hold_120 : decode cX9_hold 120 = .ok (.iload 5, 2) := dk_21 (byr_X9_hold_7 (j := 8) rfl) (byr_X9_hold_7 (j := 9) rfl)
theorem dX9_hold_122 : decode cX9_hold 122 = .ok (.ifCond .lt 15, 3) := dk_155 (byr_X9_hold_7 (j := 10) rfl) (byr_X9_hold_7 (j := 11) rfl) (byr_X9_hold_7 (j := 12) rfl) (by decide)
theorem dX9_hold_125 : decode cX9_hold 125 = .ok (.iload 4, 2) := dk_21 (byr_X9_hold_7 (j := 13) rfl) (byr_X9_hold_7 (j := 14) rfl)
theorem dX9_hold_127 : decode cX9_hold 127 = .ok (.iload 8, 2) := dk_21 (byr_X9_hold_7 (j := 15) rfl) (byr_X9_hold_8 (j := 0) rfl)
theorem dX9_hold_129 : decode cX9_hold 129 = .ok (.iload 6, 2) := dk_21 (byr_X9_hold_8 (j := 1) rfl) (byr_X9_hold_8 (j := 2) rfl)
theorem dX9_hold_131 : decode cX9_hold 131 = .ok (.invokestatic 242, 3) := dk_184 (byr_X9_hold_8 (j := 3) rfl) (byr_X9_hold_8 (j := 4) rfl) (byr_X9_hold_8 (j := 5) rfl) (by decide)
theorem dX9_hold_134 : decode cX9_hold 134 = .ok (.ifCond .eq 11, 3) := dk_153 (byr_X9_hold_8 (j := 6) rfl) (byr_X9_hold_8 (j := 7) rfl) (byr_X9_hold_8 (j := 8) rfl) (by decide)
theorem dX9_hold_137 : decode cX9_hold 137 = .ok (.iload 7, 2) := dk_21 (byr_X9_hold_8 (j := 9) rfl) (byr_X9_hold_8 (j := 10) rfl)
theorem dX9_hold_139 : decode cX9_hold 139 = .ok (.istore 5, 2) := dk_54 (byr_X9_hold_8 (j := 11) rfl) (byr_X9_hold_8 (j := 12) rfl)
theorem dX9_hold_141 : decode cX9_hold 141 = .ok (.iload 8, 2) := dk_21 (byr_X9_hold_8 (j := 13) rfl) (byr_X9_hold_8 (j := 14) rfl)
theorem dX9_hold_143 : decode cX9_hold 143 = .ok (.istore 6, 2) := dk_54 (byr_X9_hold_8 (j := 15) rfl) (byr_X9_hold_9 (j := 0) rfl)
theorem dX9_hold_145 : decode cX9_hold 145 = .ok (.iinc 7 1, 3) := dk_132 (byr_X9_hold_9 (j := 1) rfl) (byr_X9_hold_9 (j := 2) rfl) (byr_X9_hold_9 (j := 3) rfl) (by decide)
theorem dX9_hold_148 : decode cX9_hold 148 = .ok (.goto (-95), 3) := dk_167 (byr_X9_hold_9 (j := 4) rfl) (byr_X9_hold_9 (j := 5) rfl) (byr_X9_hold_9 (j := 6) rfl) (by decide)
theorem dX9_hold_151 : decode cX9_hold 151 = .ok (.aload_n 0, 1) := dk_42 (byr_X9_hold_9 (j := 7) rfl)
theorem dX9_hold_152 : decode cX9_hold 152 = .ok (.getfield 13, 3) := dk_180 (byr_X9_hold_9 (j := 8) rfl) (byr_X9_hold_9 (j := 9) rfl) (byr_X9_hold_9 (j := 10) rfl) (by decide)
theorem dX9_hold_155 : decode cX9_hold 155 = .ok (.aload_n 0, 1) := dk_42 (byr_X9_hold_9 (j := 11) rfl)
theorem dX9_hold_156 : decode cX9_hold 156 = .ok (.getfield 7, 3) := dk_180 (byr_X9_hold_9 (j := 12) rfl) (byr_X9_hold_9 (j := 13) rfl) (byr_X9_hold_9 (j := 14) rfl) (by decide)
theorem dX9_hold_159 : decode cX9_hold 159 = .ok (.invokestatic 231, 3) := dk_184 (byr_X9_hold_9 (j := 15) rfl) (byr_X9_hold_10 (j := 0) rfl) (byr_X9_hold_10 (j := 1) rfl) (by decide)
theorem dX9_hold_162 : decode cX9_hold 162 = .ok (.iload_n 3, 1) := dk_29 (byr_X9_hold_10 (j := 2) rfl)
theorem dX9_hold_163 : decode cX9_hold 163 = .ok (.ifCond .ne 8, 3) := dk_154 (byr_X9_hold_10 (j := 3) rfl) (byr_X9_hold_10 (j := 4) rfl) (byr_X9_hold_10 (j := 5) rfl) (by decide)
theorem dX9_hold_166 : decode cX9_hold 166 = .ok (.iload 5, 2) := dk_21 (byr_X9_hold_10 (j := 6) rfl) (byr_X9_hold_10 (j := 7) rfl)
theorem dX9_hold_168 : decode cX9_hold 168 = .ok (.goto 5, 3) := dk_167 (byr_X9_hold_10 (j := 8) rfl) (byr_X9_hold_10 (j := 9) rfl) (byr_X9_hold_10 (j := 10) rfl) (by decide)
theorem dX9_hold_171 : decode cX9_hold 171 = .ok (.iload 6, 2) := dk_21 (byr_X9_hold_10 (j := 11) rfl) (byr_X9_hold_10 (j := 12) rfl)
theorem dX9_hold_173 : decode cX9_hold 173 = .ok (.ireturn, 1) := dk_172 (byr_X9_hold_10 (j := 13) rfl)
set_option maxHeartbeats 4000000 in
set_option maxRecDepth 100000 in
theorem c_X9_hold (l : Launch) (G : GT) (σ : Sto) (a1 : Int32) (a2 : Int32) (a3 : Int32) (r : (Int32 × Sto)) (h : f_X9_hold σ a1 a2 a3 = some r) : MW l G (9) (232) 0 0 yX9_hold cX9_hold 11 (Option.some Jvm.ClassFile.FieldType.int) [.ref (gad G 81), .int a1, .int a2, .int a3] (wl G σ) (some (.int r.1)) (wl G r.2) := by
  refine mw_of RX9 (fiI G) [(0, .ref (gad G 81)), (1, .int a1), (2, .int a2), (3, .int a3)] (by decide +kernel) rfl (Nat.le_of_ble_eq_true rfl) rfl h rfl (fun p e s m args below meth c X hr hnm => ?_)
  have J112 : ∀ (v1 : Int32) (v2 : Int32) (v3 : Int32) (v4 : Int32) (v5 : Int32) (v6 : Int32) (v7 : Int32) (v9 : Int32) (vs0 : Int32) (K53 : Int32 → Int32 → Int32 → Sto → Option (Int32 × Sto)) (hK53 : ∀ (v5' : Int32) (v6' : Int32) (v7' : Int32) (σ' : Sto), Sm p l e { frames := 9, cells := 0, slots := 0, locals := 232 } s m args below meth c G 11 (Qm below args s G 0 0 (fiI G)) 0 0 (wl G σ') 53 [(0, .ref (gad G 81)), (1, .int v1), (2, .int v2), (3, .int v3), (4, .int v4), (5, .int v5'), (6, .int v6'), (7, .int v7')] [] (K53 v5' v6' v7' σ')) (K74 : Int32 → Int32 → Sto → Option (Int32 × Sto)) (hK74 : ∀ (v8' : Int32) (v9' : Int32) (σ' : Sto), Sm p l e { frames := 9, cells := 0, slots := 0, locals := 232 } s m args below meth c G 11 (Qm below args s G 0 0 (fiI G)) 0 0 (wl G σ') 74 [(0, .ref (gad G 81)), (1, .int v1), (2, .int v2), (3, .int v3), (4, .int v4), (5, .int v5), (6, .int v6), (7, .int v7), (8, .int v8'), (9, .int v9')] [] (K74 v8' v9' σ')) (σ : Sto), Sm p l e { frames := 9, cells := 0, slots := 0, locals := 232 } s m args below meth c G 11 (Qm below args s G 0 0 (fiI G)) 0 0 (wl G σ) 112 [(0, .ref (gad G 81)), (1, .int v1), (2, .int v2), (3, .int v3), (4, .int v4), (5, .int v5), (6, .int v6), (7, .int v7), (9, .int v9)] [.int vs0] (f_X9_hold_L112 K53 K74 v1 v2 v3 v4 v5 v6 v7 v9 vs0 σ) := by
    intro v1 v2 v3 v4 v5 v6 v7 v9 vs0 K53 hK53 K74 hK74 σ
    rw [f_X9_hold_L112]
    refine sm_istore X 114 [(8, .int vs0), (0, .ref (gad G 81)), (1, .int v1), (2, .int v2), (3, .int v3), (4, .int v4), (5, .int v5), (6, .int v6), (7, .int v7), (9, .int v9)] dX9_hold_112 rfl (by decide) rfl ?_
    refine sm_iinc X 117 9 (1 : Int32) [(9, .int (v9 + (1 : Int32))), (8, .int vs0), (0, .ref (gad G 81)), (1, .int v1), (2, .int v2), (3, .int v3), (4, .int v4), (5, .int v5), (6, .int v6), (7, .int v7)] dX9_hold_114 rfl rfl rfl (by decide) rfl ?_
    refine sm_goto X 74 dX9_hold_117 (by decide) ?_
    exact sm_sub [2, 3, 4, 5, 6, 7, 8, 9, 1, 0] rfl (hK74 vs0 (v9 + (1 : Int32)) σ)
  have J145 : ∀ (v1 : Int32) (v2 : Int32) (v3 : Int32) (v4 : Int32) (v5 : Int32) (v6 : Int32) (v7 : Int32) (K53 : Int32 → Int32 → Int32 → Sto → Option (Int32 × Sto)) (hK53 : ∀ (v5' : Int32) (v6' : Int32) (v7' : Int32) (σ' : Sto), Sm p l e { frames := 9, cells := 0, slots := 0, locals := 232 } s m args below meth c G 11 (Qm below args s G 0 0 (fiI G)) 0 0 (wl G σ') 53 [(0, .ref (gad G 81)), (1, .int v1), (2, .int v2), (3, .int v3), (4, .int v4), (5, .int v5'), (6, .int v6'), (7, .int v7')] [] (K53 v5' v6' v7' σ')) (σ : Sto), Sm p l e { frames := 9, cells := 0, slots := 0, locals := 232 } s m args below meth c G 11 (Qm below args s G 0 0 (fiI G)) 0 0 (wl G σ) 145 [(0, .ref (gad G 81)), (1, .int v1), (2, .int v2), (3, .int v3), (4, .int v4), (5, .int v5), (6, .int v6), (7, .int v7)] [] (f_X9_hold_L145 K53 v1 v2 v3 v4 v5 v6 v7 σ) := by
    intro v1 v2 v3 v4 v5 v6 v7 K53 hK53 σ
    rw [f_X9_hold_L145]
    refine sm_iinc X 148 7 (1 : Int32) [(7, .int (v7 + (1 : Int32))), (0, .ref (gad G 81)), (1, .int v1), (2, .int v2), (3, .int v3), (4, .int v4), (5, .int v5), (6, .int v6)] dX9_hold_145 rfl rfl rfl (by decide) rfl ?_
    refine sm_goto X 53 dX9_hold_148 (by decide) ?_
    exact sm_sub [1, 2, 3, 4, 5, 6, 7, 0] rfl (hK53 v5 v6 (v7 + (1 : Int32)) σ)
  have J137 : ∀ (v1 : Int32) (v2 : Int32) (v3 : Int32) (v4 : Int32) (v7 : Int32) (v8 : Int32) (K53 : Int32 → Int32 → Int32 → Sto → Option (Int32 × Sto)) (hK53 : ∀ (v5' : Int32) (v6' : Int32) (v7' : Int32) (σ' : Sto), Sm p l e { frames := 9, cells := 0, slots := 0, locals := 232 } s m args below meth c G 11 (Qm below args s G 0 0 (fiI G)) 0 0 (wl G σ') 53 [(0, .ref (gad G 81)), (1, .int v1), (2, .int v2), (3, .int v3), (4, .int v4), (5, .int v5'), (6, .int v6'), (7, .int v7')] [] (K53 v5' v6' v7' σ')) (σ : Sto), Sm p l e { frames := 9, cells := 0, slots := 0, locals := 232 } s m args below meth c G 11 (Qm below args s G 0 0 (fiI G)) 0 0 (wl G σ) 137 [(0, .ref (gad G 81)), (1, .int v1), (2, .int v2), (3, .int v3), (4, .int v4), (7, .int v7), (8, .int v8)] [] (f_X9_hold_L137 K53 v1 v2 v3 v4 v7 v8 σ) := by
    intro v1 v2 v3 v4 v7 v8 K53 hK53 σ
    rw [f_X9_hold_L137]
    refine sm_iload X 139 5 dX9_hold_137 rfl rfl ?_
    refine sm_istore X 141 [(5, .int v7), (0, .ref (gad G 81)), (1, .int v1), (2, .int v2), (3, .int v3), (4, .int v4), (7, .int v7), (8, .int v8)] dX9_hold_139 rfl (by decide) rfl ?_
    refine sm_iload X 143 7 dX9_hold_141 rfl rfl ?_
    refine sm_istore X 145 [(6, .int v8), (5, .int v7), (0, .ref (gad G 81)), (1, .int v1), (2, .int v2), (3, .int v3), (4, .int v4), (7, .int v7), (8, .int v8)] dX9_hold_143 rfl (by decide) rfl ?_
    exact sm_sub [2, 3, 4, 5, 6, 1, 0, 7] rfl (J145 v1 v2 v3 v4 v7 v8 v7 K53 hK53 σ)
  have J74 : ∀ (v1 : Int32) (v2 : Int32) (v3 : Int32) (v4 : Int32) (v5 : Int32) (v6 : Int32) (v7 : Int32) (K53 : Int32 → Int32 → Int32 → Sto → Option (Int32 × Sto)) (hK53 : ∀ (v5' : Int32) (v6' : Int32) (v7' : Int32) (σ' : Sto), Sm p l e { frames := 9, cells := 0, slots := 0, locals := 232 } s m args below meth c G 11 (Qm below args s G 0 0 (fiI G)) 0 0 (wl G σ') 53 [(0, .ref (gad G 81)), (1, .int v1), (2, .int v2), (3, .int v3), (4, .int v4), (5, .int v5'), (6, .int v6'), (7, .int v7')] [] (K53 v5' v6' v7' σ')) (n : Nat) (v8 : Int32) (v9 : Int32) (σ : Sto), Sm p l e { frames := 9, cells := 0, slots := 0, locals := 232 } s m args below meth c G 11 (Qm below args s G 0 0 (fiI G)) 0 0 (wl G σ) 74 [(0, .ref (gad G 81)), (1, .int v1), (2, .int v2), (3, .int v3), (4, .int v4), (5, .int v5), (6, .int v6), (7, .int v7), (8, .int v8), (9, .int v9)] [] (f_X9_hold_L74 K53 v1 v2 v3 v4 v5 v6 v7 n v8 v9 σ) := by
    intro v1 v2 v3 v4 v5 v6 v7 K53 hK53 n
    induction n with
    | zero => intro v8 v9 σ; rw [f_X9_hold_L74]; exact sm_none
    | succ n ihl =>
      intro v8 v9 σ
      rw [f_X9_hold_L74]
      refine sm_iload X 76 9 dX9_hold_74 rfl rfl ?_
      refine sm_bipush X 78 (6) dX9_hold_76 rfl rfl ?_
      refine sm_icmp_ge X 81 120 dX9_hold_78 rfl (by decide) (fun h78 => ?_) (fun h78 => ?_)
      · refine sm_iload X 122 5 dX9_hold_120 rfl rfl ?_
        refine sm_if_lt X 125 137 dX9_hold_122 rfl (by decide) (fun h122 => ?_) (fun h122 => ?_)
        · exact sm_sub [0, 1, 2, 3, 4, 7, 8] rfl (J137 v1 v2 v3 v4 v7 v8 K53 hK53 σ)
        · refine sm_iload X 127 4 dX9_hold_125 rfl rfl ?_
          refine sm_iload X 129 8 dX9_hold_127 rfl rfl ?_
          refine sm_iload X 131 6 dX9_hold_129 rfl rfl ?_
          refine sm_bind (fun r131 h131 => ?_)
          refine sm_callS0 X 134 [.int v4, .int v8, .int v6] [] [.int (b2i r131)] (c_X9_isBetter l G σ v4 v8 v6 r131 h131) cw_X9_isBetter q_1192 q_1191 rfl rfl rfl (Nat.le_of_ble_eq_true rfl) ⟨Nat.le_of_ble_eq_true rfl, Nat.le_of_ble_eq_true rfl⟩ ⟨Nat.le_refl _, Nat.le_refl _⟩ dX9_hold_131 rfl ?_
          refine sm_ifz_eq X 137 145 dX9_hold_134 rfl (by decide) (fun h134 => ?_) (fun h134 => ?_)
          · exact sm_sub [0, 1, 2, 3, 4, 7, 8] rfl (J137 v1 v2 v3 v4 v7 v8 K53 hK53 σ)
          · exact sm_sub [0, 1, 2, 3, 4, 5, 6, 7] rfl (J145 v1 v2 v3 v4 v5 v6 v7 K53 hK53 σ)
      · refine sm_aload_n X 82 0 dX9_hold_81 rfl rfl rfl ?_
        refine sm_iload_n X 83 1 dX9_hold_82 rfl rfl rfl ?_
        refine sm_iload_n X 84 2 dX9_hold_83 rfl rfl rfl ?_
        refine sm_iload X 86 7 dX9_hold_84 rfl rfl ?_
        refine sm_iload X 88 9 dX9_hold_86 rfl rfl ?_
        refine sm_bind (fun r88 h88 => ?_)
        refine sm_callV0 X 91 [.int v1, .int v2, .int v7, .int v9] [] [.int r88.1] (c_X9_endOf l G σ v1 v2 v7 v9 r88 h88) cw_X9_endOf q_1200 qs_55 q_1198 rfl (by decide) rfl rfl rfl rfl rfl (Nat.le_of_ble_eq_true rfl) ⟨Nat.le_of_ble_eq_true rfl, Nat.le_of_ble_eq_true rfl⟩ ⟨Nat.le_refl _, Nat.le_refl _⟩ dX9_hold_88 rfl ?_
        refine sm_istore X 93 [(10, .int r88.1), (0, .ref (gad G 81)), (1, .int v1), (2, .int v2), (3, .int v3), (4, .int v4), (5, .int v5), (6, .int v6), (7, .int v7), (8, .int v8), (9, .int v9)] dX9_hold_91 rfl (by decide) rfl ?_
        refine sm_iload X 95 5 dX9_hold_93 rfl rfl ?_
        refine sm_iload X 97 9 dX9_hold_95 rfl rfl ?_
        refine sm_iload X 99 0 dX9_hold_97 rfl rfl ?_
        refine sm_bind (fun r99 h99 => ?_)
        refine sm_callS0 X 102 [.int v4, .int v8, .int r88.1] [] [.int (b2i r99)] (c_X9_isBetter l G r88.2 v4 v8 r88.1 r99 h99) cw_X9_isBetter q_1192 q_1191 rfl rfl rfl (Nat.le_of_ble_eq_true rfl) ⟨Nat.le_of_ble_eq_true rfl, Nat.le_of_ble_eq_true rfl⟩ ⟨Nat.le_refl _, Nat.le_refl _⟩ dX9_hold_99 rfl ?_
        refine sm_ifz_eq X 105 110 dX9_hold_102 rfl (by decide) (fun h102 => ?_) (fun h102 => ?_)
        · refine sm_iload X 107 0 dX9_hold_105 rfl rfl ?_
          refine sm_goto X 112 dX9_hold_107 (by decide) ?_
          exact sm_sub [1, 2, 3, 4, 5, 6, 7, 8, 10] rfl (J112 v1 v2 v3 v4 v5 v6 v7 v9 r88.1 K53 hK53 (f_X9_hold_L74 K53 v1 v2 v3 v4 v5 v6 v7 n) ihl r88.2)
        · refine sm_iload X 112 9 dX9_hold_110 rfl rfl ?_
          exact sm_sub [1, 2, 3, 4, 5, 6, 7, 8, 10] rfl (J112 v1 v2 v3 v4 v5 v6 v7 v9 v8 K53 hK53 (f_X9_hold_L74 K53 v1 v2 v3 v4 v5 v6 v7 n) ihl r88.2)
  have J53 : ∀ (v1 : Int32) (v2 : Int32) (v3 : Int32) (v4 : Int32)  (n : Nat) (v5 : Int32) (v6 : Int32) (v7 : Int32) (σ : Sto), Sm p l e { frames := 9, cells := 0, slots := 0, locals := 232 } s m args below meth c G 11 (Qm below args s G 0 0 (fiI G)) 0 0 (wl G σ) 53 [(0, .ref (gad G 81)), (1, .int v1), (2, .int v2), (3, .int v3), (4, .int v4), (5, .int v5), (6, .int v6), (7, .int v7)] [] (f_X9_hold_L53  v1 v2 v3 v4 n v5 v6 v7 σ) := by
    intro v1 v2 v3 v4 n
    induction n with
    | zero => intro v5 v6 v7 σ; rw [f_X9_hold_L53]; exact sm_none
    | succ n ihl =>
      intro v5 v6 v7 σ
      rw [f_X9_hold_L53]
      refine sm_iload X 55 7 dX9_hold_53 rfl rfl ?_
      refine sm_bipush X 57 (6) dX9_hold_55 rfl rfl ?_
      refine sm_icmp_ge X 60 151 dX9_hold_57 rfl (by decide) (fun h57 => ?_) (fun h57 => ?_)
      · refine sm_aload_n X 152 0 dX9_hold_151 rfl rfl rfl ?_
        refine sm_getf X 155 83 rfl fd_9_1 rfl dX9_hold_152 rfl q_883 ?_
        refine sm_aload_n X 156 0 dX9_hold_155 rfl rfl rfl ?_
        refine sm_getf X 159 82 rfl fd_9_0 rfl dX9_hold_156 rfl q_882 ?_
        refine sm_bind (fun r159 h159 => ?_)
        refine sm_callS0 X 162 [.ref (gad G 83), .ref (gad G 82)] [] [] (c_X9_copies l G σ 83 rfl 82 rfl r159 h159) cw_X9_copies q_1182 q_1181 rfl rfl rfl (Nat.le_of_ble_eq_true rfl) ⟨Nat.le_of_ble_eq_true rfl, Nat.le_of_ble_eq_true rfl⟩ ⟨Nat.le_refl _, Nat.le_refl _⟩ dX9_hold_159 rfl ?_
        refine sm_iload_n X 163 3 dX9_hold_162 rfl rfl rfl ?_
        refine sm_if_ne X 166 171 dX9_hold_163 rfl (by decide) (fun h163 => ?_) (fun h163 => ?_)
        · refine sm_iload X 168 5 dX9_hold_166 rfl rfl ?_
          refine sm_goto X 173 dX9_hold_168 (by decide) ?_
          exact sm_iret X hr dX9_hold_173 rfl
        · refine sm_iload X 173 6 dX9_hold_171 rfl rfl ?_
          exact sm_iret X hr dX9_hold_173 rfl
      · refine sm_aload_n X 61 0 dX9_hold_60 rfl rfl rfl ?_
        refine sm_iload_n X 62 1 dX9_hold_61 rfl rfl rfl ?_
        refine sm_iload_n X 63 2 dX9_hold_62 rfl rfl rfl ?_
        refine sm_iload X 65 7 dX9_hold_63 rfl rfl ?_
        refine sm_iconst X 66 (0) dX9_hold_65 rfl rfl ?_
        refine sm_bind (fun r66 h66 => ?_)
        refine sm_callV0 X 69 [.int v1, .int v2, .int v7, .int 0] [] [.int r66.1] (c_X9_endOf l G σ v1 v2 v7 (0 : Int32) r66 h66) cw_X9_endOf q_1200 qs_55 q_1198 rfl (by decide) rfl rfl rfl rfl rfl (Nat.le_of_ble_eq_true rfl) ⟨Nat.le_of_ble_eq_true rfl, Nat.le_of_ble_eq_true rfl⟩ ⟨Nat.le_refl _, Nat.le_refl _⟩ dX9_hold_66 rfl ?_
        refine sm_istore X 71 [(8, .int r66.1), (0, .ref (gad G 81)), (1, .int v1), (2, .int v2), (3, .int v3), (4, .int v4), (5, .int v5), (6, .int v6), (7, .int v7)] dX9_hold_69 rfl (by decide) rfl ?_
        refine sm_iconst X 72 (1) dX9_hold_71 rfl rfl ?_
        refine sm_istore X 74 [(9, .int 1), (8, .int r66.1), (0, .ref (gad G 81)), (1, .int v1), (2, .int v2), (3, .int v3), (4, .int v4), (5, .int v5), (6, .int v6), (7, .int v7)] dX9_hold_72 rfl (by decide) rfl ?_
        exact sm_sub [2, 3, 4, 5, 6, 7, 8, 9, 1, 0] rfl (J74 v1 v2 v3 v4 v5 v6 v7 (f_X9_hold_L53  v1 v2 v3 v4 n) ihl FU r66.1 (1 : Int32) r66.2)
  unfold f_X9_hold
  refine sm_aload_n X 1 0 dX9_hold_0 rfl rfl rfl ?_
  refine sm_iload_n X 2 1 dX9_hold_1 rfl rfl rfl ?_
  refine sm_iload_n X 3 2 dX9_hold_2 rfl rfl rfl ?_
  refine sm_bind (fun r3 h3 => ?_)
  refine sm_callV0 X 6 [.int a1, .int a2] [] [.int (b2i r3)] (c_X9_areUnlike l G σ a1 a2 r3 h3) cw_X9_areUnlike q_1147 qs_49 q_1145 rfl (by decide) rfl rfl rfl rfl rfl (Nat.le_of_ble_eq_true rfl) ⟨Nat.le_of_ble_eq_true rfl, Nat.le_of_ble_eq_true rfl⟩ ⟨Nat.le_refl _, Nat.le_refl _⟩ dX9_hold_3 rfl ?_
  refine sm_ifz_eq X 9 19 dX9_hold_6 rfl (by decide) (fun h6 => ?_) (fun h6 => ?_)
  · refine sm_iload_n X 10 3 dX9_hold_9 rfl rfl rfl ?_
    refine sm_i2l X 11 dX9_hold_10 rfl ?_
    refine sm_lconst X 12 (0) dX9_hold_11 rfl rfl ?_
    refine sm_lconst X 13 (1) dX9_hold_12 rfl rfl ?_
    refine sm_bind (fun r13 h13 => ?_)
    refine sm_callS0 X 16 [.long (Int32.toInt64 a3), .long (0 : Int64), .long (1 : Int64)] [] [.int (b2i r13)] (c_X9_in l G σ (Int32.toInt64 a3) (0 : Int64) (1 : Int64) r13 h13) cw_X9_in q_961 q_960 rfl rfl rfl (Nat.le_of_ble_eq_true rfl) ⟨Nat.le_of_ble_eq_true rfl, Nat.le_of_ble_eq_true rfl⟩ ⟨Nat.le_refl _, Nat.le_refl _⟩ dX9_hold_13 rfl ?_
    refine sm_ifz_ne X 19 25 dX9_hold_16 rfl (by decide) (fun h16 => ?_) (fun h16 => ?_)
    · refine sm_aload_n X 26 0 dX9_hold_25 rfl rfl rfl ?_
      refine sm_getf X 29 82 rfl fd_9_0 rfl dX9_hold_26 rfl q_882 ?_
      refine sm_aload_n X 30 0 dX9_hold_29 rfl rfl rfl ?_
      refine sm_getf X 33 83 rfl fd_9_1 rfl dX9_hold_30 rfl q_883 ?_
      refine sm_bind (fun r33 h33 => ?_)
      refine sm_callS0 X 36 [.ref (gad G 82), .ref (gad G 83)] [] [] (c_X9_copies l G σ 82 rfl 83 rfl r33 h33) cw_X9_copies q_1182 q_1181 rfl rfl rfl (Nat.le_of_ble_eq_true rfl) ⟨Nat.le_of_ble_eq_true rfl, Nat.le_of_ble_eq_true rfl⟩ ⟨Nat.le_refl _, Nat.le_refl _⟩ dX9_hold_33 rfl ?_
      refine sm_aload_n X 37 0 dX9_hold_36 rfl rfl rfl ?_
      refine sm_iload_n X 38 1 dX9_hold_37 rfl rfl rfl ?_
      refine sm_iconst X 39 (2) dX9_hold_38 rfl rfl ?_
      refine sm_bind (fun r39 h39 => ?_)
      refine sm_callV0 X 42 [.int a1, .int 2] [] [.int r39] (c_X9_of l G r33 a1 (2 : Int32) r39 h39) cw_X9_of q_1090 qs_45 q_1088 rfl (by decide) rfl rfl rfl rfl rfl (Nat.le_of_ble_eq_true rfl) ⟨Nat.le_of_ble_eq_true rfl, Nat.le_of_ble_eq_true rfl⟩ ⟨Nat.le_refl _, Nat.le_refl _⟩ dX9_hold_39 rfl ?_
      refine sm_istore X 44 [(4, .int r39), (0, .ref (gad G 81)), (1, .int a1), (2, .int a2), (3, .int a3)] dX9_hold_42 rfl (by decide) rfl ?_
      refine sm_iconst X 45 (-1) dX9_hold_44 rfl rfl ?_
      refine sm_istore X 47 [(5, .int (-1)), (4, .int r39), (0, .ref (gad G 81)), (1, .int a1), (2, .int a2), (3, .int a3)] dX9_hold_45 rfl (by decide) rfl ?_
      refine sm_iconst X 48 (0) dX9_hold_47 rfl rfl ?_
      refine sm_istore X 50 [(6, .int 0), (5, .int (-1)), (4, .int r39), (0, .ref (gad G 81)), (1, .int a1), (2, .int a2), (3, .int a3)] dX9_hold_48 rfl (by decide) rfl ?_
      refine sm_iconst X 51 (0) dX9_hold_50 rfl rfl ?_
      refine sm_istore X 53 [(7, .int 0), (6, .int 0), (5, .int (-1)), (4, .int r39), (0, .ref (gad G 81)), (1, .int a1), (2, .int a2), (3, .int a3)] dX9_hold_51 rfl (by decide) rfl ?_
      exact sm_sub [4, 5, 6, 7, 3, 2, 1, 0] rfl (J53 a1 a2 a3 r39  FU (-1 : Int32) (0 : Int32) (0 : Int32) r33)
    · refine sm_aload_n X 20 0 dX9_hold_19 rfl rfl rfl ?_
      refine sm_iconst X 21 (1) dX9_hold_20 rfl rfl ?_
      refine sm_bind (fun r21 h21 => ?_)
      refine sm_callV0 X 24 [.int 1] [] [.int r21.1] (c_X9_finds l G σ (1 : Int32) r21 h21) cw_X9_finds q_965 qs_26 q_963 rfl (by decide) rfl rfl rfl rfl rfl (Nat.le_of_ble_eq_true rfl) ⟨Nat.le_of_ble_eq_true rfl, Nat.le_of_ble_eq_true rfl⟩ ⟨Nat.le_refl _, Nat.le_refl _⟩ dX9_hold_21 rfl ?_
      exact sm_iret X hr dX9_hold_24 rfl
  · refine sm_aload_n X 20 0 dX9_hold_19 rfl rfl rfl ?_
    refine sm_iconst X 21 (1) dX9_hold_20 rfl rfl ?_
    refine sm_bind (fun r21 h21 => ?_)
    refine sm_callV0 X 24 [.int 1] [] [.int r21.1] (c_X9_finds l G σ (1 : Int32) r21 h21) cw_X9_finds q_965 qs_26 q_963 rfl (by decide) rfl rfl rfl rfl rfl (Nat.le_of_ble_eq_true rfl) ⟨Nat.le_of_ble_eq_true rfl, Nat.le_of_ble_eq_true rfl⟩ ⟨Nat.le_refl _, Nat.le_refl _⟩ dX9_hold_21 rfl ?_
    exact sm_iret X hr dX9_hold_24 rfl
def by_X9_ask_0 : List Nat := [42, 27, 28, 182, 0, 207, 154, 0, 9, 42, 4, 182, 0, 126, 172, 42]
def by_X9_ask_1 : List Nat := [180, 0, 7, 16, 6, 46, 62, 16, 9, 54, 4, 3, 54, 5, 16, 253]
def by_X9_ask_2 : List Nat := [54, 6, 21, 6, 6, 163, 0, 62, 42, 180, 0, 7, 16, 6, 21, 6]
def by_X9_ask_3 : List Nat := [79, 42, 27, 28, 182, 0, 213, 153, 0, 38, 21, 4, 16, 9, 159, 0]
def by_X9_ask_4 : List Nat := [21, 42, 27, 5, 182, 0, 172, 42, 180, 0, 204, 21, 5, 184, 0, 242]
def by_X9_ask_5 : List Nat := [153, 0, 13, 21, 6, 54, 4, 42, 180, 0, 204, 54, 5, 132, 6, 1]
def by_X9_ask_6 : List Nat := [167, 255, 194, 42, 180, 0, 7, 16, 6, 29, 79, 21, 4, 16, 9, 160]
def by_X9_ask_z : List Nat := [0, 11, 42, 5, 182, 0, 126, 167, 0, 5, 21, 4, 172]
def by_X9_ask : List (List Nat) := [by_X9_ask_0, by_X9_ask_1, by_X9_ask_2, by_X9_ask_3, by_X9_ask_4, by_X9_ask_5, by_X9_ask_6]
set_option maxRecDepth 100000 in
theorem byo_X9_ask : cX9_ask.data.toList.map UInt8.toNat = by_X9_ask.flatten ++ by_X9_ask_z := by decide +kernel
theorem byl_X9_ask : by_X9_ask.all (fun r => r.length == 16) = true := by decide +kernel
theorem byr_X9_ask_0 {j v : Nat} (h : by_X9_ask_0[j]? = some v) : RD cX9_ask (0 + j) v := rd_16 byo_X9_ask byl_X9_ask 0 rfl h
theorem byr_X9_ask_1 {j v : Nat} (h : by_X9_ask_1[j]? = some v) : RD cX9_ask (16 + j) v := rd_16 byo_X9_ask byl_X9_ask 1 rfl h
theorem byr_X9_ask_2 {j v : Nat} (h : by_X9_ask_2[j]? = some v) : RD cX9_ask (32 + j) v := rd_16 byo_X9_ask byl_X9_ask 2 rfl h
theorem byr_X9_ask_3 {j v : Nat} (h : by_X9_ask_3[j]? = some v) : RD cX9_ask (48 + j) v := rd_16 byo_X9_ask byl_X9_ask 3 rfl h
theorem byr_X9_ask_4 {j v : Nat} (h : by_X9_ask_4[j]? = some v) : RD cX9_ask (64 + j) v := rd_16 byo_X9_ask byl_X9_ask 4 rfl h
theorem byr_X9_ask_5 {j v : Nat} (h : by_X9_ask_5[j]? = some v) : RD cX9_ask (80 + j) v := rd_16 byo_X9_ask byl_X9_ask 5 rfl h
theorem byr_X9_ask_6 {j v : Nat} (h : by_X9_ask_6[j]? = some v) : RD cX9_ask (96 + j) v := rd_16 byo_X9_ask byl_X9_ask 6 rfl h
theorem byr_X9_ask_7 {j v : Nat} (h : by_X9_ask_z[j]? = some v) : RD cX9_ask (112 + j) v := rd_z byo_X9_ask byl_X9_ask 7 rfl h
theorem dX9_ask_0 : decode cX9_ask 0 = .ok (.aload_n 0, 1) := dk_42 (byr_X9_ask_0 (j := 0) rfl)
theorem dX9_ask_1 : decode cX9_ask 1 = .ok (.iload_n 1, 1) := dk_27 (byr_X9_ask_0 (j := 1) rfl)
theorem dX9_ask_2 : decode cX9_ask 2 = .ok (.iload_n 2, 1) := dk_28 (byr_X9_ask_0 (j := 2) rfl)
theorem dX9_ask_3 : decode cX9_ask 3 = .ok (.invokevirtual 207, 3) := dk_182 (byr_X9_ask_0 (j := 3) rfl) (byr_X9_ask_0 (j := 4) rfl) (byr_X9_ask_0 (j := 5) rfl) (by decide)
theorem dX9_ask_6 : decode cX9_ask 6 = .ok (.ifCond .ne 9, 3) := dk_154 (byr_X9_ask_0 (j := 6) rfl) (byr_X9_ask_0 (j := 7) rfl) (byr_X9_ask_0 (j := 8) rfl) (by decide)
theorem dX9_ask_9 : decode cX9_ask 9 = .ok (.aload_n 0, 1) := dk_42 (byr_X9_ask_0 (j := 9) rfl)
theorem dX9_ask_10 : decode cX9_ask 10 = .ok (.iconst 1, 1) := dk_4 (byr_X9_ask_0 (j := 10) rfl)
theorem dX9_ask_11 : decode cX9_ask 11 = .ok (.invokevirtual 126, 3) := dk_182 (byr_X9_ask_0 (j := 11) rfl) (byr_X9_ask_0 (j := 12) rfl) (byr_X9_ask_0 (j := 13) rfl) (by decide)
theorem dX9_ask_14 : decode cX9_ask 14 = .ok (.ireturn, 1) := dk_172 (byr_X9_ask_0 (j := 14) rfl)
theorem dX9_ask_15 : decode cX9_ask 15 = .ok (.aload_n 0, 1) := dk_42 (byr_X9_ask_0 (j := 15) rfl)
theorem dX9_ask_16 : decode cX9_ask 16 = .ok (.getfield 7, 3) := dk_180 (byr_X9_ask_1 (j := 0) rfl) (byr_X9_ask_1 (j := 1) rfl) (byr_X9_ask_1 (j := 2) rfl) (by decide)
theorem dX9_ask_19 : decode cX9_ask 19 = .ok (.bipush 6, 2) := dk_16 (byr_X9_ask_1 (j := 3) rfl) (byr_X9_ask_1 (j := 4) rfl) (by decide)
theorem dX9_ask_21 : decode cX9_ask 21 = .ok (.iaload, 1) := dk_46 (byr_X9_ask_1 (j := 5) rfl)
theorem dX9_ask_22 : decode cX9_ask 22 = .ok (.istore_n 3, 1) := dk_62 (byr_X9_ask_1 (j := 6) rfl)
theorem dX9_ask_23 : decode cX9_ask 23 = .ok (.bipush 9, 2) := dk_16 (byr_X9_ask_1 (j := 7) rfl) (byr_X9_ask_1 (j := 8) rfl) (by decide)
theorem dX9_ask_25 : decode cX9_ask 25 = .ok (.istore 4, 2) := dk_54 (byr_X9_ask_1 (j := 9) rfl) (byr_X9_ask_1 (j := 10) rfl)
theorem dX9_ask_27 : decode cX9_ask 27 = .ok (.iconst 0, 1) := dk_3 (byr_X9_ask_1 (j := 11) rfl)
theorem dX9_ask_28 : decode cX9_ask 28 = .ok (.istore 5, 2) := dk_54 (byr_X9_ask_1 (j := 12) rfl) (byr_X9_ask_1 (j := 13) rfl)
theorem dX9_ask_30 : decode cX9_ask 30 = .ok (.bipush (-3), 2) := dk_16 (byr_X9_ask_1 (j := 14) rfl) (byr_X9_ask_1 (j := 15) rfl) (by decide)
theorem dX9_ask_32 : decode cX9_ask 32 = .ok (.istore 6, 2) := dk_54 (byr_X9_ask_2 (j := 0) rfl) (byr_X9_ask_2 (j := 1) rfl)
theorem dX9_ask_34 : decode cX9_ask 34 = .ok (.iload 6, 2) := dk_21 (byr_X9_ask_2 (j := 2) rfl) (byr_X9_ask_2 (j := 3) rfl)
theorem dX9_ask_36 : decode cX9_ask 36 = .ok (.iconst 3, 1) := dk_6 (byr_X9_ask_2 (j := 4) rfl)
theorem dX9_ask_37 : decode cX9_ask 37 = .ok (.if_icmp .gt 62, 3) := dk_163 (byr_X9_ask_2 (j := 5) rfl) (byr_X9_ask_2 (j := 6) rfl) (byr_X9_ask_2 (j := 7) rfl) (by decide)
theorem dX9_ask_40 : decode cX9_ask 40 = .ok (.aload_n 0, 1) := dk_42 (byr_X9_ask_2 (j := 8) rfl)
theorem dX9_ask_41 : decode cX9_ask 41 = .ok (.getfield 7, 3) := dk_180 (byr_X9_ask_2 (j := 9) rfl) (byr_X9_ask_2 (j := 10) rfl) (byr_X9_ask_2 (j := 11) rfl) (by decide)
theorem dX9_ask_44 : decode cX9_ask 44 = .ok (.bipush 6, 2) := dk_16 (byr_X9_ask_2 (j := 12) rfl) (byr_X9_ask_2 (j := 13) rfl) (by decide)
theorem dX9_ask_46 : decode cX9_ask 46 = .ok (.iload 6, 2) := dk_21 (byr_X9_ask_2 (j := 14) rfl) (byr_X9_ask_2 (j := 15) rfl)
theorem dX9_ask_48 : decode cX9_ask 48 = .ok (.iastore, 1) := dk_79 (byr_X9_ask_3 (j := 0) rfl)
theorem dX9_ask_49 : decode cX9_ask 49 = .ok (.aload_n 0, 1) := dk_42 (byr_X9_ask_3 (j := 1) rfl)
theorem dX9_ask_50 : decode cX9_ask 50 = .ok (.iload_n 1, 1) := dk_27 (byr_X9_ask_3 (j := 2) rfl)
theorem dX9_ask_51 : decode cX9_ask 51 = .ok (.iload_n 2, 1) := dk_28 (byr_X9_ask_3 (j := 3) rfl)
theorem dX9_ask_52 : decode cX9_ask 52 = .ok (.invokevirtual 213, 3) := dk_182 (byr_X9_ask_3 (j := 4) rfl) (byr_X9_ask_3 (j := 5) rfl) (byr_X9_ask_3 (j := 6) rfl) (by decide)
theorem dX9_ask_55 : decode cX9_ask 55 = .ok (.ifCond .eq 38, 3) := dk_153 (byr_X9_ask_3 (j := 7) rfl) (byr_X9_ask_3 (j := 8) rfl) (byr_X9_ask_3 (j := 9) rfl) (by decide)
theorem dX9_ask_58 : decode cX9_ask 58 = .ok (.iload 4, 2) := dk_21 (byr_X9_ask_3 (j := 10) rfl) (byr_X9_ask_3 (j := 11) rfl)
theorem dX9_ask_60 : decode cX9_ask 60 = .ok (.bipush 9, 2) := dk_16 (byr_X9_ask_3 (j := 12) rfl) (byr_X9_ask_3 (j := 13) rfl) (by decide)
theorem dX9_ask_62 : decode cX9_ask 62 = .ok (.if_icmp .eq 21, 3) := dk_159 (byr_X9_ask_3 (j := 14) rfl) (byr_X9_ask_3 (j := 15) rfl) (byr_X9_ask_4 (j := 0) rfl) (by decide)
theorem dX9_ask_65 : decode cX9_ask 65 = .ok (.aload_n 0, 1) := dk_42 (byr_X9_ask_4 (j := 1) rfl)
theorem dX9_ask_66 : decode cX9_ask 66 = .ok (.iload_n 1, 1) := dk_27 (byr_X9_ask_4 (j := 2) rfl)
theorem dX9_ask_67 : decode cX9_ask 67 = .ok (.iconst 2, 1) := dk_5 (byr_X9_ask_4 (j := 3) rfl)
theorem dX9_ask_68 : decode cX9_ask 68 = .ok (.invokevirtual 172, 3) := dk_182 (byr_X9_ask_4 (j := 4) rfl) (byr_X9_ask_4 (j := 5) rfl) (byr_X9_ask_4 (j := 6) rfl) (by decide)
theorem dX9_ask_71 : decode cX9_ask 71 = .ok (.aload_n 0, 1) := dk_42 (byr_X9_ask_4 (j := 7) rfl)
theorem dX9_ask_72 : decode cX9_ask 72 = .ok (.getfield 204, 3) := dk_180 (byr_X9_ask_4 (j := 8) rfl) (byr_X9_ask_4 (j := 9) rfl) (byr_X9_ask_4 (j := 10) rfl) (by decide)
theorem dX9_ask_75 : decode cX9_ask 75 = .ok (.iload 5, 2) := dk_21 (byr_X9_ask_4 (j := 11) rfl) (byr_X9_ask_4 (j := 12) rfl)
theorem dX9_ask_77 : decode cX9_ask 77 = .ok (.invokestatic 242, 3) := dk_184 (byr_X9_ask_4 (j := 13) rfl) (byr_X9_ask_4 (j := 14) rfl) (byr_X9_ask_4 (j := 15) rfl) (by decide)
theorem dX9_ask_80 : decode cX9_ask 80 = .ok (.ifCond .eq 13, 3) := dk_153 (byr_X9_ask_5 (j := 0) rfl) (byr_X9_ask_5 (j := 1) rfl) (byr_X9_ask_5 (j := 2) rfl) (by decide)
theorem dX9_ask_83 : decode cX9_ask 83 = .ok (.iload 6, 2) := dk_21 (byr_X9_ask_5 (j := 3) rfl) (byr_X9_ask_5 (j := 4) rfl)
theorem dX9_ask_85 : decode cX9_ask 85 = .ok (.istore 4, 2) := dk_54 (byr_X9_ask_5 (j := 5) rfl) (byr_X9_ask_5 (j := 6) rfl)
theorem dX9_ask_87 : decode cX9_ask 87 = .ok (.aload_n 0, 1) := dk_42 (byr_X9_ask_5 (j := 7) rfl)
theorem dX9_ask_88 : decode cX9_ask 88 = .ok (.getfield 204, 3) := dk_180 (byr_X9_ask_5 (j := 8) rfl) (byr_X9_ask_5 (j := 9) rfl) (byr_X9_ask_5 (j := 10) rfl) (by decide)
theorem dX9_ask_91 : decode cX9_ask 91 = .ok (.istore 5, 2) := dk_54 (byr_X9_ask_5 (j := 11) rfl) (byr_X9_ask_5 (j := 12) rfl)
theorem dX9_ask_93 : decode cX9_ask 93 = .ok (.iinc 6 1, 3) := dk_132 (byr_X9_ask_5 (j := 13) rfl) (byr_X9_ask_5 (j := 14) rfl) (byr_X9_ask_5 (j := 15) rfl) (by decide)
theorem dX9_ask_96 : decode cX9_ask 96 = .ok (.goto (-62), 3) := dk_167 (byr_X9_ask_6 (j := 0) rfl) (byr_X9_ask_6 (j := 1) rfl) (byr_X9_ask_6 (j := 2) rfl) (by decide)
theorem dX9_ask_99 : decode cX9_ask 99 = .ok (.aload_n 0, 1) := dk_42 (byr_X9_ask_6 (j := 3) rfl)
theorem dX9_ask_100 : decode cX9_ask 100 = .ok (.getfield 7, 3) := dk_180 (byr_X9_ask_6 (j := 4) rfl) (byr_X9_ask_6 (j := 5) rfl) (byr_X9_ask_6 (j := 6) rfl) (by decide)
theorem dX9_ask_103 : decode cX9_ask 103 = .ok (.bipush 6, 2) := dk_16 (byr_X9_ask_6 (j := 7) rfl) (byr_X9_ask_6 (j := 8) rfl) (by decide)
theorem dX9_ask_105 : decode cX9_ask 105 = .ok (.iload_n 3, 1) := dk_29 (byr_X9_ask_6 (j := 9) rfl)
theorem dX9_ask_106 : decode cX9_ask 106 = .ok (.iastore, 1) := dk_79 (byr_X9_ask_6 (j := 10) rfl)
theorem dX9_ask_107 : decode cX9_ask 107 = .ok (.iload 4, 2) := dk_21 (byr_X9_ask_6 (j := 11) rfl) (byr_X9_ask_6 (j := 12) rfl)
theorem dX9_ask_109 : decode cX9_ask 109 = .ok (.bipush 9, 2) := dk_16 (byr_X9_ask_6 (j := 13) rfl) (byr_X9_ask_6 (j := 14) rfl) (by decide)
theorem dX9_ask_111 : decode cX9_ask 111 = .ok (.if_icmp .ne 11, 3) := dk_160 (byr_X9_ask_6 (j := 15) rfl) (byr_X9_ask_7 (j := 0) rfl) (byr_X9_ask_7 (j := 1) rfl) (by decide)
theorem dX9_ask_114 : decode cX9_ask 114 = .ok (.aload_n 0, 1) := dk_42 (byr_X9_ask_7 (j := 2) rfl)
theorem dX9_ask_115 : decode cX9_ask 115 = .ok (.iconst 2, 1) := dk_5 (byr_X9_ask_7 (j := 3) rfl)
theorem dX9_ask_116 : decode cX9_ask 116 = .ok (.invokevirtual 126, 3) := dk_182 (byr_X9_ask_7 (j := 4) rfl) (byr_X9_ask_7 (j := 5) rfl) (byr_X9_ask_7 (j := 6) rfl) (by decide)
theorem dX9_ask_119 : decode cX9_ask 119 = .ok (.goto 5, 3) := dk_167 (byr_X9_ask_7 (j := 7) rfl) (byr_X9_ask_7 (j := 8) rfl) (byr_X9_ask_7 (j := 9) rfl) (by decide)
theorem dX9_ask_122 : decode cX9_ask 122 = .ok (.iload 4, 2) := dk_21 (byr_X9_ask_7 (j := 10) rfl) (byr_X9_ask_7 (j := 11) rfl)
theorem dX9_ask_124 : decode cX9_ask 124 = .ok (.ireturn, 1) := dk_172 (byr_X9_ask_7 (j := 12) rfl)
set_option maxHeartbeats 4000000 in
set_option maxRecDepth 100000 in
theorem c_X9_ask (l : Launch) (G : GT) (σ : Sto) (a1 : Int32) (a2 : Int32) (r : (Int32 × Sto)) (h : f_X9_ask σ a1 a2 = some r) : MW l G (8) (208) 0 0 yX9_ask cX9_ask 7 (Option.some Jvm.ClassFile.FieldType.int) [.ref (gad G 81), .int a1, .int a2] (wl G σ) (some (.int r.1)) (wl G r.2) := by
  refine mw_of RX9 (fiI G) [(0, .ref (gad G 81)), (1, .int a1), (2, .int a2)] (by decide +kernel) rfl (Nat.le_of_ble_eq_true rfl) rfl h rfl (fun p e s m args below meth c X hr hnm => ?_)
  have J93 : ∀ (v1 : Int32) (v2 : Int32) (v3 : Int32) (v4 : Int32) (v5 : Int32) (v6 : Int32) (K34 : Int32 → Int32 → Int32 → Sto → Option (Int32 × Sto)) (hK34 : ∀ (v4' : Int32) (v5' : Int32) (v6' : Int32) (σ' : Sto), Sm p l e { frames := 8, cells := 0, slots := 0, locals := 208 } s m args below meth c G 7 (Qm below args s G 0 0 (fiI G)) 0 0 (wl G σ') 34 [(0, .ref (gad G 81)), (1, .int v1), (2, .int v2), (3, .int v3), (4, .int v4'), (5, .int v5'), (6, .int v6')] [] (K34 v4' v5' v6' σ')) (σ : Sto), Sm p l e { frames := 8, cells := 0, slots := 0, locals := 208 } s m args below meth c G 7 (Qm below args s G 0 0 (fiI G)) 0 0 (wl G σ) 93 [(0, .ref (gad G 81)), (1, .int v1), (2, .int v2), (3, .int v3), (4, .int v4), (5, .int v5), (6, .int v6)] [] (f_X9_ask_L93 K34 v1 v2 v3 v4 v5 v6 σ) := by
    intro v1 v2 v3 v4 v5 v6 K34 hK34 σ
    rw [f_X9_ask_L93]
    refine sm_iinc X 96 6 (1 : Int32) [(6, .int (v6 + (1 : Int32))), (0, .ref (gad G 81)), (1, .int v1), (2, .int v2), (3, .int v3), (4, .int v4), (5, .int v5)] dX9_ask_93 rfl rfl rfl (by decide) rfl ?_
    refine sm_goto X 34 dX9_ask_96 (by decide) ?_
    exact sm_sub [1, 2, 3, 4, 5, 6, 0] rfl (hK34 v4 v5 (v6 + (1 : Int32)) σ)
  have J83 : ∀ (v1 : Int32) (v2 : Int32) (v3 : Int32) (v6 : Int32) (K34 : Int32 → Int32 → Int32 → Sto → Option (Int32 × Sto)) (hK34 : ∀ (v4' : Int32) (v5' : Int32) (v6' : Int32) (σ' : Sto), Sm p l e { frames := 8, cells := 0, slots := 0, locals := 208 } s m args below meth c G 7 (Qm below args s G 0 0 (fiI G)) 0 0 (wl G σ') 34 [(0, .ref (gad G 81)), (1, .int v1), (2, .int v2), (3, .int v3), (4, .int v4'), (5, .int v5'), (6, .int v6')] [] (K34 v4' v5' v6' σ')) (σ : Sto), Sm p l e { frames := 8, cells := 0, slots := 0, locals := 208 } s m args below meth c G 7 (Qm below args s G 0 0 (fiI G)) 0 0 (wl G σ) 83 [(0, .ref (gad G 81)), (1, .int v1), (2, .int v2), (3, .int v3), (6, .int v6)] [] (f_X9_ask_L83 K34 v1 v2 v3 v6 σ) := by
    intro v1 v2 v3 v6 K34 hK34 σ
    rw [f_X9_ask_L83]
    refine sm_iload X 85 4 dX9_ask_83 rfl rfl ?_
    refine sm_istore X 87 [(4, .int v6), (0, .ref (gad G 81)), (1, .int v1), (2, .int v2), (3, .int v3), (6, .int v6)] dX9_ask_85 rfl (by decide) rfl ?_
    refine sm_aload_n X 88 1 dX9_ask_87 rfl rfl rfl ?_
    refine sm_geti X 91 rfl fd_9_16 dX9_ask_88 rfl q_898 ?_
    refine sm_istore X 93 [(5, .int (σ.1 81 16)), (4, .int v6), (0, .ref (gad G 81)), (1, .int v1), (2, .int v2), (3, .int v3), (6, .int v6)] dX9_ask_91 rfl (by decide) rfl ?_
    exact sm_sub [2, 3, 4, 5, 1, 0, 6] rfl (J93 v1 v2 v3 v6 (σ.1 81 16) v6 K34 hK34 σ)
  have J34 : ∀ (v1 : Int32) (v2 : Int32) (v3 : Int32)  (n : Nat) (v4 : Int32) (v5 : Int32) (v6 : Int32) (σ : Sto), Sm p l e { frames := 8, cells := 0, slots := 0, locals := 208 } s m args below meth c G 7 (Qm below args s G 0 0 (fiI G)) 0 0 (wl G σ) 34 [(0, .ref (gad G 81)), (1, .int v1), (2, .int v2), (3, .int v3), (4, .int v4), (5, .int v5), (6, .int v6)] [] (f_X9_ask_L34  v1 v2 v3 n v4 v5 v6 σ) := by
    intro v1 v2 v3 n
    induction n with
    | zero => intro v4 v5 v6 σ; rw [f_X9_ask_L34]; exact sm_none
    | succ n ihl =>
      intro v4 v5 v6 σ
      rw [f_X9_ask_L34]
      refine sm_iload X 36 6 dX9_ask_34 rfl rfl ?_
      refine sm_iconst X 37 (3) dX9_ask_36 rfl rfl ?_
      refine sm_icmp_gt X 40 99 dX9_ask_37 rfl (by decide) (fun h37 => ?_) (fun h37 => ?_)
      · refine sm_aload_n X 100 0 dX9_ask_99 rfl rfl rfl ?_
        refine sm_getf X 103 82 rfl fd_9_0 rfl dX9_ask_100 rfl q_882 ?_
        refine sm_bipush X 105 (6) dX9_ask_103 rfl rfl ?_
        refine sm_iload_n X 106 3 dX9_ask_105 rfl rfl rfl ?_
        refine sm_iast X 107 rfl dX9_ask_106 rfl (fun σ106 e106 => ?_)
        clear e106
        refine sm_iload X 109 4 dX9_ask_107 rfl rfl ?_
        refine sm_bipush X 111 (9) dX9_ask_109 rfl rfl ?_
        refine sm_icmp_ne X 114 122 dX9_ask_111 rfl (by decide) (fun h111 => ?_) (fun h111 => ?_)
        · refine sm_aload_n X 115 0 dX9_ask_114 rfl rfl rfl ?_
          refine sm_iconst X 116 (2) dX9_ask_115 rfl rfl ?_
          refine sm_bind (fun r116 h116 => ?_)
          refine sm_callV0 X 119 [.int 2] [] [.int r116.1] (c_X9_finds l G σ106 (2 : Int32) r116 h116) cw_X9_finds q_965 qs_26 q_963 rfl (by decide) rfl rfl rfl rfl rfl (Nat.le_of_ble_eq_true rfl) ⟨Nat.le_of_ble_eq_true rfl, Nat.le_of_ble_eq_true rfl⟩ ⟨Nat.le_refl _, Nat.le_refl _⟩ dX9_ask_116 rfl ?_
          refine sm_goto X 124 dX9_ask_119 (by decide) ?_
          exact sm_iret X hr dX9_ask_124 rfl
        · refine sm_iload X 124 4 dX9_ask_122 rfl rfl ?_
          exact sm_iret X hr dX9_ask_124 rfl
      · refine sm_aload_n X 41 0 dX9_ask_40 rfl rfl rfl ?_
        refine sm_getf X 44 82 rfl fd_9_0 rfl dX9_ask_41 rfl q_882 ?_
        refine sm_bipush X 46 (6) dX9_ask_44 rfl rfl ?_
        refine sm_iload X 48 6 dX9_ask_46 rfl rfl ?_
        refine sm_iast X 49 rfl dX9_ask_48 rfl (fun σ48 e48 => ?_)
        clear e48
        refine sm_aload_n X 50 0 dX9_ask_49 rfl rfl rfl ?_
        refine sm_iload_n X 51 1 dX9_ask_50 rfl rfl rfl ?_
        refine sm_iload_n X 52 2 dX9_ask_51 rfl rfl rfl ?_
        refine sm_bind (fun r52 h52 => ?_)
        refine sm_callV0 X 55 [.int v1, .int v2] [] [.int (b2i r52.1)] (c_X9_swim l G σ48 v1 v2 r52 h52) cw_X9_swim q_1152 qs_50 q_1150 rfl (by decide) rfl rfl rfl rfl rfl (Nat.le_of_ble_eq_true rfl) ⟨Nat.le_of_ble_eq_true rfl, Nat.le_of_ble_eq_true rfl⟩ ⟨Nat.le_refl _, Nat.le_refl _⟩ dX9_ask_52 rfl ?_
        refine sm_ifz_eq X 58 93 dX9_ask_55 rfl (by decide) (fun h55 => ?_) (fun h55 => ?_)
        · refine sm_iload X 60 4 dX9_ask_58 rfl rfl ?_
          refine sm_bipush X 62 (9) dX9_ask_60 rfl rfl ?_
          refine sm_icmp_eq X 65 83 dX9_ask_62 rfl (by decide) (fun h62 => ?_) (fun h62 => ?_)
          · exact sm_sub [0, 1, 2, 3, 6] rfl (J83 v1 v2 v3 v6 (f_X9_ask_L34  v1 v2 v3 n) ihl r52.2)
          · refine sm_aload_n X 66 0 dX9_ask_65 rfl rfl rfl ?_
            refine sm_iload_n X 67 1 dX9_ask_66 rfl rfl rfl ?_
            refine sm_iconst X 68 (2) dX9_ask_67 rfl rfl ?_
            refine sm_bind (fun r68 h68 => ?_)
            refine sm_callV0 X 71 [.int v1, .int 2] [] [.int r68] (c_X9_of l G r52.2 v1 (2 : Int32) r68 h68) cw_X9_of q_1090 qs_45 q_1088 rfl (by decide) rfl rfl rfl rfl rfl (Nat.le_of_ble_eq_true rfl) ⟨Nat.le_of_ble_eq_true rfl, Nat.le_of_ble_eq_true rfl⟩ ⟨Nat.le_refl _, Nat.le_refl _⟩ dX9_ask_68 rfl ?_
            refine sm_aload_n X 72 0 dX9_ask_71 rfl rfl rfl ?_
            refine sm_geti X 75 rfl fd_9_16 dX9_ask_72 rfl q_898 ?_
            refine sm_iload X 77 5 dX9_ask_75 rfl rfl ?_
            refine sm_bind (fun r77 h77 => ?_)
            refine sm_callS0 X 80 [.int r68, .int (r52.2.1 81 16), .int v5] [] [.int (b2i r77)] (c_X9_isBetter l G r52.2 r68 (r52.2.1 81 16) v5 r77 h77) cw_X9_isBetter q_1192 q_1191 rfl rfl rfl (Nat.le_of_ble_eq_true rfl) ⟨Nat.le_of_ble_eq_true rfl, Nat.le_of_ble_eq_true rfl⟩ ⟨Nat.le_refl _, Nat.le_refl _⟩ dX9_ask_77 rfl ?_
            refine sm_ifz_eq X 83 93 dX9_ask_80 rfl (by decide) (fun h80 => ?_) (fun h80 => ?_)
            · exact sm_sub [0, 1, 2, 3, 6] rfl (J83 v1 v2 v3 v6 (f_X9_ask_L34  v1 v2 v3 n) ihl r52.2)
            · exact sm_sub [0, 1, 2, 3, 4, 5, 6] rfl (J93 v1 v2 v3 v4 v5 v6 (f_X9_ask_L34  v1 v2 v3 n) ihl r52.2)
        · exact sm_sub [0, 1, 2, 3, 4, 5, 6] rfl (J93 v1 v2 v3 v4 v5 v6 (f_X9_ask_L34  v1 v2 v3 n) ihl r52.2)
  unfold f_X9_ask
  refine sm_aload_n X 1 0 dX9_ask_0 rfl rfl rfl ?_
  refine sm_iload_n X 2 1 dX9_ask_1 rfl rfl rfl ?_
  refine sm_iload_n X 3 2 dX9_ask_2 rfl rfl rfl ?_
  refine sm_bind (fun r3 h3 => ?_)
  refine sm_callV0 X 6 [.int a1, .int a2] [] [.int (b2i r3)] (c_X9_areUnlike l G σ a1 a2 r3 h3) cw_X9_areUnlike q_1147 qs_49 q_1145 rfl (by decide) rfl rfl rfl rfl rfl (Nat.le_of_ble_eq_true rfl) ⟨Nat.le_of_ble_eq_true rfl, Nat.le_of_ble_eq_true rfl⟩ ⟨Nat.le_refl _, Nat.le_refl _⟩ dX9_ask_3 rfl ?_
  refine sm_ifz_ne X 9 15 dX9_ask_6 rfl (by decide) (fun h6 => ?_) (fun h6 => ?_)
  · refine sm_aload_n X 16 0 dX9_ask_15 rfl rfl rfl ?_
    refine sm_getf X 19 82 rfl fd_9_0 rfl dX9_ask_16 rfl q_882 ?_
    refine sm_bipush X 21 (6) dX9_ask_19 rfl rfl ?_
    refine sm_iald X 22 rfl dX9_ask_21 rfl (fun r21 e21 => ?_)
    clear e21
    refine sm_istore_n X 23 [(3, .int r21), (0, .ref (gad G 81)), (1, .int a1), (2, .int a2)] dX9_ask_22 rfl rfl (by decide) rfl ?_
    refine sm_bipush X 25 (9) dX9_ask_23 rfl rfl ?_
    refine sm_istore X 27 [(4, .int 9), (3, .int r21), (0, .ref (gad G 81)), (1, .int a1), (2, .int a2)] dX9_ask_25 rfl (by decide) rfl ?_
    refine sm_iconst X 28 (0) dX9_ask_27 rfl rfl ?_
    refine sm_istore X 30 [(5, .int 0), (4, .int 9), (3, .int r21), (0, .ref (gad G 81)), (1, .int a1), (2, .int a2)] dX9_ask_28 rfl (by decide) rfl ?_
    refine sm_bipush X 32 (-3) dX9_ask_30 rfl rfl ?_
    refine sm_istore X 34 [(6, .int (-3)), (5, .int 0), (4, .int 9), (3, .int r21), (0, .ref (gad G 81)), (1, .int a1), (2, .int a2)] dX9_ask_32 rfl (by decide) rfl ?_
    exact sm_sub [4, 5, 6, 3, 2, 1, 0] rfl (J34 a1 a2 r21  FU (9 : Int32) (0 : Int32) (-3 : Int32) σ)
  · refine sm_aload_n X 10 0 dX9_ask_9 rfl rfl rfl ?_
    refine sm_iconst X 11 (1) dX9_ask_10 rfl rfl ?_
    refine sm_bind (fun r11 h11 => ?_)
    refine sm_callV0 X 14 [.int 1] [] [.int r11.1] (c_X9_finds l G σ (1 : Int32) r11 h11) cw_X9_finds q_965 qs_26 q_963 rfl (by decide) rfl rfl rfl rfl rfl (Nat.le_of_ble_eq_true rfl) ⟨Nat.le_of_ble_eq_true rfl, Nat.le_of_ble_eq_true rfl⟩ ⟨Nat.le_refl _, Nat.le_refl _⟩ dX9_ask_11 rfl ?_
    exact sm_iret X hr dX9_ask_14 rfl
def by_X9_leastSight_0 : List Nat := [42, 27, 28, 182, 0, 207, 154, 0, 9, 42, 4, 182, 0, 126, 172, 42]
def by_X9_leastSight_1 : List Nat := [180, 0, 7, 16, 7, 46, 62, 3, 54, 4, 42, 180, 0, 7, 16, 7]
def by_X9_leastSight_2 : List Nat := [3, 79, 21, 4, 17, 0, 201, 162, 0, 27, 42, 27, 28, 182, 0, 213]
def by_X9_leastSight_3 : List Nat := [154, 0, 18, 132, 4, 1, 42, 180, 0, 7, 16, 7, 21, 4, 79, 167]
def by_X9_leastSight_4 : List Nat := [255, 227, 42, 180, 0, 7, 16, 7, 29, 79, 21, 4, 17, 0, 200, 164]
def by_X9_leastSight_z : List Nat := [0, 11, 42, 5, 182, 0, 126, 167, 0, 5, 21, 4, 172]
def by_X9_leastSight : List (List Nat) := [by_X9_leastSight_0, by_X9_leastSight_1, by_X9_leastSight_2, by_X9_leastSight_3, by_X9_leastSight_4]
set_option maxRecDepth 100000 in
theorem byo_X9_leastSight : cX9_leastSight.data.toList.map UInt8.toNat = by_X9_leastSight.flatten ++ by_X9_leastSight_z := by decide +kernel
theorem byl_X9_leastSight : by_X9_leastSight.all (fun r => r.length == 16) = true := by decide +kernel
theorem byr_X9_leastSight_0 {j v : Nat} (h : by_X9_leastSight_0[j]? = some v) : RD cX9_leastSight (0 + j) v := rd_16 byo_X9_leastSight byl_X9_leastSight 0 rfl h
theorem byr_X9_leastSight_1 {j v : Nat} (h : by_X9_leastSight_1[j]? = some v) : RD cX9_leastSight (16 + j) v := rd_16 byo_X9_leastSight byl_X9_leastSight 1 rfl h
theorem byr_X9_leastSight_2 {j v : Nat} (h : by_X9_leastSight_2[j]? = some v) : RD cX9_leastSight (32 + j) v := rd_16 byo_X9_leastSight byl_X9_leastSight 2 rfl h
theorem byr_X9_leastSight_3 {j v : Nat} (h : by_X9_leastSight_3[j]? = some v) : RD cX9_leastSight (48 + j) v := rd_16 byo_X9_leastSight byl_X9_leastSight 3 rfl h
theorem byr_X9_leastSight_4 {j v : Nat} (h : by_X9_leastSight_4[j]? = some v) : RD cX9_leastSight (64 + j) v := rd_16 byo_X9_leastSight byl_X9_leastSight 4 rfl h
theorem byr_X9_leastSight_5 {j v : Nat} (h : by_X9_leastSight_z[j]? = some v) : RD cX9_leastSight (80 + j) v := rd_z byo_X9_leastSight byl_X9_leastSight 5 rfl h
theorem dX9_leastSight_0 : decode cX9_leastSight 0 = .ok (.aload_n 0, 1) := dk_42 (byr_X9_leastSight_0 (j := 0) rfl)
theorem dX9_leastSight_1 : decode cX9_leastSight 1 = .ok (.iload_n 1, 1) := dk_27 (byr_X9_leastSight_0 (j := 1) rfl)
theorem dX9_leastSight_2 : decode cX9_leastSight 2 = .ok (.iload_n 2, 1) := dk_28 (byr_X9_leastSight_0 (j := 2) rfl)
theorem dX9_leastSight_3 : decode cX9_leastSight 3 = .ok (.invokevirtual 207, 3) := dk_182 (byr_X9_leastSight_0 (j := 3) rfl) (byr_X9_leastSight_0 (j := 4) rfl) (byr_X9_leastSight_0 (j := 5) rfl) (by decide)
theorem dX9_leastSight_6 : decode cX9_leastSight 6 = .ok (.ifCond .ne 9, 3) := dk_154 (byr_X9_leastSight_0 (j := 6) rfl) (byr_X9_leastSight_0 (j := 7) rfl) (byr_X9_leastSight_0 (j := 8) rfl) (by decide)
theorem dX9_leastSight_9 : decode cX9_leastSight 9 = .ok (.aload_n 0, 1) := dk_42 (byr_X9_leastSight_0 (j := 9) rfl)
theorem dX9_leastSight_10 : decode cX9_leastSight 10 = .ok (.iconst 1, 1) := dk_4 (byr_X9_leastSight_0 (j := 10) rfl)
theorem dX9_leastSight_11 : decode cX9_leastSight 11 = .ok (.invokevirtual 126, 3) := dk_182 (byr_X9_leastSight_0 (j := 11) rfl) (byr_X9_leastSight_0 (j := 12) rfl) (byr_X9_leastSight_0 (j := 13) rfl) (by decide)
theorem dX9_leastSight_14 : decode cX9_leastSight 14 = .ok (.ireturn, 1) := dk_172 (byr_X9_leastSight_0 (j := 14) rfl)
theorem dX9_leastSight_15 : decode cX9_leastSight 15 = .ok (.aload_n 0, 1) := dk_42 (byr_X9_leastSight_0 (j := 15) rfl)
theorem dX9_leastSight_16 : decode cX9_leastSight 16 = .ok (.getfield 7, 3) := dk_180 (byr_X9_leastSight_1 (j := 0) rfl) (byr_X9_leastSight_1 (j := 1) rfl) (byr_X9_leastSight_1 (j := 2) rfl) (by decide)
theorem dX9_leastSight_19 : decode cX9_leastSight 19 = .ok (.bipush 7, 2) := dk_16 (byr_X9_leastSight_1 (j := 3) rfl) (byr_X9_leastSight_1 (j := 4) rfl) (by decide)
theorem dX9_leastSight_21 : decode cX9_leastSight 21 = .ok (.iaload, 1) := dk_46 (byr_X9_leastSight_1 (j := 5) rfl)
theorem dX9_leastSight_22 : decode cX9_leastSight 22 = .ok (.istore_n 3, 1) := dk_62 (byr_X9_leastSight_1 (j := 6) rfl)
theorem dX9_leastSight_23 : decode cX9_leastSight 23 = .ok (.iconst 0, 1) := dk_3 (byr_X9_leastSight_1 (j := 7) rfl)
theorem dX9_leastSight_24 : decode cX9_leastSight 24 = .ok (.istore 4, 2) := dk_54 (byr_X9_leastSight_1 (j := 8) rfl) (byr_X9_leastSight_1 (j := 9) rfl)
theorem dX9_leastSight_26 : decode cX9_leastSight 26 = .ok (.aload_n 0, 1) := dk_42 (byr_X9_leastSight_1 (j := 10) rfl)
theorem dX9_leastSight_27 : decode cX9_leastSight 27 = .ok (.getfield 7, 3) := dk_180 (byr_X9_leastSight_1 (j := 11) rfl) (byr_X9_leastSight_1 (j := 12) rfl) (byr_X9_leastSight_1 (j := 13) rfl) (by decide)
theorem dX9_leastSight_30 : decode cX9_leastSight 30 = .ok (.bipush 7, 2) := dk_16 (byr_X9_leastSight_1 (j := 14) rfl) (byr_X9_leastSight_1 (j := 15) rfl) (by decide)
theorem dX9_leastSight_32 : decode cX9_leastSight 32 = .ok (.iconst 0, 1) := dk_3 (byr_X9_leastSight_2 (j := 0) rfl)
theorem dX9_leastSight_33 : decode cX9_leastSight 33 = .ok (.iastore, 1) := dk_79 (byr_X9_leastSight_2 (j := 1) rfl)
theorem dX9_leastSight_34 : decode cX9_leastSight 34 = .ok (.iload 4, 2) := dk_21 (byr_X9_leastSight_2 (j := 2) rfl) (byr_X9_leastSight_2 (j := 3) rfl)
theorem dX9_leastSight_36 : decode cX9_leastSight 36 = .ok (.sipush 201, 3) := dk_17 (byr_X9_leastSight_2 (j := 4) rfl) (byr_X9_leastSight_2 (j := 5) rfl) (byr_X9_leastSight_2 (j := 6) rfl) (by decide)
theorem dX9_leastSight_39 : decode cX9_leastSight 39 = .ok (.if_icmp .ge 27, 3) := dk_162 (byr_X9_leastSight_2 (j := 7) rfl) (byr_X9_leastSight_2 (j := 8) rfl) (byr_X9_leastSight_2 (j := 9) rfl) (by decide)
theorem dX9_leastSight_42 : decode cX9_leastSight 42 = .ok (.aload_n 0, 1) := dk_42 (byr_X9_leastSight_2 (j := 10) rfl)
theorem dX9_leastSight_43 : decode cX9_leastSight 43 = .ok (.iload_n 1, 1) := dk_27 (byr_X9_leastSight_2 (j := 11) rfl)
theorem dX9_leastSight_44 : decode cX9_leastSight 44 = .ok (.iload_n 2, 1) := dk_28 (byr_X9_leastSight_2 (j := 12) rfl)
theorem dX9_leastSight_45 : decode cX9_leastSight 45 = .ok (.invokevirtual 213, 3) := dk_182 (byr_X9_leastSight_2 (j := 13) rfl) (byr_X9_leastSight_2 (j := 14) rfl) (byr_X9_leastSight_2 (j := 15) rfl) (by decide)
theorem dX9_leastSight_48 : decode cX9_leastSight 48 = .ok (.ifCond .ne 18, 3) := dk_154 (byr_X9_leastSight_3 (j := 0) rfl) (byr_X9_leastSight_3 (j := 1) rfl) (byr_X9_leastSight_3 (j := 2) rfl) (by decide)
theorem dX9_leastSight_51 : decode cX9_leastSight 51 = .ok (.iinc 4 1, 3) := dk_132 (byr_X9_leastSight_3 (j := 3) rfl) (byr_X9_leastSight_3 (j := 4) rfl) (byr_X9_leastSight_3 (j := 5) rfl) (by decide)
theorem dX9_leastSight_54 : decode cX9_leastSight 54 = .ok (.aload_n 0, 1) := dk_42 (byr_X9_leastSight_3 (j := 6) rfl)
theorem dX9_leastSight_55 : decode cX9_leastSight 55 = .ok (.getfield 7, 3) := dk_180 (byr_X9_leastSight_3 (j := 7) rfl) (byr_X9_leastSight_3 (j := 8) rfl) (byr_X9_leastSight_3 (j := 9) rfl) (by decide)
theorem dX9_leastSight_58 : decode cX9_leastSight 58 = .ok (.bipush 7, 2) := dk_16 (byr_X9_leastSight_3 (j := 10) rfl) (byr_X9_leastSight_3 (j := 11) rfl) (by decide)
theorem dX9_leastSight_60 : decode cX9_leastSight 60 = .ok (.iload 4, 2) := dk_21 (byr_X9_leastSight_3 (j := 12) rfl) (byr_X9_leastSight_3 (j := 13) rfl)
theorem dX9_leastSight_62 : decode cX9_leastSight 62 = .ok (.iastore, 1) := dk_79 (byr_X9_leastSight_3 (j := 14) rfl)
theorem dX9_leastSight_63 : decode cX9_leastSight 63 = .ok (.goto (-29), 3) := dk_167 (byr_X9_leastSight_3 (j := 15) rfl) (byr_X9_leastSight_4 (j := 0) rfl) (byr_X9_leastSight_4 (j := 1) rfl) (by decide)
theorem dX9_leastSight_66 : decode cX9_leastSight 66 = .ok (.aload_n 0, 1) := dk_42 (byr_X9_leastSight_4 (j := 2) rfl)
theorem dX9_leastSight_67 : decode cX9_leastSight 67 = .ok (.getfield 7, 3) := dk_180 (byr_X9_leastSight_4 (j := 3) rfl) (byr_X9_leastSight_4 (j := 4) rfl) (byr_X9_leastSight_4 (j := 5) rfl) (by decide)
theorem dX9_leastSight_70 : decode cX9_leastSight 70 = .ok (.bipush 7, 2) := dk_16 (byr_X9_leastSight_4 (j := 6) rfl) (byr_X9_leastSight_4 (j := 7) rfl) (by decide)
theorem dX9_leastSight_72 : decode cX9_leastSight 72 = .ok (.iload_n 3, 1) := dk_29 (byr_X9_leastSight_4 (j := 8) rfl)
theorem dX9_leastSight_73 : decode cX9_leastSight 73 = .ok (.iastore, 1) := dk_79 (byr_X9_leastSight_4 (j := 9) rfl)
theorem dX9_leastSight_74 : decode cX9_leastSight 74 = .ok (.iload 4, 2) := dk_21 (byr_X9_leastSight_4 (j := 10) rfl) (byr_X9_leastSight_4 (j := 11) rfl)
theorem dX9_leastSight_76 : decode cX9_leastSight 76 = .ok (.sipush 200, 3) := dk_17 (byr_X9_leastSight_4 (j := 12) rfl) (byr_X9_leastSight_4 (j := 13) rfl) (byr_X9_leastSight_4 (j := 14) rfl) (by decide)
theorem dX9_leastSight_79 : decode cX9_leastSight 79 = .ok (.if_icmp .le 11, 3) := dk_164 (byr_X9_leastSight_4 (j := 15) rfl) (byr_X9_leastSight_5 (j := 0) rfl) (byr_X9_leastSight_5 (j := 1) rfl) (by decide)
theorem dX9_leastSight_82 : decode cX9_leastSight 82 = .ok (.aload_n 0, 1) := dk_42 (byr_X9_leastSight_5 (j := 2) rfl)
theorem dX9_leastSight_83 : decode cX9_leastSight 83 = .ok (.iconst 2, 1) := dk_5 (byr_X9_leastSight_5 (j := 3) rfl)
theorem dX9_leastSight_84 : decode cX9_leastSight 84 = .ok (.invokevirtual 126, 3) := dk_182 (byr_X9_leastSight_5 (j := 4) rfl) (byr_X9_leastSight_5 (j := 5) rfl) (byr_X9_leastSight_5 (j := 6) rfl) (by decide)
theorem dX9_leastSight_87 : decode cX9_leastSight 87 = .ok (.goto 5, 3) := dk_167 (byr_X9_leastSight_5 (j := 7) rfl) (byr_X9_leastSight_5 (j := 8) rfl) (byr_X9_leastSight_5 (j := 9) rfl) (by decide)
theorem dX9_leastSight_90 : decode cX9_leastSight 90 = .ok (.iload 4, 2) := dk_21 (byr_X9_leastSight_5 (j := 10) rfl) (byr_X9_leastSight_5 (j := 11) rfl)
theorem dX9_leastSight_92 : decode cX9_leastSight 92 = .ok (.ireturn, 1) := dk_172 (byr_X9_leastSight_5 (j := 12) rfl)
set_option maxHeartbeats 4000000 in
set_option maxRecDepth 100000 in
theorem c_X9_leastSight (l : Launch) (G : GT) (σ : Sto) (a1 : Int32) (a2 : Int32) (r : (Int32 × Sto)) (h : f_X9_leastSight σ a1 a2 = some r) : MW l G (8) (208) 0 0 yX9_leastSight cX9_leastSight 5 (Option.some Jvm.ClassFile.FieldType.int) [.ref (gad G 81), .int a1, .int a2] (wl G σ) (some (.int r.1)) (wl G r.2) := by
  refine mw_of RX9 (fiI G) [(0, .ref (gad G 81)), (1, .int a1), (2, .int a2)] (by decide +kernel) rfl (Nat.le_of_ble_eq_true rfl) rfl h rfl (fun p e s m args below meth c X hr hnm => ?_)
  have J66 : ∀ (v3 : Int32) (v4 : Int32)  (σ : Sto), Sm p l e { frames := 8, cells := 0, slots := 0, locals := 208 } s m args below meth c G 5 (Qm below args s G 0 0 (fiI G)) 0 0 (wl G σ) 66 [(0, .ref (gad G 81)), (3, .int v3), (4, .int v4)] [] (f_X9_leastSight_L66  v3 v4 σ) := by
    intro v3 v4 σ
    rw [f_X9_leastSight_L66]
    refine sm_aload_n X 67 0 dX9_leastSight_66 rfl rfl rfl ?_
    refine sm_getf X 70 82 rfl fd_9_0 rfl dX9_leastSight_67 rfl q_882 ?_
    refine sm_bipush X 72 (7) dX9_leastSight_70 rfl rfl ?_
    refine sm_iload_n X 73 1 dX9_leastSight_72 rfl rfl rfl ?_
    refine sm_iast X 74 rfl dX9_leastSight_73 rfl (fun σ73 e73 => ?_)
    clear e73
    refine sm_iload X 76 2 dX9_leastSight_74 rfl rfl ?_
    refine sm_sipush X 79 (200) dX9_leastSight_76 rfl rfl ?_
    refine sm_icmp_le X 82 90 dX9_leastSight_79 rfl (by decide) (fun h79 => ?_) (fun h79 => ?_)
    · refine sm_iload X 92 2 dX9_leastSight_90 rfl rfl ?_
      exact sm_iret X hr dX9_leastSight_92 rfl
    · refine sm_aload_n X 83 0 dX9_leastSight_82 rfl rfl rfl ?_
      refine sm_iconst X 84 (2) dX9_leastSight_83 rfl rfl ?_
      refine sm_bind (fun r84 h84 => ?_)
      refine sm_callV0 X 87 [.int 2] [] [.int r84.1] (c_X9_finds l G σ73 (2 : Int32) r84 h84) cw_X9_finds q_965 qs_26 q_963 rfl (by decide) rfl rfl rfl rfl rfl (Nat.le_of_ble_eq_true rfl) ⟨Nat.le_of_ble_eq_true rfl, Nat.le_of_ble_eq_true rfl⟩ ⟨Nat.le_refl _, Nat.le_refl _⟩ dX9_leastSight_84 rfl ?_
      refine sm_goto X 92 dX9_leastSight_87 (by decide) ?_
      exact sm_iret X hr dX9_leastSight_92 rfl
  have J34 : ∀ (v1 : Int32) (v2 : Int32) (v3 : Int32)  (n : Nat) (v4 : Int32) (σ : Sto), Sm p l e { frames := 8, cells := 0, slots := 0, locals := 208 } s m args below meth c G 5 (Qm below args s G 0 0 (fiI G)) 0 0 (wl G σ) 34 [(0, .ref (gad G 81)), (1, .int v1), (2, .int v2), (3, .int v3), (4, .int v4)] [] (f_X9_leastSight_L34  v1 v2 v3 n v4 σ) := by
    intro v1 v2 v3 n
    induction n with
    | zero => intro v4 σ; rw [f_X9_leastSight_L34]; exact sm_none
    | succ n ihl =>
      intro v4 σ
      rw [f_X9_leastSight_L34]
      refine sm_iload X 36 4 dX9_leastSight_34 rfl rfl ?_
      refine sm_sipush X 39 (201) dX9_leastSight_36 rfl rfl ?_
      refine sm_icmp_ge X 42 66 dX9_leastSight_39 rfl (by decide) (fun h39 => ?_) (fun h39 => ?_)
      · exact sm_sub [0, 3, 4] rfl (J66 v3 v4  σ)
      · refine sm_aload_n X 43 0 dX9_leastSight_42 rfl rfl rfl ?_
        refine sm_iload_n X 44 1 dX9_leastSight_43 rfl rfl rfl ?_
        refine sm_iload_n X 45 2 dX9_leastSight_44 rfl rfl rfl ?_
        refine sm_bind (fun r45 h45 => ?_)
        refine sm_callV0 X 48 [.int v1, .int v2] [] [.int (b2i r45.1)] (c_X9_swim l G σ v1 v2 r45 h45) cw_X9_swim q_1152 qs_50 q_1150 rfl (by decide) rfl rfl rfl rfl rfl (Nat.le_of_ble_eq_true rfl) ⟨Nat.le_of_ble_eq_true rfl, Nat.le_of_ble_eq_true rfl⟩ ⟨Nat.le_refl _, Nat.le_refl _⟩ dX9_leastSight_45 rfl ?_
        refine sm_ifz_ne X 51 66 dX9_leastSight_48 rfl (by decide) (fun h48 => ?_) (fun h48 => ?_)
        · exact sm_sub [0, 3, 4] rfl (J66 v3 v4  r45.2)
        · refine sm_iinc X 54 4 (1 : Int32) [(4, .int (v4 + (1 : Int32))), (0, .ref (gad G 81)), (1, .int v1), (2, .int v2), (3, .int v3)] dX9_leastSight_51 rfl rfl rfl (by decide) rfl ?_
          refine sm_aload_n X 55 1 dX9_leastSight_54 rfl rfl rfl ?_
          refine sm_getf X 58 82 rfl fd_9_0 rfl dX9_leastSight_55 rfl q_882 ?_
          refine sm_bipush X 60 (7) dX9_leastSight_58 rfl rfl ?_
          refine sm_iload X 62 0 dX9_leastSight_60 rfl rfl ?_
          refine sm_iast X 63 rfl dX9_leastSight_62 rfl (fun σ62 e62 => ?_)
          clear e62
          refine sm_goto X 34 dX9_leastSight_63 (by decide) ?_
          exact sm_sub [1, 2, 3, 4, 0] rfl (ihl (v4 + (1 : Int32)) σ62)
  unfold f_X9_leastSight
  refine sm_aload_n X 1 0 dX9_leastSight_0 rfl rfl rfl ?_
  refine sm_iload_n X 2 1 dX9_leastSight_1 rfl rfl rfl ?_
  refine sm_iload_n X 3 2 dX9_leastSight_2 rfl rfl rfl ?_
  refine sm_bind (fun r3 h3 => ?_)
  refine sm_callV0 X 6 [.int a1, .int a2] [] [.int (b2i r3)] (c_X9_areUnlike l G σ a1 a2 r3 h3) cw_X9_areUnlike q_1147 qs_49 q_1145 rfl (by decide) rfl rfl rfl rfl rfl (Nat.le_of_ble_eq_true rfl) ⟨Nat.le_of_ble_eq_true rfl, Nat.le_of_ble_eq_true rfl⟩ ⟨Nat.le_refl _, Nat.le_refl _⟩ dX9_leastSight_3 rfl ?_
  refine sm_ifz_ne X 9 15 dX9_leastSight_6 rfl (by decide) (fun h6 => ?_) (fun h6 => ?_)
  · refine sm_aload_n X 16 0 dX9_leastSight_15 rfl rfl rfl ?_
    refine sm_getf X 19 82 rfl fd_9_0 rfl dX9_leastSight_16 rfl q_882 ?_
    refine sm_bipush X 21 (7) dX9_leastSight_19 rfl rfl ?_
    refine sm_iald X 22 rfl dX9_leastSight_21 rfl (fun r21 e21 => ?_)
    clear e21
    refine sm_istore_n X 23 [(3, .int r21), (0, .ref (gad G 81)), (1, .int a1), (2, .int a2)] dX9_leastSight_22 rfl rfl (by decide) rfl ?_
    refine sm_iconst X 24 (0) dX9_leastSight_23 rfl rfl ?_
    refine sm_istore X 26 [(4, .int 0), (3, .int r21), (0, .ref (gad G 81)), (1, .int a1), (2, .int a2)] dX9_leastSight_24 rfl (by decide) rfl ?_
    refine sm_aload_n X 27 2 dX9_leastSight_26 rfl rfl rfl ?_
    refine sm_getf X 30 82 rfl fd_9_0 rfl dX9_leastSight_27 rfl q_882 ?_
    refine sm_bipush X 32 (7) dX9_leastSight_30 rfl rfl ?_
    refine sm_iconst X 33 (0) dX9_leastSight_32 rfl rfl ?_
    refine sm_iast X 34 rfl dX9_leastSight_33 rfl (fun σ33 e33 => ?_)
    clear e33
    exact sm_sub [2, 3, 4, 1, 0] rfl (J34 a1 a2 r21  FU (0 : Int32) σ33)
  · refine sm_aload_n X 10 0 dX9_leastSight_9 rfl rfl rfl ?_
    refine sm_iconst X 11 (1) dX9_leastSight_10 rfl rfl ?_
    refine sm_bind (fun r11 h11 => ?_)
    refine sm_callV0 X 14 [.int 1] [] [.int r11.1] (c_X9_finds l G σ (1 : Int32) r11 h11) cw_X9_finds q_965 qs_26 q_963 rfl (by decide) rfl rfl rfl rfl rfl (Nat.le_of_ble_eq_true rfl) ⟨Nat.le_of_ble_eq_true rfl, Nat.le_of_ble_eq_true rfl⟩ ⟨Nat.le_refl _, Nat.le_refl _⟩ dX9_leastSight_11 rfl ?_
    exact sm_iret X hr dX9_leastSight_14 rfl
def by_X9_send_0 : List Nat := [42, 27, 182, 0, 169, 154, 0, 9, 42, 4, 182, 0, 126, 172, 2, 61]
def by_X9_send_1 : List Nat := [3, 62, 3, 54, 4, 21, 4, 42, 180, 0, 7, 16, 12, 46, 162, 0]
def by_X9_send_2 : List Nat := [65, 42, 21, 4, 5, 182, 0, 172, 42, 27, 5, 182, 0, 172, 159, 0]
def by_X9_send_3 : List Nat := [43, 42, 21, 4, 27, 182, 0, 213, 153, 0, 33, 28, 155, 0, 21, 42]
def by_X9_send_4 : List Nat := [21, 4, 5, 182, 0, 172, 42, 180, 0, 204, 29, 184, 0, 242, 153, 0]
def by_X9_send_5 : List Nat := [11, 21, 4, 61, 42, 180, 0, 204, 62, 132, 4, 1, 167, 255, 185, 28]
def by_X9_send_z : List Nat := [156, 0, 11, 42, 5, 182, 0, 126, 167, 0, 4, 28, 172]
def by_X9_send : List (List Nat) := [by_X9_send_0, by_X9_send_1, by_X9_send_2, by_X9_send_3, by_X9_send_4, by_X9_send_5]
set_option maxRecDepth 100000 in
theorem byo_X9_send : cX9_send.data.toList.map UInt8.toNat = by_X9_send.flatten ++ by_X9_send_z := by decide +kernel
theorem byl_X9_send : by_X9_send.all (fun r => r.length == 16) = true := by decide +kernel
theorem byr_X9_send_0 {j v : Nat} (h : by_X9_send_0[j]? = some v) : RD cX9_send (0 + j) v := rd_16 byo_X9_send byl_X9_send 0 rfl h
theorem byr_X9_send_1 {j v : Nat} (h : by_X9_send_1[j]? = some v) : RD cX9_send (16 + j) v := rd_16 byo_X9_send byl_X9_send 1 rfl h
theorem byr_X9_send_2 {j v : Nat} (h : by_X9_send_2[j]? = some v) : RD cX9_send (32 + j) v := rd_16 byo_X9_send byl_X9_send 2 rfl h
theorem byr_X9_send_3 {j v : Nat} (h : by_X9_send_3[j]? = some v) : RD cX9_send (48 + j) v := rd_16 byo_X9_send byl_X9_send 3 rfl h
theorem byr_X9_send_4 {j v : Nat} (h : by_X9_send_4[j]? = some v) : RD cX9_send (64 + j) v := rd_16 byo_X9_send byl_X9_send 4 rfl h
theorem byr_X9_send_5 {j v : Nat} (h : by_X9_send_5[j]? = some v) : RD cX9_send (80 + j) v := rd_16 byo_X9_send byl_X9_send 5 rfl h
theorem byr_X9_send_6 {j v : Nat} (h : by_X9_send_z[j]? = some v) : RD cX9_send (96 + j) v := rd_z byo_X9_send byl_X9_send 6 rfl h
theorem dX9_send_0 : decode cX9_send 0 = .ok (.aload_n 0, 1) := dk_42 (byr_X9_send_0 (j := 0) rfl)
theorem dX9_send_1 : decode cX9_send 1 = .ok (.iload_n 1, 1) := dk_27 (byr_X9_send_0 (j := 1) rfl)
theorem dX9_send_2 : decode cX9_send 2 = .ok (.invokevirtual 169, 3) := dk_182 (byr_X9_send_0 (j := 2) rfl) (byr_X9_send_0 (j := 3) rfl) (byr_X9_send_0 (j := 4) rfl) (by decide)
theorem dX9_send_5 : decode cX9_send 5 = .ok (.ifCond .ne 9, 3) := dk_154 (byr_X9_send_0 (j := 5) rfl) (byr_X9_send_0 (j := 6) rfl) (byr_X9_send_0 (j := 7) rfl) (by decide)
theorem dX9_send_8 : decode cX9_send 8 = .ok (.aload_n 0, 1) := dk_42 (byr_X9_send_0 (j := 8) rfl)
theorem dX9_send_9 : decode cX9_send 9 = .ok (.iconst 1, 1) := dk_4 (byr_X9_send_0 (j := 9) rfl)
theorem dX9_send_10 : decode cX9_send 10 = .ok (.invokevirtual 126, 3) := dk_182 (byr_X9_send_0 (j := 10) rfl) (byr_X9_send_0 (j := 11) rfl) (byr_X9_send_0 (j := 12) rfl) (by decide)
theorem dX9_send_13 : decode cX9_send 13 = .ok (.ireturn, 1) := dk_172 (byr_X9_send_0 (j := 13) rfl)
theorem dX9_send_14 : decode cX9_send 14 = .ok (.iconst (-1), 1) := dk_2 (byr_X9_send_0 (j := 14) rfl)
theorem dX9_send_15 : decode cX9_send 15 = .ok (.istore_n 2, 1) := dk_61 (byr_X9_send_0 (j := 15) rfl)
theorem dX9_send_16 : decode cX9_send 16 = .ok (.iconst 0, 1) := dk_3 (byr_X9_send_1 (j := 0) rfl)
theorem dX9_send_17 : decode cX9_send 17 = .ok (.istore_n 3, 1) := dk_62 (byr_X9_send_1 (j := 1) rfl)
theorem dX9_send_18 : decode cX9_send 18 = .ok (.iconst 0, 1) := dk_3 (byr_X9_send_1 (j := 2) rfl)
theorem dX9_send_19 : decode cX9_send 19 = .ok (.istore 4, 2) := dk_54 (byr_X9_send_1 (j := 3) rfl) (byr_X9_send_1 (j := 4) rfl)
theorem dX9_send_21 : decode cX9_send 21 = .ok (.iload 4, 2) := dk_21 (byr_X9_send_1 (j := 5) rfl) (byr_X9_send_1 (j := 6) rfl)
theorem dX9_send_23 : decode cX9_send 23 = .ok (.aload_n 0, 1) := dk_42 (byr_X9_send_1 (j := 7) rfl)
theorem dX9_send_24 : decode cX9_send 24 = .ok (.getfield 7, 3) := dk_180 (byr_X9_send_1 (j := 8) rfl) (byr_X9_send_1 (j := 9) rfl) (byr_X9_send_1 (j := 10) rfl) (by decide)
theorem dX9_send_27 : decode cX9_send 27 = .ok (.bipush 12, 2) := dk_16 (byr_X9_send_1 (j := 11) rfl) (byr_X9_send_1 (j := 12) rfl) (by decide)
theorem dX9_send_29 : decode cX9_send 29 = .ok (.iaload, 1) := dk_46 (byr_X9_send_1 (j := 13) rfl)
theorem dX9_send_30 : decode cX9_send 30 = .ok (.if_icmp .ge 65, 3) := dk_162 (byr_X9_send_1 (j := 14) rfl) (byr_X9_send_1 (j := 15) rfl) (byr_X9_send_2 (j := 0) rfl) (by decide)
theorem dX9_send_33 : decode cX9_send 33 = .ok (.aload_n 0, 1) := dk_42 (byr_X9_send_2 (j := 1) rfl)
theorem dX9_send_34 : decode cX9_send 34 = .ok (.iload 4, 2) := dk_21 (byr_X9_send_2 (j := 2) rfl) (byr_X9_send_2 (j := 3) rfl)
theorem dX9_send_36 : decode cX9_send 36 = .ok (.iconst 2, 1) := dk_5 (byr_X9_send_2 (j := 4) rfl)
theorem dX9_send_37 : decode cX9_send 37 = .ok (.invokevirtual 172, 3) := dk_182 (byr_X9_send_2 (j := 5) rfl) (byr_X9_send_2 (j := 6) rfl) (byr_X9_send_2 (j := 7) rfl) (by decide)
theorem dX9_send_40 : decode cX9_send 40 = .ok (.aload_n 0, 1) := dk_42 (byr_X9_send_2 (j := 8) rfl)
theorem dX9_send_41 : decode cX9_send 41 = .ok (.iload_n 1, 1) := dk_27 (byr_X9_send_2 (j := 9) rfl)
theorem dX9_send_42 : decode cX9_send 42 = .ok (.iconst 2, 1) := dk_5 (byr_X9_send_2 (j := 10) rfl)
theorem dX9_send_43 : decode cX9_send 43 = .ok (.invokevirtual 172, 3) := dk_182 (byr_X9_send_2 (j := 11) rfl) (byr_X9_send_2 (j := 12) rfl) (byr_X9_send_2 (j := 13) rfl) (by decide)
theorem dX9_send_46 : decode cX9_send 46 = .ok (.if_icmp .eq 43, 3) := dk_159 (byr_X9_send_2 (j := 14) rfl) (byr_X9_send_2 (j := 15) rfl) (byr_X9_send_3 (j := 0) rfl) (by decide)
theorem dX9_send_49 : decode cX9_send 49 = .ok (.aload_n 0, 1) := dk_42 (byr_X9_send_3 (j := 1) rfl)
theorem dX9_send_50 : decode cX9_send 50 = .ok (.iload 4, 2) := dk_21 (byr_X9_send_3 (j := 2) rfl) (byr_X9_send_3 (j := 3) rfl)
theorem dX9_send_52 : decode cX9_send 52 = .ok (.iload_n 1, 1) := dk_27 (byr_X9_send_3 (j := 4) rfl)
theorem dX9_send_53 : decode cX9_send 53 = .ok (.invokevirtual 213, 3) := dk_182 (byr_X9_send_3 (j := 5) rfl) (byr_X9_send_3 (j := 6) rfl) (byr_X9_send_3 (j := 7) rfl) (by decide)
theorem dX9_send_56 : decode cX9_send 56 = .ok (.ifCond .eq 33, 3) := dk_153 (byr_X9_send_3 (j := 8) rfl) (byr_X9_send_3 (j := 9) rfl) (byr_X9_send_3 (j := 10) rfl) (by decide)
theorem dX9_send_59 : decode cX9_send 59 = .ok (.iload_n 2, 1) := dk_28 (byr_X9_send_3 (j := 11) rfl)
theorem dX9_send_60 : decode cX9_send 60 = .ok (.ifCond .lt 21, 3) := dk_155 (byr_X9_send_3 (j := 12) rfl) (byr_X9_send_3 (j := 13) rfl) (byr_X9_send_3 (j := 14) rfl) (by decide)
theorem dX9_send_63 : decode cX9_send 63 = .ok (.aload_n 0, 1) := dk_42 (byr_X9_send_3 (j := 15) rfl)
theorem dX9_send_64 : decode cX9_send 64 = .ok (.iload 4, 2) := dk_21 (byr_X9_send_4 (j := 0) rfl) (byr_X9_send_4 (j := 1) rfl)
theorem dX9_send_66 : decode cX9_send 66 = .ok (.iconst 2, 1) := dk_5 (byr_X9_send_4 (j := 2) rfl)
theorem dX9_send_67 : decode cX9_send 67 = .ok (.invokevirtual 172, 3) := dk_182 (byr_X9_send_4 (j := 3) rfl) (byr_X9_send_4 (j := 4) rfl) (byr_X9_send_4 (j := 5) rfl) (by decide)
theorem dX9_send_70 : decode cX9_send 70 = .ok (.aload_n 0, 1) := dk_42 (byr_X9_send_4 (j := 6) rfl)
theorem dX9_send_71 : decode cX9_send 71 = .ok (.getfield 204, 3) := dk_180 (byr_X9_send_4 (j := 7) rfl) (byr_X9_send_4 (j := 8) rfl) (byr_X9_send_4 (j := 9) rfl) (by decide)
theorem dX9_send_74 : decode cX9_send 74 = .ok (.iload_n 3, 1) := dk_29 (byr_X9_send_4 (j := 10) rfl)
theorem dX9_send_75 : decode cX9_send 75 = .ok (.invokestatic 242, 3) := dk_184 (byr_X9_send_4 (j := 11) rfl) (byr_X9_send_4 (j := 12) rfl) (byr_X9_send_4 (j := 13) rfl) (by decide)
theorem dX9_send_78 : decode cX9_send 78 = .ok (.ifCond .eq 11, 3) := dk_153 (byr_X9_send_4 (j := 14) rfl) (byr_X9_send_4 (j := 15) rfl) (byr_X9_send_5 (j := 0) rfl) (by decide)
theorem dX9_send_81 : decode cX9_send 81 = .ok (.iload 4, 2) := dk_21 (byr_X9_send_5 (j := 1) rfl) (byr_X9_send_5 (j := 2) rfl)
theorem dX9_send_83 : decode cX9_send 83 = .ok (.istore_n 2, 1) := dk_61 (byr_X9_send_5 (j := 3) rfl)
theorem dX9_send_84 : decode cX9_send 84 = .ok (.aload_n 0, 1) := dk_42 (byr_X9_send_5 (j := 4) rfl)
theorem dX9_send_85 : decode cX9_send 85 = .ok (.getfield 204, 3) := dk_180 (byr_X9_send_5 (j := 5) rfl) (byr_X9_send_5 (j := 6) rfl) (byr_X9_send_5 (j := 7) rfl) (by decide)
theorem dX9_send_88 : decode cX9_send 88 = .ok (.istore_n 3, 1) := dk_62 (byr_X9_send_5 (j := 8) rfl)
theorem dX9_send_89 : decode cX9_send 89 = .ok (.iinc 4 1, 3) := dk_132 (byr_X9_send_5 (j := 9) rfl) (byr_X9_send_5 (j := 10) rfl) (byr_X9_send_5 (j := 11) rfl) (by decide)
theorem dX9_send_92 : decode cX9_send 92 = .ok (.goto (-71), 3) := dk_167 (byr_X9_send_5 (j := 12) rfl) (byr_X9_send_5 (j := 13) rfl) (byr_X9_send_5 (j := 14) rfl) (by decide)
theorem dX9_send_95 : decode cX9_send 95 = .ok (.iload_n 2, 1) := dk_28 (byr_X9_send_5 (j := 15) rfl)
theorem dX9_send_96 : decode cX9_send 96 = .ok (.ifCond .ge 11, 3) := dk_156 (byr_X9_send_6 (j := 0) rfl) (byr_X9_send_6 (j := 1) rfl) (byr_X9_send_6 (j := 2) rfl) (by decide)
theorem dX9_send_99 : decode cX9_send 99 = .ok (.aload_n 0, 1) := dk_42 (byr_X9_send_6 (j := 3) rfl)
theorem dX9_send_100 : decode cX9_send 100 = .ok (.iconst 2, 1) := dk_5 (byr_X9_send_6 (j := 4) rfl)
theorem dX9_send_101 : decode cX9_send 101 = .ok (.invokevirtual 126, 3) := dk_182 (byr_X9_send_6 (j := 5) rfl) (byr_X9_send_6 (j := 6) rfl) (byr_X9_send_6 (j := 7) rfl) (by decide)
theorem dX9_send_104 : decode cX9_send 104 = .ok (.goto 4, 3) := dk_167 (byr_X9_send_6 (j := 8) rfl) (byr_X9_send_6 (j := 9) rfl) (byr_X9_send_6 (j := 10) rfl) (by decide)
theorem dX9_send_107 : decode cX9_send 107 = .ok (.iload_n 2, 1) := dk_28 (byr_X9_send_6 (j := 11) rfl)
theorem dX9_send_108 : decode cX9_send 108 = .ok (.ireturn, 1) := dk_172 (byr_X9_send_6 (j := 12) rfl)
set_option maxHeartbeats 4000000 in
set_option maxRecDepth 100000 in
theorem c_X9_send (l : Launch) (G : GT) (σ : Sto) (a1 : Int32) (r : (Int32 × Sto)) (h : f_X9_send σ a1 = some r) : MW l G (8) (208) 0 0 yX9_send cX9_send 5 (Option.some Jvm.ClassFile.FieldType.int) [.ref (gad G 81), .int a1] (wl G σ) (some (.int r.1)) (wl G r.2) := by
  refine mw_of RX9 (fiI G) [(0, .ref (gad G 81)), (1, .int a1)] (by decide +kernel) rfl (Nat.le_of_ble_eq_true rfl) rfl h rfl (fun p e s m args below meth c X hr hnm => ?_)
  have J89 : ∀ (v1 : Int32) (v2 : Int32) (v3 : Int32) (v4 : Int32) (K21 : Int32 → Int32 → Int32 → Sto → Option (Int32 × Sto)) (hK21 : ∀ (v2' : Int32) (v3' : Int32) (v4' : Int32) (σ' : Sto), Sm p l e { frames := 8, cells := 0, slots := 0, locals := 208 } s m args below meth c G 5 (Qm below args s G 0 0 (fiI G)) 0 0 (wl G σ') 21 [(0, .ref (gad G 81)), (1, .int v1), (2, .int v2'), (3, .int v3'), (4, .int v4')] [] (K21 v2' v3' v4' σ')) (σ : Sto), Sm p l e { frames := 8, cells := 0, slots := 0, locals := 208 } s m args below meth c G 5 (Qm below args s G 0 0 (fiI G)) 0 0 (wl G σ) 89 [(0, .ref (gad G 81)), (1, .int v1), (2, .int v2), (3, .int v3), (4, .int v4)] [] (f_X9_send_L89 K21 v1 v2 v3 v4 σ) := by
    intro v1 v2 v3 v4 K21 hK21 σ
    rw [f_X9_send_L89]
    refine sm_iinc X 92 4 (1 : Int32) [(4, .int (v4 + (1 : Int32))), (0, .ref (gad G 81)), (1, .int v1), (2, .int v2), (3, .int v3)] dX9_send_89 rfl rfl rfl (by decide) rfl ?_
    refine sm_goto X 21 dX9_send_92 (by decide) ?_
    exact sm_sub [1, 2, 3, 4, 0] rfl (hK21 v2 v3 (v4 + (1 : Int32)) σ)
  have J81 : ∀ (v1 : Int32) (v4 : Int32) (K21 : Int32 → Int32 → Int32 → Sto → Option (Int32 × Sto)) (hK21 : ∀ (v2' : Int32) (v3' : Int32) (v4' : Int32) (σ' : Sto), Sm p l e { frames := 8, cells := 0, slots := 0, locals := 208 } s m args below meth c G 5 (Qm below args s G 0 0 (fiI G)) 0 0 (wl G σ') 21 [(0, .ref (gad G 81)), (1, .int v1), (2, .int v2'), (3, .int v3'), (4, .int v4')] [] (K21 v2' v3' v4' σ')) (σ : Sto), Sm p l e { frames := 8, cells := 0, slots := 0, locals := 208 } s m args below meth c G 5 (Qm below args s G 0 0 (fiI G)) 0 0 (wl G σ) 81 [(0, .ref (gad G 81)), (1, .int v1), (4, .int v4)] [] (f_X9_send_L81 K21 v1 v4 σ) := by
    intro v1 v4 K21 hK21 σ
    rw [f_X9_send_L81]
    refine sm_iload X 83 2 dX9_send_81 rfl rfl ?_
    refine sm_istore_n X 84 [(2, .int v4), (0, .ref (gad G 81)), (1, .int v1), (4, .int v4)] dX9_send_83 rfl rfl (by decide) rfl ?_
    refine sm_aload_n X 85 1 dX9_send_84 rfl rfl rfl ?_
    refine sm_geti X 88 rfl fd_9_16 dX9_send_85 rfl q_898 ?_
    refine sm_istore_n X 89 [(3, .int (σ.1 81 16)), (2, .int v4), (0, .ref (gad G 81)), (1, .int v1), (4, .int v4)] dX9_send_88 rfl rfl (by decide) rfl ?_
    exact sm_sub [2, 3, 1, 0, 4] rfl (J89 v1 v4 (σ.1 81 16) v4 K21 hK21 σ)
  have J21 : ∀ (v1 : Int32)  (n : Nat) (v2 : Int32) (v3 : Int32) (v4 : Int32) (σ : Sto), Sm p l e { frames := 8, cells := 0, slots := 0, locals := 208 } s m args below meth c G 5 (Qm below args s G 0 0 (fiI G)) 0 0 (wl G σ) 21 [(0, .ref (gad G 81)), (1, .int v1), (2, .int v2), (3, .int v3), (4, .int v4)] [] (f_X9_send_L21  v1 n v2 v3 v4 σ) := by
    intro v1 n
    induction n with
    | zero => intro v2 v3 v4 σ; rw [f_X9_send_L21]; exact sm_none
    | succ n ihl =>
      intro v2 v3 v4 σ
      rw [f_X9_send_L21]
      refine sm_iload X 23 4 dX9_send_21 rfl rfl ?_
      refine sm_aload_n X 24 0 dX9_send_23 rfl rfl rfl ?_
      refine sm_getf X 27 82 rfl fd_9_0 rfl dX9_send_24 rfl q_882 ?_
      refine sm_bipush X 29 (12) dX9_send_27 rfl rfl ?_
      refine sm_iald X 30 rfl dX9_send_29 rfl (fun r29 e29 => ?_)
      clear e29
      refine sm_icmp_ge X 33 95 dX9_send_30 rfl (by decide) (fun h30 => ?_) (fun h30 => ?_)
      · refine sm_iload_n X 96 2 dX9_send_95 rfl rfl rfl ?_
        refine sm_if_ge X 99 107 dX9_send_96 rfl (by decide) (fun h96 => ?_) (fun h96 => ?_)
        · refine sm_iload_n X 108 2 dX9_send_107 rfl rfl rfl ?_
          exact sm_iret X hr dX9_send_108 rfl
        · refine sm_aload_n X 100 0 dX9_send_99 rfl rfl rfl ?_
          refine sm_iconst X 101 (2) dX9_send_100 rfl rfl ?_
          refine sm_bind (fun r101 h101 => ?_)
          refine sm_callV0 X 104 [.int 2] [] [.int r101.1] (c_X9_finds l G σ (2 : Int32) r101 h101) cw_X9_finds q_965 qs_26 q_963 rfl (by decide) rfl rfl rfl rfl rfl (Nat.le_of_ble_eq_true rfl) ⟨Nat.le_of_ble_eq_true rfl, Nat.le_of_ble_eq_true rfl⟩ ⟨Nat.le_refl _, Nat.le_refl _⟩ dX9_send_101 rfl ?_
          refine sm_goto X 108 dX9_send_104 (by decide) ?_
          exact sm_iret X hr dX9_send_108 rfl
      · refine sm_aload_n X 34 0 dX9_send_33 rfl rfl rfl ?_
        refine sm_iload X 36 4 dX9_send_34 rfl rfl ?_
        refine sm_iconst X 37 (2) dX9_send_36 rfl rfl ?_
        refine sm_bind (fun r37 h37 => ?_)
        refine sm_callV0 X 40 [.int v4, .int 2] [] [.int r37] (c_X9_of l G σ v4 (2 : Int32) r37 h37) cw_X9_of q_1090 qs_45 q_1088 rfl (by decide) rfl rfl rfl rfl rfl (Nat.le_of_ble_eq_true rfl) ⟨Nat.le_of_ble_eq_true rfl, Nat.le_of_ble_eq_true rfl⟩ ⟨Nat.le_refl _, Nat.le_refl _⟩ dX9_send_37 rfl ?_
        refine sm_aload_n X 41 0 dX9_send_40 rfl rfl rfl ?_
        refine sm_iload_n X 42 1 dX9_send_41 rfl rfl rfl ?_
        refine sm_iconst X 43 (2) dX9_send_42 rfl rfl ?_
        refine sm_bind (fun r43 h43 => ?_)
        refine sm_callV0 X 46 [.int v1, .int 2] [.int r37] [.int r43, .int r37] (c_X9_of l G σ v1 (2 : Int32) r43 h43) cw_X9_of q_1090 qs_45 q_1088 rfl (by decide) rfl rfl rfl rfl rfl (Nat.le_of_ble_eq_true rfl) ⟨Nat.le_of_ble_eq_true rfl, Nat.le_of_ble_eq_true rfl⟩ ⟨Nat.le_refl _, Nat.le_refl _⟩ dX9_send_43 rfl ?_
        refine sm_icmp_eq X 49 89 dX9_send_46 rfl (by decide) (fun h46 => ?_) (fun h46 => ?_)
        · exact sm_sub [0, 1, 2, 3, 4] rfl (J89 v1 v2 v3 v4 (f_X9_send_L21  v1 n) ihl σ)
        · refine sm_aload_n X 50 0 dX9_send_49 rfl rfl rfl ?_
          refine sm_iload X 52 4 dX9_send_50 rfl rfl ?_
          refine sm_iload_n X 53 1 dX9_send_52 rfl rfl rfl ?_
          refine sm_bind (fun r53 h53 => ?_)
          refine sm_callV0 X 56 [.int v4, .int v1] [] [.int (b2i r53.1)] (c_X9_swim l G σ v4 v1 r53 h53) cw_X9_swim q_1152 qs_50 q_1150 rfl (by decide) rfl rfl rfl rfl rfl (Nat.le_of_ble_eq_true rfl) ⟨Nat.le_of_ble_eq_true rfl, Nat.le_of_ble_eq_true rfl⟩ ⟨Nat.le_refl _, Nat.le_refl _⟩ dX9_send_53 rfl ?_
          refine sm_ifz_eq X 59 89 dX9_send_56 rfl (by decide) (fun h56 => ?_) (fun h56 => ?_)
          · refine sm_iload_n X 60 2 dX9_send_59 rfl rfl rfl ?_
            refine sm_if_lt X 63 81 dX9_send_60 rfl (by decide) (fun h60 => ?_) (fun h60 => ?_)
            · exact sm_sub [0, 1, 4] rfl (J81 v1 v4 (f_X9_send_L21  v1 n) ihl r53.2)
            · refine sm_aload_n X 64 0 dX9_send_63 rfl rfl rfl ?_
              refine sm_iload X 66 4 dX9_send_64 rfl rfl ?_
              refine sm_iconst X 67 (2) dX9_send_66 rfl rfl ?_
              refine sm_bind (fun r67 h67 => ?_)
              refine sm_callV0 X 70 [.int v4, .int 2] [] [.int r67] (c_X9_of l G r53.2 v4 (2 : Int32) r67 h67) cw_X9_of q_1090 qs_45 q_1088 rfl (by decide) rfl rfl rfl rfl rfl (Nat.le_of_ble_eq_true rfl) ⟨Nat.le_of_ble_eq_true rfl, Nat.le_of_ble_eq_true rfl⟩ ⟨Nat.le_refl _, Nat.le_refl _⟩ dX9_send_67 rfl ?_
              refine sm_aload_n X 71 0 dX9_send_70 rfl rfl rfl ?_
              refine sm_geti X 74 rfl fd_9_16 dX9_send_71 rfl q_898 ?_
              refine sm_iload_n X 75 3 dX9_send_74 rfl rfl rfl ?_
              refine sm_bind (fun r75 h75 => ?_)
              refine sm_callS0 X 78 [.int r67, .int (r53.2.1 81 16), .int v3] [] [.int (b2i r75)] (c_X9_isBetter l G r53.2 r67 (r53.2.1 81 16) v3 r75 h75) cw_X9_isBetter q_1192 q_1191 rfl rfl rfl (Nat.le_of_ble_eq_true rfl) ⟨Nat.le_of_ble_eq_true rfl, Nat.le_of_ble_eq_true rfl⟩ ⟨Nat.le_refl _, Nat.le_refl _⟩ dX9_send_75 rfl ?_
              refine sm_ifz_eq X 81 89 dX9_send_78 rfl (by decide) (fun h78 => ?_) (fun h78 => ?_)
              · exact sm_sub [0, 1, 4] rfl (J81 v1 v4 (f_X9_send_L21  v1 n) ihl r53.2)
              · exact sm_sub [0, 1, 2, 3, 4] rfl (J89 v1 v2 v3 v4 (f_X9_send_L21  v1 n) ihl r53.2)
          · exact sm_sub [0, 1, 2, 3, 4] rfl (J89 v1 v2 v3 v4 (f_X9_send_L21  v1 n) ihl r53.2)
  unfold f_X9_send
  refine sm_aload_n X 1 0 dX9_send_0 rfl rfl rfl ?_
  refine sm_iload_n X 2 1 dX9_send_1 rfl rfl rfl ?_
  refine sm_bind (fun r2 h2 => ?_)
  refine sm_callV0 X 5 [.int a1] [] [.int (b2i r2)] (c_X9_isSwimmer l G σ a1 r2 h2) cw_X9_isSwimmer q_1086 qs_44 q_1084 rfl (by decide) rfl rfl rfl rfl rfl (Nat.le_of_ble_eq_true rfl) ⟨Nat.le_of_ble_eq_true rfl, Nat.le_of_ble_eq_true rfl⟩ ⟨Nat.le_refl _, Nat.le_refl _⟩ dX9_send_2 rfl ?_
  refine sm_ifz_ne X 8 14 dX9_send_5 rfl (by decide) (fun h5 => ?_) (fun h5 => ?_)
  · refine sm_iconst X 15 (-1) dX9_send_14 rfl rfl ?_
    refine sm_istore_n X 16 [(2, .int (-1)), (0, .ref (gad G 81)), (1, .int a1)] dX9_send_15 rfl rfl (by decide) rfl ?_
    refine sm_iconst X 17 (0) dX9_send_16 rfl rfl ?_
    refine sm_istore_n X 18 [(3, .int 0), (2, .int (-1)), (0, .ref (gad G 81)), (1, .int a1)] dX9_send_17 rfl rfl (by decide) rfl ?_
    refine sm_iconst X 19 (0) dX9_send_18 rfl rfl ?_
    refine sm_istore X 21 [(4, .int 0), (3, .int 0), (2, .int (-1)), (0, .ref (gad G 81)), (1, .int a1)] dX9_send_19 rfl (by decide) rfl ?_
    exact sm_sub [3, 4, 2, 1, 0] rfl (J21 a1  FU (-1 : Int32) (0 : Int32) (0 : Int32) σ)
  · refine sm_aload_n X 9 0 dX9_send_8 rfl rfl rfl ?_
    refine sm_iconst X 10 (1) dX9_send_9 rfl rfl ?_
    refine sm_bind (fun r10 h10 => ?_)
    refine sm_callV0 X 13 [.int 1] [] [.int r10.1] (c_X9_finds l G σ (1 : Int32) r10 h10) cw_X9_finds q_965 qs_26 q_963 rfl (by decide) rfl rfl rfl rfl rfl (Nat.le_of_ble_eq_true rfl) ⟨Nat.le_of_ble_eq_true rfl, Nat.le_of_ble_eq_true rfl⟩ ⟨Nat.le_refl _, Nat.le_refl _⟩ dX9_send_10 rfl ?_
    exact sm_iret X hr dX9_send_13 rfl
def by_X9_diary_0 : List Nat := [42, 27, 28, 182, 0, 207, 153, 0, 39, 29, 133, 9, 20, 0, 185, 184]
def by_X9_diary_1 : List Nat := [0, 49, 153, 0, 27, 21, 4, 133, 9, 20, 0, 159, 184, 0, 49, 153]
def by_X9_diary_2 : List Nat := [0, 14, 21, 5, 133, 9, 10, 184, 0, 49, 154, 0, 9, 42, 4, 182]
def by_X9_diary_3 : List Nat := [0, 126, 172, 42, 180, 0, 7, 42, 180, 0, 13, 184, 0, 231, 3, 54]
def by_X9_diary_4 : List Nat := [6, 2, 54, 7, 3, 54, 8, 21, 8, 16, 36, 162, 0, 114, 42, 27]
def by_X9_diary_5 : List Nat := [21, 8, 16, 6, 108, 21, 8, 16, 6, 108, 21, 8, 16, 6, 108, 21]
def by_X9_diary_6 : List Nat := [8, 16, 6, 108, 182, 0, 238, 42, 28, 21, 8, 16, 6, 112, 21, 8]
def by_X9_diary_7 : List Nat := [16, 6, 112, 21, 8, 16, 6, 112, 21, 8, 16, 6, 112, 182, 0, 238]
def by_X9_diary_8 : List Nat := [42, 27, 28, 182, 0, 213, 153, 0, 49, 42, 180, 0, 201, 29, 160, 0]
def by_X9_diary_9 : List Nat := [41, 42, 180, 0, 204, 21, 4, 160, 0, 32, 132, 6, 1, 21, 7, 156]
def by_X9_diary_10 : List Nat := [0, 20, 16, 10, 21, 8, 16, 6, 108, 104, 21, 8, 16, 6, 112, 96]
def by_X9_diary_11 : List Nat := [167, 0, 5, 21, 7, 54, 7, 132, 8, 1, 167, 255, 141, 42, 180, 0]
def by_X9_diary_12 : List Nat := [13, 42, 180, 0, 7, 184, 0, 231, 21, 5, 154, 0, 8, 21, 6, 167]
def by_X9_diary_13 : List Nat := [0, 18, 21, 7, 156, 0, 11, 42, 5, 182, 0, 126, 167, 0, 5, 21]
def by_X9_diary_z : List Nat := [7, 172]
def by_X9_diary : List (List Nat) := [by_X9_diary_0, by_X9_diary_1, by_X9_diary_2, by_X9_diary_3, by_X9_diary_4, by_X9_diary_5, by_X9_diary_6, by_X9_diary_7, by_X9_diary_8, by_X9_diary_9, by_X9_diary_10, by_X9_diary_11, by_X9_diary_12, by_X9_diary_13]
set_option maxRecDepth 100000 in
theorem byo_X9_diary : cX9_diary.data.toList.map UInt8.toNat = by_X9_diary.flatten ++ by_X9_diary_z := by decide +kernel
theorem byl_X9_diary : by_X9_diary.all (fun r => r.length == 16) = true := by decide +kernel
theorem byr_X9_diary_0 {j v : Nat} (h : by_X9_diary_0[j]? = some v) : RD cX9_diary (0 + j) v := rd_16 byo_X9_diary byl_X9_diary 0 rfl h
theorem byr_X9_diary_1 {j v : Nat} (h : by_X9_diary_1[j]? = some v) : RD cX9_diary (16 + j) v := rd_16 byo_X9_diary byl_X9_diary 1 rfl h
theorem byr_X9_diary_2 {j v : Nat} (h : by_X9_diary_2[j]? = some v) : RD cX9_diary (32 + j) v := rd_16 byo_X9_diary byl_X9_diary 2 rfl h
theorem byr_X9_diary_3 {j v : Nat} (h : by_X9_diary_3[j]? = some v) : RD cX9_diary (48 + j) v := rd_16 byo_X9_diary byl_X9_diary 3 rfl h
theorem byr_X9_diary_4 {j v : Nat} (h : by_X9_diary_4[j]? = some v) : RD cX9_diary (64 + j) v := rd_16 byo_X9_diary byl_X9_diary 4 rfl h
theorem byr_X9_diary_5 {j v : Nat} (h : by_X9_diary_5[j]? = some v) : RD cX9_diary (80 + j) v := rd_16 byo_X9_diary byl_X9_diary 5 rfl h
theorem byr_X9_diary_6 {j v : Nat} (h : by_X9_diary_6[j]? = some v) : RD cX9_diary (96 + j) v := rd_16 byo_X9_diary byl_X9_diary 6 rfl h
theorem byr_X9_diary_7 {j v : Nat} (h : by_X9_diary_7[j]? = some v) : RD cX9_diary (112 + j) v := rd_16 byo_X9_diary byl_X9_diary 7 rfl h
theorem byr_X9_diary_8 {j v : Nat} (h : by_X9_diary_8[j]? = some v) : RD cX9_diary (128 + j) v := rd_16 byo_X9_diary byl_X9_diary 8 rfl h
theorem byr_X9_diary_9 {j v : Nat} (h : by_X9_diary_9[j]? = some v) : RD cX9_diary (144 + j) v := rd_16 byo_X9_diary byl_X9_diary 9 rfl h
theorem byr_X9_diary_10 {j v : Nat} (h : by_X9_diary_10[j]? = some v) : RD cX9_diary (160 + j) v := rd_16 byo_X9_diary byl_X9_diary 10 rfl h
theorem byr_X9_diary_11 {j v : Nat} (h : by_X9_diary_11[j]? = some v) : RD cX9_diary (176 + j) v := rd_16 byo_X9_diary byl_X9_diary 11 rfl h
theorem byr_X9_diary_12 {j v : Nat} (h : by_X9_diary_12[j]? = some v) : RD cX9_diary (192 + j) v := rd_16 byo_X9_diary byl_X9_diary 12 rfl h
theorem byr_X9_diary_13 {j v : Nat} (h : by_X9_diary_13[j]? = some v) : RD cX9_diary (208 + j) v := rd_16 byo_X9_diary byl_X9_diary 13 rfl h
theorem byr_X9_diary_14 {j v : Nat} (h : by_X9_diary_z[j]? = some v) : RD cX9_diary (224 + j) v := rd_z byo_X9_diary byl_X9_diary 14 rfl h
theorem dX9_diary_0 : decode cX9_diary 0 = .ok (.aload_n 0, 1) := dk_42 (byr_X9_diary_0 (j := 0) rfl)
theorem dX9_diary_1 : decode cX9_diary 1 = .ok (.iload_n 1, 1) := dk_27 (byr_X9_diary_0 (j := 1) rfl)
theorem dX9_diary_2 : decode cX9_diary 2 = .ok (.iload_n 2, 1) := dk_28 (byr_X9_diary_0 (j := 2) rfl)
theorem dX9_diary_3 : decode cX9_diary 3 = .ok (.invokevirtual 207, 3) := dk_182 (byr_X9_diary_0 (j := 3) rfl) (byr_X9_diary_0 (j := 4) rfl) (byr_X9_diary_0 (j := 5) rfl) (by decide)
theorem dX9_diary_6 : decode cX9_diary 6 = .ok (.ifCond .eq 39, 3) := dk_153 (byr_X9_diary_0 (j := 6) rfl) (byr_X9_diary_0 (j := 7) rfl) (byr_X9_diary_0 (j := 8) rfl) (by decide)
theorem dX9_diary_9 : decode cX9_diary 9 = .ok (.iload_n 3, 1) := dk_29 (byr_X9_diary_0 (j := 9) rfl)
theorem dX9_diary_10 : decode cX9_diary 10 = .ok (.i2l, 1) := dk_133 (byr_X9_diary_0 (j := 10) rfl)
theorem dX9_diary_11 : decode cX9_diary 11 = .ok (.lconst 0, 1) := dk_9 (byr_X9_diary_0 (j := 11) rfl)
theorem dX9_diary_12 : decode cX9_diary 12 = .ok (.ldc2_w 185, 3) := dk_20 (byr_X9_diary_0 (j := 12) rfl) (byr_X9_diary_0 (j := 13) rfl) (byr_X9_diary_0 (j := 14) rfl) (by decide)
theorem dX9_diary_15 : decode cX9_diary 15 = .ok (.invokestatic 49, 3) := dk_184 (byr_X9_diary_0 (j := 15) rfl) (byr_X9_diary_1 (j := 0) rfl) (byr_X9_diary_1 (j := 1) rfl) (by decide)
theorem dX9_diary_18 : decode cX9_diary 18 = .ok (.ifCond .eq 27, 3) := dk_153 (byr_X9_diary_1 (j := 2) rfl) (byr_X9_diary_1 (j := 3) rfl) (byr_X9_diary_1 (j := 4) rfl) (by decide)
theorem dX9_diary_21 : decode cX9_diary 21 = .ok (.iload 4, 2) := dk_21 (byr_X9_diary_1 (j := 5) rfl) (byr_X9_diary_1 (j := 6) rfl)
theorem dX9_diary_23 : decode cX9_diary 23 = .ok (.i2l, 1) := dk_133 (byr_X9_diary_1 (j := 7) rfl)
theorem dX9_diary_24 : decode cX9_diary 24 = .ok (.lconst 0, 1) := dk_9 (byr_X9_diary_1 (j := 8) rfl)
theorem dX9_diary_25 : decode cX9_diary 25 = .ok (.ldc2_w 159, 3) := dk_20 (byr_X9_diary_1 (j := 9) rfl) (byr_X9_diary_1 (j := 10) rfl) (byr_X9_diary_1 (j := 11) rfl) (by decide)
theorem dX9_diary_28 : decode cX9_diary 28 = .ok (.invokestatic 49, 3) := dk_184 (byr_X9_diary_1 (j := 12) rfl) (byr_X9_diary_1 (j := 13) rfl) (byr_X9_diary_1 (j := 14) rfl) (by decide)
theorem dX9_diary_31 : decode cX9_diary 31 = .ok (.ifCond .eq 14, 3) := dk_153 (byr_X9_diary_1 (j := 15) rfl) (byr_X9_diary_2 (j := 0) rfl) (byr_X9_diary_2 (j := 1) rfl) (by decide)
theorem dX9_diary_34 : decode cX9_diary 34 = .ok (.iload 5, 2) := dk_21 (byr_X9_diary_2 (j := 2) rfl) (byr_X9_diary_2 (j := 3) rfl)
theorem dX9_diary_36 : decode cX9_diary 36 = .ok (.i2l, 1) := dk_133 (byr_X9_diary_2 (j := 4) rfl)
theorem dX9_diary_37 : decode cX9_diary 37 = .ok (.lconst 0, 1) := dk_9 (byr_X9_diary_2 (j := 5) rfl)
theorem dX9_diary_38 : decode cX9_diary 38 = .ok (.lconst 1, 1) := dk_10 (byr_X9_diary_2 (j := 6) rfl)
theorem dX9_diary_39 : decode cX9_diary 39 = .ok (.invokestatic 49, 3) := dk_184 (byr_X9_diary_2 (j := 7) rfl) (byr_X9_diary_2 (j := 8) rfl) (byr_X9_diary_2 (j := 9) rfl) (by decide)
theorem dX9_diary_42 : decode cX9_diary 42 = .ok (.ifCond .ne 9, 3) := dk_154 (byr_X9_diary_2 (j := 10) rfl) (byr_X9_diary_2 (j := 11) rfl) (byr_X9_diary_2 (j := 12) rfl) (by decide)
theorem dX9_diary_45 : decode cX9_diary 45 = .ok (.aload_n 0, 1) := dk_42 (byr_X9_diary_2 (j := 13) rfl)
theorem dX9_diary_46 : decode cX9_diary 46 = .ok (.iconst 1, 1) := dk_4 (byr_X9_diary_2 (j := 14) rfl)
theorem dX9_diary_47 : decode cX9_diary 47 = .ok (.invokevirtual 126, 3) := dk_182 (byr_X9_diary_2 (j := 15) rfl) (byr_X9_diary_3 (j := 0) rfl) (byr_X9_diary_3 (j := 1) rfl) (by decide)
theorem dX9_diary_50 : decode cX9_diary 50 = .ok (.ireturn, 1) := dk_172 (byr_X9_diary_3 (j := 2) rfl)
theorem dX9_diary_51 : decode cX9_diary 51 = .ok (.aload_n 0, 1) := dk_42 (byr_X9_diary_3 (j := 3) rfl)
theorem dX9_diary_52 : decode cX9_diary 52 = .ok (.getfield 7, 3) := dk_180 (byr_X9_diary_3 (j := 4) rfl) (byr_X9_diary_3 (j := 5) rfl) (byr_X9_diary_3 (j := 6) rfl) (by decide)
theorem dX9_diary_55 : decode cX9_diary 55 = .ok (.aload_n 0, 1) := dk_42 (byr_X9_diary_3 (j := 7) rfl)
theorem dX9_diary_56 : decode cX9_diary 56 = .ok (.getfield 13, 3) := dk_180 (byr_X9_diary_3 (j := 8) rfl) (byr_X9_diary_3 (j := 9) rfl) (byr_X9_diary_3 (j := 10) rfl) (by decide)
theorem dX9_diary_59 : decode cX9_diary 59 = .ok (.invokestatic 231, 3) := dk_184 (byr_X9_diary_3 (j := 11) rfl) (byr_X9_diary_3 (j := 12) rfl) (byr_X9_diary_3 (j := 13) rfl) (by decide)
theorem dX9_diary_62 : decode cX9_diary 62 = .ok (.iconst 0, 1) := dk_3 (byr_X9_diary_3 (j := 14) rfl)
theorem dX9_diary_63 : decode cX9_diary 63 = .ok (.istore 6, 2) := dk_54 (byr_X9_diary_3 (j := 15) rfl) (byr_X9_diary_4 (j := 0) rfl)
theorem dX9_diary_65 : decode cX9_diary 65 = .ok (.iconst (-1), 1) := dk_2 (byr_X9_diary_4 (j := 1) rfl)
theorem dX9_diary_66 : decode cX9_diary 66 = .ok (.istore 7, 2) := dk_54 (byr_X9_diary_4 (j := 2) rfl) (byr_X9_diary_4 (j := 3) rfl)
theorem dX9_diary_68 : decode cX9_diary 68 = .ok (.iconst 0, 1) := dk_3 (byr_X9_diary_4 (j := 4) rfl)
theorem dX9_diary_69 : decode cX9_diary 69 = .ok (.istore 8, 2) := dk_54 (byr_X9_diary_4 (j := 5) rfl) (byr_X9_diary_4 (j := 6) rfl)
theorem dX9_diary_71 : decode cX9_diary 71 = .ok (.iload 8, 2) := dk_21 (byr_X9_diary_4 (j := 7) rfl) (byr_X9_diary_4 (j := 8) rfl)
theorem dX9_diary_73 : decode cX9_diary 73 = .ok (.bipush 36, 2) := dk_16 (byr_X9_diary_4 (j := 9) rfl) (byr_X9_diary_4 (j := 10) rfl) (by decide)
theorem dX9_diary_75 : decode cX9_diary 75 = .ok (.if_icmp .ge 114, 3) := dk_162 (byr_X9_diary_4 (j := 11) rfl) (byr_X9_diary_4 (j := 12) rfl) (byr_X9_diary_4 (j := 13) rfl) (by decide)
theorem dX9_diary_78 : decode cX9_diary 78 = .ok (.aload_n 0, 1) := dk_42 (byr_X9_diary_4 (j := 14) rfl)
theorem dX9_diary_79 : decode cX9_diary 79 = .ok (.iload_n 1, 1) := dk_27 (byr_X9_diary_4 (j := 15) rfl)
theorem dX9_diary_80 : decode cX9_diary 80 = .ok (.iload 8, 2) := dk_21 (byr_X9_diary_5 (j := 0) rfl) (byr_X9_diary_5 (j := 1) rfl)
theorem dX9_diary_82 : decode cX9_diary 82 = .ok (.bipush 6, 2) := dk_16 (byr_X9_diary_5 (j := 2) rfl) (byr_X9_diary_5 (j := 3) rfl) (by decide)
theorem dX9_diary_84 : decode cX9_diary 84 = .ok (.idiv, 1) := dk_108 (byr_X9_diary_5 (j := 4) rfl)
theorem dX9_diary_85 : decode cX9_diary 85 = .ok (.iload 8, 2) := dk_21 (byr_X9_diary_5 (j := 5) rfl) (byr_X9_diary_5 (j := 6) rfl)
theorem dX9_diary_87 : decode cX9_diary 87 = .ok (.bipush 6, 2) := dk_16 (byr_X9_diary_5 (j := 7) rfl) (byr_X9_diary_5 (j := 8) rfl) (by decide)
theorem dX9_diary_89 : decode cX9_diary 89 = .ok (.idiv, 1) := dk_108 (byr_X9_diary_5 (j := 9) rfl)
theorem dX9_diary_90 : decode cX9_diary 90 = .ok (.iload 8, 2) := dk_21 (byr_X9_diary_5 (j := 10) rfl) (byr_X9_diary_5 (j := 11) rfl)
theorem dX9_diary_92 : decode cX9_diary 92 = .ok (.bipush 6, 2) := dk_16 (byr_X9_diary_5 (j := 12) rfl) (byr_X9_diary_5 (j := 13) rfl) (by decide)
theorem dX9_diary_94 : decode cX9_diary 94 = .ok (.idiv, 1) := dk_108 (byr_X9_diary_5 (j := 14) rfl)
theorem dX9_diary_95 : decode cX9_diary 95 = .ok (.iload 8, 2) := dk_21 (byr_X9_diary_5 (j := 15) rfl) (byr_X9_diary_6 (j := 0) rfl)
theorem dX9_diary_97 : decode cX9_diary 97 = .ok (.bipush 6, 2) := dk_16 (byr_X9_diary_6 (j := 1) rfl) (byr_X9_diary_6 (j := 2) rfl) (by decide)
theorem dX9_diary_99 : decode cX9_diary 99 = .ok (.idiv, 1) := dk_108 (byr_X9_diary_6 (j := 3) rfl)
theorem dX9_diary_100 : decode cX9_diary 100 = .ok (.invokevirtual 238, 3) := dk_182 (byr_X9_diary_6 (j := 4) rfl) (byr_X9_diary_6 (j := 5) rfl) (byr_X9_diary_6 (j := 6) rfl) (by decide)
theorem dX9_diary_103 : decode cX9_diary 103 = .ok (.aload_n 0, 1) := dk_42 (byr_X9_diary_6 (j := 7) rfl)
theorem dX9_diary_104 : decode cX9_diary 104 = .ok (.iload_n 2, 1) := dk_28 (byr_X9_diary_6 (j := 8) rfl)
theorem dX9_diary_105 : decode cX9_diary 105 = .ok (.iload 8, 2) := dk_21 (byr_X9_diary_6 (j := 9) rfl) (byr_X9_diary_6 (j := 10) rfl)
theorem dX9_diary_107 : decode cX9_diary 107 = .ok (.bipush 6, 2) := dk_16 (byr_X9_diary_6 (j := 11) rfl) (byr_X9_diary_6 (j := 12) rfl) (by decide)
theorem dX9_diary_109 : decode cX9_diary 109 = .ok (.irem, 1) := dk_112 (byr_X9_diary_6 (j := 13) rfl)
theorem dX9_diary_110 : decode cX9_diary 110 = .ok (.iload 8, 2) := dk_21 (byr_X9_diary_6 (j := 14) rfl) (byr_X9_diary_6 (j := 15) rfl)
theorem dX9_diary_112 : decode cX9_diary 112 = .ok (.bipush 6, 2) := dk_16 (byr_X9_diary_7 (j := 0) rfl) (byr_X9_diary_7 (j := 1) rfl) (by decide)
theorem dX9_diary_114 : decode cX9_diary 114 = .ok (.irem, 1) := dk_112 (byr_X9_diary_7 (j := 2) rfl)
theorem dX9_diary_115 : decode cX9_diary 115 = .ok (.iload 8, 2) := dk_21 (byr_X9_diary_7 (j := 3) rfl) (byr_X9_diary_7 (j := 4) rfl)
theorem dX9_diary_117 : decode cX9_diary 117 = .ok (.bipush 6, 2) := dk_16 (byr_X9_diary_7 (j := 5) rfl) (byr_X9_diary_7 (j := 6) rfl) (by decide)
theorem dX9_diary_119 : decode cX9_diary 119 = .ok (.irem, 1) := dk_112 (byr_X9_diary_7 (j := 7) rfl)
theorem dX9_diary_120 : decode cX9_diary 120 = .ok (.iload 8, 2) := dk_21 (byr_X9_diary_7 (j := 8) rfl) (byr_X9_diary_7 (j := 9) rfl)
theorem dX9_diary_122 : decode cX9_diary 122 = .ok (.bipush 6, 2) := dk_16 (byr_X9_diary_7 (j := 10) rfl) (byr_X9_diary_7 (j := 11) rfl) (by decide)
theorem dX9_diary_124 : decode cX9_diary 124 = .ok (.irem, 1) := dk_112 (byr_X9_diary_7 (j := 12) rfl)
theorem dX9_diary_125 : decode cX9_diary 125 = .ok (.invokevirtual 238, 3) := dk_182 (byr_X9_diary_7 (j := 13) rfl) (byr_X9_diary_7 (j := 14) rfl) (byr_X9_diary_7 (j := 15) rfl) (by decide)
theorem dX9_diary_128 : decode cX9_diary 128 = .ok (.aload_n 0, 1) := dk_42 (byr_X9_diary_8 (j := 0) rfl)
theorem dX9_diary_129 : decode cX9_diary 129 = .ok (.iload_n 1, 1) := dk_27 (byr_X9_diary_8 (j := 1) rfl)
theorem dX9_diary_130 : decode cX9_diary 130 = .ok (.iload_n 2, 1) := dk_28 (byr_X9_diary_8 (j := 2) rfl)
theorem dX9_diary_131 : decode cX9_diary 131 = .ok (.invokevirtual 213, 3) := dk_182 (byr_X9_diary_8 (j := 3) rfl) (byr_X9_diary_8 (j := 4) rfl) (byr_X9_diary_8 (j := 5) rfl) (by decide)
theorem dX9_diary_134 : decode cX9_diary 134 = .ok (.ifCond .eq 49, 3) := dk_153 (byr_X9_diary_8 (j := 6) rfl) (byr_X9_diary_8 (j := 7) rfl) (byr_X9_diary_8 (j := 8) rfl) (by decide)
theorem dX9_diary_137 : decode cX9_diary 137 = .ok (.aload_n 0, 1) := dk_42 (byr_X9_diary_8 (j := 9) rfl)
theorem dX9_diary_138 : decode cX9_diary 138 = .ok (.getfield 201, 3) := dk_180 (byr_X9_diary_8 (j := 10) rfl) (byr_X9_diary_8 (j := 11) rfl) (byr_X9_diary_8 (j := 12) rfl) (by decide)
theorem dX9_diary_141 : decode cX9_diary 141 = .ok (.iload_n 3, 1) := dk_29 (byr_X9_diary_8 (j := 13) rfl)
theorem dX9_diary_142 : decode cX9_diary 142 = .ok (.if_icmp .ne 41, 3) := dk_160 (byr_X9_diary_8 (j := 14) rfl) (byr_X9_diary_8 (j := 15) rfl) (byr_X9_diary_9 (j := 0) rfl) (by decide)
theorem dX9_diary_145 : decode cX9_diary 145 = .ok (.aload_n 0, 1) := dk_42 (byr_X9_diary_9 (j := 1) rfl)
theorem dX9_diary_146 : decode cX9_diary 146 = .ok (.getfield 204, 3) := dk_180 (byr_X9_diary_9 (j := 2) rfl) (byr_X9_diary_9 (j := 3) rfl) (byr_X9_diary_9 (j := 4) rfl) (by decide)
theorem dX9_diary_149 : decode cX9_diary 149 = .ok (.iload 4, 2) := dk_21 (byr_X9_diary_9 (j := 5) rfl) (byr_X9_diary_9 (j := 6) rfl)
theorem dX9_diary_151 : decode cX9_diary 151 = .ok (.if_icmp .ne 32, 3) := dk_160 (byr_X9_diary_9 (j := 7) rfl) (byr_X9_diary_9 (j := 8) rfl) (byr_X9_diary_9 (j := 9) rfl) (by decide)
theorem dX9_diary_154 : decode cX9_diary 154 = .ok (.iinc 6 1, 3) := dk_132 (byr_X9_diary_9 (j := 10) rfl) (byr_X9_diary_9 (j := 11) rfl) (byr_X9_diary_9 (j := 12) rfl) (by decide)
theorem dX9_diary_157 : decode cX9_diary 157 = .ok (.iload 7, 2) := dk_21 (byr_X9_diary_9 (j := 13) rfl) (byr_X9_diary_9 (j := 14) rfl)
theorem dX9_diary_159 : decode cX9_diary 159 = .ok (.ifCond .ge 20, 3) := dk_156 (byr_X9_diary_9 (j := 15) rfl) (byr_X9_diary_10 (j := 0) rfl) (byr_X9_diary_10 (j := 1) rfl) (by decide)
theorem dX9_diary_162 : decode cX9_diary 162 = .ok (.bipush 10, 2) := dk_16 (byr_X9_diary_10 (j := 2) rfl) (byr_X9_diary_10 (j := 3) rfl) (by decide)
theorem dX9_diary_164 : decode cX9_diary 164 = .ok (.iload 8, 2) := dk_21 (byr_X9_diary_10 (j := 4) rfl) (byr_X9_diary_10 (j := 5) rfl)
theorem dX9_diary_166 : decode cX9_diary 166 = .ok (.bipush 6, 2) := dk_16 (byr_X9_diary_10 (j := 6) rfl) (byr_X9_diary_10 (j := 7) rfl) (by decide)
theorem dX9_diary_168 : decode cX9_diary 168 = .ok (.idiv, 1) := dk_108 (byr_X9_diary_10 (j := 8) rfl)
theorem dX9_diary_169 : decode cX9_diary 169 = .ok (.imul, 1) := dk_104 (byr_X9_diary_10 (j := 9) rfl)
theorem dX9_diary_170 : decode cX9_diary 170 = .ok (.iload 8, 2) := dk_21 (byr_X9_diary_10 (j := 10) rfl) (byr_X9_diary_10 (j := 11) rfl)
theorem dX9_diary_172 : decode cX9_diary 172 = .ok (.bipush 6, 2) := dk_16 (byr_X9_diary_10 (j := 12) rfl) (byr_X9_diary_10 (j := 13) rfl) (by decide)
theorem dX9_diary_174 : decode cX9_diary 174 = .ok (.irem, 1) := dk_112 (byr_X9_diary_10 (j := 14) rfl)
theorem dX9_diary_175 : decode cX9_diary 175 = .ok (.iadd, 1) := dk_96 (byr_X9_diary_10 (j := 15) rfl)
theorem dX9_diary_176 : decode cX9_diary 176 = .ok (.goto 5, 3) := dk_167 (byr_X9_diary_11 (j := 0) rfl) (byr_X9_diary_11 (j := 1) rfl) (byr_X9_diary_11 (j := 2) rfl) (by decide)
theorem dX9_diary_179 : decode cX9_diary 179 = .ok (.iload 7, 2) := dk_21 (byr_X9_diary_11 (j := 3) rfl) (byr_X9_diary_11 (j := 4) rfl)
theorem dX9_diary_181 : decode cX9_diary 181 = .ok (.istore 7, 2) := dk_54 (byr_X9_diary_11 (j := 5) rfl) (byr_X9_diary_11 (j := 6) rfl)
theorem dX9_diary_183 : decode cX9_diary 183 = .ok (.iinc 8 1, 3) := dk_132 (byr_X9_diary_11 (j := 7) rfl) (byr_X9_diary_11 (j := 8) rfl) (byr_X9_diary_11 (j := 9) rfl) (by decide)
theorem dX9_diary_186 : decode cX9_diary 186 = .ok (.goto (-115), 3) := dk_167 (byr_X9_diary_11 (j := 10) rfl) (byr_X9_diary_11 (j := 11) rfl) (byr_X9_diary_11 (j := 12) rfl) (by decide)
theorem dX9_diary_189 : decode cX9_diary 189 = .ok (.aload_n 0, 1) := dk_42 (byr_X9_diary_11 (j := 13) rfl)
theorem dX9_diary_190 : decode cX9_diary 190 = .ok (.getfield 13, 3) := dk_180 (byr_X9_diary_11 (j := 14) rfl) (byr_X9_diary_11 (j := 15) rfl) (byr_X9_diary_12 (j := 0) rfl) (by decide)
theorem dX9_diary_193 : decode cX9_diary 193 = .ok (.aload_n 0, 1) := dk_42 (byr_X9_diary_12 (j := 1) rfl)
theorem dX9_diary_194 : decode cX9_diary 194 = .ok (.getfield 7, 3) := dk_180 (byr_X9_diary_12 (j := 2) rfl) (byr_X9_diary_12 (j := 3) rfl) (byr_X9_diary_12 (j := 4) rfl) (by decide)
theorem dX9_diary_197 : decode cX9_diary 197 = .ok (.invokestatic 231, 3) := dk_184 (byr_X9_diary_12 (j := 5) rfl) (byr_X9_diary_12 (j := 6) rfl) (byr_X9_diary_12 (j := 7) rfl) (by decide)
theorem dX9_diary_200 : decode cX9_diary 200 = .ok (.iload 5, 2) := dk_21 (byr_X9_diary_12 (j := 8) rfl) (byr_X9_diary_12 (j := 9) rfl)
theorem dX9_diary_202 : decode cX9_diary 202 = .ok (.ifCond .ne 8, 3) := dk_154 (byr_X9_diary_12 (j := 10) rfl) (byr_X9_diary_12 (j := 11) rfl) (byr_X9_diary_12 (j := 12) rfl) (by decide)
theorem dX9_diary_205 : decode cX9_diary 205 = .ok (.iload 6, 2) := dk_21 (byr_X9_diary_12 (j := 13) rfl) (byr_X9_diary_12 (j := 14) rfl)
theorem dX9_diary_207 : decode cX9_diary 207 = .ok (.goto 18, 3) := dk_167 (byr_X9_diary_12 (j := 15) rfl) (byr_X9_diary_13 (j := 0) rfl) (byr_X9_diary_13 (j := 1) rfl) (by decide)
theorem dX9_diary_210 : decode cX9_diary 210 = .ok (.iload 7, 2) := dk_21 (byr_X9_diary_13 (j := 2) rfl) (byr_X9_diary_13 (j := 3) rfl)
theorem dX9_diary_212 : decode cX9_diary 212 = .ok (.ifCond .ge 11, 3) := dk_156 (byr_X9_diary_13 (j := 4) rfl) (byr_X9_diary_13 (j := 5) rfl) (byr_X9_diary_13 (j := 6) rfl) (by decide)
theorem dX9_diary_215 : decode cX9_diary 215 = .ok (.aload_n 0, 1) := dk_42 (byr_X9_diary_13 (j := 7) rfl)
theorem dX9_diary_216 : decode cX9_diary 216 = .ok (.iconst 2, 1) := dk_5 (byr_X9_diary_13 (j := 8) rfl)
theorem dX9_diary_217 : decode cX9_diary 217 = .ok (.invokevirtual 126, 3) := dk_182 (byr_X9_diary_13 (j := 9) rfl) (byr_X9_diary_13 (j := 10) rfl) (byr_X9_diary_13 (j := 11) rfl) (by decide)
theorem dX9_diary_220 : decode cX9_diary 220 = .ok (.goto 5, 3) := dk_167 (byr_X9_diary_13 (j := 12) rfl) (byr_X9_diary_13 (j := 13) rfl) (byr_X9_diary_13 (j := 14) rfl) (by decide)
theorem dX9_diary_223 : decode cX9_diary 223 = .ok (.iload 7, 2) := dk_21 (byr_X9_diary_13 (j := 15) rfl) (byr_X9_diary_14 (j := 0) rfl)
theorem dX9_diary_225 : decode cX9_diary 225 = .ok (.ireturn, 1) := dk_172 (byr_X9_diary_14 (j := 1) rfl)
set_option maxHeartbeats 4000000 in
set_option maxRecDepth 100000 in
theorem c_X9_diary (l : Launch) (G : GT) (σ : Sto) (a1 : Int32) (a2 : Int32) (a3 : Int32) (a4 : Int32) (a5 : Int32) (r : (Int32 × Sto)) (h : f_X9_diary σ a1 a2 a3 a4 a5 = some r) : MW l G (8) (208) 0 0 yX9_diary cX9_diary 9 (Option.some Jvm.ClassFile.FieldType.int) [.ref (gad G 81), .int a1, .int a2, .int a3, .int a4, .int a5] (wl G σ) (some (.int r.1)) (wl G r.2) := by
  refine mw_of RX9 (fiI G) [(0, .ref (gad G 81)), (1, .int a1), (2, .int a2), (3, .int a3), (4, .int a4), (5, .int a5)] (by decide +kernel) rfl (Nat.le_of_ble_eq_true rfl) rfl h rfl (fun p e s m args below meth c X hr hnm => ?_)
  have J183 : ∀ (v1 : Int32) (v2 : Int32) (v3 : Int32) (v4 : Int32) (v5 : Int32) (v6 : Int32) (v7 : Int32) (v8 : Int32) (K71 : Int32 → Int32 → Int32 → Sto → Option (Int32 × Sto)) (hK71 : ∀ (v6' : Int32) (v7' : Int32) (v8' : Int32) (σ' : Sto), Sm p l e { frames := 8, cells := 0, slots := 0, locals := 208 } s m args below meth c G 9 (Qm below args s G 0 0 (fiI G)) 0 0 (wl G σ') 71 [(0, .ref (gad G 81)), (1, .int v1), (2, .int v2), (3, .int v3), (4, .int v4), (5, .int v5), (6, .int v6'), (7, .int v7'), (8, .int v8')] [] (K71 v6' v7' v8' σ')) (σ : Sto), Sm p l e { frames := 8, cells := 0, slots := 0, locals := 208 } s m args below meth c G 9 (Qm below args s G 0 0 (fiI G)) 0 0 (wl G σ) 183 [(0, .ref (gad G 81)), (1, .int v1), (2, .int v2), (3, .int v3), (4, .int v4), (5, .int v5), (6, .int v6), (7, .int v7), (8, .int v8)] [] (f_X9_diary_L183 K71 v1 v2 v3 v4 v5 v6 v7 v8 σ) := by
    intro v1 v2 v3 v4 v5 v6 v7 v8 K71 hK71 σ
    rw [f_X9_diary_L183]
    refine sm_iinc X 186 8 (1 : Int32) [(8, .int (v8 + (1 : Int32))), (0, .ref (gad G 81)), (1, .int v1), (2, .int v2), (3, .int v3), (4, .int v4), (5, .int v5), (6, .int v6), (7, .int v7)] dX9_diary_183 rfl rfl rfl (by decide) rfl ?_
    refine sm_goto X 71 dX9_diary_186 (by decide) ?_
    exact sm_sub [1, 2, 3, 4, 5, 6, 7, 8, 0] rfl (hK71 v6 v7 (v8 + (1 : Int32)) σ)
  have J181 : ∀ (v1 : Int32) (v2 : Int32) (v3 : Int32) (v4 : Int32) (v5 : Int32) (v6 : Int32) (v8 : Int32) (vs0 : Int32) (K71 : Int32 → Int32 → Int32 → Sto → Option (Int32 × Sto)) (hK71 : ∀ (v6' : Int32) (v7' : Int32) (v8' : Int32) (σ' : Sto), Sm p l e { frames := 8, cells := 0, slots := 0, locals := 208 } s m args below meth c G 9 (Qm below args s G 0 0 (fiI G)) 0 0 (wl G σ') 71 [(0, .ref (gad G 81)), (1, .int v1), (2, .int v2), (3, .int v3), (4, .int v4), (5, .int v5), (6, .int v6'), (7, .int v7'), (8, .int v8')] [] (K71 v6' v7' v8' σ')) (σ : Sto), Sm p l e { frames := 8, cells := 0, slots := 0, locals := 208 } s m args below meth c G 9 (Qm below args s G 0 0 (fiI G)) 0 0 (wl G σ) 181 [(0, .ref (gad G 81)), (1, .int v1), (2, .int v2), (3, .int v3), (4, .int v4), (5, .int v5), (6, .int v6), (8, .int v8)] [.int vs0] (f_X9_diary_L181 K71 v1 v2 v3 v4 v5 v6 v8 vs0 σ) := by
    intro v1 v2 v3 v4 v5 v6 v8 vs0 K71 hK71 σ
    rw [f_X9_diary_L181]
    refine sm_istore X 183 [(7, .int vs0), (0, .ref (gad G 81)), (1, .int v1), (2, .int v2), (3, .int v3), (4, .int v4), (5, .int v5), (6, .int v6), (8, .int v8)] dX9_diary_181 rfl (by decide) rfl ?_
    exact sm_sub [1, 2, 3, 4, 5, 6, 7, 0, 8] rfl (J183 v1 v2 v3 v4 v5 v6 vs0 v8 K71 hK71 σ)
  have J71 : ∀ (v1 : Int32) (v2 : Int32) (v3 : Int32) (v4 : Int32) (v5 : Int32)  (n : Nat) (v6 : Int32) (v7 : Int32) (v8 : Int32) (σ : Sto), Sm p l e { frames := 8, cells := 0, slots := 0, locals := 208 } s m args below meth c G 9 (Qm below args s G 0 0 (fiI G)) 0 0 (wl G σ) 71 [(0, .ref (gad G 81)), (1, .int v1), (2, .int v2), (3, .int v3), (4, .int v4), (5, .int v5), (6, .int v6), (7, .int v7), (8, .int v8)] [] (f_X9_diary_L71  v1 v2 v3 v4 v5 n v6 v7 v8 σ) := by
    intro v1 v2 v3 v4 v5 n
    induction n with
    | zero => intro v6 v7 v8 σ; rw [f_X9_diary_L71]; exact sm_none
    | succ n ihl =>
      intro v6 v7 v8 σ
      rw [f_X9_diary_L71]
      refine sm_iload X 73 8 dX9_diary_71 rfl rfl ?_
      refine sm_bipush X 75 (36) dX9_diary_73 rfl rfl ?_
      refine sm_icmp_ge X 78 189 dX9_diary_75 rfl (by decide) (fun h75 => ?_) (fun h75 => ?_)
      · refine sm_aload_n X 190 0 dX9_diary_189 rfl rfl rfl ?_
        refine sm_getf X 193 83 rfl fd_9_1 rfl dX9_diary_190 rfl q_883 ?_
        refine sm_aload_n X 194 0 dX9_diary_193 rfl rfl rfl ?_
        refine sm_getf X 197 82 rfl fd_9_0 rfl dX9_diary_194 rfl q_882 ?_
        refine sm_bind (fun r197 h197 => ?_)
        refine sm_callS0 X 200 [.ref (gad G 83), .ref (gad G 82)] [] [] (c_X9_copies l G σ 83 rfl 82 rfl r197 h197) cw_X9_copies q_1182 q_1181 rfl rfl rfl (Nat.le_of_ble_eq_true rfl) ⟨Nat.le_of_ble_eq_true rfl, Nat.le_of_ble_eq_true rfl⟩ ⟨Nat.le_refl _, Nat.le_refl _⟩ dX9_diary_197 rfl ?_
        refine sm_iload X 202 5 dX9_diary_200 rfl rfl ?_
        refine sm_if_ne X 205 210 dX9_diary_202 rfl (by decide) (fun h202 => ?_) (fun h202 => ?_)
        · refine sm_iload X 207 6 dX9_diary_205 rfl rfl ?_
          refine sm_goto X 225 dX9_diary_207 (by decide) ?_
          exact sm_iret X hr dX9_diary_225 rfl
        · refine sm_iload X 212 7 dX9_diary_210 rfl rfl ?_
          refine sm_if_ge X 215 223 dX9_diary_212 rfl (by decide) (fun h212 => ?_) (fun h212 => ?_)
          · refine sm_iload X 225 7 dX9_diary_223 rfl rfl ?_
            exact sm_iret X hr dX9_diary_225 rfl
          · refine sm_aload_n X 216 0 dX9_diary_215 rfl rfl rfl ?_
            refine sm_iconst X 217 (2) dX9_diary_216 rfl rfl ?_
            refine sm_bind (fun r217 h217 => ?_)
            refine sm_callV0 X 220 [.int 2] [] [.int r217.1] (c_X9_finds l G r197 (2 : Int32) r217 h217) cw_X9_finds q_965 qs_26 q_963 rfl (by decide) rfl rfl rfl rfl rfl (Nat.le_of_ble_eq_true rfl) ⟨Nat.le_of_ble_eq_true rfl, Nat.le_of_ble_eq_true rfl⟩ ⟨Nat.le_refl _, Nat.le_refl _⟩ dX9_diary_217 rfl ?_
            refine sm_goto X 225 dX9_diary_220 (by decide) ?_
            exact sm_iret X hr dX9_diary_225 rfl
      · refine sm_aload_n X 79 0 dX9_diary_78 rfl rfl rfl ?_
        refine sm_iload_n X 80 1 dX9_diary_79 rfl rfl rfl ?_
        refine sm_iload X 82 8 dX9_diary_80 rfl rfl ?_
        refine sm_bipush X 84 (6) dX9_diary_82 rfl rfl ?_
        refine sm_idiv X 85 dX9_diary_84 rfl (by first | decide | assumption) ?_
        refine sm_iload X 87 8 dX9_diary_85 rfl rfl ?_
        refine sm_bipush X 89 (6) dX9_diary_87 rfl rfl ?_
        refine sm_idiv X 90 dX9_diary_89 rfl (by first | decide | assumption) ?_
        refine sm_iload X 92 8 dX9_diary_90 rfl rfl ?_
        refine sm_bipush X 94 (6) dX9_diary_92 rfl rfl ?_
        refine sm_idiv X 95 dX9_diary_94 rfl (by first | decide | assumption) ?_
        refine sm_iload X 97 8 dX9_diary_95 rfl rfl ?_
        refine sm_bipush X 99 (6) dX9_diary_97 rfl rfl ?_
        refine sm_idiv X 100 dX9_diary_99 rfl (by first | decide | assumption) ?_
        refine sm_bind (fun r100 h100 => ?_)
        refine sm_callV0 X 103 [.int v1, .int (v8 / (6 : Int32)), .int (v8 / (6 : Int32)), .int (v8 / (6 : Int32)), .int (v8 / (6 : Int32))] [] [] (c_X9_plans l G σ v1 (v8 / (6 : Int32)) (v8 / (6 : Int32)) (v8 / (6 : Int32)) (v8 / (6 : Int32)) r100 h100) cw_X9_plans q_1189 qs_54 q_1187 rfl (by decide) rfl rfl rfl rfl rfl (Nat.le_of_ble_eq_true rfl) ⟨Nat.le_of_ble_eq_true rfl, Nat.le_of_ble_eq_true rfl⟩ ⟨Nat.le_refl _, Nat.le_refl _⟩ dX9_diary_100 rfl ?_
        refine sm_aload_n X 104 0 dX9_diary_103 rfl rfl rfl ?_
        refine sm_iload_n X 105 2 dX9_diary_104 rfl rfl rfl ?_
        refine sm_iload X 107 8 dX9_diary_105 rfl rfl ?_
        refine sm_bipush X 109 (6) dX9_diary_107 rfl rfl ?_
        refine sm_irem X 110 dX9_diary_109 rfl (by first | decide | assumption) ?_
        refine sm_iload X 112 8 dX9_diary_110 rfl rfl ?_
        refine sm_bipush X 114 (6) dX9_diary_112 rfl rfl ?_
        refine sm_irem X 115 dX9_diary_114 rfl (by first | decide | assumption) ?_
        refine sm_iload X 117 8 dX9_diary_115 rfl rfl ?_
        refine sm_bipush X 119 (6) dX9_diary_117 rfl rfl ?_
        refine sm_irem X 120 dX9_diary_119 rfl (by first | decide | assumption) ?_
        refine sm_iload X 122 8 dX9_diary_120 rfl rfl ?_
        refine sm_bipush X 124 (6) dX9_diary_122 rfl rfl ?_
        refine sm_irem X 125 dX9_diary_124 rfl (by first | decide | assumption) ?_
        refine sm_bind (fun r125 h125 => ?_)
        refine sm_callV0 X 128 [.int v2, .int (irem v8 (6 : Int32)), .int (irem v8 (6 : Int32)), .int (irem v8 (6 : Int32)), .int (irem v8 (6 : Int32))] [] [] (c_X9_plans l G r100 v2 (irem v8 (6 : Int32)) (irem v8 (6 : Int32)) (irem v8 (6 : Int32)) (irem v8 (6 : Int32)) r125 h125) cw_X9_plans q_1189 qs_54 q_1187 rfl (by decide) rfl rfl rfl rfl rfl (Nat.le_of_ble_eq_true rfl) ⟨Nat.le_of_ble_eq_true rfl, Nat.le_of_ble_eq_true rfl⟩ ⟨Nat.le_refl _, Nat.le_refl _⟩ dX9_diary_125 rfl ?_
        refine sm_aload_n X 129 0 dX9_diary_128 rfl rfl rfl ?_
        refine sm_iload_n X 130 1 dX9_diary_129 rfl rfl rfl ?_
        refine sm_iload_n X 131 2 dX9_diary_130 rfl rfl rfl ?_
        refine sm_bind (fun r131 h131 => ?_)
        refine sm_callV0 X 134 [.int v1, .int v2] [] [.int (b2i r131.1)] (c_X9_swim l G r125 v1 v2 r131 h131) cw_X9_swim q_1152 qs_50 q_1150 rfl (by decide) rfl rfl rfl rfl rfl (Nat.le_of_ble_eq_true rfl) ⟨Nat.le_of_ble_eq_true rfl, Nat.le_of_ble_eq_true rfl⟩ ⟨Nat.le_refl _, Nat.le_refl _⟩ dX9_diary_131 rfl ?_
        refine sm_ifz_eq X 137 183 dX9_diary_134 rfl (by decide) (fun h134 => ?_) (fun h134 => ?_)
        · refine sm_aload_n X 138 0 dX9_diary_137 rfl rfl rfl ?_
          refine sm_geti X 141 rfl fd_9_15 dX9_diary_138 rfl q_897 ?_
          refine sm_iload_n X 142 3 dX9_diary_141 rfl rfl rfl ?_
          refine sm_icmp_ne X 145 183 dX9_diary_142 rfl (by decide) (fun h142 => ?_) (fun h142 => ?_)
          · refine sm_aload_n X 146 0 dX9_diary_145 rfl rfl rfl ?_
            refine sm_geti X 149 rfl fd_9_16 dX9_diary_146 rfl q_898 ?_
            refine sm_iload X 151 4 dX9_diary_149 rfl rfl ?_
            refine sm_icmp_ne X 154 183 dX9_diary_151 rfl (by decide) (fun h151 => ?_) (fun h151 => ?_)
            · refine sm_iinc X 157 6 (1 : Int32) [(6, .int (v6 + (1 : Int32))), (0, .ref (gad G 81)), (1, .int v1), (2, .int v2), (3, .int v3), (4, .int v4), (5, .int v5), (7, .int v7), (8, .int v8)] dX9_diary_154 rfl rfl rfl (by decide) rfl ?_
              refine sm_iload X 159 7 dX9_diary_157 rfl rfl ?_
              refine sm_if_ge X 162 179 dX9_diary_159 rfl (by decide) (fun h159 => ?_) (fun h159 => ?_)
              · refine sm_iload X 181 7 dX9_diary_179 rfl rfl ?_
                exact sm_sub [1, 2, 3, 4, 5, 6, 0, 8] rfl (J181 v1 v2 v3 v4 v5 (v6 + (1 : Int32)) v8 v7 (f_X9_diary_L71  v1 v2 v3 v4 v5 n) ihl r131.2)
              · refine sm_bipush X 164 (10) dX9_diary_162 rfl rfl ?_
                refine sm_iload X 166 8 dX9_diary_164 rfl rfl ?_
                refine sm_bipush X 168 (6) dX9_diary_166 rfl rfl ?_
                refine sm_idiv X 169 dX9_diary_168 rfl (by first | decide | assumption) ?_
                refine sm_imul X 170 dX9_diary_169 rfl ?_
                refine sm_iload X 172 8 dX9_diary_170 rfl rfl ?_
                refine sm_bipush X 174 (6) dX9_diary_172 rfl rfl ?_
                refine sm_irem X 175 dX9_diary_174 rfl (by first | decide | assumption) ?_
                refine sm_iadd X 176 dX9_diary_175 rfl ?_
                refine sm_goto X 181 dX9_diary_176 (by decide) ?_
                exact sm_sub [1, 2, 3, 4, 5, 6, 0, 8] rfl (J181 v1 v2 v3 v4 v5 (v6 + (1 : Int32)) v8 (((10 : Int32) * (v8 / (6 : Int32))) + (irem v8 (6 : Int32))) (f_X9_diary_L71  v1 v2 v3 v4 v5 n) ihl r131.2)
            · exact sm_sub [0, 1, 2, 3, 4, 5, 6, 7, 8] rfl (J183 v1 v2 v3 v4 v5 v6 v7 v8 (f_X9_diary_L71  v1 v2 v3 v4 v5 n) ihl r131.2)
          · exact sm_sub [0, 1, 2, 3, 4, 5, 6, 7, 8] rfl (J183 v1 v2 v3 v4 v5 v6 v7 v8 (f_X9_diary_L71  v1 v2 v3 v4 v5 n) ihl r131.2)
        · exact sm_sub [0, 1, 2, 3, 4, 5, 6, 7, 8] rfl (J183 v1 v2 v3 v4 v5 v6 v7 v8 (f_X9_diary_L71  v1 v2 v3 v4 v5 n) ihl r131.2)
  unfold f_X9_diary
  refine sm_aload_n X 1 0 dX9_diary_0 rfl rfl rfl ?_
  refine sm_iload_n X 2 1 dX9_diary_1 rfl rfl rfl ?_
  refine sm_iload_n X 3 2 dX9_diary_2 rfl rfl rfl ?_
  refine sm_bind (fun r3 h3 => ?_)
  refine sm_callV0 X 6 [.int a1, .int a2] [] [.int (b2i r3)] (c_X9_areUnlike l G σ a1 a2 r3 h3) cw_X9_areUnlike q_1147 qs_49 q_1145 rfl (by decide) rfl rfl rfl rfl rfl (Nat.le_of_ble_eq_true rfl) ⟨Nat.le_of_ble_eq_true rfl, Nat.le_of_ble_eq_true rfl⟩ ⟨Nat.le_refl _, Nat.le_refl _⟩ dX9_diary_3 rfl ?_
  refine sm_ifz_eq X 9 45 dX9_diary_6 rfl (by decide) (fun h6 => ?_) (fun h6 => ?_)
  · refine sm_iload_n X 10 3 dX9_diary_9 rfl rfl rfl ?_
    refine sm_i2l X 11 dX9_diary_10 rfl ?_
    refine sm_lconst X 12 (0) dX9_diary_11 rfl rfl ?_
    refine sm_ldc2 X 15 (59) dX9_diary_12 rfl q_1117 ?_
    refine sm_bind (fun r15 h15 => ?_)
    refine sm_callS0 X 18 [.long (Int32.toInt64 a3), .long (0 : Int64), .long (59 : Int64)] [] [.int (b2i r15)] (c_X9_in l G σ (Int32.toInt64 a3) (0 : Int64) (59 : Int64) r15 h15) cw_X9_in q_961 q_960 rfl rfl rfl (Nat.le_of_ble_eq_true rfl) ⟨Nat.le_of_ble_eq_true rfl, Nat.le_of_ble_eq_true rfl⟩ ⟨Nat.le_refl _, Nat.le_refl _⟩ dX9_diary_15 rfl ?_
    refine sm_ifz_eq X 21 45 dX9_diary_18 rfl (by decide) (fun h18 => ?_) (fun h18 => ?_)
    · refine sm_iload X 23 4 dX9_diary_21 rfl rfl ?_
      refine sm_i2l X 24 dX9_diary_23 rfl ?_
      refine sm_lconst X 25 (0) dX9_diary_24 rfl rfl ?_
      refine sm_ldc2 X 28 (1200) dX9_diary_25 rfl q_1062 ?_
      refine sm_bind (fun r28 h28 => ?_)
      refine sm_callS0 X 31 [.long (Int32.toInt64 a4), .long (0 : Int64), .long (1200 : Int64)] [] [.int (b2i r28)] (c_X9_in l G σ (Int32.toInt64 a4) (0 : Int64) (1200 : Int64) r28 h28) cw_X9_in q_961 q_960 rfl rfl rfl (Nat.le_of_ble_eq_true rfl) ⟨Nat.le_of_ble_eq_true rfl, Nat.le_of_ble_eq_true rfl⟩ ⟨Nat.le_refl _, Nat.le_refl _⟩ dX9_diary_28 rfl ?_
      refine sm_ifz_eq X 34 45 dX9_diary_31 rfl (by decide) (fun h31 => ?_) (fun h31 => ?_)
      · refine sm_iload X 36 5 dX9_diary_34 rfl rfl ?_
        refine sm_i2l X 37 dX9_diary_36 rfl ?_
        refine sm_lconst X 38 (0) dX9_diary_37 rfl rfl ?_
        refine sm_lconst X 39 (1) dX9_diary_38 rfl rfl ?_
        refine sm_bind (fun r39 h39 => ?_)
        refine sm_callS0 X 42 [.long (Int32.toInt64 a5), .long (0 : Int64), .long (1 : Int64)] [] [.int (b2i r39)] (c_X9_in l G σ (Int32.toInt64 a5) (0 : Int64) (1 : Int64) r39 h39) cw_X9_in q_961 q_960 rfl rfl rfl (Nat.le_of_ble_eq_true rfl) ⟨Nat.le_of_ble_eq_true rfl, Nat.le_of_ble_eq_true rfl⟩ ⟨Nat.le_refl _, Nat.le_refl _⟩ dX9_diary_39 rfl ?_
        refine sm_ifz_ne X 45 51 dX9_diary_42 rfl (by decide) (fun h42 => ?_) (fun h42 => ?_)
        · refine sm_aload_n X 52 0 dX9_diary_51 rfl rfl rfl ?_
          refine sm_getf X 55 82 rfl fd_9_0 rfl dX9_diary_52 rfl q_882 ?_
          refine sm_aload_n X 56 0 dX9_diary_55 rfl rfl rfl ?_
          refine sm_getf X 59 83 rfl fd_9_1 rfl dX9_diary_56 rfl q_883 ?_
          refine sm_bind (fun r59 h59 => ?_)
          refine sm_callS0 X 62 [.ref (gad G 82), .ref (gad G 83)] [] [] (c_X9_copies l G σ 82 rfl 83 rfl r59 h59) cw_X9_copies q_1182 q_1181 rfl rfl rfl (Nat.le_of_ble_eq_true rfl) ⟨Nat.le_of_ble_eq_true rfl, Nat.le_of_ble_eq_true rfl⟩ ⟨Nat.le_refl _, Nat.le_refl _⟩ dX9_diary_59 rfl ?_
          refine sm_iconst X 63 (0) dX9_diary_62 rfl rfl ?_
          refine sm_istore X 65 [(6, .int 0), (0, .ref (gad G 81)), (1, .int a1), (2, .int a2), (3, .int a3), (4, .int a4), (5, .int a5)] dX9_diary_63 rfl (by decide) rfl ?_
          refine sm_iconst X 66 (-1) dX9_diary_65 rfl rfl ?_
          refine sm_istore X 68 [(7, .int (-1)), (6, .int 0), (0, .ref (gad G 81)), (1, .int a1), (2, .int a2), (3, .int a3), (4, .int a4), (5, .int a5)] dX9_diary_66 rfl (by decide) rfl ?_
          refine sm_iconst X 69 (0) dX9_diary_68 rfl rfl ?_
          refine sm_istore X 71 [(8, .int 0), (7, .int (-1)), (6, .int 0), (0, .ref (gad G 81)), (1, .int a1), (2, .int a2), (3, .int a3), (4, .int a4), (5, .int a5)] dX9_diary_69 rfl (by decide) rfl ?_
          exact sm_sub [3, 4, 5, 6, 7, 8, 2, 1, 0] rfl (J71 a1 a2 a3 a4 a5  FU (0 : Int32) (-1 : Int32) (0 : Int32) r59)
        · refine sm_aload_n X 46 0 dX9_diary_45 rfl rfl rfl ?_
          refine sm_iconst X 47 (1) dX9_diary_46 rfl rfl ?_
          refine sm_bind (fun r47 h47 => ?_)
          refine sm_callV0 X 50 [.int 1] [] [.int r47.1] (c_X9_finds l G σ (1 : Int32) r47 h47) cw_X9_finds q_965 qs_26 q_963 rfl (by decide) rfl rfl rfl rfl rfl (Nat.le_of_ble_eq_true rfl) ⟨Nat.le_of_ble_eq_true rfl, Nat.le_of_ble_eq_true rfl⟩ ⟨Nat.le_refl _, Nat.le_refl _⟩ dX9_diary_47 rfl ?_
          exact sm_iret X hr dX9_diary_50 rfl
      · refine sm_aload_n X 46 0 dX9_diary_45 rfl rfl rfl ?_
        refine sm_iconst X 47 (1) dX9_diary_46 rfl rfl ?_
        refine sm_bind (fun r47 h47 => ?_)
        refine sm_callV0 X 50 [.int 1] [] [.int r47.1] (c_X9_finds l G σ (1 : Int32) r47 h47) cw_X9_finds q_965 qs_26 q_963 rfl (by decide) rfl rfl rfl rfl rfl (Nat.le_of_ble_eq_true rfl) ⟨Nat.le_of_ble_eq_true rfl, Nat.le_of_ble_eq_true rfl⟩ ⟨Nat.le_refl _, Nat.le_refl _⟩ dX9_diary_47 rfl ?_
        exact sm_iret X hr dX9_diary_50 rfl
    · refine sm_aload_n X 46 0 dX9_diary_45 rfl rfl rfl ?_
      refine sm_iconst X 47 (1) dX9_diary_46 rfl rfl ?_
      refine sm_bind (fun r47 h47 => ?_)
      refine sm_callV0 X 50 [.int 1] [] [.int r47.1] (c_X9_finds l G σ (1 : Int32) r47 h47) cw_X9_finds q_965 qs_26 q_963 rfl (by decide) rfl rfl rfl rfl rfl (Nat.le_of_ble_eq_true rfl) ⟨Nat.le_of_ble_eq_true rfl, Nat.le_of_ble_eq_true rfl⟩ ⟨Nat.le_refl _, Nat.le_refl _⟩ dX9_diary_47 rfl ?_
      exact sm_iret X hr dX9_diary_50 rfl
  · refine sm_aload_n X 46 0 dX9_diary_45 rfl rfl rfl ?_
    refine sm_iconst X 47 (1) dX9_diary_46 rfl rfl ?_
    refine sm_bind (fun r47 h47 => ?_)
    refine sm_callV0 X 50 [.int 1] [] [.int r47.1] (c_X9_finds l G σ (1 : Int32) r47 h47) cw_X9_finds q_965 qs_26 q_963 rfl (by decide) rfl rfl rfl rfl rfl (Nat.le_of_ble_eq_true rfl) ⟨Nat.le_of_ble_eq_true rfl, Nat.le_of_ble_eq_true rfl⟩ ⟨Nat.le_refl _, Nat.le_refl _⟩ dX9_diary_47 rfl ?_
    exact sm_iret X hr dX9_diary_50 rfl
