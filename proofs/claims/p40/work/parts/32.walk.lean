def by_X8_whyNoYear_0 : List Nat := [42, 180, 0, 10, 27, 182, 0, 99, 42, 180, 0, 10, 28, 182, 0, 99]
def by_X8_whyNoYear_1 : List Nat := [184, 0, 175, 154, 0, 5, 4, 172, 42, 180, 0, 10, 180, 1, 34, 17]
def by_X8_whyNoYear_z : List Nat := [39, 15, 161, 0, 7, 6, 167, 0, 4, 3, 172]
def by_X8_whyNoYear : List (List Nat) := [by_X8_whyNoYear_0, by_X8_whyNoYear_1]
set_option maxRecDepth 100000 in
theorem byo_X8_whyNoYear : cX8_whyNoYear.data.toList.map UInt8.toNat = by_X8_whyNoYear.flatten ++ by_X8_whyNoYear_z := by decide +kernel
theorem byl_X8_whyNoYear : by_X8_whyNoYear.all (fun r => r.length == 16) = true := by decide +kernel
theorem byr_X8_whyNoYear_0 {j v : Nat} (h : by_X8_whyNoYear_0[j]? = some v) : RD cX8_whyNoYear (0 + j) v := rd_16 byo_X8_whyNoYear byl_X8_whyNoYear 0 rfl h
theorem byr_X8_whyNoYear_1 {j v : Nat} (h : by_X8_whyNoYear_1[j]? = some v) : RD cX8_whyNoYear (16 + j) v := rd_16 byo_X8_whyNoYear byl_X8_whyNoYear 1 rfl h
theorem byr_X8_whyNoYear_2 {j v : Nat} (h : by_X8_whyNoYear_z[j]? = some v) : RD cX8_whyNoYear (32 + j) v := rd_z byo_X8_whyNoYear byl_X8_whyNoYear 2 rfl h
theorem dX8_whyNoYear_0 : decode cX8_whyNoYear 0 = .ok (.aload_n 0, 1) := dk_42 (byr_X8_whyNoYear_0 (j := 0) rfl)
theorem dX8_whyNoYear_1 : decode cX8_whyNoYear 1 = .ok (.getfield 10, 3) := dk_180 (byr_X8_whyNoYear_0 (j := 1) rfl) (byr_X8_whyNoYear_0 (j := 2) rfl) (byr_X8_whyNoYear_0 (j := 3) rfl) (by decide)
theorem dX8_whyNoYear_4 : decode cX8_whyNoYear 4 = .ok (.iload_n 1, 1) := dk_27 (byr_X8_whyNoYear_0 (j := 4) rfl)
theorem dX8_whyNoYear_5 : decode cX8_whyNoYear 5 = .ok (.invokevirtual 99, 3) := dk_182 (byr_X8_whyNoYear_0 (j := 5) rfl) (byr_X8_whyNoYear_0 (j := 6) rfl) (byr_X8_whyNoYear_0 (j := 7) rfl) (by decide)
theorem dX8_whyNoYear_8 : decode cX8_whyNoYear 8 = .ok (.aload_n 0, 1) := dk_42 (byr_X8_whyNoYear_0 (j := 8) rfl)
theorem dX8_whyNoYear_9 : decode cX8_whyNoYear 9 = .ok (.getfield 10, 3) := dk_180 (byr_X8_whyNoYear_0 (j := 9) rfl) (byr_X8_whyNoYear_0 (j := 10) rfl) (byr_X8_whyNoYear_0 (j := 11) rfl) (by decide)
theorem dX8_whyNoYear_12 : decode cX8_whyNoYear 12 = .ok (.iload_n 2, 1) := dk_28 (byr_X8_whyNoYear_0 (j := 12) rfl)
theorem dX8_whyNoYear_13 : decode cX8_whyNoYear 13 = .ok (.invokevirtual 99, 3) := dk_182 (byr_X8_whyNoYear_0 (j := 13) rfl) (byr_X8_whyNoYear_0 (j := 14) rfl) (byr_X8_whyNoYear_0 (j := 15) rfl) (by decide)
theorem dX8_whyNoYear_16 : decode cX8_whyNoYear 16 = .ok (.invokestatic 175, 3) := dk_184 (byr_X8_whyNoYear_1 (j := 0) rfl) (byr_X8_whyNoYear_1 (j := 1) rfl) (byr_X8_whyNoYear_1 (j := 2) rfl) (by decide)
theorem dX8_whyNoYear_19 : decode cX8_whyNoYear 19 = .ok (.ifCond .ne 5, 3) := dk_154 (byr_X8_whyNoYear_1 (j := 3) rfl) (byr_X8_whyNoYear_1 (j := 4) rfl) (byr_X8_whyNoYear_1 (j := 5) rfl) (by decide)
theorem dX8_whyNoYear_22 : decode cX8_whyNoYear 22 = .ok (.iconst 1, 1) := dk_4 (byr_X8_whyNoYear_1 (j := 6) rfl)
theorem dX8_whyNoYear_23 : decode cX8_whyNoYear 23 = .ok (.ireturn, 1) := dk_172 (byr_X8_whyNoYear_1 (j := 7) rfl)
theorem dX8_whyNoYear_24 : decode cX8_whyNoYear 24 = .ok (.aload_n 0, 1) := dk_42 (byr_X8_whyNoYear_1 (j := 8) rfl)
theorem dX8_whyNoYear_25 : decode cX8_whyNoYear 25 = .ok (.getfield 10, 3) := dk_180 (byr_X8_whyNoYear_1 (j := 9) rfl) (byr_X8_whyNoYear_1 (j := 10) rfl) (byr_X8_whyNoYear_1 (j := 11) rfl) (by decide)
theorem dX8_whyNoYear_28 : decode cX8_whyNoYear 28 = .ok (.getfield 290, 3) := dk_180 (byr_X8_whyNoYear_1 (j := 12) rfl) (byr_X8_whyNoYear_1 (j := 13) rfl) (byr_X8_whyNoYear_1 (j := 14) rfl) (by decide)
theorem dX8_whyNoYear_31 : decode cX8_whyNoYear 31 = .ok (.sipush 9999, 3) := dk_17 (byr_X8_whyNoYear_1 (j := 15) rfl) (byr_X8_whyNoYear_2 (j := 0) rfl) (byr_X8_whyNoYear_2 (j := 1) rfl) (by decide)
theorem dX8_whyNoYear_34 : decode cX8_whyNoYear 34 = .ok (.if_icmp .lt 7, 3) := dk_161 (byr_X8_whyNoYear_2 (j := 2) rfl) (byr_X8_whyNoYear_2 (j := 3) rfl) (byr_X8_whyNoYear_2 (j := 4) rfl) (by decide)
theorem dX8_whyNoYear_37 : decode cX8_whyNoYear 37 = .ok (.iconst 3, 1) := dk_6 (byr_X8_whyNoYear_2 (j := 5) rfl)
theorem dX8_whyNoYear_38 : decode cX8_whyNoYear 38 = .ok (.goto 4, 3) := dk_167 (byr_X8_whyNoYear_2 (j := 6) rfl) (byr_X8_whyNoYear_2 (j := 7) rfl) (byr_X8_whyNoYear_2 (j := 8) rfl) (by decide)
theorem dX8_whyNoYear_41 : decode cX8_whyNoYear 41 = .ok (.iconst 0, 1) := dk_3 (byr_X8_whyNoYear_2 (j := 9) rfl)
theorem dX8_whyNoYear_42 : decode cX8_whyNoYear 42 = .ok (.ireturn, 1) := dk_172 (byr_X8_whyNoYear_2 (j := 10) rfl)
set_option maxHeartbeats 4000000 in
set_option maxRecDepth 100000 in
theorem c_X8_whyNoYear (l : Launch) (G : GT) (σ : Sto) (a1 : Int32) (a2 : Int32) (r : Int32) (h : f_X8_whyNoYear σ a1 a2 = some r) : MW l G (4) (107) 0 0 yX8_whyNoYear cX8_whyNoYear 3 (Option.some Jvm.ClassFile.FieldType.int) [.ref (gad G 0), .int a1, .int a2] (wl G σ) (some (.int r)) (wl G σ) := by
  refine mw_of RX8 (fpI G σ) [(0, .ref (gad G 0)), (1, .int a1), (2, .int a2)] (by decide +kernel) rfl (Nat.le_of_ble_eq_true rfl) rfl h rfl (fun p e s m args below meth c X hr hnm => ?_)
  unfold f_X8_whyNoYear
  refine sm_aload_n X 1 0 dX8_whyNoYear_0 rfl rfl rfl ?_
  refine sm_getf X 4 1 rfl fd_8_0 rfl dX8_whyNoYear_1 rfl q_289 ?_
  refine sm_iload_n X 5 1 dX8_whyNoYear_4 rfl rfl rfl ?_
  refine sm_bind (fun r5 h5 => ?_)
  refine sm_callV0 X 8 [.int a1] [] [va_re (gad G) r5] (c_X0_swimmerAt l G σ 1 rfl a1 r5 h5) cw_X0_swimmerAt q_376 q_377 q_375 rfl (by decide) rfl rfl rfl rfl rfl (Nat.le_of_ble_eq_true rfl) ⟨Nat.le_of_ble_eq_true rfl, Nat.le_of_ble_eq_true rfl⟩ ⟨Nat.le_refl _, Nat.le_refl _⟩ dX8_whyNoYear_5 rfl ?_
  refine sm_aload_n X 9 0 dX8_whyNoYear_8 rfl rfl rfl ?_
  refine sm_getf X 12 1 rfl fd_8_0 rfl dX8_whyNoYear_9 rfl q_289 ?_
  refine sm_iload_n X 13 2 dX8_whyNoYear_12 rfl rfl rfl ?_
  refine sm_bind (fun r13 h13 => ?_)
  refine sm_callV0 X 16 [.int a2] [va_re (gad G) r5] [va_re (gad G) r13, va_re (gad G) r5] (c_X0_swimmerAt l G σ 1 rfl a2 r13 h13) cw_X0_swimmerAt q_376 q_377 q_375 rfl (by decide) rfl rfl rfl rfl rfl (by cases r5 <;> exact Nat.le_of_ble_eq_true rfl) ⟨Nat.le_of_ble_eq_true rfl, Nat.le_of_ble_eq_true rfl⟩ ⟨Nat.le_refl _, Nat.le_refl _⟩ dX8_whyNoYear_13 rfl ?_
  refine sm_bind (fun r16 h16 => ?_)
  refine sm_callS0 X 19 [va_re (gad G) r5, va_re (gad G) r13] [] [.int (b2i r16)] (c_X8_areUnlike l G σ r5 r13 r16 h16) cw_X8_areUnlike q_636 q_635 rfl rfl rfl (Nat.le_of_ble_eq_true rfl) ⟨Nat.le_of_ble_eq_true rfl, Nat.le_of_ble_eq_true rfl⟩ ⟨Nat.le_refl _, Nat.le_refl _⟩ dX8_whyNoYear_16 rfl ?_
  refine sm_ifz_ne X 22 24 dX8_whyNoYear_19 rfl (by decide) (fun h19 => ?_) (fun h19 => ?_)
  · refine sm_aload_n X 25 0 dX8_whyNoYear_24 rfl rfl rfl ?_
    refine sm_getf X 28 1 rfl fd_8_0 rfl dX8_whyNoYear_25 rfl q_289 ?_
    refine sm_geti X 31 rfl fd_0_4 dX8_whyNoYear_28 rfl q_98 ?_
    refine sm_sipush X 34 (9999) dX8_whyNoYear_31 rfl rfl ?_
    refine sm_icmp_lt X 37 41 dX8_whyNoYear_34 rfl (by decide) (fun h34 => ?_) (fun h34 => ?_)
    · refine sm_iconst X 42 (0) dX8_whyNoYear_41 rfl rfl ?_
      exact sm_iret X hr dX8_whyNoYear_42 rfl
    · refine sm_iconst X 38 (3) dX8_whyNoYear_37 rfl rfl ?_
      refine sm_goto X 42 dX8_whyNoYear_38 (by decide) ?_
      exact sm_iret X hr dX8_whyNoYear_42 rfl
  · refine sm_iconst X 23 (1) dX8_whyNoYear_22 rfl rfl ?_
    exact sm_iret X hr dX8_whyNoYear_23 rfl
def by_X8_letYearGoBy_0 : List Nat := [42, 180, 0, 10, 27, 182, 0, 99, 78, 42, 180, 0, 10, 28, 182, 0]
def by_X8_letYearGoBy_1 : List Nat := [99, 58, 4, 45, 25, 4, 184, 0, 175, 154, 0, 4, 177, 42, 180, 0]
def by_X8_letYearGoBy_2 : List Nat := [29, 42, 180, 0, 10, 42, 180, 0, 10, 180, 0, 83, 182, 0, 167, 42]
def by_X8_letYearGoBy_3 : List Nat := [180, 0, 29, 45, 25, 4, 42, 180, 0, 10, 180, 0, 86, 182, 0, 179]
def by_X8_letYearGoBy_4 : List Nat := [153, 0, 51, 42, 180, 0, 10, 42, 180, 0, 29, 180, 0, 186, 181, 0]
def by_X8_letYearGoBy_5 : List Nat := [89, 45, 17, 39, 15, 45, 180, 0, 119, 4, 96, 184, 1, 50, 181, 0]
def by_X8_letYearGoBy_6 : List Nat := [119, 25, 4, 17, 39, 15, 25, 4, 180, 0, 119, 4, 96, 184, 1, 50]
def by_X8_letYearGoBy_7 : List Nat := [181, 0, 119, 42, 180, 0, 10, 182, 1, 55, 42, 180, 0, 10, 89, 180]
def by_X8_letYearGoBy_z : List Nat := [1, 34, 4, 96, 181, 1, 34, 177]
def by_X8_letYearGoBy : List (List Nat) := [by_X8_letYearGoBy_0, by_X8_letYearGoBy_1, by_X8_letYearGoBy_2, by_X8_letYearGoBy_3, by_X8_letYearGoBy_4, by_X8_letYearGoBy_5, by_X8_letYearGoBy_6, by_X8_letYearGoBy_7]
set_option maxRecDepth 100000 in
theorem byo_X8_letYearGoBy : cX8_letYearGoBy.data.toList.map UInt8.toNat = by_X8_letYearGoBy.flatten ++ by_X8_letYearGoBy_z := by decide +kernel
theorem byl_X8_letYearGoBy : by_X8_letYearGoBy.all (fun r => r.length == 16) = true := by decide +kernel
theorem byr_X8_letYearGoBy_0 {j v : Nat} (h : by_X8_letYearGoBy_0[j]? = some v) : RD cX8_letYearGoBy (0 + j) v := rd_16 byo_X8_letYearGoBy byl_X8_letYearGoBy 0 rfl h
theorem byr_X8_letYearGoBy_1 {j v : Nat} (h : by_X8_letYearGoBy_1[j]? = some v) : RD cX8_letYearGoBy (16 + j) v := rd_16 byo_X8_letYearGoBy byl_X8_letYearGoBy 1 rfl h
theorem byr_X8_letYearGoBy_2 {j v : Nat} (h : by_X8_letYearGoBy_2[j]? = some v) : RD cX8_letYearGoBy (32 + j) v := rd_16 byo_X8_letYearGoBy byl_X8_letYearGoBy 2 rfl h
theorem byr_X8_letYearGoBy_3 {j v : Nat} (h : by_X8_letYearGoBy_3[j]? = some v) : RD cX8_letYearGoBy (48 + j) v := rd_16 byo_X8_letYearGoBy byl_X8_letYearGoBy 3 rfl h
theorem byr_X8_letYearGoBy_4 {j v : Nat} (h : by_X8_letYearGoBy_4[j]? = some v) : RD cX8_letYearGoBy (64 + j) v := rd_16 byo_X8_letYearGoBy byl_X8_letYearGoBy 4 rfl h
theorem byr_X8_letYearGoBy_5 {j v : Nat} (h : by_X8_letYearGoBy_5[j]? = some v) : RD cX8_letYearGoBy (80 + j) v := rd_16 byo_X8_letYearGoBy byl_X8_letYearGoBy 5 rfl h
theorem byr_X8_letYearGoBy_6 {j v : Nat} (h : by_X8_letYearGoBy_6[j]? = some v) : RD cX8_letYearGoBy (96 + j) v := rd_16 byo_X8_letYearGoBy byl_X8_letYearGoBy 6 rfl h
theorem byr_X8_letYearGoBy_7 {j v : Nat} (h : by_X8_letYearGoBy_7[j]? = some v) : RD cX8_letYearGoBy (112 + j) v := rd_16 byo_X8_letYearGoBy byl_X8_letYearGoBy 7 rfl h
theorem byr_X8_letYearGoBy_8 {j v : Nat} (h : by_X8_letYearGoBy_z[j]? = some v) : RD cX8_letYearGoBy (128 + j) v := rd_z byo_X8_letYearGoBy byl_X8_letYearGoBy 8 rfl h
theorem dX8_letYearGoBy_0 : decode cX8_letYearGoBy 0 = .ok (.aload_n 0, 1) := dk_42 (byr_X8_letYearGoBy_0 (j := 0) rfl)
theorem dX8_letYearGoBy_1 : decode cX8_letYearGoBy 1 = .ok (.getfield 10, 3) := dk_180 (byr_X8_letYearGoBy_0 (j := 1) rfl) (byr_X8_letYearGoBy_0 (j := 2) rfl) (byr_X8_letYearGoBy_0 (j := 3) rfl) (by decide)
theorem dX8_letYearGoBy_4 : decode cX8_letYearGoBy 4 = .ok (.iload_n 1, 1) := dk_27 (byr_X8_letYearGoBy_0 (j := 4) rfl)
theorem dX8_letYearGoBy_5 : decode cX8_letYearGoBy 5 = .ok (.invokevirtual 99, 3) := dk_182 (byr_X8_letYearGoBy_0 (j := 5) rfl) (byr_X8_letYearGoBy_0 (j := 6) rfl) (byr_X8_letYearGoBy_0 (j := 7) rfl) (by decide)
theorem dX8_letYearGoBy_8 : decode cX8_letYearGoBy 8 = .ok (.astore_n 3, 1) := dk_78 (byr_X8_letYearGoBy_0 (j := 8) rfl)
theorem dX8_letYearGoBy_9 : decode cX8_letYearGoBy 9 = .ok (.aload_n 0, 1) := dk_42 (byr_X8_letYearGoBy_0 (j := 9) rfl)
theorem dX8_letYearGoBy_10 : decode cX8_letYearGoBy 10 = .ok (.getfield 10, 3) := dk_180 (byr_X8_letYearGoBy_0 (j := 10) rfl) (byr_X8_letYearGoBy_0 (j := 11) rfl) (byr_X8_letYearGoBy_0 (j := 12) rfl) (by decide)
theorem dX8_letYearGoBy_13 : decode cX8_letYearGoBy 13 = .ok (.iload_n 2, 1) := dk_28 (byr_X8_letYearGoBy_0 (j := 13) rfl)
theorem dX8_letYearGoBy_14 : decode cX8_letYearGoBy 14 = .ok (.invokevirtual 99, 3) := dk_182 (byr_X8_letYearGoBy_0 (j := 14) rfl) (byr_X8_letYearGoBy_0 (j := 15) rfl) (byr_X8_letYearGoBy_1 (j := 0) rfl) (by decide)
theorem dX8_letYearGoBy_17 : decode cX8_letYearGoBy 17 = .ok (.astore 4, 2) := dk_58 (byr_X8_letYearGoBy_1 (j := 1) rfl) (byr_X8_letYearGoBy_1 (j := 2) rfl)
theorem dX8_letYearGoBy_19 : decode cX8_letYearGoBy 19 = .ok (.aload_n 3, 1) := dk_45 (byr_X8_letYearGoBy_1 (j := 3) rfl)
theorem dX8_letYearGoBy_20 : decode cX8_letYearGoBy 20 = .ok (.aload 4, 2) := dk_25 (byr_X8_letYearGoBy_1 (j := 4) rfl) (byr_X8_letYearGoBy_1 (j := 5) rfl)
theorem dX8_letYearGoBy_22 : decode cX8_letYearGoBy 22 = .ok (.invokestatic 175, 3) := dk_184 (byr_X8_letYearGoBy_1 (j := 6) rfl) (byr_X8_letYearGoBy_1 (j := 7) rfl) (byr_X8_letYearGoBy_1 (j := 8) rfl) (by decide)
theorem dX8_letYearGoBy_25 : decode cX8_letYearGoBy 25 = .ok (.ifCond .ne 4, 3) := dk_154 (byr_X8_letYearGoBy_1 (j := 9) rfl) (byr_X8_letYearGoBy_1 (j := 10) rfl) (byr_X8_letYearGoBy_1 (j := 11) rfl) (by decide)
theorem dX8_letYearGoBy_28 : decode cX8_letYearGoBy 28 = .ok (.return_, 1) := dk_177 (byr_X8_letYearGoBy_1 (j := 12) rfl)
theorem dX8_letYearGoBy_29 : decode cX8_letYearGoBy 29 = .ok (.aload_n 0, 1) := dk_42 (byr_X8_letYearGoBy_1 (j := 13) rfl)
theorem dX8_letYearGoBy_30 : decode cX8_letYearGoBy 30 = .ok (.getfield 29, 3) := dk_180 (byr_X8_letYearGoBy_1 (j := 14) rfl) (byr_X8_letYearGoBy_1 (j := 15) rfl) (byr_X8_letYearGoBy_2 (j := 0) rfl) (by decide)
theorem dX8_letYearGoBy_33 : decode cX8_letYearGoBy 33 = .ok (.aload_n 0, 1) := dk_42 (byr_X8_letYearGoBy_2 (j := 1) rfl)
theorem dX8_letYearGoBy_34 : decode cX8_letYearGoBy 34 = .ok (.getfield 10, 3) := dk_180 (byr_X8_letYearGoBy_2 (j := 2) rfl) (byr_X8_letYearGoBy_2 (j := 3) rfl) (byr_X8_letYearGoBy_2 (j := 4) rfl) (by decide)
theorem dX8_letYearGoBy_37 : decode cX8_letYearGoBy 37 = .ok (.aload_n 0, 1) := dk_42 (byr_X8_letYearGoBy_2 (j := 5) rfl)
theorem dX8_letYearGoBy_38 : decode cX8_letYearGoBy 38 = .ok (.getfield 10, 3) := dk_180 (byr_X8_letYearGoBy_2 (j := 6) rfl) (byr_X8_letYearGoBy_2 (j := 7) rfl) (byr_X8_letYearGoBy_2 (j := 8) rfl) (by decide)
theorem dX8_letYearGoBy_41 : decode cX8_letYearGoBy 41 = .ok (.getfield 83, 3) := dk_180 (byr_X8_letYearGoBy_2 (j := 9) rfl) (byr_X8_letYearGoBy_2 (j := 10) rfl) (byr_X8_letYearGoBy_2 (j := 11) rfl) (by decide)
theorem dX8_letYearGoBy_44 : decode cX8_letYearGoBy 44 = .ok (.invokevirtual 167, 3) := dk_182 (byr_X8_letYearGoBy_2 (j := 12) rfl) (byr_X8_letYearGoBy_2 (j := 13) rfl) (byr_X8_letYearGoBy_2 (j := 14) rfl) (by decide)
theorem dX8_letYearGoBy_47 : decode cX8_letYearGoBy 47 = .ok (.aload_n 0, 1) := dk_42 (byr_X8_letYearGoBy_2 (j := 15) rfl)
theorem dX8_letYearGoBy_48 : decode cX8_letYearGoBy 48 = .ok (.getfield 29, 3) := dk_180 (byr_X8_letYearGoBy_3 (j := 0) rfl) (byr_X8_letYearGoBy_3 (j := 1) rfl) (byr_X8_letYearGoBy_3 (j := 2) rfl) (by decide)
theorem dX8_letYearGoBy_51 : decode cX8_letYearGoBy 51 = .ok (.aload_n 3, 1) := dk_45 (byr_X8_letYearGoBy_3 (j := 3) rfl)
theorem dX8_letYearGoBy_52 : decode cX8_letYearGoBy 52 = .ok (.aload 4, 2) := dk_25 (byr_X8_letYearGoBy_3 (j := 4) rfl) (byr_X8_letYearGoBy_3 (j := 5) rfl)
theorem dX8_letYearGoBy_54 : decode cX8_letYearGoBy 54 = .ok (.aload_n 0, 1) := dk_42 (byr_X8_letYearGoBy_3 (j := 6) rfl)
theorem dX8_letYearGoBy_55 : decode cX8_letYearGoBy 55 = .ok (.getfield 10, 3) := dk_180 (byr_X8_letYearGoBy_3 (j := 7) rfl) (byr_X8_letYearGoBy_3 (j := 8) rfl) (byr_X8_letYearGoBy_3 (j := 9) rfl) (by decide)
theorem dX8_letYearGoBy_58 : decode cX8_letYearGoBy 58 = .ok (.getfield 86, 3) := dk_180 (byr_X8_letYearGoBy_3 (j := 10) rfl) (byr_X8_letYearGoBy_3 (j := 11) rfl) (byr_X8_letYearGoBy_3 (j := 12) rfl) (by decide)
theorem dX8_letYearGoBy_61 : decode cX8_letYearGoBy 61 = .ok (.invokevirtual 179, 3) := dk_182 (byr_X8_letYearGoBy_3 (j := 13) rfl) (byr_X8_letYearGoBy_3 (j := 14) rfl) (byr_X8_letYearGoBy_3 (j := 15) rfl) (by decide)
theorem dX8_letYearGoBy_64 : decode cX8_letYearGoBy 64 = .ok (.ifCond .eq 51, 3) := dk_153 (byr_X8_letYearGoBy_4 (j := 0) rfl) (byr_X8_letYearGoBy_4 (j := 1) rfl) (byr_X8_letYearGoBy_4 (j := 2) rfl) (by decide)
theorem dX8_letYearGoBy_67 : decode cX8_letYearGoBy 67 = .ok (.aload_n 0, 1) := dk_42 (byr_X8_letYearGoBy_4 (j := 3) rfl)
theorem dX8_letYearGoBy_68 : decode cX8_letYearGoBy 68 = .ok (.getfield 10, 3) := dk_180 (byr_X8_letYearGoBy_4 (j := 4) rfl) (byr_X8_letYearGoBy_4 (j := 5) rfl) (byr_X8_letYearGoBy_4 (j := 6) rfl) (by decide)
theorem dX8_letYearGoBy_71 : decode cX8_letYearGoBy 71 = .ok (.aload_n 0, 1) := dk_42 (byr_X8_letYearGoBy_4 (j := 7) rfl)
theorem dX8_letYearGoBy_72 : decode cX8_letYearGoBy 72 = .ok (.getfield 29, 3) := dk_180 (byr_X8_letYearGoBy_4 (j := 8) rfl) (byr_X8_letYearGoBy_4 (j := 9) rfl) (byr_X8_letYearGoBy_4 (j := 10) rfl) (by decide)
theorem dX8_letYearGoBy_75 : decode cX8_letYearGoBy 75 = .ok (.getfield 186, 3) := dk_180 (byr_X8_letYearGoBy_4 (j := 11) rfl) (byr_X8_letYearGoBy_4 (j := 12) rfl) (byr_X8_letYearGoBy_4 (j := 13) rfl) (by decide)
theorem dX8_letYearGoBy_78 : decode cX8_letYearGoBy 78 = .ok (.putfield 89, 3) := dk_181 (byr_X8_letYearGoBy_4 (j := 14) rfl) (byr_X8_letYearGoBy_4 (j := 15) rfl) (byr_X8_letYearGoBy_5 (j := 0) rfl) (by decide)
theorem dX8_letYearGoBy_81 : decode cX8_letYearGoBy 81 = .ok (.aload_n 3, 1) := dk_45 (byr_X8_letYearGoBy_5 (j := 1) rfl)
theorem dX8_letYearGoBy_82 : decode cX8_letYearGoBy 82 = .ok (.sipush 9999, 3) := dk_17 (byr_X8_letYearGoBy_5 (j := 2) rfl) (byr_X8_letYearGoBy_5 (j := 3) rfl) (byr_X8_letYearGoBy_5 (j := 4) rfl) (by decide)
theorem dX8_letYearGoBy_85 : decode cX8_letYearGoBy 85 = .ok (.aload_n 3, 1) := dk_45 (byr_X8_letYearGoBy_5 (j := 5) rfl)
theorem dX8_letYearGoBy_86 : decode cX8_letYearGoBy 86 = .ok (.getfield 119, 3) := dk_180 (byr_X8_letYearGoBy_5 (j := 6) rfl) (byr_X8_letYearGoBy_5 (j := 7) rfl) (byr_X8_letYearGoBy_5 (j := 8) rfl) (by decide)
theorem dX8_letYearGoBy_89 : decode cX8_letYearGoBy 89 = .ok (.iconst 1, 1) := dk_4 (byr_X8_letYearGoBy_5 (j := 9) rfl)
theorem dX8_letYearGoBy_90 : decode cX8_letYearGoBy 90 = .ok (.iadd, 1) := dk_96 (byr_X8_letYearGoBy_5 (j := 10) rfl)
theorem dX8_letYearGoBy_91 : decode cX8_letYearGoBy 91 = .ok (.invokestatic 306, 3) := dk_184 (byr_X8_letYearGoBy_5 (j := 11) rfl) (byr_X8_letYearGoBy_5 (j := 12) rfl) (byr_X8_letYearGoBy_5 (j := 13) rfl) (by decide)
theorem dX8_letYearGoBy_94 : decode cX8_letYearGoBy 94 = .ok (.putfield 119, 3) := dk_181 (byr_X8_letYearGoBy_5 (j := 14) rfl) (byr_X8_letYearGoBy_5 (j := 15) rfl) (byr_X8_letYearGoBy_6 (j := 0) rfl) (by decide)
theorem dX8_letYearGoBy_97 : decode cX8_letYearGoBy 97 = .ok (.aload 4, 2) := dk_25 (byr_X8_letYearGoBy_6 (j := 1) rfl) (byr_X8_letYearGoBy_6 (j := 2) rfl)
theorem dX8_letYearGoBy_99 : decode cX8_letYearGoBy 99 = .ok (.sipush 9999, 3) := dk_17 (byr_X8_letYearGoBy_6 (j := 3) rfl) (byr_X8_letYearGoBy_6 (j := 4) rfl) (byr_X8_letYearGoBy_6 (j := 5) rfl) (by decide)
theorem dX8_letYearGoBy_102 : decode cX8_letYearGoBy 102 = .ok (.aload 4, 2) := dk_25 (byr_X8_letYearGoBy_6 (j := 6) rfl) (byr_X8_letYearGoBy_6 (j := 7) rfl)
theorem dX8_letYearGoBy_104 : decode cX8_letYearGoBy 104 = .ok (.getfield 119, 3) := dk_180 (byr_X8_letYearGoBy_6 (j := 8) rfl) (byr_X8_letYearGoBy_6 (j := 9) rfl) (byr_X8_letYearGoBy_6 (j := 10) rfl) (by decide)
theorem dX8_letYearGoBy_107 : decode cX8_letYearGoBy 107 = .ok (.iconst 1, 1) := dk_4 (byr_X8_letYearGoBy_6 (j := 11) rfl)
theorem dX8_letYearGoBy_108 : decode cX8_letYearGoBy 108 = .ok (.iadd, 1) := dk_96 (byr_X8_letYearGoBy_6 (j := 12) rfl)
theorem dX8_letYearGoBy_109 : decode cX8_letYearGoBy 109 = .ok (.invokestatic 306, 3) := dk_184 (byr_X8_letYearGoBy_6 (j := 13) rfl) (byr_X8_letYearGoBy_6 (j := 14) rfl) (byr_X8_letYearGoBy_6 (j := 15) rfl) (by decide)
theorem dX8_letYearGoBy_112 : decode cX8_letYearGoBy 112 = .ok (.putfield 119, 3) := dk_181 (byr_X8_letYearGoBy_7 (j := 0) rfl) (byr_X8_letYearGoBy_7 (j := 1) rfl) (byr_X8_letYearGoBy_7 (j := 2) rfl) (by decide)
theorem dX8_letYearGoBy_115 : decode cX8_letYearGoBy 115 = .ok (.aload_n 0, 1) := dk_42 (byr_X8_letYearGoBy_7 (j := 3) rfl)
theorem dX8_letYearGoBy_116 : decode cX8_letYearGoBy 116 = .ok (.getfield 10, 3) := dk_180 (byr_X8_letYearGoBy_7 (j := 4) rfl) (byr_X8_letYearGoBy_7 (j := 5) rfl) (byr_X8_letYearGoBy_7 (j := 6) rfl) (by decide)
theorem dX8_letYearGoBy_119 : decode cX8_letYearGoBy 119 = .ok (.invokevirtual 311, 3) := dk_182 (byr_X8_letYearGoBy_7 (j := 7) rfl) (byr_X8_letYearGoBy_7 (j := 8) rfl) (byr_X8_letYearGoBy_7 (j := 9) rfl) (by decide)
theorem dX8_letYearGoBy_122 : decode cX8_letYearGoBy 122 = .ok (.aload_n 0, 1) := dk_42 (byr_X8_letYearGoBy_7 (j := 10) rfl)
theorem dX8_letYearGoBy_123 : decode cX8_letYearGoBy 123 = .ok (.getfield 10, 3) := dk_180 (byr_X8_letYearGoBy_7 (j := 11) rfl) (byr_X8_letYearGoBy_7 (j := 12) rfl) (byr_X8_letYearGoBy_7 (j := 13) rfl) (by decide)
theorem dX8_letYearGoBy_126 : decode cX8_letYearGoBy 126 = .ok (.dup, 1) := dk_89 (byr_X8_letYearGoBy_7 (j := 14) rfl)
theorem dX8_letYearGoBy_127 : decode cX8_letYearGoBy 127 = .ok (.getfield 290, 3) := dk_180 (byr_X8_letYearGoBy_7 (j := 15) rfl) (byr_X8_letYearGoBy_8 (j := 0) rfl) (byr_X8_letYearGoBy_8 (j := 1) rfl) (by decide)
theorem dX8_letYearGoBy_130 : decode cX8_letYearGoBy 130 = .ok (.iconst 1, 1) := dk_4 (byr_X8_letYearGoBy_8 (j := 2) rfl)
theorem dX8_letYearGoBy_131 : decode cX8_letYearGoBy 131 = .ok (.iadd, 1) := dk_96 (byr_X8_letYearGoBy_8 (j := 3) rfl)
theorem dX8_letYearGoBy_132 : decode cX8_letYearGoBy 132 = .ok (.putfield 290, 3) := dk_181 (byr_X8_letYearGoBy_8 (j := 4) rfl) (byr_X8_letYearGoBy_8 (j := 5) rfl) (byr_X8_letYearGoBy_8 (j := 6) rfl) (by decide)
theorem dX8_letYearGoBy_135 : decode cX8_letYearGoBy 135 = .ok (.return_, 1) := dk_177 (byr_X8_letYearGoBy_8 (j := 7) rfl)
set_option maxHeartbeats 4000000 in
set_option maxRecDepth 100000 in
theorem c_X8_letYearGoBy (l : Launch) (G : GT) (σ : Sto) (a1 : Int32) (a2 : Int32) (r : Sto) (h : f_X8_letYearGoBy σ a1 a2 = some r) : MW l G (7) (181) 0 0 yX8_letYearGoBy cX8_letYearGoBy 5 (Option.none : Option Jvm.ClassFile.FieldType) [.ref (gad G 0), .int a1, .int a2] (wl G σ) (none) (wl G r) := by
  refine mw_of RX8 (fiV G) [(0, .ref (gad G 0)), (1, .int a1), (2, .int a2)] (by decide +kernel) rfl (Nat.le_of_ble_eq_true rfl) rfl h rfl (fun p e s m args below meth c X hr hnm => ?_)
  have J115 : ∀   (σ : Sto), Sm p l e { frames := 7, cells := 0, slots := 0, locals := 181 } s m args below meth c G 5 (Qm below args s G 0 0 (fiV G)) 0 0 (wl G σ) 115 [(0, .ref (gad G 0))] [] (f_X8_letYearGoBy_L115  σ) := by
    intro σ
    rw [f_X8_letYearGoBy_L115]
    refine sm_aload_n X 116 0 dX8_letYearGoBy_115 rfl rfl rfl ?_
    refine sm_getf X 119 1 rfl fd_8_0 rfl dX8_letYearGoBy_116 rfl q_289 ?_
    refine sm_bind (fun r119 h119 => ?_)
    refine sm_callV0 X 122 [] [] [] (c_X0_share l G σ 1 rfl r119 h119) cw_X0_share q_663 q_664 q_662 rfl (by decide) rfl rfl rfl rfl rfl (Nat.le_of_ble_eq_true rfl) ⟨Nat.le_of_ble_eq_true rfl, Nat.le_of_ble_eq_true rfl⟩ ⟨Nat.le_refl _, Nat.le_refl _⟩ dX8_letYearGoBy_119 rfl ?_
    refine sm_aload_n X 123 0 dX8_letYearGoBy_122 rfl rfl rfl ?_
    refine sm_getf X 126 1 rfl fd_8_0 rfl dX8_letYearGoBy_123 rfl q_289 ?_
    refine sm_dup X 127 dX8_letYearGoBy_126 rfl rfl ?_
    refine sm_geti X 130 rfl fd_0_4 dX8_letYearGoBy_127 rfl q_98 ?_
    refine sm_iconst X 131 (1) dX8_letYearGoBy_130 rfl rfl ?_
    refine sm_iadd X 132 dX8_letYearGoBy_131 rfl ?_
    refine sm_puti X 135 .int rfl fd_0_4 (by decide) rfl rfl rfl dX8_letYearGoBy_132 rfl q_98 (fun σ132 e132 => ?_)
    clear e132
    exact sm_vret X hr dX8_letYearGoBy_135 rfl
  unfold f_X8_letYearGoBy
  refine sm_aload_n X 1 0 dX8_letYearGoBy_0 rfl rfl rfl ?_
  refine sm_getf X 4 1 rfl fd_8_0 rfl dX8_letYearGoBy_1 rfl q_289 ?_
  refine sm_iload_n X 5 1 dX8_letYearGoBy_4 rfl rfl rfl ?_
  refine sm_bind (fun r5 h5 => ?_)
  refine sm_callV0 X 8 [.int a1] [] [va_re (gad G) r5] (c_X0_swimmerAt l G σ 1 rfl a1 r5 h5) cw_X0_swimmerAt q_376 q_377 q_375 rfl (by decide) rfl rfl rfl rfl rfl (Nat.le_of_ble_eq_true rfl) ⟨Nat.le_of_ble_eq_true rfl, Nat.le_of_ble_eq_true rfl⟩ ⟨Nat.le_refl _, Nat.le_refl _⟩ dX8_letYearGoBy_5 rfl ?_
  refine sm_astore_nq X 9 [(3, va_re (gad G) r5), (0, .ref (gad G 0)), (1, .int a1), (2, .int a2)] dX8_letYearGoBy_8 rfl rfl (by decide) rfl ?_
  refine sm_aload_n X 10 1 dX8_letYearGoBy_9 rfl rfl rfl ?_
  refine sm_getf X 13 1 rfl fd_8_0 rfl dX8_letYearGoBy_10 rfl q_289 ?_
  refine sm_iload_n X 14 3 dX8_letYearGoBy_13 rfl rfl rfl ?_
  refine sm_bind (fun r14 h14 => ?_)
  refine sm_callV0 X 17 [.int a2] [] [va_re (gad G) r14] (c_X0_swimmerAt l G σ 1 rfl a2 r14 h14) cw_X0_swimmerAt q_376 q_377 q_375 rfl (by decide) rfl rfl rfl rfl rfl (Nat.le_of_ble_eq_true rfl) ⟨Nat.le_of_ble_eq_true rfl, Nat.le_of_ble_eq_true rfl⟩ ⟨Nat.le_refl _, Nat.le_refl _⟩ dX8_letYearGoBy_14 rfl ?_
  refine sm_astoreq X 19 [(4, va_re (gad G) r14), (3, va_re (gad G) r5), (0, .ref (gad G 0)), (1, .int a1), (2, .int a2)] dX8_letYearGoBy_17 rfl (by decide) (by cases r5 <;> rfl) ?_
  refine sm_aload_nq X 20 1 dX8_letYearGoBy_19 rfl rfl rfl ?_
  refine sm_aloadq X 22 0 dX8_letYearGoBy_20 rfl rfl ?_
  refine sm_bind (fun r22 h22 => ?_)
  refine sm_callS0 X 25 [va_re (gad G) r5, va_re (gad G) r14] [] [.int (b2i r22)] (c_X8_areUnlike l G σ r5 r14 r22 h22) cw_X8_areUnlike q_636 q_635 rfl rfl rfl (Nat.le_of_ble_eq_true rfl) ⟨Nat.le_of_ble_eq_true rfl, Nat.le_of_ble_eq_true rfl⟩ ⟨Nat.le_refl _, Nat.le_refl _⟩ dX8_letYearGoBy_22 rfl ?_
  refine sm_ifz_ne X 28 29 dX8_letYearGoBy_25 rfl (by decide) (fun h25 => ?_) (fun h25 => ?_)
  · refine sm_aload_n X 30 2 dX8_letYearGoBy_29 rfl rfl rfl ?_
    refine sm_getf X 33 58 rfl fd_8_3 rfl dX8_letYearGoBy_30 rfl q_292 ?_
    refine sm_aload_n X 34 2 dX8_letYearGoBy_33 rfl rfl rfl ?_
    refine sm_getf X 37 1 rfl fd_8_0 rfl dX8_letYearGoBy_34 rfl q_289 ?_
    refine sm_aload_n X 38 2 dX8_letYearGoBy_37 rfl rfl rfl ?_
    refine sm_getf X 41 1 rfl fd_8_0 rfl dX8_letYearGoBy_38 rfl q_289 ?_
    refine sm_geti X 44 rfl fd_0_1 dX8_letYearGoBy_41 rfl q_92 ?_
    refine sm_bind (fun r44 h44 => ?_)
    refine sm_callV0 X 47 [.ref (gad G 1), .int (σ.1 1 1)] [] [] (c_X5_feel l G σ 1 rfl (σ.1 1 1) r44 h44) cw_X5_feel q_603 q_604 q_602 rfl (by decide) rfl rfl rfl rfl rfl (Nat.le_of_ble_eq_true rfl) ⟨Nat.le_of_ble_eq_true rfl, Nat.le_of_ble_eq_true rfl⟩ ⟨Nat.le_refl _, Nat.le_refl _⟩ dX8_letYearGoBy_44 rfl ?_
    refine sm_aload_n X 48 2 dX8_letYearGoBy_47 rfl rfl rfl ?_
    refine sm_getf X 51 58 rfl fd_8_3 rfl dX8_letYearGoBy_48 rfl q_292 ?_
    refine sm_aload_nq X 52 1 dX8_letYearGoBy_51 rfl rfl rfl ?_
    refine sm_aloadq X 54 0 dX8_letYearGoBy_52 rfl rfl ?_
    refine sm_aload_n X 55 2 dX8_letYearGoBy_54 rfl rfl rfl ?_
    refine sm_getf X 58 1 rfl fd_8_0 rfl dX8_letYearGoBy_55 rfl q_289 ?_
    refine sm_geti X 61 rfl fd_0_2 dX8_letYearGoBy_58 rfl q_94 ?_
    refine sm_deref (fun k61 h hk61 => ?_)
    subst h
    refine sm_deref (fun k61' h hk61' => ?_)
    subst h
    refine sm_bind (fun r61 h61 => ?_)
    refine sm_callV0 X 64 [.ref (gad G k61), .ref (gad G k61'), .int (r44.1 1 2)] [] [.int (b2i r61.1)] (c_X5_meets l G r44 k61 hk61 k61' hk61' (r44.1 1 2) r61 h61) cw_X5_meets q_639 q_640 q_638 rfl (by decide) rfl rfl rfl rfl rfl (Nat.le_of_ble_eq_true rfl) ⟨Nat.le_of_ble_eq_true rfl, Nat.le_of_ble_eq_true rfl⟩ ⟨Nat.le_refl _, Nat.le_refl _⟩ dX8_letYearGoBy_61 rfl ?_
    refine sm_ifz_eq X 67 115 dX8_letYearGoBy_64 rfl (by decide) (fun h64 => ?_) (fun h64 => ?_)
    · refine sm_aload_n X 68 2 dX8_letYearGoBy_67 rfl rfl rfl ?_
      refine sm_getf X 71 1 rfl fd_8_0 rfl dX8_letYearGoBy_68 rfl q_289 ?_
      refine sm_aload_n X 72 2 dX8_letYearGoBy_71 rfl rfl rfl ?_
      refine sm_getf X 75 58 rfl fd_8_3 rfl dX8_letYearGoBy_72 rfl q_292 ?_
      refine sm_geti X 78 rfl fd_5_2 dX8_letYearGoBy_75 rfl q_190 ?_
      refine sm_puti X 81 .int rfl fd_0_3 (by decide) rfl rfl rfl dX8_letYearGoBy_78 rfl q_96 (fun σ78 e78 => ?_)
      clear e78
      refine sm_aload_n X 82 1 dX8_letYearGoBy_81 rfl rfl rfl ?_
      refine sm_sipush X 85 (9999) dX8_letYearGoBy_82 rfl rfl ?_
      refine sm_aload_n X 86 1 dX8_letYearGoBy_85 rfl rfl rfl ?_
      refine sm_geti X 89 hk61 fd_6_4 dX8_letYearGoBy_86 rfl q_72 ?_
      refine sm_iconst X 90 (1) dX8_letYearGoBy_89 rfl rfl ?_
      refine sm_iadd X 91 dX8_letYearGoBy_90 rfl ?_
      refine sm_mmin X 94 dX8_letYearGoBy_91 rfl q_365 q_366 q_367 q_11 ⟨Nat.le_of_ble_eq_true rfl, Nat.le_of_ble_eq_true rfl, Nat.le_refl _, Nat.le_refl _⟩ ?_
      refine sm_puti X 97 .int hk61 fd_6_4 (by decide) rfl rfl rfl dX8_letYearGoBy_94 rfl q_72 (fun σ94 e94 => ?_)
      clear e94
      refine sm_aload X 99 0 dX8_letYearGoBy_97 rfl rfl ?_
      refine sm_sipush X 102 (9999) dX8_letYearGoBy_99 rfl rfl ?_
      refine sm_aload X 104 0 dX8_letYearGoBy_102 rfl rfl ?_
      refine sm_geti X 107 hk61' fd_6_4 dX8_letYearGoBy_104 rfl q_72 ?_
      refine sm_iconst X 108 (1) dX8_letYearGoBy_107 rfl rfl ?_
      refine sm_iadd X 109 dX8_letYearGoBy_108 rfl ?_
      refine sm_mmin X 112 dX8_letYearGoBy_109 rfl q_365 q_366 q_367 q_11 ⟨Nat.le_of_ble_eq_true rfl, Nat.le_of_ble_eq_true rfl, Nat.le_refl _, Nat.le_refl _⟩ ?_
      refine sm_puti X 115 .int hk61' fd_6_4 (by decide) rfl rfl rfl dX8_letYearGoBy_112 rfl q_72 (fun σ112 e112 => ?_)
      clear e112
      exact sm_sub [2] rfl (J115 σ112)
    · exact sm_sub [2] rfl (J115 r61.2)
  · exact sm_vret X hr dX8_letYearGoBy_28 rfl
def by_X8_year_0 : List Nat := [42, 27, 28, 182, 0, 192, 62, 29, 153, 0, 9, 42, 29, 182, 0, 76]
def by_X8_year_z : List Nat := [172, 42, 27, 28, 182, 0, 195, 42, 180, 0, 10, 180, 0, 89, 172]
def by_X8_year : List (List Nat) := [by_X8_year_0]
set_option maxRecDepth 100000 in
theorem byo_X8_year : cX8_year.data.toList.map UInt8.toNat = by_X8_year.flatten ++ by_X8_year_z := by decide +kernel
theorem byl_X8_year : by_X8_year.all (fun r => r.length == 16) = true := by decide +kernel
theorem byr_X8_year_0 {j v : Nat} (h : by_X8_year_0[j]? = some v) : RD cX8_year (0 + j) v := rd_16 byo_X8_year byl_X8_year 0 rfl h
theorem byr_X8_year_1 {j v : Nat} (h : by_X8_year_z[j]? = some v) : RD cX8_year (16 + j) v := rd_z byo_X8_year byl_X8_year 1 rfl h
theorem dX8_year_0 : decode cX8_year 0 = .ok (.aload_n 0, 1) := dk_42 (byr_X8_year_0 (j := 0) rfl)
theorem dX8_year_1 : decode cX8_year 1 = .ok (.iload_n 1, 1) := dk_27 (byr_X8_year_0 (j := 1) rfl)
theorem dX8_year_2 : decode cX8_year 2 = .ok (.iload_n 2, 1) := dk_28 (byr_X8_year_0 (j := 2) rfl)
theorem dX8_year_3 : decode cX8_year 3 = .ok (.invokevirtual 192, 3) := dk_182 (byr_X8_year_0 (j := 3) rfl) (byr_X8_year_0 (j := 4) rfl) (byr_X8_year_0 (j := 5) rfl) (by decide)
theorem dX8_year_6 : decode cX8_year 6 = .ok (.istore_n 3, 1) := dk_62 (byr_X8_year_0 (j := 6) rfl)
theorem dX8_year_7 : decode cX8_year 7 = .ok (.iload_n 3, 1) := dk_29 (byr_X8_year_0 (j := 7) rfl)
theorem dX8_year_8 : decode cX8_year 8 = .ok (.ifCond .eq 9, 3) := dk_153 (byr_X8_year_0 (j := 8) rfl) (byr_X8_year_0 (j := 9) rfl) (byr_X8_year_0 (j := 10) rfl) (by decide)
theorem dX8_year_11 : decode cX8_year 11 = .ok (.aload_n 0, 1) := dk_42 (byr_X8_year_0 (j := 11) rfl)
theorem dX8_year_12 : decode cX8_year 12 = .ok (.iload_n 3, 1) := dk_29 (byr_X8_year_0 (j := 12) rfl)
theorem dX8_year_13 : decode cX8_year 13 = .ok (.invokevirtual 76, 3) := dk_182 (byr_X8_year_0 (j := 13) rfl) (byr_X8_year_0 (j := 14) rfl) (byr_X8_year_0 (j := 15) rfl) (by decide)
theorem dX8_year_16 : decode cX8_year 16 = .ok (.ireturn, 1) := dk_172 (byr_X8_year_1 (j := 0) rfl)
theorem dX8_year_17 : decode cX8_year 17 = .ok (.aload_n 0, 1) := dk_42 (byr_X8_year_1 (j := 1) rfl)
theorem dX8_year_18 : decode cX8_year 18 = .ok (.iload_n 1, 1) := dk_27 (byr_X8_year_1 (j := 2) rfl)
theorem dX8_year_19 : decode cX8_year 19 = .ok (.iload_n 2, 1) := dk_28 (byr_X8_year_1 (j := 3) rfl)
theorem dX8_year_20 : decode cX8_year 20 = .ok (.invokevirtual 195, 3) := dk_182 (byr_X8_year_1 (j := 4) rfl) (byr_X8_year_1 (j := 5) rfl) (byr_X8_year_1 (j := 6) rfl) (by decide)
theorem dX8_year_23 : decode cX8_year 23 = .ok (.aload_n 0, 1) := dk_42 (byr_X8_year_1 (j := 7) rfl)
theorem dX8_year_24 : decode cX8_year 24 = .ok (.getfield 10, 3) := dk_180 (byr_X8_year_1 (j := 8) rfl) (byr_X8_year_1 (j := 9) rfl) (byr_X8_year_1 (j := 10) rfl) (by decide)
theorem dX8_year_27 : decode cX8_year 27 = .ok (.getfield 89, 3) := dk_180 (byr_X8_year_1 (j := 11) rfl) (byr_X8_year_1 (j := 12) rfl) (byr_X8_year_1 (j := 13) rfl) (by decide)
theorem dX8_year_30 : decode cX8_year 30 = .ok (.ireturn, 1) := dk_172 (byr_X8_year_1 (j := 14) rfl)
set_option maxHeartbeats 4000000 in
set_option maxRecDepth 100000 in
theorem c_X8_year (l : Launch) (G : GT) (σ : Sto) (a1 : Int32) (a2 : Int32) (r : (Int32 × Sto)) (h : f_X8_year σ a1 a2 = some r) : MW l G (8) (205) 0 0 yX8_year cX8_year 4 (Option.some Jvm.ClassFile.FieldType.int) [.ref (gad G 0), .int a1, .int a2] (wl G σ) (some (.int r.1)) (wl G r.2) := by
  refine mw_of RX8 (fiI G) [(0, .ref (gad G 0)), (1, .int a1), (2, .int a2)] (by decide +kernel) rfl (Nat.le_of_ble_eq_true rfl) rfl h rfl (fun p e s m args below meth c X hr hnm => ?_)
  unfold f_X8_year
  refine sm_aload_n X 1 0 dX8_year_0 rfl rfl rfl ?_
  refine sm_iload_n X 2 1 dX8_year_1 rfl rfl rfl ?_
  refine sm_iload_n X 3 2 dX8_year_2 rfl rfl rfl ?_
  refine sm_bind (fun r3 h3 => ?_)
  refine sm_callV0 X 6 [.int a1, .int a2] [] [.int r3] (c_X8_whyNoYear l G σ a1 a2 r3 h3) cw_X8_whyNoYear q_656 qs_16 q_654 rfl (by decide) rfl rfl rfl rfl rfl (Nat.le_of_ble_eq_true rfl) ⟨Nat.le_of_ble_eq_true rfl, Nat.le_of_ble_eq_true rfl⟩ ⟨Nat.le_refl _, Nat.le_refl _⟩ dX8_year_3 rfl ?_
  refine sm_istore_n X 7 [(3, .int r3), (0, .ref (gad G 0)), (1, .int a1), (2, .int a2)] dX8_year_6 rfl rfl (by decide) rfl ?_
  refine sm_iload_n X 8 0 dX8_year_7 rfl rfl rfl ?_
  refine sm_if_eq X 11 17 dX8_year_8 rfl (by decide) (fun h8 => ?_) (fun h8 => ?_)
  · refine sm_aload_n X 18 1 dX8_year_17 rfl rfl rfl ?_
    refine sm_iload_n X 19 2 dX8_year_18 rfl rfl rfl ?_
    refine sm_iload_n X 20 3 dX8_year_19 rfl rfl rfl ?_
    refine sm_bind (fun r20 h20 => ?_)
    refine sm_callV0 X 23 [.int a1, .int a2] [] [] (c_X8_letYearGoBy l G σ a1 a2 r20 h20) cw_X8_letYearGoBy q_660 qs_17 q_658 rfl (by decide) rfl rfl rfl rfl rfl (Nat.le_of_ble_eq_true rfl) ⟨Nat.le_of_ble_eq_true rfl, Nat.le_of_ble_eq_true rfl⟩ ⟨Nat.le_refl _, Nat.le_refl _⟩ dX8_year_20 rfl ?_
    refine sm_aload_n X 24 1 dX8_year_23 rfl rfl rfl ?_
    refine sm_getf X 27 1 rfl fd_8_0 rfl dX8_year_24 rfl q_289 ?_
    refine sm_geti X 30 rfl fd_0_3 dX8_year_27 rfl q_96 ?_
    exact sm_iret X hr dX8_year_30 rfl
  · refine sm_aload_n X 12 1 dX8_year_11 rfl rfl rfl ?_
    refine sm_iload_n X 13 0 dX8_year_12 rfl rfl rfl ?_
    refine sm_bind (fun r13 h13 => ?_)
    refine sm_callV0 X 16 [.int r3] [] [.int r13.1] (c_X8_refuse l G σ r3 r13 h13) cw_X8_refuse q_332 qs_0 q_330 rfl (by decide) rfl rfl rfl rfl rfl (Nat.le_of_ble_eq_true rfl) ⟨Nat.le_of_ble_eq_true rfl, Nat.le_of_ble_eq_true rfl⟩ ⟨Nat.le_refl _, Nat.le_refl _⟩ dX8_year_13 rfl ?_
    exact sm_iret X hr dX8_year_16 rfl
def by_X8_loose_0 : List Nat := [42, 27, 28, 182, 0, 192, 62, 29, 153, 0, 9, 42, 29, 182, 0, 76]
def by_X8_loose_1 : List Nat := [172, 42, 180, 0, 10, 42, 180, 0, 10, 182, 0, 198, 16, 7, 112, 6]
def by_X8_loose_2 : List Nat := [100, 181, 0, 83, 42, 27, 28, 182, 0, 195, 42, 180, 0, 10, 180, 0]
def by_X8_loose_z : List Nat := [89, 172]
def by_X8_loose : List (List Nat) := [by_X8_loose_0, by_X8_loose_1, by_X8_loose_2]
set_option maxRecDepth 100000 in
theorem byo_X8_loose : cX8_loose.data.toList.map UInt8.toNat = by_X8_loose.flatten ++ by_X8_loose_z := by decide +kernel
theorem byl_X8_loose : by_X8_loose.all (fun r => r.length == 16) = true := by decide +kernel
theorem byr_X8_loose_0 {j v : Nat} (h : by_X8_loose_0[j]? = some v) : RD cX8_loose (0 + j) v := rd_16 byo_X8_loose byl_X8_loose 0 rfl h
theorem byr_X8_loose_1 {j v : Nat} (h : by_X8_loose_1[j]? = some v) : RD cX8_loose (16 + j) v := rd_16 byo_X8_loose byl_X8_loose 1 rfl h
theorem byr_X8_loose_2 {j v : Nat} (h : by_X8_loose_2[j]? = some v) : RD cX8_loose (32 + j) v := rd_16 byo_X8_loose byl_X8_loose 2 rfl h
theorem byr_X8_loose_3 {j v : Nat} (h : by_X8_loose_z[j]? = some v) : RD cX8_loose (48 + j) v := rd_z byo_X8_loose byl_X8_loose 3 rfl h
theorem dX8_loose_0 : decode cX8_loose 0 = .ok (.aload_n 0, 1) := dk_42 (byr_X8_loose_0 (j := 0) rfl)
theorem dX8_loose_1 : decode cX8_loose 1 = .ok (.iload_n 1, 1) := dk_27 (byr_X8_loose_0 (j := 1) rfl)
theorem dX8_loose_2 : decode cX8_loose 2 = .ok (.iload_n 2, 1) := dk_28 (byr_X8_loose_0 (j := 2) rfl)
theorem dX8_loose_3 : decode cX8_loose 3 = .ok (.invokevirtual 192, 3) := dk_182 (byr_X8_loose_0 (j := 3) rfl) (byr_X8_loose_0 (j := 4) rfl) (byr_X8_loose_0 (j := 5) rfl) (by decide)
theorem dX8_loose_6 : decode cX8_loose 6 = .ok (.istore_n 3, 1) := dk_62 (byr_X8_loose_0 (j := 6) rfl)
theorem dX8_loose_7 : decode cX8_loose 7 = .ok (.iload_n 3, 1) := dk_29 (byr_X8_loose_0 (j := 7) rfl)
theorem dX8_loose_8 : decode cX8_loose 8 = .ok (.ifCond .eq 9, 3) := dk_153 (byr_X8_loose_0 (j := 8) rfl) (byr_X8_loose_0 (j := 9) rfl) (byr_X8_loose_0 (j := 10) rfl) (by decide)
theorem dX8_loose_11 : decode cX8_loose 11 = .ok (.aload_n 0, 1) := dk_42 (byr_X8_loose_0 (j := 11) rfl)
theorem dX8_loose_12 : decode cX8_loose 12 = .ok (.iload_n 3, 1) := dk_29 (byr_X8_loose_0 (j := 12) rfl)
theorem dX8_loose_13 : decode cX8_loose 13 = .ok (.invokevirtual 76, 3) := dk_182 (byr_X8_loose_0 (j := 13) rfl) (byr_X8_loose_0 (j := 14) rfl) (byr_X8_loose_0 (j := 15) rfl) (by decide)
theorem dX8_loose_16 : decode cX8_loose 16 = .ok (.ireturn, 1) := dk_172 (byr_X8_loose_1 (j := 0) rfl)
theorem dX8_loose_17 : decode cX8_loose 17 = .ok (.aload_n 0, 1) := dk_42 (byr_X8_loose_1 (j := 1) rfl)
theorem dX8_loose_18 : decode cX8_loose 18 = .ok (.getfield 10, 3) := dk_180 (byr_X8_loose_1 (j := 2) rfl) (byr_X8_loose_1 (j := 3) rfl) (byr_X8_loose_1 (j := 4) rfl) (by decide)
theorem dX8_loose_21 : decode cX8_loose 21 = .ok (.aload_n 0, 1) := dk_42 (byr_X8_loose_1 (j := 5) rfl)
theorem dX8_loose_22 : decode cX8_loose 22 = .ok (.getfield 10, 3) := dk_180 (byr_X8_loose_1 (j := 6) rfl) (byr_X8_loose_1 (j := 7) rfl) (byr_X8_loose_1 (j := 8) rfl) (by decide)
theorem dX8_loose_25 : decode cX8_loose 25 = .ok (.invokevirtual 198, 3) := dk_182 (byr_X8_loose_1 (j := 9) rfl) (byr_X8_loose_1 (j := 10) rfl) (byr_X8_loose_1 (j := 11) rfl) (by decide)
theorem dX8_loose_28 : decode cX8_loose 28 = .ok (.bipush 7, 2) := dk_16 (byr_X8_loose_1 (j := 12) rfl) (byr_X8_loose_1 (j := 13) rfl) (by decide)
theorem dX8_loose_30 : decode cX8_loose 30 = .ok (.irem, 1) := dk_112 (byr_X8_loose_1 (j := 14) rfl)
theorem dX8_loose_31 : decode cX8_loose 31 = .ok (.iconst 3, 1) := dk_6 (byr_X8_loose_1 (j := 15) rfl)
theorem dX8_loose_32 : decode cX8_loose 32 = .ok (.isub, 1) := dk_100 (byr_X8_loose_2 (j := 0) rfl)
theorem dX8_loose_33 : decode cX8_loose 33 = .ok (.putfield 83, 3) := dk_181 (byr_X8_loose_2 (j := 1) rfl) (byr_X8_loose_2 (j := 2) rfl) (byr_X8_loose_2 (j := 3) rfl) (by decide)
theorem dX8_loose_36 : decode cX8_loose 36 = .ok (.aload_n 0, 1) := dk_42 (byr_X8_loose_2 (j := 4) rfl)
theorem dX8_loose_37 : decode cX8_loose 37 = .ok (.iload_n 1, 1) := dk_27 (byr_X8_loose_2 (j := 5) rfl)
theorem dX8_loose_38 : decode cX8_loose 38 = .ok (.iload_n 2, 1) := dk_28 (byr_X8_loose_2 (j := 6) rfl)
theorem dX8_loose_39 : decode cX8_loose 39 = .ok (.invokevirtual 195, 3) := dk_182 (byr_X8_loose_2 (j := 7) rfl) (byr_X8_loose_2 (j := 8) rfl) (byr_X8_loose_2 (j := 9) rfl) (by decide)
theorem dX8_loose_42 : decode cX8_loose 42 = .ok (.aload_n 0, 1) := dk_42 (byr_X8_loose_2 (j := 10) rfl)
theorem dX8_loose_43 : decode cX8_loose 43 = .ok (.getfield 10, 3) := dk_180 (byr_X8_loose_2 (j := 11) rfl) (byr_X8_loose_2 (j := 12) rfl) (byr_X8_loose_2 (j := 13) rfl) (by decide)
theorem dX8_loose_46 : decode cX8_loose 46 = .ok (.getfield 89, 3) := dk_180 (byr_X8_loose_2 (j := 14) rfl) (byr_X8_loose_2 (j := 15) rfl) (byr_X8_loose_3 (j := 0) rfl) (by decide)
theorem dX8_loose_49 : decode cX8_loose 49 = .ok (.ireturn, 1) := dk_172 (byr_X8_loose_3 (j := 1) rfl)
set_option maxHeartbeats 4000000 in
set_option maxRecDepth 100000 in
theorem c_X8_loose (l : Launch) (G : GT) (σ : Sto) (a1 : Int32) (a2 : Int32) (r : (Int32 × Sto)) (h : f_X8_loose σ a1 a2 = some r) : MW l G (8) (205) 0 0 yX8_loose cX8_loose 4 (Option.some Jvm.ClassFile.FieldType.int) [.ref (gad G 0), .int a1, .int a2] (wl G σ) (some (.int r.1)) (wl G r.2) := by
  refine mw_of RX8 (fiI G) [(0, .ref (gad G 0)), (1, .int a1), (2, .int a2)] (by decide +kernel) rfl (Nat.le_of_ble_eq_true rfl) rfl h rfl (fun p e s m args below meth c X hr hnm => ?_)
  unfold f_X8_loose
  refine sm_aload_n X 1 0 dX8_loose_0 rfl rfl rfl ?_
  refine sm_iload_n X 2 1 dX8_loose_1 rfl rfl rfl ?_
  refine sm_iload_n X 3 2 dX8_loose_2 rfl rfl rfl ?_
  refine sm_bind (fun r3 h3 => ?_)
  refine sm_callV0 X 6 [.int a1, .int a2] [] [.int r3] (c_X8_whyNoYear l G σ a1 a2 r3 h3) cw_X8_whyNoYear q_656 qs_16 q_654 rfl (by decide) rfl rfl rfl rfl rfl (Nat.le_of_ble_eq_true rfl) ⟨Nat.le_of_ble_eq_true rfl, Nat.le_of_ble_eq_true rfl⟩ ⟨Nat.le_refl _, Nat.le_refl _⟩ dX8_loose_3 rfl ?_
  refine sm_istore_n X 7 [(3, .int r3), (0, .ref (gad G 0)), (1, .int a1), (2, .int a2)] dX8_loose_6 rfl rfl (by decide) rfl ?_
  refine sm_iload_n X 8 0 dX8_loose_7 rfl rfl rfl ?_
  refine sm_if_eq X 11 17 dX8_loose_8 rfl (by decide) (fun h8 => ?_) (fun h8 => ?_)
  · refine sm_aload_n X 18 1 dX8_loose_17 rfl rfl rfl ?_
    refine sm_getf X 21 1 rfl fd_8_0 rfl dX8_loose_18 rfl q_289 ?_
    refine sm_aload_n X 22 1 dX8_loose_21 rfl rfl rfl ?_
    refine sm_getf X 25 1 rfl fd_8_0 rfl dX8_loose_22 rfl q_289 ?_
    refine sm_bind (fun r25 h25 => ?_)
    refine sm_callV0 X 28 [] [.ref (gad G 1)] [.int r25.1, .ref (gad G 1)] (c_X0_draw l G σ 1 rfl r25 h25) cw_X0_draw q_673 q_674 q_672 rfl (by decide) rfl rfl rfl rfl rfl (Nat.le_of_ble_eq_true rfl) ⟨Nat.le_of_ble_eq_true rfl, Nat.le_of_ble_eq_true rfl⟩ ⟨Nat.le_refl _, Nat.le_refl _⟩ dX8_loose_25 rfl ?_
    refine sm_bipush X 30 (7) dX8_loose_28 rfl rfl ?_
    refine sm_irem X 31 dX8_loose_30 rfl (by first | decide | assumption) ?_
    refine sm_iconst X 32 (3) dX8_loose_31 rfl rfl ?_
    refine sm_isub X 33 dX8_loose_32 rfl ?_
    refine sm_puti X 36 .int rfl fd_0_1 (by decide) rfl rfl rfl dX8_loose_33 rfl q_92 (fun σ33 e33 => ?_)
    clear e33
    refine sm_aload_n X 37 1 dX8_loose_36 rfl rfl rfl ?_
    refine sm_iload_n X 38 2 dX8_loose_37 rfl rfl rfl ?_
    refine sm_iload_n X 39 3 dX8_loose_38 rfl rfl rfl ?_
    refine sm_bind (fun r39 h39 => ?_)
    refine sm_callV0 X 42 [.int a1, .int a2] [] [] (c_X8_letYearGoBy l G σ33 a1 a2 r39 h39) cw_X8_letYearGoBy q_660 qs_17 q_658 rfl (by decide) rfl rfl rfl rfl rfl (Nat.le_of_ble_eq_true rfl) ⟨Nat.le_of_ble_eq_true rfl, Nat.le_of_ble_eq_true rfl⟩ ⟨Nat.le_refl _, Nat.le_refl _⟩ dX8_loose_39 rfl ?_
    refine sm_aload_n X 43 1 dX8_loose_42 rfl rfl rfl ?_
    refine sm_getf X 46 1 rfl fd_8_0 rfl dX8_loose_43 rfl q_289 ?_
    refine sm_geti X 49 rfl fd_0_3 dX8_loose_46 rfl q_96 ?_
    exact sm_iret X hr dX8_loose_49 rfl
  · refine sm_aload_n X 12 1 dX8_loose_11 rfl rfl rfl ?_
    refine sm_iload_n X 13 0 dX8_loose_12 rfl rfl rfl ?_
    refine sm_bind (fun r13 h13 => ?_)
    refine sm_callV0 X 16 [.int r3] [] [.int r13.1] (c_X8_refuse l G σ r3 r13 h13) cw_X8_refuse q_332 qs_0 q_330 rfl (by decide) rfl rfl rfl rfl rfl (Nat.le_of_ble_eq_true rfl) ⟨Nat.le_of_ble_eq_true rfl, Nat.le_of_ble_eq_true rfl⟩ ⟨Nat.le_refl _, Nat.le_refl _⟩ dX8_loose_13 rfl ?_
    exact sm_iret X hr dX8_loose_16 rfl
def by_X8_bestPlan_0 : List Nat := [42, 180, 0, 10, 27, 182, 0, 99, 58, 4, 42, 180, 0, 10, 28, 182]
def by_X8_bestPlan_1 : List Nat := [0, 99, 58, 5, 25, 4, 25, 5, 184, 0, 175, 153, 0, 12, 29, 2]
def by_X8_bestPlan_2 : List Nat := [6, 184, 0, 72, 153, 0, 9, 42, 4, 182, 0, 76, 172, 42, 180, 0]
def by_X8_bestPlan_3 : List Nat := [29, 42, 180, 0, 10, 42, 180, 0, 10, 180, 0, 83, 182, 0, 167, 42]
def by_X8_bestPlan_4 : List Nat := [180, 0, 36, 42, 180, 0, 29, 25, 4, 25, 5, 42, 180, 0, 10, 180]
def by_X8_bestPlan_5 : List Nat := [0, 86, 182, 0, 202, 42, 180, 0, 36, 180, 0, 206, 154, 0, 9, 42]
def by_X8_bestPlan_6 : List Nat := [5, 182, 0, 76, 172, 29, 156, 0, 13, 42, 180, 0, 36, 180, 0, 210]
def by_X8_bestPlan_z : List Nat := [167, 0, 11, 42, 180, 0, 36, 29, 182, 0, 211, 172]
def by_X8_bestPlan : List (List Nat) := [by_X8_bestPlan_0, by_X8_bestPlan_1, by_X8_bestPlan_2, by_X8_bestPlan_3, by_X8_bestPlan_4, by_X8_bestPlan_5, by_X8_bestPlan_6]
set_option maxRecDepth 100000 in
theorem byo_X8_bestPlan : cX8_bestPlan.data.toList.map UInt8.toNat = by_X8_bestPlan.flatten ++ by_X8_bestPlan_z := by decide +kernel
theorem byl_X8_bestPlan : by_X8_bestPlan.all (fun r => r.length == 16) = true := by decide +kernel
theorem byr_X8_bestPlan_0 {j v : Nat} (h : by_X8_bestPlan_0[j]? = some v) : RD cX8_bestPlan (0 + j) v := rd_16 byo_X8_bestPlan byl_X8_bestPlan 0 rfl h
theorem byr_X8_bestPlan_1 {j v : Nat} (h : by_X8_bestPlan_1[j]? = some v) : RD cX8_bestPlan (16 + j) v := rd_16 byo_X8_bestPlan byl_X8_bestPlan 1 rfl h
theorem byr_X8_bestPlan_2 {j v : Nat} (h : by_X8_bestPlan_2[j]? = some v) : RD cX8_bestPlan (32 + j) v := rd_16 byo_X8_bestPlan byl_X8_bestPlan 2 rfl h
theorem byr_X8_bestPlan_3 {j v : Nat} (h : by_X8_bestPlan_3[j]? = some v) : RD cX8_bestPlan (48 + j) v := rd_16 byo_X8_bestPlan byl_X8_bestPlan 3 rfl h
theorem byr_X8_bestPlan_4 {j v : Nat} (h : by_X8_bestPlan_4[j]? = some v) : RD cX8_bestPlan (64 + j) v := rd_16 byo_X8_bestPlan byl_X8_bestPlan 4 rfl h
theorem byr_X8_bestPlan_5 {j v : Nat} (h : by_X8_bestPlan_5[j]? = some v) : RD cX8_bestPlan (80 + j) v := rd_16 byo_X8_bestPlan byl_X8_bestPlan 5 rfl h
theorem byr_X8_bestPlan_6 {j v : Nat} (h : by_X8_bestPlan_6[j]? = some v) : RD cX8_bestPlan (96 + j) v := rd_16 byo_X8_bestPlan byl_X8_bestPlan 6 rfl h
theorem byr_X8_bestPlan_7 {j v : Nat} (h : by_X8_bestPlan_z[j]? = some v) : RD cX8_bestPlan (112 + j) v := rd_z byo_X8_bestPlan byl_X8_bestPlan 7 rfl h
theorem dX8_bestPlan_0 : decode cX8_bestPlan 0 = .ok (.aload_n 0, 1) := dk_42 (byr_X8_bestPlan_0 (j := 0) rfl)
theorem dX8_bestPlan_1 : decode cX8_bestPlan 1 = .ok (.getfield 10, 3) := dk_180 (byr_X8_bestPlan_0 (j := 1) rfl) (byr_X8_bestPlan_0 (j := 2) rfl) (byr_X8_bestPlan_0 (j := 3) rfl) (by decide)
theorem dX8_bestPlan_4 : decode cX8_bestPlan 4 = .ok (.iload_n 1, 1) := dk_27 (byr_X8_bestPlan_0 (j := 4) rfl)
theorem dX8_bestPlan_5 : decode cX8_bestPlan 5 = .ok (.invokevirtual 99, 3) := dk_182 (byr_X8_bestPlan_0 (j := 5) rfl) (byr_X8_bestPlan_0 (j := 6) rfl) (byr_X8_bestPlan_0 (j := 7) rfl) (by decide)
theorem dX8_bestPlan_8 : decode cX8_bestPlan 8 = .ok (.astore 4, 2) := dk_58 (byr_X8_bestPlan_0 (j := 8) rfl) (byr_X8_bestPlan_0 (j := 9) rfl)
theorem dX8_bestPlan_10 : decode cX8_bestPlan 10 = .ok (.aload_n 0, 1) := dk_42 (byr_X8_bestPlan_0 (j := 10) rfl)
theorem dX8_bestPlan_11 : decode cX8_bestPlan 11 = .ok (.getfield 10, 3) := dk_180 (byr_X8_bestPlan_0 (j := 11) rfl) (byr_X8_bestPlan_0 (j := 12) rfl) (byr_X8_bestPlan_0 (j := 13) rfl) (by decide)
theorem dX8_bestPlan_14 : decode cX8_bestPlan 14 = .ok (.iload_n 2, 1) := dk_28 (byr_X8_bestPlan_0 (j := 14) rfl)
theorem dX8_bestPlan_15 : decode cX8_bestPlan 15 = .ok (.invokevirtual 99, 3) := dk_182 (byr_X8_bestPlan_0 (j := 15) rfl) (byr_X8_bestPlan_1 (j := 0) rfl) (byr_X8_bestPlan_1 (j := 1) rfl) (by decide)
theorem dX8_bestPlan_18 : decode cX8_bestPlan 18 = .ok (.astore 5, 2) := dk_58 (byr_X8_bestPlan_1 (j := 2) rfl) (byr_X8_bestPlan_1 (j := 3) rfl)
theorem dX8_bestPlan_20 : decode cX8_bestPlan 20 = .ok (.aload 4, 2) := dk_25 (byr_X8_bestPlan_1 (j := 4) rfl) (byr_X8_bestPlan_1 (j := 5) rfl)
theorem dX8_bestPlan_22 : decode cX8_bestPlan 22 = .ok (.aload 5, 2) := dk_25 (byr_X8_bestPlan_1 (j := 6) rfl) (byr_X8_bestPlan_1 (j := 7) rfl)
theorem dX8_bestPlan_24 : decode cX8_bestPlan 24 = .ok (.invokestatic 175, 3) := dk_184 (byr_X8_bestPlan_1 (j := 8) rfl) (byr_X8_bestPlan_1 (j := 9) rfl) (byr_X8_bestPlan_1 (j := 10) rfl) (by decide)
theorem dX8_bestPlan_27 : decode cX8_bestPlan 27 = .ok (.ifCond .eq 12, 3) := dk_153 (byr_X8_bestPlan_1 (j := 11) rfl) (byr_X8_bestPlan_1 (j := 12) rfl) (byr_X8_bestPlan_1 (j := 13) rfl) (by decide)
theorem dX8_bestPlan_30 : decode cX8_bestPlan 30 = .ok (.iload_n 3, 1) := dk_29 (byr_X8_bestPlan_1 (j := 14) rfl)
theorem dX8_bestPlan_31 : decode cX8_bestPlan 31 = .ok (.iconst (-1), 1) := dk_2 (byr_X8_bestPlan_1 (j := 15) rfl)
theorem dX8_bestPlan_32 : decode cX8_bestPlan 32 = .ok (.iconst 3, 1) := dk_6 (byr_X8_bestPlan_2 (j := 0) rfl)
theorem dX8_bestPlan_33 : decode cX8_bestPlan 33 = .ok (.invokestatic 72, 3) := dk_184 (byr_X8_bestPlan_2 (j := 1) rfl) (byr_X8_bestPlan_2 (j := 2) rfl) (byr_X8_bestPlan_2 (j := 3) rfl) (by decide)
theorem dX8_bestPlan_36 : decode cX8_bestPlan 36 = .ok (.ifCond .eq 9, 3) := dk_153 (byr_X8_bestPlan_2 (j := 4) rfl) (byr_X8_bestPlan_2 (j := 5) rfl) (byr_X8_bestPlan_2 (j := 6) rfl) (by decide)
theorem dX8_bestPlan_39 : decode cX8_bestPlan 39 = .ok (.aload_n 0, 1) := dk_42 (byr_X8_bestPlan_2 (j := 7) rfl)
theorem dX8_bestPlan_40 : decode cX8_bestPlan 40 = .ok (.iconst 1, 1) := dk_4 (byr_X8_bestPlan_2 (j := 8) rfl)
theorem dX8_bestPlan_41 : decode cX8_bestPlan 41 = .ok (.invokevirtual 76, 3) := dk_182 (byr_X8_bestPlan_2 (j := 9) rfl) (byr_X8_bestPlan_2 (j := 10) rfl) (byr_X8_bestPlan_2 (j := 11) rfl) (by decide)
theorem dX8_bestPlan_44 : decode cX8_bestPlan 44 = .ok (.ireturn, 1) := dk_172 (byr_X8_bestPlan_2 (j := 12) rfl)
theorem dX8_bestPlan_45 : decode cX8_bestPlan 45 = .ok (.aload_n 0, 1) := dk_42 (byr_X8_bestPlan_2 (j := 13) rfl)
theorem dX8_bestPlan_46 : decode cX8_bestPlan 46 = .ok (.getfield 29, 3) := dk_180 (byr_X8_bestPlan_2 (j := 14) rfl) (byr_X8_bestPlan_2 (j := 15) rfl) (byr_X8_bestPlan_3 (j := 0) rfl) (by decide)
theorem dX8_bestPlan_49 : decode cX8_bestPlan 49 = .ok (.aload_n 0, 1) := dk_42 (byr_X8_bestPlan_3 (j := 1) rfl)
theorem dX8_bestPlan_50 : decode cX8_bestPlan 50 = .ok (.getfield 10, 3) := dk_180 (byr_X8_bestPlan_3 (j := 2) rfl) (byr_X8_bestPlan_3 (j := 3) rfl) (byr_X8_bestPlan_3 (j := 4) rfl) (by decide)
theorem dX8_bestPlan_53 : decode cX8_bestPlan 53 = .ok (.aload_n 0, 1) := dk_42 (byr_X8_bestPlan_3 (j := 5) rfl)
theorem dX8_bestPlan_54 : decode cX8_bestPlan 54 = .ok (.getfield 10, 3) := dk_180 (byr_X8_bestPlan_3 (j := 6) rfl) (byr_X8_bestPlan_3 (j := 7) rfl) (byr_X8_bestPlan_3 (j := 8) rfl) (by decide)
theorem dX8_bestPlan_57 : decode cX8_bestPlan 57 = .ok (.getfield 83, 3) := dk_180 (byr_X8_bestPlan_3 (j := 9) rfl) (byr_X8_bestPlan_3 (j := 10) rfl) (byr_X8_bestPlan_3 (j := 11) rfl) (by decide)
theorem dX8_bestPlan_60 : decode cX8_bestPlan 60 = .ok (.invokevirtual 167, 3) := dk_182 (byr_X8_bestPlan_3 (j := 12) rfl) (byr_X8_bestPlan_3 (j := 13) rfl) (byr_X8_bestPlan_3 (j := 14) rfl) (by decide)
theorem dX8_bestPlan_63 : decode cX8_bestPlan 63 = .ok (.aload_n 0, 1) := dk_42 (byr_X8_bestPlan_3 (j := 15) rfl)
theorem dX8_bestPlan_64 : decode cX8_bestPlan 64 = .ok (.getfield 36, 3) := dk_180 (byr_X8_bestPlan_4 (j := 0) rfl) (byr_X8_bestPlan_4 (j := 1) rfl) (byr_X8_bestPlan_4 (j := 2) rfl) (by decide)
theorem dX8_bestPlan_67 : decode cX8_bestPlan 67 = .ok (.aload_n 0, 1) := dk_42 (byr_X8_bestPlan_4 (j := 3) rfl)
theorem dX8_bestPlan_68 : decode cX8_bestPlan 68 = .ok (.getfield 29, 3) := dk_180 (byr_X8_bestPlan_4 (j := 4) rfl) (byr_X8_bestPlan_4 (j := 5) rfl) (byr_X8_bestPlan_4 (j := 6) rfl) (by decide)
theorem dX8_bestPlan_71 : decode cX8_bestPlan 71 = .ok (.aload 4, 2) := dk_25 (byr_X8_bestPlan_4 (j := 7) rfl) (byr_X8_bestPlan_4 (j := 8) rfl)
theorem dX8_bestPlan_73 : decode cX8_bestPlan 73 = .ok (.aload 5, 2) := dk_25 (byr_X8_bestPlan_4 (j := 9) rfl) (byr_X8_bestPlan_4 (j := 10) rfl)
theorem dX8_bestPlan_75 : decode cX8_bestPlan 75 = .ok (.aload_n 0, 1) := dk_42 (byr_X8_bestPlan_4 (j := 11) rfl)
theorem dX8_bestPlan_76 : decode cX8_bestPlan 76 = .ok (.getfield 10, 3) := dk_180 (byr_X8_bestPlan_4 (j := 12) rfl) (byr_X8_bestPlan_4 (j := 13) rfl) (byr_X8_bestPlan_4 (j := 14) rfl) (by decide)
theorem dX8_bestPlan_79 : decode cX8_bestPlan 79 = .ok (.getfield 86, 3) := dk_180 (byr_X8_bestPlan_4 (j := 15) rfl) (byr_X8_bestPlan_5 (j := 0) rfl) (byr_X8_bestPlan_5 (j := 1) rfl) (by decide)
theorem dX8_bestPlan_82 : decode cX8_bestPlan 82 = .ok (.invokevirtual 202, 3) := dk_182 (byr_X8_bestPlan_5 (j := 2) rfl) (byr_X8_bestPlan_5 (j := 3) rfl) (byr_X8_bestPlan_5 (j := 4) rfl) (by decide)
theorem dX8_bestPlan_85 : decode cX8_bestPlan 85 = .ok (.aload_n 0, 1) := dk_42 (byr_X8_bestPlan_5 (j := 5) rfl)
theorem dX8_bestPlan_86 : decode cX8_bestPlan 86 = .ok (.getfield 36, 3) := dk_180 (byr_X8_bestPlan_5 (j := 6) rfl) (byr_X8_bestPlan_5 (j := 7) rfl) (byr_X8_bestPlan_5 (j := 8) rfl) (by decide)
theorem dX8_bestPlan_89 : decode cX8_bestPlan 89 = .ok (.getfield 206, 3) := dk_180 (byr_X8_bestPlan_5 (j := 9) rfl) (byr_X8_bestPlan_5 (j := 10) rfl) (byr_X8_bestPlan_5 (j := 11) rfl) (by decide)
theorem dX8_bestPlan_92 : decode cX8_bestPlan 92 = .ok (.ifCond .ne 9, 3) := dk_154 (byr_X8_bestPlan_5 (j := 12) rfl) (byr_X8_bestPlan_5 (j := 13) rfl) (byr_X8_bestPlan_5 (j := 14) rfl) (by decide)
theorem dX8_bestPlan_95 : decode cX8_bestPlan 95 = .ok (.aload_n 0, 1) := dk_42 (byr_X8_bestPlan_5 (j := 15) rfl)
theorem dX8_bestPlan_96 : decode cX8_bestPlan 96 = .ok (.iconst 2, 1) := dk_5 (byr_X8_bestPlan_6 (j := 0) rfl)
theorem dX8_bestPlan_97 : decode cX8_bestPlan 97 = .ok (.invokevirtual 76, 3) := dk_182 (byr_X8_bestPlan_6 (j := 1) rfl) (byr_X8_bestPlan_6 (j := 2) rfl) (byr_X8_bestPlan_6 (j := 3) rfl) (by decide)
theorem dX8_bestPlan_100 : decode cX8_bestPlan 100 = .ok (.ireturn, 1) := dk_172 (byr_X8_bestPlan_6 (j := 4) rfl)
theorem dX8_bestPlan_101 : decode cX8_bestPlan 101 = .ok (.iload_n 3, 1) := dk_29 (byr_X8_bestPlan_6 (j := 5) rfl)
theorem dX8_bestPlan_102 : decode cX8_bestPlan 102 = .ok (.ifCond .ge 13, 3) := dk_156 (byr_X8_bestPlan_6 (j := 6) rfl) (byr_X8_bestPlan_6 (j := 7) rfl) (byr_X8_bestPlan_6 (j := 8) rfl) (by decide)
theorem dX8_bestPlan_105 : decode cX8_bestPlan 105 = .ok (.aload_n 0, 1) := dk_42 (byr_X8_bestPlan_6 (j := 9) rfl)
theorem dX8_bestPlan_106 : decode cX8_bestPlan 106 = .ok (.getfield 36, 3) := dk_180 (byr_X8_bestPlan_6 (j := 10) rfl) (byr_X8_bestPlan_6 (j := 11) rfl) (byr_X8_bestPlan_6 (j := 12) rfl) (by decide)
theorem dX8_bestPlan_109 : decode cX8_bestPlan 109 = .ok (.getfield 210, 3) := dk_180 (byr_X8_bestPlan_6 (j := 13) rfl) (byr_X8_bestPlan_6 (j := 14) rfl) (byr_X8_bestPlan_6 (j := 15) rfl) (by decide)
theorem dX8_bestPlan_112 : decode cX8_bestPlan 112 = .ok (.goto 11, 3) := dk_167 (byr_X8_bestPlan_7 (j := 0) rfl) (byr_X8_bestPlan_7 (j := 1) rfl) (byr_X8_bestPlan_7 (j := 2) rfl) (by decide)
theorem dX8_bestPlan_115 : decode cX8_bestPlan 115 = .ok (.aload_n 0, 1) := dk_42 (byr_X8_bestPlan_7 (j := 3) rfl)
theorem dX8_bestPlan_116 : decode cX8_bestPlan 116 = .ok (.getfield 36, 3) := dk_180 (byr_X8_bestPlan_7 (j := 4) rfl) (byr_X8_bestPlan_7 (j := 5) rfl) (byr_X8_bestPlan_7 (j := 6) rfl) (by decide)
theorem dX8_bestPlan_119 : decode cX8_bestPlan 119 = .ok (.iload_n 3, 1) := dk_29 (byr_X8_bestPlan_7 (j := 7) rfl)
theorem dX8_bestPlan_120 : decode cX8_bestPlan 120 = .ok (.invokevirtual 211, 3) := dk_182 (byr_X8_bestPlan_7 (j := 8) rfl) (byr_X8_bestPlan_7 (j := 9) rfl) (byr_X8_bestPlan_7 (j := 10) rfl) (by decide)
theorem dX8_bestPlan_123 : decode cX8_bestPlan 123 = .ok (.ireturn, 1) := dk_172 (byr_X8_bestPlan_7 (j := 11) rfl)
set_option maxHeartbeats 4000000 in
set_option maxRecDepth 100000 in
theorem c_X8_bestPlan (l : Launch) (G : GT) (σ : Sto) (a1 : Int32) (a2 : Int32) (a3 : Int32) (r : (Int32 × Sto)) (h : f_X8_bestPlan σ a1 a2 a3 = some r) : MW l G (16) (764) 0 0 yX8_bestPlan cX8_bestPlan 6 (Option.some Jvm.ClassFile.FieldType.int) [.ref (gad G 0), .int a1, .int a2, .int a3] (wl G σ) (some (.int r.1)) (wl G r.2) := by
  refine mw_of RX8 (fiI G) [(0, .ref (gad G 0)), (1, .int a1), (2, .int a2), (3, .int a3)] (by decide +kernel) rfl (Nat.le_of_ble_eq_true rfl) rfl h rfl (fun p e s m args below meth c X hr hnm => ?_)
  unfold f_X8_bestPlan
  refine sm_aload_n X 1 0 dX8_bestPlan_0 rfl rfl rfl ?_
  refine sm_getf X 4 1 rfl fd_8_0 rfl dX8_bestPlan_1 rfl q_289 ?_
  refine sm_iload_n X 5 1 dX8_bestPlan_4 rfl rfl rfl ?_
  refine sm_bind (fun r5 h5 => ?_)
  refine sm_callV0 X 8 [.int a1] [] [va_re (gad G) r5] (c_X0_swimmerAt l G σ 1 rfl a1 r5 h5) cw_X0_swimmerAt q_376 q_377 q_375 rfl (by decide) rfl rfl rfl rfl rfl (Nat.le_of_ble_eq_true rfl) ⟨Nat.le_of_ble_eq_true rfl, Nat.le_of_ble_eq_true rfl⟩ ⟨Nat.le_refl _, Nat.le_refl _⟩ dX8_bestPlan_5 rfl ?_
  refine sm_astoreq X 10 [(4, va_re (gad G) r5), (0, .ref (gad G 0)), (1, .int a1), (2, .int a2), (3, .int a3)] dX8_bestPlan_8 rfl (by decide) rfl ?_
  refine sm_aload_n X 11 1 dX8_bestPlan_10 rfl rfl rfl ?_
  refine sm_getf X 14 1 rfl fd_8_0 rfl dX8_bestPlan_11 rfl q_289 ?_
  refine sm_iload_n X 15 3 dX8_bestPlan_14 rfl rfl rfl ?_
  refine sm_bind (fun r15 h15 => ?_)
  refine sm_callV0 X 18 [.int a2] [] [va_re (gad G) r15] (c_X0_swimmerAt l G σ 1 rfl a2 r15 h15) cw_X0_swimmerAt q_376 q_377 q_375 rfl (by decide) rfl rfl rfl rfl rfl (Nat.le_of_ble_eq_true rfl) ⟨Nat.le_of_ble_eq_true rfl, Nat.le_of_ble_eq_true rfl⟩ ⟨Nat.le_refl _, Nat.le_refl _⟩ dX8_bestPlan_15 rfl ?_
  refine sm_astoreq X 20 [(5, va_re (gad G) r15), (4, va_re (gad G) r5), (0, .ref (gad G 0)), (1, .int a1), (2, .int a2), (3, .int a3)] dX8_bestPlan_18 rfl (by decide) (by cases r5 <;> rfl) ?_
  refine sm_aloadq X 22 1 dX8_bestPlan_20 rfl rfl ?_
  refine sm_aloadq X 24 0 dX8_bestPlan_22 rfl rfl ?_
  refine sm_bind (fun r24 h24 => ?_)
  refine sm_callS0 X 27 [va_re (gad G) r5, va_re (gad G) r15] [] [.int (b2i r24)] (c_X8_areUnlike l G σ r5 r15 r24 h24) cw_X8_areUnlike q_636 q_635 rfl rfl rfl (Nat.le_of_ble_eq_true rfl) ⟨Nat.le_of_ble_eq_true rfl, Nat.le_of_ble_eq_true rfl⟩ ⟨Nat.le_refl _, Nat.le_refl _⟩ dX8_bestPlan_24 rfl ?_
  refine sm_ifz_eq X 30 39 dX8_bestPlan_27 rfl (by decide) (fun h27 => ?_) (fun h27 => ?_)
  · refine sm_iload_n X 31 5 dX8_bestPlan_30 rfl rfl rfl ?_
    refine sm_iconst X 32 (-1) dX8_bestPlan_31 rfl rfl ?_
    refine sm_iconst X 33 (3) dX8_bestPlan_32 rfl rfl ?_
    refine sm_bind (fun r33 h33 => ?_)
    refine sm_callS0 X 36 [.int a3, .int (-1), .int 3] [] [.int (b2i r33)] (c_X8_isOutside l G σ a3 (-1 : Int32) (3 : Int32) r33 h33) cw_X8_isOutside q_328 q_327 rfl rfl rfl (Nat.le_of_ble_eq_true rfl) ⟨Nat.le_of_ble_eq_true rfl, Nat.le_of_ble_eq_true rfl⟩ ⟨Nat.le_refl _, Nat.le_refl _⟩ dX8_bestPlan_33 rfl ?_
    refine sm_ifz_eq X 39 45 dX8_bestPlan_36 rfl (by decide) (fun h36 => ?_) (fun h36 => ?_)
    · refine sm_aload_n X 40 2 dX8_bestPlan_39 rfl rfl rfl ?_
      refine sm_iconst X 41 (1) dX8_bestPlan_40 rfl rfl ?_
      refine sm_bind (fun r41 h41 => ?_)
      refine sm_callV0 X 44 [.int 1] [] [.int r41.1] (c_X8_refuse l G σ (1 : Int32) r41 h41) cw_X8_refuse q_332 qs_0 q_330 rfl (by decide) rfl rfl rfl rfl rfl (Nat.le_of_ble_eq_true rfl) ⟨Nat.le_of_ble_eq_true rfl, Nat.le_of_ble_eq_true rfl⟩ ⟨Nat.le_refl _, Nat.le_refl _⟩ dX8_bestPlan_41 rfl ?_
      exact sm_iret X hr dX8_bestPlan_44 rfl
    · refine sm_aload_n X 46 2 dX8_bestPlan_45 rfl rfl rfl ?_
      refine sm_getf X 49 58 rfl fd_8_3 rfl dX8_bestPlan_46 rfl q_292 ?_
      refine sm_aload_n X 50 2 dX8_bestPlan_49 rfl rfl rfl ?_
      refine sm_getf X 53 1 rfl fd_8_0 rfl dX8_bestPlan_50 rfl q_289 ?_
      refine sm_aload_n X 54 2 dX8_bestPlan_53 rfl rfl rfl ?_
      refine sm_getf X 57 1 rfl fd_8_0 rfl dX8_bestPlan_54 rfl q_289 ?_
      refine sm_geti X 60 rfl fd_0_1 dX8_bestPlan_57 rfl q_92 ?_
      refine sm_bind (fun r60 h60 => ?_)
      refine sm_callV0 X 63 [.ref (gad G 1), .int (σ.1 1 1)] [] [] (c_X5_feel l G σ 1 rfl (σ.1 1 1) r60 h60) cw_X5_feel q_603 q_604 q_602 rfl (by decide) rfl rfl rfl rfl rfl (Nat.le_of_ble_eq_true rfl) ⟨Nat.le_of_ble_eq_true rfl, Nat.le_of_ble_eq_true rfl⟩ ⟨Nat.le_refl _, Nat.le_refl _⟩ dX8_bestPlan_60 rfl ?_
      refine sm_aload_n X 64 2 dX8_bestPlan_63 rfl rfl rfl ?_
      refine sm_getf X 67 60 rfl fd_8_4 rfl dX8_bestPlan_64 rfl q_293 ?_
      refine sm_aload_n X 68 2 dX8_bestPlan_67 rfl rfl rfl ?_
      refine sm_getf X 71 58 rfl fd_8_3 rfl dX8_bestPlan_68 rfl q_292 ?_
      refine sm_aloadq X 73 1 dX8_bestPlan_71 rfl rfl ?_
      refine sm_aloadq X 75 0 dX8_bestPlan_73 rfl rfl ?_
      refine sm_aload_n X 76 2 dX8_bestPlan_75 rfl rfl rfl ?_
      refine sm_getf X 79 1 rfl fd_8_0 rfl dX8_bestPlan_76 rfl q_289 ?_
      refine sm_geti X 82 rfl fd_0_2 dX8_bestPlan_79 rfl q_94 ?_
      refine sm_deref (fun k82 h hk82 => ?_)
      subst h
      refine sm_deref (fun k82' h hk82' => ?_)
      subst h
      refine sm_bind (fun r82 h82 => ?_)
      refine sm_callV0 X 85 [.ref (gad G 58), .ref (gad G k82), .ref (gad G k82'), .int (r60.1 1 2)] [] [] (c_X2_seek l G r60 k82 hk82 k82' hk82' (r60.1 1 2) r82 h82) cw_X2_seek q_682 q_683 q_681 rfl (by decide) rfl rfl rfl rfl rfl (Nat.le_of_ble_eq_true rfl) ⟨Nat.le_of_ble_eq_true rfl, Nat.le_of_ble_eq_true rfl⟩ ⟨Nat.le_refl _, Nat.le_refl _⟩ dX8_bestPlan_82 rfl ?_
      refine sm_aload_n X 86 2 dX8_bestPlan_85 rfl rfl rfl ?_
      refine sm_getf X 89 60 rfl fd_8_4 rfl dX8_bestPlan_86 rfl q_293 ?_
      refine sm_geti X 92 rfl fd_2_0 dX8_bestPlan_89 rfl q_217 ?_
      refine sm_if_ne X 95 101 dX8_bestPlan_92 rfl (by decide) (fun h92 => ?_) (fun h92 => ?_)
      · refine sm_aload_n X 96 2 dX8_bestPlan_95 rfl rfl rfl ?_
        refine sm_iconst X 97 (2) dX8_bestPlan_96 rfl rfl ?_
        refine sm_bind (fun r97 h97 => ?_)
        refine sm_callV0 X 100 [.int 2] [] [.int r97.1] (c_X8_refuse l G r82 (2 : Int32) r97 h97) cw_X8_refuse q_332 qs_0 q_330 rfl (by decide) rfl rfl rfl rfl rfl (Nat.le_of_ble_eq_true rfl) ⟨Nat.le_of_ble_eq_true rfl, Nat.le_of_ble_eq_true rfl⟩ ⟨Nat.le_refl _, Nat.le_refl _⟩ dX8_bestPlan_97 rfl ?_
        exact sm_iret X hr dX8_bestPlan_100 rfl
      · refine sm_iload_n X 102 5 dX8_bestPlan_101 rfl rfl rfl ?_
        refine sm_if_ge X 105 115 dX8_bestPlan_102 rfl (by decide) (fun h102 => ?_) (fun h102 => ?_)
        · refine sm_aload_n X 116 2 dX8_bestPlan_115 rfl rfl rfl ?_
          refine sm_getf X 119 60 rfl fd_8_4 rfl dX8_bestPlan_116 rfl q_293 ?_
          refine sm_iload_n X 120 5 dX8_bestPlan_119 rfl rfl rfl ?_
          refine sm_bind (fun r120 h120 => ?_)
          refine sm_callV0 X 123 [.int a3] [] [.int r120] (c_X2_bestLane l G r82 a3 r120 h120) cw_X2_bestLane q_713 q_714 q_712 rfl (by decide) rfl rfl rfl rfl rfl (Nat.le_of_ble_eq_true rfl) ⟨Nat.le_of_ble_eq_true rfl, Nat.le_of_ble_eq_true rfl⟩ ⟨Nat.le_refl _, Nat.le_refl _⟩ dX8_bestPlan_120 rfl ?_
          exact sm_iret X hr dX8_bestPlan_123 rfl
        · refine sm_aload_n X 106 2 dX8_bestPlan_105 rfl rfl rfl ?_
          refine sm_getf X 109 60 rfl fd_8_4 rfl dX8_bestPlan_106 rfl q_293 ?_
          refine sm_geti X 112 rfl fd_2_1 dX8_bestPlan_109 rfl q_219 ?_
          refine sm_goto X 123 dX8_bestPlan_112 (by decide) ?_
          exact sm_iret X hr dX8_bestPlan_123 rfl
  · refine sm_aload_n X 40 2 dX8_bestPlan_39 rfl rfl rfl ?_
    refine sm_iconst X 41 (1) dX8_bestPlan_40 rfl rfl ?_
    refine sm_bind (fun r41 h41 => ?_)
    refine sm_callV0 X 44 [.int 1] [] [.int r41.1] (c_X8_refuse l G σ (1 : Int32) r41 h41) cw_X8_refuse q_332 qs_0 q_330 rfl (by decide) rfl rfl rfl rfl rfl (Nat.le_of_ble_eq_true rfl) ⟨Nat.le_of_ble_eq_true rfl, Nat.le_of_ble_eq_true rfl⟩ ⟨Nat.le_refl _, Nat.le_refl _⟩ dX8_bestPlan_41 rfl ?_
    exact sm_iret X hr dX8_bestPlan_44 rfl
def by_X8_meetInLane_0 : List Nat := [42, 180, 0, 60, 44, 182, 0, 229, 42, 180, 0, 60, 27, 182, 1, 58]
def by_X8_meetInLane_1 : List Nat := [42, 180, 0, 64, 45, 182, 0, 229, 42, 180, 0, 64, 27, 182, 1, 58]
def by_X8_meetInLane_2 : List Nat := [42, 180, 0, 29, 42, 180, 0, 60, 42, 180, 0, 64, 42, 180, 0, 10]
def by_X8_meetInLane_z : List Nat := [180, 0, 86, 182, 0, 179, 172]
def by_X8_meetInLane : List (List Nat) := [by_X8_meetInLane_0, by_X8_meetInLane_1, by_X8_meetInLane_2]
set_option maxRecDepth 100000 in
theorem byo_X8_meetInLane : cX8_meetInLane.data.toList.map UInt8.toNat = by_X8_meetInLane.flatten ++ by_X8_meetInLane_z := by decide +kernel
theorem byl_X8_meetInLane : by_X8_meetInLane.all (fun r => r.length == 16) = true := by decide +kernel
theorem byr_X8_meetInLane_0 {j v : Nat} (h : by_X8_meetInLane_0[j]? = some v) : RD cX8_meetInLane (0 + j) v := rd_16 byo_X8_meetInLane byl_X8_meetInLane 0 rfl h
theorem byr_X8_meetInLane_1 {j v : Nat} (h : by_X8_meetInLane_1[j]? = some v) : RD cX8_meetInLane (16 + j) v := rd_16 byo_X8_meetInLane byl_X8_meetInLane 1 rfl h
theorem byr_X8_meetInLane_2 {j v : Nat} (h : by_X8_meetInLane_2[j]? = some v) : RD cX8_meetInLane (32 + j) v := rd_16 byo_X8_meetInLane byl_X8_meetInLane 2 rfl h
theorem byr_X8_meetInLane_3 {j v : Nat} (h : by_X8_meetInLane_z[j]? = some v) : RD cX8_meetInLane (48 + j) v := rd_z byo_X8_meetInLane byl_X8_meetInLane 3 rfl h
theorem dX8_meetInLane_0 : decode cX8_meetInLane 0 = .ok (.aload_n 0, 1) := dk_42 (byr_X8_meetInLane_0 (j := 0) rfl)
theorem dX8_meetInLane_1 : decode cX8_meetInLane 1 = .ok (.getfield 60, 3) := dk_180 (byr_X8_meetInLane_0 (j := 1) rfl) (byr_X8_meetInLane_0 (j := 2) rfl) (byr_X8_meetInLane_0 (j := 3) rfl) (by decide)
theorem dX8_meetInLane_4 : decode cX8_meetInLane 4 = .ok (.aload_n 2, 1) := dk_44 (byr_X8_meetInLane_0 (j := 4) rfl)
theorem dX8_meetInLane_5 : decode cX8_meetInLane 5 = .ok (.invokevirtual 229, 3) := dk_182 (byr_X8_meetInLane_0 (j := 5) rfl) (byr_X8_meetInLane_0 (j := 6) rfl) (byr_X8_meetInLane_0 (j := 7) rfl) (by decide)
theorem dX8_meetInLane_8 : decode cX8_meetInLane 8 = .ok (.aload_n 0, 1) := dk_42 (byr_X8_meetInLane_0 (j := 8) rfl)
theorem dX8_meetInLane_9 : decode cX8_meetInLane 9 = .ok (.getfield 60, 3) := dk_180 (byr_X8_meetInLane_0 (j := 9) rfl) (byr_X8_meetInLane_0 (j := 10) rfl) (byr_X8_meetInLane_0 (j := 11) rfl) (by decide)
theorem dX8_meetInLane_12 : decode cX8_meetInLane 12 = .ok (.iload_n 1, 1) := dk_27 (byr_X8_meetInLane_0 (j := 12) rfl)
theorem dX8_meetInLane_13 : decode cX8_meetInLane 13 = .ok (.invokevirtual 314, 3) := dk_182 (byr_X8_meetInLane_0 (j := 13) rfl) (byr_X8_meetInLane_0 (j := 14) rfl) (byr_X8_meetInLane_0 (j := 15) rfl) (by decide)
theorem dX8_meetInLane_16 : decode cX8_meetInLane 16 = .ok (.aload_n 0, 1) := dk_42 (byr_X8_meetInLane_1 (j := 0) rfl)
theorem dX8_meetInLane_17 : decode cX8_meetInLane 17 = .ok (.getfield 64, 3) := dk_180 (byr_X8_meetInLane_1 (j := 1) rfl) (byr_X8_meetInLane_1 (j := 2) rfl) (byr_X8_meetInLane_1 (j := 3) rfl) (by decide)
theorem dX8_meetInLane_20 : decode cX8_meetInLane 20 = .ok (.aload_n 3, 1) := dk_45 (byr_X8_meetInLane_1 (j := 4) rfl)
theorem dX8_meetInLane_21 : decode cX8_meetInLane 21 = .ok (.invokevirtual 229, 3) := dk_182 (byr_X8_meetInLane_1 (j := 5) rfl) (byr_X8_meetInLane_1 (j := 6) rfl) (byr_X8_meetInLane_1 (j := 7) rfl) (by decide)
theorem dX8_meetInLane_24 : decode cX8_meetInLane 24 = .ok (.aload_n 0, 1) := dk_42 (byr_X8_meetInLane_1 (j := 8) rfl)
theorem dX8_meetInLane_25 : decode cX8_meetInLane 25 = .ok (.getfield 64, 3) := dk_180 (byr_X8_meetInLane_1 (j := 9) rfl) (byr_X8_meetInLane_1 (j := 10) rfl) (byr_X8_meetInLane_1 (j := 11) rfl) (by decide)
theorem dX8_meetInLane_28 : decode cX8_meetInLane 28 = .ok (.iload_n 1, 1) := dk_27 (byr_X8_meetInLane_1 (j := 12) rfl)
theorem dX8_meetInLane_29 : decode cX8_meetInLane 29 = .ok (.invokevirtual 314, 3) := dk_182 (byr_X8_meetInLane_1 (j := 13) rfl) (byr_X8_meetInLane_1 (j := 14) rfl) (byr_X8_meetInLane_1 (j := 15) rfl) (by decide)
theorem dX8_meetInLane_32 : decode cX8_meetInLane 32 = .ok (.aload_n 0, 1) := dk_42 (byr_X8_meetInLane_2 (j := 0) rfl)
theorem dX8_meetInLane_33 : decode cX8_meetInLane 33 = .ok (.getfield 29, 3) := dk_180 (byr_X8_meetInLane_2 (j := 1) rfl) (byr_X8_meetInLane_2 (j := 2) rfl) (byr_X8_meetInLane_2 (j := 3) rfl) (by decide)
theorem dX8_meetInLane_36 : decode cX8_meetInLane 36 = .ok (.aload_n 0, 1) := dk_42 (byr_X8_meetInLane_2 (j := 4) rfl)
theorem dX8_meetInLane_37 : decode cX8_meetInLane 37 = .ok (.getfield 60, 3) := dk_180 (byr_X8_meetInLane_2 (j := 5) rfl) (byr_X8_meetInLane_2 (j := 6) rfl) (byr_X8_meetInLane_2 (j := 7) rfl) (by decide)
theorem dX8_meetInLane_40 : decode cX8_meetInLane 40 = .ok (.aload_n 0, 1) := dk_42 (byr_X8_meetInLane_2 (j := 8) rfl)
theorem dX8_meetInLane_41 : decode cX8_meetInLane 41 = .ok (.getfield 64, 3) := dk_180 (byr_X8_meetInLane_2 (j := 9) rfl) (byr_X8_meetInLane_2 (j := 10) rfl) (byr_X8_meetInLane_2 (j := 11) rfl) (by decide)
theorem dX8_meetInLane_44 : decode cX8_meetInLane 44 = .ok (.aload_n 0, 1) := dk_42 (byr_X8_meetInLane_2 (j := 12) rfl)
theorem dX8_meetInLane_45 : decode cX8_meetInLane 45 = .ok (.getfield 10, 3) := dk_180 (byr_X8_meetInLane_2 (j := 13) rfl) (byr_X8_meetInLane_2 (j := 14) rfl) (byr_X8_meetInLane_2 (j := 15) rfl) (by decide)
theorem dX8_meetInLane_48 : decode cX8_meetInLane 48 = .ok (.getfield 86, 3) := dk_180 (byr_X8_meetInLane_3 (j := 0) rfl) (byr_X8_meetInLane_3 (j := 1) rfl) (byr_X8_meetInLane_3 (j := 2) rfl) (by decide)
theorem dX8_meetInLane_51 : decode cX8_meetInLane 51 = .ok (.invokevirtual 179, 3) := dk_182 (byr_X8_meetInLane_3 (j := 3) rfl) (byr_X8_meetInLane_3 (j := 4) rfl) (byr_X8_meetInLane_3 (j := 5) rfl) (by decide)
theorem dX8_meetInLane_54 : decode cX8_meetInLane 54 = .ok (.ireturn, 1) := dk_172 (byr_X8_meetInLane_3 (j := 6) rfl)
set_option maxHeartbeats 4000000 in
set_option maxRecDepth 100000 in
theorem c_X8_meetInLane (l : Launch) (G : GT) (σ : Sto) (a1 : Int32) (a2 : Nat) (ha2 : K0 a2 = 6) (a3 : Nat) (ha3 : K0 a3 = 6) (r : (Bool × Sto)) (h : f_X8_meetInLane σ a1 a2 a3 = some r) : MW l G (6) (158) 0 0 yX8_meetInLane cX8_meetInLane 4 (Option.some Jvm.ClassFile.FieldType.boolean) [.ref (gad G 0), .int a1, .ref (gad G a2), .ref (gad G a3)] (wl G σ) (some (.int (b2i r.1))) (wl G r.2) := by
  refine mw_of RX8 (fiZ G) [(0, .ref (gad G 0)), (1, .int a1), (2, .ref (gad G a2)), (3, .ref (gad G a3))] (by decide +kernel) rfl (Nat.le_of_ble_eq_true rfl) rfl h rfl (fun p e s m args below meth c X hr hnm => ?_)
  unfold f_X8_meetInLane
  refine sm_aload_n X 1 0 dX8_meetInLane_0 rfl rfl rfl ?_
  refine sm_getf X 4 69 rfl fd_8_8 rfl dX8_meetInLane_1 rfl q_297 ?_
  refine sm_aload_n X 5 2 dX8_meetInLane_4 rfl rfl rfl ?_
  refine sm_bind (fun r5 h5 => ?_)
  refine sm_callV0 X 8 [.ref (gad G a2)] [] [] (c_X6_copy l G σ 69 rfl a2 ha2 r5 h5) cw_X6_copy q_686 q_687 q_728 rfl (by decide) rfl rfl rfl rfl rfl (Nat.le_of_ble_eq_true rfl) ⟨Nat.le_of_ble_eq_true rfl, Nat.le_of_ble_eq_true rfl⟩ ⟨Nat.le_refl _, Nat.le_refl _⟩ dX8_meetInLane_5 rfl ?_
  refine sm_aload_n X 9 0 dX8_meetInLane_8 rfl rfl rfl ?_
  refine sm_getf X 12 69 rfl fd_8_8 rfl dX8_meetInLane_9 rfl q_297 ?_
  refine sm_iload_n X 13 1 dX8_meetInLane_12 rfl rfl rfl ?_
  refine sm_bind (fun r13 h13 => ?_)
  refine sm_callV0 X 16 [.int a1] [] [] (c_X6_keepTo l G r5 69 rfl a1 r13 h13) cw_X6_keepTo q_388 q_389 q_729 rfl (by decide) rfl rfl rfl rfl rfl (Nat.le_of_ble_eq_true rfl) ⟨Nat.le_of_ble_eq_true rfl, Nat.le_of_ble_eq_true rfl⟩ ⟨Nat.le_refl _, Nat.le_refl _⟩ dX8_meetInLane_13 rfl ?_
  refine sm_aload_n X 17 0 dX8_meetInLane_16 rfl rfl rfl ?_
  refine sm_getf X 20 71 rfl fd_8_9 rfl dX8_meetInLane_17 rfl q_298 ?_
  refine sm_aload_n X 21 3 dX8_meetInLane_20 rfl rfl rfl ?_
  refine sm_bind (fun r21 h21 => ?_)
  refine sm_callV0 X 24 [.ref (gad G a3)] [] [] (c_X6_copy l G r13 71 rfl a3 ha3 r21 h21) cw_X6_copy q_686 q_687 q_728 rfl (by decide) rfl rfl rfl rfl rfl (Nat.le_of_ble_eq_true rfl) ⟨Nat.le_of_ble_eq_true rfl, Nat.le_of_ble_eq_true rfl⟩ ⟨Nat.le_refl _, Nat.le_refl _⟩ dX8_meetInLane_21 rfl ?_
  refine sm_aload_n X 25 0 dX8_meetInLane_24 rfl rfl rfl ?_
  refine sm_getf X 28 71 rfl fd_8_9 rfl dX8_meetInLane_25 rfl q_298 ?_
  refine sm_iload_n X 29 1 dX8_meetInLane_28 rfl rfl rfl ?_
  refine sm_bind (fun r29 h29 => ?_)
  refine sm_callV0 X 32 [.int a1] [] [] (c_X6_keepTo l G r21 71 rfl a1 r29 h29) cw_X6_keepTo q_388 q_389 q_729 rfl (by decide) rfl rfl rfl rfl rfl (Nat.le_of_ble_eq_true rfl) ⟨Nat.le_of_ble_eq_true rfl, Nat.le_of_ble_eq_true rfl⟩ ⟨Nat.le_refl _, Nat.le_refl _⟩ dX8_meetInLane_29 rfl ?_
  refine sm_aload_n X 33 0 dX8_meetInLane_32 rfl rfl rfl ?_
  refine sm_getf X 36 58 rfl fd_8_3 rfl dX8_meetInLane_33 rfl q_292 ?_
  refine sm_aload_n X 37 0 dX8_meetInLane_36 rfl rfl rfl ?_
  refine sm_getf X 40 69 rfl fd_8_8 rfl dX8_meetInLane_37 rfl q_297 ?_
  refine sm_aload_n X 41 0 dX8_meetInLane_40 rfl rfl rfl ?_
  refine sm_getf X 44 71 rfl fd_8_9 rfl dX8_meetInLane_41 rfl q_298 ?_
  refine sm_aload_n X 45 0 dX8_meetInLane_44 rfl rfl rfl ?_
  refine sm_getf X 48 1 rfl fd_8_0 rfl dX8_meetInLane_45 rfl q_289 ?_
  refine sm_geti X 51 rfl fd_0_2 dX8_meetInLane_48 rfl q_94 ?_
  refine sm_bind (fun r51 h51 => ?_)
  refine sm_callV0 X 54 [.ref (gad G 69), .ref (gad G 71), .int (r29.1 1 2)] [] [.int (b2i r51.1)] (c_X5_meets l G r29 69 rfl 71 rfl (r29.1 1 2) r51 h51) cw_X5_meets q_639 q_640 q_638 rfl (by decide) rfl rfl rfl rfl rfl (Nat.le_of_ble_eq_true rfl) ⟨Nat.le_of_ble_eq_true rfl, Nat.le_of_ble_eq_true rfl⟩ ⟨Nat.le_refl _, Nat.le_refl _⟩ dX8_meetInLane_51 rfl ?_
  exact sm_zret X (v := r51.1) hr dX8_meetInLane_54 rfl
def by_X8_worstPlaceIn_0 : List Nat := [42, 180, 0, 10, 180, 0, 89, 54, 4, 42, 27, 44, 45, 182, 0, 225]
def by_X8_worstPlaceIn_1 : List Nat := [153, 0, 30, 44, 180, 0, 113, 21, 4, 42, 180, 0, 29, 180, 0, 186]
def by_X8_worstPlaceIn_2 : List Nat := [184, 0, 218, 153, 0, 11, 42, 180, 0, 29, 180, 0, 186, 172, 21, 4]
def by_X8_worstPlaceIn_z : List Nat := [172]
def by_X8_worstPlaceIn : List (List Nat) := [by_X8_worstPlaceIn_0, by_X8_worstPlaceIn_1, by_X8_worstPlaceIn_2]
set_option maxRecDepth 100000 in
theorem byo_X8_worstPlaceIn : cX8_worstPlaceIn.data.toList.map UInt8.toNat = by_X8_worstPlaceIn.flatten ++ by_X8_worstPlaceIn_z := by decide +kernel
theorem byl_X8_worstPlaceIn : by_X8_worstPlaceIn.all (fun r => r.length == 16) = true := by decide +kernel
theorem byr_X8_worstPlaceIn_0 {j v : Nat} (h : by_X8_worstPlaceIn_0[j]? = some v) : RD cX8_worstPlaceIn (0 + j) v := rd_16 byo_X8_worstPlaceIn byl_X8_worstPlaceIn 0 rfl h
theorem byr_X8_worstPlaceIn_1 {j v : Nat} (h : by_X8_worstPlaceIn_1[j]? = some v) : RD cX8_worstPlaceIn (16 + j) v := rd_16 byo_X8_worstPlaceIn byl_X8_worstPlaceIn 1 rfl h
theorem byr_X8_worstPlaceIn_2 {j v : Nat} (h : by_X8_worstPlaceIn_2[j]? = some v) : RD cX8_worstPlaceIn (32 + j) v := rd_16 byo_X8_worstPlaceIn byl_X8_worstPlaceIn 2 rfl h
theorem byr_X8_worstPlaceIn_3 {j v : Nat} (h : by_X8_worstPlaceIn_z[j]? = some v) : RD cX8_worstPlaceIn (48 + j) v := rd_z byo_X8_worstPlaceIn byl_X8_worstPlaceIn 3 rfl h
theorem dX8_worstPlaceIn_0 : decode cX8_worstPlaceIn 0 = .ok (.aload_n 0, 1) := dk_42 (byr_X8_worstPlaceIn_0 (j := 0) rfl)
theorem dX8_worstPlaceIn_1 : decode cX8_worstPlaceIn 1 = .ok (.getfield 10, 3) := dk_180 (byr_X8_worstPlaceIn_0 (j := 1) rfl) (byr_X8_worstPlaceIn_0 (j := 2) rfl) (byr_X8_worstPlaceIn_0 (j := 3) rfl) (by decide)
theorem dX8_worstPlaceIn_4 : decode cX8_worstPlaceIn 4 = .ok (.getfield 89, 3) := dk_180 (byr_X8_worstPlaceIn_0 (j := 4) rfl) (byr_X8_worstPlaceIn_0 (j := 5) rfl) (byr_X8_worstPlaceIn_0 (j := 6) rfl) (by decide)
theorem dX8_worstPlaceIn_7 : decode cX8_worstPlaceIn 7 = .ok (.istore 4, 2) := dk_54 (byr_X8_worstPlaceIn_0 (j := 7) rfl) (byr_X8_worstPlaceIn_0 (j := 8) rfl)
theorem dX8_worstPlaceIn_9 : decode cX8_worstPlaceIn 9 = .ok (.aload_n 0, 1) := dk_42 (byr_X8_worstPlaceIn_0 (j := 9) rfl)
theorem dX8_worstPlaceIn_10 : decode cX8_worstPlaceIn 10 = .ok (.iload_n 1, 1) := dk_27 (byr_X8_worstPlaceIn_0 (j := 10) rfl)
theorem dX8_worstPlaceIn_11 : decode cX8_worstPlaceIn 11 = .ok (.aload_n 2, 1) := dk_44 (byr_X8_worstPlaceIn_0 (j := 11) rfl)
theorem dX8_worstPlaceIn_12 : decode cX8_worstPlaceIn 12 = .ok (.aload_n 3, 1) := dk_45 (byr_X8_worstPlaceIn_0 (j := 12) rfl)
theorem dX8_worstPlaceIn_13 : decode cX8_worstPlaceIn 13 = .ok (.invokevirtual 225, 3) := dk_182 (byr_X8_worstPlaceIn_0 (j := 13) rfl) (byr_X8_worstPlaceIn_0 (j := 14) rfl) (byr_X8_worstPlaceIn_0 (j := 15) rfl) (by decide)
theorem dX8_worstPlaceIn_16 : decode cX8_worstPlaceIn 16 = .ok (.ifCond .eq 30, 3) := dk_153 (byr_X8_worstPlaceIn_1 (j := 0) rfl) (byr_X8_worstPlaceIn_1 (j := 1) rfl) (byr_X8_worstPlaceIn_1 (j := 2) rfl) (by decide)
theorem dX8_worstPlaceIn_19 : decode cX8_worstPlaceIn 19 = .ok (.aload_n 2, 1) := dk_44 (byr_X8_worstPlaceIn_1 (j := 3) rfl)
theorem dX8_worstPlaceIn_20 : decode cX8_worstPlaceIn 20 = .ok (.getfield 113, 3) := dk_180 (byr_X8_worstPlaceIn_1 (j := 4) rfl) (byr_X8_worstPlaceIn_1 (j := 5) rfl) (byr_X8_worstPlaceIn_1 (j := 6) rfl) (by decide)
theorem dX8_worstPlaceIn_23 : decode cX8_worstPlaceIn 23 = .ok (.iload 4, 2) := dk_21 (byr_X8_worstPlaceIn_1 (j := 7) rfl) (byr_X8_worstPlaceIn_1 (j := 8) rfl)
theorem dX8_worstPlaceIn_25 : decode cX8_worstPlaceIn 25 = .ok (.aload_n 0, 1) := dk_42 (byr_X8_worstPlaceIn_1 (j := 9) rfl)
theorem dX8_worstPlaceIn_26 : decode cX8_worstPlaceIn 26 = .ok (.getfield 29, 3) := dk_180 (byr_X8_worstPlaceIn_1 (j := 10) rfl) (byr_X8_worstPlaceIn_1 (j := 11) rfl) (byr_X8_worstPlaceIn_1 (j := 12) rfl) (by decide)
theorem dX8_worstPlaceIn_29 : decode cX8_worstPlaceIn 29 = .ok (.getfield 186, 3) := dk_180 (byr_X8_worstPlaceIn_1 (j := 13) rfl) (byr_X8_worstPlaceIn_1 (j := 14) rfl) (byr_X8_worstPlaceIn_1 (j := 15) rfl) (by decide)
theorem dX8_worstPlaceIn_32 : decode cX8_worstPlaceIn 32 = .ok (.invokestatic 218, 3) := dk_184 (byr_X8_worstPlaceIn_2 (j := 0) rfl) (byr_X8_worstPlaceIn_2 (j := 1) rfl) (byr_X8_worstPlaceIn_2 (j := 2) rfl) (by decide)
theorem dX8_worstPlaceIn_35 : decode cX8_worstPlaceIn 35 = .ok (.ifCond .eq 11, 3) := dk_153 (byr_X8_worstPlaceIn_2 (j := 3) rfl) (byr_X8_worstPlaceIn_2 (j := 4) rfl) (byr_X8_worstPlaceIn_2 (j := 5) rfl) (by decide)
theorem dX8_worstPlaceIn_38 : decode cX8_worstPlaceIn 38 = .ok (.aload_n 0, 1) := dk_42 (byr_X8_worstPlaceIn_2 (j := 6) rfl)
theorem dX8_worstPlaceIn_39 : decode cX8_worstPlaceIn 39 = .ok (.getfield 29, 3) := dk_180 (byr_X8_worstPlaceIn_2 (j := 7) rfl) (byr_X8_worstPlaceIn_2 (j := 8) rfl) (byr_X8_worstPlaceIn_2 (j := 9) rfl) (by decide)
theorem dX8_worstPlaceIn_42 : decode cX8_worstPlaceIn 42 = .ok (.getfield 186, 3) := dk_180 (byr_X8_worstPlaceIn_2 (j := 10) rfl) (byr_X8_worstPlaceIn_2 (j := 11) rfl) (byr_X8_worstPlaceIn_2 (j := 12) rfl) (by decide)
theorem dX8_worstPlaceIn_45 : decode cX8_worstPlaceIn 45 = .ok (.ireturn, 1) := dk_172 (byr_X8_worstPlaceIn_2 (j := 13) rfl)
theorem dX8_worstPlaceIn_46 : decode cX8_worstPlaceIn 46 = .ok (.iload 4, 2) := dk_21 (byr_X8_worstPlaceIn_2 (j := 14) rfl) (byr_X8_worstPlaceIn_2 (j := 15) rfl)
theorem dX8_worstPlaceIn_48 : decode cX8_worstPlaceIn 48 = .ok (.ireturn, 1) := dk_172 (byr_X8_worstPlaceIn_3 (j := 0) rfl)
set_option maxHeartbeats 4000000 in
set_option maxRecDepth 100000 in
theorem c_X8_worstPlaceIn (l : Launch) (G : GT) (σ : Sto) (a1 : Int32) (a2 : Nat) (ha2 : K0 a2 = 6) (a3 : Nat) (ha3 : K0 a3 = 6) (r : (Int32 × Sto)) (h : f_X8_worstPlaceIn σ a1 a2 a3 = some r) : MW l G (7) (181) 0 0 yX8_worstPlaceIn cX8_worstPlaceIn 5 (Option.some Jvm.ClassFile.FieldType.int) [.ref (gad G 0), .int a1, .ref (gad G a2), .ref (gad G a3)] (wl G σ) (some (.int r.1)) (wl G r.2) := by
  refine mw_of RX8 (fiI G) [(0, .ref (gad G 0)), (1, .int a1), (2, .ref (gad G a2)), (3, .ref (gad G a3))] (by decide +kernel) rfl (Nat.le_of_ble_eq_true rfl) rfl h rfl (fun p e s m args below meth c X hr hnm => ?_)
  unfold f_X8_worstPlaceIn
  refine sm_aload_n X 1 0 dX8_worstPlaceIn_0 rfl rfl rfl ?_
  refine sm_getf X 4 1 rfl fd_8_0 rfl dX8_worstPlaceIn_1 rfl q_289 ?_
  refine sm_geti X 7 rfl fd_0_3 dX8_worstPlaceIn_4 rfl q_96 ?_
  refine sm_istore X 9 [(4, .int (σ.1 1 3)), (0, .ref (gad G 0)), (1, .int a1), (2, .ref (gad G a2)), (3, .ref (gad G a3))] dX8_worstPlaceIn_7 rfl (by decide) rfl ?_
  refine sm_aload_n X 10 1 dX8_worstPlaceIn_9 rfl rfl rfl ?_
  refine sm_iload_n X 11 2 dX8_worstPlaceIn_10 rfl rfl rfl ?_
  refine sm_aload_n X 12 3 dX8_worstPlaceIn_11 rfl rfl rfl ?_
  refine sm_aload_n X 13 4 dX8_worstPlaceIn_12 rfl rfl rfl ?_
  refine sm_bind (fun r13 h13 => ?_)
  refine sm_callV0 X 16 [.int a1, .ref (gad G a2), .ref (gad G a3)] [] [.int (b2i r13.1)] (c_X8_meetInLane l G σ a1 a2 ha2 a3 ha3 r13 h13) cw_X8_meetInLane q_726 qs_22 q_724 rfl (by decide) rfl rfl rfl rfl rfl (Nat.le_of_ble_eq_true rfl) ⟨Nat.le_of_ble_eq_true rfl, Nat.le_of_ble_eq_true rfl⟩ ⟨Nat.le_refl _, Nat.le_refl _⟩ dX8_worstPlaceIn_13 rfl ?_
  refine sm_ifz_eq X 19 46 dX8_worstPlaceIn_16 rfl (by decide) (fun h16 => ?_) (fun h16 => ?_)
  · refine sm_aload_n X 20 3 dX8_worstPlaceIn_19 rfl rfl rfl ?_
    refine sm_geti X 23 ha2 fd_6_2 dX8_worstPlaceIn_20 rfl q_68 ?_
    refine sm_iload X 25 0 dX8_worstPlaceIn_23 rfl rfl ?_
    refine sm_aload_n X 26 1 dX8_worstPlaceIn_25 rfl rfl rfl ?_
    refine sm_getf X 29 58 rfl fd_8_3 rfl dX8_worstPlaceIn_26 rfl q_292 ?_
    refine sm_geti X 32 rfl fd_5_2 dX8_worstPlaceIn_29 rfl q_190 ?_
    refine sm_bind (fun r32 h32 => ?_)
    refine sm_callS0 X 35 [.int (r13.2.1 a2 2), .int (σ.1 1 3), .int (r13.2.1 58 2)] [] [.int (b2i r32)] (c_X8_isBetter l G r13.2 (r13.2.1 a2 2) (σ.1 1 3) (r13.2.1 58 2) r32 h32) cw_X8_isBetter q_709 q_730 rfl rfl rfl (Nat.le_of_ble_eq_true rfl) ⟨Nat.le_of_ble_eq_true rfl, Nat.le_of_ble_eq_true rfl⟩ ⟨Nat.le_refl _, Nat.le_refl _⟩ dX8_worstPlaceIn_32 rfl ?_
    refine sm_ifz_eq X 38 46 dX8_worstPlaceIn_35 rfl (by decide) (fun h35 => ?_) (fun h35 => ?_)
    · refine sm_aload_n X 39 1 dX8_worstPlaceIn_38 rfl rfl rfl ?_
      refine sm_getf X 42 58 rfl fd_8_3 rfl dX8_worstPlaceIn_39 rfl q_292 ?_
      refine sm_geti X 45 rfl fd_5_2 dX8_worstPlaceIn_42 rfl q_190 ?_
      exact sm_iret X hr dX8_worstPlaceIn_45 rfl
    · refine sm_iload X 48 0 dX8_worstPlaceIn_46 rfl rfl ?_
      exact sm_iret X hr dX8_worstPlaceIn_48 rfl
  · refine sm_iload X 48 0 dX8_worstPlaceIn_46 rfl rfl ?_
    exact sm_iret X hr dX8_worstPlaceIn_48 rfl
def by_X8_hold_0 : List Nat := [42, 180, 0, 10, 27, 182, 0, 99, 58, 4, 42, 180, 0, 10, 28, 182]
def by_X8_hold_1 : List Nat := [0, 99, 58, 5, 25, 4, 25, 5, 184, 0, 175, 153, 0, 12, 29, 3]
def by_X8_hold_2 : List Nat := [4, 184, 0, 72, 153, 0, 9, 42, 4, 182, 0, 76, 172, 42, 180, 0]
def by_X8_hold_3 : List Nat := [29, 42, 180, 0, 10, 42, 180, 0, 10, 180, 0, 83, 182, 0, 167, 3]
def by_X8_hold_4 : List Nat := [54, 6, 42, 3, 25, 4, 25, 5, 182, 0, 214, 54, 7, 4, 54, 8]
def by_X8_hold_5 : List Nat := [21, 8, 16, 6, 162, 0, 44, 42, 21, 8, 25, 4, 25, 5, 182, 0]
def by_X8_hold_6 : List Nat := [214, 54, 9, 25, 4, 180, 0, 113, 21, 9, 21, 7, 184, 0, 218, 153]
def by_X8_hold_7 : List Nat := [0, 11, 21, 8, 54, 6, 21, 9, 54, 7, 132, 8, 1, 167, 255, 211]
def by_X8_hold_z : List Nat := [29, 154, 0, 8, 21, 6, 167, 0, 5, 21, 7, 172]
def by_X8_hold : List (List Nat) := [by_X8_hold_0, by_X8_hold_1, by_X8_hold_2, by_X8_hold_3, by_X8_hold_4, by_X8_hold_5, by_X8_hold_6, by_X8_hold_7]
set_option maxRecDepth 100000 in
theorem byo_X8_hold : cX8_hold.data.toList.map UInt8.toNat = by_X8_hold.flatten ++ by_X8_hold_z := by decide +kernel
theorem byl_X8_hold : by_X8_hold.all (fun r => r.length == 16) = true := by decide +kernel
theorem byr_X8_hold_0 {j v : Nat} (h : by_X8_hold_0[j]? = some v) : RD cX8_hold (0 + j) v := rd_16 byo_X8_hold byl_X8_hold 0 rfl h
theorem byr_X8_hold_1 {j v : Nat} (h : by_X8_hold_1[j]? = some v) : RD cX8_hold (16 + j) v := rd_16 byo_X8_hold byl_X8_hold 1 rfl h
theorem byr_X8_hold_2 {j v : Nat} (h : by_X8_hold_2[j]? = some v) : RD cX8_hold (32 + j) v := rd_16 byo_X8_hold byl_X8_hold 2 rfl h
theorem byr_X8_hold_3 {j v : Nat} (h : by_X8_hold_3[j]? = some v) : RD cX8_hold (48 + j) v := rd_16 byo_X8_hold byl_X8_hold 3 rfl h
theorem byr_X8_hold_4 {j v : Nat} (h : by_X8_hold_4[j]? = some v) : RD cX8_hold (64 + j) v := rd_16 byo_X8_hold byl_X8_hold 4 rfl h
theorem byr_X8_hold_5 {j v : Nat} (h : by_X8_hold_5[j]? = some v) : RD cX8_hold (80 + j) v := rd_16 byo_X8_hold byl_X8_hold 5 rfl h
theorem byr_X8_hold_6 {j v : Nat} (h : by_X8_hold_6[j]? = some v) : RD cX8_hold (96 + j) v := rd_16 byo_X8_hold byl_X8_hold 6 rfl h
theorem byr_X8_hold_7 {j v : Nat} (h : by_X8_hold_7[j]? = some v) : RD cX8_hold (112 + j) v := rd_16 byo_X8_hold byl_X8_hold 7 rfl h
theorem byr_X8_hold_8 {j v : Nat} (h : by_X8_hold_z[j]? = some v) : RD cX8_hold (128 + j) v := rd_z byo_X8_hold byl_X8_hold 8 rfl h
theorem dX8_hold_0 : decode cX8_hold 0 = .ok (.aload_n 0, 1) := dk_42 (byr_X8_hold_0 (j := 0) rfl)
theorem dX8_hold_1 : decode cX8_hold 1 = .ok (.getfield 10, 3) := dk_180 (byr_X8_hold_0 (j := 1) rfl) (byr_X8_hold_0 (j := 2) rfl) (byr_X8_hold_0 (j := 3) rfl) (by decide)
theorem dX8_hold_4 : decode cX8_hold 4 = .ok (.iload_n 1, 1) := dk_27 (byr_X8_hold_0 (j := 4) rfl)
theorem dX8_hold_5 : decode cX8_hold 5 = .ok (.invokevirtual 99, 3) := dk_182 (byr_X8_hold_0 (j := 5) rfl) (byr_X8_hold_0 (j := 6) rfl) (byr_X8_hold_0 (j := 7) rfl) (by decide)
theorem dX8_hold_8 : decode cX8_hold 8 = .ok (.astore 4, 2) := dk_58 (byr_X8_hold_0 (j := 8) rfl) (byr_X8_hold_0 (j := 9) rfl)
theorem dX8_hold_10 : decode cX8_hold 10 = .ok (.aload_n 0, 1) := dk_42 (byr_X8_hold_0 (j := 10) rfl)
theorem dX8_hold_11 : decode cX8_hold 11 = .ok (.getfield 10, 3) := dk_180 (byr_X8_hold_0 (j := 11) rfl) (byr_X8_hold_0 (j := 12) rfl) (byr_X8_hold_0 (j := 13) rfl) (by decide)
theorem dX8_hold_14 : decode cX8_hold 14 = .ok (.iload_n 2, 1) := dk_28 (byr_X8_hold_0 (j := 14) rfl)
theorem dX8_hold_15 : decode cX8_hold 15 = .ok (.invokevirtual 99, 3) := dk_182 (byr_X8_hold_0 (j := 15) rfl) (byr_X8_hold_1 (j := 0) rfl) (byr_X8_hold_1 (j := 1) rfl) (by decide)
theorem dX8_hold_18 : decode cX8_hold 18 = .ok (.astore 5, 2) := dk_58 (byr_X8_hold_1 (j := 2) rfl) (byr_X8_hold_1 (j := 3) rfl)
theorem dX8_hold_20 : decode cX8_hold 20 = .ok (.aload 4, 2) := dk_25 (byr_X8_hold_1 (j := 4) rfl) (byr_X8_hold_1 (j := 5) rfl)
theorem dX8_hold_22 : decode cX8_hold 22 = .ok (.aload 5, 2) := dk_25 (byr_X8_hold_1 (j := 6) rfl) (byr_X8_hold_1 (j := 7) rfl)
theorem dX8_hold_24 : decode cX8_hold 24 = .ok (.invokestatic 175, 3) := dk_184 (byr_X8_hold_1 (j := 8) rfl) (byr_X8_hold_1 (j := 9) rfl) (byr_X8_hold_1 (j := 10) rfl) (by decide)
theorem dX8_hold_27 : decode cX8_hold 27 = .ok (.ifCond .eq 12, 3) := dk_153 (byr_X8_hold_1 (j := 11) rfl) (byr_X8_hold_1 (j := 12) rfl) (byr_X8_hold_1 (j := 13) rfl) (by decide)
theorem dX8_hold_30 : decode cX8_hold 30 = .ok (.iload_n 3, 1) := dk_29 (byr_X8_hold_1 (j := 14) rfl)
theorem dX8_hold_31 : decode cX8_hold 31 = .ok (.iconst 0, 1) := dk_3 (byr_X8_hold_1 (j := 15) rfl)
theorem dX8_hold_32 : decode cX8_hold 32 = .ok (.iconst 1, 1) := dk_4 (byr_X8_hold_2 (j := 0) rfl)
theorem dX8_hold_33 : decode cX8_hold 33 = .ok (.invokestatic 72, 3) := dk_184 (byr_X8_hold_2 (j := 1) rfl) (byr_X8_hold_2 (j := 2) rfl) (byr_X8_hold_2 (j := 3) rfl) (by decide)
theorem dX8_hold_36 : decode cX8_hold 36 = .ok (.ifCond .eq 9, 3) := dk_153 (byr_X8_hold_2 (j := 4) rfl) (byr_X8_hold_2 (j := 5) rfl) (byr_X8_hold_2 (j := 6) rfl) (by decide)
theorem dX8_hold_39 : decode cX8_hold 39 = .ok (.aload_n 0, 1) := dk_42 (byr_X8_hold_2 (j := 7) rfl)
theorem dX8_hold_40 : decode cX8_hold 40 = .ok (.iconst 1, 1) := dk_4 (byr_X8_hold_2 (j := 8) rfl)
theorem dX8_hold_41 : decode cX8_hold 41 = .ok (.invokevirtual 76, 3) := dk_182 (byr_X8_hold_2 (j := 9) rfl) (byr_X8_hold_2 (j := 10) rfl) (byr_X8_hold_2 (j := 11) rfl) (by decide)
theorem dX8_hold_44 : decode cX8_hold 44 = .ok (.ireturn, 1) := dk_172 (byr_X8_hold_2 (j := 12) rfl)
theorem dX8_hold_45 : decode cX8_hold 45 = .ok (.aload_n 0, 1) := dk_42 (byr_X8_hold_2 (j := 13) rfl)
theorem dX8_hold_46 : decode cX8_hold 46 = .ok (.getfield 29, 3) := dk_180 (byr_X8_hold_2 (j := 14) rfl) (byr_X8_hold_2 (j := 15) rfl) (byr_X8_hold_3 (j := 0) rfl) (by decide)
theorem dX8_hold_49 : decode cX8_hold 49 = .ok (.aload_n 0, 1) := dk_42 (byr_X8_hold_3 (j := 1) rfl)
theorem dX8_hold_50 : decode cX8_hold 50 = .ok (.getfield 10, 3) := dk_180 (byr_X8_hold_3 (j := 2) rfl) (byr_X8_hold_3 (j := 3) rfl) (byr_X8_hold_3 (j := 4) rfl) (by decide)
theorem dX8_hold_53 : decode cX8_hold 53 = .ok (.aload_n 0, 1) := dk_42 (byr_X8_hold_3 (j := 5) rfl)
theorem dX8_hold_54 : decode cX8_hold 54 = .ok (.getfield 10, 3) := dk_180 (byr_X8_hold_3 (j := 6) rfl) (byr_X8_hold_3 (j := 7) rfl) (byr_X8_hold_3 (j := 8) rfl) (by decide)
theorem dX8_hold_57 : decode cX8_hold 57 = .ok (.getfield 83, 3) := dk_180 (byr_X8_hold_3 (j := 9) rfl) (byr_X8_hold_3 (j := 10) rfl) (byr_X8_hold_3 (j := 11) rfl) (by decide)
theorem dX8_hold_60 : decode cX8_hold 60 = .ok (.invokevirtual 167, 3) := dk_182 (byr_X8_hold_3 (j := 12) rfl) (byr_X8_hold_3 (j := 13) rfl) (byr_X8_hold_3 (j := 14) rfl) (by decide)
theorem dX8_hold_63 : decode cX8_hold 63 = .ok (.iconst 0, 1) := dk_3 (byr_X8_hold_3 (j := 15) rfl)
theorem dX8_hold_64 : decode cX8_hold 64 = .ok (.istore 6, 2) := dk_54 (byr_X8_hold_4 (j := 0) rfl) (byr_X8_hold_4 (j := 1) rfl)
theorem dX8_hold_66 : decode cX8_hold 66 = .ok (.aload_n 0, 1) := dk_42 (byr_X8_hold_4 (j := 2) rfl)
theorem dX8_hold_67 : decode cX8_hold 67 = .ok (.iconst 0, 1) := dk_3 (byr_X8_hold_4 (j := 3) rfl)
theorem dX8_hold_68 : decode cX8_hold 68 = .ok (.aload 4, 2) := dk_25 (byr_X8_hold_4 (j := 4) rfl) (byr_X8_hold_4 (j := 5) rfl)
theorem dX8_hold_70 : decode cX8_hold 70 = .ok (.aload 5, 2) := dk_25 (byr_X8_hold_4 (j := 6) rfl) (byr_X8_hold_4 (j := 7) rfl)
theorem dX8_hold_72 : decode cX8_hold 72 = .ok (.invokevirtual 214, 3) := dk_182 (byr_X8_hold_4 (j := 8) rfl) (byr_X8_hold_4 (j := 9) rfl) (byr_X8_hold_4 (j := 10) rfl) (by decide)
theorem dX8_hold_75 : decode cX8_hold 75 = .ok (.istore 7, 2) := dk_54 (byr_X8_hold_4 (j := 11) rfl) (byr_X8_hold_4 (j := 12) rfl)
theorem dX8_hold_77 : decode cX8_hold 77 = .ok (.iconst 1, 1) := dk_4 (byr_X8_hold_4 (j := 13) rfl)
theorem dX8_hold_78 : decode cX8_hold 78 = .ok (.istore 8, 2) := dk_54 (byr_X8_hold_4 (j := 14) rfl) (byr_X8_hold_4 (j := 15) rfl)
theorem dX8_hold_80 : decode cX8_hold 80 = .ok (.iload 8, 2) := dk_21 (byr_X8_hold_5 (j := 0) rfl) (byr_X8_hold_5 (j := 1) rfl)
theorem dX8_hold_82 : decode cX8_hold 82 = .ok (.bipush 6, 2) := dk_16 (byr_X8_hold_5 (j := 2) rfl) (byr_X8_hold_5 (j := 3) rfl) (by decide)
theorem dX8_hold_84 : decode cX8_hold 84 = .ok (.if_icmp .ge 44, 3) := dk_162 (byr_X8_hold_5 (j := 4) rfl) (byr_X8_hold_5 (j := 5) rfl) (byr_X8_hold_5 (j := 6) rfl) (by decide)
theorem dX8_hold_87 : decode cX8_hold 87 = .ok (.aload_n 0, 1) := dk_42 (byr_X8_hold_5 (j := 7) rfl)
theorem dX8_hold_88 : decode cX8_hold 88 = .ok (.iload 8, 2) := dk_21 (byr_X8_hold_5 (j := 8) rfl) (byr_X8_hold_5 (j := 9) rfl)
theorem dX8_hold_90 : decode cX8_hold 90 = .ok (.aload 4, 2) := dk_25 (byr_X8_hold_5 (j := 10) rfl) (byr_X8_hold_5 (j := 11) rfl)
theorem dX8_hold_92 : decode cX8_hold 92 = .ok (.aload 5, 2) := dk_25 (byr_X8_hold_5 (j := 12) rfl) (byr_X8_hold_5 (j := 13) rfl)
theorem dX8_hold_94 : decode cX8_hold 94 = .ok (.invokevirtual 214, 3) := dk_182 (byr_X8_hold_5 (j := 14) rfl) (byr_X8_hold_5 (j := 15) rfl) (byr_X8_hold_6 (j := 0) rfl) (by decide)
theorem dX8_hold_97 : decode cX8_hold 97 = .ok (.istore 9, 2) := dk_54 (byr_X8_hold_6 (j := 1) rfl) (byr_X8_hold_6 (j := 2) rfl)
theorem dX8_hold_99 : decode cX8_hold 99 = .ok (.aload 4, 2) := dk_25 (byr_X8_hold_6 (j := 3) rfl) (byr_X8_hold_6 (j := 4) rfl)
theorem dX8_hold_101 : decode cX8_hold 101 = .ok (.getfield 113, 3) := dk_180 (byr_X8_hold_6 (j := 5) rfl) (byr_X8_hold_6 (j := 6) rfl) (byr_X8_hold_6 (j := 7) rfl) (by decide)
theorem dX8_hold_104 : decode cX8_hold 104 = .ok (.iload 9, 2) := dk_21 (byr_X8_hold_6 (j := 8) rfl) (byr_X8_hold_6 (j := 9) rfl)
theorem dX8_hold_106 : decode cX8_hold 106 = .ok (.iload 7, 2) := dk_21 (byr_X8_hold_6 (j := 10) rfl) (byr_X8_hold_6 (j := 11) rfl)
theorem dX8_hold_108 : decode cX8_hold 108 = .ok (.invokestatic 218, 3) := dk_184 (byr_X8_hold_6 (j := 12) rfl) (byr_X8_hold_6 (j := 13) rfl) (byr_X8_hold_6 (j := 14) rfl) (by decide)
theorem dX8_hold_111 : decode cX8_hold 111 = .ok (.ifCond .eq 11, 3) := dk_153 (byr_X8_hold_6 (j := 15) rfl) (byr_X8_hold_7 (j := 0) rfl) (byr_X8_hold_7 (j := 1) rfl) (by decide)
theorem dX8_hold_114 : decode cX8_hold 114 = .ok (.iload 8, 2) := dk_21 (byr_X8_hold_7 (j := 2) rfl) (byr_X8_hold_7 (j := 3) rfl)
theorem dX8_hold_116 : decode cX8_hold 116 = .ok (.istore 6, 2) := dk_54 (byr_X8_hold_7 (j := 4) rfl) (byr_X8_hold_7 (j := 5) rfl)
theorem dX8_hold_118 : decode cX8_hold 118 = .ok (.iload 9, 2) := dk_21 (byr_X8_hold_7 (j := 6) rfl) (byr_X8_hold_7 (j := 7) rfl)
theorem dX8_hold_120 : decode cX8_hold 120 = .ok (.istore 7, 2) := dk_54 (byr_X8_hold_7 (j := 8) rfl) (byr_X8_hold_7 (j := 9) rfl)
theorem dX8_hold_122 : decode cX8_hold 122 = .ok (.iinc 8 1, 3) := dk_132 (byr_X8_hold_7 (j := 10) rfl) (byr_X8_hold_7 (j := 11) rfl) (byr_X8_hold_7 (j := 12) rfl) (by decide)
theorem dX8_hold_125 : decode cX8_hold 125 = .ok (.goto (-45), 3) := dk_167 (byr_X8_hold_7 (j := 13) rfl) (byr_X8_hold_7 (j := 14) rfl) (byr_X8_hold_7 (j := 15) rfl) (by decide)
theorem dX8_hold_128 : decode cX8_hold 128 = .ok (.iload_n 3, 1) := dk_29 (byr_X8_hold_8 (j := 0) rfl)
theorem dX8_hold_129 : decode cX8_hold 129 = .ok (.ifCond .ne 8, 3) := dk_154 (byr_X8_hold_8 (j := 1) rfl) (byr_X8_hold_8 (j := 2) rfl) (byr_X8_hold_8 (j := 3) rfl) (by decide)
theorem dX8_hold_132 : decode cX8_hold 132 = .ok (.iload 6, 2) := dk_21 (byr_X8_hold_8 (j := 4) rfl) (byr_X8_hold_8 (j := 5) rfl)
theorem dX8_hold_134 : decode cX8_hold 134 = .ok (.goto 5, 3) := dk_167 (byr_X8_hold_8 (j := 6) rfl) (byr_X8_hold_8 (j := 7) rfl) (byr_X8_hold_8 (j := 8) rfl) (by decide)
theorem dX8_hold_137 : decode cX8_hold 137 = .ok (.iload 7, 2) := dk_21 (byr_X8_hold_8 (j := 9) rfl) (byr_X8_hold_8 (j := 10) rfl)
theorem dX8_hold_139 : decode cX8_hold 139 = .ok (.ireturn, 1) := dk_172 (byr_X8_hold_8 (j := 11) rfl)
set_option maxHeartbeats 4000000 in
set_option maxRecDepth 100000 in
theorem c_X8_hold (l : Launch) (G : GT) (σ : Sto) (a1 : Int32) (a2 : Int32) (a3 : Int32) (r : (Int32 × Sto)) (h : f_X8_hold σ a1 a2 a3 = some r) : MW l G (8) (205) 0 0 yX8_hold cX8_hold 10 (Option.some Jvm.ClassFile.FieldType.int) [.ref (gad G 0), .int a1, .int a2, .int a3] (wl G σ) (some (.int r.1)) (wl G r.2) := by
  refine mw_of RX8 (fiI G) [(0, .ref (gad G 0)), (1, .int a1), (2, .int a2), (3, .int a3)] (by decide +kernel) rfl (Nat.le_of_ble_eq_true rfl) rfl h rfl (fun p e s m args below meth c X hr hnm => ?_)
  have J122 : ∀ (v3 : Int32) (k4 : Nat) (hk4 : K0 k4 = 6) (k5 : Nat) (hk5 : K0 k5 = 6) (v6 : Int32) (v7 : Int32) (v8 : Int32) (K80 : Int32 → Int32 → Int32 → Sto → Option (Int32 × Sto)) (hK80 : ∀ (v6' : Int32) (v7' : Int32) (v8' : Int32) (σ' : Sto), Sm p l e { frames := 8, cells := 0, slots := 0, locals := 205 } s m args below meth c G 10 (Qm below args s G 0 0 (fiI G)) 0 0 (wl G σ') 80 [(0, .ref (gad G 0)), (3, .int v3), (4, .ref (gad G k4)), (5, .ref (gad G k5)), (6, .int v6'), (7, .int v7'), (8, .int v8')] [] (K80 v6' v7' v8' σ')) (σ : Sto), Sm p l e { frames := 8, cells := 0, slots := 0, locals := 205 } s m args below meth c G 10 (Qm below args s G 0 0 (fiI G)) 0 0 (wl G σ) 122 [(0, .ref (gad G 0)), (3, .int v3), (4, .ref (gad G k4)), (5, .ref (gad G k5)), (6, .int v6), (7, .int v7), (8, .int v8)] [] (f_X8_hold_L122 K80 v3 k4 k5 v6 v7 v8 σ) := by
    intro v3 k4 hk4 k5 hk5 v6 v7 v8 K80 hK80 σ
    rw [f_X8_hold_L122]
    refine sm_iinc X 125 6 (1 : Int32) [(8, .int (v8 + (1 : Int32))), (0, .ref (gad G 0)), (3, .int v3), (4, .ref (gad G k4)), (5, .ref (gad G k5)), (6, .int v6), (7, .int v7)] dX8_hold_122 rfl rfl rfl (by decide) rfl ?_
    refine sm_goto X 80 dX8_hold_125 (by decide) ?_
    exact sm_sub [1, 2, 3, 4, 5, 6, 0] rfl (hK80 v6 v7 (v8 + (1 : Int32)) σ)
  have J80 : ∀ (v3 : Int32) (k4 : Nat) (hk4 : K0 k4 = 6) (k5 : Nat) (hk5 : K0 k5 = 6)  (n : Nat) (v6 : Int32) (v7 : Int32) (v8 : Int32) (σ : Sto), Sm p l e { frames := 8, cells := 0, slots := 0, locals := 205 } s m args below meth c G 10 (Qm below args s G 0 0 (fiI G)) 0 0 (wl G σ) 80 [(0, .ref (gad G 0)), (3, .int v3), (4, .ref (gad G k4)), (5, .ref (gad G k5)), (6, .int v6), (7, .int v7), (8, .int v8)] [] (f_X8_hold_L80  v3 k4 k5 n v6 v7 v8 σ) := by
    intro v3 k4 hk4 k5 hk5 n
    induction n with
    | zero => intro v6 v7 v8 σ; rw [f_X8_hold_L80]; exact sm_none
    | succ n ihl =>
      intro v6 v7 v8 σ
      rw [f_X8_hold_L80]
      refine sm_iload X 82 6 dX8_hold_80 rfl rfl ?_
      refine sm_bipush X 84 (6) dX8_hold_82 rfl rfl ?_
      refine sm_icmp_ge X 87 128 dX8_hold_84 rfl (by decide) (fun h84 => ?_) (fun h84 => ?_)
      · refine sm_iload_n X 129 1 dX8_hold_128 rfl rfl rfl ?_
        refine sm_if_ne X 132 137 dX8_hold_129 rfl (by decide) (fun h129 => ?_) (fun h129 => ?_)
        · refine sm_iload X 134 4 dX8_hold_132 rfl rfl ?_
          refine sm_goto X 139 dX8_hold_134 (by decide) ?_
          exact sm_iret X hr dX8_hold_139 rfl
        · refine sm_iload X 139 5 dX8_hold_137 rfl rfl ?_
          exact sm_iret X hr dX8_hold_139 rfl
      · refine sm_aload_n X 88 0 dX8_hold_87 rfl rfl rfl ?_
        refine sm_iload X 90 6 dX8_hold_88 rfl rfl ?_
        refine sm_aload X 92 2 dX8_hold_90 rfl rfl ?_
        refine sm_aload X 94 3 dX8_hold_92 rfl rfl ?_
        refine sm_bind (fun r94 h94 => ?_)
        refine sm_callV0 X 97 [.int v8, .ref (gad G k4), .ref (gad G k5)] [] [.int r94.1] (c_X8_worstPlaceIn l G σ v8 k4 hk4 k5 hk5 r94 h94) cw_X8_worstPlaceIn q_722 qs_21 q_720 rfl (by decide) rfl rfl rfl rfl rfl (Nat.le_of_ble_eq_true rfl) ⟨Nat.le_of_ble_eq_true rfl, Nat.le_of_ble_eq_true rfl⟩ ⟨Nat.le_refl _, Nat.le_refl _⟩ dX8_hold_94 rfl ?_
        refine sm_istore X 99 [(9, .int r94.1), (0, .ref (gad G 0)), (3, .int v3), (4, .ref (gad G k4)), (5, .ref (gad G k5)), (6, .int v6), (7, .int v7), (8, .int v8)] dX8_hold_97 rfl (by decide) rfl ?_
        refine sm_aload X 101 3 dX8_hold_99 rfl rfl ?_
        refine sm_geti X 104 hk4 fd_6_2 dX8_hold_101 rfl q_68 ?_
        refine sm_iload X 106 0 dX8_hold_104 rfl rfl ?_
        refine sm_iload X 108 6 dX8_hold_106 rfl rfl ?_
        refine sm_bind (fun r108 h108 => ?_)
        refine sm_callS0 X 111 [.int (r94.2.1 k4 2), .int r94.1, .int v7] [] [.int (b2i r108)] (c_X8_isBetter l G r94.2 (r94.2.1 k4 2) r94.1 v7 r108 h108) cw_X8_isBetter q_709 q_730 rfl rfl rfl (Nat.le_of_ble_eq_true rfl) ⟨Nat.le_of_ble_eq_true rfl, Nat.le_of_ble_eq_true rfl⟩ ⟨Nat.le_refl _, Nat.le_refl _⟩ dX8_hold_108 rfl ?_
        refine sm_ifz_eq X 114 122 dX8_hold_111 rfl (by decide) (fun h111 => ?_) (fun h111 => ?_)
        · refine sm_iload X 116 7 dX8_hold_114 rfl rfl ?_
          refine sm_istore X 118 [(6, .int v8), (9, .int r94.1), (0, .ref (gad G 0)), (3, .int v3), (4, .ref (gad G k4)), (5, .ref (gad G k5)), (7, .int v7), (8, .int v8)] dX8_hold_116 rfl (by decide) rfl ?_
          refine sm_iload X 120 1 dX8_hold_118 rfl rfl ?_
          refine sm_istore X 122 [(7, .int r94.1), (6, .int v8), (9, .int r94.1), (0, .ref (gad G 0)), (3, .int v3), (4, .ref (gad G k4)), (5, .ref (gad G k5)), (8, .int v8)] dX8_hold_120 rfl (by decide) rfl ?_
          exact sm_sub [3, 4, 5, 6, 1, 0, 7] rfl (J122 v3 k4 hk4 k5 hk5 v8 r94.1 v8 (f_X8_hold_L80  v3 k4 k5 n) ihl r94.2)
        · exact sm_sub [1, 2, 3, 4, 5, 6, 7] rfl (J122 v3 k4 hk4 k5 hk5 v6 v7 v8 (f_X8_hold_L80  v3 k4 k5 n) ihl r94.2)
  unfold f_X8_hold
  refine sm_aload_n X 1 0 dX8_hold_0 rfl rfl rfl ?_
  refine sm_getf X 4 1 rfl fd_8_0 rfl dX8_hold_1 rfl q_289 ?_
  refine sm_iload_n X 5 1 dX8_hold_4 rfl rfl rfl ?_
  refine sm_bind (fun r5 h5 => ?_)
  refine sm_callV0 X 8 [.int a1] [] [va_re (gad G) r5] (c_X0_swimmerAt l G σ 1 rfl a1 r5 h5) cw_X0_swimmerAt q_376 q_377 q_375 rfl (by decide) rfl rfl rfl rfl rfl (Nat.le_of_ble_eq_true rfl) ⟨Nat.le_of_ble_eq_true rfl, Nat.le_of_ble_eq_true rfl⟩ ⟨Nat.le_refl _, Nat.le_refl _⟩ dX8_hold_5 rfl ?_
  refine sm_astoreq X 10 [(4, va_re (gad G) r5), (0, .ref (gad G 0)), (1, .int a1), (2, .int a2), (3, .int a3)] dX8_hold_8 rfl (by decide) rfl ?_
  refine sm_aload_n X 11 1 dX8_hold_10 rfl rfl rfl ?_
  refine sm_getf X 14 1 rfl fd_8_0 rfl dX8_hold_11 rfl q_289 ?_
  refine sm_iload_n X 15 3 dX8_hold_14 rfl rfl rfl ?_
  refine sm_bind (fun r15 h15 => ?_)
  refine sm_callV0 X 18 [.int a2] [] [va_re (gad G) r15] (c_X0_swimmerAt l G σ 1 rfl a2 r15 h15) cw_X0_swimmerAt q_376 q_377 q_375 rfl (by decide) rfl rfl rfl rfl rfl (Nat.le_of_ble_eq_true rfl) ⟨Nat.le_of_ble_eq_true rfl, Nat.le_of_ble_eq_true rfl⟩ ⟨Nat.le_refl _, Nat.le_refl _⟩ dX8_hold_15 rfl ?_
  refine sm_astoreq X 20 [(5, va_re (gad G) r15), (4, va_re (gad G) r5), (0, .ref (gad G 0)), (1, .int a1), (2, .int a2), (3, .int a3)] dX8_hold_18 rfl (by decide) (by cases r5 <;> rfl) ?_
  refine sm_aloadq X 22 1 dX8_hold_20 rfl rfl ?_
  refine sm_aloadq X 24 0 dX8_hold_22 rfl rfl ?_
  refine sm_bind (fun r24 h24 => ?_)
  refine sm_callS0 X 27 [va_re (gad G) r5, va_re (gad G) r15] [] [.int (b2i r24)] (c_X8_areUnlike l G σ r5 r15 r24 h24) cw_X8_areUnlike q_636 q_635 rfl rfl rfl (Nat.le_of_ble_eq_true rfl) ⟨Nat.le_of_ble_eq_true rfl, Nat.le_of_ble_eq_true rfl⟩ ⟨Nat.le_refl _, Nat.le_refl _⟩ dX8_hold_24 rfl ?_
  refine sm_ifz_eq X 30 39 dX8_hold_27 rfl (by decide) (fun h27 => ?_) (fun h27 => ?_)
  · refine sm_iload_n X 31 5 dX8_hold_30 rfl rfl rfl ?_
    refine sm_iconst X 32 (0) dX8_hold_31 rfl rfl ?_
    refine sm_iconst X 33 (1) dX8_hold_32 rfl rfl ?_
    refine sm_bind (fun r33 h33 => ?_)
    refine sm_callS0 X 36 [.int a3, .int 0, .int 1] [] [.int (b2i r33)] (c_X8_isOutside l G σ a3 (0 : Int32) (1 : Int32) r33 h33) cw_X8_isOutside q_328 q_327 rfl rfl rfl (Nat.le_of_ble_eq_true rfl) ⟨Nat.le_of_ble_eq_true rfl, Nat.le_of_ble_eq_true rfl⟩ ⟨Nat.le_refl _, Nat.le_refl _⟩ dX8_hold_33 rfl ?_
    refine sm_ifz_eq X 39 45 dX8_hold_36 rfl (by decide) (fun h36 => ?_) (fun h36 => ?_)
    · refine sm_aload_n X 40 2 dX8_hold_39 rfl rfl rfl ?_
      refine sm_iconst X 41 (1) dX8_hold_40 rfl rfl ?_
      refine sm_bind (fun r41 h41 => ?_)
      refine sm_callV0 X 44 [.int 1] [] [.int r41.1] (c_X8_refuse l G σ (1 : Int32) r41 h41) cw_X8_refuse q_332 qs_0 q_330 rfl (by decide) rfl rfl rfl rfl rfl (Nat.le_of_ble_eq_true rfl) ⟨Nat.le_of_ble_eq_true rfl, Nat.le_of_ble_eq_true rfl⟩ ⟨Nat.le_refl _, Nat.le_refl _⟩ dX8_hold_41 rfl ?_
      exact sm_iret X hr dX8_hold_44 rfl
    · refine sm_aload_n X 46 2 dX8_hold_45 rfl rfl rfl ?_
      refine sm_getf X 49 58 rfl fd_8_3 rfl dX8_hold_46 rfl q_292 ?_
      refine sm_aload_n X 50 2 dX8_hold_49 rfl rfl rfl ?_
      refine sm_getf X 53 1 rfl fd_8_0 rfl dX8_hold_50 rfl q_289 ?_
      refine sm_aload_n X 54 2 dX8_hold_53 rfl rfl rfl ?_
      refine sm_getf X 57 1 rfl fd_8_0 rfl dX8_hold_54 rfl q_289 ?_
      refine sm_geti X 60 rfl fd_0_1 dX8_hold_57 rfl q_92 ?_
      refine sm_bind (fun r60 h60 => ?_)
      refine sm_callV0 X 63 [.ref (gad G 1), .int (σ.1 1 1)] [] [] (c_X5_feel l G σ 1 rfl (σ.1 1 1) r60 h60) cw_X5_feel q_603 q_604 q_602 rfl (by decide) rfl rfl rfl rfl rfl (Nat.le_of_ble_eq_true rfl) ⟨Nat.le_of_ble_eq_true rfl, Nat.le_of_ble_eq_true rfl⟩ ⟨Nat.le_refl _, Nat.le_refl _⟩ dX8_hold_60 rfl ?_
      refine sm_iconst X 64 (0) dX8_hold_63 rfl rfl ?_
      refine sm_istore X 66 [(6, .int 0), (5, va_re (gad G) r15), (4, va_re (gad G) r5), (0, .ref (gad G 0)), (1, .int a1), (2, .int a2), (3, .int a3)] dX8_hold_64 rfl (by decide) (by cases r15 <;> rfl) ?_
      refine sm_aload_n X 67 3 dX8_hold_66 rfl rfl rfl ?_
      refine sm_iconst X 68 (0) dX8_hold_67 rfl rfl ?_
      refine sm_aloadq X 70 2 dX8_hold_68 rfl rfl ?_
      refine sm_aloadq X 72 1 dX8_hold_70 rfl rfl ?_
      refine sm_deref (fun k72 h hk72 => ?_)
      subst h
      refine sm_deref (fun k72' h hk72' => ?_)
      subst h
      refine sm_bind (fun r72 h72 => ?_)
      refine sm_callV0 X 75 [.int 0, .ref (gad G k72), .ref (gad G k72')] [] [.int r72.1] (c_X8_worstPlaceIn l G r60 (0 : Int32) k72 hk72 k72' hk72' r72 h72) cw_X8_worstPlaceIn q_722 qs_21 q_720 rfl (by decide) rfl rfl rfl rfl rfl (Nat.le_of_ble_eq_true rfl) ⟨Nat.le_of_ble_eq_true rfl, Nat.le_of_ble_eq_true rfl⟩ ⟨Nat.le_refl _, Nat.le_refl _⟩ dX8_hold_72 rfl ?_
      refine sm_istore X 77 [(7, .int r72.1), (6, .int 0), (5, .ref (gad G k72')), (4, .ref (gad G k72)), (0, .ref (gad G 0)), (1, .int a1), (2, .int a2), (3, .int a3)] dX8_hold_75 rfl (by decide) rfl ?_
      refine sm_iconst X 78 (1) dX8_hold_77 rfl rfl ?_
      refine sm_istore X 80 [(8, .int 1), (7, .int r72.1), (6, .int 0), (5, .ref (gad G k72')), (4, .ref (gad G k72)), (0, .ref (gad G 0)), (1, .int a1), (2, .int a2), (3, .int a3)] dX8_hold_78 rfl (by decide) rfl ?_
      exact sm_sub [5, 8, 4, 3, 2, 1, 0] rfl (J80 a3 k72 hk72 k72' hk72'  FU (0 : Int32) r72.1 (1 : Int32) r72.2)
  · refine sm_aload_n X 40 2 dX8_hold_39 rfl rfl rfl ?_
    refine sm_iconst X 41 (1) dX8_hold_40 rfl rfl ?_
    refine sm_bind (fun r41 h41 => ?_)
    refine sm_callV0 X 44 [.int 1] [] [.int r41.1] (c_X8_refuse l G σ (1 : Int32) r41 h41) cw_X8_refuse q_332 qs_0 q_330 rfl (by decide) rfl rfl rfl rfl rfl (Nat.le_of_ble_eq_true rfl) ⟨Nat.le_of_ble_eq_true rfl, Nat.le_of_ble_eq_true rfl⟩ ⟨Nat.le_refl _, Nat.le_refl _⟩ dX8_hold_41 rfl ?_
    exact sm_iret X hr dX8_hold_44 rfl
def by_X8_ask_0 : List Nat := [42, 180, 0, 10, 27, 182, 0, 99, 78, 42, 180, 0, 10, 28, 182, 0]
def by_X8_ask_1 : List Nat := [99, 58, 4, 45, 25, 4, 184, 0, 175, 154, 0, 9, 42, 4, 182, 0]
def by_X8_ask_2 : List Nat := [76, 172, 3, 54, 5, 3, 54, 6, 3, 54, 7, 16, 253, 54, 8, 21]
def by_X8_ask_3 : List Nat := [8, 6, 163, 0, 82, 42, 180, 0, 29, 42, 180, 0, 10, 21, 8, 182]
def by_X8_ask_4 : List Nat := [0, 167, 42, 180, 0, 29, 45, 25, 4, 42, 180, 0, 10, 180, 0, 86]
def by_X8_ask_5 : List Nat := [182, 0, 179, 153, 0, 43, 21, 5, 153, 0, 22, 45, 180, 0, 113, 42]
def by_X8_ask_6 : List Nat := [180, 0, 29, 180, 0, 186, 21, 7, 184, 0, 218, 153, 0, 19, 4, 54]
def by_X8_ask_7 : List Nat := [5, 21, 8, 54, 6, 42, 180, 0, 29, 180, 0, 186, 54, 7, 132, 8]
def by_X8_ask_8 : List Nat := [1, 167, 255, 174, 21, 5, 153, 0, 8, 21, 6, 167, 0, 8, 42, 5]
def by_X8_ask_z : List Nat := [182, 0, 76, 172]
def by_X8_ask : List (List Nat) := [by_X8_ask_0, by_X8_ask_1, by_X8_ask_2, by_X8_ask_3, by_X8_ask_4, by_X8_ask_5, by_X8_ask_6, by_X8_ask_7, by_X8_ask_8]
set_option maxRecDepth 100000 in
theorem byo_X8_ask : cX8_ask.data.toList.map UInt8.toNat = by_X8_ask.flatten ++ by_X8_ask_z := by decide +kernel
theorem byl_X8_ask : by_X8_ask.all (fun r => r.length == 16) = true := by decide +kernel
theorem byr_X8_ask_0 {j v : Nat} (h : by_X8_ask_0[j]? = some v) : RD cX8_ask (0 + j) v := rd_16 byo_X8_ask byl_X8_ask 0 rfl h
theorem byr_X8_ask_1 {j v : Nat} (h : by_X8_ask_1[j]? = some v) : RD cX8_ask (16 + j) v := rd_16 byo_X8_ask byl_X8_ask 1 rfl h
theorem byr_X8_ask_2 {j v : Nat} (h : by_X8_ask_2[j]? = some v) : RD cX8_ask (32 + j) v := rd_16 byo_X8_ask byl_X8_ask 2 rfl h
theorem byr_X8_ask_3 {j v : Nat} (h : by_X8_ask_3[j]? = some v) : RD cX8_ask (48 + j) v := rd_16 byo_X8_ask byl_X8_ask 3 rfl h
theorem byr_X8_ask_4 {j v : Nat} (h : by_X8_ask_4[j]? = some v) : RD cX8_ask (64 + j) v := rd_16 byo_X8_ask byl_X8_ask 4 rfl h
theorem byr_X8_ask_5 {j v : Nat} (h : by_X8_ask_5[j]? = some v) : RD cX8_ask (80 + j) v := rd_16 byo_X8_ask byl_X8_ask 5 rfl h
theorem byr_X8_ask_6 {j v : Nat} (h : by_X8_ask_6[j]? = some v) : RD cX8_ask (96 + j) v := rd_16 byo_X8_ask byl_X8_ask 6 rfl h
theorem byr_X8_ask_7 {j v : Nat} (h : by_X8_ask_7[j]? = some v) : RD cX8_ask (112 + j) v := rd_16 byo_X8_ask byl_X8_ask 7 rfl h
theorem byr_X8_ask_8 {j v : Nat} (h : by_X8_ask_8[j]? = some v) : RD cX8_ask (128 + j) v := rd_16 byo_X8_ask byl_X8_ask 8 rfl h
theorem byr_X8_ask_9 {j v : Nat} (h : by_X8_ask_z[j]? = some v) : RD cX8_ask (144 + j) v := rd_z byo_X8_ask byl_X8_ask 9 rfl h
theorem dX8_ask_0 : decode cX8_ask 0 = .ok (.aload_n 0, 1) := dk_42 (byr_X8_ask_0 (j := 0) rfl)
theorem dX8_ask_1 : decode cX8_ask 1 = .ok (.getfield 10, 3) := dk_180 (byr_X8_ask_0 (j := 1) rfl) (byr_X8_ask_0 (j := 2) rfl) (byr_X8_ask_0 (j := 3) rfl) (by decide)
theorem dX8_ask_4 : decode cX8_ask 4 = .ok (.iload_n 1, 1) := dk_27 (byr_X8_ask_0 (j := 4) rfl)
theorem dX8_ask_5 : decode cX8_ask 5 = .ok (.invokevirtual 99, 3) := dk_182 (byr_X8_ask_0 (j := 5) rfl) (byr_X8_ask_0 (j := 6) rfl) (byr_X8_ask_0 (j := 7) rfl) (by decide)
theorem dX8_ask_8 : decode cX8_ask 8 = .ok (.astore_n 3, 1) := dk_78 (byr_X8_ask_0 (j := 8) rfl)
theorem dX8_ask_9 : decode cX8_ask 9 = .ok (.aload_n 0, 1) := dk_42 (byr_X8_ask_0 (j := 9) rfl)
theorem dX8_ask_10 : decode cX8_ask 10 = .ok (.getfield 10, 3) := dk_180 (byr_X8_ask_0 (j := 10) rfl) (byr_X8_ask_0 (j := 11) rfl) (byr_X8_ask_0 (j := 12) rfl) (by decide)
theorem dX8_ask_13 : decode cX8_ask 13 = .ok (.iload_n 2, 1) := dk_28 (byr_X8_ask_0 (j := 13) rfl)
theorem dX8_ask_14 : decode cX8_ask 14 = .ok (.invokevirtual 99, 3) := dk_182 (byr_X8_ask_0 (j := 14) rfl) (byr_X8_ask_0 (j := 15) rfl) (byr_X8_ask_1 (j := 0) rfl) (by decide)
theorem dX8_ask_17 : decode cX8_ask 17 = .ok (.astore 4, 2) := dk_58 (byr_X8_ask_1 (j := 1) rfl) (byr_X8_ask_1 (j := 2) rfl)
theorem dX8_ask_19 : decode cX8_ask 19 = .ok (.aload_n 3, 1) := dk_45 (byr_X8_ask_1 (j := 3) rfl)
theorem dX8_ask_20 : decode cX8_ask 20 = .ok (.aload 4, 2) := dk_25 (byr_X8_ask_1 (j := 4) rfl) (byr_X8_ask_1 (j := 5) rfl)
theorem dX8_ask_22 : decode cX8_ask 22 = .ok (.invokestatic 175, 3) := dk_184 (byr_X8_ask_1 (j := 6) rfl) (byr_X8_ask_1 (j := 7) rfl) (byr_X8_ask_1 (j := 8) rfl) (by decide)
theorem dX8_ask_25 : decode cX8_ask 25 = .ok (.ifCond .ne 9, 3) := dk_154 (byr_X8_ask_1 (j := 9) rfl) (byr_X8_ask_1 (j := 10) rfl) (byr_X8_ask_1 (j := 11) rfl) (by decide)
theorem dX8_ask_28 : decode cX8_ask 28 = .ok (.aload_n 0, 1) := dk_42 (byr_X8_ask_1 (j := 12) rfl)
theorem dX8_ask_29 : decode cX8_ask 29 = .ok (.iconst 1, 1) := dk_4 (byr_X8_ask_1 (j := 13) rfl)
theorem dX8_ask_30 : decode cX8_ask 30 = .ok (.invokevirtual 76, 3) := dk_182 (byr_X8_ask_1 (j := 14) rfl) (byr_X8_ask_1 (j := 15) rfl) (byr_X8_ask_2 (j := 0) rfl) (by decide)
theorem dX8_ask_33 : decode cX8_ask 33 = .ok (.ireturn, 1) := dk_172 (byr_X8_ask_2 (j := 1) rfl)
theorem dX8_ask_34 : decode cX8_ask 34 = .ok (.iconst 0, 1) := dk_3 (byr_X8_ask_2 (j := 2) rfl)
theorem dX8_ask_35 : decode cX8_ask 35 = .ok (.istore 5, 2) := dk_54 (byr_X8_ask_2 (j := 3) rfl) (byr_X8_ask_2 (j := 4) rfl)
theorem dX8_ask_37 : decode cX8_ask 37 = .ok (.iconst 0, 1) := dk_3 (byr_X8_ask_2 (j := 5) rfl)
theorem dX8_ask_38 : decode cX8_ask 38 = .ok (.istore 6, 2) := dk_54 (byr_X8_ask_2 (j := 6) rfl) (byr_X8_ask_2 (j := 7) rfl)
theorem dX8_ask_40 : decode cX8_ask 40 = .ok (.iconst 0, 1) := dk_3 (byr_X8_ask_2 (j := 8) rfl)
theorem dX8_ask_41 : decode cX8_ask 41 = .ok (.istore 7, 2) := dk_54 (byr_X8_ask_2 (j := 9) rfl) (byr_X8_ask_2 (j := 10) rfl)
theorem dX8_ask_43 : decode cX8_ask 43 = .ok (.bipush (-3), 2) := dk_16 (byr_X8_ask_2 (j := 11) rfl) (byr_X8_ask_2 (j := 12) rfl) (by decide)
theorem dX8_ask_45 : decode cX8_ask 45 = .ok (.istore 8, 2) := dk_54 (byr_X8_ask_2 (j := 13) rfl) (byr_X8_ask_2 (j := 14) rfl)
theorem dX8_ask_47 : decode cX8_ask 47 = .ok (.iload 8, 2) := dk_21 (byr_X8_ask_2 (j := 15) rfl) (byr_X8_ask_3 (j := 0) rfl)
theorem dX8_ask_49 : decode cX8_ask 49 = .ok (.iconst 3, 1) := dk_6 (byr_X8_ask_3 (j := 1) rfl)
theorem dX8_ask_50 : decode cX8_ask 50 = .ok (.if_icmp .gt 82, 3) := dk_163 (byr_X8_ask_3 (j := 2) rfl) (byr_X8_ask_3 (j := 3) rfl) (byr_X8_ask_3 (j := 4) rfl) (by decide)
theorem dX8_ask_53 : decode cX8_ask 53 = .ok (.aload_n 0, 1) := dk_42 (byr_X8_ask_3 (j := 5) rfl)
theorem dX8_ask_54 : decode cX8_ask 54 = .ok (.getfield 29, 3) := dk_180 (byr_X8_ask_3 (j := 6) rfl) (byr_X8_ask_3 (j := 7) rfl) (byr_X8_ask_3 (j := 8) rfl) (by decide)
theorem dX8_ask_57 : decode cX8_ask 57 = .ok (.aload_n 0, 1) := dk_42 (byr_X8_ask_3 (j := 9) rfl)
theorem dX8_ask_58 : decode cX8_ask 58 = .ok (.getfield 10, 3) := dk_180 (byr_X8_ask_3 (j := 10) rfl) (byr_X8_ask_3 (j := 11) rfl) (byr_X8_ask_3 (j := 12) rfl) (by decide)
theorem dX8_ask_61 : decode cX8_ask 61 = .ok (.iload 8, 2) := dk_21 (byr_X8_ask_3 (j := 13) rfl) (byr_X8_ask_3 (j := 14) rfl)
theorem dX8_ask_63 : decode cX8_ask 63 = .ok (.invokevirtual 167, 3) := dk_182 (byr_X8_ask_3 (j := 15) rfl) (byr_X8_ask_4 (j := 0) rfl) (byr_X8_ask_4 (j := 1) rfl) (by decide)
theorem dX8_ask_66 : decode cX8_ask 66 = .ok (.aload_n 0, 1) := dk_42 (byr_X8_ask_4 (j := 2) rfl)
theorem dX8_ask_67 : decode cX8_ask 67 = .ok (.getfield 29, 3) := dk_180 (byr_X8_ask_4 (j := 3) rfl) (byr_X8_ask_4 (j := 4) rfl) (byr_X8_ask_4 (j := 5) rfl) (by decide)
theorem dX8_ask_70 : decode cX8_ask 70 = .ok (.aload_n 3, 1) := dk_45 (byr_X8_ask_4 (j := 6) rfl)
theorem dX8_ask_71 : decode cX8_ask 71 = .ok (.aload 4, 2) := dk_25 (byr_X8_ask_4 (j := 7) rfl) (byr_X8_ask_4 (j := 8) rfl)
theorem dX8_ask_73 : decode cX8_ask 73 = .ok (.aload_n 0, 1) := dk_42 (byr_X8_ask_4 (j := 9) rfl)
theorem dX8_ask_74 : decode cX8_ask 74 = .ok (.getfield 10, 3) := dk_180 (byr_X8_ask_4 (j := 10) rfl) (byr_X8_ask_4 (j := 11) rfl) (byr_X8_ask_4 (j := 12) rfl) (by decide)
theorem dX8_ask_77 : decode cX8_ask 77 = .ok (.getfield 86, 3) := dk_180 (byr_X8_ask_4 (j := 13) rfl) (byr_X8_ask_4 (j := 14) rfl) (byr_X8_ask_4 (j := 15) rfl) (by decide)
theorem dX8_ask_80 : decode cX8_ask 80 = .ok (.invokevirtual 179, 3) := dk_182 (byr_X8_ask_5 (j := 0) rfl) (byr_X8_ask_5 (j := 1) rfl) (byr_X8_ask_5 (j := 2) rfl) (by decide)
theorem dX8_ask_83 : decode cX8_ask 83 = .ok (.ifCond .eq 43, 3) := dk_153 (byr_X8_ask_5 (j := 3) rfl) (byr_X8_ask_5 (j := 4) rfl) (byr_X8_ask_5 (j := 5) rfl) (by decide)
theorem dX8_ask_86 : decode cX8_ask 86 = .ok (.iload 5, 2) := dk_21 (byr_X8_ask_5 (j := 6) rfl) (byr_X8_ask_5 (j := 7) rfl)
theorem dX8_ask_88 : decode cX8_ask 88 = .ok (.ifCond .eq 22, 3) := dk_153 (byr_X8_ask_5 (j := 8) rfl) (byr_X8_ask_5 (j := 9) rfl) (byr_X8_ask_5 (j := 10) rfl) (by decide)
theorem dX8_ask_91 : decode cX8_ask 91 = .ok (.aload_n 3, 1) := dk_45 (byr_X8_ask_5 (j := 11) rfl)
theorem dX8_ask_92 : decode cX8_ask 92 = .ok (.getfield 113, 3) := dk_180 (byr_X8_ask_5 (j := 12) rfl) (byr_X8_ask_5 (j := 13) rfl) (byr_X8_ask_5 (j := 14) rfl) (by decide)
theorem dX8_ask_95 : decode cX8_ask 95 = .ok (.aload_n 0, 1) := dk_42 (byr_X8_ask_5 (j := 15) rfl)
theorem dX8_ask_96 : decode cX8_ask 96 = .ok (.getfield 29, 3) := dk_180 (byr_X8_ask_6 (j := 0) rfl) (byr_X8_ask_6 (j := 1) rfl) (byr_X8_ask_6 (j := 2) rfl) (by decide)
theorem dX8_ask_99 : decode cX8_ask 99 = .ok (.getfield 186, 3) := dk_180 (byr_X8_ask_6 (j := 3) rfl) (byr_X8_ask_6 (j := 4) rfl) (byr_X8_ask_6 (j := 5) rfl) (by decide)
theorem dX8_ask_102 : decode cX8_ask 102 = .ok (.iload 7, 2) := dk_21 (byr_X8_ask_6 (j := 6) rfl) (byr_X8_ask_6 (j := 7) rfl)
theorem dX8_ask_104 : decode cX8_ask 104 = .ok (.invokestatic 218, 3) := dk_184 (byr_X8_ask_6 (j := 8) rfl) (byr_X8_ask_6 (j := 9) rfl) (byr_X8_ask_6 (j := 10) rfl) (by decide)
theorem dX8_ask_107 : decode cX8_ask 107 = .ok (.ifCond .eq 19, 3) := dk_153 (byr_X8_ask_6 (j := 11) rfl) (byr_X8_ask_6 (j := 12) rfl) (byr_X8_ask_6 (j := 13) rfl) (by decide)
theorem dX8_ask_110 : decode cX8_ask 110 = .ok (.iconst 1, 1) := dk_4 (byr_X8_ask_6 (j := 14) rfl)
theorem dX8_ask_111 : decode cX8_ask 111 = .ok (.istore 5, 2) := dk_54 (byr_X8_ask_6 (j := 15) rfl) (byr_X8_ask_7 (j := 0) rfl)
theorem dX8_ask_113 : decode cX8_ask 113 = .ok (.iload 8, 2) := dk_21 (byr_X8_ask_7 (j := 1) rfl) (byr_X8_ask_7 (j := 2) rfl)
theorem dX8_ask_115 : decode cX8_ask 115 = .ok (.istore 6, 2) := dk_54 (byr_X8_ask_7 (j := 3) rfl) (byr_X8_ask_7 (j := 4) rfl)
theorem dX8_ask_117 : decode cX8_ask 117 = .ok (.aload_n 0, 1) := dk_42 (byr_X8_ask_7 (j := 5) rfl)
theorem dX8_ask_118 : decode cX8_ask 118 = .ok (.getfield 29, 3) := dk_180 (byr_X8_ask_7 (j := 6) rfl) (byr_X8_ask_7 (j := 7) rfl) (byr_X8_ask_7 (j := 8) rfl) (by decide)
theorem dX8_ask_121 : decode cX8_ask 121 = .ok (.getfield 186, 3) := dk_180 (byr_X8_ask_7 (j := 9) rfl) (byr_X8_ask_7 (j := 10) rfl) (byr_X8_ask_7 (j := 11) rfl) (by decide)
theorem dX8_ask_124 : decode cX8_ask 124 = .ok (.istore 7, 2) := dk_54 (byr_X8_ask_7 (j := 12) rfl) (byr_X8_ask_7 (j := 13) rfl)
theorem dX8_ask_126 : decode cX8_ask 126 = .ok (.iinc 8 1, 3) := dk_132 (byr_X8_ask_7 (j := 14) rfl) (byr_X8_ask_7 (j := 15) rfl) (byr_X8_ask_8 (j := 0) rfl) (by decide)
theorem dX8_ask_129 : decode cX8_ask 129 = .ok (.goto (-82), 3) := dk_167 (byr_X8_ask_8 (j := 1) rfl) (byr_X8_ask_8 (j := 2) rfl) (byr_X8_ask_8 (j := 3) rfl) (by decide)
theorem dX8_ask_132 : decode cX8_ask 132 = .ok (.iload 5, 2) := dk_21 (byr_X8_ask_8 (j := 4) rfl) (byr_X8_ask_8 (j := 5) rfl)
theorem dX8_ask_134 : decode cX8_ask 134 = .ok (.ifCond .eq 8, 3) := dk_153 (byr_X8_ask_8 (j := 6) rfl) (byr_X8_ask_8 (j := 7) rfl) (byr_X8_ask_8 (j := 8) rfl) (by decide)
theorem dX8_ask_137 : decode cX8_ask 137 = .ok (.iload 6, 2) := dk_21 (byr_X8_ask_8 (j := 9) rfl) (byr_X8_ask_8 (j := 10) rfl)
theorem dX8_ask_139 : decode cX8_ask 139 = .ok (.goto 8, 3) := dk_167 (byr_X8_ask_8 (j := 11) rfl) (byr_X8_ask_8 (j := 12) rfl) (byr_X8_ask_8 (j := 13) rfl) (by decide)
theorem dX8_ask_142 : decode cX8_ask 142 = .ok (.aload_n 0, 1) := dk_42 (byr_X8_ask_8 (j := 14) rfl)
theorem dX8_ask_143 : decode cX8_ask 143 = .ok (.iconst 2, 1) := dk_5 (byr_X8_ask_8 (j := 15) rfl)
theorem dX8_ask_144 : decode cX8_ask 144 = .ok (.invokevirtual 76, 3) := dk_182 (byr_X8_ask_9 (j := 0) rfl) (byr_X8_ask_9 (j := 1) rfl) (byr_X8_ask_9 (j := 2) rfl) (by decide)
theorem dX8_ask_147 : decode cX8_ask 147 = .ok (.ireturn, 1) := dk_172 (byr_X8_ask_9 (j := 3) rfl)
set_option maxHeartbeats 4000000 in
set_option maxRecDepth 100000 in
theorem c_X8_ask (l : Launch) (G : GT) (σ : Sto) (a1 : Int32) (a2 : Int32) (r : (Int32 × Sto)) (h : f_X8_ask σ a1 a2 = some r) : MW l G (7) (181) 0 0 yX8_ask cX8_ask 9 (Option.some Jvm.ClassFile.FieldType.int) [.ref (gad G 0), .int a1, .int a2] (wl G σ) (some (.int r.1)) (wl G r.2) := by
  refine mw_of RX8 (fiI G) [(0, .ref (gad G 0)), (1, .int a1), (2, .int a2)] (by decide +kernel) rfl (Nat.le_of_ble_eq_true rfl) rfl h rfl (fun p e s m args below meth c X hr hnm => ?_)
  have J126 : ∀ (k3 : Nat) (hk3 : K0 k3 = 6) (k4 : Nat) (hk4 : K0 k4 = 6) (v5 : Bool) (v6 : Int32) (v7 : Int32) (v8 : Int32) (K47 : Bool → Int32 → Int32 → Int32 → Sto → Option (Int32 × Sto)) (hK47 : ∀ (v5' : Bool) (v6' : Int32) (v7' : Int32) (v8' : Int32) (σ' : Sto), Sm p l e { frames := 7, cells := 0, slots := 0, locals := 181 } s m args below meth c G 9 (Qm below args s G 0 0 (fiI G)) 0 0 (wl G σ') 47 [(0, .ref (gad G 0)), (3, .ref (gad G k3)), (4, .ref (gad G k4)), (5, .int (b2i v5')), (6, .int v6'), (7, .int v7'), (8, .int v8')] [] (K47 v5' v6' v7' v8' σ')) (σ : Sto), Sm p l e { frames := 7, cells := 0, slots := 0, locals := 181 } s m args below meth c G 9 (Qm below args s G 0 0 (fiI G)) 0 0 (wl G σ) 126 [(0, .ref (gad G 0)), (3, .ref (gad G k3)), (4, .ref (gad G k4)), (5, .int (b2i v5)), (6, .int v6), (7, .int v7), (8, .int v8)] [] (f_X8_ask_L126 K47 k3 k4 v5 v6 v7 v8 σ) := by
    intro k3 hk3 k4 hk4 v5 v6 v7 v8 K47 hK47 σ
    rw [f_X8_ask_L126]
    refine sm_iinc X 129 6 (1 : Int32) [(8, .int (v8 + (1 : Int32))), (0, .ref (gad G 0)), (3, .ref (gad G k3)), (4, .ref (gad G k4)), (5, .int (b2i v5)), (6, .int v6), (7, .int v7)] dX8_ask_126 rfl rfl rfl (by decide) rfl ?_
    refine sm_goto X 47 dX8_ask_129 (by decide) ?_
    exact sm_sub [1, 2, 3, 4, 5, 6, 0] rfl (hK47 v5 v6 v7 (v8 + (1 : Int32)) σ)
  have J110 : ∀ (k3 : Nat) (hk3 : K0 k3 = 6) (k4 : Nat) (hk4 : K0 k4 = 6) (v8 : Int32) (K47 : Bool → Int32 → Int32 → Int32 → Sto → Option (Int32 × Sto)) (hK47 : ∀ (v5' : Bool) (v6' : Int32) (v7' : Int32) (v8' : Int32) (σ' : Sto), Sm p l e { frames := 7, cells := 0, slots := 0, locals := 181 } s m args below meth c G 9 (Qm below args s G 0 0 (fiI G)) 0 0 (wl G σ') 47 [(0, .ref (gad G 0)), (3, .ref (gad G k3)), (4, .ref (gad G k4)), (5, .int (b2i v5')), (6, .int v6'), (7, .int v7'), (8, .int v8')] [] (K47 v5' v6' v7' v8' σ')) (σ : Sto), Sm p l e { frames := 7, cells := 0, slots := 0, locals := 181 } s m args below meth c G 9 (Qm below args s G 0 0 (fiI G)) 0 0 (wl G σ) 110 [(0, .ref (gad G 0)), (3, .ref (gad G k3)), (4, .ref (gad G k4)), (8, .int v8)] [] (f_X8_ask_L110 K47 k3 k4 v8 σ) := by
    intro k3 hk3 k4 hk4 v8 K47 hK47 σ
    rw [f_X8_ask_L110]
    refine sm_iconst X 111 (1) dX8_ask_110 rfl rfl ?_
    refine sm_istore X 113 [(5, .int 1), (0, .ref (gad G 0)), (3, .ref (gad G k3)), (4, .ref (gad G k4)), (8, .int v8)] dX8_ask_111 rfl (by decide) rfl ?_
    refine sm_iload X 115 4 dX8_ask_113 rfl rfl ?_
    refine sm_istore X 117 [(6, .int v8), (5, .int 1), (0, .ref (gad G 0)), (3, .ref (gad G k3)), (4, .ref (gad G k4)), (8, .int v8)] dX8_ask_115 rfl (by decide) rfl ?_
    refine sm_aload_n X 118 2 dX8_ask_117 rfl rfl rfl ?_
    refine sm_getf X 121 58 rfl fd_8_3 rfl dX8_ask_118 rfl q_292 ?_
    refine sm_geti X 124 rfl fd_5_2 dX8_ask_121 rfl q_190 ?_
    refine sm_istore X 126 [(7, .int (σ.1 58 2)), (6, .int v8), (5, .int 1), (0, .ref (gad G 0)), (3, .ref (gad G k3)), (4, .ref (gad G k4)), (8, .int v8)] dX8_ask_124 rfl (by decide) rfl ?_
    exact sm_sub [3, 4, 5, 2, 1, 0, 6] rfl (J126 k3 hk3 k4 hk4 true v8 (σ.1 58 2) v8 K47 hK47 σ)
  have J47 : ∀ (r3 : Option Nat) (r4 : Option Nat)  (n : Nat) (v5 : Bool) (v6 : Int32) (v7 : Int32) (v8 : Int32) (σ : Sto), Sm p l e { frames := 7, cells := 0, slots := 0, locals := 181 } s m args below meth c G 9 (Qm below args s G 0 0 (fiI G)) 0 0 (wl G σ) 47 [(0, .ref (gad G 0)), (3, va_re (gad G) r3), (4, va_re (gad G) r4), (5, .int (b2i v5)), (6, .int v6), (7, .int v7), (8, .int v8)] [] (f_X8_ask_L47  r3 r4 n v5 v6 v7 v8 σ) := by
    intro r3 r4 n
    induction n with
    | zero => intro v5 v6 v7 v8 σ; rw [f_X8_ask_L47]; exact sm_none
    | succ n ihl =>
      intro v5 v6 v7 v8 σ
      rw [f_X8_ask_L47]
      refine sm_iload X 49 6 dX8_ask_47 rfl rfl ?_
      refine sm_iconst X 50 (3) dX8_ask_49 rfl rfl ?_
      refine sm_icmp_gt X 53 132 dX8_ask_50 rfl (by decide) (fun h50 => ?_) (fun h50 => ?_)
      · refine sm_iload X 134 3 dX8_ask_132 rfl rfl ?_
        refine sm_ifz_eq X 137 142 dX8_ask_134 rfl (by decide) (fun h134 => ?_) (fun h134 => ?_)
        · refine sm_iload X 139 4 dX8_ask_137 rfl rfl ?_
          refine sm_goto X 147 dX8_ask_139 (by decide) ?_
          exact sm_iret X hr dX8_ask_147 rfl
        · refine sm_aload_n X 143 0 dX8_ask_142 rfl rfl rfl ?_
          refine sm_iconst X 144 (2) dX8_ask_143 rfl rfl ?_
          refine sm_bind (fun r144 h144 => ?_)
          refine sm_callV0 X 147 [.int 2] [] [.int r144.1] (c_X8_refuse l G σ (2 : Int32) r144 h144) cw_X8_refuse q_332 qs_0 q_330 rfl (by decide) rfl rfl rfl rfl rfl (Nat.le_of_ble_eq_true rfl) ⟨Nat.le_of_ble_eq_true rfl, Nat.le_of_ble_eq_true rfl⟩ ⟨Nat.le_refl _, Nat.le_refl _⟩ dX8_ask_144 rfl ?_
          exact sm_iret X hr dX8_ask_147 rfl
      · refine sm_aload_n X 54 0 dX8_ask_53 rfl rfl rfl ?_
        refine sm_getf X 57 58 rfl fd_8_3 rfl dX8_ask_54 rfl q_292 ?_
        refine sm_aload_n X 58 0 dX8_ask_57 rfl rfl rfl ?_
        refine sm_getf X 61 1 rfl fd_8_0 rfl dX8_ask_58 rfl q_289 ?_
        refine sm_iload X 63 6 dX8_ask_61 rfl rfl ?_
        refine sm_bind (fun r63 h63 => ?_)
        refine sm_callV0 X 66 [.ref (gad G 1), .int v8] [] [] (c_X5_feel l G σ 1 rfl v8 r63 h63) cw_X5_feel q_603 q_604 q_602 rfl (by decide) rfl rfl rfl rfl rfl (Nat.le_of_ble_eq_true rfl) ⟨Nat.le_of_ble_eq_true rfl, Nat.le_of_ble_eq_true rfl⟩ ⟨Nat.le_refl _, Nat.le_refl _⟩ dX8_ask_63 rfl ?_
        refine sm_aload_n X 67 0 dX8_ask_66 rfl rfl rfl ?_
        refine sm_getf X 70 58 rfl fd_8_3 rfl dX8_ask_67 rfl q_292 ?_
        refine sm_aload_nq X 71 1 dX8_ask_70 rfl rfl rfl ?_
        refine sm_aloadq X 73 2 dX8_ask_71 rfl rfl ?_
        refine sm_aload_n X 74 0 dX8_ask_73 rfl rfl rfl ?_
        refine sm_getf X 77 1 rfl fd_8_0 rfl dX8_ask_74 rfl q_289 ?_
        refine sm_geti X 80 rfl fd_0_2 dX8_ask_77 rfl q_94 ?_
        refine sm_deref (fun k80 h hk80 => ?_)
        subst h
        refine sm_deref (fun k80' h hk80' => ?_)
        subst h
        refine sm_bind (fun r80 h80 => ?_)
        refine sm_callV0 X 83 [.ref (gad G k80), .ref (gad G k80'), .int (r63.1 1 2)] [] [.int (b2i r80.1)] (c_X5_meets l G r63 k80 hk80 k80' hk80' (r63.1 1 2) r80 h80) cw_X5_meets q_639 q_640 q_638 rfl (by decide) rfl rfl rfl rfl rfl (Nat.le_of_ble_eq_true rfl) ⟨Nat.le_of_ble_eq_true rfl, Nat.le_of_ble_eq_true rfl⟩ ⟨Nat.le_refl _, Nat.le_refl _⟩ dX8_ask_80 rfl ?_
        refine sm_ifz_eq X 86 126 dX8_ask_83 rfl (by decide) (fun h83 => ?_) (fun h83 => ?_)
        · refine sm_iload X 88 3 dX8_ask_86 rfl rfl ?_
          refine sm_ifz_eq X 91 110 dX8_ask_88 rfl (by decide) (fun h88 => ?_) (fun h88 => ?_)
          · refine sm_aload_n X 92 1 dX8_ask_91 rfl rfl rfl ?_
            refine sm_geti X 95 hk80 fd_6_2 dX8_ask_92 rfl q_68 ?_
            refine sm_aload_n X 96 0 dX8_ask_95 rfl rfl rfl ?_
            refine sm_getf X 99 58 rfl fd_8_3 rfl dX8_ask_96 rfl q_292 ?_
            refine sm_geti X 102 rfl fd_5_2 dX8_ask_99 rfl q_190 ?_
            refine sm_iload X 104 5 dX8_ask_102 rfl rfl ?_
            refine sm_bind (fun r104 h104 => ?_)
            refine sm_callS0 X 107 [.int (r80.2.1 k80 2), .int (r80.2.1 58 2), .int v7] [] [.int (b2i r104)] (c_X8_isBetter l G r80.2 (r80.2.1 k80 2) (r80.2.1 58 2) v7 r104 h104) cw_X8_isBetter q_709 q_730 rfl rfl rfl (Nat.le_of_ble_eq_true rfl) ⟨Nat.le_of_ble_eq_true rfl, Nat.le_of_ble_eq_true rfl⟩ ⟨Nat.le_refl _, Nat.le_refl _⟩ dX8_ask_104 rfl ?_
            refine sm_ifz_eq X 110 126 dX8_ask_107 rfl (by decide) (fun h107 => ?_) (fun h107 => ?_)
            · exact sm_sub [0, 1, 2, 6] rfl (J110 k80 hk80 k80' hk80' v8 (f_X8_ask_L47  (some k80) (some k80') n) ihl r80.2)
            · exact sm_sub [0, 1, 2, 3, 4, 5, 6] rfl (J126 k80 hk80 k80' hk80' v5 v6 v7 v8 (f_X8_ask_L47  (some k80) (some k80') n) ihl r80.2)
          · exact sm_sub [0, 1, 2, 6] rfl (J110 k80 hk80 k80' hk80' v8 (f_X8_ask_L47  (some k80) (some k80') n) ihl r80.2)
        · exact sm_sub [0, 1, 2, 3, 4, 5, 6] rfl (J126 k80 hk80 k80' hk80' v5 v6 v7 v8 (f_X8_ask_L47  (some k80) (some k80') n) ihl r80.2)
  unfold f_X8_ask
  refine sm_aload_n X 1 0 dX8_ask_0 rfl rfl rfl ?_
  refine sm_getf X 4 1 rfl fd_8_0 rfl dX8_ask_1 rfl q_289 ?_
  refine sm_iload_n X 5 1 dX8_ask_4 rfl rfl rfl ?_
  refine sm_bind (fun r5 h5 => ?_)
  refine sm_callV0 X 8 [.int a1] [] [va_re (gad G) r5] (c_X0_swimmerAt l G σ 1 rfl a1 r5 h5) cw_X0_swimmerAt q_376 q_377 q_375 rfl (by decide) rfl rfl rfl rfl rfl (Nat.le_of_ble_eq_true rfl) ⟨Nat.le_of_ble_eq_true rfl, Nat.le_of_ble_eq_true rfl⟩ ⟨Nat.le_refl _, Nat.le_refl _⟩ dX8_ask_5 rfl ?_
  refine sm_astore_nq X 9 [(3, va_re (gad G) r5), (0, .ref (gad G 0)), (1, .int a1), (2, .int a2)] dX8_ask_8 rfl rfl (by decide) rfl ?_
  refine sm_aload_n X 10 1 dX8_ask_9 rfl rfl rfl ?_
  refine sm_getf X 13 1 rfl fd_8_0 rfl dX8_ask_10 rfl q_289 ?_
  refine sm_iload_n X 14 3 dX8_ask_13 rfl rfl rfl ?_
  refine sm_bind (fun r14 h14 => ?_)
  refine sm_callV0 X 17 [.int a2] [] [va_re (gad G) r14] (c_X0_swimmerAt l G σ 1 rfl a2 r14 h14) cw_X0_swimmerAt q_376 q_377 q_375 rfl (by decide) rfl rfl rfl rfl rfl (Nat.le_of_ble_eq_true rfl) ⟨Nat.le_of_ble_eq_true rfl, Nat.le_of_ble_eq_true rfl⟩ ⟨Nat.le_refl _, Nat.le_refl _⟩ dX8_ask_14 rfl ?_
  refine sm_astoreq X 19 [(4, va_re (gad G) r14), (3, va_re (gad G) r5), (0, .ref (gad G 0)), (1, .int a1), (2, .int a2)] dX8_ask_17 rfl (by decide) (by cases r5 <;> rfl) ?_
  refine sm_aload_nq X 20 1 dX8_ask_19 rfl rfl rfl ?_
  refine sm_aloadq X 22 0 dX8_ask_20 rfl rfl ?_
  refine sm_bind (fun r22 h22 => ?_)
  refine sm_callS0 X 25 [va_re (gad G) r5, va_re (gad G) r14] [] [.int (b2i r22)] (c_X8_areUnlike l G σ r5 r14 r22 h22) cw_X8_areUnlike q_636 q_635 rfl rfl rfl (Nat.le_of_ble_eq_true rfl) ⟨Nat.le_of_ble_eq_true rfl, Nat.le_of_ble_eq_true rfl⟩ ⟨Nat.le_refl _, Nat.le_refl _⟩ dX8_ask_22 rfl ?_
  refine sm_ifz_ne X 28 34 dX8_ask_25 rfl (by decide) (fun h25 => ?_) (fun h25 => ?_)
  · refine sm_iconst X 35 (0) dX8_ask_34 rfl rfl ?_
    refine sm_istore X 37 [(5, .int 0), (4, va_re (gad G) r14), (3, va_re (gad G) r5), (0, .ref (gad G 0)), (1, .int a1), (2, .int a2)] dX8_ask_35 rfl (by decide) (by cases r14 <;> rfl) ?_
    refine sm_iconst X 38 (0) dX8_ask_37 rfl rfl ?_
    refine sm_istore X 40 [(6, .int 0), (5, .int 0), (4, va_re (gad G) r14), (3, va_re (gad G) r5), (0, .ref (gad G 0)), (1, .int a1), (2, .int a2)] dX8_ask_38 rfl (by decide) rfl ?_
    refine sm_iconst X 41 (0) dX8_ask_40 rfl rfl ?_
    refine sm_istore X 43 [(7, .int 0), (6, .int 0), (5, .int 0), (4, va_re (gad G) r14), (3, va_re (gad G) r5), (0, .ref (gad G 0)), (1, .int a1), (2, .int a2)] dX8_ask_41 rfl (by decide) rfl ?_
    refine sm_bipush X 45 (-3) dX8_ask_43 rfl rfl ?_
    refine sm_istore X 47 [(8, .int (-3)), (7, .int 0), (6, .int 0), (5, .int 0), (4, va_re (gad G) r14), (3, va_re (gad G) r5), (0, .ref (gad G 0)), (1, .int a1), (2, .int a2)] dX8_ask_45 rfl (by decide) rfl ?_
    exact sm_sub [6, 5, 4, 3, 2, 1, 0] rfl (J47 r5 r14  FU false (0 : Int32) (0 : Int32) (-3 : Int32) σ)
  · refine sm_aload_n X 29 2 dX8_ask_28 rfl rfl rfl ?_
    refine sm_iconst X 30 (1) dX8_ask_29 rfl rfl ?_
    refine sm_bind (fun r30 h30 => ?_)
    refine sm_callV0 X 33 [.int 1] [] [.int r30.1] (c_X8_refuse l G σ (1 : Int32) r30 h30) cw_X8_refuse q_332 qs_0 q_330 rfl (by decide) rfl rfl rfl rfl rfl (Nat.le_of_ble_eq_true rfl) ⟨Nat.le_of_ble_eq_true rfl, Nat.le_of_ble_eq_true rfl⟩ ⟨Nat.le_refl _, Nat.le_refl _⟩ dX8_ask_30 rfl ?_
    exact sm_iret X hr dX8_ask_33 rfl
def by_X8_leastSight_0 : List Nat := [42, 180, 0, 10, 27, 182, 0, 99, 78, 42, 180, 0, 10, 28, 182, 0]
def by_X8_leastSight_1 : List Nat := [99, 58, 4, 45, 25, 4, 184, 0, 175, 154, 0, 9, 42, 4, 182, 0]
def by_X8_leastSight_2 : List Nat := [76, 172, 42, 180, 0, 29, 42, 180, 0, 10, 42, 180, 0, 10, 180, 0]
def by_X8_leastSight_3 : List Nat := [83, 182, 0, 167, 42, 180, 0, 29, 45, 25, 4, 182, 0, 221, 54, 5]
def by_X8_leastSight_4 : List Nat := [21, 5, 17, 0, 200, 164, 0, 11, 42, 5, 182, 0, 76, 167, 0, 5]
def by_X8_leastSight_z : List Nat := [21, 5, 172]
def by_X8_leastSight : List (List Nat) := [by_X8_leastSight_0, by_X8_leastSight_1, by_X8_leastSight_2, by_X8_leastSight_3, by_X8_leastSight_4]
set_option maxRecDepth 100000 in
theorem byo_X8_leastSight : cX8_leastSight.data.toList.map UInt8.toNat = by_X8_leastSight.flatten ++ by_X8_leastSight_z := by decide +kernel
theorem byl_X8_leastSight : by_X8_leastSight.all (fun r => r.length == 16) = true := by decide +kernel
theorem byr_X8_leastSight_0 {j v : Nat} (h : by_X8_leastSight_0[j]? = some v) : RD cX8_leastSight (0 + j) v := rd_16 byo_X8_leastSight byl_X8_leastSight 0 rfl h
theorem byr_X8_leastSight_1 {j v : Nat} (h : by_X8_leastSight_1[j]? = some v) : RD cX8_leastSight (16 + j) v := rd_16 byo_X8_leastSight byl_X8_leastSight 1 rfl h
theorem byr_X8_leastSight_2 {j v : Nat} (h : by_X8_leastSight_2[j]? = some v) : RD cX8_leastSight (32 + j) v := rd_16 byo_X8_leastSight byl_X8_leastSight 2 rfl h
theorem byr_X8_leastSight_3 {j v : Nat} (h : by_X8_leastSight_3[j]? = some v) : RD cX8_leastSight (48 + j) v := rd_16 byo_X8_leastSight byl_X8_leastSight 3 rfl h
theorem byr_X8_leastSight_4 {j v : Nat} (h : by_X8_leastSight_4[j]? = some v) : RD cX8_leastSight (64 + j) v := rd_16 byo_X8_leastSight byl_X8_leastSight 4 rfl h
theorem byr_X8_leastSight_5 {j v : Nat} (h : by_X8_leastSight_z[j]? = some v) : RD cX8_leastSight (80 + j) v := rd_z byo_X8_leastSight byl_X8_leastSight 5 rfl h
theorem dX8_leastSight_0 : decode cX8_leastSight 0 = .ok (.aload_n 0, 1) := dk_42 (byr_X8_leastSight_0 (j := 0) rfl)
theorem dX8_leastSight_1 : decode cX8_leastSight 1 = .ok (.getfield 10, 3) := dk_180 (byr_X8_leastSight_0 (j := 1) rfl) (byr_X8_leastSight_0 (j := 2) rfl) (byr_X8_leastSight_0 (j := 3) rfl) (by decide)
theorem dX8_leastSight_4 : decode cX8_leastSight 4 = .ok (.iload_n 1, 1) := dk_27 (byr_X8_leastSight_0 (j := 4) rfl)
theorem dX8_leastSight_5 : decode cX8_leastSight 5 = .ok (.invokevirtual 99, 3) := dk_182 (byr_X8_leastSight_0 (j := 5) rfl) (byr_X8_leastSight_0 (j := 6) rfl) (byr_X8_leastSight_0 (j := 7) rfl) (by decide)
theorem dX8_leastSight_8 : decode cX8_leastSight 8 = .ok (.astore_n 3, 1) := dk_78 (byr_X8_leastSight_0 (j := 8) rfl)
theorem dX8_leastSight_9 : decode cX8_leastSight 9 = .ok (.aload_n 0, 1) := dk_42 (byr_X8_leastSight_0 (j := 9) rfl)
theorem dX8_leastSight_10 : decode cX8_leastSight 10 = .ok (.getfield 10, 3) := dk_180 (byr_X8_leastSight_0 (j := 10) rfl) (byr_X8_leastSight_0 (j := 11) rfl) (byr_X8_leastSight_0 (j := 12) rfl) (by decide)
theorem dX8_leastSight_13 : decode cX8_leastSight 13 = .ok (.iload_n 2, 1) := dk_28 (byr_X8_leastSight_0 (j := 13) rfl)
theorem dX8_leastSight_14 : decode cX8_leastSight 14 = .ok (.invokevirtual 99, 3) := dk_182 (byr_X8_leastSight_0 (j := 14) rfl) (byr_X8_leastSight_0 (j := 15) rfl) (byr_X8_leastSight_1 (j := 0) rfl) (by decide)
theorem dX8_leastSight_17 : decode cX8_leastSight 17 = .ok (.astore 4, 2) := dk_58 (byr_X8_leastSight_1 (j := 1) rfl) (byr_X8_leastSight_1 (j := 2) rfl)
theorem dX8_leastSight_19 : decode cX8_leastSight 19 = .ok (.aload_n 3, 1) := dk_45 (byr_X8_leastSight_1 (j := 3) rfl)
theorem dX8_leastSight_20 : decode cX8_leastSight 20 = .ok (.aload 4, 2) := dk_25 (byr_X8_leastSight_1 (j := 4) rfl) (byr_X8_leastSight_1 (j := 5) rfl)
theorem dX8_leastSight_22 : decode cX8_leastSight 22 = .ok (.invokestatic 175, 3) := dk_184 (byr_X8_leastSight_1 (j := 6) rfl) (byr_X8_leastSight_1 (j := 7) rfl) (byr_X8_leastSight_1 (j := 8) rfl) (by decide)
theorem dX8_leastSight_25 : decode cX8_leastSight 25 = .ok (.ifCond .ne 9, 3) := dk_154 (byr_X8_leastSight_1 (j := 9) rfl) (byr_X8_leastSight_1 (j := 10) rfl) (byr_X8_leastSight_1 (j := 11) rfl) (by decide)
theorem dX8_leastSight_28 : decode cX8_leastSight 28 = .ok (.aload_n 0, 1) := dk_42 (byr_X8_leastSight_1 (j := 12) rfl)
theorem dX8_leastSight_29 : decode cX8_leastSight 29 = .ok (.iconst 1, 1) := dk_4 (byr_X8_leastSight_1 (j := 13) rfl)
theorem dX8_leastSight_30 : decode cX8_leastSight 30 = .ok (.invokevirtual 76, 3) := dk_182 (byr_X8_leastSight_1 (j := 14) rfl) (byr_X8_leastSight_1 (j := 15) rfl) (byr_X8_leastSight_2 (j := 0) rfl) (by decide)
theorem dX8_leastSight_33 : decode cX8_leastSight 33 = .ok (.ireturn, 1) := dk_172 (byr_X8_leastSight_2 (j := 1) rfl)
theorem dX8_leastSight_34 : decode cX8_leastSight 34 = .ok (.aload_n 0, 1) := dk_42 (byr_X8_leastSight_2 (j := 2) rfl)
theorem dX8_leastSight_35 : decode cX8_leastSight 35 = .ok (.getfield 29, 3) := dk_180 (byr_X8_leastSight_2 (j := 3) rfl) (byr_X8_leastSight_2 (j := 4) rfl) (byr_X8_leastSight_2 (j := 5) rfl) (by decide)
theorem dX8_leastSight_38 : decode cX8_leastSight 38 = .ok (.aload_n 0, 1) := dk_42 (byr_X8_leastSight_2 (j := 6) rfl)
theorem dX8_leastSight_39 : decode cX8_leastSight 39 = .ok (.getfield 10, 3) := dk_180 (byr_X8_leastSight_2 (j := 7) rfl) (byr_X8_leastSight_2 (j := 8) rfl) (byr_X8_leastSight_2 (j := 9) rfl) (by decide)
theorem dX8_leastSight_42 : decode cX8_leastSight 42 = .ok (.aload_n 0, 1) := dk_42 (byr_X8_leastSight_2 (j := 10) rfl)
theorem dX8_leastSight_43 : decode cX8_leastSight 43 = .ok (.getfield 10, 3) := dk_180 (byr_X8_leastSight_2 (j := 11) rfl) (byr_X8_leastSight_2 (j := 12) rfl) (byr_X8_leastSight_2 (j := 13) rfl) (by decide)
theorem dX8_leastSight_46 : decode cX8_leastSight 46 = .ok (.getfield 83, 3) := dk_180 (byr_X8_leastSight_2 (j := 14) rfl) (byr_X8_leastSight_2 (j := 15) rfl) (byr_X8_leastSight_3 (j := 0) rfl) (by decide)
theorem dX8_leastSight_49 : decode cX8_leastSight 49 = .ok (.invokevirtual 167, 3) := dk_182 (byr_X8_leastSight_3 (j := 1) rfl) (byr_X8_leastSight_3 (j := 2) rfl) (byr_X8_leastSight_3 (j := 3) rfl) (by decide)
theorem dX8_leastSight_52 : decode cX8_leastSight 52 = .ok (.aload_n 0, 1) := dk_42 (byr_X8_leastSight_3 (j := 4) rfl)
theorem dX8_leastSight_53 : decode cX8_leastSight 53 = .ok (.getfield 29, 3) := dk_180 (byr_X8_leastSight_3 (j := 5) rfl) (byr_X8_leastSight_3 (j := 6) rfl) (byr_X8_leastSight_3 (j := 7) rfl) (by decide)
theorem dX8_leastSight_56 : decode cX8_leastSight 56 = .ok (.aload_n 3, 1) := dk_45 (byr_X8_leastSight_3 (j := 8) rfl)
theorem dX8_leastSight_57 : decode cX8_leastSight 57 = .ok (.aload 4, 2) := dk_25 (byr_X8_leastSight_3 (j := 9) rfl) (byr_X8_leastSight_3 (j := 10) rfl)
theorem dX8_leastSight_59 : decode cX8_leastSight 59 = .ok (.invokevirtual 221, 3) := dk_182 (byr_X8_leastSight_3 (j := 11) rfl) (byr_X8_leastSight_3 (j := 12) rfl) (byr_X8_leastSight_3 (j := 13) rfl) (by decide)
theorem dX8_leastSight_62 : decode cX8_leastSight 62 = .ok (.istore 5, 2) := dk_54 (byr_X8_leastSight_3 (j := 14) rfl) (byr_X8_leastSight_3 (j := 15) rfl)
theorem dX8_leastSight_64 : decode cX8_leastSight 64 = .ok (.iload 5, 2) := dk_21 (byr_X8_leastSight_4 (j := 0) rfl) (byr_X8_leastSight_4 (j := 1) rfl)
theorem dX8_leastSight_66 : decode cX8_leastSight 66 = .ok (.sipush 200, 3) := dk_17 (byr_X8_leastSight_4 (j := 2) rfl) (byr_X8_leastSight_4 (j := 3) rfl) (byr_X8_leastSight_4 (j := 4) rfl) (by decide)
theorem dX8_leastSight_69 : decode cX8_leastSight 69 = .ok (.if_icmp .le 11, 3) := dk_164 (byr_X8_leastSight_4 (j := 5) rfl) (byr_X8_leastSight_4 (j := 6) rfl) (byr_X8_leastSight_4 (j := 7) rfl) (by decide)
theorem dX8_leastSight_72 : decode cX8_leastSight 72 = .ok (.aload_n 0, 1) := dk_42 (byr_X8_leastSight_4 (j := 8) rfl)
theorem dX8_leastSight_73 : decode cX8_leastSight 73 = .ok (.iconst 2, 1) := dk_5 (byr_X8_leastSight_4 (j := 9) rfl)
theorem dX8_leastSight_74 : decode cX8_leastSight 74 = .ok (.invokevirtual 76, 3) := dk_182 (byr_X8_leastSight_4 (j := 10) rfl) (byr_X8_leastSight_4 (j := 11) rfl) (byr_X8_leastSight_4 (j := 12) rfl) (by decide)
theorem dX8_leastSight_77 : decode cX8_leastSight 77 = .ok (.goto 5, 3) := dk_167 (byr_X8_leastSight_4 (j := 13) rfl) (byr_X8_leastSight_4 (j := 14) rfl) (byr_X8_leastSight_4 (j := 15) rfl) (by decide)
theorem dX8_leastSight_80 : decode cX8_leastSight 80 = .ok (.iload 5, 2) := dk_21 (byr_X8_leastSight_5 (j := 0) rfl) (byr_X8_leastSight_5 (j := 1) rfl)
theorem dX8_leastSight_82 : decode cX8_leastSight 82 = .ok (.ireturn, 1) := dk_172 (byr_X8_leastSight_5 (j := 2) rfl)
set_option maxHeartbeats 4000000 in
set_option maxRecDepth 100000 in
theorem c_X8_leastSight (l : Launch) (G : GT) (σ : Sto) (a1 : Int32) (a2 : Int32) (r : (Int32 × Sto)) (h : f_X8_leastSight σ a1 a2 = some r) : MW l G (7) (181) 0 0 yX8_leastSight cX8_leastSight 6 (Option.some Jvm.ClassFile.FieldType.int) [.ref (gad G 0), .int a1, .int a2] (wl G σ) (some (.int r.1)) (wl G r.2) := by
  refine mw_of RX8 (fiI G) [(0, .ref (gad G 0)), (1, .int a1), (2, .int a2)] (by decide +kernel) rfl (Nat.le_of_ble_eq_true rfl) rfl h rfl (fun p e s m args below meth c X hr hnm => ?_)
  unfold f_X8_leastSight
  refine sm_aload_n X 1 0 dX8_leastSight_0 rfl rfl rfl ?_
  refine sm_getf X 4 1 rfl fd_8_0 rfl dX8_leastSight_1 rfl q_289 ?_
  refine sm_iload_n X 5 1 dX8_leastSight_4 rfl rfl rfl ?_
  refine sm_bind (fun r5 h5 => ?_)
  refine sm_callV0 X 8 [.int a1] [] [va_re (gad G) r5] (c_X0_swimmerAt l G σ 1 rfl a1 r5 h5) cw_X0_swimmerAt q_376 q_377 q_375 rfl (by decide) rfl rfl rfl rfl rfl (Nat.le_of_ble_eq_true rfl) ⟨Nat.le_of_ble_eq_true rfl, Nat.le_of_ble_eq_true rfl⟩ ⟨Nat.le_refl _, Nat.le_refl _⟩ dX8_leastSight_5 rfl ?_
  refine sm_astore_nq X 9 [(3, va_re (gad G) r5), (0, .ref (gad G 0)), (1, .int a1), (2, .int a2)] dX8_leastSight_8 rfl rfl (by decide) rfl ?_
  refine sm_aload_n X 10 1 dX8_leastSight_9 rfl rfl rfl ?_
  refine sm_getf X 13 1 rfl fd_8_0 rfl dX8_leastSight_10 rfl q_289 ?_
  refine sm_iload_n X 14 3 dX8_leastSight_13 rfl rfl rfl ?_
  refine sm_bind (fun r14 h14 => ?_)
  refine sm_callV0 X 17 [.int a2] [] [va_re (gad G) r14] (c_X0_swimmerAt l G σ 1 rfl a2 r14 h14) cw_X0_swimmerAt q_376 q_377 q_375 rfl (by decide) rfl rfl rfl rfl rfl (Nat.le_of_ble_eq_true rfl) ⟨Nat.le_of_ble_eq_true rfl, Nat.le_of_ble_eq_true rfl⟩ ⟨Nat.le_refl _, Nat.le_refl _⟩ dX8_leastSight_14 rfl ?_
  refine sm_astoreq X 19 [(4, va_re (gad G) r14), (3, va_re (gad G) r5), (0, .ref (gad G 0)), (1, .int a1), (2, .int a2)] dX8_leastSight_17 rfl (by decide) (by cases r5 <;> rfl) ?_
  refine sm_aload_nq X 20 1 dX8_leastSight_19 rfl rfl rfl ?_
  refine sm_aloadq X 22 0 dX8_leastSight_20 rfl rfl ?_
  refine sm_bind (fun r22 h22 => ?_)
  refine sm_callS0 X 25 [va_re (gad G) r5, va_re (gad G) r14] [] [.int (b2i r22)] (c_X8_areUnlike l G σ r5 r14 r22 h22) cw_X8_areUnlike q_636 q_635 rfl rfl rfl (Nat.le_of_ble_eq_true rfl) ⟨Nat.le_of_ble_eq_true rfl, Nat.le_of_ble_eq_true rfl⟩ ⟨Nat.le_refl _, Nat.le_refl _⟩ dX8_leastSight_22 rfl ?_
  refine sm_ifz_ne X 28 34 dX8_leastSight_25 rfl (by decide) (fun h25 => ?_) (fun h25 => ?_)
  · refine sm_aload_n X 35 2 dX8_leastSight_34 rfl rfl rfl ?_
    refine sm_getf X 38 58 rfl fd_8_3 rfl dX8_leastSight_35 rfl q_292 ?_
    refine sm_aload_n X 39 2 dX8_leastSight_38 rfl rfl rfl ?_
    refine sm_getf X 42 1 rfl fd_8_0 rfl dX8_leastSight_39 rfl q_289 ?_
    refine sm_aload_n X 43 2 dX8_leastSight_42 rfl rfl rfl ?_
    refine sm_getf X 46 1 rfl fd_8_0 rfl dX8_leastSight_43 rfl q_289 ?_
    refine sm_geti X 49 rfl fd_0_1 dX8_leastSight_46 rfl q_92 ?_
    refine sm_bind (fun r49 h49 => ?_)
    refine sm_callV0 X 52 [.ref (gad G 1), .int (σ.1 1 1)] [] [] (c_X5_feel l G σ 1 rfl (σ.1 1 1) r49 h49) cw_X5_feel q_603 q_604 q_602 rfl (by decide) rfl rfl rfl rfl rfl (Nat.le_of_ble_eq_true rfl) ⟨Nat.le_of_ble_eq_true rfl, Nat.le_of_ble_eq_true rfl⟩ ⟨Nat.le_refl _, Nat.le_refl _⟩ dX8_leastSight_49 rfl ?_
    refine sm_aload_n X 53 2 dX8_leastSight_52 rfl rfl rfl ?_
    refine sm_getf X 56 58 rfl fd_8_3 rfl dX8_leastSight_53 rfl q_292 ?_
    refine sm_aload_nq X 57 1 dX8_leastSight_56 rfl rfl rfl ?_
    refine sm_aloadq X 59 0 dX8_leastSight_57 rfl rfl ?_
    refine sm_deref (fun k59 h hk59 => ?_)
    subst h
    refine sm_deref (fun k59' h hk59' => ?_)
    subst h
    refine sm_bind (fun r59 h59 => ?_)
    refine sm_callV0 X 62 [.ref (gad G k59), .ref (gad G k59')] [] [.int r59.1] (c_X5_leastGap l G r49 k59 hk59 k59' hk59' r59 h59) cw_X5_leastGap q_740 q_741 q_739 rfl (by decide) rfl rfl rfl rfl rfl (Nat.le_of_ble_eq_true rfl) ⟨Nat.le_of_ble_eq_true rfl, Nat.le_of_ble_eq_true rfl⟩ ⟨Nat.le_refl _, Nat.le_refl _⟩ dX8_leastSight_59 rfl ?_
    refine sm_istore X 64 [(5, .int r59.1), (4, .ref (gad G k59')), (3, .ref (gad G k59)), (0, .ref (gad G 0)), (1, .int a1), (2, .int a2)] dX8_leastSight_62 rfl (by decide) rfl ?_
    refine sm_iload X 66 0 dX8_leastSight_64 rfl rfl ?_
    refine sm_sipush X 69 (200) dX8_leastSight_66 rfl rfl ?_
    refine sm_icmp_le X 72 80 dX8_leastSight_69 rfl (by decide) (fun h69 => ?_) (fun h69 => ?_)
    · refine sm_iload X 82 0 dX8_leastSight_80 rfl rfl ?_
      exact sm_iret X hr dX8_leastSight_82 rfl
    · refine sm_aload_n X 73 3 dX8_leastSight_72 rfl rfl rfl ?_
      refine sm_iconst X 74 (2) dX8_leastSight_73 rfl rfl ?_
      refine sm_bind (fun r74 h74 => ?_)
      refine sm_callV0 X 77 [.int 2] [] [.int r74.1] (c_X8_refuse l G r59.2 (2 : Int32) r74 h74) cw_X8_refuse q_332 qs_0 q_330 rfl (by decide) rfl rfl rfl rfl rfl (Nat.le_of_ble_eq_true rfl) ⟨Nat.le_of_ble_eq_true rfl, Nat.le_of_ble_eq_true rfl⟩ ⟨Nat.le_refl _, Nat.le_refl _⟩ dX8_leastSight_74 rfl ?_
      refine sm_goto X 82 dX8_leastSight_77 (by decide) ?_
      exact sm_iret X hr dX8_leastSight_82 rfl
  · refine sm_aload_n X 29 2 dX8_leastSight_28 rfl rfl rfl ?_
    refine sm_iconst X 30 (1) dX8_leastSight_29 rfl rfl ?_
    refine sm_bind (fun r30 h30 => ?_)
    refine sm_callV0 X 33 [.int 1] [] [.int r30.1] (c_X8_refuse l G σ (1 : Int32) r30 h30) cw_X8_refuse q_332 qs_0 q_330 rfl (by decide) rfl rfl rfl rfl rfl (Nat.le_of_ble_eq_true rfl) ⟨Nat.le_of_ble_eq_true rfl, Nat.le_of_ble_eq_true rfl⟩ ⟨Nat.le_refl _, Nat.le_refl _⟩ dX8_leastSight_30 rfl ?_
    exact sm_iret X hr dX8_leastSight_33 rfl
def by_X8_send_0 : List Nat := [42, 180, 0, 10, 27, 182, 0, 99, 77, 44, 199, 0, 9, 42, 4, 182]
def by_X8_send_1 : List Nat := [0, 76, 172, 42, 180, 0, 29, 42, 180, 0, 10, 42, 180, 0, 10, 180]
def by_X8_send_2 : List Nat := [0, 83, 182, 0, 167, 2, 62, 3, 54, 4, 3, 54, 5, 21, 5, 16]
def by_X8_send_3 : List Nat := [8, 162, 0, 85, 42, 180, 0, 10, 21, 5, 182, 0, 99, 58, 6, 25]
def by_X8_send_4 : List Nat := [6, 44, 184, 0, 175, 153, 0, 59, 42, 180, 0, 29, 25, 6, 44, 42]
def by_X8_send_5 : List Nat := [180, 0, 10, 180, 0, 86, 182, 0, 179, 153, 0, 39, 29, 155, 0, 23]
def by_X8_send_6 : List Nat := [25, 6, 180, 0, 113, 42, 180, 0, 29, 180, 0, 186, 21, 4, 184, 0]
def by_X8_send_7 : List Nat := [218, 153, 0, 15, 21, 5, 62, 42, 180, 0, 29, 180, 0, 186, 54, 4]
def by_X8_send_8 : List Nat := [132, 5, 1, 167, 255, 170, 29, 156, 0, 11, 42, 5, 182, 0, 76, 167]
def by_X8_send_z : List Nat := [0, 4, 29, 172]
def by_X8_send : List (List Nat) := [by_X8_send_0, by_X8_send_1, by_X8_send_2, by_X8_send_3, by_X8_send_4, by_X8_send_5, by_X8_send_6, by_X8_send_7, by_X8_send_8]
set_option maxRecDepth 100000 in
theorem byo_X8_send : cX8_send.data.toList.map UInt8.toNat = by_X8_send.flatten ++ by_X8_send_z := by decide +kernel
theorem byl_X8_send : by_X8_send.all (fun r => r.length == 16) = true := by decide +kernel
theorem byr_X8_send_0 {j v : Nat} (h : by_X8_send_0[j]? = some v) : RD cX8_send (0 + j) v := rd_16 byo_X8_send byl_X8_send 0 rfl h
theorem byr_X8_send_1 {j v : Nat} (h : by_X8_send_1[j]? = some v) : RD cX8_send (16 + j) v := rd_16 byo_X8_send byl_X8_send 1 rfl h
theorem byr_X8_send_2 {j v : Nat} (h : by_X8_send_2[j]? = some v) : RD cX8_send (32 + j) v := rd_16 byo_X8_send byl_X8_send 2 rfl h
theorem byr_X8_send_3 {j v : Nat} (h : by_X8_send_3[j]? = some v) : RD cX8_send (48 + j) v := rd_16 byo_X8_send byl_X8_send 3 rfl h
theorem byr_X8_send_4 {j v : Nat} (h : by_X8_send_4[j]? = some v) : RD cX8_send (64 + j) v := rd_16 byo_X8_send byl_X8_send 4 rfl h
theorem byr_X8_send_5 {j v : Nat} (h : by_X8_send_5[j]? = some v) : RD cX8_send (80 + j) v := rd_16 byo_X8_send byl_X8_send 5 rfl h
theorem byr_X8_send_6 {j v : Nat} (h : by_X8_send_6[j]? = some v) : RD cX8_send (96 + j) v := rd_16 byo_X8_send byl_X8_send 6 rfl h
theorem byr_X8_send_7 {j v : Nat} (h : by_X8_send_7[j]? = some v) : RD cX8_send (112 + j) v := rd_16 byo_X8_send byl_X8_send 7 rfl h
theorem byr_X8_send_8 {j v : Nat} (h : by_X8_send_8[j]? = some v) : RD cX8_send (128 + j) v := rd_16 byo_X8_send byl_X8_send 8 rfl h
theorem byr_X8_send_9 {j v : Nat} (h : by_X8_send_z[j]? = some v) : RD cX8_send (144 + j) v := rd_z byo_X8_send byl_X8_send 9 rfl h
theorem dX8_send_0 : decode cX8_send 0 = .ok (.aload_n 0, 1) := dk_42 (byr_X8_send_0 (j := 0) rfl)
theorem dX8_send_1 : decode cX8_send 1 = .ok (.getfield 10, 3) := dk_180 (byr_X8_send_0 (j := 1) rfl) (byr_X8_send_0 (j := 2) rfl) (byr_X8_send_0 (j := 3) rfl) (by decide)
theorem dX8_send_4 : decode cX8_send 4 = .ok (.iload_n 1, 1) := dk_27 (byr_X8_send_0 (j := 4) rfl)
theorem dX8_send_5 : decode cX8_send 5 = .ok (.invokevirtual 99, 3) := dk_182 (byr_X8_send_0 (j := 5) rfl) (byr_X8_send_0 (j := 6) rfl) (byr_X8_send_0 (j := 7) rfl) (by decide)
theorem dX8_send_8 : decode cX8_send 8 = .ok (.astore_n 2, 1) := dk_77 (byr_X8_send_0 (j := 8) rfl)
theorem dX8_send_9 : decode cX8_send 9 = .ok (.aload_n 2, 1) := dk_44 (byr_X8_send_0 (j := 9) rfl)
theorem dX8_send_10 : decode cX8_send 10 = .ok (.ifnonnull 9, 3) := dk_199 (byr_X8_send_0 (j := 10) rfl) (byr_X8_send_0 (j := 11) rfl) (byr_X8_send_0 (j := 12) rfl) (by decide)
theorem dX8_send_13 : decode cX8_send 13 = .ok (.aload_n 0, 1) := dk_42 (byr_X8_send_0 (j := 13) rfl)
theorem dX8_send_14 : decode cX8_send 14 = .ok (.iconst 1, 1) := dk_4 (byr_X8_send_0 (j := 14) rfl)
theorem dX8_send_15 : decode cX8_send 15 = .ok (.invokevirtual 76, 3) := dk_182 (byr_X8_send_0 (j := 15) rfl) (byr_X8_send_1 (j := 0) rfl) (byr_X8_send_1 (j := 1) rfl) (by decide)
theorem dX8_send_18 : decode cX8_send 18 = .ok (.ireturn, 1) := dk_172 (byr_X8_send_1 (j := 2) rfl)
theorem dX8_send_19 : decode cX8_send 19 = .ok (.aload_n 0, 1) := dk_42 (byr_X8_send_1 (j := 3) rfl)
theorem dX8_send_20 : decode cX8_send 20 = .ok (.getfield 29, 3) := dk_180 (byr_X8_send_1 (j := 4) rfl) (byr_X8_send_1 (j := 5) rfl) (byr_X8_send_1 (j := 6) rfl) (by decide)
theorem dX8_send_23 : decode cX8_send 23 = .ok (.aload_n 0, 1) := dk_42 (byr_X8_send_1 (j := 7) rfl)
theorem dX8_send_24 : decode cX8_send 24 = .ok (.getfield 10, 3) := dk_180 (byr_X8_send_1 (j := 8) rfl) (byr_X8_send_1 (j := 9) rfl) (byr_X8_send_1 (j := 10) rfl) (by decide)
theorem dX8_send_27 : decode cX8_send 27 = .ok (.aload_n 0, 1) := dk_42 (byr_X8_send_1 (j := 11) rfl)
theorem dX8_send_28 : decode cX8_send 28 = .ok (.getfield 10, 3) := dk_180 (byr_X8_send_1 (j := 12) rfl) (byr_X8_send_1 (j := 13) rfl) (byr_X8_send_1 (j := 14) rfl) (by decide)
theorem dX8_send_31 : decode cX8_send 31 = .ok (.getfield 83, 3) := dk_180 (byr_X8_send_1 (j := 15) rfl) (byr_X8_send_2 (j := 0) rfl) (byr_X8_send_2 (j := 1) rfl) (by decide)
theorem dX8_send_34 : decode cX8_send 34 = .ok (.invokevirtual 167, 3) := dk_182 (byr_X8_send_2 (j := 2) rfl) (byr_X8_send_2 (j := 3) rfl) (byr_X8_send_2 (j := 4) rfl) (by decide)
theorem dX8_send_37 : decode cX8_send 37 = .ok (.iconst (-1), 1) := dk_2 (byr_X8_send_2 (j := 5) rfl)
theorem dX8_send_38 : decode cX8_send 38 = .ok (.istore_n 3, 1) := dk_62 (byr_X8_send_2 (j := 6) rfl)
theorem dX8_send_39 : decode cX8_send 39 = .ok (.iconst 0, 1) := dk_3 (byr_X8_send_2 (j := 7) rfl)
theorem dX8_send_40 : decode cX8_send 40 = .ok (.istore 4, 2) := dk_54 (byr_X8_send_2 (j := 8) rfl) (byr_X8_send_2 (j := 9) rfl)
theorem dX8_send_42 : decode cX8_send 42 = .ok (.iconst 0, 1) := dk_3 (byr_X8_send_2 (j := 10) rfl)
theorem dX8_send_43 : decode cX8_send 43 = .ok (.istore 5, 2) := dk_54 (byr_X8_send_2 (j := 11) rfl) (byr_X8_send_2 (j := 12) rfl)
theorem dX8_send_45 : decode cX8_send 45 = .ok (.iload 5, 2) := dk_21 (byr_X8_send_2 (j := 13) rfl) (byr_X8_send_2 (j := 14) rfl)
theorem dX8_send_47 : decode cX8_send 47 = .ok (.bipush 8, 2) := dk_16 (byr_X8_send_2 (j := 15) rfl) (byr_X8_send_3 (j := 0) rfl) (by decide)
theorem dX8_send_49 : decode cX8_send 49 = .ok (.if_icmp .ge 85, 3) := dk_162 (byr_X8_send_3 (j := 1) rfl) (byr_X8_send_3 (j := 2) rfl) (byr_X8_send_3 (j := 3) rfl) (by decide)
theorem dX8_send_52 : decode cX8_send 52 = .ok (.aload_n 0, 1) := dk_42 (byr_X8_send_3 (j := 4) rfl)
theorem dX8_send_53 : decode cX8_send 53 = .ok (.getfield 10, 3) := dk_180 (byr_X8_send_3 (j := 5) rfl) (byr_X8_send_3 (j := 6) rfl) (byr_X8_send_3 (j := 7) rfl) (by decide)
theorem dX8_send_56 : decode cX8_send 56 = .ok (.iload 5, 2) := dk_21 (byr_X8_send_3 (j := 8) rfl) (byr_X8_send_3 (j := 9) rfl)
theorem dX8_send_58 : decode cX8_send 58 = .ok (.invokevirtual 99, 3) := dk_182 (byr_X8_send_3 (j := 10) rfl) (byr_X8_send_3 (j := 11) rfl) (byr_X8_send_3 (j := 12) rfl) (by decide)
theorem dX8_send_61 : decode cX8_send 61 = .ok (.astore 6, 2) := dk_58 (byr_X8_send_3 (j := 13) rfl) (byr_X8_send_3 (j := 14) rfl)
theorem dX8_send_63 : decode cX8_send 63 = .ok (.aload 6, 2) := dk_25 (byr_X8_send_3 (j := 15) rfl) (byr_X8_send_4 (j := 0) rfl)
theorem dX8_send_65 : decode cX8_send 65 = .ok (.aload_n 2, 1) := dk_44 (byr_X8_send_4 (j := 1) rfl)
theorem dX8_send_66 : decode cX8_send 66 = .ok (.invokestatic 175, 3) := dk_184 (byr_X8_send_4 (j := 2) rfl) (byr_X8_send_4 (j := 3) rfl) (byr_X8_send_4 (j := 4) rfl) (by decide)
theorem dX8_send_69 : decode cX8_send 69 = .ok (.ifCond .eq 59, 3) := dk_153 (byr_X8_send_4 (j := 5) rfl) (byr_X8_send_4 (j := 6) rfl) (byr_X8_send_4 (j := 7) rfl) (by decide)
theorem dX8_send_72 : decode cX8_send 72 = .ok (.aload_n 0, 1) := dk_42 (byr_X8_send_4 (j := 8) rfl)
theorem dX8_send_73 : decode cX8_send 73 = .ok (.getfield 29, 3) := dk_180 (byr_X8_send_4 (j := 9) rfl) (byr_X8_send_4 (j := 10) rfl) (byr_X8_send_4 (j := 11) rfl) (by decide)
theorem dX8_send_76 : decode cX8_send 76 = .ok (.aload 6, 2) := dk_25 (byr_X8_send_4 (j := 12) rfl) (byr_X8_send_4 (j := 13) rfl)
theorem dX8_send_78 : decode cX8_send 78 = .ok (.aload_n 2, 1) := dk_44 (byr_X8_send_4 (j := 14) rfl)
theorem dX8_send_79 : decode cX8_send 79 = .ok (.aload_n 0, 1) := dk_42 (byr_X8_send_4 (j := 15) rfl)
theorem dX8_send_80 : decode cX8_send 80 = .ok (.getfield 10, 3) := dk_180 (byr_X8_send_5 (j := 0) rfl) (byr_X8_send_5 (j := 1) rfl) (byr_X8_send_5 (j := 2) rfl) (by decide)
theorem dX8_send_83 : decode cX8_send 83 = .ok (.getfield 86, 3) := dk_180 (byr_X8_send_5 (j := 3) rfl) (byr_X8_send_5 (j := 4) rfl) (byr_X8_send_5 (j := 5) rfl) (by decide)
theorem dX8_send_86 : decode cX8_send 86 = .ok (.invokevirtual 179, 3) := dk_182 (byr_X8_send_5 (j := 6) rfl) (byr_X8_send_5 (j := 7) rfl) (byr_X8_send_5 (j := 8) rfl) (by decide)
theorem dX8_send_89 : decode cX8_send 89 = .ok (.ifCond .eq 39, 3) := dk_153 (byr_X8_send_5 (j := 9) rfl) (byr_X8_send_5 (j := 10) rfl) (byr_X8_send_5 (j := 11) rfl) (by decide)
theorem dX8_send_92 : decode cX8_send 92 = .ok (.iload_n 3, 1) := dk_29 (byr_X8_send_5 (j := 12) rfl)
theorem dX8_send_93 : decode cX8_send 93 = .ok (.ifCond .lt 23, 3) := dk_155 (byr_X8_send_5 (j := 13) rfl) (byr_X8_send_5 (j := 14) rfl) (byr_X8_send_5 (j := 15) rfl) (by decide)
theorem dX8_send_96 : decode cX8_send 96 = .ok (.aload 6, 2) := dk_25 (byr_X8_send_6 (j := 0) rfl) (byr_X8_send_6 (j := 1) rfl)
theorem dX8_send_98 : decode cX8_send 98 = .ok (.getfield 113, 3) := dk_180 (byr_X8_send_6 (j := 2) rfl) (byr_X8_send_6 (j := 3) rfl) (byr_X8_send_6 (j := 4) rfl) (by decide)
theorem dX8_send_101 : decode cX8_send 101 = .ok (.aload_n 0, 1) := dk_42 (byr_X8_send_6 (j := 5) rfl)
theorem dX8_send_102 : decode cX8_send 102 = .ok (.getfield 29, 3) := dk_180 (byr_X8_send_6 (j := 6) rfl) (byr_X8_send_6 (j := 7) rfl) (byr_X8_send_6 (j := 8) rfl) (by decide)
theorem dX8_send_105 : decode cX8_send 105 = .ok (.getfield 186, 3) := dk_180 (byr_X8_send_6 (j := 9) rfl) (byr_X8_send_6 (j := 10) rfl) (byr_X8_send_6 (j := 11) rfl) (by decide)
theorem dX8_send_108 : decode cX8_send 108 = .ok (.iload 4, 2) := dk_21 (byr_X8_send_6 (j := 12) rfl) (byr_X8_send_6 (j := 13) rfl)
theorem dX8_send_110 : decode cX8_send 110 = .ok (.invokestatic 218, 3) := dk_184 (byr_X8_send_6 (j := 14) rfl) (byr_X8_send_6 (j := 15) rfl) (byr_X8_send_7 (j := 0) rfl) (by decide)
theorem dX8_send_113 : decode cX8_send 113 = .ok (.ifCond .eq 15, 3) := dk_153 (byr_X8_send_7 (j := 1) rfl) (byr_X8_send_7 (j := 2) rfl) (byr_X8_send_7 (j := 3) rfl) (by decide)
theorem dX8_send_116 : decode cX8_send 116 = .ok (.iload 5, 2) := dk_21 (byr_X8_send_7 (j := 4) rfl) (byr_X8_send_7 (j := 5) rfl)
theorem dX8_send_118 : decode cX8_send 118 = .ok (.istore_n 3, 1) := dk_62 (byr_X8_send_7 (j := 6) rfl)
theorem dX8_send_119 : decode cX8_send 119 = .ok (.aload_n 0, 1) := dk_42 (byr_X8_send_7 (j := 7) rfl)
theorem dX8_send_120 : decode cX8_send 120 = .ok (.getfield 29, 3) := dk_180 (byr_X8_send_7 (j := 8) rfl) (byr_X8_send_7 (j := 9) rfl) (byr_X8_send_7 (j := 10) rfl) (by decide)
theorem dX8_send_123 : decode cX8_send 123 = .ok (.getfield 186, 3) := dk_180 (byr_X8_send_7 (j := 11) rfl) (byr_X8_send_7 (j := 12) rfl) (byr_X8_send_7 (j := 13) rfl) (by decide)
theorem dX8_send_126 : decode cX8_send 126 = .ok (.istore 4, 2) := dk_54 (byr_X8_send_7 (j := 14) rfl) (byr_X8_send_7 (j := 15) rfl)
theorem dX8_send_128 : decode cX8_send 128 = .ok (.iinc 5 1, 3) := dk_132 (byr_X8_send_8 (j := 0) rfl) (byr_X8_send_8 (j := 1) rfl) (byr_X8_send_8 (j := 2) rfl) (by decide)
theorem dX8_send_131 : decode cX8_send 131 = .ok (.goto (-86), 3) := dk_167 (byr_X8_send_8 (j := 3) rfl) (byr_X8_send_8 (j := 4) rfl) (byr_X8_send_8 (j := 5) rfl) (by decide)
theorem dX8_send_134 : decode cX8_send 134 = .ok (.iload_n 3, 1) := dk_29 (byr_X8_send_8 (j := 6) rfl)
theorem dX8_send_135 : decode cX8_send 135 = .ok (.ifCond .ge 11, 3) := dk_156 (byr_X8_send_8 (j := 7) rfl) (byr_X8_send_8 (j := 8) rfl) (byr_X8_send_8 (j := 9) rfl) (by decide)
theorem dX8_send_138 : decode cX8_send 138 = .ok (.aload_n 0, 1) := dk_42 (byr_X8_send_8 (j := 10) rfl)
theorem dX8_send_139 : decode cX8_send 139 = .ok (.iconst 2, 1) := dk_5 (byr_X8_send_8 (j := 11) rfl)
theorem dX8_send_140 : decode cX8_send 140 = .ok (.invokevirtual 76, 3) := dk_182 (byr_X8_send_8 (j := 12) rfl) (byr_X8_send_8 (j := 13) rfl) (byr_X8_send_8 (j := 14) rfl) (by decide)
theorem dX8_send_143 : decode cX8_send 143 = .ok (.goto 4, 3) := dk_167 (byr_X8_send_8 (j := 15) rfl) (byr_X8_send_9 (j := 0) rfl) (byr_X8_send_9 (j := 1) rfl) (by decide)
theorem dX8_send_146 : decode cX8_send 146 = .ok (.iload_n 3, 1) := dk_29 (byr_X8_send_9 (j := 2) rfl)
theorem dX8_send_147 : decode cX8_send 147 = .ok (.ireturn, 1) := dk_172 (byr_X8_send_9 (j := 3) rfl)
set_option maxHeartbeats 4000000 in
set_option maxRecDepth 100000 in
theorem c_X8_send (l : Launch) (G : GT) (σ : Sto) (a1 : Int32) (r : (Int32 × Sto)) (h : f_X8_send σ a1 = some r) : MW l G (7) (181) 0 0 yX8_send cX8_send 7 (Option.some Jvm.ClassFile.FieldType.int) [.ref (gad G 0), .int a1] (wl G σ) (some (.int r.1)) (wl G r.2) := by
  refine mw_of RX8 (fiI G) [(0, .ref (gad G 0)), (1, .int a1)] (by decide +kernel) rfl (Nat.le_of_ble_eq_true rfl) rfl h rfl (fun p e s m args below meth c X hr hnm => ?_)
  have J128 : ∀ (r2 : Option Nat) (v3 : Int32) (v4 : Int32) (v5 : Int32) (K45 : Int32 → Int32 → Int32 → Sto → Option (Int32 × Sto)) (hK45 : ∀ (v3' : Int32) (v4' : Int32) (v5' : Int32) (σ' : Sto), Sm p l e { frames := 7, cells := 0, slots := 0, locals := 181 } s m args below meth c G 7 (Qm below args s G 0 0 (fiI G)) 0 0 (wl G σ') 45 [(0, .ref (gad G 0)), (2, va_re (gad G) r2), (3, .int v3'), (4, .int v4'), (5, .int v5')] [] (K45 v3' v4' v5' σ')) (σ : Sto), Sm p l e { frames := 7, cells := 0, slots := 0, locals := 181 } s m args below meth c G 7 (Qm below args s G 0 0 (fiI G)) 0 0 (wl G σ) 128 [(0, .ref (gad G 0)), (2, va_re (gad G) r2), (3, .int v3), (4, .int v4), (5, .int v5)] [] (f_X8_send_L128 K45 r2 v3 v4 v5 σ) := by
    intro r2 v3 v4 v5 K45 hK45 σ
    rw [f_X8_send_L128]
    refine sm_iinc X 131 4 (1 : Int32) [(5, .int (v5 + (1 : Int32))), (0, .ref (gad G 0)), (2, va_re (gad G) r2), (3, .int v3), (4, .int v4)] dX8_send_128 rfl rfl rfl (by decide) rfl ?_
    refine sm_goto X 45 dX8_send_131 (by decide) ?_
    exact sm_sub [1, 2, 3, 4, 0] rfl (hK45 v3 v4 (v5 + (1 : Int32)) σ)
  have J116 : ∀ (k2 : Nat) (hk2 : K0 k2 = 6) (v5 : Int32) (K45 : Int32 → Int32 → Int32 → Sto → Option (Int32 × Sto)) (hK45 : ∀ (v3' : Int32) (v4' : Int32) (v5' : Int32) (σ' : Sto), Sm p l e { frames := 7, cells := 0, slots := 0, locals := 181 } s m args below meth c G 7 (Qm below args s G 0 0 (fiI G)) 0 0 (wl G σ') 45 [(0, .ref (gad G 0)), (2, .ref (gad G k2)), (3, .int v3'), (4, .int v4'), (5, .int v5')] [] (K45 v3' v4' v5' σ')) (σ : Sto), Sm p l e { frames := 7, cells := 0, slots := 0, locals := 181 } s m args below meth c G 7 (Qm below args s G 0 0 (fiI G)) 0 0 (wl G σ) 116 [(0, .ref (gad G 0)), (2, .ref (gad G k2)), (5, .int v5)] [] (f_X8_send_L116 K45 k2 v5 σ) := by
    intro k2 hk2 v5 K45 hK45 σ
    rw [f_X8_send_L116]
    refine sm_iload X 118 2 dX8_send_116 rfl rfl ?_
    refine sm_istore_n X 119 [(3, .int v5), (0, .ref (gad G 0)), (2, .ref (gad G k2)), (5, .int v5)] dX8_send_118 rfl rfl (by decide) rfl ?_
    refine sm_aload_n X 120 1 dX8_send_119 rfl rfl rfl ?_
    refine sm_getf X 123 58 rfl fd_8_3 rfl dX8_send_120 rfl q_292 ?_
    refine sm_geti X 126 rfl fd_5_2 dX8_send_123 rfl q_190 ?_
    refine sm_istore X 128 [(4, .int (σ.1 58 2)), (3, .int v5), (0, .ref (gad G 0)), (2, .ref (gad G k2)), (5, .int v5)] dX8_send_126 rfl (by decide) rfl ?_
    exact sm_sub [2, 3, 1, 0, 4] rfl (J128 (some k2) v5 (σ.1 58 2) v5 K45 hK45 σ)
  have J45 : ∀ (r2 : Option Nat)  (n : Nat) (v3 : Int32) (v4 : Int32) (v5 : Int32) (σ : Sto), Sm p l e { frames := 7, cells := 0, slots := 0, locals := 181 } s m args below meth c G 7 (Qm below args s G 0 0 (fiI G)) 0 0 (wl G σ) 45 [(0, .ref (gad G 0)), (2, va_re (gad G) r2), (3, .int v3), (4, .int v4), (5, .int v5)] [] (f_X8_send_L45  r2 n v3 v4 v5 σ) := by
    intro r2 n
    induction n with
    | zero => intro v3 v4 v5 σ; rw [f_X8_send_L45]; exact sm_none
    | succ n ihl =>
      intro v3 v4 v5 σ
      rw [f_X8_send_L45]
      refine sm_iload X 47 4 dX8_send_45 rfl rfl ?_
      refine sm_bipush X 49 (8) dX8_send_47 rfl rfl ?_
      refine sm_icmp_ge X 52 134 dX8_send_49 rfl (by decide) (fun h49 => ?_) (fun h49 => ?_)
      · refine sm_iload_n X 135 2 dX8_send_134 rfl rfl rfl ?_
        refine sm_if_ge X 138 146 dX8_send_135 rfl (by decide) (fun h135 => ?_) (fun h135 => ?_)
        · refine sm_iload_n X 147 2 dX8_send_146 rfl rfl rfl ?_
          exact sm_iret X hr dX8_send_147 rfl
        · refine sm_aload_n X 139 0 dX8_send_138 rfl rfl rfl ?_
          refine sm_iconst X 140 (2) dX8_send_139 rfl rfl ?_
          refine sm_bind (fun r140 h140 => ?_)
          refine sm_callV0 X 143 [.int 2] [] [.int r140.1] (c_X8_refuse l G σ (2 : Int32) r140 h140) cw_X8_refuse q_332 qs_0 q_330 rfl (by decide) rfl rfl rfl rfl rfl (Nat.le_of_ble_eq_true rfl) ⟨Nat.le_of_ble_eq_true rfl, Nat.le_of_ble_eq_true rfl⟩ ⟨Nat.le_refl _, Nat.le_refl _⟩ dX8_send_140 rfl ?_
          refine sm_goto X 147 dX8_send_143 (by decide) ?_
          exact sm_iret X hr dX8_send_147 rfl
      · refine sm_aload_n X 53 0 dX8_send_52 rfl rfl rfl ?_
        refine sm_getf X 56 1 rfl fd_8_0 rfl dX8_send_53 rfl q_289 ?_
        refine sm_iload X 58 4 dX8_send_56 rfl rfl ?_
        refine sm_bind (fun r58 h58 => ?_)
        refine sm_callV0 X 61 [.int v5] [] [va_re (gad G) r58] (c_X0_swimmerAt l G σ 1 rfl v5 r58 h58) cw_X0_swimmerAt q_376 q_377 q_375 rfl (by decide) rfl rfl rfl rfl rfl (Nat.le_of_ble_eq_true rfl) ⟨Nat.le_of_ble_eq_true rfl, Nat.le_of_ble_eq_true rfl⟩ ⟨Nat.le_refl _, Nat.le_refl _⟩ dX8_send_58 rfl ?_
        refine sm_astoreq X 63 [(6, va_re (gad G) r58), (0, .ref (gad G 0)), (2, va_re (gad G) r2), (3, .int v3), (4, .int v4), (5, .int v5)] dX8_send_61 rfl (by decide) rfl ?_
        refine sm_aloadq X 65 0 dX8_send_63 rfl rfl ?_
        refine sm_aload_nq X 66 2 dX8_send_65 rfl rfl rfl ?_
        refine sm_bind (fun r66 h66 => ?_)
        refine sm_callS0 X 69 [va_re (gad G) r58, va_re (gad G) r2] [] [.int (b2i r66)] (c_X8_areUnlike l G σ r58 r2 r66 h66) cw_X8_areUnlike q_636 q_635 rfl rfl rfl (Nat.le_of_ble_eq_true rfl) ⟨Nat.le_of_ble_eq_true rfl, Nat.le_of_ble_eq_true rfl⟩ ⟨Nat.le_refl _, Nat.le_refl _⟩ dX8_send_66 rfl ?_
        refine sm_ifz_eq X 72 128 dX8_send_69 rfl (by decide) (fun h69 => ?_) (fun h69 => ?_)
        · refine sm_aload_n X 73 1 dX8_send_72 rfl rfl rfl ?_
          refine sm_getf X 76 58 rfl fd_8_3 rfl dX8_send_73 rfl q_292 ?_
          refine sm_aloadq X 78 0 dX8_send_76 rfl rfl ?_
          refine sm_aload_nq X 79 2 dX8_send_78 rfl rfl rfl ?_
          refine sm_aload_n X 80 1 dX8_send_79 rfl rfl rfl ?_
          refine sm_getf X 83 1 rfl fd_8_0 rfl dX8_send_80 rfl q_289 ?_
          refine sm_geti X 86 rfl fd_0_2 dX8_send_83 rfl q_94 ?_
          refine sm_deref (fun k86 h hk86 => ?_)
          subst h
          refine sm_deref (fun k86' h hk86' => ?_)
          subst h
          refine sm_bind (fun r86 h86 => ?_)
          refine sm_callV0 X 89 [.ref (gad G k86), .ref (gad G k86'), .int (σ.1 1 2)] [] [.int (b2i r86.1)] (c_X5_meets l G σ k86 hk86 k86' hk86' (σ.1 1 2) r86 h86) cw_X5_meets q_639 q_640 q_638 rfl (by decide) rfl rfl rfl rfl rfl (Nat.le_of_ble_eq_true rfl) ⟨Nat.le_of_ble_eq_true rfl, Nat.le_of_ble_eq_true rfl⟩ ⟨Nat.le_refl _, Nat.le_refl _⟩ dX8_send_86 rfl ?_
          refine sm_ifz_eq X 92 128 dX8_send_89 rfl (by decide) (fun h89 => ?_) (fun h89 => ?_)
          · refine sm_iload_n X 93 3 dX8_send_92 rfl rfl rfl ?_
            refine sm_if_lt X 96 116 dX8_send_93 rfl (by decide) (fun h93 => ?_) (fun h93 => ?_)
            · exact sm_sub [1, 2, 5] rfl (J116 k86' hk86' v5 (f_X8_send_L45  (some k86') n) ihl r86.2)
            · refine sm_aload X 98 0 dX8_send_96 rfl rfl ?_
              refine sm_geti X 101 hk86 fd_6_2 dX8_send_98 rfl q_68 ?_
              refine sm_aload_n X 102 1 dX8_send_101 rfl rfl rfl ?_
              refine sm_getf X 105 58 rfl fd_8_3 rfl dX8_send_102 rfl q_292 ?_
              refine sm_geti X 108 rfl fd_5_2 dX8_send_105 rfl q_190 ?_
              refine sm_iload X 110 4 dX8_send_108 rfl rfl ?_
              refine sm_bind (fun r110 h110 => ?_)
              refine sm_callS0 X 113 [.int (r86.2.1 k86 2), .int (r86.2.1 58 2), .int v4] [] [.int (b2i r110)] (c_X8_isBetter l G r86.2 (r86.2.1 k86 2) (r86.2.1 58 2) v4 r110 h110) cw_X8_isBetter q_709 q_730 rfl rfl rfl (Nat.le_of_ble_eq_true rfl) ⟨Nat.le_of_ble_eq_true rfl, Nat.le_of_ble_eq_true rfl⟩ ⟨Nat.le_refl _, Nat.le_refl _⟩ dX8_send_110 rfl ?_
              refine sm_ifz_eq X 116 128 dX8_send_113 rfl (by decide) (fun h113 => ?_) (fun h113 => ?_)
              · exact sm_sub [1, 2, 5] rfl (J116 k86' hk86' v5 (f_X8_send_L45  (some k86') n) ihl r86.2)
              · exact sm_sub [1, 2, 3, 4, 5] rfl (J128 (some k86') v3 v4 v5 (f_X8_send_L45  (some k86') n) ihl r86.2)
          · exact sm_sub [1, 2, 3, 4, 5] rfl (J128 (some k86') v3 v4 v5 (f_X8_send_L45  (some k86') n) ihl r86.2)
        · exact sm_sub [1, 2, 3, 4, 5] rfl (J128 r2 v3 v4 v5 (f_X8_send_L45  r2 n) ihl σ)
  unfold f_X8_send
  refine sm_aload_n X 1 0 dX8_send_0 rfl rfl rfl ?_
  refine sm_getf X 4 1 rfl fd_8_0 rfl dX8_send_1 rfl q_289 ?_
  refine sm_iload_n X 5 1 dX8_send_4 rfl rfl rfl ?_
  refine sm_bind (fun r5 h5 => ?_)
  refine sm_callV0 X 8 [.int a1] [] [va_re (gad G) r5] (c_X0_swimmerAt l G σ 1 rfl a1 r5 h5) cw_X0_swimmerAt q_376 q_377 q_375 rfl (by decide) rfl rfl rfl rfl rfl (Nat.le_of_ble_eq_true rfl) ⟨Nat.le_of_ble_eq_true rfl, Nat.le_of_ble_eq_true rfl⟩ ⟨Nat.le_refl _, Nat.le_refl _⟩ dX8_send_5 rfl ?_
  refine sm_astore_nq X 9 [(2, va_re (gad G) r5), (0, .ref (gad G 0)), (1, .int a1)] dX8_send_8 rfl rfl (by decide) rfl ?_
  refine sm_aload_nq X 10 0 dX8_send_9 rfl rfl rfl ?_
  refine sm_ifnonnull X 13 19 dX8_send_10 rfl (by decide) (fun hn => ?_) (fun k10 hn => ?_)
  · subst hn
    refine sm_aload_n X 14 1 dX8_send_13 rfl rfl rfl ?_
    refine sm_iconst X 15 (1) dX8_send_14 rfl rfl ?_
    refine sm_bind (fun r15 h15 => ?_)
    refine sm_callV0 X 18 [.int 1] [] [.int r15.1] (c_X8_refuse l G σ (1 : Int32) r15 h15) cw_X8_refuse q_332 qs_0 q_330 rfl (by decide) rfl rfl rfl rfl rfl (Nat.le_of_ble_eq_true rfl) ⟨Nat.le_of_ble_eq_true rfl, Nat.le_of_ble_eq_true rfl⟩ ⟨Nat.le_refl _, Nat.le_refl _⟩ dX8_send_15 rfl ?_
    exact sm_iret X hr dX8_send_18 rfl
  · subst hn
    refine sm_aload_n X 20 1 dX8_send_19 rfl rfl rfl ?_
    refine sm_getf X 23 58 rfl fd_8_3 rfl dX8_send_20 rfl q_292 ?_
    refine sm_aload_n X 24 1 dX8_send_23 rfl rfl rfl ?_
    refine sm_getf X 27 1 rfl fd_8_0 rfl dX8_send_24 rfl q_289 ?_
    refine sm_aload_n X 28 1 dX8_send_27 rfl rfl rfl ?_
    refine sm_getf X 31 1 rfl fd_8_0 rfl dX8_send_28 rfl q_289 ?_
    refine sm_geti X 34 rfl fd_0_1 dX8_send_31 rfl q_92 ?_
    refine sm_bind (fun r34 h34 => ?_)
    refine sm_callV0 X 37 [.ref (gad G 1), .int (σ.1 1 1)] [] [] (c_X5_feel l G σ 1 rfl (σ.1 1 1) r34 h34) cw_X5_feel q_603 q_604 q_602 rfl (by decide) rfl rfl rfl rfl rfl (Nat.le_of_ble_eq_true rfl) ⟨Nat.le_of_ble_eq_true rfl, Nat.le_of_ble_eq_true rfl⟩ ⟨Nat.le_refl _, Nat.le_refl _⟩ dX8_send_34 rfl ?_
    refine sm_iconst X 38 (-1) dX8_send_37 rfl rfl ?_
    refine sm_istore_n X 39 [(3, .int (-1)), (2, .ref (gad G k10)), (0, .ref (gad G 0)), (1, .int a1)] dX8_send_38 rfl rfl (by decide) rfl ?_
    refine sm_iconst X 40 (0) dX8_send_39 rfl rfl ?_
    refine sm_istore X 42 [(4, .int 0), (3, .int (-1)), (2, .ref (gad G k10)), (0, .ref (gad G 0)), (1, .int a1)] dX8_send_40 rfl (by decide) rfl ?_
    refine sm_iconst X 43 (0) dX8_send_42 rfl rfl ?_
    refine sm_istore X 45 [(5, .int 0), (4, .int 0), (3, .int (-1)), (2, .ref (gad G k10)), (0, .ref (gad G 0)), (1, .int a1)] dX8_send_43 rfl (by decide) rfl ?_
    exact sm_sub [4, 3, 2, 1, 0] rfl (J45 (some k10)  FU (-1 : Int32) (0 : Int32) (0 : Int32) r34)
def by_X8_diary_0 : List Nat := [42, 180, 0, 10, 27, 182, 0, 99, 58, 6, 42, 180, 0, 10, 28, 182]
def by_X8_diary_1 : List Nat := [0, 99, 58, 7, 25, 6, 25, 7, 184, 0, 175, 153, 0, 35, 29, 3]
def by_X8_diary_2 : List Nat := [16, 59, 184, 0, 72, 154, 0, 25, 21, 4, 3, 17, 4, 176, 184, 0]
def by_X8_diary_3 : List Nat := [72, 154, 0, 13, 21, 5, 3, 4, 184, 0, 72, 153, 0, 9, 42, 4]
def by_X8_diary_4 : List Nat := [182, 0, 76, 172, 42, 180, 0, 29, 42, 180, 0, 10, 42, 180, 0, 10]
def by_X8_diary_5 : List Nat := [180, 0, 83, 182, 0, 167, 3, 54, 8, 3, 54, 9, 3, 54, 10, 21]
def by_X8_diary_6 : List Nat := [10, 16, 6, 162, 0, 68, 42, 21, 10, 25, 6, 25, 7, 182, 0, 225]
def by_X8_diary_7 : List Nat := [153, 0, 49, 42, 180, 0, 29, 180, 0, 183, 29, 160, 0, 38, 42, 180]
def by_X8_diary_8 : List Nat := [0, 29, 180, 0, 186, 21, 4, 160, 0, 26, 21, 8, 154, 0, 14, 16]
def by_X8_diary_9 : List Nat := [10, 21, 10, 104, 21, 10, 96, 167, 0, 5, 21, 9, 54, 9, 132, 8]
def by_X8_diary_10 : List Nat := [1, 132, 10, 1, 167, 255, 187, 21, 5, 154, 0, 6, 21, 8, 172, 21]
def by_X8_diary_z : List Nat := [8, 154, 0, 11, 42, 5, 182, 0, 76, 167, 0, 5, 21, 9, 172]
def by_X8_diary : List (List Nat) := [by_X8_diary_0, by_X8_diary_1, by_X8_diary_2, by_X8_diary_3, by_X8_diary_4, by_X8_diary_5, by_X8_diary_6, by_X8_diary_7, by_X8_diary_8, by_X8_diary_9, by_X8_diary_10]
set_option maxRecDepth 100000 in
theorem byo_X8_diary : cX8_diary.data.toList.map UInt8.toNat = by_X8_diary.flatten ++ by_X8_diary_z := by decide +kernel
theorem byl_X8_diary : by_X8_diary.all (fun r => r.length == 16) = true := by decide +kernel
theorem byr_X8_diary_0 {j v : Nat} (h : by_X8_diary_0[j]? = some v) : RD cX8_diary (0 + j) v := rd_16 byo_X8_diary byl_X8_diary 0 rfl h
theorem byr_X8_diary_1 {j v : Nat} (h : by_X8_diary_1[j]? = some v) : RD cX8_diary (16 + j) v := rd_16 byo_X8_diary byl_X8_diary 1 rfl h
theorem byr_X8_diary_2 {j v : Nat} (h : by_X8_diary_2[j]? = some v) : RD cX8_diary (32 + j) v := rd_16 byo_X8_diary byl_X8_diary 2 rfl h
theorem byr_X8_diary_3 {j v : Nat} (h : by_X8_diary_3[j]? = some v) : RD cX8_diary (48 + j) v := rd_16 byo_X8_diary byl_X8_diary 3 rfl h
theorem byr_X8_diary_4 {j v : Nat} (h : by_X8_diary_4[j]? = some v) : RD cX8_diary (64 + j) v := rd_16 byo_X8_diary byl_X8_diary 4 rfl h
theorem byr_X8_diary_5 {j v : Nat} (h : by_X8_diary_5[j]? = some v) : RD cX8_diary (80 + j) v := rd_16 byo_X8_diary byl_X8_diary 5 rfl h
theorem byr_X8_diary_6 {j v : Nat} (h : by_X8_diary_6[j]? = some v) : RD cX8_diary (96 + j) v := rd_16 byo_X8_diary byl_X8_diary 6 rfl h
theorem byr_X8_diary_7 {j v : Nat} (h : by_X8_diary_7[j]? = some v) : RD cX8_diary (112 + j) v := rd_16 byo_X8_diary byl_X8_diary 7 rfl h
theorem byr_X8_diary_8 {j v : Nat} (h : by_X8_diary_8[j]? = some v) : RD cX8_diary (128 + j) v := rd_16 byo_X8_diary byl_X8_diary 8 rfl h
theorem byr_X8_diary_9 {j v : Nat} (h : by_X8_diary_9[j]? = some v) : RD cX8_diary (144 + j) v := rd_16 byo_X8_diary byl_X8_diary 9 rfl h
theorem byr_X8_diary_10 {j v : Nat} (h : by_X8_diary_10[j]? = some v) : RD cX8_diary (160 + j) v := rd_16 byo_X8_diary byl_X8_diary 10 rfl h
theorem byr_X8_diary_11 {j v : Nat} (h : by_X8_diary_z[j]? = some v) : RD cX8_diary (176 + j) v := rd_z byo_X8_diary byl_X8_diary 11 rfl h
theorem dX8_diary_0 : decode cX8_diary 0 = .ok (.aload_n 0, 1) := dk_42 (byr_X8_diary_0 (j := 0) rfl)
theorem dX8_diary_1 : decode cX8_diary 1 = .ok (.getfield 10, 3) := dk_180 (byr_X8_diary_0 (j := 1) rfl) (byr_X8_diary_0 (j := 2) rfl) (byr_X8_diary_0 (j := 3) rfl) (by decide)
theorem dX8_diary_4 : decode cX8_diary 4 = .ok (.iload_n 1, 1) := dk_27 (byr_X8_diary_0 (j := 4) rfl)
theorem dX8_diary_5 : decode cX8_diary 5 = .ok (.invokevirtual 99, 3) := dk_182 (byr_X8_diary_0 (j := 5) rfl) (byr_X8_diary_0 (j := 6) rfl) (byr_X8_diary_0 (j := 7) rfl) (by decide)
theorem dX8_diary_8 : decode cX8_diary 8 = .ok (.astore 6, 2) := dk_58 (byr_X8_diary_0 (j := 8) rfl) (byr_X8_diary_0 (j := 9) rfl)
theorem dX8_diary_10 : decode cX8_diary 10 = .ok (.aload_n 0, 1) := dk_42 (byr_X8_diary_0 (j := 10) rfl)
theorem dX8_diary_11 : decode cX8_diary 11 = .ok (.getfield 10, 3) := dk_180 (byr_X8_diary_0 (j := 11) rfl) (byr_X8_diary_0 (j := 12) rfl) (byr_X8_diary_0 (j := 13) rfl) (by decide)
theorem dX8_diary_14 : decode cX8_diary 14 = .ok (.iload_n 2, 1) := dk_28 (byr_X8_diary_0 (j := 14) rfl)
theorem dX8_diary_15 : decode cX8_diary 15 = .ok (.invokevirtual 99, 3) := dk_182 (byr_X8_diary_0 (j := 15) rfl) (byr_X8_diary_1 (j := 0) rfl) (byr_X8_diary_1 (j := 1) rfl) (by decide)
theorem dX8_diary_18 : decode cX8_diary 18 = .ok (.astore 7, 2) := dk_58 (byr_X8_diary_1 (j := 2) rfl) (byr_X8_diary_1 (j := 3) rfl)
theorem dX8_diary_20 : decode cX8_diary 20 = .ok (.aload 6, 2) := dk_25 (byr_X8_diary_1 (j := 4) rfl) (byr_X8_diary_1 (j := 5) rfl)
theorem dX8_diary_22 : decode cX8_diary 22 = .ok (.aload 7, 2) := dk_25 (byr_X8_diary_1 (j := 6) rfl) (byr_X8_diary_1 (j := 7) rfl)
theorem dX8_diary_24 : decode cX8_diary 24 = .ok (.invokestatic 175, 3) := dk_184 (byr_X8_diary_1 (j := 8) rfl) (byr_X8_diary_1 (j := 9) rfl) (byr_X8_diary_1 (j := 10) rfl) (by decide)
theorem dX8_diary_27 : decode cX8_diary 27 = .ok (.ifCond .eq 35, 3) := dk_153 (byr_X8_diary_1 (j := 11) rfl) (byr_X8_diary_1 (j := 12) rfl) (byr_X8_diary_1 (j := 13) rfl) (by decide)
theorem dX8_diary_30 : decode cX8_diary 30 = .ok (.iload_n 3, 1) := dk_29 (byr_X8_diary_1 (j := 14) rfl)
theorem dX8_diary_31 : decode cX8_diary 31 = .ok (.iconst 0, 1) := dk_3 (byr_X8_diary_1 (j := 15) rfl)
theorem dX8_diary_32 : decode cX8_diary 32 = .ok (.bipush 59, 2) := dk_16 (byr_X8_diary_2 (j := 0) rfl) (byr_X8_diary_2 (j := 1) rfl) (by decide)
theorem dX8_diary_34 : decode cX8_diary 34 = .ok (.invokestatic 72, 3) := dk_184 (byr_X8_diary_2 (j := 2) rfl) (byr_X8_diary_2 (j := 3) rfl) (byr_X8_diary_2 (j := 4) rfl) (by decide)
theorem dX8_diary_37 : decode cX8_diary 37 = .ok (.ifCond .ne 25, 3) := dk_154 (byr_X8_diary_2 (j := 5) rfl) (byr_X8_diary_2 (j := 6) rfl) (byr_X8_diary_2 (j := 7) rfl) (by decide)
theorem dX8_diary_40 : decode cX8_diary 40 = .ok (.iload 4, 2) := dk_21 (byr_X8_diary_2 (j := 8) rfl) (byr_X8_diary_2 (j := 9) rfl)
theorem dX8_diary_42 : decode cX8_diary 42 = .ok (.iconst 0, 1) := dk_3 (byr_X8_diary_2 (j := 10) rfl)
theorem dX8_diary_43 : decode cX8_diary 43 = .ok (.sipush 1200, 3) := dk_17 (byr_X8_diary_2 (j := 11) rfl) (byr_X8_diary_2 (j := 12) rfl) (byr_X8_diary_2 (j := 13) rfl) (by decide)
theorem dX8_diary_46 : decode cX8_diary 46 = .ok (.invokestatic 72, 3) := dk_184 (byr_X8_diary_2 (j := 14) rfl) (byr_X8_diary_2 (j := 15) rfl) (byr_X8_diary_3 (j := 0) rfl) (by decide)
theorem dX8_diary_49 : decode cX8_diary 49 = .ok (.ifCond .ne 13, 3) := dk_154 (byr_X8_diary_3 (j := 1) rfl) (byr_X8_diary_3 (j := 2) rfl) (byr_X8_diary_3 (j := 3) rfl) (by decide)
theorem dX8_diary_52 : decode cX8_diary 52 = .ok (.iload 5, 2) := dk_21 (byr_X8_diary_3 (j := 4) rfl) (byr_X8_diary_3 (j := 5) rfl)
theorem dX8_diary_54 : decode cX8_diary 54 = .ok (.iconst 0, 1) := dk_3 (byr_X8_diary_3 (j := 6) rfl)
theorem dX8_diary_55 : decode cX8_diary 55 = .ok (.iconst 1, 1) := dk_4 (byr_X8_diary_3 (j := 7) rfl)
theorem dX8_diary_56 : decode cX8_diary 56 = .ok (.invokestatic 72, 3) := dk_184 (byr_X8_diary_3 (j := 8) rfl) (byr_X8_diary_3 (j := 9) rfl) (byr_X8_diary_3 (j := 10) rfl) (by decide)
theorem dX8_diary_59 : decode cX8_diary 59 = .ok (.ifCond .eq 9, 3) := dk_153 (byr_X8_diary_3 (j := 11) rfl) (byr_X8_diary_3 (j := 12) rfl) (byr_X8_diary_3 (j := 13) rfl) (by decide)
theorem dX8_diary_62 : decode cX8_diary 62 = .ok (.aload_n 0, 1) := dk_42 (byr_X8_diary_3 (j := 14) rfl)
theorem dX8_diary_63 : decode cX8_diary 63 = .ok (.iconst 1, 1) := dk_4 (byr_X8_diary_3 (j := 15) rfl)
theorem dX8_diary_64 : decode cX8_diary 64 = .ok (.invokevirtual 76, 3) := dk_182 (byr_X8_diary_4 (j := 0) rfl) (byr_X8_diary_4 (j := 1) rfl) (byr_X8_diary_4 (j := 2) rfl) (by decide)
theorem dX8_diary_67 : decode cX8_diary 67 = .ok (.ireturn, 1) := dk_172 (byr_X8_diary_4 (j := 3) rfl)
theorem dX8_diary_68 : decode cX8_diary 68 = .ok (.aload_n 0, 1) := dk_42 (byr_X8_diary_4 (j := 4) rfl)
theorem dX8_diary_69 : decode cX8_diary 69 = .ok (.getfield 29, 3) := dk_180 (byr_X8_diary_4 (j := 5) rfl) (byr_X8_diary_4 (j := 6) rfl) (byr_X8_diary_4 (j := 7) rfl) (by decide)
theorem dX8_diary_72 : decode cX8_diary 72 = .ok (.aload_n 0, 1) := dk_42 (byr_X8_diary_4 (j := 8) rfl)
theorem dX8_diary_73 : decode cX8_diary 73 = .ok (.getfield 10, 3) := dk_180 (byr_X8_diary_4 (j := 9) rfl) (byr_X8_diary_4 (j := 10) rfl) (byr_X8_diary_4 (j := 11) rfl) (by decide)
theorem dX8_diary_76 : decode cX8_diary 76 = .ok (.aload_n 0, 1) := dk_42 (byr_X8_diary_4 (j := 12) rfl)
theorem dX8_diary_77 : decode cX8_diary 77 = .ok (.getfield 10, 3) := dk_180 (byr_X8_diary_4 (j := 13) rfl) (byr_X8_diary_4 (j := 14) rfl) (byr_X8_diary_4 (j := 15) rfl) (by decide)
theorem dX8_diary_80 : decode cX8_diary 80 = .ok (.getfield 83, 3) := dk_180 (byr_X8_diary_5 (j := 0) rfl) (byr_X8_diary_5 (j := 1) rfl) (byr_X8_diary_5 (j := 2) rfl) (by decide)
theorem dX8_diary_83 : decode cX8_diary 83 = .ok (.invokevirtual 167, 3) := dk_182 (byr_X8_diary_5 (j := 3) rfl) (byr_X8_diary_5 (j := 4) rfl) (byr_X8_diary_5 (j := 5) rfl) (by decide)
theorem dX8_diary_86 : decode cX8_diary 86 = .ok (.iconst 0, 1) := dk_3 (byr_X8_diary_5 (j := 6) rfl)
theorem dX8_diary_87 : decode cX8_diary 87 = .ok (.istore 8, 2) := dk_54 (byr_X8_diary_5 (j := 7) rfl) (byr_X8_diary_5 (j := 8) rfl)
theorem dX8_diary_89 : decode cX8_diary 89 = .ok (.iconst 0, 1) := dk_3 (byr_X8_diary_5 (j := 9) rfl)
theorem dX8_diary_90 : decode cX8_diary 90 = .ok (.istore 9, 2) := dk_54 (byr_X8_diary_5 (j := 10) rfl) (byr_X8_diary_5 (j := 11) rfl)
theorem dX8_diary_92 : decode cX8_diary 92 = .ok (.iconst 0, 1) := dk_3 (byr_X8_diary_5 (j := 12) rfl)
theorem dX8_diary_93 : decode cX8_diary 93 = .ok (.istore 10, 2) := dk_54 (byr_X8_diary_5 (j := 13) rfl) (byr_X8_diary_5 (j := 14) rfl)
theorem dX8_diary_95 : decode cX8_diary 95 = .ok (.iload 10, 2) := dk_21 (byr_X8_diary_5 (j := 15) rfl) (byr_X8_diary_6 (j := 0) rfl)
theorem dX8_diary_97 : decode cX8_diary 97 = .ok (.bipush 6, 2) := dk_16 (byr_X8_diary_6 (j := 1) rfl) (byr_X8_diary_6 (j := 2) rfl) (by decide)
theorem dX8_diary_99 : decode cX8_diary 99 = .ok (.if_icmp .ge 68, 3) := dk_162 (byr_X8_diary_6 (j := 3) rfl) (byr_X8_diary_6 (j := 4) rfl) (byr_X8_diary_6 (j := 5) rfl) (by decide)
theorem dX8_diary_102 : decode cX8_diary 102 = .ok (.aload_n 0, 1) := dk_42 (byr_X8_diary_6 (j := 6) rfl)
theorem dX8_diary_103 : decode cX8_diary 103 = .ok (.iload 10, 2) := dk_21 (byr_X8_diary_6 (j := 7) rfl) (byr_X8_diary_6 (j := 8) rfl)
theorem dX8_diary_105 : decode cX8_diary 105 = .ok (.aload 6, 2) := dk_25 (byr_X8_diary_6 (j := 9) rfl) (byr_X8_diary_6 (j := 10) rfl)
theorem dX8_diary_107 : decode cX8_diary 107 = .ok (.aload 7, 2) := dk_25 (byr_X8_diary_6 (j := 11) rfl) (byr_X8_diary_6 (j := 12) rfl)
theorem dX8_diary_109 : decode cX8_diary 109 = .ok (.invokevirtual 225, 3) := dk_182 (byr_X8_diary_6 (j := 13) rfl) (byr_X8_diary_6 (j := 14) rfl) (byr_X8_diary_6 (j := 15) rfl) (by decide)
theorem dX8_diary_112 : decode cX8_diary 112 = .ok (.ifCond .eq 49, 3) := dk_153 (byr_X8_diary_7 (j := 0) rfl) (byr_X8_diary_7 (j := 1) rfl) (byr_X8_diary_7 (j := 2) rfl) (by decide)
theorem dX8_diary_115 : decode cX8_diary 115 = .ok (.aload_n 0, 1) := dk_42 (byr_X8_diary_7 (j := 3) rfl)
theorem dX8_diary_116 : decode cX8_diary 116 = .ok (.getfield 29, 3) := dk_180 (byr_X8_diary_7 (j := 4) rfl) (byr_X8_diary_7 (j := 5) rfl) (byr_X8_diary_7 (j := 6) rfl) (by decide)
theorem dX8_diary_119 : decode cX8_diary 119 = .ok (.getfield 183, 3) := dk_180 (byr_X8_diary_7 (j := 7) rfl) (byr_X8_diary_7 (j := 8) rfl) (byr_X8_diary_7 (j := 9) rfl) (by decide)
theorem dX8_diary_122 : decode cX8_diary 122 = .ok (.iload_n 3, 1) := dk_29 (byr_X8_diary_7 (j := 10) rfl)
theorem dX8_diary_123 : decode cX8_diary 123 = .ok (.if_icmp .ne 38, 3) := dk_160 (byr_X8_diary_7 (j := 11) rfl) (byr_X8_diary_7 (j := 12) rfl) (byr_X8_diary_7 (j := 13) rfl) (by decide)
theorem dX8_diary_126 : decode cX8_diary 126 = .ok (.aload_n 0, 1) := dk_42 (byr_X8_diary_7 (j := 14) rfl)
theorem dX8_diary_127 : decode cX8_diary 127 = .ok (.getfield 29, 3) := dk_180 (byr_X8_diary_7 (j := 15) rfl) (byr_X8_diary_8 (j := 0) rfl) (byr_X8_diary_8 (j := 1) rfl) (by decide)
theorem dX8_diary_130 : decode cX8_diary 130 = .ok (.getfield 186, 3) := dk_180 (byr_X8_diary_8 (j := 2) rfl) (byr_X8_diary_8 (j := 3) rfl) (byr_X8_diary_8 (j := 4) rfl) (by decide)
theorem dX8_diary_133 : decode cX8_diary 133 = .ok (.iload 4, 2) := dk_21 (byr_X8_diary_8 (j := 5) rfl) (byr_X8_diary_8 (j := 6) rfl)
theorem dX8_diary_135 : decode cX8_diary 135 = .ok (.if_icmp .ne 26, 3) := dk_160 (byr_X8_diary_8 (j := 7) rfl) (byr_X8_diary_8 (j := 8) rfl) (byr_X8_diary_8 (j := 9) rfl) (by decide)
theorem dX8_diary_138 : decode cX8_diary 138 = .ok (.iload 8, 2) := dk_21 (byr_X8_diary_8 (j := 10) rfl) (byr_X8_diary_8 (j := 11) rfl)
theorem dX8_diary_140 : decode cX8_diary 140 = .ok (.ifCond .ne 14, 3) := dk_154 (byr_X8_diary_8 (j := 12) rfl) (byr_X8_diary_8 (j := 13) rfl) (byr_X8_diary_8 (j := 14) rfl) (by decide)
theorem dX8_diary_143 : decode cX8_diary 143 = .ok (.bipush 10, 2) := dk_16 (byr_X8_diary_8 (j := 15) rfl) (byr_X8_diary_9 (j := 0) rfl) (by decide)
theorem dX8_diary_145 : decode cX8_diary 145 = .ok (.iload 10, 2) := dk_21 (byr_X8_diary_9 (j := 1) rfl) (byr_X8_diary_9 (j := 2) rfl)
theorem dX8_diary_147 : decode cX8_diary 147 = .ok (.imul, 1) := dk_104 (byr_X8_diary_9 (j := 3) rfl)
theorem dX8_diary_148 : decode cX8_diary 148 = .ok (.iload 10, 2) := dk_21 (byr_X8_diary_9 (j := 4) rfl) (byr_X8_diary_9 (j := 5) rfl)
theorem dX8_diary_150 : decode cX8_diary 150 = .ok (.iadd, 1) := dk_96 (byr_X8_diary_9 (j := 6) rfl)
theorem dX8_diary_151 : decode cX8_diary 151 = .ok (.goto 5, 3) := dk_167 (byr_X8_diary_9 (j := 7) rfl) (byr_X8_diary_9 (j := 8) rfl) (byr_X8_diary_9 (j := 9) rfl) (by decide)
theorem dX8_diary_154 : decode cX8_diary 154 = .ok (.iload 9, 2) := dk_21 (byr_X8_diary_9 (j := 10) rfl) (byr_X8_diary_9 (j := 11) rfl)
theorem dX8_diary_156 : decode cX8_diary 156 = .ok (.istore 9, 2) := dk_54 (byr_X8_diary_9 (j := 12) rfl) (byr_X8_diary_9 (j := 13) rfl)
theorem dX8_diary_158 : decode cX8_diary 158 = .ok (.iinc 8 1, 3) := dk_132 (byr_X8_diary_9 (j := 14) rfl) (byr_X8_diary_9 (j := 15) rfl) (byr_X8_diary_10 (j := 0) rfl) (by decide)
theorem dX8_diary_161 : decode cX8_diary 161 = .ok (.iinc 10 1, 3) := dk_132 (byr_X8_diary_10 (j := 1) rfl) (byr_X8_diary_10 (j := 2) rfl) (byr_X8_diary_10 (j := 3) rfl) (by decide)
theorem dX8_diary_164 : decode cX8_diary 164 = .ok (.goto (-69), 3) := dk_167 (byr_X8_diary_10 (j := 4) rfl) (byr_X8_diary_10 (j := 5) rfl) (byr_X8_diary_10 (j := 6) rfl) (by decide)
theorem dX8_diary_167 : decode cX8_diary 167 = .ok (.iload 5, 2) := dk_21 (byr_X8_diary_10 (j := 7) rfl) (byr_X8_diary_10 (j := 8) rfl)
theorem dX8_diary_169 : decode cX8_diary 169 = .ok (.ifCond .ne 6, 3) := dk_154 (byr_X8_diary_10 (j := 9) rfl) (byr_X8_diary_10 (j := 10) rfl) (byr_X8_diary_10 (j := 11) rfl) (by decide)
theorem dX8_diary_172 : decode cX8_diary 172 = .ok (.iload 8, 2) := dk_21 (byr_X8_diary_10 (j := 12) rfl) (byr_X8_diary_10 (j := 13) rfl)
theorem dX8_diary_174 : decode cX8_diary 174 = .ok (.ireturn, 1) := dk_172 (byr_X8_diary_10 (j := 14) rfl)
theorem dX8_diary_175 : decode cX8_diary 175 = .ok (.iload 8, 2) := dk_21 (byr_X8_diary_10 (j := 15) rfl) (byr_X8_diary_11 (j := 0) rfl)
theorem dX8_diary_177 : decode cX8_diary 177 = .ok (.ifCond .ne 11, 3) := dk_154 (byr_X8_diary_11 (j := 1) rfl) (byr_X8_diary_11 (j := 2) rfl) (byr_X8_diary_11 (j := 3) rfl) (by decide)
theorem dX8_diary_180 : decode cX8_diary 180 = .ok (.aload_n 0, 1) := dk_42 (byr_X8_diary_11 (j := 4) rfl)
theorem dX8_diary_181 : decode cX8_diary 181 = .ok (.iconst 2, 1) := dk_5 (byr_X8_diary_11 (j := 5) rfl)
theorem dX8_diary_182 : decode cX8_diary 182 = .ok (.invokevirtual 76, 3) := dk_182 (byr_X8_diary_11 (j := 6) rfl) (byr_X8_diary_11 (j := 7) rfl) (byr_X8_diary_11 (j := 8) rfl) (by decide)
theorem dX8_diary_185 : decode cX8_diary 185 = .ok (.goto 5, 3) := dk_167 (byr_X8_diary_11 (j := 9) rfl) (byr_X8_diary_11 (j := 10) rfl) (byr_X8_diary_11 (j := 11) rfl) (by decide)
theorem dX8_diary_188 : decode cX8_diary 188 = .ok (.iload 9, 2) := dk_21 (byr_X8_diary_11 (j := 12) rfl) (byr_X8_diary_11 (j := 13) rfl)
theorem dX8_diary_190 : decode cX8_diary 190 = .ok (.ireturn, 1) := dk_172 (byr_X8_diary_11 (j := 14) rfl)
set_option maxHeartbeats 4000000 in
set_option maxRecDepth 100000 in
theorem c_X8_diary (l : Launch) (G : GT) (σ : Sto) (a1 : Int32) (a2 : Int32) (a3 : Int32) (a4 : Int32) (a5 : Int32) (r : (Int32 × Sto)) (h : f_X8_diary σ a1 a2 a3 a4 a5 = some r) : MW l G (7) (181) 0 0 yX8_diary cX8_diary 11 (Option.some Jvm.ClassFile.FieldType.int) [.ref (gad G 0), .int a1, .int a2, .int a3, .int a4, .int a5] (wl G σ) (some (.int r.1)) (wl G r.2) := by
  refine mw_of RX8 (fiI G) [(0, .ref (gad G 0)), (1, .int a1), (2, .int a2), (3, .int a3), (4, .int a4), (5, .int a5)] (by decide +kernel) rfl (Nat.le_of_ble_eq_true rfl) rfl h rfl (fun p e s m args below meth c X hr hnm => ?_)
  have J161 : ∀ (v3 : Int32) (v4 : Int32) (v5 : Int32) (k6 : Nat) (hk6 : K0 k6 = 6) (k7 : Nat) (hk7 : K0 k7 = 6) (v8 : Int32) (v9 : Int32) (v10 : Int32) (K95 : Int32 → Int32 → Int32 → Sto → Option (Int32 × Sto)) (hK95 : ∀ (v8' : Int32) (v9' : Int32) (v10' : Int32) (σ' : Sto), Sm p l e { frames := 7, cells := 0, slots := 0, locals := 181 } s m args below meth c G 11 (Qm below args s G 0 0 (fiI G)) 0 0 (wl G σ') 95 [(0, .ref (gad G 0)), (3, .int v3), (4, .int v4), (5, .int v5), (6, .ref (gad G k6)), (7, .ref (gad G k7)), (8, .int v8'), (9, .int v9'), (10, .int v10')] [] (K95 v8' v9' v10' σ')) (σ : Sto), Sm p l e { frames := 7, cells := 0, slots := 0, locals := 181 } s m args below meth c G 11 (Qm below args s G 0 0 (fiI G)) 0 0 (wl G σ) 161 [(0, .ref (gad G 0)), (3, .int v3), (4, .int v4), (5, .int v5), (6, .ref (gad G k6)), (7, .ref (gad G k7)), (8, .int v8), (9, .int v9), (10, .int v10)] [] (f_X8_diary_L161 K95 v3 v4 v5 k6 k7 v8 v9 v10 σ) := by
    intro v3 v4 v5 k6 hk6 k7 hk7 v8 v9 v10 K95 hK95 σ
    rw [f_X8_diary_L161]
    refine sm_iinc X 164 8 (1 : Int32) [(10, .int (v10 + (1 : Int32))), (0, .ref (gad G 0)), (3, .int v3), (4, .int v4), (5, .int v5), (6, .ref (gad G k6)), (7, .ref (gad G k7)), (8, .int v8), (9, .int v9)] dX8_diary_161 rfl rfl rfl (by decide) rfl ?_
    refine sm_goto X 95 dX8_diary_164 (by decide) ?_
    exact sm_sub [1, 2, 3, 4, 5, 6, 7, 8, 0] rfl (hK95 v8 v9 (v10 + (1 : Int32)) σ)
  have J156 : ∀ (v3 : Int32) (v4 : Int32) (v5 : Int32) (k6 : Nat) (hk6 : K0 k6 = 6) (k7 : Nat) (hk7 : K0 k7 = 6) (v8 : Int32) (v10 : Int32) (vs0 : Int32) (K95 : Int32 → Int32 → Int32 → Sto → Option (Int32 × Sto)) (hK95 : ∀ (v8' : Int32) (v9' : Int32) (v10' : Int32) (σ' : Sto), Sm p l e { frames := 7, cells := 0, slots := 0, locals := 181 } s m args below meth c G 11 (Qm below args s G 0 0 (fiI G)) 0 0 (wl G σ') 95 [(0, .ref (gad G 0)), (3, .int v3), (4, .int v4), (5, .int v5), (6, .ref (gad G k6)), (7, .ref (gad G k7)), (8, .int v8'), (9, .int v9'), (10, .int v10')] [] (K95 v8' v9' v10' σ')) (σ : Sto), Sm p l e { frames := 7, cells := 0, slots := 0, locals := 181 } s m args below meth c G 11 (Qm below args s G 0 0 (fiI G)) 0 0 (wl G σ) 156 [(0, .ref (gad G 0)), (3, .int v3), (4, .int v4), (5, .int v5), (6, .ref (gad G k6)), (7, .ref (gad G k7)), (8, .int v8), (10, .int v10)] [.int vs0] (f_X8_diary_L156 K95 v3 v4 v5 k6 k7 v8 v10 vs0 σ) := by
    intro v3 v4 v5 k6 hk6 k7 hk7 v8 v10 vs0 K95 hK95 σ
    rw [f_X8_diary_L156]
    refine sm_istore X 158 [(9, .int vs0), (0, .ref (gad G 0)), (3, .int v3), (4, .int v4), (5, .int v5), (6, .ref (gad G k6)), (7, .ref (gad G k7)), (8, .int v8), (10, .int v10)] dX8_diary_156 rfl (by decide) rfl ?_
    refine sm_iinc X 161 7 (1 : Int32) [(8, .int (v8 + (1 : Int32))), (9, .int vs0), (0, .ref (gad G 0)), (3, .int v3), (4, .int v4), (5, .int v5), (6, .ref (gad G k6)), (7, .ref (gad G k7)), (10, .int v10)] dX8_diary_158 rfl rfl rfl (by decide) rfl ?_
    exact sm_sub [2, 3, 4, 5, 6, 7, 0, 1, 8] rfl (J161 v3 v4 v5 k6 hk6 k7 hk7 (v8 + (1 : Int32)) vs0 v10 K95 hK95 σ)
  have J95 : ∀ (v3 : Int32) (v4 : Int32) (v5 : Int32) (r6 : Option Nat) (r7 : Option Nat)  (n : Nat) (v8 : Int32) (v9 : Int32) (v10 : Int32) (σ : Sto), Sm p l e { frames := 7, cells := 0, slots := 0, locals := 181 } s m args below meth c G 11 (Qm below args s G 0 0 (fiI G)) 0 0 (wl G σ) 95 [(0, .ref (gad G 0)), (3, .int v3), (4, .int v4), (5, .int v5), (6, va_re (gad G) r6), (7, va_re (gad G) r7), (8, .int v8), (9, .int v9), (10, .int v10)] [] (f_X8_diary_L95  v3 v4 v5 r6 r7 n v8 v9 v10 σ) := by
    intro v3 v4 v5 r6 r7 n
    induction n with
    | zero => intro v8 v9 v10 σ; rw [f_X8_diary_L95]; exact sm_none
    | succ n ihl =>
      intro v8 v9 v10 σ
      rw [f_X8_diary_L95]
      refine sm_iload X 97 8 dX8_diary_95 rfl rfl ?_
      refine sm_bipush X 99 (6) dX8_diary_97 rfl rfl ?_
      refine sm_icmp_ge X 102 167 dX8_diary_99 rfl (by decide) (fun h99 => ?_) (fun h99 => ?_)
      · refine sm_iload X 169 3 dX8_diary_167 rfl rfl ?_
        refine sm_if_ne X 172 175 dX8_diary_169 rfl (by decide) (fun h169 => ?_) (fun h169 => ?_)
        · refine sm_iload X 174 6 dX8_diary_172 rfl rfl ?_
          exact sm_iret X hr dX8_diary_174 rfl
        · refine sm_iload X 177 6 dX8_diary_175 rfl rfl ?_
          refine sm_if_ne X 180 188 dX8_diary_177 rfl (by decide) (fun h177 => ?_) (fun h177 => ?_)
          · refine sm_aload_n X 181 0 dX8_diary_180 rfl rfl rfl ?_
            refine sm_iconst X 182 (2) dX8_diary_181 rfl rfl ?_
            refine sm_bind (fun r182 h182 => ?_)
            refine sm_callV0 X 185 [.int 2] [] [.int r182.1] (c_X8_refuse l G σ (2 : Int32) r182 h182) cw_X8_refuse q_332 qs_0 q_330 rfl (by decide) rfl rfl rfl rfl rfl (Nat.le_of_ble_eq_true rfl) ⟨Nat.le_of_ble_eq_true rfl, Nat.le_of_ble_eq_true rfl⟩ ⟨Nat.le_refl _, Nat.le_refl _⟩ dX8_diary_182 rfl ?_
            refine sm_goto X 190 dX8_diary_185 (by decide) ?_
            exact sm_iret X hr dX8_diary_190 rfl
          · refine sm_iload X 190 7 dX8_diary_188 rfl rfl ?_
            exact sm_iret X hr dX8_diary_190 rfl
      · refine sm_aload_n X 103 0 dX8_diary_102 rfl rfl rfl ?_
        refine sm_iload X 105 8 dX8_diary_103 rfl rfl ?_
        refine sm_aloadq X 107 4 dX8_diary_105 rfl rfl ?_
        refine sm_aloadq X 109 5 dX8_diary_107 rfl rfl ?_
        refine sm_deref (fun k109 h hk109 => ?_)
        subst h
        refine sm_deref (fun k109' h hk109' => ?_)
        subst h
        refine sm_bind (fun r109 h109 => ?_)
        refine sm_callV0 X 112 [.int v10, .ref (gad G k109), .ref (gad G k109')] [] [.int (b2i r109.1)] (c_X8_meetInLane l G σ v10 k109 hk109 k109' hk109' r109 h109) cw_X8_meetInLane q_726 qs_22 q_724 rfl (by decide) rfl rfl rfl rfl rfl (Nat.le_of_ble_eq_true rfl) ⟨Nat.le_of_ble_eq_true rfl, Nat.le_of_ble_eq_true rfl⟩ ⟨Nat.le_refl _, Nat.le_refl _⟩ dX8_diary_109 rfl ?_
        refine sm_ifz_eq X 115 161 dX8_diary_112 rfl (by decide) (fun h112 => ?_) (fun h112 => ?_)
        · refine sm_aload_n X 116 0 dX8_diary_115 rfl rfl rfl ?_
          refine sm_getf X 119 58 rfl fd_8_3 rfl dX8_diary_116 rfl q_292 ?_
          refine sm_geti X 122 rfl fd_5_1 dX8_diary_119 rfl q_188 ?_
          refine sm_iload_n X 123 1 dX8_diary_122 rfl rfl rfl ?_
          refine sm_icmp_ne X 126 161 dX8_diary_123 rfl (by decide) (fun h123 => ?_) (fun h123 => ?_)
          · refine sm_aload_n X 127 0 dX8_diary_126 rfl rfl rfl ?_
            refine sm_getf X 130 58 rfl fd_8_3 rfl dX8_diary_127 rfl q_292 ?_
            refine sm_geti X 133 rfl fd_5_2 dX8_diary_130 rfl q_190 ?_
            refine sm_iload X 135 2 dX8_diary_133 rfl rfl ?_
            refine sm_icmp_ne X 138 161 dX8_diary_135 rfl (by decide) (fun h135 => ?_) (fun h135 => ?_)
            · refine sm_iload X 140 6 dX8_diary_138 rfl rfl ?_
              refine sm_if_ne X 143 154 dX8_diary_140 rfl (by decide) (fun h140 => ?_) (fun h140 => ?_)
              · refine sm_bipush X 145 (10) dX8_diary_143 rfl rfl ?_
                refine sm_iload X 147 8 dX8_diary_145 rfl rfl ?_
                refine sm_imul X 148 dX8_diary_147 rfl ?_
                refine sm_iload X 150 8 dX8_diary_148 rfl rfl ?_
                refine sm_iadd X 151 dX8_diary_150 rfl ?_
                refine sm_goto X 156 dX8_diary_151 (by decide) ?_
                exact sm_sub [0, 1, 2, 3, 4, 5, 6, 8] rfl (J156 v3 v4 v5 k109 hk109 k109' hk109' v8 v10 (((10 : Int32) * v10) + v10) (f_X8_diary_L95  v3 v4 v5 (some k109) (some k109') n) ihl r109.2)
              · refine sm_iload X 156 7 dX8_diary_154 rfl rfl ?_
                exact sm_sub [0, 1, 2, 3, 4, 5, 6, 8] rfl (J156 v3 v4 v5 k109 hk109 k109' hk109' v8 v10 v9 (f_X8_diary_L95  v3 v4 v5 (some k109) (some k109') n) ihl r109.2)
            · exact sm_sub [0, 1, 2, 3, 4, 5, 6, 7, 8] rfl (J161 v3 v4 v5 k109 hk109 k109' hk109' v8 v9 v10 (f_X8_diary_L95  v3 v4 v5 (some k109) (some k109') n) ihl r109.2)
          · exact sm_sub [0, 1, 2, 3, 4, 5, 6, 7, 8] rfl (J161 v3 v4 v5 k109 hk109 k109' hk109' v8 v9 v10 (f_X8_diary_L95  v3 v4 v5 (some k109) (some k109') n) ihl r109.2)
        · exact sm_sub [0, 1, 2, 3, 4, 5, 6, 7, 8] rfl (J161 v3 v4 v5 k109 hk109 k109' hk109' v8 v9 v10 (f_X8_diary_L95  v3 v4 v5 (some k109) (some k109') n) ihl r109.2)
  unfold f_X8_diary
  refine sm_aload_n X 1 0 dX8_diary_0 rfl rfl rfl ?_
  refine sm_getf X 4 1 rfl fd_8_0 rfl dX8_diary_1 rfl q_289 ?_
  refine sm_iload_n X 5 1 dX8_diary_4 rfl rfl rfl ?_
  refine sm_bind (fun r5 h5 => ?_)
  refine sm_callV0 X 8 [.int a1] [] [va_re (gad G) r5] (c_X0_swimmerAt l G σ 1 rfl a1 r5 h5) cw_X0_swimmerAt q_376 q_377 q_375 rfl (by decide) rfl rfl rfl rfl rfl (Nat.le_of_ble_eq_true rfl) ⟨Nat.le_of_ble_eq_true rfl, Nat.le_of_ble_eq_true rfl⟩ ⟨Nat.le_refl _, Nat.le_refl _⟩ dX8_diary_5 rfl ?_
  refine sm_astoreq X 10 [(6, va_re (gad G) r5), (0, .ref (gad G 0)), (1, .int a1), (2, .int a2), (3, .int a3), (4, .int a4), (5, .int a5)] dX8_diary_8 rfl (by decide) rfl ?_
  refine sm_aload_n X 11 1 dX8_diary_10 rfl rfl rfl ?_
  refine sm_getf X 14 1 rfl fd_8_0 rfl dX8_diary_11 rfl q_289 ?_
  refine sm_iload_n X 15 3 dX8_diary_14 rfl rfl rfl ?_
  refine sm_bind (fun r15 h15 => ?_)
  refine sm_callV0 X 18 [.int a2] [] [va_re (gad G) r15] (c_X0_swimmerAt l G σ 1 rfl a2 r15 h15) cw_X0_swimmerAt q_376 q_377 q_375 rfl (by decide) rfl rfl rfl rfl rfl (Nat.le_of_ble_eq_true rfl) ⟨Nat.le_of_ble_eq_true rfl, Nat.le_of_ble_eq_true rfl⟩ ⟨Nat.le_refl _, Nat.le_refl _⟩ dX8_diary_15 rfl ?_
  refine sm_astoreq X 20 [(7, va_re (gad G) r15), (6, va_re (gad G) r5), (0, .ref (gad G 0)), (1, .int a1), (2, .int a2), (3, .int a3), (4, .int a4), (5, .int a5)] dX8_diary_18 rfl (by decide) (by cases r5 <;> rfl) ?_
  refine sm_aloadq X 22 1 dX8_diary_20 rfl rfl ?_
  refine sm_aloadq X 24 0 dX8_diary_22 rfl rfl ?_
  refine sm_bind (fun r24 h24 => ?_)
  refine sm_callS0 X 27 [va_re (gad G) r5, va_re (gad G) r15] [] [.int (b2i r24)] (c_X8_areUnlike l G σ r5 r15 r24 h24) cw_X8_areUnlike q_636 q_635 rfl rfl rfl (Nat.le_of_ble_eq_true rfl) ⟨Nat.le_of_ble_eq_true rfl, Nat.le_of_ble_eq_true rfl⟩ ⟨Nat.le_refl _, Nat.le_refl _⟩ dX8_diary_24 rfl ?_
  refine sm_ifz_eq X 30 62 dX8_diary_27 rfl (by decide) (fun h27 => ?_) (fun h27 => ?_)
  · refine sm_iload_n X 31 5 dX8_diary_30 rfl rfl rfl ?_
    refine sm_iconst X 32 (0) dX8_diary_31 rfl rfl ?_
    refine sm_bipush X 34 (59) dX8_diary_32 rfl rfl ?_
    refine sm_bind (fun r34 h34 => ?_)
    refine sm_callS0 X 37 [.int a3, .int 0, .int 59] [] [.int (b2i r34)] (c_X8_isOutside l G σ a3 (0 : Int32) (59 : Int32) r34 h34) cw_X8_isOutside q_328 q_327 rfl rfl rfl (Nat.le_of_ble_eq_true rfl) ⟨Nat.le_of_ble_eq_true rfl, Nat.le_of_ble_eq_true rfl⟩ ⟨Nat.le_refl _, Nat.le_refl _⟩ dX8_diary_34 rfl ?_
    refine sm_ifz_ne X 40 62 dX8_diary_37 rfl (by decide) (fun h37 => ?_) (fun h37 => ?_)
    · refine sm_aload_n X 63 2 dX8_diary_62 rfl rfl rfl ?_
      refine sm_iconst X 64 (1) dX8_diary_63 rfl rfl ?_
      refine sm_bind (fun r64 h64 => ?_)
      refine sm_callV0 X 67 [.int 1] [] [.int r64.1] (c_X8_refuse l G σ (1 : Int32) r64 h64) cw_X8_refuse q_332 qs_0 q_330 rfl (by decide) rfl rfl rfl rfl rfl (Nat.le_of_ble_eq_true rfl) ⟨Nat.le_of_ble_eq_true rfl, Nat.le_of_ble_eq_true rfl⟩ ⟨Nat.le_refl _, Nat.le_refl _⟩ dX8_diary_64 rfl ?_
      exact sm_iret X hr dX8_diary_67 rfl
    · refine sm_iload X 42 6 dX8_diary_40 rfl rfl ?_
      refine sm_iconst X 43 (0) dX8_diary_42 rfl rfl ?_
      refine sm_sipush X 46 (1200) dX8_diary_43 rfl rfl ?_
      refine sm_bind (fun r46 h46 => ?_)
      refine sm_callS0 X 49 [.int a4, .int 0, .int 1200] [] [.int (b2i r46)] (c_X8_isOutside l G σ a4 (0 : Int32) (1200 : Int32) r46 h46) cw_X8_isOutside q_328 q_327 rfl rfl rfl (Nat.le_of_ble_eq_true rfl) ⟨Nat.le_of_ble_eq_true rfl, Nat.le_of_ble_eq_true rfl⟩ ⟨Nat.le_refl _, Nat.le_refl _⟩ dX8_diary_46 rfl ?_
      refine sm_ifz_ne X 52 62 dX8_diary_49 rfl (by decide) (fun h49 => ?_) (fun h49 => ?_)
      · refine sm_aload_n X 63 2 dX8_diary_62 rfl rfl rfl ?_
        refine sm_iconst X 64 (1) dX8_diary_63 rfl rfl ?_
        refine sm_bind (fun r64 h64 => ?_)
        refine sm_callV0 X 67 [.int 1] [] [.int r64.1] (c_X8_refuse l G σ (1 : Int32) r64 h64) cw_X8_refuse q_332 qs_0 q_330 rfl (by decide) rfl rfl rfl rfl rfl (Nat.le_of_ble_eq_true rfl) ⟨Nat.le_of_ble_eq_true rfl, Nat.le_of_ble_eq_true rfl⟩ ⟨Nat.le_refl _, Nat.le_refl _⟩ dX8_diary_64 rfl ?_
        exact sm_iret X hr dX8_diary_67 rfl
      · refine sm_iload X 54 7 dX8_diary_52 rfl rfl ?_
        refine sm_iconst X 55 (0) dX8_diary_54 rfl rfl ?_
        refine sm_iconst X 56 (1) dX8_diary_55 rfl rfl ?_
        refine sm_bind (fun r56 h56 => ?_)
        refine sm_callS0 X 59 [.int a5, .int 0, .int 1] [] [.int (b2i r56)] (c_X8_isOutside l G σ a5 (0 : Int32) (1 : Int32) r56 h56) cw_X8_isOutside q_328 q_327 rfl rfl rfl (Nat.le_of_ble_eq_true rfl) ⟨Nat.le_of_ble_eq_true rfl, Nat.le_of_ble_eq_true rfl⟩ ⟨Nat.le_refl _, Nat.le_refl _⟩ dX8_diary_56 rfl ?_
        refine sm_ifz_eq X 62 68 dX8_diary_59 rfl (by decide) (fun h59 => ?_) (fun h59 => ?_)
        · refine sm_aload_n X 63 2 dX8_diary_62 rfl rfl rfl ?_
          refine sm_iconst X 64 (1) dX8_diary_63 rfl rfl ?_
          refine sm_bind (fun r64 h64 => ?_)
          refine sm_callV0 X 67 [.int 1] [] [.int r64.1] (c_X8_refuse l G σ (1 : Int32) r64 h64) cw_X8_refuse q_332 qs_0 q_330 rfl (by decide) rfl rfl rfl rfl rfl (Nat.le_of_ble_eq_true rfl) ⟨Nat.le_of_ble_eq_true rfl, Nat.le_of_ble_eq_true rfl⟩ ⟨Nat.le_refl _, Nat.le_refl _⟩ dX8_diary_64 rfl ?_
          exact sm_iret X hr dX8_diary_67 rfl
        · refine sm_aload_n X 69 2 dX8_diary_68 rfl rfl rfl ?_
          refine sm_getf X 72 58 rfl fd_8_3 rfl dX8_diary_69 rfl q_292 ?_
          refine sm_aload_n X 73 2 dX8_diary_72 rfl rfl rfl ?_
          refine sm_getf X 76 1 rfl fd_8_0 rfl dX8_diary_73 rfl q_289 ?_
          refine sm_aload_n X 77 2 dX8_diary_76 rfl rfl rfl ?_
          refine sm_getf X 80 1 rfl fd_8_0 rfl dX8_diary_77 rfl q_289 ?_
          refine sm_geti X 83 rfl fd_0_1 dX8_diary_80 rfl q_92 ?_
          refine sm_bind (fun r83 h83 => ?_)
          refine sm_callV0 X 86 [.ref (gad G 1), .int (σ.1 1 1)] [] [] (c_X5_feel l G σ 1 rfl (σ.1 1 1) r83 h83) cw_X5_feel q_603 q_604 q_602 rfl (by decide) rfl rfl rfl rfl rfl (Nat.le_of_ble_eq_true rfl) ⟨Nat.le_of_ble_eq_true rfl, Nat.le_of_ble_eq_true rfl⟩ ⟨Nat.le_refl _, Nat.le_refl _⟩ dX8_diary_83 rfl ?_
          refine sm_iconst X 87 (0) dX8_diary_86 rfl rfl ?_
          refine sm_istore X 89 [(8, .int 0), (7, va_re (gad G) r15), (6, va_re (gad G) r5), (0, .ref (gad G 0)), (1, .int a1), (2, .int a2), (3, .int a3), (4, .int a4), (5, .int a5)] dX8_diary_87 rfl (by decide) (by cases r15 <;> rfl) ?_
          refine sm_iconst X 90 (0) dX8_diary_89 rfl rfl ?_
          refine sm_istore X 92 [(9, .int 0), (8, .int 0), (7, va_re (gad G) r15), (6, va_re (gad G) r5), (0, .ref (gad G 0)), (1, .int a1), (2, .int a2), (3, .int a3), (4, .int a4), (5, .int a5)] dX8_diary_90 rfl (by decide) rfl ?_
          refine sm_iconst X 93 (0) dX8_diary_92 rfl rfl ?_
          refine sm_istore X 95 [(10, .int 0), (9, .int 0), (8, .int 0), (7, va_re (gad G) r15), (6, va_re (gad G) r5), (0, .ref (gad G 0)), (1, .int a1), (2, .int a2), (3, .int a3), (4, .int a4), (5, .int a5)] dX8_diary_93 rfl (by decide) rfl ?_
          exact sm_sub [5, 8, 9, 10, 4, 3, 2, 1, 0] rfl (J95 a3 a4 a5 r5 r15  FU (0 : Int32) (0 : Int32) (0 : Int32) r83)
  · refine sm_aload_n X 63 2 dX8_diary_62 rfl rfl rfl ?_
    refine sm_iconst X 64 (1) dX8_diary_63 rfl rfl ?_
    refine sm_bind (fun r64 h64 => ?_)
    refine sm_callV0 X 67 [.int 1] [] [.int r64.1] (c_X8_refuse l G σ (1 : Int32) r64 h64) cw_X8_refuse q_332 qs_0 q_330 rfl (by decide) rfl rfl rfl rfl rfl (Nat.le_of_ble_eq_true rfl) ⟨Nat.le_of_ble_eq_true rfl, Nat.le_of_ble_eq_true rfl⟩ ⟨Nat.le_refl _, Nat.le_refl _⟩ dX8_diary_64 rfl ?_
    exact sm_iret X hr dX8_diary_67 rfl
def by_X8_training_0 : List Nat := [42, 180, 0, 10, 27, 182, 0, 99, 58, 4, 42, 180, 0, 10, 28, 182]
def by_X8_training_1 : List Nat := [0, 99, 58, 5, 25, 4, 25, 5, 184, 0, 175, 153, 0, 14, 29, 3]
def by_X8_training_2 : List Nat := [17, 4, 176, 184, 0, 72, 153, 0, 9, 42, 4, 182, 0, 76, 172, 42]
def by_X8_training_3 : List Nat := [180, 0, 29, 42, 180, 0, 10, 42, 180, 0, 10, 180, 0, 83, 182, 0]
def by_X8_training_4 : List Nat := [167, 42, 180, 0, 60, 25, 4, 182, 0, 229, 3, 54, 6, 21, 6, 16]
def by_X8_training_5 : List Nat := [30, 163, 0, 63, 42, 180, 0, 60, 21, 6, 181, 0, 116, 42, 180, 0]
def by_X8_training_6 : List Nat := [29, 42, 180, 0, 60, 25, 5, 42, 180, 0, 10, 180, 0, 86, 182, 0]
def by_X8_training_7 : List Nat := [179, 153, 0, 25, 25, 4, 180, 0, 113, 29, 42, 180, 0, 29, 180, 0]
def by_X8_training_8 : List Nat := [186, 184, 0, 218, 154, 0, 6, 21, 6, 172, 132, 6, 1, 167, 255, 192]
def by_X8_training_z : List Nat := [42, 5, 182, 0, 76, 172]
def by_X8_training : List (List Nat) := [by_X8_training_0, by_X8_training_1, by_X8_training_2, by_X8_training_3, by_X8_training_4, by_X8_training_5, by_X8_training_6, by_X8_training_7, by_X8_training_8]
set_option maxRecDepth 100000 in
theorem byo_X8_training : cX8_training.data.toList.map UInt8.toNat = by_X8_training.flatten ++ by_X8_training_z := by decide +kernel
theorem byl_X8_training : by_X8_training.all (fun r => r.length == 16) = true := by decide +kernel
theorem byr_X8_training_0 {j v : Nat} (h : by_X8_training_0[j]? = some v) : RD cX8_training (0 + j) v := rd_16 byo_X8_training byl_X8_training 0 rfl h
theorem byr_X8_training_1 {j v : Nat} (h : by_X8_training_1[j]? = some v) : RD cX8_training (16 + j) v := rd_16 byo_X8_training byl_X8_training 1 rfl h
theorem byr_X8_training_2 {j v : Nat} (h : by_X8_training_2[j]? = some v) : RD cX8_training (32 + j) v := rd_16 byo_X8_training byl_X8_training 2 rfl h
theorem byr_X8_training_3 {j v : Nat} (h : by_X8_training_3[j]? = some v) : RD cX8_training (48 + j) v := rd_16 byo_X8_training byl_X8_training 3 rfl h
theorem byr_X8_training_4 {j v : Nat} (h : by_X8_training_4[j]? = some v) : RD cX8_training (64 + j) v := rd_16 byo_X8_training byl_X8_training 4 rfl h
theorem byr_X8_training_5 {j v : Nat} (h : by_X8_training_5[j]? = some v) : RD cX8_training (80 + j) v := rd_16 byo_X8_training byl_X8_training 5 rfl h
theorem byr_X8_training_6 {j v : Nat} (h : by_X8_training_6[j]? = some v) : RD cX8_training (96 + j) v := rd_16 byo_X8_training byl_X8_training 6 rfl h
theorem byr_X8_training_7 {j v : Nat} (h : by_X8_training_7[j]? = some v) : RD cX8_training (112 + j) v := rd_16 byo_X8_training byl_X8_training 7 rfl h
theorem byr_X8_training_8 {j v : Nat} (h : by_X8_training_8[j]? = some v) : RD cX8_training (128 + j) v := rd_16 byo_X8_training byl_X8_training 8 rfl h
theorem byr_X8_training_9 {j v : Nat} (h : by_X8_training_z[j]? = some v) : RD cX8_training (144 + j) v := rd_z byo_X8_training byl_X8_training 9 rfl h
theorem dX8_training_0 : decode cX8_training 0 = .ok (.aload_n 0, 1) := dk_42 (byr_X8_training_0 (j := 0) rfl)
theorem dX8_training_1 : decode cX8_training 1 = .ok (.getfield 10, 3) := dk_180 (byr_X8_training_0 (j := 1) rfl) (byr_X8_training_0 (j := 2) rfl) (byr_X8_training_0 (j := 3) rfl) (by decide)
theorem dX8_training_4 : decode cX8_training 4 = .ok (.iload_n 1, 1) := dk_27 (byr_X8_training_0 (j := 4) rfl)
theorem dX8_training_5 : decode cX8_training 5 = .ok (.invokevirtual 99, 3) := dk_182 (byr_X8_training_0 (j := 5) rfl) (byr_X8_training_0 (j := 6) rfl) (byr_X8_training_0 (j := 7) rfl) (by decide)
theorem dX8_training_8 : decode cX8_training 8 = .ok (.astore 4, 2) := dk_58 (byr_X8_training_0 (j := 8) rfl) (byr_X8_training_0 (j := 9) rfl)
theorem dX8_training_10 : decode cX8_training 10 = .ok (.aload_n 0, 1) := dk_42 (byr_X8_training_0 (j := 10) rfl)
theorem dX8_training_11 : decode cX8_training 11 = .ok (.getfield 10, 3) := dk_180 (byr_X8_training_0 (j := 11) rfl) (byr_X8_training_0 (j := 12) rfl) (byr_X8_training_0 (j := 13) rfl) (by decide)
theorem dX8_training_14 : decode cX8_training 14 = .ok (.iload_n 2, 1) := dk_28 (byr_X8_training_0 (j := 14) rfl)
theorem dX8_training_15 : decode cX8_training 15 = .ok (.invokevirtual 99, 3) := dk_182 (byr_X8_training_0 (j := 15) rfl) (byr_X8_training_1 (j := 0) rfl) (byr_X8_training_1 (j := 1) rfl) (by decide)
theorem dX8_training_18 : decode cX8_training 18 = .ok (.astore 5, 2) := dk_58 (byr_X8_training_1 (j := 2) rfl) (byr_X8_training_1 (j := 3) rfl)
theorem dX8_training_20 : decode cX8_training 20 = .ok (.aload 4, 2) := dk_25 (byr_X8_training_1 (j := 4) rfl) (byr_X8_training_1 (j := 5) rfl)
theorem dX8_training_22 : decode cX8_training 22 = .ok (.aload 5, 2) := dk_25 (byr_X8_training_1 (j := 6) rfl) (byr_X8_training_1 (j := 7) rfl)
theorem dX8_training_24 : decode cX8_training 24 = .ok (.invokestatic 175, 3) := dk_184 (byr_X8_training_1 (j := 8) rfl) (byr_X8_training_1 (j := 9) rfl) (byr_X8_training_1 (j := 10) rfl) (by decide)
theorem dX8_training_27 : decode cX8_training 27 = .ok (.ifCond .eq 14, 3) := dk_153 (byr_X8_training_1 (j := 11) rfl) (byr_X8_training_1 (j := 12) rfl) (byr_X8_training_1 (j := 13) rfl) (by decide)
theorem dX8_training_30 : decode cX8_training 30 = .ok (.iload_n 3, 1) := dk_29 (byr_X8_training_1 (j := 14) rfl)
theorem dX8_training_31 : decode cX8_training 31 = .ok (.iconst 0, 1) := dk_3 (byr_X8_training_1 (j := 15) rfl)
theorem dX8_training_32 : decode cX8_training 32 = .ok (.sipush 1200, 3) := dk_17 (byr_X8_training_2 (j := 0) rfl) (byr_X8_training_2 (j := 1) rfl) (byr_X8_training_2 (j := 2) rfl) (by decide)
theorem dX8_training_35 : decode cX8_training 35 = .ok (.invokestatic 72, 3) := dk_184 (byr_X8_training_2 (j := 3) rfl) (byr_X8_training_2 (j := 4) rfl) (byr_X8_training_2 (j := 5) rfl) (by decide)
theorem dX8_training_38 : decode cX8_training 38 = .ok (.ifCond .eq 9, 3) := dk_153 (byr_X8_training_2 (j := 6) rfl) (byr_X8_training_2 (j := 7) rfl) (byr_X8_training_2 (j := 8) rfl) (by decide)
theorem dX8_training_41 : decode cX8_training 41 = .ok (.aload_n 0, 1) := dk_42 (byr_X8_training_2 (j := 9) rfl)
theorem dX8_training_42 : decode cX8_training 42 = .ok (.iconst 1, 1) := dk_4 (byr_X8_training_2 (j := 10) rfl)
theorem dX8_training_43 : decode cX8_training 43 = .ok (.invokevirtual 76, 3) := dk_182 (byr_X8_training_2 (j := 11) rfl) (byr_X8_training_2 (j := 12) rfl) (byr_X8_training_2 (j := 13) rfl) (by decide)
theorem dX8_training_46 : decode cX8_training 46 = .ok (.ireturn, 1) := dk_172 (byr_X8_training_2 (j := 14) rfl)
theorem dX8_training_47 : decode cX8_training 47 = .ok (.aload_n 0, 1) := dk_42 (byr_X8_training_2 (j := 15) rfl)
theorem dX8_training_48 : decode cX8_training 48 = .ok (.getfield 29, 3) := dk_180 (byr_X8_training_3 (j := 0) rfl) (byr_X8_training_3 (j := 1) rfl) (byr_X8_training_3 (j := 2) rfl) (by decide)
theorem dX8_training_51 : decode cX8_training 51 = .ok (.aload_n 0, 1) := dk_42 (byr_X8_training_3 (j := 3) rfl)
theorem dX8_training_52 : decode cX8_training 52 = .ok (.getfield 10, 3) := dk_180 (byr_X8_training_3 (j := 4) rfl) (byr_X8_training_3 (j := 5) rfl) (byr_X8_training_3 (j := 6) rfl) (by decide)
theorem dX8_training_55 : decode cX8_training 55 = .ok (.aload_n 0, 1) := dk_42 (byr_X8_training_3 (j := 7) rfl)
theorem dX8_training_56 : decode cX8_training 56 = .ok (.getfield 10, 3) := dk_180 (byr_X8_training_3 (j := 8) rfl) (byr_X8_training_3 (j := 9) rfl) (byr_X8_training_3 (j := 10) rfl) (by decide)
theorem dX8_training_59 : decode cX8_training 59 = .ok (.getfield 83, 3) := dk_180 (byr_X8_training_3 (j := 11) rfl) (byr_X8_training_3 (j := 12) rfl) (byr_X8_training_3 (j := 13) rfl) (by decide)
theorem dX8_training_62 : decode cX8_training 62 = .ok (.invokevirtual 167, 3) := dk_182 (byr_X8_training_3 (j := 14) rfl) (byr_X8_training_3 (j := 15) rfl) (byr_X8_training_4 (j := 0) rfl) (by decide)
theorem dX8_training_65 : decode cX8_training 65 = .ok (.aload_n 0, 1) := dk_42 (byr_X8_training_4 (j := 1) rfl)
theorem dX8_training_66 : decode cX8_training 66 = .ok (.getfield 60, 3) := dk_180 (byr_X8_training_4 (j := 2) rfl) (byr_X8_training_4 (j := 3) rfl) (byr_X8_training_4 (j := 4) rfl) (by decide)
theorem dX8_training_69 : decode cX8_training 69 = .ok (.aload 4, 2) := dk_25 (byr_X8_training_4 (j := 5) rfl) (byr_X8_training_4 (j := 6) rfl)
theorem dX8_training_71 : decode cX8_training 71 = .ok (.invokevirtual 229, 3) := dk_182 (byr_X8_training_4 (j := 7) rfl) (byr_X8_training_4 (j := 8) rfl) (byr_X8_training_4 (j := 9) rfl) (by decide)
theorem dX8_training_74 : decode cX8_training 74 = .ok (.iconst 0, 1) := dk_3 (byr_X8_training_4 (j := 10) rfl)
theorem dX8_training_75 : decode cX8_training 75 = .ok (.istore 6, 2) := dk_54 (byr_X8_training_4 (j := 11) rfl) (byr_X8_training_4 (j := 12) rfl)
theorem dX8_training_77 : decode cX8_training 77 = .ok (.iload 6, 2) := dk_21 (byr_X8_training_4 (j := 13) rfl) (byr_X8_training_4 (j := 14) rfl)
theorem dX8_training_79 : decode cX8_training 79 = .ok (.bipush 30, 2) := dk_16 (byr_X8_training_4 (j := 15) rfl) (byr_X8_training_5 (j := 0) rfl) (by decide)
theorem dX8_training_81 : decode cX8_training 81 = .ok (.if_icmp .gt 63, 3) := dk_163 (byr_X8_training_5 (j := 1) rfl) (byr_X8_training_5 (j := 2) rfl) (byr_X8_training_5 (j := 3) rfl) (by decide)
theorem dX8_training_84 : decode cX8_training 84 = .ok (.aload_n 0, 1) := dk_42 (byr_X8_training_5 (j := 4) rfl)
theorem dX8_training_85 : decode cX8_training 85 = .ok (.getfield 60, 3) := dk_180 (byr_X8_training_5 (j := 5) rfl) (byr_X8_training_5 (j := 6) rfl) (byr_X8_training_5 (j := 7) rfl) (by decide)
theorem dX8_training_88 : decode cX8_training 88 = .ok (.iload 6, 2) := dk_21 (byr_X8_training_5 (j := 8) rfl) (byr_X8_training_5 (j := 9) rfl)
theorem dX8_training_90 : decode cX8_training 90 = .ok (.putfield 116, 3) := dk_181 (byr_X8_training_5 (j := 10) rfl) (byr_X8_training_5 (j := 11) rfl) (byr_X8_training_5 (j := 12) rfl) (by decide)
theorem dX8_training_93 : decode cX8_training 93 = .ok (.aload_n 0, 1) := dk_42 (byr_X8_training_5 (j := 13) rfl)
theorem dX8_training_94 : decode cX8_training 94 = .ok (.getfield 29, 3) := dk_180 (byr_X8_training_5 (j := 14) rfl) (byr_X8_training_5 (j := 15) rfl) (byr_X8_training_6 (j := 0) rfl) (by decide)
theorem dX8_training_97 : decode cX8_training 97 = .ok (.aload_n 0, 1) := dk_42 (byr_X8_training_6 (j := 1) rfl)
theorem dX8_training_98 : decode cX8_training 98 = .ok (.getfield 60, 3) := dk_180 (byr_X8_training_6 (j := 2) rfl) (byr_X8_training_6 (j := 3) rfl) (byr_X8_training_6 (j := 4) rfl) (by decide)
theorem dX8_training_101 : decode cX8_training 101 = .ok (.aload 5, 2) := dk_25 (byr_X8_training_6 (j := 5) rfl) (byr_X8_training_6 (j := 6) rfl)
theorem dX8_training_103 : decode cX8_training 103 = .ok (.aload_n 0, 1) := dk_42 (byr_X8_training_6 (j := 7) rfl)
theorem dX8_training_104 : decode cX8_training 104 = .ok (.getfield 10, 3) := dk_180 (byr_X8_training_6 (j := 8) rfl) (byr_X8_training_6 (j := 9) rfl) (byr_X8_training_6 (j := 10) rfl) (by decide)
theorem dX8_training_107 : decode cX8_training 107 = .ok (.getfield 86, 3) := dk_180 (byr_X8_training_6 (j := 11) rfl) (byr_X8_training_6 (j := 12) rfl) (byr_X8_training_6 (j := 13) rfl) (by decide)
theorem dX8_training_110 : decode cX8_training 110 = .ok (.invokevirtual 179, 3) := dk_182 (byr_X8_training_6 (j := 14) rfl) (byr_X8_training_6 (j := 15) rfl) (byr_X8_training_7 (j := 0) rfl) (by decide)
theorem dX8_training_113 : decode cX8_training 113 = .ok (.ifCond .eq 25, 3) := dk_153 (byr_X8_training_7 (j := 1) rfl) (byr_X8_training_7 (j := 2) rfl) (byr_X8_training_7 (j := 3) rfl) (by decide)
theorem dX8_training_116 : decode cX8_training 116 = .ok (.aload 4, 2) := dk_25 (byr_X8_training_7 (j := 4) rfl) (byr_X8_training_7 (j := 5) rfl)
theorem dX8_training_118 : decode cX8_training 118 = .ok (.getfield 113, 3) := dk_180 (byr_X8_training_7 (j := 6) rfl) (byr_X8_training_7 (j := 7) rfl) (byr_X8_training_7 (j := 8) rfl) (by decide)
theorem dX8_training_121 : decode cX8_training 121 = .ok (.iload_n 3, 1) := dk_29 (byr_X8_training_7 (j := 9) rfl)
theorem dX8_training_122 : decode cX8_training 122 = .ok (.aload_n 0, 1) := dk_42 (byr_X8_training_7 (j := 10) rfl)
theorem dX8_training_123 : decode cX8_training 123 = .ok (.getfield 29, 3) := dk_180 (byr_X8_training_7 (j := 11) rfl) (byr_X8_training_7 (j := 12) rfl) (byr_X8_training_7 (j := 13) rfl) (by decide)
theorem dX8_training_126 : decode cX8_training 126 = .ok (.getfield 186, 3) := dk_180 (byr_X8_training_7 (j := 14) rfl) (byr_X8_training_7 (j := 15) rfl) (byr_X8_training_8 (j := 0) rfl) (by decide)
theorem dX8_training_129 : decode cX8_training 129 = .ok (.invokestatic 218, 3) := dk_184 (byr_X8_training_8 (j := 1) rfl) (byr_X8_training_8 (j := 2) rfl) (byr_X8_training_8 (j := 3) rfl) (by decide)
theorem dX8_training_132 : decode cX8_training 132 = .ok (.ifCond .ne 6, 3) := dk_154 (byr_X8_training_8 (j := 4) rfl) (byr_X8_training_8 (j := 5) rfl) (byr_X8_training_8 (j := 6) rfl) (by decide)
theorem dX8_training_135 : decode cX8_training 135 = .ok (.iload 6, 2) := dk_21 (byr_X8_training_8 (j := 7) rfl) (byr_X8_training_8 (j := 8) rfl)
theorem dX8_training_137 : decode cX8_training 137 = .ok (.ireturn, 1) := dk_172 (byr_X8_training_8 (j := 9) rfl)
theorem dX8_training_138 : decode cX8_training 138 = .ok (.iinc 6 1, 3) := dk_132 (byr_X8_training_8 (j := 10) rfl) (byr_X8_training_8 (j := 11) rfl) (byr_X8_training_8 (j := 12) rfl) (by decide)
theorem dX8_training_141 : decode cX8_training 141 = .ok (.goto (-64), 3) := dk_167 (byr_X8_training_8 (j := 13) rfl) (byr_X8_training_8 (j := 14) rfl) (byr_X8_training_8 (j := 15) rfl) (by decide)
theorem dX8_training_144 : decode cX8_training 144 = .ok (.aload_n 0, 1) := dk_42 (byr_X8_training_9 (j := 0) rfl)
theorem dX8_training_145 : decode cX8_training 145 = .ok (.iconst 2, 1) := dk_5 (byr_X8_training_9 (j := 1) rfl)
theorem dX8_training_146 : decode cX8_training 146 = .ok (.invokevirtual 76, 3) := dk_182 (byr_X8_training_9 (j := 2) rfl) (byr_X8_training_9 (j := 3) rfl) (byr_X8_training_9 (j := 4) rfl) (by decide)
theorem dX8_training_149 : decode cX8_training 149 = .ok (.ireturn, 1) := dk_172 (byr_X8_training_9 (j := 5) rfl)
set_option maxHeartbeats 4000000 in
set_option maxRecDepth 100000 in
theorem c_X8_training (l : Launch) (G : GT) (σ : Sto) (a1 : Int32) (a2 : Int32) (a3 : Int32) (r : (Int32 × Sto)) (h : f_X8_training σ a1 a2 a3 = some r) : MW l G (7) (181) 0 0 yX8_training cX8_training 7 (Option.some Jvm.ClassFile.FieldType.int) [.ref (gad G 0), .int a1, .int a2, .int a3] (wl G σ) (some (.int r.1)) (wl G r.2) := by
  refine mw_of RX8 (fiI G) [(0, .ref (gad G 0)), (1, .int a1), (2, .int a2), (3, .int a3)] (by decide +kernel) rfl (Nat.le_of_ble_eq_true rfl) rfl h rfl (fun p e s m args below meth c X hr hnm => ?_)
  have J138 : ∀ (v3 : Int32) (k4 : Nat) (hk4 : K0 k4 = 6) (k5 : Nat) (hk5 : K0 k5 = 6) (v6 : Int32) (K77 : Int32 → Sto → Option (Int32 × Sto)) (hK77 : ∀ (v6' : Int32) (σ' : Sto), Sm p l e { frames := 7, cells := 0, slots := 0, locals := 181 } s m args below meth c G 7 (Qm below args s G 0 0 (fiI G)) 0 0 (wl G σ') 77 [(0, .ref (gad G 0)), (3, .int v3), (4, .ref (gad G k4)), (5, .ref (gad G k5)), (6, .int v6')] [] (K77 v6' σ')) (σ : Sto), Sm p l e { frames := 7, cells := 0, slots := 0, locals := 181 } s m args below meth c G 7 (Qm below args s G 0 0 (fiI G)) 0 0 (wl G σ) 138 [(0, .ref (gad G 0)), (3, .int v3), (4, .ref (gad G k4)), (5, .ref (gad G k5)), (6, .int v6)] [] (f_X8_training_L138 K77 v3 k4 k5 v6 σ) := by
    intro v3 k4 hk4 k5 hk5 v6 K77 hK77 σ
    rw [f_X8_training_L138]
    refine sm_iinc X 141 4 (1 : Int32) [(6, .int (v6 + (1 : Int32))), (0, .ref (gad G 0)), (3, .int v3), (4, .ref (gad G k4)), (5, .ref (gad G k5))] dX8_training_138 rfl rfl rfl (by decide) rfl ?_
    refine sm_goto X 77 dX8_training_141 (by decide) ?_
    exact sm_sub [1, 2, 3, 4, 0] rfl (hK77 (v6 + (1 : Int32)) σ)
  have J77 : ∀ (v3 : Int32) (k4 : Nat) (hk4 : K0 k4 = 6) (r5 : Option Nat)  (n : Nat) (v6 : Int32) (σ : Sto), Sm p l e { frames := 7, cells := 0, slots := 0, locals := 181 } s m args below meth c G 7 (Qm below args s G 0 0 (fiI G)) 0 0 (wl G σ) 77 [(0, .ref (gad G 0)), (3, .int v3), (4, .ref (gad G k4)), (5, va_re (gad G) r5), (6, .int v6)] [] (f_X8_training_L77  v3 k4 r5 n v6 σ) := by
    intro v3 k4 hk4 r5 n
    induction n with
    | zero => intro v6 σ; rw [f_X8_training_L77]; exact sm_none
    | succ n ihl =>
      intro v6 σ
      rw [f_X8_training_L77]
      refine sm_iload X 79 4 dX8_training_77 rfl rfl ?_
      refine sm_bipush X 81 (30) dX8_training_79 rfl rfl ?_
      refine sm_icmp_gt X 84 144 dX8_training_81 rfl (by decide) (fun h81 => ?_) (fun h81 => ?_)
      · refine sm_aload_n X 145 0 dX8_training_144 rfl rfl rfl ?_
        refine sm_iconst X 146 (2) dX8_training_145 rfl rfl ?_
        refine sm_bind (fun r146 h146 => ?_)
        refine sm_callV0 X 149 [.int 2] [] [.int r146.1] (c_X8_refuse l G σ (2 : Int32) r146 h146) cw_X8_refuse q_332 qs_0 q_330 rfl (by decide) rfl rfl rfl rfl rfl (Nat.le_of_ble_eq_true rfl) ⟨Nat.le_of_ble_eq_true rfl, Nat.le_of_ble_eq_true rfl⟩ ⟨Nat.le_refl _, Nat.le_refl _⟩ dX8_training_146 rfl ?_
        exact sm_iret X hr dX8_training_149 rfl
      · refine sm_aload_n X 85 0 dX8_training_84 rfl rfl rfl ?_
        refine sm_getf X 88 69 rfl fd_8_8 rfl dX8_training_85 rfl q_297 ?_
        refine sm_iload X 90 4 dX8_training_88 rfl rfl ?_
        refine sm_puti X 93 .int rfl fd_6_3 (by decide) rfl rfl rfl dX8_training_90 rfl q_70 (fun σ90 e90 => ?_)
        clear e90
        refine sm_aload_n X 94 0 dX8_training_93 rfl rfl rfl ?_
        refine sm_getf X 97 58 rfl fd_8_3 rfl dX8_training_94 rfl q_292 ?_
        refine sm_aload_n X 98 0 dX8_training_97 rfl rfl rfl ?_
        refine sm_getf X 101 69 rfl fd_8_8 rfl dX8_training_98 rfl q_297 ?_
        refine sm_aloadq X 103 3 dX8_training_101 rfl rfl ?_
        refine sm_aload_n X 104 0 dX8_training_103 rfl rfl rfl ?_
        refine sm_getf X 107 1 rfl fd_8_0 rfl dX8_training_104 rfl q_289 ?_
        refine sm_geti X 110 rfl fd_0_2 dX8_training_107 rfl q_94 ?_
        refine sm_deref (fun k110 h hk110 => ?_)
        subst h
        refine sm_bind (fun r110 h110 => ?_)
        refine sm_callV0 X 113 [.ref (gad G 69), .ref (gad G k110), .int (σ90.1 1 2)] [] [.int (b2i r110.1)] (c_X5_meets l G σ90 69 rfl k110 hk110 (σ90.1 1 2) r110 h110) cw_X5_meets q_639 q_640 q_638 rfl (by decide) rfl rfl rfl rfl rfl (Nat.le_of_ble_eq_true rfl) ⟨Nat.le_of_ble_eq_true rfl, Nat.le_of_ble_eq_true rfl⟩ ⟨Nat.le_refl _, Nat.le_refl _⟩ dX8_training_110 rfl ?_
        refine sm_ifz_eq X 116 138 dX8_training_113 rfl (by decide) (fun h113 => ?_) (fun h113 => ?_)
        · refine sm_aload X 118 2 dX8_training_116 rfl rfl ?_
          refine sm_geti X 121 hk4 fd_6_2 dX8_training_118 rfl q_68 ?_
          refine sm_iload_n X 122 1 dX8_training_121 rfl rfl rfl ?_
          refine sm_aload_n X 123 0 dX8_training_122 rfl rfl rfl ?_
          refine sm_getf X 126 58 rfl fd_8_3 rfl dX8_training_123 rfl q_292 ?_
          refine sm_geti X 129 rfl fd_5_2 dX8_training_126 rfl q_190 ?_
          refine sm_bind (fun r129 h129 => ?_)
          refine sm_callS0 X 132 [.int (r110.2.1 k4 2), .int v3, .int (r110.2.1 58 2)] [] [.int (b2i r129)] (c_X8_isBetter l G r110.2 (r110.2.1 k4 2) v3 (r110.2.1 58 2) r129 h129) cw_X8_isBetter q_709 q_730 rfl rfl rfl (Nat.le_of_ble_eq_true rfl) ⟨Nat.le_of_ble_eq_true rfl, Nat.le_of_ble_eq_true rfl⟩ ⟨Nat.le_refl _, Nat.le_refl _⟩ dX8_training_129 rfl ?_
          refine sm_ifz_ne X 135 138 dX8_training_132 rfl (by decide) (fun h132 => ?_) (fun h132 => ?_)
          · exact sm_sub [0, 1, 2, 3, 4] rfl (J138 v3 k4 hk4 k110 hk110 v6 (f_X8_training_L77  v3 k4 (some k110) n) ihl r110.2)
          · refine sm_iload X 137 4 dX8_training_135 rfl rfl ?_
            exact sm_iret X hr dX8_training_137 rfl
        · exact sm_sub [0, 1, 2, 3, 4] rfl (J138 v3 k4 hk4 k110 hk110 v6 (f_X8_training_L77  v3 k4 (some k110) n) ihl r110.2)
  unfold f_X8_training
  refine sm_aload_n X 1 0 dX8_training_0 rfl rfl rfl ?_
  refine sm_getf X 4 1 rfl fd_8_0 rfl dX8_training_1 rfl q_289 ?_
  refine sm_iload_n X 5 1 dX8_training_4 rfl rfl rfl ?_
  refine sm_bind (fun r5 h5 => ?_)
  refine sm_callV0 X 8 [.int a1] [] [va_re (gad G) r5] (c_X0_swimmerAt l G σ 1 rfl a1 r5 h5) cw_X0_swimmerAt q_376 q_377 q_375 rfl (by decide) rfl rfl rfl rfl rfl (Nat.le_of_ble_eq_true rfl) ⟨Nat.le_of_ble_eq_true rfl, Nat.le_of_ble_eq_true rfl⟩ ⟨Nat.le_refl _, Nat.le_refl _⟩ dX8_training_5 rfl ?_
  refine sm_astoreq X 10 [(4, va_re (gad G) r5), (0, .ref (gad G 0)), (1, .int a1), (2, .int a2), (3, .int a3)] dX8_training_8 rfl (by decide) rfl ?_
  refine sm_aload_n X 11 1 dX8_training_10 rfl rfl rfl ?_
  refine sm_getf X 14 1 rfl fd_8_0 rfl dX8_training_11 rfl q_289 ?_
  refine sm_iload_n X 15 3 dX8_training_14 rfl rfl rfl ?_
  refine sm_bind (fun r15 h15 => ?_)
  refine sm_callV0 X 18 [.int a2] [] [va_re (gad G) r15] (c_X0_swimmerAt l G σ 1 rfl a2 r15 h15) cw_X0_swimmerAt q_376 q_377 q_375 rfl (by decide) rfl rfl rfl rfl rfl (Nat.le_of_ble_eq_true rfl) ⟨Nat.le_of_ble_eq_true rfl, Nat.le_of_ble_eq_true rfl⟩ ⟨Nat.le_refl _, Nat.le_refl _⟩ dX8_training_15 rfl ?_
  refine sm_astoreq X 20 [(5, va_re (gad G) r15), (4, va_re (gad G) r5), (0, .ref (gad G 0)), (1, .int a1), (2, .int a2), (3, .int a3)] dX8_training_18 rfl (by decide) (by cases r5 <;> rfl) ?_
  refine sm_aloadq X 22 1 dX8_training_20 rfl rfl ?_
  refine sm_aloadq X 24 0 dX8_training_22 rfl rfl ?_
  refine sm_bind (fun r24 h24 => ?_)
  refine sm_callS0 X 27 [va_re (gad G) r5, va_re (gad G) r15] [] [.int (b2i r24)] (c_X8_areUnlike l G σ r5 r15 r24 h24) cw_X8_areUnlike q_636 q_635 rfl rfl rfl (Nat.le_of_ble_eq_true rfl) ⟨Nat.le_of_ble_eq_true rfl, Nat.le_of_ble_eq_true rfl⟩ ⟨Nat.le_refl _, Nat.le_refl _⟩ dX8_training_24 rfl ?_
  refine sm_ifz_eq X 30 41 dX8_training_27 rfl (by decide) (fun h27 => ?_) (fun h27 => ?_)
  · refine sm_iload_n X 31 5 dX8_training_30 rfl rfl rfl ?_
    refine sm_iconst X 32 (0) dX8_training_31 rfl rfl ?_
    refine sm_sipush X 35 (1200) dX8_training_32 rfl rfl ?_
    refine sm_bind (fun r35 h35 => ?_)
    refine sm_callS0 X 38 [.int a3, .int 0, .int 1200] [] [.int (b2i r35)] (c_X8_isOutside l G σ a3 (0 : Int32) (1200 : Int32) r35 h35) cw_X8_isOutside q_328 q_327 rfl rfl rfl (Nat.le_of_ble_eq_true rfl) ⟨Nat.le_of_ble_eq_true rfl, Nat.le_of_ble_eq_true rfl⟩ ⟨Nat.le_refl _, Nat.le_refl _⟩ dX8_training_35 rfl ?_
    refine sm_ifz_eq X 41 47 dX8_training_38 rfl (by decide) (fun h38 => ?_) (fun h38 => ?_)
    · refine sm_aload_n X 42 2 dX8_training_41 rfl rfl rfl ?_
      refine sm_iconst X 43 (1) dX8_training_42 rfl rfl ?_
      refine sm_bind (fun r43 h43 => ?_)
      refine sm_callV0 X 46 [.int 1] [] [.int r43.1] (c_X8_refuse l G σ (1 : Int32) r43 h43) cw_X8_refuse q_332 qs_0 q_330 rfl (by decide) rfl rfl rfl rfl rfl (Nat.le_of_ble_eq_true rfl) ⟨Nat.le_of_ble_eq_true rfl, Nat.le_of_ble_eq_true rfl⟩ ⟨Nat.le_refl _, Nat.le_refl _⟩ dX8_training_43 rfl ?_
      exact sm_iret X hr dX8_training_46 rfl
    · refine sm_aload_n X 48 2 dX8_training_47 rfl rfl rfl ?_
      refine sm_getf X 51 58 rfl fd_8_3 rfl dX8_training_48 rfl q_292 ?_
      refine sm_aload_n X 52 2 dX8_training_51 rfl rfl rfl ?_
      refine sm_getf X 55 1 rfl fd_8_0 rfl dX8_training_52 rfl q_289 ?_
      refine sm_aload_n X 56 2 dX8_training_55 rfl rfl rfl ?_
      refine sm_getf X 59 1 rfl fd_8_0 rfl dX8_training_56 rfl q_289 ?_
      refine sm_geti X 62 rfl fd_0_1 dX8_training_59 rfl q_92 ?_
      refine sm_bind (fun r62 h62 => ?_)
      refine sm_callV0 X 65 [.ref (gad G 1), .int (σ.1 1 1)] [] [] (c_X5_feel l G σ 1 rfl (σ.1 1 1) r62 h62) cw_X5_feel q_603 q_604 q_602 rfl (by decide) rfl rfl rfl rfl rfl (Nat.le_of_ble_eq_true rfl) ⟨Nat.le_of_ble_eq_true rfl, Nat.le_of_ble_eq_true rfl⟩ ⟨Nat.le_refl _, Nat.le_refl _⟩ dX8_training_62 rfl ?_
      refine sm_aload_n X 66 2 dX8_training_65 rfl rfl rfl ?_
      refine sm_getf X 69 69 rfl fd_8_8 rfl dX8_training_66 rfl q_297 ?_
      refine sm_aloadq X 71 1 dX8_training_69 rfl rfl ?_
      refine sm_deref (fun k71 h hk71 => ?_)
      subst h
      refine sm_bind (fun r71 h71 => ?_)
      refine sm_callV0 X 74 [.ref (gad G k71)] [] [] (c_X6_copy l G r62 69 rfl k71 hk71 r71 h71) cw_X6_copy q_686 q_687 q_728 rfl (by decide) rfl rfl rfl rfl rfl (Nat.le_of_ble_eq_true rfl) ⟨Nat.le_of_ble_eq_true rfl, Nat.le_of_ble_eq_true rfl⟩ ⟨Nat.le_refl _, Nat.le_refl _⟩ dX8_training_71 rfl ?_
      refine sm_iconst X 75 (0) dX8_training_74 rfl rfl ?_
      refine sm_istore X 77 [(6, .int 0), (5, va_re (gad G) r15), (4, .ref (gad G k71)), (0, .ref (gad G 0)), (1, .int a1), (2, .int a2), (3, .int a3)] dX8_training_75 rfl (by decide) (by cases r15 <;> rfl) ?_
      exact sm_sub [3, 6, 2, 1, 0] rfl (J77 a3 k71 hk71 r15  FU (0 : Int32) r71)
  · refine sm_aload_n X 42 2 dX8_training_41 rfl rfl rfl ?_
    refine sm_iconst X 43 (1) dX8_training_42 rfl rfl ?_
    refine sm_bind (fun r43 h43 => ?_)
    refine sm_callV0 X 46 [.int 1] [] [.int r43.1] (c_X8_refuse l G σ (1 : Int32) r43 h43) cw_X8_refuse q_332 qs_0 q_330 rfl (by decide) rfl rfl rfl rfl rfl (Nat.le_of_ble_eq_true rfl) ⟨Nat.le_of_ble_eq_true rfl, Nat.le_of_ble_eq_true rfl⟩ ⟨Nat.le_refl _, Nat.le_refl _⟩ dX8_training_43 rfl ?_
    exact sm_iret X hr dX8_training_46 rfl
def by_X8_fair_0 : List Nat := [42, 180, 0, 10, 27, 182, 0, 99, 78, 42, 180, 0, 10, 28, 182, 0]
def by_X8_fair_1 : List Nat := [99, 58, 4, 45, 25, 4, 184, 0, 175, 154, 0, 9, 42, 4, 182, 0]
def by_X8_fair_2 : List Nat := [76, 172, 42, 180, 0, 29, 42, 180, 0, 10, 42, 180, 0, 10, 180, 0]
def by_X8_fair_3 : List Nat := [83, 182, 0, 167, 42, 180, 0, 29, 45, 25, 4, 42, 180, 0, 10, 180]
def by_X8_fair_4 : List Nat := [0, 86, 182, 0, 179, 154, 0, 9, 42, 5, 182, 0, 76, 172, 42, 180]
def by_X8_fair_5 : List Nat := [0, 29, 180, 0, 186, 54, 5, 42, 180, 0, 60, 45, 182, 0, 229, 42]
def by_X8_fair_6 : List Nat := [180, 0, 60, 25, 4, 180, 0, 113, 181, 0, 113, 42, 180, 0, 64, 25]
def by_X8_fair_7 : List Nat := [4, 182, 0, 229, 42, 180, 0, 64, 45, 180, 0, 113, 181, 0, 113, 42]
def by_X8_fair_8 : List Nat := [180, 0, 29, 42, 180, 0, 60, 42, 180, 0, 64, 42, 180, 0, 10, 180]
def by_X8_fair_9 : List Nat := [0, 86, 182, 0, 179, 154, 0, 9, 42, 5, 182, 0, 76, 172, 21, 5]
def by_X8_fair_z : List Nat := [42, 180, 0, 29, 180, 0, 186, 96, 17, 4, 176, 100, 172]
def by_X8_fair : List (List Nat) := [by_X8_fair_0, by_X8_fair_1, by_X8_fair_2, by_X8_fair_3, by_X8_fair_4, by_X8_fair_5, by_X8_fair_6, by_X8_fair_7, by_X8_fair_8, by_X8_fair_9]
set_option maxRecDepth 100000 in
theorem byo_X8_fair : cX8_fair.data.toList.map UInt8.toNat = by_X8_fair.flatten ++ by_X8_fair_z := by decide +kernel
theorem byl_X8_fair : by_X8_fair.all (fun r => r.length == 16) = true := by decide +kernel
theorem byr_X8_fair_0 {j v : Nat} (h : by_X8_fair_0[j]? = some v) : RD cX8_fair (0 + j) v := rd_16 byo_X8_fair byl_X8_fair 0 rfl h
theorem byr_X8_fair_1 {j v : Nat} (h : by_X8_fair_1[j]? = some v) : RD cX8_fair (16 + j) v := rd_16 byo_X8_fair byl_X8_fair 1 rfl h
theorem byr_X8_fair_2 {j v : Nat} (h : by_X8_fair_2[j]? = some v) : RD cX8_fair (32 + j) v := rd_16 byo_X8_fair byl_X8_fair 2 rfl h
theorem byr_X8_fair_3 {j v : Nat} (h : by_X8_fair_3[j]? = some v) : RD cX8_fair (48 + j) v := rd_16 byo_X8_fair byl_X8_fair 3 rfl h
theorem byr_X8_fair_4 {j v : Nat} (h : by_X8_fair_4[j]? = some v) : RD cX8_fair (64 + j) v := rd_16 byo_X8_fair byl_X8_fair 4 rfl h
theorem byr_X8_fair_5 {j v : Nat} (h : by_X8_fair_5[j]? = some v) : RD cX8_fair (80 + j) v := rd_16 byo_X8_fair byl_X8_fair 5 rfl h
theorem byr_X8_fair_6 {j v : Nat} (h : by_X8_fair_6[j]? = some v) : RD cX8_fair (96 + j) v := rd_16 byo_X8_fair byl_X8_fair 6 rfl h
theorem byr_X8_fair_7 {j v : Nat} (h : by_X8_fair_7[j]? = some v) : RD cX8_fair (112 + j) v := rd_16 byo_X8_fair byl_X8_fair 7 rfl h
theorem byr_X8_fair_8 {j v : Nat} (h : by_X8_fair_8[j]? = some v) : RD cX8_fair (128 + j) v := rd_16 byo_X8_fair byl_X8_fair 8 rfl h
theorem byr_X8_fair_9 {j v : Nat} (h : by_X8_fair_9[j]? = some v) : RD cX8_fair (144 + j) v := rd_16 byo_X8_fair byl_X8_fair 9 rfl h
theorem byr_X8_fair_10 {j v : Nat} (h : by_X8_fair_z[j]? = some v) : RD cX8_fair (160 + j) v := rd_z byo_X8_fair byl_X8_fair 10 rfl h
theorem dX8_fair_0 : decode cX8_fair 0 = .ok (.aload_n 0, 1) := dk_42 (byr_X8_fair_0 (j := 0) rfl)
theorem dX8_fair_1 : decode cX8_fair 1 = .ok (.getfield 10, 3) := dk_180 (byr_X8_fair_0 (j := 1) rfl) (byr_X8_fair_0 (j := 2) rfl) (byr_X8_fair_0 (j := 3) rfl) (by decide)
theorem dX8_fair_4 : decode cX8_fair 4 = .ok (.iload_n 1, 1) := dk_27 (byr_X8_fair_0 (j := 4) rfl)
theorem dX8_fair_5 : decode cX8_fair 5 = .ok (.invokevirtual 99, 3) := dk_182 (byr_X8_fair_0 (j := 5) rfl) (byr_X8_fair_0 (j := 6) rfl) (byr_X8_fair_0 (j := 7) rfl) (by decide)
theorem dX8_fair_8 : decode cX8_fair 8 = .ok (.astore_n 3, 1) := dk_78 (byr_X8_fair_0 (j := 8) rfl)
theorem dX8_fair_9 : decode cX8_fair 9 = .ok (.aload_n 0, 1) := dk_42 (byr_X8_fair_0 (j := 9) rfl)
theorem dX8_fair_10 : decode cX8_fair 10 = .ok (.getfield 10, 3) := dk_180 (byr_X8_fair_0 (j := 10) rfl) (byr_X8_fair_0 (j := 11) rfl) (byr_X8_fair_0 (j := 12) rfl) (by decide)
theorem dX8_fair_13 : decode cX8_fair 13 = .ok (.iload_n 2, 1) := dk_28 (byr_X8_fair_0 (j := 13) rfl)
theorem dX8_fair_14 : decode cX8_fair 14 = .ok (.invokevirtual 99, 3) := dk_182 (byr_X8_fair_0 (j := 14) rfl) (byr_X8_fair_0 (j := 15) rfl) (byr_X8_fair_1 (j := 0) rfl) (by decide)
theorem dX8_fair_17 : decode cX8_fair 17 = .ok (.astore 4, 2) := dk_58 (byr_X8_fair_1 (j := 1) rfl) (byr_X8_fair_1 (j := 2) rfl)
theorem dX8_fair_19 : decode cX8_fair 19 = .ok (.aload_n 3, 1) := dk_45 (byr_X8_fair_1 (j := 3) rfl)
theorem dX8_fair_20 : decode cX8_fair 20 = .ok (.aload 4, 2) := dk_25 (byr_X8_fair_1 (j := 4) rfl) (byr_X8_fair_1 (j := 5) rfl)
theorem dX8_fair_22 : decode cX8_fair 22 = .ok (.invokestatic 175, 3) := dk_184 (byr_X8_fair_1 (j := 6) rfl) (byr_X8_fair_1 (j := 7) rfl) (byr_X8_fair_1 (j := 8) rfl) (by decide)
theorem dX8_fair_25 : decode cX8_fair 25 = .ok (.ifCond .ne 9, 3) := dk_154 (byr_X8_fair_1 (j := 9) rfl) (byr_X8_fair_1 (j := 10) rfl) (byr_X8_fair_1 (j := 11) rfl) (by decide)
theorem dX8_fair_28 : decode cX8_fair 28 = .ok (.aload_n 0, 1) := dk_42 (byr_X8_fair_1 (j := 12) rfl)
theorem dX8_fair_29 : decode cX8_fair 29 = .ok (.iconst 1, 1) := dk_4 (byr_X8_fair_1 (j := 13) rfl)
theorem dX8_fair_30 : decode cX8_fair 30 = .ok (.invokevirtual 76, 3) := dk_182 (byr_X8_fair_1 (j := 14) rfl) (byr_X8_fair_1 (j := 15) rfl) (byr_X8_fair_2 (j := 0) rfl) (by decide)
theorem dX8_fair_33 : decode cX8_fair 33 = .ok (.ireturn, 1) := dk_172 (byr_X8_fair_2 (j := 1) rfl)
theorem dX8_fair_34 : decode cX8_fair 34 = .ok (.aload_n 0, 1) := dk_42 (byr_X8_fair_2 (j := 2) rfl)
theorem dX8_fair_35 : decode cX8_fair 35 = .ok (.getfield 29, 3) := dk_180 (byr_X8_fair_2 (j := 3) rfl) (byr_X8_fair_2 (j := 4) rfl) (byr_X8_fair_2 (j := 5) rfl) (by decide)
theorem dX8_fair_38 : decode cX8_fair 38 = .ok (.aload_n 0, 1) := dk_42 (byr_X8_fair_2 (j := 6) rfl)
theorem dX8_fair_39 : decode cX8_fair 39 = .ok (.getfield 10, 3) := dk_180 (byr_X8_fair_2 (j := 7) rfl) (byr_X8_fair_2 (j := 8) rfl) (byr_X8_fair_2 (j := 9) rfl) (by decide)
theorem dX8_fair_42 : decode cX8_fair 42 = .ok (.aload_n 0, 1) := dk_42 (byr_X8_fair_2 (j := 10) rfl)
theorem dX8_fair_43 : decode cX8_fair 43 = .ok (.getfield 10, 3) := dk_180 (byr_X8_fair_2 (j := 11) rfl) (byr_X8_fair_2 (j := 12) rfl) (byr_X8_fair_2 (j := 13) rfl) (by decide)
theorem dX8_fair_46 : decode cX8_fair 46 = .ok (.getfield 83, 3) := dk_180 (byr_X8_fair_2 (j := 14) rfl) (byr_X8_fair_2 (j := 15) rfl) (byr_X8_fair_3 (j := 0) rfl) (by decide)
theorem dX8_fair_49 : decode cX8_fair 49 = .ok (.invokevirtual 167, 3) := dk_182 (byr_X8_fair_3 (j := 1) rfl) (byr_X8_fair_3 (j := 2) rfl) (byr_X8_fair_3 (j := 3) rfl) (by decide)
theorem dX8_fair_52 : decode cX8_fair 52 = .ok (.aload_n 0, 1) := dk_42 (byr_X8_fair_3 (j := 4) rfl)
theorem dX8_fair_53 : decode cX8_fair 53 = .ok (.getfield 29, 3) := dk_180 (byr_X8_fair_3 (j := 5) rfl) (byr_X8_fair_3 (j := 6) rfl) (byr_X8_fair_3 (j := 7) rfl) (by decide)
theorem dX8_fair_56 : decode cX8_fair 56 = .ok (.aload_n 3, 1) := dk_45 (byr_X8_fair_3 (j := 8) rfl)
theorem dX8_fair_57 : decode cX8_fair 57 = .ok (.aload 4, 2) := dk_25 (byr_X8_fair_3 (j := 9) rfl) (byr_X8_fair_3 (j := 10) rfl)
theorem dX8_fair_59 : decode cX8_fair 59 = .ok (.aload_n 0, 1) := dk_42 (byr_X8_fair_3 (j := 11) rfl)
theorem dX8_fair_60 : decode cX8_fair 60 = .ok (.getfield 10, 3) := dk_180 (byr_X8_fair_3 (j := 12) rfl) (byr_X8_fair_3 (j := 13) rfl) (byr_X8_fair_3 (j := 14) rfl) (by decide)
theorem dX8_fair_63 : decode cX8_fair 63 = .ok (.getfield 86, 3) := dk_180 (byr_X8_fair_3 (j := 15) rfl) (byr_X8_fair_4 (j := 0) rfl) (byr_X8_fair_4 (j := 1) rfl) (by decide)
theorem dX8_fair_66 : decode cX8_fair 66 = .ok (.invokevirtual 179, 3) := dk_182 (byr_X8_fair_4 (j := 2) rfl) (byr_X8_fair_4 (j := 3) rfl) (byr_X8_fair_4 (j := 4) rfl) (by decide)
theorem dX8_fair_69 : decode cX8_fair 69 = .ok (.ifCond .ne 9, 3) := dk_154 (byr_X8_fair_4 (j := 5) rfl) (byr_X8_fair_4 (j := 6) rfl) (byr_X8_fair_4 (j := 7) rfl) (by decide)
theorem dX8_fair_72 : decode cX8_fair 72 = .ok (.aload_n 0, 1) := dk_42 (byr_X8_fair_4 (j := 8) rfl)
theorem dX8_fair_73 : decode cX8_fair 73 = .ok (.iconst 2, 1) := dk_5 (byr_X8_fair_4 (j := 9) rfl)
theorem dX8_fair_74 : decode cX8_fair 74 = .ok (.invokevirtual 76, 3) := dk_182 (byr_X8_fair_4 (j := 10) rfl) (byr_X8_fair_4 (j := 11) rfl) (byr_X8_fair_4 (j := 12) rfl) (by decide)
theorem dX8_fair_77 : decode cX8_fair 77 = .ok (.ireturn, 1) := dk_172 (byr_X8_fair_4 (j := 13) rfl)
theorem dX8_fair_78 : decode cX8_fair 78 = .ok (.aload_n 0, 1) := dk_42 (byr_X8_fair_4 (j := 14) rfl)
theorem dX8_fair_79 : decode cX8_fair 79 = .ok (.getfield 29, 3) := dk_180 (byr_X8_fair_4 (j := 15) rfl) (byr_X8_fair_5 (j := 0) rfl) (byr_X8_fair_5 (j := 1) rfl) (by decide)
theorem dX8_fair_82 : decode cX8_fair 82 = .ok (.getfield 186, 3) := dk_180 (byr_X8_fair_5 (j := 2) rfl) (byr_X8_fair_5 (j := 3) rfl) (byr_X8_fair_5 (j := 4) rfl) (by decide)
theorem dX8_fair_85 : decode cX8_fair 85 = .ok (.istore 5, 2) := dk_54 (byr_X8_fair_5 (j := 5) rfl) (byr_X8_fair_5 (j := 6) rfl)
theorem dX8_fair_87 : decode cX8_fair 87 = .ok (.aload_n 0, 1) := dk_42 (byr_X8_fair_5 (j := 7) rfl)
theorem dX8_fair_88 : decode cX8_fair 88 = .ok (.getfield 60, 3) := dk_180 (byr_X8_fair_5 (j := 8) rfl) (byr_X8_fair_5 (j := 9) rfl) (byr_X8_fair_5 (j := 10) rfl) (by decide)
theorem dX8_fair_91 : decode cX8_fair 91 = .ok (.aload_n 3, 1) := dk_45 (byr_X8_fair_5 (j := 11) rfl)
theorem dX8_fair_92 : decode cX8_fair 92 = .ok (.invokevirtual 229, 3) := dk_182 (byr_X8_fair_5 (j := 12) rfl) (byr_X8_fair_5 (j := 13) rfl) (byr_X8_fair_5 (j := 14) rfl) (by decide)
theorem dX8_fair_95 : decode cX8_fair 95 = .ok (.aload_n 0, 1) := dk_42 (byr_X8_fair_5 (j := 15) rfl)
theorem dX8_fair_96 : decode cX8_fair 96 = .ok (.getfield 60, 3) := dk_180 (byr_X8_fair_6 (j := 0) rfl) (byr_X8_fair_6 (j := 1) rfl) (byr_X8_fair_6 (j := 2) rfl) (by decide)
theorem dX8_fair_99 : decode cX8_fair 99 = .ok (.aload 4, 2) := dk_25 (byr_X8_fair_6 (j := 3) rfl) (byr_X8_fair_6 (j := 4) rfl)
theorem dX8_fair_101 : decode cX8_fair 101 = .ok (.getfield 113, 3) := dk_180 (byr_X8_fair_6 (j := 5) rfl) (byr_X8_fair_6 (j := 6) rfl) (byr_X8_fair_6 (j := 7) rfl) (by decide)
theorem dX8_fair_104 : decode cX8_fair 104 = .ok (.putfield 113, 3) := dk_181 (byr_X8_fair_6 (j := 8) rfl) (byr_X8_fair_6 (j := 9) rfl) (byr_X8_fair_6 (j := 10) rfl) (by decide)
theorem dX8_fair_107 : decode cX8_fair 107 = .ok (.aload_n 0, 1) := dk_42 (byr_X8_fair_6 (j := 11) rfl)
theorem dX8_fair_108 : decode cX8_fair 108 = .ok (.getfield 64, 3) := dk_180 (byr_X8_fair_6 (j := 12) rfl) (byr_X8_fair_6 (j := 13) rfl) (byr_X8_fair_6 (j := 14) rfl) (by decide)
theorem dX8_fair_111 : decode cX8_fair 111 = .ok (.aload 4, 2) := dk_25 (byr_X8_fair_6 (j := 15) rfl) (byr_X8_fair_7 (j := 0) rfl)
theorem dX8_fair_113 : decode cX8_fair 113 = .ok (.invokevirtual 229, 3) := dk_182 (byr_X8_fair_7 (j := 1) rfl) (byr_X8_fair_7 (j := 2) rfl) (byr_X8_fair_7 (j := 3) rfl) (by decide)
theorem dX8_fair_116 : decode cX8_fair 116 = .ok (.aload_n 0, 1) := dk_42 (byr_X8_fair_7 (j := 4) rfl)
theorem dX8_fair_117 : decode cX8_fair 117 = .ok (.getfield 64, 3) := dk_180 (byr_X8_fair_7 (j := 5) rfl) (byr_X8_fair_7 (j := 6) rfl) (byr_X8_fair_7 (j := 7) rfl) (by decide)
theorem dX8_fair_120 : decode cX8_fair 120 = .ok (.aload_n 3, 1) := dk_45 (byr_X8_fair_7 (j := 8) rfl)
theorem dX8_fair_121 : decode cX8_fair 121 = .ok (.getfield 113, 3) := dk_180 (byr_X8_fair_7 (j := 9) rfl) (byr_X8_fair_7 (j := 10) rfl) (byr_X8_fair_7 (j := 11) rfl) (by decide)
theorem dX8_fair_124 : decode cX8_fair 124 = .ok (.putfield 113, 3) := dk_181 (byr_X8_fair_7 (j := 12) rfl) (byr_X8_fair_7 (j := 13) rfl) (byr_X8_fair_7 (j := 14) rfl) (by decide)
theorem dX8_fair_127 : decode cX8_fair 127 = .ok (.aload_n 0, 1) := dk_42 (byr_X8_fair_7 (j := 15) rfl)
theorem dX8_fair_128 : decode cX8_fair 128 = .ok (.getfield 29, 3) := dk_180 (byr_X8_fair_8 (j := 0) rfl) (byr_X8_fair_8 (j := 1) rfl) (byr_X8_fair_8 (j := 2) rfl) (by decide)
theorem dX8_fair_131 : decode cX8_fair 131 = .ok (.aload_n 0, 1) := dk_42 (byr_X8_fair_8 (j := 3) rfl)
theorem dX8_fair_132 : decode cX8_fair 132 = .ok (.getfield 60, 3) := dk_180 (byr_X8_fair_8 (j := 4) rfl) (byr_X8_fair_8 (j := 5) rfl) (byr_X8_fair_8 (j := 6) rfl) (by decide)
theorem dX8_fair_135 : decode cX8_fair 135 = .ok (.aload_n 0, 1) := dk_42 (byr_X8_fair_8 (j := 7) rfl)
theorem dX8_fair_136 : decode cX8_fair 136 = .ok (.getfield 64, 3) := dk_180 (byr_X8_fair_8 (j := 8) rfl) (byr_X8_fair_8 (j := 9) rfl) (byr_X8_fair_8 (j := 10) rfl) (by decide)
theorem dX8_fair_139 : decode cX8_fair 139 = .ok (.aload_n 0, 1) := dk_42 (byr_X8_fair_8 (j := 11) rfl)
theorem dX8_fair_140 : decode cX8_fair 140 = .ok (.getfield 10, 3) := dk_180 (byr_X8_fair_8 (j := 12) rfl) (byr_X8_fair_8 (j := 13) rfl) (byr_X8_fair_8 (j := 14) rfl) (by decide)
theorem dX8_fair_143 : decode cX8_fair 143 = .ok (.getfield 86, 3) := dk_180 (byr_X8_fair_8 (j := 15) rfl) (byr_X8_fair_9 (j := 0) rfl) (byr_X8_fair_9 (j := 1) rfl) (by decide)
theorem dX8_fair_146 : decode cX8_fair 146 = .ok (.invokevirtual 179, 3) := dk_182 (byr_X8_fair_9 (j := 2) rfl) (byr_X8_fair_9 (j := 3) rfl) (byr_X8_fair_9 (j := 4) rfl) (by decide)
theorem dX8_fair_149 : decode cX8_fair 149 = .ok (.ifCond .ne 9, 3) := dk_154 (byr_X8_fair_9 (j := 5) rfl) (byr_X8_fair_9 (j := 6) rfl) (byr_X8_fair_9 (j := 7) rfl) (by decide)
theorem dX8_fair_152 : decode cX8_fair 152 = .ok (.aload_n 0, 1) := dk_42 (byr_X8_fair_9 (j := 8) rfl)
theorem dX8_fair_153 : decode cX8_fair 153 = .ok (.iconst 2, 1) := dk_5 (byr_X8_fair_9 (j := 9) rfl)
theorem dX8_fair_154 : decode cX8_fair 154 = .ok (.invokevirtual 76, 3) := dk_182 (byr_X8_fair_9 (j := 10) rfl) (byr_X8_fair_9 (j := 11) rfl) (byr_X8_fair_9 (j := 12) rfl) (by decide)
theorem dX8_fair_157 : decode cX8_fair 157 = .ok (.ireturn, 1) := dk_172 (byr_X8_fair_9 (j := 13) rfl)
theorem dX8_fair_158 : decode cX8_fair 158 = .ok (.iload 5, 2) := dk_21 (byr_X8_fair_9 (j := 14) rfl) (byr_X8_fair_9 (j := 15) rfl)
theorem dX8_fair_160 : decode cX8_fair 160 = .ok (.aload_n 0, 1) := dk_42 (byr_X8_fair_10 (j := 0) rfl)
theorem dX8_fair_161 : decode cX8_fair 161 = .ok (.getfield 29, 3) := dk_180 (byr_X8_fair_10 (j := 1) rfl) (byr_X8_fair_10 (j := 2) rfl) (byr_X8_fair_10 (j := 3) rfl) (by decide)
theorem dX8_fair_164 : decode cX8_fair 164 = .ok (.getfield 186, 3) := dk_180 (byr_X8_fair_10 (j := 4) rfl) (byr_X8_fair_10 (j := 5) rfl) (byr_X8_fair_10 (j := 6) rfl) (by decide)
theorem dX8_fair_167 : decode cX8_fair 167 = .ok (.iadd, 1) := dk_96 (byr_X8_fair_10 (j := 7) rfl)
theorem dX8_fair_168 : decode cX8_fair 168 = .ok (.sipush 1200, 3) := dk_17 (byr_X8_fair_10 (j := 8) rfl) (byr_X8_fair_10 (j := 9) rfl) (byr_X8_fair_10 (j := 10) rfl) (by decide)
theorem dX8_fair_171 : decode cX8_fair 171 = .ok (.isub, 1) := dk_100 (byr_X8_fair_10 (j := 11) rfl)
theorem dX8_fair_172 : decode cX8_fair 172 = .ok (.ireturn, 1) := dk_172 (byr_X8_fair_10 (j := 12) rfl)
set_option maxHeartbeats 4000000 in
set_option maxRecDepth 100000 in
theorem c_X8_fair (l : Launch) (G : GT) (σ : Sto) (a1 : Int32) (a2 : Int32) (r : (Int32 × Sto)) (h : f_X8_fair σ a1 a2 = some r) : MW l G (7) (181) 0 0 yX8_fair cX8_fair 6 (Option.some Jvm.ClassFile.FieldType.int) [.ref (gad G 0), .int a1, .int a2] (wl G σ) (some (.int r.1)) (wl G r.2) := by
  refine mw_of RX8 (fiI G) [(0, .ref (gad G 0)), (1, .int a1), (2, .int a2)] (by decide +kernel) rfl (Nat.le_of_ble_eq_true rfl) rfl h rfl (fun p e s m args below meth c X hr hnm => ?_)
  unfold f_X8_fair
  refine sm_aload_n X 1 0 dX8_fair_0 rfl rfl rfl ?_
  refine sm_getf X 4 1 rfl fd_8_0 rfl dX8_fair_1 rfl q_289 ?_
  refine sm_iload_n X 5 1 dX8_fair_4 rfl rfl rfl ?_
  refine sm_bind (fun r5 h5 => ?_)
  refine sm_callV0 X 8 [.int a1] [] [va_re (gad G) r5] (c_X0_swimmerAt l G σ 1 rfl a1 r5 h5) cw_X0_swimmerAt q_376 q_377 q_375 rfl (by decide) rfl rfl rfl rfl rfl (Nat.le_of_ble_eq_true rfl) ⟨Nat.le_of_ble_eq_true rfl, Nat.le_of_ble_eq_true rfl⟩ ⟨Nat.le_refl _, Nat.le_refl _⟩ dX8_fair_5 rfl ?_
  refine sm_astore_nq X 9 [(3, va_re (gad G) r5), (0, .ref (gad G 0)), (1, .int a1), (2, .int a2)] dX8_fair_8 rfl rfl (by decide) rfl ?_
  refine sm_aload_n X 10 1 dX8_fair_9 rfl rfl rfl ?_
  refine sm_getf X 13 1 rfl fd_8_0 rfl dX8_fair_10 rfl q_289 ?_
  refine sm_iload_n X 14 3 dX8_fair_13 rfl rfl rfl ?_
  refine sm_bind (fun r14 h14 => ?_)
  refine sm_callV0 X 17 [.int a2] [] [va_re (gad G) r14] (c_X0_swimmerAt l G σ 1 rfl a2 r14 h14) cw_X0_swimmerAt q_376 q_377 q_375 rfl (by decide) rfl rfl rfl rfl rfl (Nat.le_of_ble_eq_true rfl) ⟨Nat.le_of_ble_eq_true rfl, Nat.le_of_ble_eq_true rfl⟩ ⟨Nat.le_refl _, Nat.le_refl _⟩ dX8_fair_14 rfl ?_
  refine sm_astoreq X 19 [(4, va_re (gad G) r14), (3, va_re (gad G) r5), (0, .ref (gad G 0)), (1, .int a1), (2, .int a2)] dX8_fair_17 rfl (by decide) (by cases r5 <;> rfl) ?_
  refine sm_aload_nq X 20 1 dX8_fair_19 rfl rfl rfl ?_
  refine sm_aloadq X 22 0 dX8_fair_20 rfl rfl ?_
  refine sm_bind (fun r22 h22 => ?_)
  refine sm_callS0 X 25 [va_re (gad G) r5, va_re (gad G) r14] [] [.int (b2i r22)] (c_X8_areUnlike l G σ r5 r14 r22 h22) cw_X8_areUnlike q_636 q_635 rfl rfl rfl (Nat.le_of_ble_eq_true rfl) ⟨Nat.le_of_ble_eq_true rfl, Nat.le_of_ble_eq_true rfl⟩ ⟨Nat.le_refl _, Nat.le_refl _⟩ dX8_fair_22 rfl ?_
  refine sm_ifz_ne X 28 34 dX8_fair_25 rfl (by decide) (fun h25 => ?_) (fun h25 => ?_)
  · refine sm_aload_n X 35 2 dX8_fair_34 rfl rfl rfl ?_
    refine sm_getf X 38 58 rfl fd_8_3 rfl dX8_fair_35 rfl q_292 ?_
    refine sm_aload_n X 39 2 dX8_fair_38 rfl rfl rfl ?_
    refine sm_getf X 42 1 rfl fd_8_0 rfl dX8_fair_39 rfl q_289 ?_
    refine sm_aload_n X 43 2 dX8_fair_42 rfl rfl rfl ?_
    refine sm_getf X 46 1 rfl fd_8_0 rfl dX8_fair_43 rfl q_289 ?_
    refine sm_geti X 49 rfl fd_0_1 dX8_fair_46 rfl q_92 ?_
    refine sm_bind (fun r49 h49 => ?_)
    refine sm_callV0 X 52 [.ref (gad G 1), .int (σ.1 1 1)] [] [] (c_X5_feel l G σ 1 rfl (σ.1 1 1) r49 h49) cw_X5_feel q_603 q_604 q_602 rfl (by decide) rfl rfl rfl rfl rfl (Nat.le_of_ble_eq_true rfl) ⟨Nat.le_of_ble_eq_true rfl, Nat.le_of_ble_eq_true rfl⟩ ⟨Nat.le_refl _, Nat.le_refl _⟩ dX8_fair_49 rfl ?_
    refine sm_aload_n X 53 2 dX8_fair_52 rfl rfl rfl ?_
    refine sm_getf X 56 58 rfl fd_8_3 rfl dX8_fair_53 rfl q_292 ?_
    refine sm_aload_nq X 57 1 dX8_fair_56 rfl rfl rfl ?_
    refine sm_aloadq X 59 0 dX8_fair_57 rfl rfl ?_
    refine sm_aload_n X 60 2 dX8_fair_59 rfl rfl rfl ?_
    refine sm_getf X 63 1 rfl fd_8_0 rfl dX8_fair_60 rfl q_289 ?_
    refine sm_geti X 66 rfl fd_0_2 dX8_fair_63 rfl q_94 ?_
    refine sm_deref (fun k66 h hk66 => ?_)
    subst h
    refine sm_deref (fun k66' h hk66' => ?_)
    subst h
    refine sm_bind (fun r66 h66 => ?_)
    refine sm_callV0 X 69 [.ref (gad G k66), .ref (gad G k66'), .int (r49.1 1 2)] [] [.int (b2i r66.1)] (c_X5_meets l G r49 k66 hk66 k66' hk66' (r49.1 1 2) r66 h66) cw_X5_meets q_639 q_640 q_638 rfl (by decide) rfl rfl rfl rfl rfl (Nat.le_of_ble_eq_true rfl) ⟨Nat.le_of_ble_eq_true rfl, Nat.le_of_ble_eq_true rfl⟩ ⟨Nat.le_refl _, Nat.le_refl _⟩ dX8_fair_66 rfl ?_
    refine sm_ifz_ne X 72 78 dX8_fair_69 rfl (by decide) (fun h69 => ?_) (fun h69 => ?_)
    · refine sm_aload_n X 79 2 dX8_fair_78 rfl rfl rfl ?_
      refine sm_getf X 82 58 rfl fd_8_3 rfl dX8_fair_79 rfl q_292 ?_
      refine sm_geti X 85 rfl fd_5_2 dX8_fair_82 rfl q_190 ?_
      refine sm_istore X 87 [(5, .int (r66.2.1 58 2)), (4, .ref (gad G k66')), (3, .ref (gad G k66)), (0, .ref (gad G 0)), (1, .int a1), (2, .int a2)] dX8_fair_85 rfl (by decide) rfl ?_
      refine sm_aload_n X 88 3 dX8_fair_87 rfl rfl rfl ?_
      refine sm_getf X 91 69 rfl fd_8_8 rfl dX8_fair_88 rfl q_297 ?_
      refine sm_aload_n X 92 2 dX8_fair_91 rfl rfl rfl ?_
      refine sm_bind (fun r92 h92 => ?_)
      refine sm_callV0 X 95 [.ref (gad G k66)] [] [] (c_X6_copy l G r66.2 69 rfl k66 hk66 r92 h92) cw_X6_copy q_686 q_687 q_728 rfl (by decide) rfl rfl rfl rfl rfl (Nat.le_of_ble_eq_true rfl) ⟨Nat.le_of_ble_eq_true rfl, Nat.le_of_ble_eq_true rfl⟩ ⟨Nat.le_refl _, Nat.le_refl _⟩ dX8_fair_92 rfl ?_
      refine sm_aload_n X 96 3 dX8_fair_95 rfl rfl rfl ?_
      refine sm_getf X 99 69 rfl fd_8_8 rfl dX8_fair_96 rfl q_297 ?_
      refine sm_aload X 101 1 dX8_fair_99 rfl rfl ?_
      refine sm_geti X 104 hk66' fd_6_2 dX8_fair_101 rfl q_68 ?_
      refine sm_puti X 107 .int rfl fd_6_2 (by decide) rfl rfl rfl dX8_fair_104 rfl q_68 (fun σ104 e104 => ?_)
      clear e104
      refine sm_aload_n X 108 3 dX8_fair_107 rfl rfl rfl ?_
      refine sm_getf X 111 71 rfl fd_8_9 rfl dX8_fair_108 rfl q_298 ?_
      refine sm_aload X 113 1 dX8_fair_111 rfl rfl ?_
      refine sm_bind (fun r113 h113 => ?_)
      refine sm_callV0 X 116 [.ref (gad G k66')] [] [] (c_X6_copy l G σ104 71 rfl k66' hk66' r113 h113) cw_X6_copy q_686 q_687 q_728 rfl (by decide) rfl rfl rfl rfl rfl (Nat.le_of_ble_eq_true rfl) ⟨Nat.le_of_ble_eq_true rfl, Nat.le_of_ble_eq_true rfl⟩ ⟨Nat.le_refl _, Nat.le_refl _⟩ dX8_fair_113 rfl ?_
      refine sm_aload_n X 117 3 dX8_fair_116 rfl rfl rfl ?_
      refine sm_getf X 120 71 rfl fd_8_9 rfl dX8_fair_117 rfl q_298 ?_
      refine sm_aload_n X 121 2 dX8_fair_120 rfl rfl rfl ?_
      refine sm_geti X 124 hk66 fd_6_2 dX8_fair_121 rfl q_68 ?_
      refine sm_puti X 127 .int rfl fd_6_2 (by decide) rfl rfl rfl dX8_fair_124 rfl q_68 (fun σ124 e124 => ?_)
      clear e124
      refine sm_aload_n X 128 3 dX8_fair_127 rfl rfl rfl ?_
      refine sm_getf X 131 58 rfl fd_8_3 rfl dX8_fair_128 rfl q_292 ?_
      refine sm_aload_n X 132 3 dX8_fair_131 rfl rfl rfl ?_
      refine sm_getf X 135 69 rfl fd_8_8 rfl dX8_fair_132 rfl q_297 ?_
      refine sm_aload_n X 136 3 dX8_fair_135 rfl rfl rfl ?_
      refine sm_getf X 139 71 rfl fd_8_9 rfl dX8_fair_136 rfl q_298 ?_
      refine sm_aload_n X 140 3 dX8_fair_139 rfl rfl rfl ?_
      refine sm_getf X 143 1 rfl fd_8_0 rfl dX8_fair_140 rfl q_289 ?_
      refine sm_geti X 146 rfl fd_0_2 dX8_fair_143 rfl q_94 ?_
      refine sm_bind (fun r146 h146 => ?_)
      refine sm_callV0 X 149 [.ref (gad G 69), .ref (gad G 71), .int (σ124.1 1 2)] [] [.int (b2i r146.1)] (c_X5_meets l G σ124 69 rfl 71 rfl (σ124.1 1 2) r146 h146) cw_X5_meets q_639 q_640 q_638 rfl (by decide) rfl rfl rfl rfl rfl (Nat.le_of_ble_eq_true rfl) ⟨Nat.le_of_ble_eq_true rfl, Nat.le_of_ble_eq_true rfl⟩ ⟨Nat.le_refl _, Nat.le_refl _⟩ dX8_fair_146 rfl ?_
      refine sm_ifz_ne X 152 158 dX8_fair_149 rfl (by decide) (fun h149 => ?_) (fun h149 => ?_)
      · refine sm_iload X 160 0 dX8_fair_158 rfl rfl ?_
        refine sm_aload_n X 161 3 dX8_fair_160 rfl rfl rfl ?_
        refine sm_getf X 164 58 rfl fd_8_3 rfl dX8_fair_161 rfl q_292 ?_
        refine sm_geti X 167 rfl fd_5_2 dX8_fair_164 rfl q_190 ?_
        refine sm_iadd X 168 dX8_fair_167 rfl ?_
        refine sm_sipush X 171 (1200) dX8_fair_168 rfl rfl ?_
        refine sm_isub X 172 dX8_fair_171 rfl ?_
        exact sm_iret X hr dX8_fair_172 rfl
      · refine sm_aload_n X 153 3 dX8_fair_152 rfl rfl rfl ?_
        refine sm_iconst X 154 (2) dX8_fair_153 rfl rfl ?_
        refine sm_bind (fun r154 h154 => ?_)
        refine sm_callV0 X 157 [.int 2] [] [.int r154.1] (c_X8_refuse l G r146.2 (2 : Int32) r154 h154) cw_X8_refuse q_332 qs_0 q_330 rfl (by decide) rfl rfl rfl rfl rfl (Nat.le_of_ble_eq_true rfl) ⟨Nat.le_of_ble_eq_true rfl, Nat.le_of_ble_eq_true rfl⟩ ⟨Nat.le_refl _, Nat.le_refl _⟩ dX8_fair_154 rfl ?_
        exact sm_iret X hr dX8_fair_157 rfl
    · refine sm_aload_n X 73 2 dX8_fair_72 rfl rfl rfl ?_
      refine sm_iconst X 74 (2) dX8_fair_73 rfl rfl ?_
      refine sm_bind (fun r74 h74 => ?_)
      refine sm_callV0 X 77 [.int 2] [] [.int r74.1] (c_X8_refuse l G r66.2 (2 : Int32) r74 h74) cw_X8_refuse q_332 qs_0 q_330 rfl (by decide) rfl rfl rfl rfl rfl (Nat.le_of_ble_eq_true rfl) ⟨Nat.le_of_ble_eq_true rfl, Nat.le_of_ble_eq_true rfl⟩ ⟨Nat.le_refl _, Nat.le_refl _⟩ dX8_fair_74 rfl ?_
      exact sm_iret X hr dX8_fair_77 rfl
  · refine sm_aload_n X 29 2 dX8_fair_28 rfl rfl rfl ?_
    refine sm_iconst X 30 (1) dX8_fair_29 rfl rfl ?_
    refine sm_bind (fun r30 h30 => ?_)
    refine sm_callV0 X 33 [.int 1] [] [.int r30.1] (c_X8_refuse l G σ (1 : Int32) r30 h30) cw_X8_refuse q_332 qs_0 q_330 rfl (by decide) rfl rfl rfl rfl rfl (Nat.le_of_ble_eq_true rfl) ⟨Nat.le_of_ble_eq_true rfl, Nat.le_of_ble_eq_true rfl⟩ ⟨Nat.le_refl _, Nat.le_refl _⟩ dX8_fair_30 rfl ?_
    exact sm_iret X hr dX8_fair_33 rfl
def by_X8_seed_0 : List Nat := [42, 180, 0, 10, 180, 0, 233, 61, 42, 180, 0, 10, 27, 181, 0, 233]
def by_X8_seed_z : List Nat := [28, 172]
def by_X8_seed : List (List Nat) := [by_X8_seed_0]
set_option maxRecDepth 100000 in
theorem byo_X8_seed : cX8_seed.data.toList.map UInt8.toNat = by_X8_seed.flatten ++ by_X8_seed_z := by decide +kernel
theorem byl_X8_seed : by_X8_seed.all (fun r => r.length == 16) = true := by decide +kernel
theorem byr_X8_seed_0 {j v : Nat} (h : by_X8_seed_0[j]? = some v) : RD cX8_seed (0 + j) v := rd_16 byo_X8_seed byl_X8_seed 0 rfl h
theorem byr_X8_seed_1 {j v : Nat} (h : by_X8_seed_z[j]? = some v) : RD cX8_seed (16 + j) v := rd_z byo_X8_seed byl_X8_seed 1 rfl h
theorem dX8_seed_0 : decode cX8_seed 0 = .ok (.aload_n 0, 1) := dk_42 (byr_X8_seed_0 (j := 0) rfl)
theorem dX8_seed_1 : decode cX8_seed 1 = .ok (.getfield 10, 3) := dk_180 (byr_X8_seed_0 (j := 1) rfl) (byr_X8_seed_0 (j := 2) rfl) (byr_X8_seed_0 (j := 3) rfl) (by decide)
theorem dX8_seed_4 : decode cX8_seed 4 = .ok (.getfield 233, 3) := dk_180 (byr_X8_seed_0 (j := 4) rfl) (byr_X8_seed_0 (j := 5) rfl) (byr_X8_seed_0 (j := 6) rfl) (by decide)
theorem dX8_seed_7 : decode cX8_seed 7 = .ok (.istore_n 2, 1) := dk_61 (byr_X8_seed_0 (j := 7) rfl)
theorem dX8_seed_8 : decode cX8_seed 8 = .ok (.aload_n 0, 1) := dk_42 (byr_X8_seed_0 (j := 8) rfl)
theorem dX8_seed_9 : decode cX8_seed 9 = .ok (.getfield 10, 3) := dk_180 (byr_X8_seed_0 (j := 9) rfl) (byr_X8_seed_0 (j := 10) rfl) (byr_X8_seed_0 (j := 11) rfl) (by decide)
theorem dX8_seed_12 : decode cX8_seed 12 = .ok (.iload_n 1, 1) := dk_27 (byr_X8_seed_0 (j := 12) rfl)
theorem dX8_seed_13 : decode cX8_seed 13 = .ok (.putfield 233, 3) := dk_181 (byr_X8_seed_0 (j := 13) rfl) (byr_X8_seed_0 (j := 14) rfl) (byr_X8_seed_0 (j := 15) rfl) (by decide)
theorem dX8_seed_16 : decode cX8_seed 16 = .ok (.iload_n 2, 1) := dk_28 (byr_X8_seed_1 (j := 0) rfl)
theorem dX8_seed_17 : decode cX8_seed 17 = .ok (.ireturn, 1) := dk_172 (byr_X8_seed_1 (j := 1) rfl)
set_option maxHeartbeats 4000000 in
set_option maxRecDepth 100000 in
theorem c_X8_seed (l : Launch) (G : GT) (σ : Sto) (a1 : Int32) (r : (Int32 × Sto)) (h : f_X8_seed σ a1 = some r) : MW l G (2) (64) 0 0 yX8_seed cX8_seed 3 (Option.some Jvm.ClassFile.FieldType.int) [.ref (gad G 0), .int a1] (wl G σ) (some (.int r.1)) (wl G r.2) := by
  refine mw_of RX8 (fiI G) [(0, .ref (gad G 0)), (1, .int a1)] (by decide +kernel) rfl (Nat.le_of_ble_eq_true rfl) rfl h rfl (fun p e s m args below meth c X hr hnm => ?_)
  unfold f_X8_seed
  refine sm_aload_n X 1 0 dX8_seed_0 rfl rfl rfl ?_
  refine sm_getf X 4 1 rfl fd_8_0 rfl dX8_seed_1 rfl q_289 ?_
  refine sm_geti X 7 rfl fd_0_15 dX8_seed_4 rfl q_117 ?_
  refine sm_istore_n X 8 [(2, .int (σ.1 1 15)), (0, .ref (gad G 0)), (1, .int a1)] dX8_seed_7 rfl rfl (by decide) rfl ?_
  refine sm_aload_n X 9 1 dX8_seed_8 rfl rfl rfl ?_
  refine sm_getf X 12 1 rfl fd_8_0 rfl dX8_seed_9 rfl q_289 ?_
  refine sm_iload_n X 13 2 dX8_seed_12 rfl rfl rfl ?_
  refine sm_puti X 16 .int rfl fd_0_15 (by decide) rfl rfl rfl dX8_seed_13 rfl q_117 (fun σ13 e13 => ?_)
  clear e13
  refine sm_iload_n X 17 0 dX8_seed_16 rfl rfl rfl ?_
  exact sm_iret X hr dX8_seed_17 rfl
def by_X8_voice_0 : List Nat := [42, 180, 0, 10, 27, 182, 0, 99, 58, 4, 25, 4, 198, 0, 12, 28]
def by_X8_voice_1 : List Nat := [3, 6, 184, 0, 72, 153, 0, 9, 42, 4, 182, 0, 76, 172, 42, 180]
def by_X8_voice_z : List Nat := [0, 43, 25, 4, 27, 28, 29, 182, 0, 236, 172]
def by_X8_voice : List (List Nat) := [by_X8_voice_0, by_X8_voice_1]
set_option maxRecDepth 100000 in
theorem byo_X8_voice : cX8_voice.data.toList.map UInt8.toNat = by_X8_voice.flatten ++ by_X8_voice_z := by decide +kernel
theorem byl_X8_voice : by_X8_voice.all (fun r => r.length == 16) = true := by decide +kernel
theorem byr_X8_voice_0 {j v : Nat} (h : by_X8_voice_0[j]? = some v) : RD cX8_voice (0 + j) v := rd_16 byo_X8_voice byl_X8_voice 0 rfl h
theorem byr_X8_voice_1 {j v : Nat} (h : by_X8_voice_1[j]? = some v) : RD cX8_voice (16 + j) v := rd_16 byo_X8_voice byl_X8_voice 1 rfl h
theorem byr_X8_voice_2 {j v : Nat} (h : by_X8_voice_z[j]? = some v) : RD cX8_voice (32 + j) v := rd_z byo_X8_voice byl_X8_voice 2 rfl h
theorem dX8_voice_0 : decode cX8_voice 0 = .ok (.aload_n 0, 1) := dk_42 (byr_X8_voice_0 (j := 0) rfl)
theorem dX8_voice_1 : decode cX8_voice 1 = .ok (.getfield 10, 3) := dk_180 (byr_X8_voice_0 (j := 1) rfl) (byr_X8_voice_0 (j := 2) rfl) (byr_X8_voice_0 (j := 3) rfl) (by decide)
theorem dX8_voice_4 : decode cX8_voice 4 = .ok (.iload_n 1, 1) := dk_27 (byr_X8_voice_0 (j := 4) rfl)
theorem dX8_voice_5 : decode cX8_voice 5 = .ok (.invokevirtual 99, 3) := dk_182 (byr_X8_voice_0 (j := 5) rfl) (byr_X8_voice_0 (j := 6) rfl) (byr_X8_voice_0 (j := 7) rfl) (by decide)
theorem dX8_voice_8 : decode cX8_voice 8 = .ok (.astore 4, 2) := dk_58 (byr_X8_voice_0 (j := 8) rfl) (byr_X8_voice_0 (j := 9) rfl)
theorem dX8_voice_10 : decode cX8_voice 10 = .ok (.aload 4, 2) := dk_25 (byr_X8_voice_0 (j := 10) rfl) (byr_X8_voice_0 (j := 11) rfl)
theorem dX8_voice_12 : decode cX8_voice 12 = .ok (.ifnull 12, 3) := dk_198 (byr_X8_voice_0 (j := 12) rfl) (byr_X8_voice_0 (j := 13) rfl) (byr_X8_voice_0 (j := 14) rfl) (by decide)
theorem dX8_voice_15 : decode cX8_voice 15 = .ok (.iload_n 2, 1) := dk_28 (byr_X8_voice_0 (j := 15) rfl)
theorem dX8_voice_16 : decode cX8_voice 16 = .ok (.iconst 0, 1) := dk_3 (byr_X8_voice_1 (j := 0) rfl)
theorem dX8_voice_17 : decode cX8_voice 17 = .ok (.iconst 3, 1) := dk_6 (byr_X8_voice_1 (j := 1) rfl)
theorem dX8_voice_18 : decode cX8_voice 18 = .ok (.invokestatic 72, 3) := dk_184 (byr_X8_voice_1 (j := 2) rfl) (byr_X8_voice_1 (j := 3) rfl) (byr_X8_voice_1 (j := 4) rfl) (by decide)
theorem dX8_voice_21 : decode cX8_voice 21 = .ok (.ifCond .eq 9, 3) := dk_153 (byr_X8_voice_1 (j := 5) rfl) (byr_X8_voice_1 (j := 6) rfl) (byr_X8_voice_1 (j := 7) rfl) (by decide)
theorem dX8_voice_24 : decode cX8_voice 24 = .ok (.aload_n 0, 1) := dk_42 (byr_X8_voice_1 (j := 8) rfl)
theorem dX8_voice_25 : decode cX8_voice 25 = .ok (.iconst 1, 1) := dk_4 (byr_X8_voice_1 (j := 9) rfl)
theorem dX8_voice_26 : decode cX8_voice 26 = .ok (.invokevirtual 76, 3) := dk_182 (byr_X8_voice_1 (j := 10) rfl) (byr_X8_voice_1 (j := 11) rfl) (byr_X8_voice_1 (j := 12) rfl) (by decide)
theorem dX8_voice_29 : decode cX8_voice 29 = .ok (.ireturn, 1) := dk_172 (byr_X8_voice_1 (j := 13) rfl)
theorem dX8_voice_30 : decode cX8_voice 30 = .ok (.aload_n 0, 1) := dk_42 (byr_X8_voice_1 (j := 14) rfl)
theorem dX8_voice_31 : decode cX8_voice 31 = .ok (.getfield 43, 3) := dk_180 (byr_X8_voice_1 (j := 15) rfl) (byr_X8_voice_2 (j := 0) rfl) (byr_X8_voice_2 (j := 1) rfl) (by decide)
theorem dX8_voice_34 : decode cX8_voice 34 = .ok (.aload 4, 2) := dk_25 (byr_X8_voice_2 (j := 2) rfl) (byr_X8_voice_2 (j := 3) rfl)
theorem dX8_voice_36 : decode cX8_voice 36 = .ok (.iload_n 1, 1) := dk_27 (byr_X8_voice_2 (j := 4) rfl)
theorem dX8_voice_37 : decode cX8_voice 37 = .ok (.iload_n 2, 1) := dk_28 (byr_X8_voice_2 (j := 5) rfl)
theorem dX8_voice_38 : decode cX8_voice 38 = .ok (.iload_n 3, 1) := dk_29 (byr_X8_voice_2 (j := 6) rfl)
theorem dX8_voice_39 : decode cX8_voice 39 = .ok (.invokevirtual 236, 3) := dk_182 (byr_X8_voice_2 (j := 7) rfl) (byr_X8_voice_2 (j := 8) rfl) (byr_X8_voice_2 (j := 9) rfl) (by decide)
theorem dX8_voice_42 : decode cX8_voice 42 = .ok (.ireturn, 1) := dk_172 (byr_X8_voice_2 (j := 10) rfl)
set_option maxHeartbeats 4000000 in
set_option maxRecDepth 100000 in
theorem c_X8_voice (l : Launch) (G : GT) (σ : Sto) (a1 : Int32) (a2 : Int32) (a3 : Int32) (r : (Int32 × Sto)) (h : f_X8_voice σ a1 a2 a3 = some r) : MW l G (51) (3040) 0 0 yX8_voice cX8_voice 5 (Option.some Jvm.ClassFile.FieldType.int) [.ref (gad G 0), .int a1, .int a2, .int a3] (wl G σ) (some (.int r.1)) (wl G r.2) := by
  refine mw_of RX8 (fiI G) [(0, .ref (gad G 0)), (1, .int a1), (2, .int a2), (3, .int a3)] (by decide +kernel) rfl (Nat.le_of_ble_eq_true rfl) rfl h rfl (fun p e s m args below meth c X hr hnm => ?_)
  unfold f_X8_voice
  refine sm_aload_n X 1 0 dX8_voice_0 rfl rfl rfl ?_
  refine sm_getf X 4 1 rfl fd_8_0 rfl dX8_voice_1 rfl q_289 ?_
  refine sm_iload_n X 5 1 dX8_voice_4 rfl rfl rfl ?_
  refine sm_bind (fun r5 h5 => ?_)
  refine sm_callV0 X 8 [.int a1] [] [va_re (gad G) r5] (c_X0_swimmerAt l G σ 1 rfl a1 r5 h5) cw_X0_swimmerAt q_376 q_377 q_375 rfl (by decide) rfl rfl rfl rfl rfl (Nat.le_of_ble_eq_true rfl) ⟨Nat.le_of_ble_eq_true rfl, Nat.le_of_ble_eq_true rfl⟩ ⟨Nat.le_refl _, Nat.le_refl _⟩ dX8_voice_5 rfl ?_
  refine sm_astoreq X 10 [(4, va_re (gad G) r5), (0, .ref (gad G 0)), (1, .int a1), (2, .int a2), (3, .int a3)] dX8_voice_8 rfl (by decide) rfl ?_
  refine sm_aloadq X 12 0 dX8_voice_10 rfl rfl ?_
  refine sm_ifnull X 15 24 dX8_voice_12 rfl (by decide) (fun hn => ?_) (fun k12 hn => ?_)
  · subst hn
    refine sm_aload_n X 25 1 dX8_voice_24 rfl rfl rfl ?_
    refine sm_iconst X 26 (1) dX8_voice_25 rfl rfl ?_
    refine sm_bind (fun r26 h26 => ?_)
    refine sm_callV0 X 29 [.int 1] [] [.int r26.1] (c_X8_refuse l G σ (1 : Int32) r26 h26) cw_X8_refuse q_332 qs_0 q_330 rfl (by decide) rfl rfl rfl rfl rfl (Nat.le_of_ble_eq_true rfl) ⟨Nat.le_of_ble_eq_true rfl, Nat.le_of_ble_eq_true rfl⟩ ⟨Nat.le_refl _, Nat.le_refl _⟩ dX8_voice_26 rfl ?_
    exact sm_iret X hr dX8_voice_29 rfl
  · subst hn
    refine sm_iload_n X 16 3 dX8_voice_15 rfl rfl rfl ?_
    refine sm_iconst X 17 (0) dX8_voice_16 rfl rfl ?_
    refine sm_iconst X 18 (3) dX8_voice_17 rfl rfl ?_
    refine sm_bind (fun r18 h18 => ?_)
    refine sm_callS0 X 21 [.int a2, .int 0, .int 3] [] [.int (b2i r18)] (c_X8_isOutside l G σ a2 (0 : Int32) (3 : Int32) r18 h18) cw_X8_isOutside q_328 q_327 rfl rfl rfl (Nat.le_of_ble_eq_true rfl) ⟨Nat.le_of_ble_eq_true rfl, Nat.le_of_ble_eq_true rfl⟩ ⟨Nat.le_refl _, Nat.le_refl _⟩ dX8_voice_18 rfl ?_
    refine sm_ifz_eq X 24 30 dX8_voice_21 rfl (by decide) (fun h21 => ?_) (fun h21 => ?_)
    · refine sm_aload_n X 25 1 dX8_voice_24 rfl rfl rfl ?_
      refine sm_iconst X 26 (1) dX8_voice_25 rfl rfl ?_
      refine sm_bind (fun r26 h26 => ?_)
      refine sm_callV0 X 29 [.int 1] [] [.int r26.1] (c_X8_refuse l G σ (1 : Int32) r26 h26) cw_X8_refuse q_332 qs_0 q_330 rfl (by decide) rfl rfl rfl rfl rfl (Nat.le_of_ble_eq_true rfl) ⟨Nat.le_of_ble_eq_true rfl, Nat.le_of_ble_eq_true rfl⟩ ⟨Nat.le_refl _, Nat.le_refl _⟩ dX8_voice_26 rfl ?_
      exact sm_iret X hr dX8_voice_29 rfl
    · refine sm_aload_n X 31 1 dX8_voice_30 rfl rfl rfl ?_
      refine sm_getf X 34 65 rfl fd_8_5 rfl dX8_voice_31 rfl q_294 ?_
      refine sm_aload X 36 0 dX8_voice_34 rfl rfl ?_
      refine sm_iload_n X 37 2 dX8_voice_36 rfl rfl rfl ?_
      refine sm_iload_n X 38 3 dX8_voice_37 rfl rfl rfl ?_
      refine sm_iload_n X 39 4 dX8_voice_38 rfl rfl rfl ?_
      refine sm_guard (fun hk12 => ?_)
      refine sm_bind (fun r39 h39 => ?_)
      refine sm_callV0 X 42 [.ref (gad G k12), .int a1, .int a2, .int a3] [] [.int r39.1] (c_X7_speak l G σ k12 hk12 a1 a2 a3 r39 h39) cw_X7_speak q_770 q_771 q_769 rfl (by decide) rfl rfl rfl rfl rfl (Nat.le_of_ble_eq_true rfl) ⟨Nat.le_of_ble_eq_true rfl, Nat.le_of_ble_eq_true rfl⟩ ⟨Nat.le_refl _, Nat.le_refl _⟩ dX8_voice_39 rfl ?_
      exact sm_iret X hr dX8_voice_42 rfl
def by_X8_trace_0 : List Nat := [27, 3, 42, 180, 0, 43, 180, 0, 240, 4, 100, 184, 0, 72, 154, 0]
def by_X8_trace_1 : List Nat := [15, 27, 42, 180, 0, 43, 180, 0, 243, 190, 161, 0, 9, 42, 5, 182]
def by_X8_trace_z : List Nat := [0, 76, 172, 42, 180, 0, 43, 180, 0, 243, 27, 46, 172]
def by_X8_trace : List (List Nat) := [by_X8_trace_0, by_X8_trace_1]
set_option maxRecDepth 100000 in
theorem byo_X8_trace : cX8_trace.data.toList.map UInt8.toNat = by_X8_trace.flatten ++ by_X8_trace_z := by decide +kernel
theorem byl_X8_trace : by_X8_trace.all (fun r => r.length == 16) = true := by decide +kernel
theorem byr_X8_trace_0 {j v : Nat} (h : by_X8_trace_0[j]? = some v) : RD cX8_trace (0 + j) v := rd_16 byo_X8_trace byl_X8_trace 0 rfl h
theorem byr_X8_trace_1 {j v : Nat} (h : by_X8_trace_1[j]? = some v) : RD cX8_trace (16 + j) v := rd_16 byo_X8_trace byl_X8_trace 1 rfl h
theorem byr_X8_trace_2 {j v : Nat} (h : by_X8_trace_z[j]? = some v) : RD cX8_trace (32 + j) v := rd_z byo_X8_trace byl_X8_trace 2 rfl h
theorem dX8_trace_0 : decode cX8_trace 0 = .ok (.iload_n 1, 1) := dk_27 (byr_X8_trace_0 (j := 0) rfl)
theorem dX8_trace_1 : decode cX8_trace 1 = .ok (.iconst 0, 1) := dk_3 (byr_X8_trace_0 (j := 1) rfl)
theorem dX8_trace_2 : decode cX8_trace 2 = .ok (.aload_n 0, 1) := dk_42 (byr_X8_trace_0 (j := 2) rfl)
theorem dX8_trace_3 : decode cX8_trace 3 = .ok (.getfield 43, 3) := dk_180 (byr_X8_trace_0 (j := 3) rfl) (byr_X8_trace_0 (j := 4) rfl) (byr_X8_trace_0 (j := 5) rfl) (by decide)
theorem dX8_trace_6 : decode cX8_trace 6 = .ok (.getfield 240, 3) := dk_180 (byr_X8_trace_0 (j := 6) rfl) (byr_X8_trace_0 (j := 7) rfl) (byr_X8_trace_0 (j := 8) rfl) (by decide)
theorem dX8_trace_9 : decode cX8_trace 9 = .ok (.iconst 1, 1) := dk_4 (byr_X8_trace_0 (j := 9) rfl)
theorem dX8_trace_10 : decode cX8_trace 10 = .ok (.isub, 1) := dk_100 (byr_X8_trace_0 (j := 10) rfl)
theorem dX8_trace_11 : decode cX8_trace 11 = .ok (.invokestatic 72, 3) := dk_184 (byr_X8_trace_0 (j := 11) rfl) (byr_X8_trace_0 (j := 12) rfl) (byr_X8_trace_0 (j := 13) rfl) (by decide)
theorem dX8_trace_14 : decode cX8_trace 14 = .ok (.ifCond .ne 15, 3) := dk_154 (byr_X8_trace_0 (j := 14) rfl) (byr_X8_trace_0 (j := 15) rfl) (byr_X8_trace_1 (j := 0) rfl) (by decide)
theorem dX8_trace_17 : decode cX8_trace 17 = .ok (.iload_n 1, 1) := dk_27 (byr_X8_trace_1 (j := 1) rfl)
theorem dX8_trace_18 : decode cX8_trace 18 = .ok (.aload_n 0, 1) := dk_42 (byr_X8_trace_1 (j := 2) rfl)
theorem dX8_trace_19 : decode cX8_trace 19 = .ok (.getfield 43, 3) := dk_180 (byr_X8_trace_1 (j := 3) rfl) (byr_X8_trace_1 (j := 4) rfl) (byr_X8_trace_1 (j := 5) rfl) (by decide)
theorem dX8_trace_22 : decode cX8_trace 22 = .ok (.getfield 243, 3) := dk_180 (byr_X8_trace_1 (j := 6) rfl) (byr_X8_trace_1 (j := 7) rfl) (byr_X8_trace_1 (j := 8) rfl) (by decide)
theorem dX8_trace_25 : decode cX8_trace 25 = .ok (.arraylength, 1) := dk_190 (byr_X8_trace_1 (j := 9) rfl)
theorem dX8_trace_26 : decode cX8_trace 26 = .ok (.if_icmp .lt 9, 3) := dk_161 (byr_X8_trace_1 (j := 10) rfl) (byr_X8_trace_1 (j := 11) rfl) (byr_X8_trace_1 (j := 12) rfl) (by decide)
theorem dX8_trace_29 : decode cX8_trace 29 = .ok (.aload_n 0, 1) := dk_42 (byr_X8_trace_1 (j := 13) rfl)
theorem dX8_trace_30 : decode cX8_trace 30 = .ok (.iconst 2, 1) := dk_5 (byr_X8_trace_1 (j := 14) rfl)
theorem dX8_trace_31 : decode cX8_trace 31 = .ok (.invokevirtual 76, 3) := dk_182 (byr_X8_trace_1 (j := 15) rfl) (byr_X8_trace_2 (j := 0) rfl) (byr_X8_trace_2 (j := 1) rfl) (by decide)
theorem dX8_trace_34 : decode cX8_trace 34 = .ok (.ireturn, 1) := dk_172 (byr_X8_trace_2 (j := 2) rfl)
theorem dX8_trace_35 : decode cX8_trace 35 = .ok (.aload_n 0, 1) := dk_42 (byr_X8_trace_2 (j := 3) rfl)
theorem dX8_trace_36 : decode cX8_trace 36 = .ok (.getfield 43, 3) := dk_180 (byr_X8_trace_2 (j := 4) rfl) (byr_X8_trace_2 (j := 5) rfl) (byr_X8_trace_2 (j := 6) rfl) (by decide)
theorem dX8_trace_39 : decode cX8_trace 39 = .ok (.getfield 243, 3) := dk_180 (byr_X8_trace_2 (j := 7) rfl) (byr_X8_trace_2 (j := 8) rfl) (byr_X8_trace_2 (j := 9) rfl) (by decide)
theorem dX8_trace_42 : decode cX8_trace 42 = .ok (.iload_n 1, 1) := dk_27 (byr_X8_trace_2 (j := 10) rfl)
theorem dX8_trace_43 : decode cX8_trace 43 = .ok (.iaload, 1) := dk_46 (byr_X8_trace_2 (j := 11) rfl)
theorem dX8_trace_44 : decode cX8_trace 44 = .ok (.ireturn, 1) := dk_172 (byr_X8_trace_2 (j := 12) rfl)
set_option maxHeartbeats 4000000 in
set_option maxRecDepth 100000 in
theorem c_X8_trace (l : Launch) (G : GT) (σ : Sto) (a1 : Int32) (r : (Int32 × Sto)) (h : f_X8_trace σ a1 = some r) : MW l G (4) (107) 0 0 yX8_trace cX8_trace 2 (Option.some Jvm.ClassFile.FieldType.int) [.ref (gad G 0), .int a1] (wl G σ) (some (.int r.1)) (wl G r.2) := by
  refine mw_of RX8 (fiI G) [(0, .ref (gad G 0)), (1, .int a1)] (by decide +kernel) rfl (Nat.le_of_ble_eq_true rfl) rfl h rfl (fun p e s m args below meth c X hr hnm => ?_)
  unfold f_X8_trace
  refine sm_iload_n X 1 1 dX8_trace_0 rfl rfl rfl ?_
  refine sm_iconst X 2 (0) dX8_trace_1 rfl rfl ?_
  refine sm_aload_n X 3 0 dX8_trace_2 rfl rfl rfl ?_
  refine sm_getf X 6 65 rfl fd_8_5 rfl dX8_trace_3 rfl q_294 ?_
  refine sm_geti X 9 rfl fd_7_1 dX8_trace_6 rfl q_252 ?_
  refine sm_iconst X 10 (1) dX8_trace_9 rfl rfl ?_
  refine sm_isub X 11 dX8_trace_10 rfl ?_
  refine sm_bind (fun r11 h11 => ?_)
  refine sm_callS0 X 14 [.int a1, .int 0, .int ((σ.1 65 1) - (1 : Int32))] [] [.int (b2i r11)] (c_X8_isOutside l G σ a1 (0 : Int32) ((σ.1 65 1) - (1 : Int32)) r11 h11) cw_X8_isOutside q_328 q_327 rfl rfl rfl (Nat.le_of_ble_eq_true rfl) ⟨Nat.le_of_ble_eq_true rfl, Nat.le_of_ble_eq_true rfl⟩ ⟨Nat.le_refl _, Nat.le_refl _⟩ dX8_trace_11 rfl ?_
  refine sm_ifz_ne X 17 29 dX8_trace_14 rfl (by decide) (fun h14 => ?_) (fun h14 => ?_)
  · refine sm_aload_n X 30 0 dX8_trace_29 rfl rfl rfl ?_
    refine sm_iconst X 31 (2) dX8_trace_30 rfl rfl ?_
    refine sm_bind (fun r31 h31 => ?_)
    refine sm_callV0 X 34 [.int 2] [] [.int r31.1] (c_X8_refuse l G σ (2 : Int32) r31 h31) cw_X8_refuse q_332 qs_0 q_330 rfl (by decide) rfl rfl rfl rfl rfl (Nat.le_of_ble_eq_true rfl) ⟨Nat.le_of_ble_eq_true rfl, Nat.le_of_ble_eq_true rfl⟩ ⟨Nat.le_refl _, Nat.le_refl _⟩ dX8_trace_31 rfl ?_
    exact sm_iret X hr dX8_trace_34 rfl
  · refine sm_iload_n X 18 1 dX8_trace_17 rfl rfl rfl ?_
    refine sm_aload_n X 19 0 dX8_trace_18 rfl rfl rfl ?_
    refine sm_getf X 22 65 rfl fd_8_5 rfl dX8_trace_19 rfl q_294 ?_
    refine sm_getf X 25 66 rfl fd_7_0 rfl dX8_trace_22 rfl q_250 ?_
    refine sm_alen X 26 40 (Or.inl rfl) rfl dX8_trace_25 rfl ?_
    refine sm_icmp_lt X 29 35 dX8_trace_26 rfl (by decide) (fun h26 => ?_) (fun h26 => ?_)
    · refine sm_aload_n X 36 0 dX8_trace_35 rfl rfl rfl ?_
      refine sm_getf X 39 65 rfl fd_8_5 rfl dX8_trace_36 rfl q_294 ?_
      refine sm_getf X 42 66 rfl fd_7_0 rfl dX8_trace_39 rfl q_250 ?_
      refine sm_iload_n X 43 1 dX8_trace_42 rfl rfl rfl ?_
      refine sm_iald X 44 rfl dX8_trace_43 rfl (fun r43 e43 => ?_)
      clear e43
      exact sm_iret X hr dX8_trace_44 rfl
    · refine sm_aload_n X 30 0 dX8_trace_29 rfl rfl rfl ?_
      refine sm_iconst X 31 (2) dX8_trace_30 rfl rfl ?_
      refine sm_bind (fun r31 h31 => ?_)
      refine sm_callV0 X 34 [.int 2] [] [.int r31.1] (c_X8_refuse l G σ (2 : Int32) r31 h31) cw_X8_refuse q_332 qs_0 q_330 rfl (by decide) rfl rfl rfl rfl rfl (Nat.le_of_ble_eq_true rfl) ⟨Nat.le_of_ble_eq_true rfl, Nat.le_of_ble_eq_true rfl⟩ ⟨Nat.le_refl _, Nat.le_refl _⟩ dX8_trace_31 rfl ?_
      exact sm_iret X hr dX8_trace_34 rfl
def by_X8_sheetAt_0 : List Nat := [27, 3, 6, 184, 0, 72, 153, 0, 7, 1, 167, 0, 9, 42, 180, 0]
def by_X8_sheetAt_z : List Nat := [49, 27, 50, 176]
def by_X8_sheetAt : List (List Nat) := [by_X8_sheetAt_0]
set_option maxRecDepth 100000 in
theorem byo_X8_sheetAt : cX8_sheetAt.data.toList.map UInt8.toNat = by_X8_sheetAt.flatten ++ by_X8_sheetAt_z := by decide +kernel
theorem byl_X8_sheetAt : by_X8_sheetAt.all (fun r => r.length == 16) = true := by decide +kernel
theorem byr_X8_sheetAt_0 {j v : Nat} (h : by_X8_sheetAt_0[j]? = some v) : RD cX8_sheetAt (0 + j) v := rd_16 byo_X8_sheetAt byl_X8_sheetAt 0 rfl h
theorem byr_X8_sheetAt_1 {j v : Nat} (h : by_X8_sheetAt_z[j]? = some v) : RD cX8_sheetAt (16 + j) v := rd_z byo_X8_sheetAt byl_X8_sheetAt 1 rfl h
theorem dX8_sheetAt_0 : decode cX8_sheetAt 0 = .ok (.iload_n 1, 1) := dk_27 (byr_X8_sheetAt_0 (j := 0) rfl)
theorem dX8_sheetAt_1 : decode cX8_sheetAt 1 = .ok (.iconst 0, 1) := dk_3 (byr_X8_sheetAt_0 (j := 1) rfl)
theorem dX8_sheetAt_2 : decode cX8_sheetAt 2 = .ok (.iconst 3, 1) := dk_6 (byr_X8_sheetAt_0 (j := 2) rfl)
theorem dX8_sheetAt_3 : decode cX8_sheetAt 3 = .ok (.invokestatic 72, 3) := dk_184 (byr_X8_sheetAt_0 (j := 3) rfl) (byr_X8_sheetAt_0 (j := 4) rfl) (byr_X8_sheetAt_0 (j := 5) rfl) (by decide)
theorem dX8_sheetAt_6 : decode cX8_sheetAt 6 = .ok (.ifCond .eq 7, 3) := dk_153 (byr_X8_sheetAt_0 (j := 6) rfl) (byr_X8_sheetAt_0 (j := 7) rfl) (byr_X8_sheetAt_0 (j := 8) rfl) (by decide)
theorem dX8_sheetAt_9 : decode cX8_sheetAt 9 = .ok (.aconst_null, 1) := dk_1 (byr_X8_sheetAt_0 (j := 9) rfl)
theorem dX8_sheetAt_10 : decode cX8_sheetAt 10 = .ok (.goto 9, 3) := dk_167 (byr_X8_sheetAt_0 (j := 10) rfl) (byr_X8_sheetAt_0 (j := 11) rfl) (byr_X8_sheetAt_0 (j := 12) rfl) (by decide)
theorem dX8_sheetAt_13 : decode cX8_sheetAt 13 = .ok (.aload_n 0, 1) := dk_42 (byr_X8_sheetAt_0 (j := 13) rfl)
theorem dX8_sheetAt_14 : decode cX8_sheetAt 14 = .ok (.getfield 49, 3) := dk_180 (byr_X8_sheetAt_0 (j := 14) rfl) (byr_X8_sheetAt_0 (j := 15) rfl) (byr_X8_sheetAt_1 (j := 0) rfl) (by decide)
theorem dX8_sheetAt_17 : decode cX8_sheetAt 17 = .ok (.iload_n 1, 1) := dk_27 (byr_X8_sheetAt_1 (j := 1) rfl)
theorem dX8_sheetAt_18 : decode cX8_sheetAt 18 = .ok (.aaload, 1) := dk_50 (byr_X8_sheetAt_1 (j := 2) rfl)
theorem dX8_sheetAt_19 : decode cX8_sheetAt 19 = .ok (.areturn, 1) := dk_176 (byr_X8_sheetAt_1 (j := 3) rfl)
set_option maxHeartbeats 4000000 in
set_option maxRecDepth 100000 in
theorem c_X8_sheetAt (l : Launch) (G : GT) (σ : Sto) (a1 : Int32) (r : (Option Nat)) (h : f_X8_sheetAt σ a1 = some r) : MW l G (3) (86) 0 0 yX8_sheetAt cX8_sheetAt 2 (Option.some (Jvm.ClassFile.FieldType.object RX4)) [.ref (gad G 0), .int a1] (wl G σ) (some (va_re (gad G) r)) (wl G σ) := by
  refine mw_of RX8 (fpR G σ) [(0, .ref (gad G 0)), (1, .int a1)] (by decide +kernel) rfl (Nat.le_of_ble_eq_true rfl) rfl h rfl (fun p e s m args below meth c X hr hnm => ?_)
  unfold f_X8_sheetAt
  refine sm_iload_n X 1 1 dX8_sheetAt_0 rfl rfl rfl ?_
  refine sm_iconst X 2 (0) dX8_sheetAt_1 rfl rfl ?_
  refine sm_iconst X 3 (3) dX8_sheetAt_2 rfl rfl ?_
  refine sm_bind (fun r3 h3 => ?_)
  refine sm_callS0 X 6 [.int a1, .int 0, .int 3] [] [.int (b2i r3)] (c_X8_isOutside l G σ a1 (0 : Int32) (3 : Int32) r3 h3) cw_X8_isOutside q_328 q_327 rfl rfl rfl (Nat.le_of_ble_eq_true rfl) ⟨Nat.le_of_ble_eq_true rfl, Nat.le_of_ble_eq_true rfl⟩ ⟨Nat.le_refl _, Nat.le_refl _⟩ dX8_sheetAt_3 rfl ?_
  refine sm_ifz_eq X 9 13 dX8_sheetAt_6 rfl (by decide) (fun h6 => ?_) (fun h6 => ?_)
  · refine sm_null X 10 dX8_sheetAt_9 rfl ?_
    refine sm_goto X 19 dX8_sheetAt_10 (by decide) ?_
    exact sm_aret X (r := none) hr dX8_sheetAt_19 rfl
  · refine sm_aload_n X 14 0 dX8_sheetAt_13 rfl rfl rfl ?_
    refine sm_getf X 17 67 rfl fd_8_6 rfl dX8_sheetAt_14 rfl q_295 ?_
    refine sm_iload_n X 18 1 dX8_sheetAt_17 rfl rfl rfl ?_
    refine sm_aald X 19 (Or.inr rfl) dX8_sheetAt_18 rfl (fun r18 e18 => ?_)
    clear e18
    exact sm_aret X (r := r18) hr dX8_sheetAt_19 rfl
def by_X8_sheet_0 : List Nat := [42, 27, 182, 0, 246, 58, 4, 25, 4, 198, 0, 25, 28, 153, 0, 27]
def by_X8_sheet_1 : List Nat := [28, 16, 8, 159, 0, 21, 28, 16, 16, 159, 0, 15, 28, 16, 32, 159]
def by_X8_sheet_2 : List Nat := [0, 9, 42, 4, 182, 0, 76, 172, 28, 154, 0, 12, 25, 4, 3, 3]
def by_X8_sheet_3 : List Nat := [182, 0, 250, 4, 172, 29, 156, 0, 9, 42, 6, 182, 0, 76, 172, 29]
def by_X8_sheet_4 : List Nat := [16, 40, 164, 0, 9, 42, 4, 182, 0, 76, 172, 25, 4, 28, 29, 182]
def by_X8_sheet_z : List Nat := [0, 250, 4, 172]
def by_X8_sheet : List (List Nat) := [by_X8_sheet_0, by_X8_sheet_1, by_X8_sheet_2, by_X8_sheet_3, by_X8_sheet_4]
set_option maxRecDepth 100000 in
theorem byo_X8_sheet : cX8_sheet.data.toList.map UInt8.toNat = by_X8_sheet.flatten ++ by_X8_sheet_z := by decide +kernel
theorem byl_X8_sheet : by_X8_sheet.all (fun r => r.length == 16) = true := by decide +kernel
theorem byr_X8_sheet_0 {j v : Nat} (h : by_X8_sheet_0[j]? = some v) : RD cX8_sheet (0 + j) v := rd_16 byo_X8_sheet byl_X8_sheet 0 rfl h
theorem byr_X8_sheet_1 {j v : Nat} (h : by_X8_sheet_1[j]? = some v) : RD cX8_sheet (16 + j) v := rd_16 byo_X8_sheet byl_X8_sheet 1 rfl h
theorem byr_X8_sheet_2 {j v : Nat} (h : by_X8_sheet_2[j]? = some v) : RD cX8_sheet (32 + j) v := rd_16 byo_X8_sheet byl_X8_sheet 2 rfl h
theorem byr_X8_sheet_3 {j v : Nat} (h : by_X8_sheet_3[j]? = some v) : RD cX8_sheet (48 + j) v := rd_16 byo_X8_sheet byl_X8_sheet 3 rfl h
theorem byr_X8_sheet_4 {j v : Nat} (h : by_X8_sheet_4[j]? = some v) : RD cX8_sheet (64 + j) v := rd_16 byo_X8_sheet byl_X8_sheet 4 rfl h
theorem byr_X8_sheet_5 {j v : Nat} (h : by_X8_sheet_z[j]? = some v) : RD cX8_sheet (80 + j) v := rd_z byo_X8_sheet byl_X8_sheet 5 rfl h
theorem dX8_sheet_0 : decode cX8_sheet 0 = .ok (.aload_n 0, 1) := dk_42 (byr_X8_sheet_0 (j := 0) rfl)
theorem dX8_sheet_1 : decode cX8_sheet 1 = .ok (.iload_n 1, 1) := dk_27 (byr_X8_sheet_0 (j := 1) rfl)
theorem dX8_sheet_2 : decode cX8_sheet 2 = .ok (.invokevirtual 246, 3) := dk_182 (byr_X8_sheet_0 (j := 2) rfl) (byr_X8_sheet_0 (j := 3) rfl) (byr_X8_sheet_0 (j := 4) rfl) (by decide)
theorem dX8_sheet_5 : decode cX8_sheet 5 = .ok (.astore 4, 2) := dk_58 (byr_X8_sheet_0 (j := 5) rfl) (byr_X8_sheet_0 (j := 6) rfl)
theorem dX8_sheet_7 : decode cX8_sheet 7 = .ok (.aload 4, 2) := dk_25 (byr_X8_sheet_0 (j := 7) rfl) (byr_X8_sheet_0 (j := 8) rfl)
theorem dX8_sheet_9 : decode cX8_sheet 9 = .ok (.ifnull 25, 3) := dk_198 (byr_X8_sheet_0 (j := 9) rfl) (byr_X8_sheet_0 (j := 10) rfl) (byr_X8_sheet_0 (j := 11) rfl) (by decide)
theorem dX8_sheet_12 : decode cX8_sheet 12 = .ok (.iload_n 2, 1) := dk_28 (byr_X8_sheet_0 (j := 12) rfl)
theorem dX8_sheet_13 : decode cX8_sheet 13 = .ok (.ifCond .eq 27, 3) := dk_153 (byr_X8_sheet_0 (j := 13) rfl) (byr_X8_sheet_0 (j := 14) rfl) (byr_X8_sheet_0 (j := 15) rfl) (by decide)
theorem dX8_sheet_16 : decode cX8_sheet 16 = .ok (.iload_n 2, 1) := dk_28 (byr_X8_sheet_1 (j := 0) rfl)
theorem dX8_sheet_17 : decode cX8_sheet 17 = .ok (.bipush 8, 2) := dk_16 (byr_X8_sheet_1 (j := 1) rfl) (byr_X8_sheet_1 (j := 2) rfl) (by decide)
theorem dX8_sheet_19 : decode cX8_sheet 19 = .ok (.if_icmp .eq 21, 3) := dk_159 (byr_X8_sheet_1 (j := 3) rfl) (byr_X8_sheet_1 (j := 4) rfl) (byr_X8_sheet_1 (j := 5) rfl) (by decide)
theorem dX8_sheet_22 : decode cX8_sheet 22 = .ok (.iload_n 2, 1) := dk_28 (byr_X8_sheet_1 (j := 6) rfl)
theorem dX8_sheet_23 : decode cX8_sheet 23 = .ok (.bipush 16, 2) := dk_16 (byr_X8_sheet_1 (j := 7) rfl) (byr_X8_sheet_1 (j := 8) rfl) (by decide)
theorem dX8_sheet_25 : decode cX8_sheet 25 = .ok (.if_icmp .eq 15, 3) := dk_159 (byr_X8_sheet_1 (j := 9) rfl) (byr_X8_sheet_1 (j := 10) rfl) (byr_X8_sheet_1 (j := 11) rfl) (by decide)
theorem dX8_sheet_28 : decode cX8_sheet 28 = .ok (.iload_n 2, 1) := dk_28 (byr_X8_sheet_1 (j := 12) rfl)
theorem dX8_sheet_29 : decode cX8_sheet 29 = .ok (.bipush 32, 2) := dk_16 (byr_X8_sheet_1 (j := 13) rfl) (byr_X8_sheet_1 (j := 14) rfl) (by decide)
theorem dX8_sheet_31 : decode cX8_sheet 31 = .ok (.if_icmp .eq 9, 3) := dk_159 (byr_X8_sheet_1 (j := 15) rfl) (byr_X8_sheet_2 (j := 0) rfl) (byr_X8_sheet_2 (j := 1) rfl) (by decide)
theorem dX8_sheet_34 : decode cX8_sheet 34 = .ok (.aload_n 0, 1) := dk_42 (byr_X8_sheet_2 (j := 2) rfl)
theorem dX8_sheet_35 : decode cX8_sheet 35 = .ok (.iconst 1, 1) := dk_4 (byr_X8_sheet_2 (j := 3) rfl)
theorem dX8_sheet_36 : decode cX8_sheet 36 = .ok (.invokevirtual 76, 3) := dk_182 (byr_X8_sheet_2 (j := 4) rfl) (byr_X8_sheet_2 (j := 5) rfl) (byr_X8_sheet_2 (j := 6) rfl) (by decide)
theorem dX8_sheet_39 : decode cX8_sheet 39 = .ok (.ireturn, 1) := dk_172 (byr_X8_sheet_2 (j := 7) rfl)
theorem dX8_sheet_40 : decode cX8_sheet 40 = .ok (.iload_n 2, 1) := dk_28 (byr_X8_sheet_2 (j := 8) rfl)
theorem dX8_sheet_41 : decode cX8_sheet 41 = .ok (.ifCond .ne 12, 3) := dk_154 (byr_X8_sheet_2 (j := 9) rfl) (byr_X8_sheet_2 (j := 10) rfl) (byr_X8_sheet_2 (j := 11) rfl) (by decide)
theorem dX8_sheet_44 : decode cX8_sheet 44 = .ok (.aload 4, 2) := dk_25 (byr_X8_sheet_2 (j := 12) rfl) (byr_X8_sheet_2 (j := 13) rfl)
theorem dX8_sheet_46 : decode cX8_sheet 46 = .ok (.iconst 0, 1) := dk_3 (byr_X8_sheet_2 (j := 14) rfl)
theorem dX8_sheet_47 : decode cX8_sheet 47 = .ok (.iconst 0, 1) := dk_3 (byr_X8_sheet_2 (j := 15) rfl)
theorem dX8_sheet_48 : decode cX8_sheet 48 = .ok (.invokevirtual 250, 3) := dk_182 (byr_X8_sheet_3 (j := 0) rfl) (byr_X8_sheet_3 (j := 1) rfl) (byr_X8_sheet_3 (j := 2) rfl) (by decide)
theorem dX8_sheet_51 : decode cX8_sheet 51 = .ok (.iconst 1, 1) := dk_4 (byr_X8_sheet_3 (j := 3) rfl)
theorem dX8_sheet_52 : decode cX8_sheet 52 = .ok (.ireturn, 1) := dk_172 (byr_X8_sheet_3 (j := 4) rfl)
theorem dX8_sheet_53 : decode cX8_sheet 53 = .ok (.iload_n 3, 1) := dk_29 (byr_X8_sheet_3 (j := 5) rfl)
theorem dX8_sheet_54 : decode cX8_sheet 54 = .ok (.ifCond .ge 9, 3) := dk_156 (byr_X8_sheet_3 (j := 6) rfl) (byr_X8_sheet_3 (j := 7) rfl) (byr_X8_sheet_3 (j := 8) rfl) (by decide)
theorem dX8_sheet_57 : decode cX8_sheet 57 = .ok (.aload_n 0, 1) := dk_42 (byr_X8_sheet_3 (j := 9) rfl)
theorem dX8_sheet_58 : decode cX8_sheet 58 = .ok (.iconst 3, 1) := dk_6 (byr_X8_sheet_3 (j := 10) rfl)
theorem dX8_sheet_59 : decode cX8_sheet 59 = .ok (.invokevirtual 76, 3) := dk_182 (byr_X8_sheet_3 (j := 11) rfl) (byr_X8_sheet_3 (j := 12) rfl) (byr_X8_sheet_3 (j := 13) rfl) (by decide)
theorem dX8_sheet_62 : decode cX8_sheet 62 = .ok (.ireturn, 1) := dk_172 (byr_X8_sheet_3 (j := 14) rfl)
theorem dX8_sheet_63 : decode cX8_sheet 63 = .ok (.iload_n 3, 1) := dk_29 (byr_X8_sheet_3 (j := 15) rfl)
theorem dX8_sheet_64 : decode cX8_sheet 64 = .ok (.bipush 40, 2) := dk_16 (byr_X8_sheet_4 (j := 0) rfl) (byr_X8_sheet_4 (j := 1) rfl) (by decide)
theorem dX8_sheet_66 : decode cX8_sheet 66 = .ok (.if_icmp .le 9, 3) := dk_164 (byr_X8_sheet_4 (j := 2) rfl) (byr_X8_sheet_4 (j := 3) rfl) (byr_X8_sheet_4 (j := 4) rfl) (by decide)
theorem dX8_sheet_69 : decode cX8_sheet 69 = .ok (.aload_n 0, 1) := dk_42 (byr_X8_sheet_4 (j := 5) rfl)
theorem dX8_sheet_70 : decode cX8_sheet 70 = .ok (.iconst 1, 1) := dk_4 (byr_X8_sheet_4 (j := 6) rfl)
theorem dX8_sheet_71 : decode cX8_sheet 71 = .ok (.invokevirtual 76, 3) := dk_182 (byr_X8_sheet_4 (j := 7) rfl) (byr_X8_sheet_4 (j := 8) rfl) (byr_X8_sheet_4 (j := 9) rfl) (by decide)
theorem dX8_sheet_74 : decode cX8_sheet 74 = .ok (.ireturn, 1) := dk_172 (byr_X8_sheet_4 (j := 10) rfl)
theorem dX8_sheet_75 : decode cX8_sheet 75 = .ok (.aload 4, 2) := dk_25 (byr_X8_sheet_4 (j := 11) rfl) (byr_X8_sheet_4 (j := 12) rfl)
theorem dX8_sheet_77 : decode cX8_sheet 77 = .ok (.iload_n 2, 1) := dk_28 (byr_X8_sheet_4 (j := 13) rfl)
theorem dX8_sheet_78 : decode cX8_sheet 78 = .ok (.iload_n 3, 1) := dk_29 (byr_X8_sheet_4 (j := 14) rfl)
theorem dX8_sheet_79 : decode cX8_sheet 79 = .ok (.invokevirtual 250, 3) := dk_182 (byr_X8_sheet_4 (j := 15) rfl) (byr_X8_sheet_5 (j := 0) rfl) (byr_X8_sheet_5 (j := 1) rfl) (by decide)
theorem dX8_sheet_82 : decode cX8_sheet 82 = .ok (.iconst 1, 1) := dk_4 (byr_X8_sheet_5 (j := 2) rfl)
theorem dX8_sheet_83 : decode cX8_sheet 83 = .ok (.ireturn, 1) := dk_172 (byr_X8_sheet_5 (j := 3) rfl)
set_option maxHeartbeats 4000000 in
set_option maxRecDepth 100000 in
theorem c_X8_sheet (l : Launch) (G : GT) (σ : Sto) (a1 : Int32) (a2 : Int32) (a3 : Int32) (r : (Int32 × Sto)) (h : f_X8_sheet σ a1 a2 a3 = some r) : MW l G (4) (109) 0 0 yX8_sheet cX8_sheet 5 (Option.some Jvm.ClassFile.FieldType.int) [.ref (gad G 0), .int a1, .int a2, .int a3] (wl G σ) (some (.int r.1)) (wl G r.2) := by
  refine mw_of RX8 (fiI G) [(0, .ref (gad G 0)), (1, .int a1), (2, .int a2), (3, .int a3)] (by decide +kernel) rfl (Nat.le_of_ble_eq_true rfl) rfl h rfl (fun p e s m args below meth c X hr hnm => ?_)
  have J40 : ∀ (v2 : Int32) (v3 : Int32) (r4 : Option Nat)  (σ : Sto), Sm p l e { frames := 4, cells := 0, slots := 0, locals := 109 } s m args below meth c G 5 (Qm below args s G 0 0 (fiI G)) 0 0 (wl G σ) 40 [(0, .ref (gad G 0)), (2, .int v2), (3, .int v3), (4, va_re (gad G) r4)] [] (f_X8_sheet_L40  v2 v3 r4 σ) := by
    intro v2 v3 r4 σ
    rw [f_X8_sheet_L40]
    refine sm_iload_n X 41 1 dX8_sheet_40 rfl rfl rfl ?_
    refine sm_if_ne X 44 53 dX8_sheet_41 rfl (by decide) (fun h41 => ?_) (fun h41 => ?_)
    · refine sm_aloadq X 46 3 dX8_sheet_44 rfl rfl ?_
      refine sm_iconst X 47 (0) dX8_sheet_46 rfl rfl ?_
      refine sm_iconst X 48 (0) dX8_sheet_47 rfl rfl ?_
      refine sm_deref (fun k48 h hk48 => ?_)
      subst h
      refine sm_bind (fun r48 h48 => ?_)
      refine sm_callV0 X 51 [.int 0, .int 0] [] [] (c_X4_clear l G σ k48 hk48 (0 : Int32) (0 : Int32) r48 h48) cw_X4_clear q_801 q_802 q_800 hk48 (by decide) rfl rfl rfl rfl rfl (Nat.le_of_ble_eq_true rfl) ⟨Nat.le_of_ble_eq_true rfl, Nat.le_of_ble_eq_true rfl⟩ ⟨Nat.le_refl _, Nat.le_refl _⟩ dX8_sheet_48 rfl ?_
      refine sm_iconst X 52 (1) dX8_sheet_51 rfl rfl ?_
      exact sm_iret X hr dX8_sheet_52 rfl
    · refine sm_iload_n X 54 2 dX8_sheet_53 rfl rfl rfl ?_
      refine sm_if_ge X 57 63 dX8_sheet_54 rfl (by decide) (fun h54 => ?_) (fun h54 => ?_)
      · refine sm_iload_n X 64 2 dX8_sheet_63 rfl rfl rfl ?_
        refine sm_bipush X 66 (40) dX8_sheet_64 rfl rfl ?_
        refine sm_icmp_le X 69 75 dX8_sheet_66 rfl (by decide) (fun h66 => ?_) (fun h66 => ?_)
        · refine sm_aloadq X 77 3 dX8_sheet_75 rfl rfl ?_
          refine sm_iload_n X 78 1 dX8_sheet_77 rfl rfl rfl ?_
          refine sm_iload_n X 79 2 dX8_sheet_78 rfl rfl rfl ?_
          refine sm_deref (fun k79 h hk79 => ?_)
          subst h
          refine sm_bind (fun r79 h79 => ?_)
          refine sm_callV0 X 82 [.int v2, .int v3] [] [] (c_X4_clear l G σ k79 hk79 v2 v3 r79 h79) cw_X4_clear q_801 q_802 q_800 hk79 (by decide) rfl rfl rfl rfl rfl (Nat.le_of_ble_eq_true rfl) ⟨Nat.le_of_ble_eq_true rfl, Nat.le_of_ble_eq_true rfl⟩ ⟨Nat.le_refl _, Nat.le_refl _⟩ dX8_sheet_79 rfl ?_
          refine sm_iconst X 83 (1) dX8_sheet_82 rfl rfl ?_
          exact sm_iret X hr dX8_sheet_83 rfl
        · refine sm_aload_n X 70 0 dX8_sheet_69 rfl rfl rfl ?_
          refine sm_iconst X 71 (1) dX8_sheet_70 rfl rfl ?_
          refine sm_bind (fun r71 h71 => ?_)
          refine sm_callV0 X 74 [.int 1] [] [.int r71.1] (c_X8_refuse l G σ (1 : Int32) r71 h71) cw_X8_refuse q_332 qs_0 q_330 rfl (by decide) rfl rfl rfl rfl rfl (Nat.le_of_ble_eq_true rfl) ⟨Nat.le_of_ble_eq_true rfl, Nat.le_of_ble_eq_true rfl⟩ ⟨Nat.le_refl _, Nat.le_refl _⟩ dX8_sheet_71 rfl ?_
          exact sm_iret X hr dX8_sheet_74 rfl
      · refine sm_aload_n X 58 0 dX8_sheet_57 rfl rfl rfl ?_
        refine sm_iconst X 59 (3) dX8_sheet_58 rfl rfl ?_
        refine sm_bind (fun r59 h59 => ?_)
        refine sm_callV0 X 62 [.int 3] [] [.int r59.1] (c_X8_refuse l G σ (3 : Int32) r59 h59) cw_X8_refuse q_332 qs_0 q_330 rfl (by decide) rfl rfl rfl rfl rfl (Nat.le_of_ble_eq_true rfl) ⟨Nat.le_of_ble_eq_true rfl, Nat.le_of_ble_eq_true rfl⟩ ⟨Nat.le_refl _, Nat.le_refl _⟩ dX8_sheet_59 rfl ?_
        exact sm_iret X hr dX8_sheet_62 rfl
  unfold f_X8_sheet
  refine sm_aload_n X 1 0 dX8_sheet_0 rfl rfl rfl ?_
  refine sm_iload_n X 2 1 dX8_sheet_1 rfl rfl rfl ?_
  refine sm_bind (fun r2 h2 => ?_)
  refine sm_callV0 X 5 [.int a1] [] [va_re (gad G) r2] (c_X8_sheetAt l G σ a1 r2 h2) cw_X8_sheetAt q_798 qs_25 q_796 rfl (by decide) rfl rfl rfl rfl rfl (Nat.le_of_ble_eq_true rfl) ⟨Nat.le_of_ble_eq_true rfl, Nat.le_of_ble_eq_true rfl⟩ ⟨Nat.le_refl _, Nat.le_refl _⟩ dX8_sheet_2 rfl ?_
  refine sm_astoreq X 7 [(4, va_re (gad G) r2), (0, .ref (gad G 0)), (1, .int a1), (2, .int a2), (3, .int a3)] dX8_sheet_5 rfl (by decide) rfl ?_
  refine sm_aloadq X 9 0 dX8_sheet_7 rfl rfl ?_
  refine sm_ifnull X 12 34 dX8_sheet_9 rfl (by decide) (fun hn => ?_) (fun k9 hn => ?_)
  · subst hn
    refine sm_aload_n X 35 1 dX8_sheet_34 rfl rfl rfl ?_
    refine sm_iconst X 36 (1) dX8_sheet_35 rfl rfl ?_
    refine sm_bind (fun r36 h36 => ?_)
    refine sm_callV0 X 39 [.int 1] [] [.int r36.1] (c_X8_refuse l G σ (1 : Int32) r36 h36) cw_X8_refuse q_332 qs_0 q_330 rfl (by decide) rfl rfl rfl rfl rfl (Nat.le_of_ble_eq_true rfl) ⟨Nat.le_of_ble_eq_true rfl, Nat.le_of_ble_eq_true rfl⟩ ⟨Nat.le_refl _, Nat.le_refl _⟩ dX8_sheet_36 rfl ?_
    exact sm_iret X hr dX8_sheet_39 rfl
  · subst hn
    refine sm_iload_n X 13 3 dX8_sheet_12 rfl rfl rfl ?_
    refine sm_if_eq X 16 40 dX8_sheet_13 rfl (by decide) (fun h13 => ?_) (fun h13 => ?_)
    · exact sm_sub [1, 3, 4, 0] rfl (J40 a2 a3 (some k9)  σ)
    · refine sm_iload_n X 17 3 dX8_sheet_16 rfl rfl rfl ?_
      refine sm_bipush X 19 (8) dX8_sheet_17 rfl rfl ?_
      refine sm_icmp_eq X 22 40 dX8_sheet_19 rfl (by decide) (fun h19 => ?_) (fun h19 => ?_)
      · exact sm_sub [1, 3, 4, 0] rfl (J40 a2 a3 (some k9)  σ)
      · refine sm_iload_n X 23 3 dX8_sheet_22 rfl rfl rfl ?_
        refine sm_bipush X 25 (16) dX8_sheet_23 rfl rfl ?_
        refine sm_icmp_eq X 28 40 dX8_sheet_25 rfl (by decide) (fun h25 => ?_) (fun h25 => ?_)
        · exact sm_sub [1, 3, 4, 0] rfl (J40 a2 a3 (some k9)  σ)
        · refine sm_iload_n X 29 3 dX8_sheet_28 rfl rfl rfl ?_
          refine sm_bipush X 31 (32) dX8_sheet_29 rfl rfl ?_
          refine sm_icmp_eq X 34 40 dX8_sheet_31 rfl (by decide) (fun h31 => ?_) (fun h31 => ?_)
          · exact sm_sub [1, 3, 4, 0] rfl (J40 a2 a3 (some k9)  σ)
          · refine sm_aload_n X 35 1 dX8_sheet_34 rfl rfl rfl ?_
            refine sm_iconst X 36 (1) dX8_sheet_35 rfl rfl ?_
            refine sm_bind (fun r36 h36 => ?_)
            refine sm_callV0 X 39 [.int 1] [] [.int r36.1] (c_X8_refuse l G σ (1 : Int32) r36 h36) cw_X8_refuse q_332 qs_0 q_330 rfl (by decide) rfl rfl rfl rfl rfl (Nat.le_of_ble_eq_true rfl) ⟨Nat.le_of_ble_eq_true rfl, Nat.le_of_ble_eq_true rfl⟩ ⟨Nat.le_refl _, Nat.le_refl _⟩ dX8_sheet_36 rfl ?_
            exact sm_iret X hr dX8_sheet_39 rfl
def by_X8_put_0 : List Nat := [42, 27, 182, 0, 246, 58, 4, 25, 4, 199, 0, 9, 42, 4, 182, 0]
def by_X8_put_1 : List Nat := [76, 172, 25, 4, 182, 0, 253, 153, 0, 9, 42, 5, 182, 0, 76, 172]
def by_X8_put_2 : List Nat := [28, 3, 25, 4, 180, 1, 1, 4, 100, 184, 0, 72, 153, 0, 9, 42]
def by_X8_put_z : List Nat := [4, 182, 0, 76, 172, 25, 4, 28, 29, 182, 1, 4, 4, 172]
def by_X8_put : List (List Nat) := [by_X8_put_0, by_X8_put_1, by_X8_put_2]
set_option maxRecDepth 100000 in
theorem byo_X8_put : cX8_put.data.toList.map UInt8.toNat = by_X8_put.flatten ++ by_X8_put_z := by decide +kernel
theorem byl_X8_put : by_X8_put.all (fun r => r.length == 16) = true := by decide +kernel
theorem byr_X8_put_0 {j v : Nat} (h : by_X8_put_0[j]? = some v) : RD cX8_put (0 + j) v := rd_16 byo_X8_put byl_X8_put 0 rfl h
theorem byr_X8_put_1 {j v : Nat} (h : by_X8_put_1[j]? = some v) : RD cX8_put (16 + j) v := rd_16 byo_X8_put byl_X8_put 1 rfl h
theorem byr_X8_put_2 {j v : Nat} (h : by_X8_put_2[j]? = some v) : RD cX8_put (32 + j) v := rd_16 byo_X8_put byl_X8_put 2 rfl h
theorem byr_X8_put_3 {j v : Nat} (h : by_X8_put_z[j]? = some v) : RD cX8_put (48 + j) v := rd_z byo_X8_put byl_X8_put 3 rfl h
theorem dX8_put_0 : decode cX8_put 0 = .ok (.aload_n 0, 1) := dk_42 (byr_X8_put_0 (j := 0) rfl)
theorem dX8_put_1 : decode cX8_put 1 = .ok (.iload_n 1, 1) := dk_27 (byr_X8_put_0 (j := 1) rfl)
theorem dX8_put_2 : decode cX8_put 2 = .ok (.invokevirtual 246, 3) := dk_182 (byr_X8_put_0 (j := 2) rfl) (byr_X8_put_0 (j := 3) rfl) (byr_X8_put_0 (j := 4) rfl) (by decide)
theorem dX8_put_5 : decode cX8_put 5 = .ok (.astore 4, 2) := dk_58 (byr_X8_put_0 (j := 5) rfl) (byr_X8_put_0 (j := 6) rfl)
theorem dX8_put_7 : decode cX8_put 7 = .ok (.aload 4, 2) := dk_25 (byr_X8_put_0 (j := 7) rfl) (byr_X8_put_0 (j := 8) rfl)
theorem dX8_put_9 : decode cX8_put 9 = .ok (.ifnonnull 9, 3) := dk_199 (byr_X8_put_0 (j := 9) rfl) (byr_X8_put_0 (j := 10) rfl) (byr_X8_put_0 (j := 11) rfl) (by decide)
theorem dX8_put_12 : decode cX8_put 12 = .ok (.aload_n 0, 1) := dk_42 (byr_X8_put_0 (j := 12) rfl)
theorem dX8_put_13 : decode cX8_put 13 = .ok (.iconst 1, 1) := dk_4 (byr_X8_put_0 (j := 13) rfl)
theorem dX8_put_14 : decode cX8_put 14 = .ok (.invokevirtual 76, 3) := dk_182 (byr_X8_put_0 (j := 14) rfl) (byr_X8_put_0 (j := 15) rfl) (byr_X8_put_1 (j := 0) rfl) (by decide)
theorem dX8_put_17 : decode cX8_put 17 = .ok (.ireturn, 1) := dk_172 (byr_X8_put_1 (j := 1) rfl)
theorem dX8_put_18 : decode cX8_put 18 = .ok (.aload 4, 2) := dk_25 (byr_X8_put_1 (j := 2) rfl) (byr_X8_put_1 (j := 3) rfl)
theorem dX8_put_20 : decode cX8_put 20 = .ok (.invokevirtual 253, 3) := dk_182 (byr_X8_put_1 (j := 4) rfl) (byr_X8_put_1 (j := 5) rfl) (byr_X8_put_1 (j := 6) rfl) (by decide)
theorem dX8_put_23 : decode cX8_put 23 = .ok (.ifCond .eq 9, 3) := dk_153 (byr_X8_put_1 (j := 7) rfl) (byr_X8_put_1 (j := 8) rfl) (byr_X8_put_1 (j := 9) rfl) (by decide)
theorem dX8_put_26 : decode cX8_put 26 = .ok (.aload_n 0, 1) := dk_42 (byr_X8_put_1 (j := 10) rfl)
theorem dX8_put_27 : decode cX8_put 27 = .ok (.iconst 2, 1) := dk_5 (byr_X8_put_1 (j := 11) rfl)
theorem dX8_put_28 : decode cX8_put 28 = .ok (.invokevirtual 76, 3) := dk_182 (byr_X8_put_1 (j := 12) rfl) (byr_X8_put_1 (j := 13) rfl) (byr_X8_put_1 (j := 14) rfl) (by decide)
theorem dX8_put_31 : decode cX8_put 31 = .ok (.ireturn, 1) := dk_172 (byr_X8_put_1 (j := 15) rfl)
theorem dX8_put_32 : decode cX8_put 32 = .ok (.iload_n 2, 1) := dk_28 (byr_X8_put_2 (j := 0) rfl)
theorem dX8_put_33 : decode cX8_put 33 = .ok (.iconst 0, 1) := dk_3 (byr_X8_put_2 (j := 1) rfl)
theorem dX8_put_34 : decode cX8_put 34 = .ok (.aload 4, 2) := dk_25 (byr_X8_put_2 (j := 2) rfl) (byr_X8_put_2 (j := 3) rfl)
theorem dX8_put_36 : decode cX8_put 36 = .ok (.getfield 257, 3) := dk_180 (byr_X8_put_2 (j := 4) rfl) (byr_X8_put_2 (j := 5) rfl) (byr_X8_put_2 (j := 6) rfl) (by decide)
theorem dX8_put_39 : decode cX8_put 39 = .ok (.iconst 1, 1) := dk_4 (byr_X8_put_2 (j := 7) rfl)
theorem dX8_put_40 : decode cX8_put 40 = .ok (.isub, 1) := dk_100 (byr_X8_put_2 (j := 8) rfl)
theorem dX8_put_41 : decode cX8_put 41 = .ok (.invokestatic 72, 3) := dk_184 (byr_X8_put_2 (j := 9) rfl) (byr_X8_put_2 (j := 10) rfl) (byr_X8_put_2 (j := 11) rfl) (by decide)
theorem dX8_put_44 : decode cX8_put 44 = .ok (.ifCond .eq 9, 3) := dk_153 (byr_X8_put_2 (j := 12) rfl) (byr_X8_put_2 (j := 13) rfl) (byr_X8_put_2 (j := 14) rfl) (by decide)
theorem dX8_put_47 : decode cX8_put 47 = .ok (.aload_n 0, 1) := dk_42 (byr_X8_put_2 (j := 15) rfl)
theorem dX8_put_48 : decode cX8_put 48 = .ok (.iconst 1, 1) := dk_4 (byr_X8_put_3 (j := 0) rfl)
theorem dX8_put_49 : decode cX8_put 49 = .ok (.invokevirtual 76, 3) := dk_182 (byr_X8_put_3 (j := 1) rfl) (byr_X8_put_3 (j := 2) rfl) (byr_X8_put_3 (j := 3) rfl) (by decide)
theorem dX8_put_52 : decode cX8_put 52 = .ok (.ireturn, 1) := dk_172 (byr_X8_put_3 (j := 4) rfl)
theorem dX8_put_53 : decode cX8_put 53 = .ok (.aload 4, 2) := dk_25 (byr_X8_put_3 (j := 5) rfl) (byr_X8_put_3 (j := 6) rfl)
theorem dX8_put_55 : decode cX8_put 55 = .ok (.iload_n 2, 1) := dk_28 (byr_X8_put_3 (j := 7) rfl)
theorem dX8_put_56 : decode cX8_put 56 = .ok (.iload_n 3, 1) := dk_29 (byr_X8_put_3 (j := 8) rfl)
theorem dX8_put_57 : decode cX8_put 57 = .ok (.invokevirtual 260, 3) := dk_182 (byr_X8_put_3 (j := 9) rfl) (byr_X8_put_3 (j := 10) rfl) (byr_X8_put_3 (j := 11) rfl) (by decide)
theorem dX8_put_60 : decode cX8_put 60 = .ok (.iconst 1, 1) := dk_4 (byr_X8_put_3 (j := 12) rfl)
theorem dX8_put_61 : decode cX8_put 61 = .ok (.ireturn, 1) := dk_172 (byr_X8_put_3 (j := 13) rfl)
set_option maxHeartbeats 4000000 in
set_option maxRecDepth 100000 in
theorem c_X8_put (l : Launch) (G : GT) (σ : Sto) (a1 : Int32) (a2 : Int32) (a3 : Int32) (r : (Int32 × Sto)) (h : f_X8_put σ a1 a2 a3 = some r) : MW l G (4) (108) 0 0 yX8_put cX8_put 5 (Option.some Jvm.ClassFile.FieldType.int) [.ref (gad G 0), .int a1, .int a2, .int a3] (wl G σ) (some (.int r.1)) (wl G r.2) := by
  refine mw_of RX8 (fiI G) [(0, .ref (gad G 0)), (1, .int a1), (2, .int a2), (3, .int a3)] (by decide +kernel) rfl (Nat.le_of_ble_eq_true rfl) rfl h rfl (fun p e s m args below meth c X hr hnm => ?_)
  unfold f_X8_put
  refine sm_aload_n X 1 0 dX8_put_0 rfl rfl rfl ?_
  refine sm_iload_n X 2 1 dX8_put_1 rfl rfl rfl ?_
  refine sm_bind (fun r2 h2 => ?_)
  refine sm_callV0 X 5 [.int a1] [] [va_re (gad G) r2] (c_X8_sheetAt l G σ a1 r2 h2) cw_X8_sheetAt q_798 qs_25 q_796 rfl (by decide) rfl rfl rfl rfl rfl (Nat.le_of_ble_eq_true rfl) ⟨Nat.le_of_ble_eq_true rfl, Nat.le_of_ble_eq_true rfl⟩ ⟨Nat.le_refl _, Nat.le_refl _⟩ dX8_put_2 rfl ?_
  refine sm_astoreq X 7 [(4, va_re (gad G) r2), (0, .ref (gad G 0)), (1, .int a1), (2, .int a2), (3, .int a3)] dX8_put_5 rfl (by decide) rfl ?_
  refine sm_aloadq X 9 0 dX8_put_7 rfl rfl ?_
  refine sm_ifnonnull X 12 18 dX8_put_9 rfl (by decide) (fun hn => ?_) (fun k9 hn => ?_)
  · subst hn
    refine sm_aload_n X 13 1 dX8_put_12 rfl rfl rfl ?_
    refine sm_iconst X 14 (1) dX8_put_13 rfl rfl ?_
    refine sm_bind (fun r14 h14 => ?_)
    refine sm_callV0 X 17 [.int 1] [] [.int r14.1] (c_X8_refuse l G σ (1 : Int32) r14 h14) cw_X8_refuse q_332 qs_0 q_330 rfl (by decide) rfl rfl rfl rfl rfl (Nat.le_of_ble_eq_true rfl) ⟨Nat.le_of_ble_eq_true rfl, Nat.le_of_ble_eq_true rfl⟩ ⟨Nat.le_refl _, Nat.le_refl _⟩ dX8_put_14 rfl ?_
    exact sm_iret X hr dX8_put_17 rfl
  · subst hn
    refine sm_aload X 20 0 dX8_put_18 rfl rfl ?_
    refine sm_guard (fun hk9 => ?_)
    refine sm_bind (fun r20 h20 => ?_)
    refine sm_callV0 X 23 [] [] [.int (b2i r20)] (c_X4_isMissing l G σ k9 hk9 r20 h20) cw_X4_isMissing q_810 q_811 q_809 hk9 (by decide) rfl rfl rfl rfl rfl (Nat.le_of_ble_eq_true rfl) ⟨Nat.le_of_ble_eq_true rfl, Nat.le_of_ble_eq_true rfl⟩ ⟨Nat.le_refl _, Nat.le_refl _⟩ dX8_put_20 rfl ?_
    refine sm_ifz_eq X 26 32 dX8_put_23 rfl (by decide) (fun h23 => ?_) (fun h23 => ?_)
    · refine sm_aload_n X 27 1 dX8_put_26 rfl rfl rfl ?_
      refine sm_iconst X 28 (2) dX8_put_27 rfl rfl ?_
      refine sm_bind (fun r28 h28 => ?_)
      refine sm_callV0 X 31 [.int 2] [] [.int r28.1] (c_X8_refuse l G σ (2 : Int32) r28 h28) cw_X8_refuse q_332 qs_0 q_330 rfl (by decide) rfl rfl rfl rfl rfl (Nat.le_of_ble_eq_true rfl) ⟨Nat.le_of_ble_eq_true rfl, Nat.le_of_ble_eq_true rfl⟩ ⟨Nat.le_refl _, Nat.le_refl _⟩ dX8_put_28 rfl ?_
      exact sm_iret X hr dX8_put_31 rfl
    · refine sm_iload_n X 33 3 dX8_put_32 rfl rfl rfl ?_
      refine sm_iconst X 34 (0) dX8_put_33 rfl rfl ?_
      refine sm_aload X 36 0 dX8_put_34 rfl rfl ?_
      refine sm_geti X 39 hk9 fd_4_1 dX8_put_36 rfl q_279 ?_
      refine sm_iconst X 40 (1) dX8_put_39 rfl rfl ?_
      refine sm_isub X 41 dX8_put_40 rfl ?_
      refine sm_bind (fun r41 h41 => ?_)
      refine sm_callS0 X 44 [.int a2, .int 0, .int ((σ.1 k9 1) - (1 : Int32))] [] [.int (b2i r41)] (c_X8_isOutside l G σ a2 (0 : Int32) ((σ.1 k9 1) - (1 : Int32)) r41 h41) cw_X8_isOutside q_328 q_327 rfl rfl rfl (Nat.le_of_ble_eq_true rfl) ⟨Nat.le_of_ble_eq_true rfl, Nat.le_of_ble_eq_true rfl⟩ ⟨Nat.le_refl _, Nat.le_refl _⟩ dX8_put_41 rfl ?_
      refine sm_ifz_eq X 47 53 dX8_put_44 rfl (by decide) (fun h44 => ?_) (fun h44 => ?_)
      · refine sm_aload_n X 48 1 dX8_put_47 rfl rfl rfl ?_
        refine sm_iconst X 49 (1) dX8_put_48 rfl rfl ?_
        refine sm_bind (fun r49 h49 => ?_)
        refine sm_callV0 X 52 [.int 1] [] [.int r49.1] (c_X8_refuse l G σ (1 : Int32) r49 h49) cw_X8_refuse q_332 qs_0 q_330 rfl (by decide) rfl rfl rfl rfl rfl (Nat.le_of_ble_eq_true rfl) ⟨Nat.le_of_ble_eq_true rfl, Nat.le_of_ble_eq_true rfl⟩ ⟨Nat.le_refl _, Nat.le_refl _⟩ dX8_put_49 rfl ?_
        exact sm_iret X hr dX8_put_52 rfl
      · refine sm_aload X 55 0 dX8_put_53 rfl rfl ?_
        refine sm_iload_n X 56 3 dX8_put_55 rfl rfl rfl ?_
        refine sm_iload_n X 57 4 dX8_put_56 rfl rfl rfl ?_
        refine sm_bind (fun r57 h57 => ?_)
        refine sm_callV0 X 60 [.int a2, .int a3] [] [] (c_X4_write l G σ k9 hk9 a2 a3 r57 h57) cw_X4_write q_814 q_815 q_813 hk9 (by decide) rfl rfl rfl rfl rfl (Nat.le_of_ble_eq_true rfl) ⟨Nat.le_of_ble_eq_true rfl, Nat.le_of_ble_eq_true rfl⟩ ⟨Nat.le_refl _, Nat.le_refl _⟩ dX8_put_57 rfl ?_
        refine sm_iconst X 61 (1) dX8_put_60 rfl rfl ?_
        exact sm_iret X hr dX8_put_61 rfl
def by_X8_move_0 : List Nat := [42, 27, 182, 0, 246, 58, 6, 42, 29, 182, 0, 246, 58, 7, 25, 6]
def by_X8_move_1 : List Nat := [198, 0, 8, 25, 7, 199, 0, 9, 42, 4, 182, 0, 76, 172, 25, 6]
def by_X8_move_2 : List Nat := [182, 0, 253, 154, 0, 11, 25, 7, 182, 0, 253, 153, 0, 9, 42, 5]
def by_X8_move_3 : List Nat := [182, 0, 76, 172, 25, 6, 180, 1, 7, 25, 7, 180, 1, 7, 159, 0]
def by_X8_move_4 : List Nat := [9, 42, 8, 182, 0, 76, 172, 25, 6, 28, 21, 5, 182, 1, 10, 153]
def by_X8_move_5 : List Nat := [0, 15, 25, 7, 21, 4, 21, 5, 182, 1, 10, 154, 0, 9, 42, 4]
def by_X8_move_6 : List Nat := [182, 0, 76, 172, 25, 6, 180, 1, 13, 28, 25, 7, 180, 1, 13, 21]
def by_X8_move_z : List Nat := [4, 21, 5, 184, 1, 16, 21, 5, 172]
def by_X8_move : List (List Nat) := [by_X8_move_0, by_X8_move_1, by_X8_move_2, by_X8_move_3, by_X8_move_4, by_X8_move_5, by_X8_move_6]
set_option maxRecDepth 100000 in
theorem byo_X8_move : cX8_move.data.toList.map UInt8.toNat = by_X8_move.flatten ++ by_X8_move_z := by decide +kernel
theorem byl_X8_move : by_X8_move.all (fun r => r.length == 16) = true := by decide +kernel
theorem byr_X8_move_0 {j v : Nat} (h : by_X8_move_0[j]? = some v) : RD cX8_move (0 + j) v := rd_16 byo_X8_move byl_X8_move 0 rfl h
theorem byr_X8_move_1 {j v : Nat} (h : by_X8_move_1[j]? = some v) : RD cX8_move (16 + j) v := rd_16 byo_X8_move byl_X8_move 1 rfl h
theorem byr_X8_move_2 {j v : Nat} (h : by_X8_move_2[j]? = some v) : RD cX8_move (32 + j) v := rd_16 byo_X8_move byl_X8_move 2 rfl h
theorem byr_X8_move_3 {j v : Nat} (h : by_X8_move_3[j]? = some v) : RD cX8_move (48 + j) v := rd_16 byo_X8_move byl_X8_move 3 rfl h
theorem byr_X8_move_4 {j v : Nat} (h : by_X8_move_4[j]? = some v) : RD cX8_move (64 + j) v := rd_16 byo_X8_move byl_X8_move 4 rfl h
theorem byr_X8_move_5 {j v : Nat} (h : by_X8_move_5[j]? = some v) : RD cX8_move (80 + j) v := rd_16 byo_X8_move byl_X8_move 5 rfl h
theorem byr_X8_move_6 {j v : Nat} (h : by_X8_move_6[j]? = some v) : RD cX8_move (96 + j) v := rd_16 byo_X8_move byl_X8_move 6 rfl h
theorem byr_X8_move_7 {j v : Nat} (h : by_X8_move_z[j]? = some v) : RD cX8_move (112 + j) v := rd_z byo_X8_move byl_X8_move 7 rfl h
theorem dX8_move_0 : decode cX8_move 0 = .ok (.aload_n 0, 1) := dk_42 (byr_X8_move_0 (j := 0) rfl)
theorem dX8_move_1 : decode cX8_move 1 = .ok (.iload_n 1, 1) := dk_27 (byr_X8_move_0 (j := 1) rfl)
theorem dX8_move_2 : decode cX8_move 2 = .ok (.invokevirtual 246, 3) := dk_182 (byr_X8_move_0 (j := 2) rfl) (byr_X8_move_0 (j := 3) rfl) (byr_X8_move_0 (j := 4) rfl) (by decide)
theorem dX8_move_5 : decode cX8_move 5 = .ok (.astore 6, 2) := dk_58 (byr_X8_move_0 (j := 5) rfl) (byr_X8_move_0 (j := 6) rfl)
theorem dX8_move_7 : decode cX8_move 7 = .ok (.aload_n 0, 1) := dk_42 (byr_X8_move_0 (j := 7) rfl)
theorem dX8_move_8 : decode cX8_move 8 = .ok (.iload_n 3, 1) := dk_29 (byr_X8_move_0 (j := 8) rfl)
theorem dX8_move_9 : decode cX8_move 9 = .ok (.invokevirtual 246, 3) := dk_182 (byr_X8_move_0 (j := 9) rfl) (byr_X8_move_0 (j := 10) rfl) (byr_X8_move_0 (j := 11) rfl) (by decide)
theorem dX8_move_12 : decode cX8_move 12 = .ok (.astore 7, 2) := dk_58 (byr_X8_move_0 (j := 12) rfl) (byr_X8_move_0 (j := 13) rfl)
theorem dX8_move_14 : decode cX8_move 14 = .ok (.aload 6, 2) := dk_25 (byr_X8_move_0 (j := 14) rfl) (byr_X8_move_0 (j := 15) rfl)
theorem dX8_move_16 : decode cX8_move 16 = .ok (.ifnull 8, 3) := dk_198 (byr_X8_move_1 (j := 0) rfl) (byr_X8_move_1 (j := 1) rfl) (byr_X8_move_1 (j := 2) rfl) (by decide)
theorem dX8_move_19 : decode cX8_move 19 = .ok (.aload 7, 2) := dk_25 (byr_X8_move_1 (j := 3) rfl) (byr_X8_move_1 (j := 4) rfl)
theorem dX8_move_21 : decode cX8_move 21 = .ok (.ifnonnull 9, 3) := dk_199 (byr_X8_move_1 (j := 5) rfl) (byr_X8_move_1 (j := 6) rfl) (byr_X8_move_1 (j := 7) rfl) (by decide)
theorem dX8_move_24 : decode cX8_move 24 = .ok (.aload_n 0, 1) := dk_42 (byr_X8_move_1 (j := 8) rfl)
theorem dX8_move_25 : decode cX8_move 25 = .ok (.iconst 1, 1) := dk_4 (byr_X8_move_1 (j := 9) rfl)
theorem dX8_move_26 : decode cX8_move 26 = .ok (.invokevirtual 76, 3) := dk_182 (byr_X8_move_1 (j := 10) rfl) (byr_X8_move_1 (j := 11) rfl) (byr_X8_move_1 (j := 12) rfl) (by decide)
theorem dX8_move_29 : decode cX8_move 29 = .ok (.ireturn, 1) := dk_172 (byr_X8_move_1 (j := 13) rfl)
theorem dX8_move_30 : decode cX8_move 30 = .ok (.aload 6, 2) := dk_25 (byr_X8_move_1 (j := 14) rfl) (byr_X8_move_1 (j := 15) rfl)
theorem dX8_move_32 : decode cX8_move 32 = .ok (.invokevirtual 253, 3) := dk_182 (byr_X8_move_2 (j := 0) rfl) (byr_X8_move_2 (j := 1) rfl) (byr_X8_move_2 (j := 2) rfl) (by decide)
theorem dX8_move_35 : decode cX8_move 35 = .ok (.ifCond .ne 11, 3) := dk_154 (byr_X8_move_2 (j := 3) rfl) (byr_X8_move_2 (j := 4) rfl) (byr_X8_move_2 (j := 5) rfl) (by decide)
theorem dX8_move_38 : decode cX8_move 38 = .ok (.aload 7, 2) := dk_25 (byr_X8_move_2 (j := 6) rfl) (byr_X8_move_2 (j := 7) rfl)
theorem dX8_move_40 : decode cX8_move 40 = .ok (.invokevirtual 253, 3) := dk_182 (byr_X8_move_2 (j := 8) rfl) (byr_X8_move_2 (j := 9) rfl) (byr_X8_move_2 (j := 10) rfl) (by decide)
theorem dX8_move_43 : decode cX8_move 43 = .ok (.ifCond .eq 9, 3) := dk_153 (byr_X8_move_2 (j := 11) rfl) (byr_X8_move_2 (j := 12) rfl) (byr_X8_move_2 (j := 13) rfl) (by decide)
theorem dX8_move_46 : decode cX8_move 46 = .ok (.aload_n 0, 1) := dk_42 (byr_X8_move_2 (j := 14) rfl)
theorem dX8_move_47 : decode cX8_move 47 = .ok (.iconst 2, 1) := dk_5 (byr_X8_move_2 (j := 15) rfl)
theorem dX8_move_48 : decode cX8_move 48 = .ok (.invokevirtual 76, 3) := dk_182 (byr_X8_move_3 (j := 0) rfl) (byr_X8_move_3 (j := 1) rfl) (byr_X8_move_3 (j := 2) rfl) (by decide)
theorem dX8_move_51 : decode cX8_move 51 = .ok (.ireturn, 1) := dk_172 (byr_X8_move_3 (j := 3) rfl)
theorem dX8_move_52 : decode cX8_move 52 = .ok (.aload 6, 2) := dk_25 (byr_X8_move_3 (j := 4) rfl) (byr_X8_move_3 (j := 5) rfl)
theorem dX8_move_54 : decode cX8_move 54 = .ok (.getfield 263, 3) := dk_180 (byr_X8_move_3 (j := 6) rfl) (byr_X8_move_3 (j := 7) rfl) (byr_X8_move_3 (j := 8) rfl) (by decide)
theorem dX8_move_57 : decode cX8_move 57 = .ok (.aload 7, 2) := dk_25 (byr_X8_move_3 (j := 9) rfl) (byr_X8_move_3 (j := 10) rfl)
theorem dX8_move_59 : decode cX8_move 59 = .ok (.getfield 263, 3) := dk_180 (byr_X8_move_3 (j := 11) rfl) (byr_X8_move_3 (j := 12) rfl) (byr_X8_move_3 (j := 13) rfl) (by decide)
theorem dX8_move_62 : decode cX8_move 62 = .ok (.if_icmp .eq 9, 3) := dk_159 (byr_X8_move_3 (j := 14) rfl) (byr_X8_move_3 (j := 15) rfl) (byr_X8_move_4 (j := 0) rfl) (by decide)
theorem dX8_move_65 : decode cX8_move 65 = .ok (.aload_n 0, 1) := dk_42 (byr_X8_move_4 (j := 1) rfl)
theorem dX8_move_66 : decode cX8_move 66 = .ok (.iconst 5, 1) := dk_8 (byr_X8_move_4 (j := 2) rfl)
theorem dX8_move_67 : decode cX8_move 67 = .ok (.invokevirtual 76, 3) := dk_182 (byr_X8_move_4 (j := 3) rfl) (byr_X8_move_4 (j := 4) rfl) (byr_X8_move_4 (j := 5) rfl) (by decide)
theorem dX8_move_70 : decode cX8_move 70 = .ok (.ireturn, 1) := dk_172 (byr_X8_move_4 (j := 6) rfl)
theorem dX8_move_71 : decode cX8_move 71 = .ok (.aload 6, 2) := dk_25 (byr_X8_move_4 (j := 7) rfl) (byr_X8_move_4 (j := 8) rfl)
theorem dX8_move_73 : decode cX8_move 73 = .ok (.iload_n 2, 1) := dk_28 (byr_X8_move_4 (j := 9) rfl)
theorem dX8_move_74 : decode cX8_move 74 = .ok (.iload 5, 2) := dk_21 (byr_X8_move_4 (j := 10) rfl) (byr_X8_move_4 (j := 11) rfl)
theorem dX8_move_76 : decode cX8_move 76 = .ok (.invokevirtual 266, 3) := dk_182 (byr_X8_move_4 (j := 12) rfl) (byr_X8_move_4 (j := 13) rfl) (byr_X8_move_4 (j := 14) rfl) (by decide)
theorem dX8_move_79 : decode cX8_move 79 = .ok (.ifCond .eq 15, 3) := dk_153 (byr_X8_move_4 (j := 15) rfl) (byr_X8_move_5 (j := 0) rfl) (byr_X8_move_5 (j := 1) rfl) (by decide)
theorem dX8_move_82 : decode cX8_move 82 = .ok (.aload 7, 2) := dk_25 (byr_X8_move_5 (j := 2) rfl) (byr_X8_move_5 (j := 3) rfl)
theorem dX8_move_84 : decode cX8_move 84 = .ok (.iload 4, 2) := dk_21 (byr_X8_move_5 (j := 4) rfl) (byr_X8_move_5 (j := 5) rfl)
theorem dX8_move_86 : decode cX8_move 86 = .ok (.iload 5, 2) := dk_21 (byr_X8_move_5 (j := 6) rfl) (byr_X8_move_5 (j := 7) rfl)
theorem dX8_move_88 : decode cX8_move 88 = .ok (.invokevirtual 266, 3) := dk_182 (byr_X8_move_5 (j := 8) rfl) (byr_X8_move_5 (j := 9) rfl) (byr_X8_move_5 (j := 10) rfl) (by decide)
theorem dX8_move_91 : decode cX8_move 91 = .ok (.ifCond .ne 9, 3) := dk_154 (byr_X8_move_5 (j := 11) rfl) (byr_X8_move_5 (j := 12) rfl) (byr_X8_move_5 (j := 13) rfl) (by decide)
theorem dX8_move_94 : decode cX8_move 94 = .ok (.aload_n 0, 1) := dk_42 (byr_X8_move_5 (j := 14) rfl)
theorem dX8_move_95 : decode cX8_move 95 = .ok (.iconst 1, 1) := dk_4 (byr_X8_move_5 (j := 15) rfl)
theorem dX8_move_96 : decode cX8_move 96 = .ok (.invokevirtual 76, 3) := dk_182 (byr_X8_move_6 (j := 0) rfl) (byr_X8_move_6 (j := 1) rfl) (byr_X8_move_6 (j := 2) rfl) (by decide)
theorem dX8_move_99 : decode cX8_move 99 = .ok (.ireturn, 1) := dk_172 (byr_X8_move_6 (j := 3) rfl)
theorem dX8_move_100 : decode cX8_move 100 = .ok (.aload 6, 2) := dk_25 (byr_X8_move_6 (j := 4) rfl) (byr_X8_move_6 (j := 5) rfl)
theorem dX8_move_102 : decode cX8_move 102 = .ok (.getfield 269, 3) := dk_180 (byr_X8_move_6 (j := 6) rfl) (byr_X8_move_6 (j := 7) rfl) (byr_X8_move_6 (j := 8) rfl) (by decide)
theorem dX8_move_105 : decode cX8_move 105 = .ok (.iload_n 2, 1) := dk_28 (byr_X8_move_6 (j := 9) rfl)
theorem dX8_move_106 : decode cX8_move 106 = .ok (.aload 7, 2) := dk_25 (byr_X8_move_6 (j := 10) rfl) (byr_X8_move_6 (j := 11) rfl)
theorem dX8_move_108 : decode cX8_move 108 = .ok (.getfield 269, 3) := dk_180 (byr_X8_move_6 (j := 12) rfl) (byr_X8_move_6 (j := 13) rfl) (byr_X8_move_6 (j := 14) rfl) (by decide)
theorem dX8_move_111 : decode cX8_move 111 = .ok (.iload 4, 2) := dk_21 (byr_X8_move_6 (j := 15) rfl) (byr_X8_move_7 (j := 0) rfl)
theorem dX8_move_113 : decode cX8_move 113 = .ok (.iload 5, 2) := dk_21 (byr_X8_move_7 (j := 1) rfl) (byr_X8_move_7 (j := 2) rfl)
theorem dX8_move_115 : decode cX8_move 115 = .ok (.invokestatic 272, 3) := dk_184 (byr_X8_move_7 (j := 3) rfl) (byr_X8_move_7 (j := 4) rfl) (byr_X8_move_7 (j := 5) rfl) (by decide)
theorem dX8_move_118 : decode cX8_move 118 = .ok (.iload 5, 2) := dk_21 (byr_X8_move_7 (j := 6) rfl) (byr_X8_move_7 (j := 7) rfl)
theorem dX8_move_120 : decode cX8_move 120 = .ok (.ireturn, 1) := dk_172 (byr_X8_move_7 (j := 8) rfl)
set_option maxHeartbeats 4000000 in
set_option maxRecDepth 100000 in
theorem c_X8_move (l : Launch) (G : GT) (σ : Sto) (a1 : Int32) (a2 : Int32) (a3 : Int32) (a4 : Int32) (a5 : Int32) (r : (Int32 × Sto)) (h : f_X8_move σ a1 a2 a3 a4 a5 = some r) : MW l G (4) (107) 0 0 yX8_move cX8_move 8 (Option.some Jvm.ClassFile.FieldType.int) [.ref (gad G 0), .int a1, .int a2, .int a3, .int a4, .int a5] (wl G σ) (some (.int r.1)) (wl G r.2) := by
  refine mw_of RX8 (fiI G) [(0, .ref (gad G 0)), (1, .int a1), (2, .int a2), (3, .int a3), (4, .int a4), (5, .int a5)] (by decide +kernel) rfl (Nat.le_of_ble_eq_true rfl) rfl h rfl (fun p e s m args below meth c X hr hnm => ?_)
  unfold f_X8_move
  refine sm_aload_n X 1 0 dX8_move_0 rfl rfl rfl ?_
  refine sm_iload_n X 2 1 dX8_move_1 rfl rfl rfl ?_
  refine sm_bind (fun r2 h2 => ?_)
  refine sm_callV0 X 5 [.int a1] [] [va_re (gad G) r2] (c_X8_sheetAt l G σ a1 r2 h2) cw_X8_sheetAt q_798 qs_25 q_796 rfl (by decide) rfl rfl rfl rfl rfl (Nat.le_of_ble_eq_true rfl) ⟨Nat.le_of_ble_eq_true rfl, Nat.le_of_ble_eq_true rfl⟩ ⟨Nat.le_refl _, Nat.le_refl _⟩ dX8_move_2 rfl ?_
  refine sm_astoreq X 7 [(6, va_re (gad G) r2), (0, .ref (gad G 0)), (1, .int a1), (2, .int a2), (3, .int a3), (4, .int a4), (5, .int a5)] dX8_move_5 rfl (by decide) rfl ?_
  refine sm_aload_n X 8 1 dX8_move_7 rfl rfl rfl ?_
  refine sm_iload_n X 9 4 dX8_move_8 rfl rfl rfl ?_
  refine sm_bind (fun r9 h9 => ?_)
  refine sm_callV0 X 12 [.int a3] [] [va_re (gad G) r9] (c_X8_sheetAt l G σ a3 r9 h9) cw_X8_sheetAt q_798 qs_25 q_796 rfl (by decide) rfl rfl rfl rfl rfl (Nat.le_of_ble_eq_true rfl) ⟨Nat.le_of_ble_eq_true rfl, Nat.le_of_ble_eq_true rfl⟩ ⟨Nat.le_refl _, Nat.le_refl _⟩ dX8_move_9 rfl ?_
  refine sm_astoreq X 14 [(7, va_re (gad G) r9), (6, va_re (gad G) r2), (0, .ref (gad G 0)), (1, .int a1), (2, .int a2), (3, .int a3), (4, .int a4), (5, .int a5)] dX8_move_12 rfl (by decide) (by cases r2 <;> rfl) ?_
  refine sm_aloadq X 16 1 dX8_move_14 rfl rfl ?_
  refine sm_ifnull X 19 24 dX8_move_16 rfl (by decide) (fun hn => ?_) (fun k16 hn => ?_)
  · subst hn
    refine sm_aload_n X 25 2 dX8_move_24 rfl rfl rfl ?_
    refine sm_iconst X 26 (1) dX8_move_25 rfl rfl ?_
    refine sm_bind (fun r26 h26 => ?_)
    refine sm_callV0 X 29 [.int 1] [] [.int r26.1] (c_X8_refuse l G σ (1 : Int32) r26 h26) cw_X8_refuse q_332 qs_0 q_330 rfl (by decide) rfl rfl rfl rfl rfl (Nat.le_of_ble_eq_true rfl) ⟨Nat.le_of_ble_eq_true rfl, Nat.le_of_ble_eq_true rfl⟩ ⟨Nat.le_refl _, Nat.le_refl _⟩ dX8_move_26 rfl ?_
    exact sm_iret X hr dX8_move_29 rfl
  · subst hn
    refine sm_aloadq X 21 0 dX8_move_19 rfl rfl ?_
    refine sm_ifnonnull X 24 30 dX8_move_21 rfl (by decide) (fun hn => ?_) (fun k21 hn => ?_)
    · subst hn
      refine sm_aload_n X 25 2 dX8_move_24 rfl rfl rfl ?_
      refine sm_iconst X 26 (1) dX8_move_25 rfl rfl ?_
      refine sm_bind (fun r26 h26 => ?_)
      refine sm_callV0 X 29 [.int 1] [] [.int r26.1] (c_X8_refuse l G σ (1 : Int32) r26 h26) cw_X8_refuse q_332 qs_0 q_330 rfl (by decide) rfl rfl rfl rfl rfl (Nat.le_of_ble_eq_true rfl) ⟨Nat.le_of_ble_eq_true rfl, Nat.le_of_ble_eq_true rfl⟩ ⟨Nat.le_refl _, Nat.le_refl _⟩ dX8_move_26 rfl ?_
      exact sm_iret X hr dX8_move_29 rfl
    · subst hn
      refine sm_aload X 32 1 dX8_move_30 rfl rfl ?_
      refine sm_guard (fun hk16 => ?_)
      refine sm_bind (fun r32 h32 => ?_)
      refine sm_callV0 X 35 [] [] [.int (b2i r32)] (c_X4_isMissing l G σ k16 hk16 r32 h32) cw_X4_isMissing q_810 q_811 q_809 hk16 (by decide) rfl rfl rfl rfl rfl (Nat.le_of_ble_eq_true rfl) ⟨Nat.le_of_ble_eq_true rfl, Nat.le_of_ble_eq_true rfl⟩ ⟨Nat.le_refl _, Nat.le_refl _⟩ dX8_move_32 rfl ?_
      refine sm_ifz_ne X 38 46 dX8_move_35 rfl (by decide) (fun h35 => ?_) (fun h35 => ?_)
      · refine sm_aload_n X 47 2 dX8_move_46 rfl rfl rfl ?_
        refine sm_iconst X 48 (2) dX8_move_47 rfl rfl ?_
        refine sm_bind (fun r48 h48 => ?_)
        refine sm_callV0 X 51 [.int 2] [] [.int r48.1] (c_X8_refuse l G σ (2 : Int32) r48 h48) cw_X8_refuse q_332 qs_0 q_330 rfl (by decide) rfl rfl rfl rfl rfl (Nat.le_of_ble_eq_true rfl) ⟨Nat.le_of_ble_eq_true rfl, Nat.le_of_ble_eq_true rfl⟩ ⟨Nat.le_refl _, Nat.le_refl _⟩ dX8_move_48 rfl ?_
        exact sm_iret X hr dX8_move_51 rfl
      · refine sm_aload X 40 0 dX8_move_38 rfl rfl ?_
        refine sm_guard (fun hk21 => ?_)
        refine sm_bind (fun r40 h40 => ?_)
        refine sm_callV0 X 43 [] [] [.int (b2i r40)] (c_X4_isMissing l G σ k21 hk21 r40 h40) cw_X4_isMissing q_810 q_811 q_809 hk21 (by decide) rfl rfl rfl rfl rfl (Nat.le_of_ble_eq_true rfl) ⟨Nat.le_of_ble_eq_true rfl, Nat.le_of_ble_eq_true rfl⟩ ⟨Nat.le_refl _, Nat.le_refl _⟩ dX8_move_40 rfl ?_
        refine sm_ifz_eq X 46 52 dX8_move_43 rfl (by decide) (fun h43 => ?_) (fun h43 => ?_)
        · refine sm_aload_n X 47 2 dX8_move_46 rfl rfl rfl ?_
          refine sm_iconst X 48 (2) dX8_move_47 rfl rfl ?_
          refine sm_bind (fun r48 h48 => ?_)
          refine sm_callV0 X 51 [.int 2] [] [.int r48.1] (c_X8_refuse l G σ (2 : Int32) r48 h48) cw_X8_refuse q_332 qs_0 q_330 rfl (by decide) rfl rfl rfl rfl rfl (Nat.le_of_ble_eq_true rfl) ⟨Nat.le_of_ble_eq_true rfl, Nat.le_of_ble_eq_true rfl⟩ ⟨Nat.le_refl _, Nat.le_refl _⟩ dX8_move_48 rfl ?_
          exact sm_iret X hr dX8_move_51 rfl
        · refine sm_aload X 54 1 dX8_move_52 rfl rfl ?_
          refine sm_geti X 57 hk16 fd_4_2 dX8_move_54 rfl q_281 ?_
          refine sm_aload X 59 0 dX8_move_57 rfl rfl ?_
          refine sm_geti X 62 hk21 fd_4_2 dX8_move_59 rfl q_281 ?_
          refine sm_icmp_eq X 65 71 dX8_move_62 rfl (by decide) (fun h62 => ?_) (fun h62 => ?_)
          · refine sm_aload X 73 1 dX8_move_71 rfl rfl ?_
            refine sm_iload_n X 74 4 dX8_move_73 rfl rfl rfl ?_
            refine sm_iload X 76 7 dX8_move_74 rfl rfl ?_
            refine sm_bind (fun r76 h76 => ?_)
            refine sm_callV0 X 79 [.int a2, .int a5] [] [.int (b2i r76)] (c_X4_holds l G σ k16 hk16 a2 a5 r76 h76) cw_X4_holds q_823 q_824 q_822 hk16 (by decide) rfl rfl rfl rfl rfl (Nat.le_of_ble_eq_true rfl) ⟨Nat.le_of_ble_eq_true rfl, Nat.le_of_ble_eq_true rfl⟩ ⟨Nat.le_refl _, Nat.le_refl _⟩ dX8_move_76 rfl ?_
            refine sm_ifz_eq X 82 94 dX8_move_79 rfl (by decide) (fun h79 => ?_) (fun h79 => ?_)
            · refine sm_aload X 84 0 dX8_move_82 rfl rfl ?_
              refine sm_iload X 86 6 dX8_move_84 rfl rfl ?_
              refine sm_iload X 88 7 dX8_move_86 rfl rfl ?_
              refine sm_bind (fun r88 h88 => ?_)
              refine sm_callV0 X 91 [.int a4, .int a5] [] [.int (b2i r88)] (c_X4_holds l G σ k21 hk21 a4 a5 r88 h88) cw_X4_holds q_823 q_824 q_822 hk21 (by decide) rfl rfl rfl rfl rfl (Nat.le_of_ble_eq_true rfl) ⟨Nat.le_of_ble_eq_true rfl, Nat.le_of_ble_eq_true rfl⟩ ⟨Nat.le_refl _, Nat.le_refl _⟩ dX8_move_88 rfl ?_
              refine sm_ifz_ne X 94 100 dX8_move_91 rfl (by decide) (fun h91 => ?_) (fun h91 => ?_)
              · refine sm_aload X 102 1 dX8_move_100 rfl rfl ?_
                refine sm_getf X 105 (A0 k16 0) hk16 fd_4_0 (fr_4_0 hk16).1 dX8_move_102 rfl q_277 ?_
                refine sm_iload_n X 106 4 dX8_move_105 rfl rfl rfl ?_
                refine sm_aload X 108 0 dX8_move_106 rfl rfl ?_
                refine sm_getf X 111 (A0 k21 0) hk21 fd_4_0 (fr_4_0 hk21).1 dX8_move_108 rfl q_277 ?_
                refine sm_iload X 113 6 dX8_move_111 rfl rfl ?_
                refine sm_iload X 115 7 dX8_move_113 rfl rfl ?_
                refine sm_copy X 118 ((fr_4_0 hk16).2.1) ((fr_4_0 hk21).2.1) dX8_move_115 rfl q_826 q_456 q_455 q_12 ⟨Nat.le_of_ble_eq_true rfl, Nat.le_of_ble_eq_true rfl⟩ (fun σ115 e115 => ?_)
                clear e115
                refine sm_iload X 120 7 dX8_move_118 rfl rfl ?_
                exact sm_iret X hr dX8_move_120 rfl
              · refine sm_aload_n X 95 2 dX8_move_94 rfl rfl rfl ?_
                refine sm_iconst X 96 (1) dX8_move_95 rfl rfl ?_
                refine sm_bind (fun r96 h96 => ?_)
                refine sm_callV0 X 99 [.int 1] [] [.int r96.1] (c_X8_refuse l G σ (1 : Int32) r96 h96) cw_X8_refuse q_332 qs_0 q_330 rfl (by decide) rfl rfl rfl rfl rfl (Nat.le_of_ble_eq_true rfl) ⟨Nat.le_of_ble_eq_true rfl, Nat.le_of_ble_eq_true rfl⟩ ⟨Nat.le_refl _, Nat.le_refl _⟩ dX8_move_96 rfl ?_
                exact sm_iret X hr dX8_move_99 rfl
            · refine sm_aload_n X 95 2 dX8_move_94 rfl rfl rfl ?_
              refine sm_iconst X 96 (1) dX8_move_95 rfl rfl ?_
              refine sm_bind (fun r96 h96 => ?_)
              refine sm_callV0 X 99 [.int 1] [] [.int r96.1] (c_X8_refuse l G σ (1 : Int32) r96 h96) cw_X8_refuse q_332 qs_0 q_330 rfl (by decide) rfl rfl rfl rfl rfl (Nat.le_of_ble_eq_true rfl) ⟨Nat.le_of_ble_eq_true rfl, Nat.le_of_ble_eq_true rfl⟩ ⟨Nat.le_refl _, Nat.le_refl _⟩ dX8_move_96 rfl ?_
              exact sm_iret X hr dX8_move_99 rfl
          · refine sm_aload_n X 66 2 dX8_move_65 rfl rfl rfl ?_
            refine sm_iconst X 67 (5) dX8_move_66 rfl rfl ?_
            refine sm_bind (fun r67 h67 => ?_)
            refine sm_callV0 X 70 [.int 5] [] [.int r67.1] (c_X8_refuse l G σ (5 : Int32) r67 h67) cw_X8_refuse q_332 qs_0 q_330 rfl (by decide) rfl rfl rfl rfl rfl (Nat.le_of_ble_eq_true rfl) ⟨Nat.le_of_ble_eq_true rfl, Nat.le_of_ble_eq_true rfl⟩ ⟨Nat.le_refl _, Nat.le_refl _⟩ dX8_move_67 rfl ?_
            exact sm_iret X hr dX8_move_70 rfl
def by_X8_years_0 : List Nat := [42, 27, 182, 0, 246, 77, 44, 199, 0, 9, 42, 4, 182, 0, 76, 172]
def by_X8_years_1 : List Nat := [44, 182, 0, 253, 153, 0, 9, 42, 5, 182, 0, 76, 172, 3, 62, 3]
def by_X8_years_2 : List Nat := [54, 4, 21, 4, 4, 96, 44, 180, 1, 1, 162, 0, 52, 44, 21, 4]
def by_X8_years_3 : List Nat := [182, 1, 22, 54, 5, 44, 21, 4, 4, 96, 182, 1, 22, 54, 6, 42]
def by_X8_years_4 : List Nat := [21, 5, 21, 6, 182, 0, 192, 153, 0, 6, 167, 0, 20, 42, 21, 5]
def by_X8_years_5 : List Nat := [21, 6, 182, 0, 195, 132, 3, 1, 132, 4, 2, 167, 255, 199, 29, 172]
def by_X8_years_z : List Nat := []
def by_X8_years : List (List Nat) := [by_X8_years_0, by_X8_years_1, by_X8_years_2, by_X8_years_3, by_X8_years_4, by_X8_years_5]
set_option maxRecDepth 100000 in
theorem byo_X8_years : cX8_years.data.toList.map UInt8.toNat = by_X8_years.flatten ++ by_X8_years_z := by decide +kernel
theorem byl_X8_years : by_X8_years.all (fun r => r.length == 16) = true := by decide +kernel
theorem byr_X8_years_0 {j v : Nat} (h : by_X8_years_0[j]? = some v) : RD cX8_years (0 + j) v := rd_16 byo_X8_years byl_X8_years 0 rfl h
theorem byr_X8_years_1 {j v : Nat} (h : by_X8_years_1[j]? = some v) : RD cX8_years (16 + j) v := rd_16 byo_X8_years byl_X8_years 1 rfl h
theorem byr_X8_years_2 {j v : Nat} (h : by_X8_years_2[j]? = some v) : RD cX8_years (32 + j) v := rd_16 byo_X8_years byl_X8_years 2 rfl h
theorem byr_X8_years_3 {j v : Nat} (h : by_X8_years_3[j]? = some v) : RD cX8_years (48 + j) v := rd_16 byo_X8_years byl_X8_years 3 rfl h
theorem byr_X8_years_4 {j v : Nat} (h : by_X8_years_4[j]? = some v) : RD cX8_years (64 + j) v := rd_16 byo_X8_years byl_X8_years 4 rfl h
theorem byr_X8_years_5 {j v : Nat} (h : by_X8_years_5[j]? = some v) : RD cX8_years (80 + j) v := rd_16 byo_X8_years byl_X8_years 5 rfl h
theorem byr_X8_years_6 {j v : Nat} (h : by_X8_years_z[j]? = some v) : RD cX8_years (96 + j) v := rd_z byo_X8_years byl_X8_years 6 rfl h
theorem dX8_years_0 : decode cX8_years 0 = .ok (.aload_n 0, 1) := dk_42 (byr_X8_years_0 (j := 0) rfl)
theorem dX8_years_1 : decode cX8_years 1 = .ok (.iload_n 1, 1) := dk_27 (byr_X8_years_0 (j := 1) rfl)
theorem dX8_years_2 : decode cX8_years 2 = .ok (.invokevirtual 246, 3) := dk_182 (byr_X8_years_0 (j := 2) rfl) (byr_X8_years_0 (j := 3) rfl) (byr_X8_years_0 (j := 4) rfl) (by decide)
theorem dX8_years_5 : decode cX8_years 5 = .ok (.astore_n 2, 1) := dk_77 (byr_X8_years_0 (j := 5) rfl)
theorem dX8_years_6 : decode cX8_years 6 = .ok (.aload_n 2, 1) := dk_44 (byr_X8_years_0 (j := 6) rfl)
theorem dX8_years_7 : decode cX8_years 7 = .ok (.ifnonnull 9, 3) := dk_199 (byr_X8_years_0 (j := 7) rfl) (byr_X8_years_0 (j := 8) rfl) (byr_X8_years_0 (j := 9) rfl) (by decide)
theorem dX8_years_10 : decode cX8_years 10 = .ok (.aload_n 0, 1) := dk_42 (byr_X8_years_0 (j := 10) rfl)
theorem dX8_years_11 : decode cX8_years 11 = .ok (.iconst 1, 1) := dk_4 (byr_X8_years_0 (j := 11) rfl)
theorem dX8_years_12 : decode cX8_years 12 = .ok (.invokevirtual 76, 3) := dk_182 (byr_X8_years_0 (j := 12) rfl) (byr_X8_years_0 (j := 13) rfl) (byr_X8_years_0 (j := 14) rfl) (by decide)
theorem dX8_years_15 : decode cX8_years 15 = .ok (.ireturn, 1) := dk_172 (byr_X8_years_0 (j := 15) rfl)
theorem dX8_years_16 : decode cX8_years 16 = .ok (.aload_n 2, 1) := dk_44 (byr_X8_years_1 (j := 0) rfl)
theorem dX8_years_17 : decode cX8_years 17 = .ok (.invokevirtual 253, 3) := dk_182 (byr_X8_years_1 (j := 1) rfl) (byr_X8_years_1 (j := 2) rfl) (byr_X8_years_1 (j := 3) rfl) (by decide)
theorem dX8_years_20 : decode cX8_years 20 = .ok (.ifCond .eq 9, 3) := dk_153 (byr_X8_years_1 (j := 4) rfl) (byr_X8_years_1 (j := 5) rfl) (byr_X8_years_1 (j := 6) rfl) (by decide)
theorem dX8_years_23 : decode cX8_years 23 = .ok (.aload_n 0, 1) := dk_42 (byr_X8_years_1 (j := 7) rfl)
theorem dX8_years_24 : decode cX8_years 24 = .ok (.iconst 2, 1) := dk_5 (byr_X8_years_1 (j := 8) rfl)
theorem dX8_years_25 : decode cX8_years 25 = .ok (.invokevirtual 76, 3) := dk_182 (byr_X8_years_1 (j := 9) rfl) (byr_X8_years_1 (j := 10) rfl) (byr_X8_years_1 (j := 11) rfl) (by decide)
theorem dX8_years_28 : decode cX8_years 28 = .ok (.ireturn, 1) := dk_172 (byr_X8_years_1 (j := 12) rfl)
theorem dX8_years_29 : decode cX8_years 29 = .ok (.iconst 0, 1) := dk_3 (byr_X8_years_1 (j := 13) rfl)
theorem dX8_years_30 : decode cX8_years 30 = .ok (.istore_n 3, 1) := dk_62 (byr_X8_years_1 (j := 14) rfl)
theorem dX8_years_31 : decode cX8_years 31 = .ok (.iconst 0, 1) := dk_3 (byr_X8_years_1 (j := 15) rfl)
theorem dX8_years_32 : decode cX8_years 32 = .ok (.istore 4, 2) := dk_54 (byr_X8_years_2 (j := 0) rfl) (byr_X8_years_2 (j := 1) rfl)
theorem dX8_years_34 : decode cX8_years 34 = .ok (.iload 4, 2) := dk_21 (byr_X8_years_2 (j := 2) rfl) (byr_X8_years_2 (j := 3) rfl)
theorem dX8_years_36 : decode cX8_years 36 = .ok (.iconst 1, 1) := dk_4 (byr_X8_years_2 (j := 4) rfl)
theorem dX8_years_37 : decode cX8_years 37 = .ok (.iadd, 1) := dk_96 (byr_X8_years_2 (j := 5) rfl)
theorem dX8_years_38 : decode cX8_years 38 = .ok (.aload_n 2, 1) := dk_44 (byr_X8_years_2 (j := 6) rfl)
theorem dX8_years_39 : decode cX8_years 39 = .ok (.getfield 257, 3) := dk_180 (byr_X8_years_2 (j := 7) rfl) (byr_X8_years_2 (j := 8) rfl) (byr_X8_years_2 (j := 9) rfl) (by decide)
theorem dX8_years_42 : decode cX8_years 42 = .ok (.if_icmp .ge 52, 3) := dk_162 (byr_X8_years_2 (j := 10) rfl) (byr_X8_years_2 (j := 11) rfl) (byr_X8_years_2 (j := 12) rfl) (by decide)
theorem dX8_years_45 : decode cX8_years 45 = .ok (.aload_n 2, 1) := dk_44 (byr_X8_years_2 (j := 13) rfl)
theorem dX8_years_46 : decode cX8_years 46 = .ok (.iload 4, 2) := dk_21 (byr_X8_years_2 (j := 14) rfl) (byr_X8_years_2 (j := 15) rfl)
theorem dX8_years_48 : decode cX8_years 48 = .ok (.invokevirtual 278, 3) := dk_182 (byr_X8_years_3 (j := 0) rfl) (byr_X8_years_3 (j := 1) rfl) (byr_X8_years_3 (j := 2) rfl) (by decide)
theorem dX8_years_51 : decode cX8_years 51 = .ok (.istore 5, 2) := dk_54 (byr_X8_years_3 (j := 3) rfl) (byr_X8_years_3 (j := 4) rfl)
theorem dX8_years_53 : decode cX8_years 53 = .ok (.aload_n 2, 1) := dk_44 (byr_X8_years_3 (j := 5) rfl)
theorem dX8_years_54 : decode cX8_years 54 = .ok (.iload 4, 2) := dk_21 (byr_X8_years_3 (j := 6) rfl) (byr_X8_years_3 (j := 7) rfl)
theorem dX8_years_56 : decode cX8_years 56 = .ok (.iconst 1, 1) := dk_4 (byr_X8_years_3 (j := 8) rfl)
theorem dX8_years_57 : decode cX8_years 57 = .ok (.iadd, 1) := dk_96 (byr_X8_years_3 (j := 9) rfl)
theorem dX8_years_58 : decode cX8_years 58 = .ok (.invokevirtual 278, 3) := dk_182 (byr_X8_years_3 (j := 10) rfl) (byr_X8_years_3 (j := 11) rfl) (byr_X8_years_3 (j := 12) rfl) (by decide)
theorem dX8_years_61 : decode cX8_years 61 = .ok (.istore 6, 2) := dk_54 (byr_X8_years_3 (j := 13) rfl) (byr_X8_years_3 (j := 14) rfl)
theorem dX8_years_63 : decode cX8_years 63 = .ok (.aload_n 0, 1) := dk_42 (byr_X8_years_3 (j := 15) rfl)
theorem dX8_years_64 : decode cX8_years 64 = .ok (.iload 5, 2) := dk_21 (byr_X8_years_4 (j := 0) rfl) (byr_X8_years_4 (j := 1) rfl)
theorem dX8_years_66 : decode cX8_years 66 = .ok (.iload 6, 2) := dk_21 (byr_X8_years_4 (j := 2) rfl) (byr_X8_years_4 (j := 3) rfl)
theorem dX8_years_68 : decode cX8_years 68 = .ok (.invokevirtual 192, 3) := dk_182 (byr_X8_years_4 (j := 4) rfl) (byr_X8_years_4 (j := 5) rfl) (byr_X8_years_4 (j := 6) rfl) (by decide)
theorem dX8_years_71 : decode cX8_years 71 = .ok (.ifCond .eq 6, 3) := dk_153 (byr_X8_years_4 (j := 7) rfl) (byr_X8_years_4 (j := 8) rfl) (byr_X8_years_4 (j := 9) rfl) (by decide)
theorem dX8_years_74 : decode cX8_years 74 = .ok (.goto 20, 3) := dk_167 (byr_X8_years_4 (j := 10) rfl) (byr_X8_years_4 (j := 11) rfl) (byr_X8_years_4 (j := 12) rfl) (by decide)
theorem dX8_years_77 : decode cX8_years 77 = .ok (.aload_n 0, 1) := dk_42 (byr_X8_years_4 (j := 13) rfl)
theorem dX8_years_78 : decode cX8_years 78 = .ok (.iload 5, 2) := dk_21 (byr_X8_years_4 (j := 14) rfl) (byr_X8_years_4 (j := 15) rfl)
theorem dX8_years_80 : decode cX8_years 80 = .ok (.iload 6, 2) := dk_21 (byr_X8_years_5 (j := 0) rfl) (byr_X8_years_5 (j := 1) rfl)
theorem dX8_years_82 : decode cX8_years 82 = .ok (.invokevirtual 195, 3) := dk_182 (byr_X8_years_5 (j := 2) rfl) (byr_X8_years_5 (j := 3) rfl) (byr_X8_years_5 (j := 4) rfl) (by decide)
theorem dX8_years_85 : decode cX8_years 85 = .ok (.iinc 3 1, 3) := dk_132 (byr_X8_years_5 (j := 5) rfl) (byr_X8_years_5 (j := 6) rfl) (byr_X8_years_5 (j := 7) rfl) (by decide)
theorem dX8_years_88 : decode cX8_years 88 = .ok (.iinc 4 2, 3) := dk_132 (byr_X8_years_5 (j := 8) rfl) (byr_X8_years_5 (j := 9) rfl) (byr_X8_years_5 (j := 10) rfl) (by decide)
theorem dX8_years_91 : decode cX8_years 91 = .ok (.goto (-57), 3) := dk_167 (byr_X8_years_5 (j := 11) rfl) (byr_X8_years_5 (j := 12) rfl) (byr_X8_years_5 (j := 13) rfl) (by decide)
theorem dX8_years_94 : decode cX8_years 94 = .ok (.iload_n 3, 1) := dk_29 (byr_X8_years_5 (j := 14) rfl)
theorem dX8_years_95 : decode cX8_years 95 = .ok (.ireturn, 1) := dk_172 (byr_X8_years_5 (j := 15) rfl)
set_option maxHeartbeats 4000000 in
set_option maxRecDepth 100000 in
theorem c_X8_years (l : Launch) (G : GT) (σ : Sto) (a1 : Int32) (r : (Int32 × Sto)) (h : f_X8_years σ a1 = some r) : MW l G (8) (205) 0 0 yX8_years cX8_years 7 (Option.some Jvm.ClassFile.FieldType.int) [.ref (gad G 0), .int a1] (wl G σ) (some (.int r.1)) (wl G r.2) := by
  refine mw_of RX8 (fiI G) [(0, .ref (gad G 0)), (1, .int a1)] (by decide +kernel) rfl (Nat.le_of_ble_eq_true rfl) rfl h rfl (fun p e s m args below meth c X hr hnm => ?_)
  have J34 : ∀ (k2 : Nat) (hk2 : K0 k2 = 4)  (n : Nat) (v3 : Int32) (v4 : Int32) (σ : Sto), Sm p l e { frames := 8, cells := 0, slots := 0, locals := 205 } s m args below meth c G 7 (Qm below args s G 0 0 (fiI G)) 0 0 (wl G σ) 34 [(0, .ref (gad G 0)), (2, .ref (gad G k2)), (3, .int v3), (4, .int v4)] [] (f_X8_years_L34  k2 n v3 v4 σ) := by
    intro k2 hk2 n
    induction n with
    | zero => intro v3 v4 σ; rw [f_X8_years_L34]; exact sm_none
    | succ n ihl =>
      intro v3 v4 σ
      rw [f_X8_years_L34]
      refine sm_iload X 36 3 dX8_years_34 rfl rfl ?_
      refine sm_iconst X 37 (1) dX8_years_36 rfl rfl ?_
      refine sm_iadd X 38 dX8_years_37 rfl ?_
      refine sm_aload_n X 39 1 dX8_years_38 rfl rfl rfl ?_
      refine sm_geti X 42 hk2 fd_4_1 dX8_years_39 rfl q_279 ?_
      refine sm_icmp_ge X 45 94 dX8_years_42 rfl (by decide) (fun h42 => ?_) (fun h42 => ?_)
      · refine sm_iload_n X 95 2 dX8_years_94 rfl rfl rfl ?_
        exact sm_iret X hr dX8_years_95 rfl
      · refine sm_aload_n X 46 1 dX8_years_45 rfl rfl rfl ?_
        refine sm_iload X 48 3 dX8_years_46 rfl rfl ?_
        refine sm_bind (fun r48 h48 => ?_)
        refine sm_callV0 X 51 [.int v4] [] [.int r48] (c_X4_read l G σ k2 hk2 v4 r48 h48) cw_X4_read q_832 q_833 q_831 hk2 (by decide) rfl rfl rfl rfl rfl (Nat.le_of_ble_eq_true rfl) ⟨Nat.le_of_ble_eq_true rfl, Nat.le_of_ble_eq_true rfl⟩ ⟨Nat.le_refl _, Nat.le_refl _⟩ dX8_years_48 rfl ?_
        refine sm_istore X 53 [(5, .int r48), (0, .ref (gad G 0)), (2, .ref (gad G k2)), (3, .int v3), (4, .int v4)] dX8_years_51 rfl (by decide) rfl ?_
        refine sm_aload_n X 54 2 dX8_years_53 rfl rfl rfl ?_
        refine sm_iload X 56 4 dX8_years_54 rfl rfl ?_
        refine sm_iconst X 57 (1) dX8_years_56 rfl rfl ?_
        refine sm_iadd X 58 dX8_years_57 rfl ?_
        refine sm_bind (fun r58 h58 => ?_)
        refine sm_callV0 X 61 [.int (v4 + (1 : Int32))] [] [.int r58] (c_X4_read l G σ k2 hk2 (v4 + (1 : Int32)) r58 h58) cw_X4_read q_832 q_833 q_831 hk2 (by decide) rfl rfl rfl rfl rfl (Nat.le_of_ble_eq_true rfl) ⟨Nat.le_of_ble_eq_true rfl, Nat.le_of_ble_eq_true rfl⟩ ⟨Nat.le_refl _, Nat.le_refl _⟩ dX8_years_58 rfl ?_
        refine sm_istore X 63 [(6, .int r58), (5, .int r48), (0, .ref (gad G 0)), (2, .ref (gad G k2)), (3, .int v3), (4, .int v4)] dX8_years_61 rfl (by decide) rfl ?_
        refine sm_aload_n X 64 2 dX8_years_63 rfl rfl rfl ?_
        refine sm_iload X 66 1 dX8_years_64 rfl rfl ?_
        refine sm_iload X 68 0 dX8_years_66 rfl rfl ?_
        refine sm_bind (fun r68 h68 => ?_)
        refine sm_callV0 X 71 [.int r48, .int r58] [] [.int r68] (c_X8_whyNoYear l G σ r48 r58 r68 h68) cw_X8_whyNoYear q_656 qs_16 q_654 rfl (by decide) rfl rfl rfl rfl rfl (Nat.le_of_ble_eq_true rfl) ⟨Nat.le_of_ble_eq_true rfl, Nat.le_of_ble_eq_true rfl⟩ ⟨Nat.le_refl _, Nat.le_refl _⟩ dX8_years_68 rfl ?_
        refine sm_if_eq X 74 77 dX8_years_71 rfl (by decide) (fun h71 => ?_) (fun h71 => ?_)
        · refine sm_aload_n X 78 2 dX8_years_77 rfl rfl rfl ?_
          refine sm_iload X 80 1 dX8_years_78 rfl rfl ?_
          refine sm_iload X 82 0 dX8_years_80 rfl rfl ?_
          refine sm_bind (fun r82 h82 => ?_)
          refine sm_callV0 X 85 [.int r48, .int r58] [] [] (c_X8_letYearGoBy l G σ r48 r58 r82 h82) cw_X8_letYearGoBy q_660 qs_17 q_658 rfl (by decide) rfl rfl rfl rfl rfl (Nat.le_of_ble_eq_true rfl) ⟨Nat.le_of_ble_eq_true rfl, Nat.le_of_ble_eq_true rfl⟩ ⟨Nat.le_refl _, Nat.le_refl _⟩ dX8_years_82 rfl ?_
          refine sm_iinc X 88 4 (1 : Int32) [(3, .int (v3 + (1 : Int32))), (6, .int r58), (5, .int r48), (0, .ref (gad G 0)), (2, .ref (gad G k2)), (4, .int v4)] dX8_years_85 rfl rfl rfl (by decide) rfl ?_
          refine sm_iinc X 91 5 (2 : Int32) [(4, .int (v4 + (2 : Int32))), (3, .int (v3 + (1 : Int32))), (6, .int r58), (5, .int r48), (0, .ref (gad G 0)), (2, .ref (gad G k2))] dX8_years_88 rfl rfl rfl (by decide) rfl ?_
          refine sm_goto X 34 dX8_years_91 (by decide) ?_
          exact sm_sub [4, 5, 1, 0] rfl (ihl (v3 + (1 : Int32)) (v4 + (2 : Int32)) r82)
        · refine sm_goto X 94 dX8_years_74 (by decide) ?_
          refine sm_iload_n X 95 4 dX8_years_94 rfl rfl rfl ?_
          exact sm_iret X hr dX8_years_95 rfl
  unfold f_X8_years
  refine sm_aload_n X 1 0 dX8_years_0 rfl rfl rfl ?_
  refine sm_iload_n X 2 1 dX8_years_1 rfl rfl rfl ?_
  refine sm_bind (fun r2 h2 => ?_)
  refine sm_callV0 X 5 [.int a1] [] [va_re (gad G) r2] (c_X8_sheetAt l G σ a1 r2 h2) cw_X8_sheetAt q_798 qs_25 q_796 rfl (by decide) rfl rfl rfl rfl rfl (Nat.le_of_ble_eq_true rfl) ⟨Nat.le_of_ble_eq_true rfl, Nat.le_of_ble_eq_true rfl⟩ ⟨Nat.le_refl _, Nat.le_refl _⟩ dX8_years_2 rfl ?_
  refine sm_astore_nq X 6 [(2, va_re (gad G) r2), (0, .ref (gad G 0)), (1, .int a1)] dX8_years_5 rfl rfl (by decide) rfl ?_
  refine sm_aload_nq X 7 0 dX8_years_6 rfl rfl rfl ?_
  refine sm_ifnonnull X 10 16 dX8_years_7 rfl (by decide) (fun hn => ?_) (fun k7 hn => ?_)
  · subst hn
    refine sm_aload_n X 11 1 dX8_years_10 rfl rfl rfl ?_
    refine sm_iconst X 12 (1) dX8_years_11 rfl rfl ?_
    refine sm_bind (fun r12 h12 => ?_)
    refine sm_callV0 X 15 [.int 1] [] [.int r12.1] (c_X8_refuse l G σ (1 : Int32) r12 h12) cw_X8_refuse q_332 qs_0 q_330 rfl (by decide) rfl rfl rfl rfl rfl (Nat.le_of_ble_eq_true rfl) ⟨Nat.le_of_ble_eq_true rfl, Nat.le_of_ble_eq_true rfl⟩ ⟨Nat.le_refl _, Nat.le_refl _⟩ dX8_years_12 rfl ?_
    exact sm_iret X hr dX8_years_15 rfl
  · subst hn
    refine sm_aload_n X 17 0 dX8_years_16 rfl rfl rfl ?_
    refine sm_guard (fun hk7 => ?_)
    refine sm_bind (fun r17 h17 => ?_)
    refine sm_callV0 X 20 [] [] [.int (b2i r17)] (c_X4_isMissing l G σ k7 hk7 r17 h17) cw_X4_isMissing q_810 q_811 q_809 hk7 (by decide) rfl rfl rfl rfl rfl (Nat.le_of_ble_eq_true rfl) ⟨Nat.le_of_ble_eq_true rfl, Nat.le_of_ble_eq_true rfl⟩ ⟨Nat.le_refl _, Nat.le_refl _⟩ dX8_years_17 rfl ?_
    refine sm_ifz_eq X 23 29 dX8_years_20 rfl (by decide) (fun h20 => ?_) (fun h20 => ?_)
    · refine sm_aload_n X 24 1 dX8_years_23 rfl rfl rfl ?_
      refine sm_iconst X 25 (2) dX8_years_24 rfl rfl ?_
      refine sm_bind (fun r25 h25 => ?_)
      refine sm_callV0 X 28 [.int 2] [] [.int r25.1] (c_X8_refuse l G σ (2 : Int32) r25 h25) cw_X8_refuse q_332 qs_0 q_330 rfl (by decide) rfl rfl rfl rfl rfl (Nat.le_of_ble_eq_true rfl) ⟨Nat.le_of_ble_eq_true rfl, Nat.le_of_ble_eq_true rfl⟩ ⟨Nat.le_refl _, Nat.le_refl _⟩ dX8_years_25 rfl ?_
      exact sm_iret X hr dX8_years_28 rfl
    · refine sm_iconst X 30 (0) dX8_years_29 rfl rfl ?_
      refine sm_istore_n X 31 [(3, .int 0), (2, .ref (gad G k7)), (0, .ref (gad G 0)), (1, .int a1)] dX8_years_30 rfl rfl (by decide) rfl ?_
      refine sm_iconst X 32 (0) dX8_years_31 rfl rfl ?_
      refine sm_istore X 34 [(4, .int 0), (3, .int 0), (2, .ref (gad G k7)), (0, .ref (gad G 0)), (1, .int a1)] dX8_years_32 rfl (by decide) rfl ?_
      exact sm_sub [3, 2, 1, 0] rfl (J34 k7 hk7  FU (0 : Int32) (0 : Int32) σ)
def by_X8_judge_0 : List Nat := [42, 27, 182, 0, 246, 78, 42, 180, 0, 10, 28, 182, 0, 99, 58, 4]
def by_X8_judge_1 : List Nat := [45, 198, 0, 8, 25, 4, 199, 0, 9, 42, 4, 182, 0, 76, 172, 45]
def by_X8_judge_2 : List Nat := [182, 0, 253, 153, 0, 9, 42, 5, 182, 0, 76, 172, 42, 180, 0, 29]
def by_X8_judge_3 : List Nat := [42, 180, 0, 10, 42, 180, 0, 10, 180, 0, 83, 182, 0, 167, 25, 4]
def by_X8_judge_4 : List Nat := [182, 1, 24, 54, 5, 3, 54, 6, 21, 6, 45, 180, 1, 1, 162, 0]
def by_X8_judge_5 : List Nat := [38, 45, 21, 6, 182, 1, 22, 21, 5, 159, 0, 6, 21, 6, 172, 42]
def by_X8_judge_6 : List Nat := [180, 0, 29, 25, 4, 21, 5, 21, 6, 182, 1, 27, 54, 5, 132, 6]
def by_X8_judge_z : List Nat := [1, 167, 255, 215, 45, 180, 1, 1, 172]
def by_X8_judge : List (List Nat) := [by_X8_judge_0, by_X8_judge_1, by_X8_judge_2, by_X8_judge_3, by_X8_judge_4, by_X8_judge_5, by_X8_judge_6]
set_option maxRecDepth 100000 in
theorem byo_X8_judge : cX8_judge.data.toList.map UInt8.toNat = by_X8_judge.flatten ++ by_X8_judge_z := by decide +kernel
theorem byl_X8_judge : by_X8_judge.all (fun r => r.length == 16) = true := by decide +kernel
theorem byr_X8_judge_0 {j v : Nat} (h : by_X8_judge_0[j]? = some v) : RD cX8_judge (0 + j) v := rd_16 byo_X8_judge byl_X8_judge 0 rfl h
theorem byr_X8_judge_1 {j v : Nat} (h : by_X8_judge_1[j]? = some v) : RD cX8_judge (16 + j) v := rd_16 byo_X8_judge byl_X8_judge 1 rfl h
theorem byr_X8_judge_2 {j v : Nat} (h : by_X8_judge_2[j]? = some v) : RD cX8_judge (32 + j) v := rd_16 byo_X8_judge byl_X8_judge 2 rfl h
theorem byr_X8_judge_3 {j v : Nat} (h : by_X8_judge_3[j]? = some v) : RD cX8_judge (48 + j) v := rd_16 byo_X8_judge byl_X8_judge 3 rfl h
theorem byr_X8_judge_4 {j v : Nat} (h : by_X8_judge_4[j]? = some v) : RD cX8_judge (64 + j) v := rd_16 byo_X8_judge byl_X8_judge 4 rfl h
theorem byr_X8_judge_5 {j v : Nat} (h : by_X8_judge_5[j]? = some v) : RD cX8_judge (80 + j) v := rd_16 byo_X8_judge byl_X8_judge 5 rfl h
theorem byr_X8_judge_6 {j v : Nat} (h : by_X8_judge_6[j]? = some v) : RD cX8_judge (96 + j) v := rd_16 byo_X8_judge byl_X8_judge 6 rfl h
theorem byr_X8_judge_7 {j v : Nat} (h : by_X8_judge_z[j]? = some v) : RD cX8_judge (112 + j) v := rd_z byo_X8_judge byl_X8_judge 7 rfl h
theorem dX8_judge_0 : decode cX8_judge 0 = .ok (.aload_n 0, 1) := dk_42 (byr_X8_judge_0 (j := 0) rfl)
theorem dX8_judge_1 : decode cX8_judge 1 = .ok (.iload_n 1, 1) := dk_27 (byr_X8_judge_0 (j := 1) rfl)
theorem dX8_judge_2 : decode cX8_judge 2 = .ok (.invokevirtual 246, 3) := dk_182 (byr_X8_judge_0 (j := 2) rfl) (byr_X8_judge_0 (j := 3) rfl) (byr_X8_judge_0 (j := 4) rfl) (by decide)
theorem dX8_judge_5 : decode cX8_judge 5 = .ok (.astore_n 3, 1) := dk_78 (byr_X8_judge_0 (j := 5) rfl)
theorem dX8_judge_6 : decode cX8_judge 6 = .ok (.aload_n 0, 1) := dk_42 (byr_X8_judge_0 (j := 6) rfl)
theorem dX8_judge_7 : decode cX8_judge 7 = .ok (.getfield 10, 3) := dk_180 (byr_X8_judge_0 (j := 7) rfl) (byr_X8_judge_0 (j := 8) rfl) (byr_X8_judge_0 (j := 9) rfl) (by decide)
theorem dX8_judge_10 : decode cX8_judge 10 = .ok (.iload_n 2, 1) := dk_28 (byr_X8_judge_0 (j := 10) rfl)
theorem dX8_judge_11 : decode cX8_judge 11 = .ok (.invokevirtual 99, 3) := dk_182 (byr_X8_judge_0 (j := 11) rfl) (byr_X8_judge_0 (j := 12) rfl) (byr_X8_judge_0 (j := 13) rfl) (by decide)
theorem dX8_judge_14 : decode cX8_judge 14 = .ok (.astore 4, 2) := dk_58 (byr_X8_judge_0 (j := 14) rfl) (byr_X8_judge_0 (j := 15) rfl)
theorem dX8_judge_16 : decode cX8_judge 16 = .ok (.aload_n 3, 1) := dk_45 (byr_X8_judge_1 (j := 0) rfl)
theorem dX8_judge_17 : decode cX8_judge 17 = .ok (.ifnull 8, 3) := dk_198 (byr_X8_judge_1 (j := 1) rfl) (byr_X8_judge_1 (j := 2) rfl) (byr_X8_judge_1 (j := 3) rfl) (by decide)
theorem dX8_judge_20 : decode cX8_judge 20 = .ok (.aload 4, 2) := dk_25 (byr_X8_judge_1 (j := 4) rfl) (byr_X8_judge_1 (j := 5) rfl)
theorem dX8_judge_22 : decode cX8_judge 22 = .ok (.ifnonnull 9, 3) := dk_199 (byr_X8_judge_1 (j := 6) rfl) (byr_X8_judge_1 (j := 7) rfl) (byr_X8_judge_1 (j := 8) rfl) (by decide)
theorem dX8_judge_25 : decode cX8_judge 25 = .ok (.aload_n 0, 1) := dk_42 (byr_X8_judge_1 (j := 9) rfl)
theorem dX8_judge_26 : decode cX8_judge 26 = .ok (.iconst 1, 1) := dk_4 (byr_X8_judge_1 (j := 10) rfl)
theorem dX8_judge_27 : decode cX8_judge 27 = .ok (.invokevirtual 76, 3) := dk_182 (byr_X8_judge_1 (j := 11) rfl) (byr_X8_judge_1 (j := 12) rfl) (byr_X8_judge_1 (j := 13) rfl) (by decide)
theorem dX8_judge_30 : decode cX8_judge 30 = .ok (.ireturn, 1) := dk_172 (byr_X8_judge_1 (j := 14) rfl)
theorem dX8_judge_31 : decode cX8_judge 31 = .ok (.aload_n 3, 1) := dk_45 (byr_X8_judge_1 (j := 15) rfl)
theorem dX8_judge_32 : decode cX8_judge 32 = .ok (.invokevirtual 253, 3) := dk_182 (byr_X8_judge_2 (j := 0) rfl) (byr_X8_judge_2 (j := 1) rfl) (byr_X8_judge_2 (j := 2) rfl) (by decide)
theorem dX8_judge_35 : decode cX8_judge 35 = .ok (.ifCond .eq 9, 3) := dk_153 (byr_X8_judge_2 (j := 3) rfl) (byr_X8_judge_2 (j := 4) rfl) (byr_X8_judge_2 (j := 5) rfl) (by decide)
theorem dX8_judge_38 : decode cX8_judge 38 = .ok (.aload_n 0, 1) := dk_42 (byr_X8_judge_2 (j := 6) rfl)
theorem dX8_judge_39 : decode cX8_judge 39 = .ok (.iconst 2, 1) := dk_5 (byr_X8_judge_2 (j := 7) rfl)
theorem dX8_judge_40 : decode cX8_judge 40 = .ok (.invokevirtual 76, 3) := dk_182 (byr_X8_judge_2 (j := 8) rfl) (byr_X8_judge_2 (j := 9) rfl) (byr_X8_judge_2 (j := 10) rfl) (by decide)
theorem dX8_judge_43 : decode cX8_judge 43 = .ok (.ireturn, 1) := dk_172 (byr_X8_judge_2 (j := 11) rfl)
theorem dX8_judge_44 : decode cX8_judge 44 = .ok (.aload_n 0, 1) := dk_42 (byr_X8_judge_2 (j := 12) rfl)
theorem dX8_judge_45 : decode cX8_judge 45 = .ok (.getfield 29, 3) := dk_180 (byr_X8_judge_2 (j := 13) rfl) (byr_X8_judge_2 (j := 14) rfl) (byr_X8_judge_2 (j := 15) rfl) (by decide)
theorem dX8_judge_48 : decode cX8_judge 48 = .ok (.aload_n 0, 1) := dk_42 (byr_X8_judge_3 (j := 0) rfl)
theorem dX8_judge_49 : decode cX8_judge 49 = .ok (.getfield 10, 3) := dk_180 (byr_X8_judge_3 (j := 1) rfl) (byr_X8_judge_3 (j := 2) rfl) (byr_X8_judge_3 (j := 3) rfl) (by decide)
theorem dX8_judge_52 : decode cX8_judge 52 = .ok (.aload_n 0, 1) := dk_42 (byr_X8_judge_3 (j := 4) rfl)
theorem dX8_judge_53 : decode cX8_judge 53 = .ok (.getfield 10, 3) := dk_180 (byr_X8_judge_3 (j := 5) rfl) (byr_X8_judge_3 (j := 6) rfl) (byr_X8_judge_3 (j := 7) rfl) (by decide)
theorem dX8_judge_56 : decode cX8_judge 56 = .ok (.getfield 83, 3) := dk_180 (byr_X8_judge_3 (j := 8) rfl) (byr_X8_judge_3 (j := 9) rfl) (byr_X8_judge_3 (j := 10) rfl) (by decide)
theorem dX8_judge_59 : decode cX8_judge 59 = .ok (.invokevirtual 167, 3) := dk_182 (byr_X8_judge_3 (j := 11) rfl) (byr_X8_judge_3 (j := 12) rfl) (byr_X8_judge_3 (j := 13) rfl) (by decide)
theorem dX8_judge_62 : decode cX8_judge 62 = .ok (.aload 4, 2) := dk_25 (byr_X8_judge_3 (j := 14) rfl) (byr_X8_judge_3 (j := 15) rfl)
theorem dX8_judge_64 : decode cX8_judge 64 = .ok (.invokevirtual 280, 3) := dk_182 (byr_X8_judge_4 (j := 0) rfl) (byr_X8_judge_4 (j := 1) rfl) (byr_X8_judge_4 (j := 2) rfl) (by decide)
theorem dX8_judge_67 : decode cX8_judge 67 = .ok (.istore 5, 2) := dk_54 (byr_X8_judge_4 (j := 3) rfl) (byr_X8_judge_4 (j := 4) rfl)
theorem dX8_judge_69 : decode cX8_judge 69 = .ok (.iconst 0, 1) := dk_3 (byr_X8_judge_4 (j := 5) rfl)
theorem dX8_judge_70 : decode cX8_judge 70 = .ok (.istore 6, 2) := dk_54 (byr_X8_judge_4 (j := 6) rfl) (byr_X8_judge_4 (j := 7) rfl)
theorem dX8_judge_72 : decode cX8_judge 72 = .ok (.iload 6, 2) := dk_21 (byr_X8_judge_4 (j := 8) rfl) (byr_X8_judge_4 (j := 9) rfl)
theorem dX8_judge_74 : decode cX8_judge 74 = .ok (.aload_n 3, 1) := dk_45 (byr_X8_judge_4 (j := 10) rfl)
theorem dX8_judge_75 : decode cX8_judge 75 = .ok (.getfield 257, 3) := dk_180 (byr_X8_judge_4 (j := 11) rfl) (byr_X8_judge_4 (j := 12) rfl) (byr_X8_judge_4 (j := 13) rfl) (by decide)
theorem dX8_judge_78 : decode cX8_judge 78 = .ok (.if_icmp .ge 38, 3) := dk_162 (byr_X8_judge_4 (j := 14) rfl) (byr_X8_judge_4 (j := 15) rfl) (byr_X8_judge_5 (j := 0) rfl) (by decide)
theorem dX8_judge_81 : decode cX8_judge 81 = .ok (.aload_n 3, 1) := dk_45 (byr_X8_judge_5 (j := 1) rfl)
theorem dX8_judge_82 : decode cX8_judge 82 = .ok (.iload 6, 2) := dk_21 (byr_X8_judge_5 (j := 2) rfl) (byr_X8_judge_5 (j := 3) rfl)
theorem dX8_judge_84 : decode cX8_judge 84 = .ok (.invokevirtual 278, 3) := dk_182 (byr_X8_judge_5 (j := 4) rfl) (byr_X8_judge_5 (j := 5) rfl) (byr_X8_judge_5 (j := 6) rfl) (by decide)
theorem dX8_judge_87 : decode cX8_judge 87 = .ok (.iload 5, 2) := dk_21 (byr_X8_judge_5 (j := 7) rfl) (byr_X8_judge_5 (j := 8) rfl)
theorem dX8_judge_89 : decode cX8_judge 89 = .ok (.if_icmp .eq 6, 3) := dk_159 (byr_X8_judge_5 (j := 9) rfl) (byr_X8_judge_5 (j := 10) rfl) (byr_X8_judge_5 (j := 11) rfl) (by decide)
theorem dX8_judge_92 : decode cX8_judge 92 = .ok (.iload 6, 2) := dk_21 (byr_X8_judge_5 (j := 12) rfl) (byr_X8_judge_5 (j := 13) rfl)
theorem dX8_judge_94 : decode cX8_judge 94 = .ok (.ireturn, 1) := dk_172 (byr_X8_judge_5 (j := 14) rfl)
theorem dX8_judge_95 : decode cX8_judge 95 = .ok (.aload_n 0, 1) := dk_42 (byr_X8_judge_5 (j := 15) rfl)
theorem dX8_judge_96 : decode cX8_judge 96 = .ok (.getfield 29, 3) := dk_180 (byr_X8_judge_6 (j := 0) rfl) (byr_X8_judge_6 (j := 1) rfl) (byr_X8_judge_6 (j := 2) rfl) (by decide)
theorem dX8_judge_99 : decode cX8_judge 99 = .ok (.aload 4, 2) := dk_25 (byr_X8_judge_6 (j := 3) rfl) (byr_X8_judge_6 (j := 4) rfl)
theorem dX8_judge_101 : decode cX8_judge 101 = .ok (.iload 5, 2) := dk_21 (byr_X8_judge_6 (j := 5) rfl) (byr_X8_judge_6 (j := 6) rfl)
theorem dX8_judge_103 : decode cX8_judge 103 = .ok (.iload 6, 2) := dk_21 (byr_X8_judge_6 (j := 7) rfl) (byr_X8_judge_6 (j := 8) rfl)
theorem dX8_judge_105 : decode cX8_judge 105 = .ok (.invokevirtual 283, 3) := dk_182 (byr_X8_judge_6 (j := 9) rfl) (byr_X8_judge_6 (j := 10) rfl) (byr_X8_judge_6 (j := 11) rfl) (by decide)
theorem dX8_judge_108 : decode cX8_judge 108 = .ok (.istore 5, 2) := dk_54 (byr_X8_judge_6 (j := 12) rfl) (byr_X8_judge_6 (j := 13) rfl)
theorem dX8_judge_110 : decode cX8_judge 110 = .ok (.iinc 6 1, 3) := dk_132 (byr_X8_judge_6 (j := 14) rfl) (byr_X8_judge_6 (j := 15) rfl) (byr_X8_judge_7 (j := 0) rfl) (by decide)
theorem dX8_judge_113 : decode cX8_judge 113 = .ok (.goto (-41), 3) := dk_167 (byr_X8_judge_7 (j := 1) rfl) (byr_X8_judge_7 (j := 2) rfl) (byr_X8_judge_7 (j := 3) rfl) (by decide)
theorem dX8_judge_116 : decode cX8_judge 116 = .ok (.aload_n 3, 1) := dk_45 (byr_X8_judge_7 (j := 4) rfl)
theorem dX8_judge_117 : decode cX8_judge 117 = .ok (.getfield 257, 3) := dk_180 (byr_X8_judge_7 (j := 5) rfl) (byr_X8_judge_7 (j := 6) rfl) (byr_X8_judge_7 (j := 7) rfl) (by decide)
theorem dX8_judge_120 : decode cX8_judge 120 = .ok (.ireturn, 1) := dk_172 (byr_X8_judge_7 (j := 8) rfl)
set_option maxHeartbeats 4000000 in
set_option maxRecDepth 100000 in
theorem c_X8_judge (l : Launch) (G : GT) (σ : Sto) (a1 : Int32) (a2 : Int32) (r : (Int32 × Sto)) (h : f_X8_judge σ a1 a2 = some r) : MW l G (7) (181) 0 0 yX8_judge cX8_judge 7 (Option.some Jvm.ClassFile.FieldType.int) [.ref (gad G 0), .int a1, .int a2] (wl G σ) (some (.int r.1)) (wl G r.2) := by
  refine mw_of RX8 (fiI G) [(0, .ref (gad G 0)), (1, .int a1), (2, .int a2)] (by decide +kernel) rfl (Nat.le_of_ble_eq_true rfl) rfl h rfl (fun p e s m args below meth c X hr hnm => ?_)
  have J72 : ∀ (k3 : Nat) (hk3 : K0 k3 = 4) (k4 : Nat) (hk4 : K0 k4 = 6)  (n : Nat) (v5 : Int32) (v6 : Int32) (σ : Sto), Sm p l e { frames := 7, cells := 0, slots := 0, locals := 181 } s m args below meth c G 7 (Qm below args s G 0 0 (fiI G)) 0 0 (wl G σ) 72 [(0, .ref (gad G 0)), (3, .ref (gad G k3)), (4, .ref (gad G k4)), (5, .int v5), (6, .int v6)] [] (f_X8_judge_L72  k3 k4 n v5 v6 σ) := by
    intro k3 hk3 k4 hk4 n
    induction n with
    | zero => intro v5 v6 σ; rw [f_X8_judge_L72]; exact sm_none
    | succ n ihl =>
      intro v5 v6 σ
      rw [f_X8_judge_L72]
      refine sm_iload X 74 4 dX8_judge_72 rfl rfl ?_
      refine sm_aload_n X 75 1 dX8_judge_74 rfl rfl rfl ?_
      refine sm_geti X 78 hk3 fd_4_1 dX8_judge_75 rfl q_279 ?_
      refine sm_icmp_ge X 81 116 dX8_judge_78 rfl (by decide) (fun h78 => ?_) (fun h78 => ?_)
      · refine sm_aload_n X 117 1 dX8_judge_116 rfl rfl rfl ?_
        refine sm_geti X 120 hk3 fd_4_1 dX8_judge_117 rfl q_279 ?_
        exact sm_iret X hr dX8_judge_120 rfl
      · refine sm_aload_n X 82 1 dX8_judge_81 rfl rfl rfl ?_
        refine sm_iload X 84 4 dX8_judge_82 rfl rfl ?_
        refine sm_bind (fun r84 h84 => ?_)
        refine sm_callV0 X 87 [.int v6] [] [.int r84] (c_X4_read l G σ k3 hk3 v6 r84 h84) cw_X4_read q_832 q_833 q_831 hk3 (by decide) rfl rfl rfl rfl rfl (Nat.le_of_ble_eq_true rfl) ⟨Nat.le_of_ble_eq_true rfl, Nat.le_of_ble_eq_true rfl⟩ ⟨Nat.le_refl _, Nat.le_refl _⟩ dX8_judge_84 rfl ?_
        refine sm_iload X 89 3 dX8_judge_87 rfl rfl ?_
        refine sm_icmp_eq X 92 95 dX8_judge_89 rfl (by decide) (fun h89 => ?_) (fun h89 => ?_)
        · refine sm_aload_n X 96 0 dX8_judge_95 rfl rfl rfl ?_
          refine sm_getf X 99 58 rfl fd_8_3 rfl dX8_judge_96 rfl q_292 ?_
          refine sm_aload X 101 2 dX8_judge_99 rfl rfl ?_
          refine sm_iload X 103 3 dX8_judge_101 rfl rfl ?_
          refine sm_iload X 105 4 dX8_judge_103 rfl rfl ?_
          refine sm_bind (fun r105 h105 => ?_)
          refine sm_callV0 X 108 [.ref (gad G k4), .int v5, .int v6] [] [.int r105] (c_X5_placeNext l G σ k4 hk4 v5 v6 r105 h105) cw_X5_placeNext q_616 q_617 q_840 rfl (by decide) rfl rfl rfl rfl rfl (Nat.le_of_ble_eq_true rfl) ⟨Nat.le_of_ble_eq_true rfl, Nat.le_of_ble_eq_true rfl⟩ ⟨Nat.le_refl _, Nat.le_refl _⟩ dX8_judge_105 rfl ?_
          refine sm_istore X 110 [(5, .int r105), (0, .ref (gad G 0)), (3, .ref (gad G k3)), (4, .ref (gad G k4)), (6, .int v6)] dX8_judge_108 rfl (by decide) rfl ?_
          refine sm_iinc X 113 4 (1 : Int32) [(6, .int (v6 + (1 : Int32))), (5, .int r105), (0, .ref (gad G 0)), (3, .ref (gad G k3)), (4, .ref (gad G k4))] dX8_judge_110 rfl rfl rfl (by decide) rfl ?_
          refine sm_goto X 72 dX8_judge_113 (by decide) ?_
          exact sm_sub [2, 3, 4, 1, 0] rfl (ihl r105 (v6 + (1 : Int32)) σ)
        · refine sm_iload X 94 4 dX8_judge_92 rfl rfl ?_
          exact sm_iret X hr dX8_judge_94 rfl
  unfold f_X8_judge
  refine sm_aload_n X 1 0 dX8_judge_0 rfl rfl rfl ?_
  refine sm_iload_n X 2 1 dX8_judge_1 rfl rfl rfl ?_
  refine sm_bind (fun r2 h2 => ?_)
  refine sm_callV0 X 5 [.int a1] [] [va_re (gad G) r2] (c_X8_sheetAt l G σ a1 r2 h2) cw_X8_sheetAt q_798 qs_25 q_796 rfl (by decide) rfl rfl rfl rfl rfl (Nat.le_of_ble_eq_true rfl) ⟨Nat.le_of_ble_eq_true rfl, Nat.le_of_ble_eq_true rfl⟩ ⟨Nat.le_refl _, Nat.le_refl _⟩ dX8_judge_2 rfl ?_
  refine sm_astore_nq X 6 [(3, va_re (gad G) r2), (0, .ref (gad G 0)), (1, .int a1), (2, .int a2)] dX8_judge_5 rfl rfl (by decide) rfl ?_
  refine sm_aload_n X 7 1 dX8_judge_6 rfl rfl rfl ?_
  refine sm_getf X 10 1 rfl fd_8_0 rfl dX8_judge_7 rfl q_289 ?_
  refine sm_iload_n X 11 3 dX8_judge_10 rfl rfl rfl ?_
  refine sm_bind (fun r11 h11 => ?_)
  refine sm_callV0 X 14 [.int a2] [] [va_re (gad G) r11] (c_X0_swimmerAt l G σ 1 rfl a2 r11 h11) cw_X0_swimmerAt q_376 q_377 q_375 rfl (by decide) rfl rfl rfl rfl rfl (Nat.le_of_ble_eq_true rfl) ⟨Nat.le_of_ble_eq_true rfl, Nat.le_of_ble_eq_true rfl⟩ ⟨Nat.le_refl _, Nat.le_refl _⟩ dX8_judge_11 rfl ?_
  refine sm_astoreq X 16 [(4, va_re (gad G) r11), (3, va_re (gad G) r2), (0, .ref (gad G 0)), (1, .int a1), (2, .int a2)] dX8_judge_14 rfl (by decide) (by cases r2 <;> rfl) ?_
  refine sm_aload_nq X 17 1 dX8_judge_16 rfl rfl rfl ?_
  refine sm_ifnull X 20 25 dX8_judge_17 rfl (by decide) (fun hn => ?_) (fun k17 hn => ?_)
  · subst hn
    refine sm_aload_n X 26 2 dX8_judge_25 rfl rfl rfl ?_
    refine sm_iconst X 27 (1) dX8_judge_26 rfl rfl ?_
    refine sm_bind (fun r27 h27 => ?_)
    refine sm_callV0 X 30 [.int 1] [] [.int r27.1] (c_X8_refuse l G σ (1 : Int32) r27 h27) cw_X8_refuse q_332 qs_0 q_330 rfl (by decide) rfl rfl rfl rfl rfl (Nat.le_of_ble_eq_true rfl) ⟨Nat.le_of_ble_eq_true rfl, Nat.le_of_ble_eq_true rfl⟩ ⟨Nat.le_refl _, Nat.le_refl _⟩ dX8_judge_27 rfl ?_
    exact sm_iret X hr dX8_judge_30 rfl
  · subst hn
    refine sm_aloadq X 22 0 dX8_judge_20 rfl rfl ?_
    refine sm_ifnonnull X 25 31 dX8_judge_22 rfl (by decide) (fun hn => ?_) (fun k22 hn => ?_)
    · subst hn
      refine sm_aload_n X 26 2 dX8_judge_25 rfl rfl rfl ?_
      refine sm_iconst X 27 (1) dX8_judge_26 rfl rfl ?_
      refine sm_bind (fun r27 h27 => ?_)
      refine sm_callV0 X 30 [.int 1] [] [.int r27.1] (c_X8_refuse l G σ (1 : Int32) r27 h27) cw_X8_refuse q_332 qs_0 q_330 rfl (by decide) rfl rfl rfl rfl rfl (Nat.le_of_ble_eq_true rfl) ⟨Nat.le_of_ble_eq_true rfl, Nat.le_of_ble_eq_true rfl⟩ ⟨Nat.le_refl _, Nat.le_refl _⟩ dX8_judge_27 rfl ?_
      exact sm_iret X hr dX8_judge_30 rfl
    · subst hn
      refine sm_aload_n X 32 1 dX8_judge_31 rfl rfl rfl ?_
      refine sm_guard (fun hk17 => ?_)
      refine sm_bind (fun r32 h32 => ?_)
      refine sm_callV0 X 35 [] [] [.int (b2i r32)] (c_X4_isMissing l G σ k17 hk17 r32 h32) cw_X4_isMissing q_810 q_811 q_809 hk17 (by decide) rfl rfl rfl rfl rfl (Nat.le_of_ble_eq_true rfl) ⟨Nat.le_of_ble_eq_true rfl, Nat.le_of_ble_eq_true rfl⟩ ⟨Nat.le_refl _, Nat.le_refl _⟩ dX8_judge_32 rfl ?_
      refine sm_ifz_eq X 38 44 dX8_judge_35 rfl (by decide) (fun h35 => ?_) (fun h35 => ?_)
      · refine sm_aload_n X 39 2 dX8_judge_38 rfl rfl rfl ?_
        refine sm_iconst X 40 (2) dX8_judge_39 rfl rfl ?_
        refine sm_bind (fun r40 h40 => ?_)
        refine sm_callV0 X 43 [.int 2] [] [.int r40.1] (c_X8_refuse l G σ (2 : Int32) r40 h40) cw_X8_refuse q_332 qs_0 q_330 rfl (by decide) rfl rfl rfl rfl rfl (Nat.le_of_ble_eq_true rfl) ⟨Nat.le_of_ble_eq_true rfl, Nat.le_of_ble_eq_true rfl⟩ ⟨Nat.le_refl _, Nat.le_refl _⟩ dX8_judge_40 rfl ?_
        exact sm_iret X hr dX8_judge_43 rfl
      · refine sm_aload_n X 45 2 dX8_judge_44 rfl rfl rfl ?_
        refine sm_getf X 48 58 rfl fd_8_3 rfl dX8_judge_45 rfl q_292 ?_
        refine sm_aload_n X 49 2 dX8_judge_48 rfl rfl rfl ?_
        refine sm_getf X 52 1 rfl fd_8_0 rfl dX8_judge_49 rfl q_289 ?_
        refine sm_aload_n X 53 2 dX8_judge_52 rfl rfl rfl ?_
        refine sm_getf X 56 1 rfl fd_8_0 rfl dX8_judge_53 rfl q_289 ?_
        refine sm_geti X 59 rfl fd_0_1 dX8_judge_56 rfl q_92 ?_
        refine sm_bind (fun r59 h59 => ?_)
        refine sm_callV0 X 62 [.ref (gad G 1), .int (σ.1 1 1)] [] [] (c_X5_feel l G σ 1 rfl (σ.1 1 1) r59 h59) cw_X5_feel q_603 q_604 q_602 rfl (by decide) rfl rfl rfl rfl rfl (Nat.le_of_ble_eq_true rfl) ⟨Nat.le_of_ble_eq_true rfl, Nat.le_of_ble_eq_true rfl⟩ ⟨Nat.le_refl _, Nat.le_refl _⟩ dX8_judge_59 rfl ?_
        refine sm_aload X 64 0 dX8_judge_62 rfl rfl ?_
        refine sm_guard (fun hk22 => ?_)
        refine sm_bind (fun r64 h64 => ?_)
        refine sm_callV0 X 67 [] [] [.int r64] (c_X6_shore l G r59 k22 hk22 r64 h64) cw_X6_shore q_612 q_613 q_839 hk22 (by decide) rfl rfl rfl rfl rfl (Nat.le_of_ble_eq_true rfl) ⟨Nat.le_of_ble_eq_true rfl, Nat.le_of_ble_eq_true rfl⟩ ⟨Nat.le_refl _, Nat.le_refl _⟩ dX8_judge_64 rfl ?_
        refine sm_istore X 69 [(5, .int r64), (4, .ref (gad G k22)), (3, .ref (gad G k17)), (0, .ref (gad G 0)), (1, .int a1), (2, .int a2)] dX8_judge_67 rfl (by decide) rfl ?_
        refine sm_iconst X 70 (0) dX8_judge_69 rfl rfl ?_
        refine sm_istore X 72 [(6, .int 0), (5, .int r64), (4, .ref (gad G k22)), (3, .ref (gad G k17)), (0, .ref (gad G 0)), (1, .int a1), (2, .int a2)] dX8_judge_70 rfl (by decide) rfl ?_
        exact sm_sub [4, 3, 2, 1, 0] rfl (J72 k17 hk17 k22 hk22  FU r64 (0 : Int32) r59)
def by_X8_image_0 : List Nat := [42, 180, 0, 16, 42, 180, 0, 10, 182, 1, 31, 42, 89, 180, 0, 67]
def by_X8_image_z : List Nat := [4, 96, 181, 0, 67, 42, 180, 0, 67, 172]
def by_X8_image : List (List Nat) := [by_X8_image_0]
set_option maxRecDepth 100000 in
theorem byo_X8_image : cX8_image.data.toList.map UInt8.toNat = by_X8_image.flatten ++ by_X8_image_z := by decide +kernel
theorem byl_X8_image : by_X8_image.all (fun r => r.length == 16) = true := by decide +kernel
theorem byr_X8_image_0 {j v : Nat} (h : by_X8_image_0[j]? = some v) : RD cX8_image (0 + j) v := rd_16 byo_X8_image byl_X8_image 0 rfl h
theorem byr_X8_image_1 {j v : Nat} (h : by_X8_image_z[j]? = some v) : RD cX8_image (16 + j) v := rd_z byo_X8_image byl_X8_image 1 rfl h
theorem dX8_image_0 : decode cX8_image 0 = .ok (.aload_n 0, 1) := dk_42 (byr_X8_image_0 (j := 0) rfl)
theorem dX8_image_1 : decode cX8_image 1 = .ok (.getfield 16, 3) := dk_180 (byr_X8_image_0 (j := 1) rfl) (byr_X8_image_0 (j := 2) rfl) (byr_X8_image_0 (j := 3) rfl) (by decide)
theorem dX8_image_4 : decode cX8_image 4 = .ok (.aload_n 0, 1) := dk_42 (byr_X8_image_0 (j := 4) rfl)
theorem dX8_image_5 : decode cX8_image 5 = .ok (.getfield 10, 3) := dk_180 (byr_X8_image_0 (j := 5) rfl) (byr_X8_image_0 (j := 6) rfl) (byr_X8_image_0 (j := 7) rfl) (by decide)
theorem dX8_image_8 : decode cX8_image 8 = .ok (.invokevirtual 287, 3) := dk_182 (byr_X8_image_0 (j := 8) rfl) (byr_X8_image_0 (j := 9) rfl) (byr_X8_image_0 (j := 10) rfl) (by decide)
theorem dX8_image_11 : decode cX8_image 11 = .ok (.aload_n 0, 1) := dk_42 (byr_X8_image_0 (j := 11) rfl)
theorem dX8_image_12 : decode cX8_image 12 = .ok (.dup, 1) := dk_89 (byr_X8_image_0 (j := 12) rfl)
theorem dX8_image_13 : decode cX8_image 13 = .ok (.getfield 67, 3) := dk_180 (byr_X8_image_0 (j := 13) rfl) (byr_X8_image_0 (j := 14) rfl) (byr_X8_image_0 (j := 15) rfl) (by decide)
theorem dX8_image_16 : decode cX8_image 16 = .ok (.iconst 1, 1) := dk_4 (byr_X8_image_1 (j := 0) rfl)
theorem dX8_image_17 : decode cX8_image 17 = .ok (.iadd, 1) := dk_96 (byr_X8_image_1 (j := 1) rfl)
theorem dX8_image_18 : decode cX8_image 18 = .ok (.putfield 67, 3) := dk_181 (byr_X8_image_1 (j := 2) rfl) (byr_X8_image_1 (j := 3) rfl) (byr_X8_image_1 (j := 4) rfl) (by decide)
theorem dX8_image_21 : decode cX8_image 21 = .ok (.aload_n 0, 1) := dk_42 (byr_X8_image_1 (j := 5) rfl)
theorem dX8_image_22 : decode cX8_image 22 = .ok (.getfield 67, 3) := dk_180 (byr_X8_image_1 (j := 6) rfl) (byr_X8_image_1 (j := 7) rfl) (byr_X8_image_1 (j := 8) rfl) (by decide)
theorem dX8_image_25 : decode cX8_image 25 = .ok (.ireturn, 1) := dk_172 (byr_X8_image_1 (j := 9) rfl)
set_option maxHeartbeats 4000000 in
set_option maxRecDepth 100000 in
theorem c_X8_image (l : Launch) (G : GT) (σ : Sto)  (r : (Int32 × Sto)) (h : f_X8_image σ  = some r) : MW l G (5) (131) 0 0 yX8_image cX8_image 1 (Option.some Jvm.ClassFile.FieldType.int) [.ref (gad G 0)] (wl G σ) (some (.int r.1)) (wl G r.2) := by
  refine mw_of RX8 (fiI G) [(0, .ref (gad G 0))] (by decide +kernel) rfl (Nat.le_of_ble_eq_true rfl) rfl h rfl (fun p e s m args below meth c X hr hnm => ?_)
  unfold f_X8_image
  refine sm_aload_n X 1 0 dX8_image_0 rfl rfl rfl ?_
  refine sm_getf X 4 28 rfl fd_8_1 rfl dX8_image_1 rfl q_290 ?_
  refine sm_aload_n X 5 0 dX8_image_4 rfl rfl rfl ?_
  refine sm_getf X 8 1 rfl fd_8_0 rfl dX8_image_5 rfl q_289 ?_
  refine sm_bind (fun r8 h8 => ?_)
  refine sm_callV0 X 11 [.ref (gad G 1)] [] [] (c_X0_copy l G σ 28 rfl 1 rfl r8 h8) cw_X0_copy q_846 q_847 q_845 rfl (by decide) rfl rfl rfl rfl rfl (Nat.le_of_ble_eq_true rfl) ⟨Nat.le_of_ble_eq_true rfl, Nat.le_of_ble_eq_true rfl⟩ ⟨Nat.le_refl _, Nat.le_refl _⟩ dX8_image_8 rfl ?_
  refine sm_aload_n X 12 0 dX8_image_11 rfl rfl rfl ?_
  refine sm_dup X 13 dX8_image_12 rfl rfl ?_
  refine sm_geti X 16 rfl fd_8_10 dX8_image_13 rfl q_299 ?_
  refine sm_iconst X 17 (1) dX8_image_16 rfl rfl ?_
  refine sm_iadd X 18 dX8_image_17 rfl ?_
  refine sm_puti X 21 .int rfl fd_8_10 (by decide) rfl rfl rfl dX8_image_18 rfl q_299 (fun σ18 e18 => ?_)
  clear e18
  refine sm_aload_n X 22 0 dX8_image_21 rfl rfl rfl ?_
  refine sm_geti X 25 rfl fd_8_10 dX8_image_22 rfl q_299 ?_
  exact sm_iret X hr dX8_image_25 rfl
def by_X8_restore_0 : List Nat := [42, 180, 0, 67, 154, 0, 9, 42, 5, 182, 0, 76, 172, 42, 180, 0]
def by_X8_restore_1 : List Nat := [10, 42, 180, 0, 16, 182, 1, 31, 42, 180, 0, 10, 180, 1, 34, 172]
def by_X8_restore_z : List Nat := []
def by_X8_restore : List (List Nat) := [by_X8_restore_0, by_X8_restore_1]
set_option maxRecDepth 100000 in
theorem byo_X8_restore : cX8_restore.data.toList.map UInt8.toNat = by_X8_restore.flatten ++ by_X8_restore_z := by decide +kernel
theorem byl_X8_restore : by_X8_restore.all (fun r => r.length == 16) = true := by decide +kernel
theorem byr_X8_restore_0 {j v : Nat} (h : by_X8_restore_0[j]? = some v) : RD cX8_restore (0 + j) v := rd_16 byo_X8_restore byl_X8_restore 0 rfl h
theorem byr_X8_restore_1 {j v : Nat} (h : by_X8_restore_1[j]? = some v) : RD cX8_restore (16 + j) v := rd_16 byo_X8_restore byl_X8_restore 1 rfl h
theorem byr_X8_restore_2 {j v : Nat} (h : by_X8_restore_z[j]? = some v) : RD cX8_restore (32 + j) v := rd_z byo_X8_restore byl_X8_restore 2 rfl h
theorem dX8_restore_0 : decode cX8_restore 0 = .ok (.aload_n 0, 1) := dk_42 (byr_X8_restore_0 (j := 0) rfl)
theorem dX8_restore_1 : decode cX8_restore 1 = .ok (.getfield 67, 3) := dk_180 (byr_X8_restore_0 (j := 1) rfl) (byr_X8_restore_0 (j := 2) rfl) (byr_X8_restore_0 (j := 3) rfl) (by decide)
theorem dX8_restore_4 : decode cX8_restore 4 = .ok (.ifCond .ne 9, 3) := dk_154 (byr_X8_restore_0 (j := 4) rfl) (byr_X8_restore_0 (j := 5) rfl) (byr_X8_restore_0 (j := 6) rfl) (by decide)
theorem dX8_restore_7 : decode cX8_restore 7 = .ok (.aload_n 0, 1) := dk_42 (byr_X8_restore_0 (j := 7) rfl)
theorem dX8_restore_8 : decode cX8_restore 8 = .ok (.iconst 2, 1) := dk_5 (byr_X8_restore_0 (j := 8) rfl)
theorem dX8_restore_9 : decode cX8_restore 9 = .ok (.invokevirtual 76, 3) := dk_182 (byr_X8_restore_0 (j := 9) rfl) (byr_X8_restore_0 (j := 10) rfl) (byr_X8_restore_0 (j := 11) rfl) (by decide)
theorem dX8_restore_12 : decode cX8_restore 12 = .ok (.ireturn, 1) := dk_172 (byr_X8_restore_0 (j := 12) rfl)
theorem dX8_restore_13 : decode cX8_restore 13 = .ok (.aload_n 0, 1) := dk_42 (byr_X8_restore_0 (j := 13) rfl)
theorem dX8_restore_14 : decode cX8_restore 14 = .ok (.getfield 10, 3) := dk_180 (byr_X8_restore_0 (j := 14) rfl) (byr_X8_restore_0 (j := 15) rfl) (byr_X8_restore_1 (j := 0) rfl) (by decide)
theorem dX8_restore_17 : decode cX8_restore 17 = .ok (.aload_n 0, 1) := dk_42 (byr_X8_restore_1 (j := 1) rfl)
theorem dX8_restore_18 : decode cX8_restore 18 = .ok (.getfield 16, 3) := dk_180 (byr_X8_restore_1 (j := 2) rfl) (byr_X8_restore_1 (j := 3) rfl) (byr_X8_restore_1 (j := 4) rfl) (by decide)
theorem dX8_restore_21 : decode cX8_restore 21 = .ok (.invokevirtual 287, 3) := dk_182 (byr_X8_restore_1 (j := 5) rfl) (byr_X8_restore_1 (j := 6) rfl) (byr_X8_restore_1 (j := 7) rfl) (by decide)
theorem dX8_restore_24 : decode cX8_restore 24 = .ok (.aload_n 0, 1) := dk_42 (byr_X8_restore_1 (j := 8) rfl)
theorem dX8_restore_25 : decode cX8_restore 25 = .ok (.getfield 10, 3) := dk_180 (byr_X8_restore_1 (j := 9) rfl) (byr_X8_restore_1 (j := 10) rfl) (byr_X8_restore_1 (j := 11) rfl) (by decide)
theorem dX8_restore_28 : decode cX8_restore 28 = .ok (.getfield 290, 3) := dk_180 (byr_X8_restore_1 (j := 12) rfl) (byr_X8_restore_1 (j := 13) rfl) (byr_X8_restore_1 (j := 14) rfl) (by decide)
theorem dX8_restore_31 : decode cX8_restore 31 = .ok (.ireturn, 1) := dk_172 (byr_X8_restore_1 (j := 15) rfl)
set_option maxHeartbeats 4000000 in
set_option maxRecDepth 100000 in
theorem c_X8_restore (l : Launch) (G : GT) (σ : Sto)  (r : (Int32 × Sto)) (h : f_X8_restore σ  = some r) : MW l G (5) (131) 0 0 yX8_restore cX8_restore 1 (Option.some Jvm.ClassFile.FieldType.int) [.ref (gad G 0)] (wl G σ) (some (.int r.1)) (wl G r.2) := by
  refine mw_of RX8 (fiI G) [(0, .ref (gad G 0))] (by decide +kernel) rfl (Nat.le_of_ble_eq_true rfl) rfl h rfl (fun p e s m args below meth c X hr hnm => ?_)
  unfold f_X8_restore
  refine sm_aload_n X 1 0 dX8_restore_0 rfl rfl rfl ?_
  refine sm_geti X 4 rfl fd_8_10 dX8_restore_1 rfl q_299 ?_
  refine sm_if_ne X 7 13 dX8_restore_4 rfl (by decide) (fun h4 => ?_) (fun h4 => ?_)
  · refine sm_aload_n X 8 0 dX8_restore_7 rfl rfl rfl ?_
    refine sm_iconst X 9 (2) dX8_restore_8 rfl rfl ?_
    refine sm_bind (fun r9 h9 => ?_)
    refine sm_callV0 X 12 [.int 2] [] [.int r9.1] (c_X8_refuse l G σ (2 : Int32) r9 h9) cw_X8_refuse q_332 qs_0 q_330 rfl (by decide) rfl rfl rfl rfl rfl (Nat.le_of_ble_eq_true rfl) ⟨Nat.le_of_ble_eq_true rfl, Nat.le_of_ble_eq_true rfl⟩ ⟨Nat.le_refl _, Nat.le_refl _⟩ dX8_restore_9 rfl ?_
    exact sm_iret X hr dX8_restore_12 rfl
  · refine sm_aload_n X 14 0 dX8_restore_13 rfl rfl rfl ?_
    refine sm_getf X 17 1 rfl fd_8_0 rfl dX8_restore_14 rfl q_289 ?_
    refine sm_aload_n X 18 0 dX8_restore_17 rfl rfl rfl ?_
    refine sm_getf X 21 28 rfl fd_8_1 rfl dX8_restore_18 rfl q_290 ?_
    refine sm_bind (fun r21 h21 => ?_)
    refine sm_callV0 X 24 [.ref (gad G 28)] [] [] (c_X0_copy l G σ 1 rfl 28 rfl r21 h21) cw_X0_copy q_846 q_847 q_845 rfl (by decide) rfl rfl rfl rfl rfl (Nat.le_of_ble_eq_true rfl) ⟨Nat.le_of_ble_eq_true rfl, Nat.le_of_ble_eq_true rfl⟩ ⟨Nat.le_refl _, Nat.le_refl _⟩ dX8_restore_21 rfl ?_
    refine sm_aload_n X 25 0 dX8_restore_24 rfl rfl rfl ?_
    refine sm_getf X 28 1 rfl fd_8_0 rfl dX8_restore_25 rfl q_289 ?_
    refine sm_geti X 31 rfl fd_0_4 dX8_restore_28 rfl q_98 ?_
    exact sm_iret X hr dX8_restore_31 rfl
def by_X8_tell_0 : List Nat := [42, 180, 0, 10, 180, 1, 37, 61, 28, 3, 16, 19, 184, 0, 72, 153]
def by_X8_tell_1 : List Nat := [0, 9, 42, 7, 182, 0, 76, 172, 42, 180, 0, 10, 180, 1, 40, 28]
def by_X8_tell_2 : List Nat := [27, 79, 42, 180, 0, 10, 28, 4, 96, 181, 1, 37, 42, 180, 0, 10]
def by_X8_tell_z : List Nat := [180, 1, 37, 172]
def by_X8_tell : List (List Nat) := [by_X8_tell_0, by_X8_tell_1, by_X8_tell_2]
set_option maxRecDepth 100000 in
theorem byo_X8_tell : cX8_tell.data.toList.map UInt8.toNat = by_X8_tell.flatten ++ by_X8_tell_z := by decide +kernel
theorem byl_X8_tell : by_X8_tell.all (fun r => r.length == 16) = true := by decide +kernel
theorem byr_X8_tell_0 {j v : Nat} (h : by_X8_tell_0[j]? = some v) : RD cX8_tell (0 + j) v := rd_16 byo_X8_tell byl_X8_tell 0 rfl h
theorem byr_X8_tell_1 {j v : Nat} (h : by_X8_tell_1[j]? = some v) : RD cX8_tell (16 + j) v := rd_16 byo_X8_tell byl_X8_tell 1 rfl h
theorem byr_X8_tell_2 {j v : Nat} (h : by_X8_tell_2[j]? = some v) : RD cX8_tell (32 + j) v := rd_16 byo_X8_tell byl_X8_tell 2 rfl h
theorem byr_X8_tell_3 {j v : Nat} (h : by_X8_tell_z[j]? = some v) : RD cX8_tell (48 + j) v := rd_z byo_X8_tell byl_X8_tell 3 rfl h
theorem dX8_tell_0 : decode cX8_tell 0 = .ok (.aload_n 0, 1) := dk_42 (byr_X8_tell_0 (j := 0) rfl)
theorem dX8_tell_1 : decode cX8_tell 1 = .ok (.getfield 10, 3) := dk_180 (byr_X8_tell_0 (j := 1) rfl) (byr_X8_tell_0 (j := 2) rfl) (byr_X8_tell_0 (j := 3) rfl) (by decide)
theorem dX8_tell_4 : decode cX8_tell 4 = .ok (.getfield 293, 3) := dk_180 (byr_X8_tell_0 (j := 4) rfl) (byr_X8_tell_0 (j := 5) rfl) (byr_X8_tell_0 (j := 6) rfl) (by decide)
theorem dX8_tell_7 : decode cX8_tell 7 = .ok (.istore_n 2, 1) := dk_61 (byr_X8_tell_0 (j := 7) rfl)
theorem dX8_tell_8 : decode cX8_tell 8 = .ok (.iload_n 2, 1) := dk_28 (byr_X8_tell_0 (j := 8) rfl)
theorem dX8_tell_9 : decode cX8_tell 9 = .ok (.iconst 0, 1) := dk_3 (byr_X8_tell_0 (j := 9) rfl)
theorem dX8_tell_10 : decode cX8_tell 10 = .ok (.bipush 19, 2) := dk_16 (byr_X8_tell_0 (j := 10) rfl) (byr_X8_tell_0 (j := 11) rfl) (by decide)
theorem dX8_tell_12 : decode cX8_tell 12 = .ok (.invokestatic 72, 3) := dk_184 (byr_X8_tell_0 (j := 12) rfl) (byr_X8_tell_0 (j := 13) rfl) (byr_X8_tell_0 (j := 14) rfl) (by decide)
theorem dX8_tell_15 : decode cX8_tell 15 = .ok (.ifCond .eq 9, 3) := dk_153 (byr_X8_tell_0 (j := 15) rfl) (byr_X8_tell_1 (j := 0) rfl) (byr_X8_tell_1 (j := 1) rfl) (by decide)
theorem dX8_tell_18 : decode cX8_tell 18 = .ok (.aload_n 0, 1) := dk_42 (byr_X8_tell_1 (j := 2) rfl)
theorem dX8_tell_19 : decode cX8_tell 19 = .ok (.iconst 4, 1) := dk_7 (byr_X8_tell_1 (j := 3) rfl)
theorem dX8_tell_20 : decode cX8_tell 20 = .ok (.invokevirtual 76, 3) := dk_182 (byr_X8_tell_1 (j := 4) rfl) (byr_X8_tell_1 (j := 5) rfl) (byr_X8_tell_1 (j := 6) rfl) (by decide)
theorem dX8_tell_23 : decode cX8_tell 23 = .ok (.ireturn, 1) := dk_172 (byr_X8_tell_1 (j := 7) rfl)
theorem dX8_tell_24 : decode cX8_tell 24 = .ok (.aload_n 0, 1) := dk_42 (byr_X8_tell_1 (j := 8) rfl)
theorem dX8_tell_25 : decode cX8_tell 25 = .ok (.getfield 10, 3) := dk_180 (byr_X8_tell_1 (j := 9) rfl) (byr_X8_tell_1 (j := 10) rfl) (byr_X8_tell_1 (j := 11) rfl) (by decide)
theorem dX8_tell_28 : decode cX8_tell 28 = .ok (.getfield 296, 3) := dk_180 (byr_X8_tell_1 (j := 12) rfl) (byr_X8_tell_1 (j := 13) rfl) (byr_X8_tell_1 (j := 14) rfl) (by decide)
theorem dX8_tell_31 : decode cX8_tell 31 = .ok (.iload_n 2, 1) := dk_28 (byr_X8_tell_1 (j := 15) rfl)
theorem dX8_tell_32 : decode cX8_tell 32 = .ok (.iload_n 1, 1) := dk_27 (byr_X8_tell_2 (j := 0) rfl)
theorem dX8_tell_33 : decode cX8_tell 33 = .ok (.iastore, 1) := dk_79 (byr_X8_tell_2 (j := 1) rfl)
theorem dX8_tell_34 : decode cX8_tell 34 = .ok (.aload_n 0, 1) := dk_42 (byr_X8_tell_2 (j := 2) rfl)
theorem dX8_tell_35 : decode cX8_tell 35 = .ok (.getfield 10, 3) := dk_180 (byr_X8_tell_2 (j := 3) rfl) (byr_X8_tell_2 (j := 4) rfl) (byr_X8_tell_2 (j := 5) rfl) (by decide)
theorem dX8_tell_38 : decode cX8_tell 38 = .ok (.iload_n 2, 1) := dk_28 (byr_X8_tell_2 (j := 6) rfl)
theorem dX8_tell_39 : decode cX8_tell 39 = .ok (.iconst 1, 1) := dk_4 (byr_X8_tell_2 (j := 7) rfl)
theorem dX8_tell_40 : decode cX8_tell 40 = .ok (.iadd, 1) := dk_96 (byr_X8_tell_2 (j := 8) rfl)
theorem dX8_tell_41 : decode cX8_tell 41 = .ok (.putfield 293, 3) := dk_181 (byr_X8_tell_2 (j := 9) rfl) (byr_X8_tell_2 (j := 10) rfl) (byr_X8_tell_2 (j := 11) rfl) (by decide)
theorem dX8_tell_44 : decode cX8_tell 44 = .ok (.aload_n 0, 1) := dk_42 (byr_X8_tell_2 (j := 12) rfl)
theorem dX8_tell_45 : decode cX8_tell 45 = .ok (.getfield 10, 3) := dk_180 (byr_X8_tell_2 (j := 13) rfl) (byr_X8_tell_2 (j := 14) rfl) (byr_X8_tell_2 (j := 15) rfl) (by decide)
theorem dX8_tell_48 : decode cX8_tell 48 = .ok (.getfield 293, 3) := dk_180 (byr_X8_tell_3 (j := 0) rfl) (byr_X8_tell_3 (j := 1) rfl) (byr_X8_tell_3 (j := 2) rfl) (by decide)
theorem dX8_tell_51 : decode cX8_tell 51 = .ok (.ireturn, 1) := dk_172 (byr_X8_tell_3 (j := 3) rfl)
set_option maxHeartbeats 4000000 in
set_option maxRecDepth 100000 in
theorem c_X8_tell (l : Launch) (G : GT) (σ : Sto) (a1 : Int32) (r : (Int32 × Sto)) (h : f_X8_tell σ a1 = some r) : MW l G (4) (107) 0 0 yX8_tell cX8_tell 3 (Option.some Jvm.ClassFile.FieldType.int) [.ref (gad G 0), .int a1] (wl G σ) (some (.int r.1)) (wl G r.2) := by
  refine mw_of RX8 (fiI G) [(0, .ref (gad G 0)), (1, .int a1)] (by decide +kernel) rfl (Nat.le_of_ble_eq_true rfl) rfl h rfl (fun p e s m args below meth c X hr hnm => ?_)
  unfold f_X8_tell
  refine sm_aload_n X 1 0 dX8_tell_0 rfl rfl rfl ?_
  refine sm_getf X 4 1 rfl fd_8_0 rfl dX8_tell_1 rfl q_289 ?_
  refine sm_geti X 7 rfl fd_0_14 dX8_tell_4 rfl q_115 ?_
  refine sm_istore_n X 8 [(2, .int (σ.1 1 14)), (0, .ref (gad G 0)), (1, .int a1)] dX8_tell_7 rfl rfl (by decide) rfl ?_
  refine sm_iload_n X 9 0 dX8_tell_8 rfl rfl rfl ?_
  refine sm_iconst X 10 (0) dX8_tell_9 rfl rfl ?_
  refine sm_bipush X 12 (19) dX8_tell_10 rfl rfl ?_
  refine sm_bind (fun r12 h12 => ?_)
  refine sm_callS0 X 15 [.int (σ.1 1 14), .int 0, .int 19] [] [.int (b2i r12)] (c_X8_isOutside l G σ (σ.1 1 14) (0 : Int32) (19 : Int32) r12 h12) cw_X8_isOutside q_328 q_327 rfl rfl rfl (Nat.le_of_ble_eq_true rfl) ⟨Nat.le_of_ble_eq_true rfl, Nat.le_of_ble_eq_true rfl⟩ ⟨Nat.le_refl _, Nat.le_refl _⟩ dX8_tell_12 rfl ?_
  refine sm_ifz_eq X 18 24 dX8_tell_15 rfl (by decide) (fun h15 => ?_) (fun h15 => ?_)
  · refine sm_aload_n X 19 1 dX8_tell_18 rfl rfl rfl ?_
    refine sm_iconst X 20 (4) dX8_tell_19 rfl rfl ?_
    refine sm_bind (fun r20 h20 => ?_)
    refine sm_callV0 X 23 [.int 4] [] [.int r20.1] (c_X8_refuse l G σ (4 : Int32) r20 h20) cw_X8_refuse q_332 qs_0 q_330 rfl (by decide) rfl rfl rfl rfl rfl (Nat.le_of_ble_eq_true rfl) ⟨Nat.le_of_ble_eq_true rfl, Nat.le_of_ble_eq_true rfl⟩ ⟨Nat.le_refl _, Nat.le_refl _⟩ dX8_tell_20 rfl ?_
    exact sm_iret X hr dX8_tell_23 rfl
  · refine sm_aload_n X 25 1 dX8_tell_24 rfl rfl rfl ?_
    refine sm_getf X 28 1 rfl fd_8_0 rfl dX8_tell_25 rfl q_289 ?_
    refine sm_getf X 31 11 rfl fd_0_13 rfl dX8_tell_28 rfl q_113 ?_
    refine sm_iload_n X 32 0 dX8_tell_31 rfl rfl rfl ?_
    refine sm_iload_n X 33 2 dX8_tell_32 rfl rfl rfl ?_
    refine sm_iast X 34 rfl dX8_tell_33 rfl (fun σ33 e33 => ?_)
    clear e33
    refine sm_aload_n X 35 1 dX8_tell_34 rfl rfl rfl ?_
    refine sm_getf X 38 1 rfl fd_8_0 rfl dX8_tell_35 rfl q_289 ?_
    refine sm_iload_n X 39 0 dX8_tell_38 rfl rfl rfl ?_
    refine sm_iconst X 40 (1) dX8_tell_39 rfl rfl ?_
    refine sm_iadd X 41 dX8_tell_40 rfl ?_
    refine sm_puti X 44 .int rfl fd_0_14 (by decide) rfl rfl rfl dX8_tell_41 rfl q_115 (fun σ41 e41 => ?_)
    clear e41
    refine sm_aload_n X 45 1 dX8_tell_44 rfl rfl rfl ?_
    refine sm_getf X 48 1 rfl fd_8_0 rfl dX8_tell_45 rfl q_289 ?_
    refine sm_geti X 51 rfl fd_0_14 dX8_tell_48 rfl q_115 ?_
    exact sm_iret X hr dX8_tell_51 rfl
