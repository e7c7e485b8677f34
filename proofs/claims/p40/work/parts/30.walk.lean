def by_X8_isOutside_0 : List Nat := [26, 27, 161, 0, 8, 26, 28, 164, 0, 7, 4, 167, 0, 4, 3, 172]
def by_X8_isOutside_z : List Nat := []
def by_X8_isOutside : List (List Nat) := [by_X8_isOutside_0]
set_option maxRecDepth 100000 in
theorem byo_X8_isOutside : cX8_isOutside.data.toList.map UInt8.toNat = by_X8_isOutside.flatten ++ by_X8_isOutside_z := by decide +kernel
theorem byl_X8_isOutside : by_X8_isOutside.all (fun r => r.length == 16) = true := by decide +kernel
theorem byr_X8_isOutside_0 {j v : Nat} (h : by_X8_isOutside_0[j]? = some v) : RD cX8_isOutside (0 + j) v := rd_16 byo_X8_isOutside byl_X8_isOutside 0 rfl h
theorem byr_X8_isOutside_1 {j v : Nat} (h : by_X8_isOutside_z[j]? = some v) : RD cX8_isOutside (16 + j) v := rd_z byo_X8_isOutside byl_X8_isOutside 1 rfl h
theorem dX8_isOutside_0 : decode cX8_isOutside 0 = .ok (.iload_n 0, 1) := dk_26 (byr_X8_isOutside_0 (j := 0) rfl)
theorem dX8_isOutside_1 : decode cX8_isOutside 1 = .ok (.iload_n 1, 1) := dk_27 (byr_X8_isOutside_0 (j := 1) rfl)
theorem dX8_isOutside_2 : decode cX8_isOutside 2 = .ok (.if_icmp .lt 8, 3) := dk_161 (byr_X8_isOutside_0 (j := 2) rfl) (byr_X8_isOutside_0 (j := 3) rfl) (byr_X8_isOutside_0 (j := 4) rfl) (by decide)
theorem dX8_isOutside_5 : decode cX8_isOutside 5 = .ok (.iload_n 0, 1) := dk_26 (byr_X8_isOutside_0 (j := 5) rfl)
theorem dX8_isOutside_6 : decode cX8_isOutside 6 = .ok (.iload_n 2, 1) := dk_28 (byr_X8_isOutside_0 (j := 6) rfl)
theorem dX8_isOutside_7 : decode cX8_isOutside 7 = .ok (.if_icmp .le 7, 3) := dk_164 (byr_X8_isOutside_0 (j := 7) rfl) (byr_X8_isOutside_0 (j := 8) rfl) (byr_X8_isOutside_0 (j := 9) rfl) (by decide)
theorem dX8_isOutside_10 : decode cX8_isOutside 10 = .ok (.iconst 1, 1) := dk_4 (byr_X8_isOutside_0 (j := 10) rfl)
theorem dX8_isOutside_11 : decode cX8_isOutside 11 = .ok (.goto 4, 3) := dk_167 (byr_X8_isOutside_0 (j := 11) rfl) (byr_X8_isOutside_0 (j := 12) rfl) (byr_X8_isOutside_0 (j := 13) rfl) (by decide)
theorem dX8_isOutside_14 : decode cX8_isOutside 14 = .ok (.iconst 0, 1) := dk_3 (byr_X8_isOutside_0 (j := 14) rfl)
theorem dX8_isOutside_15 : decode cX8_isOutside 15 = .ok (.ireturn, 1) := dk_172 (byr_X8_isOutside_0 (j := 15) rfl)
set_option maxHeartbeats 4000000 in
set_option maxRecDepth 100000 in
theorem c_X8_isOutside (l : Launch) (G : GT) (σ : Sto) (a0 : Int32) (a1 : Int32) (a2 : Int32) (r : Bool) (h : f_X8_isOutside a0 a1 a2 = some r) : MW l G (2) (64) 0 0 yX8_isOutside cX8_isOutside 3 (Option.some Jvm.ClassFile.FieldType.boolean) [.int a0, .int a1, .int a2] (wl G σ) (some (.int (b2i r))) (wl G σ) := by
  refine mw_of RX8 (fpZ G σ) [(0, .int a0), (1, .int a1), (2, .int a2)] (by decide +kernel) rfl (Nat.le_of_ble_eq_true rfl) rfl h rfl (fun p e s m args below meth c X hr hnm => ?_)
  have J10 : ∀ (_ : Unit), Sm p l e { frames := 2, cells := 0, slots := 0, locals := 64 } s m args below meth c G 3 (Qm below args s G 0 0 (fpZ G σ)) 0 0 (wl G σ) 10 [] [] (f_X8_isOutside_L10  ) := by
    intro _
    rw [f_X8_isOutside_L10]
    refine sm_iconst X 11 (1) dX8_isOutside_10 rfl rfl ?_
    refine sm_goto X 15 dX8_isOutside_11 (by decide) ?_
    exact sm_zret X (v := true) hr dX8_isOutside_15 rfl
  unfold f_X8_isOutside
  refine sm_iload_n X 1 0 dX8_isOutside_0 rfl rfl rfl ?_
  refine sm_iload_n X 2 1 dX8_isOutside_1 rfl rfl rfl ?_
  refine sm_icmp_lt X 5 10 dX8_isOutside_2 rfl (by decide) (fun h2 => ?_) (fun h2 => ?_)
  · exact sm_sub [] rfl (J10 ())
  · refine sm_iload_n X 6 0 dX8_isOutside_5 rfl rfl rfl ?_
    refine sm_iload_n X 7 2 dX8_isOutside_6 rfl rfl rfl ?_
    refine sm_icmp_le X 10 14 dX8_isOutside_7 rfl (by decide) (fun h7 => ?_) (fun h7 => ?_)
    · refine sm_iconst X 15 (0) dX8_isOutside_14 rfl rfl ?_
      exact sm_zret X (v := false) hr dX8_isOutside_15 rfl
    · exact sm_sub [] rfl (J10 ())
def by_X0_swimmerAt_0 : List Nat := [27, 3, 42, 180, 0, 40, 4, 100, 184, 0, 71, 154, 0, 12, 27, 42]
def by_X0_swimmerAt_1 : List Nat := [180, 0, 36, 190, 161, 0, 5, 1, 176, 42, 180, 0, 36, 27, 50, 176]
def by_X0_swimmerAt_z : List Nat := []
def by_X0_swimmerAt : List (List Nat) := [by_X0_swimmerAt_0, by_X0_swimmerAt_1]
set_option maxRecDepth 100000 in
theorem byo_X0_swimmerAt : cX0_swimmerAt.data.toList.map UInt8.toNat = by_X0_swimmerAt.flatten ++ by_X0_swimmerAt_z := by decide +kernel
theorem byl_X0_swimmerAt : by_X0_swimmerAt.all (fun r => r.length == 16) = true := by decide +kernel
theorem byr_X0_swimmerAt_0 {j v : Nat} (h : by_X0_swimmerAt_0[j]? = some v) : RD cX0_swimmerAt (0 + j) v := rd_16 byo_X0_swimmerAt byl_X0_swimmerAt 0 rfl h
theorem byr_X0_swimmerAt_1 {j v : Nat} (h : by_X0_swimmerAt_1[j]? = some v) : RD cX0_swimmerAt (16 + j) v := rd_16 byo_X0_swimmerAt byl_X0_swimmerAt 1 rfl h
theorem byr_X0_swimmerAt_2 {j v : Nat} (h : by_X0_swimmerAt_z[j]? = some v) : RD cX0_swimmerAt (32 + j) v := rd_z byo_X0_swimmerAt byl_X0_swimmerAt 2 rfl h
theorem dX0_swimmerAt_0 : decode cX0_swimmerAt 0 = .ok (.iload_n 1, 1) := dk_27 (byr_X0_swimmerAt_0 (j := 0) rfl)
theorem dX0_swimmerAt_1 : decode cX0_swimmerAt 1 = .ok (.iconst 0, 1) := dk_3 (byr_X0_swimmerAt_0 (j := 1) rfl)
theorem dX0_swimmerAt_2 : decode cX0_swimmerAt 2 = .ok (.aload_n 0, 1) := dk_42 (byr_X0_swimmerAt_0 (j := 2) rfl)
theorem dX0_swimmerAt_3 : decode cX0_swimmerAt 3 = .ok (.getfield 40, 3) := dk_180 (byr_X0_swimmerAt_0 (j := 3) rfl) (byr_X0_swimmerAt_0 (j := 4) rfl) (byr_X0_swimmerAt_0 (j := 5) rfl) (by decide)
theorem dX0_swimmerAt_6 : decode cX0_swimmerAt 6 = .ok (.iconst 1, 1) := dk_4 (byr_X0_swimmerAt_0 (j := 6) rfl)
theorem dX0_swimmerAt_7 : decode cX0_swimmerAt 7 = .ok (.isub, 1) := dk_100 (byr_X0_swimmerAt_0 (j := 7) rfl)
theorem dX0_swimmerAt_8 : decode cX0_swimmerAt 8 = .ok (.invokestatic 71, 3) := dk_184 (byr_X0_swimmerAt_0 (j := 8) rfl) (byr_X0_swimmerAt_0 (j := 9) rfl) (byr_X0_swimmerAt_0 (j := 10) rfl) (by decide)
theorem dX0_swimmerAt_11 : decode cX0_swimmerAt 11 = .ok (.ifCond .ne 12, 3) := dk_154 (byr_X0_swimmerAt_0 (j := 11) rfl) (byr_X0_swimmerAt_0 (j := 12) rfl) (byr_X0_swimmerAt_0 (j := 13) rfl) (by decide)
theorem dX0_swimmerAt_14 : decode cX0_swimmerAt 14 = .ok (.iload_n 1, 1) := dk_27 (byr_X0_swimmerAt_0 (j := 14) rfl)
theorem dX0_swimmerAt_15 : decode cX0_swimmerAt 15 = .ok (.aload_n 0, 1) := dk_42 (byr_X0_swimmerAt_0 (j := 15) rfl)
theorem dX0_swimmerAt_16 : decode cX0_swimmerAt 16 = .ok (.getfield 36, 3) := dk_180 (byr_X0_swimmerAt_1 (j := 0) rfl) (byr_X0_swimmerAt_1 (j := 1) rfl) (byr_X0_swimmerAt_1 (j := 2) rfl) (by decide)
theorem dX0_swimmerAt_19 : decode cX0_swimmerAt 19 = .ok (.arraylength, 1) := dk_190 (byr_X0_swimmerAt_1 (j := 3) rfl)
theorem dX0_swimmerAt_20 : decode cX0_swimmerAt 20 = .ok (.if_icmp .lt 5, 3) := dk_161 (byr_X0_swimmerAt_1 (j := 4) rfl) (byr_X0_swimmerAt_1 (j := 5) rfl) (byr_X0_swimmerAt_1 (j := 6) rfl) (by decide)
theorem dX0_swimmerAt_23 : decode cX0_swimmerAt 23 = .ok (.aconst_null, 1) := dk_1 (byr_X0_swimmerAt_1 (j := 7) rfl)
theorem dX0_swimmerAt_24 : decode cX0_swimmerAt 24 = .ok (.areturn, 1) := dk_176 (byr_X0_swimmerAt_1 (j := 8) rfl)
theorem dX0_swimmerAt_25 : decode cX0_swimmerAt 25 = .ok (.aload_n 0, 1) := dk_42 (byr_X0_swimmerAt_1 (j := 9) rfl)
theorem dX0_swimmerAt_26 : decode cX0_swimmerAt 26 = .ok (.getfield 36, 3) := dk_180 (byr_X0_swimmerAt_1 (j := 10) rfl) (byr_X0_swimmerAt_1 (j := 11) rfl) (byr_X0_swimmerAt_1 (j := 12) rfl) (by decide)
theorem dX0_swimmerAt_29 : decode cX0_swimmerAt 29 = .ok (.iload_n 1, 1) := dk_27 (byr_X0_swimmerAt_1 (j := 13) rfl)
theorem dX0_swimmerAt_30 : decode cX0_swimmerAt 30 = .ok (.aaload, 1) := dk_50 (byr_X0_swimmerAt_1 (j := 14) rfl)
theorem dX0_swimmerAt_31 : decode cX0_swimmerAt 31 = .ok (.areturn, 1) := dk_176 (byr_X0_swimmerAt_1 (j := 15) rfl)
set_option maxHeartbeats 4000000 in
set_option maxRecDepth 100000 in
theorem c_X0_swimmerAt (l : Launch) (G : GT) (σ : Sto) (k0 : Nat) (hk0 : K0 k0 = 0) (a1 : Int32) (r : (Option Nat)) (h : f_X0_swimmerAt σ k0 a1 = some r) : MW l G (3) (86) 0 0 yX0_swimmerAt cX0_swimmerAt 2 (Option.some (Jvm.ClassFile.FieldType.object RX6)) [.ref (gad G k0), .int a1] (wl G σ) (some (va_re (gad G) r)) (wl G σ) := by
  refine mw_of RX0 (fpR G σ) [(0, .ref (gad G k0)), (1, .int a1)] (by decide +kernel) rfl (Nat.le_of_ble_eq_true rfl) rfl h rfl (fun p e s m args below meth c X hr hnm => ?_)
  unfold f_X0_swimmerAt
  refine sm_iload_n X 1 1 dX0_swimmerAt_0 rfl rfl rfl ?_
  refine sm_iconst X 2 (0) dX0_swimmerAt_1 rfl rfl ?_
  refine sm_aload_n X 3 0 dX0_swimmerAt_2 rfl rfl rfl ?_
  refine sm_geti X 6 hk0 fd_0_8 dX0_swimmerAt_3 rfl q_104 ?_
  refine sm_iconst X 7 (1) dX0_swimmerAt_6 rfl rfl ?_
  refine sm_isub X 8 dX0_swimmerAt_7 rfl ?_
  refine sm_bind (fun r8 h8 => ?_)
  refine sm_callSN0 X 11 (host := RX8) [.int a1, .int 0, .int ((σ.1 k0 8) - (1 : Int32))] [] [.int (b2i r8)] (c_X8_isOutside l G σ a1 (0 : Int32) ((σ.1 k0 8) - (1 : Int32)) r8 h8) cw_X8_isOutside q_328 (List.mem_of_getElem? (i := 8) rfl) rfl rfl rfl (Nat.le_of_ble_eq_true rfl) ⟨Nat.le_of_ble_eq_true rfl, Nat.le_of_ble_eq_true rfl⟩ ⟨Nat.le_refl _, Nat.le_refl _⟩ dX0_swimmerAt_8 rfl ?_
  refine sm_ifz_ne X 14 23 dX0_swimmerAt_11 rfl (by decide) (fun h11 => ?_) (fun h11 => ?_)
  · refine sm_null X 24 dX0_swimmerAt_23 rfl ?_
    exact sm_aret X (r := none) hr dX0_swimmerAt_24 rfl
  · refine sm_iload_n X 15 1 dX0_swimmerAt_14 rfl rfl rfl ?_
    refine sm_aload_n X 16 0 dX0_swimmerAt_15 rfl rfl rfl ?_
    refine sm_getf X 19 (A0 k0 7) hk0 fd_0_7 (fr_0_7 hk0).1 dX0_swimmerAt_16 rfl q_103 ?_
    refine sm_alen X 20 8 (Or.inr (Or.inl ((fr_0_7 hk0).2.1))) (by rw [(fr_0_7 hk0).2.2]; rfl) dX0_swimmerAt_19 rfl ?_
    refine sm_icmp_lt X 23 25 dX0_swimmerAt_20 rfl (by decide) (fun h20 => ?_) (fun h20 => ?_)
    · refine sm_aload_n X 26 0 dX0_swimmerAt_25 rfl rfl rfl ?_
      refine sm_getf X 29 (A0 k0 7) hk0 fd_0_7 (fr_0_7 hk0).1 dX0_swimmerAt_26 rfl q_103 ?_
      refine sm_iload_n X 30 1 dX0_swimmerAt_29 rfl rfl rfl ?_
      refine sm_aald X 31 (Or.inl ((fr_0_7 hk0).2.1)) dX0_swimmerAt_30 rfl (fun r30 e30 => ?_)
      clear e30
      exact sm_aret X (r := r30) hr dX0_swimmerAt_31 rfl
    · refine sm_null X 24 dX0_swimmerAt_23 rfl ?_
      exact sm_aret X (r := none) hr dX0_swimmerAt_24 rfl
def by_X0_lawOf_0 : List Nat := [27, 154, 0, 8, 42, 180, 0, 48, 176, 27, 4, 160, 0, 10, 42, 180]
def by_X0_lawOf_z : List Nat := [0, 52, 167, 0, 4, 1, 176]
def by_X0_lawOf : List (List Nat) := [by_X0_lawOf_0]
set_option maxRecDepth 100000 in
theorem byo_X0_lawOf : cX0_lawOf.data.toList.map UInt8.toNat = by_X0_lawOf.flatten ++ by_X0_lawOf_z := by decide +kernel
theorem byl_X0_lawOf : by_X0_lawOf.all (fun r => r.length == 16) = true := by decide +kernel
theorem byr_X0_lawOf_0 {j v : Nat} (h : by_X0_lawOf_0[j]? = some v) : RD cX0_lawOf (0 + j) v := rd_16 byo_X0_lawOf byl_X0_lawOf 0 rfl h
theorem byr_X0_lawOf_1 {j v : Nat} (h : by_X0_lawOf_z[j]? = some v) : RD cX0_lawOf (16 + j) v := rd_z byo_X0_lawOf byl_X0_lawOf 1 rfl h
theorem dX0_lawOf_0 : decode cX0_lawOf 0 = .ok (.iload_n 1, 1) := dk_27 (byr_X0_lawOf_0 (j := 0) rfl)
theorem dX0_lawOf_1 : decode cX0_lawOf 1 = .ok (.ifCond .ne 8, 3) := dk_154 (byr_X0_lawOf_0 (j := 1) rfl) (byr_X0_lawOf_0 (j := 2) rfl) (byr_X0_lawOf_0 (j := 3) rfl) (by decide)
theorem dX0_lawOf_4 : decode cX0_lawOf 4 = .ok (.aload_n 0, 1) := dk_42 (byr_X0_lawOf_0 (j := 4) rfl)
theorem dX0_lawOf_5 : decode cX0_lawOf 5 = .ok (.getfield 48, 3) := dk_180 (byr_X0_lawOf_0 (j := 5) rfl) (byr_X0_lawOf_0 (j := 6) rfl) (byr_X0_lawOf_0 (j := 7) rfl) (by decide)
theorem dX0_lawOf_8 : decode cX0_lawOf 8 = .ok (.areturn, 1) := dk_176 (byr_X0_lawOf_0 (j := 8) rfl)
theorem dX0_lawOf_9 : decode cX0_lawOf 9 = .ok (.iload_n 1, 1) := dk_27 (byr_X0_lawOf_0 (j := 9) rfl)
theorem dX0_lawOf_10 : decode cX0_lawOf 10 = .ok (.iconst 1, 1) := dk_4 (byr_X0_lawOf_0 (j := 10) rfl)
theorem dX0_lawOf_11 : decode cX0_lawOf 11 = .ok (.if_icmp .ne 10, 3) := dk_160 (byr_X0_lawOf_0 (j := 11) rfl) (byr_X0_lawOf_0 (j := 12) rfl) (byr_X0_lawOf_0 (j := 13) rfl) (by decide)
theorem dX0_lawOf_14 : decode cX0_lawOf 14 = .ok (.aload_n 0, 1) := dk_42 (byr_X0_lawOf_0 (j := 14) rfl)
theorem dX0_lawOf_15 : decode cX0_lawOf 15 = .ok (.getfield 52, 3) := dk_180 (byr_X0_lawOf_0 (j := 15) rfl) (byr_X0_lawOf_1 (j := 0) rfl) (byr_X0_lawOf_1 (j := 1) rfl) (by decide)
theorem dX0_lawOf_18 : decode cX0_lawOf 18 = .ok (.goto 4, 3) := dk_167 (byr_X0_lawOf_1 (j := 2) rfl) (byr_X0_lawOf_1 (j := 3) rfl) (byr_X0_lawOf_1 (j := 4) rfl) (by decide)
theorem dX0_lawOf_21 : decode cX0_lawOf 21 = .ok (.aconst_null, 1) := dk_1 (byr_X0_lawOf_1 (j := 5) rfl)
theorem dX0_lawOf_22 : decode cX0_lawOf 22 = .ok (.areturn, 1) := dk_176 (byr_X0_lawOf_1 (j := 6) rfl)
set_option maxHeartbeats 4000000 in
set_option maxRecDepth 100000 in
theorem c_X0_lawOf (l : Launch) (G : GT) (σ : Sto) (k0 : Nat) (hk0 : K0 k0 = 0) (a1 : Int32) (r : (Option Nat)) (h : f_X0_lawOf σ k0 a1 = some r) : MW l G (2) (64) 0 0 yX0_lawOf cX0_lawOf 2 (Option.some (Jvm.ClassFile.FieldType.object RX1)) [.ref (gad G k0), .int a1] (wl G σ) (some (va_re (gad G) r)) (wl G σ) := by
  refine mw_of RX0 (fpR G σ) [(0, .ref (gad G k0)), (1, .int a1)] (by decide +kernel) rfl (Nat.le_of_ble_eq_true rfl) rfl h rfl (fun p e s m args below meth c X hr hnm => ?_)
  unfold f_X0_lawOf
  refine sm_iload_n X 1 1 dX0_lawOf_0 rfl rfl rfl ?_
  refine sm_if_ne X 4 9 dX0_lawOf_1 rfl (by decide) (fun h1 => ?_) (fun h1 => ?_)
  · refine sm_aload_n X 5 0 dX0_lawOf_4 rfl rfl rfl ?_
    refine sm_getf X 8 (A0 k0 9) hk0 fd_0_9 (fr_0_9 hk0).1 dX0_lawOf_5 rfl q_106 ?_
    exact sm_aret X (r := (some (A0 k0 9))) hr dX0_lawOf_8 rfl
  · refine sm_iload_n X 10 1 dX0_lawOf_9 rfl rfl rfl ?_
    refine sm_iconst X 11 (1) dX0_lawOf_10 rfl rfl ?_
    refine sm_icmp_ne X 14 21 dX0_lawOf_11 rfl (by decide) (fun h11 => ?_) (fun h11 => ?_)
    · refine sm_aload_n X 15 0 dX0_lawOf_14 rfl rfl rfl ?_
      refine sm_getf X 18 (A0 k0 10) hk0 fd_0_10 (fr_0_10 hk0).1 dX0_lawOf_15 rfl q_107 ?_
      refine sm_goto X 22 dX0_lawOf_18 (by decide) ?_
      exact sm_aret X (r := (some (A0 k0 10))) hr dX0_lawOf_22 rfl
    · refine sm_null X 22 dX0_lawOf_21 rfl ?_
      exact sm_aret X (r := none) hr dX0_lawOf_22 rfl
def by_X1_valueOf_0 : List Nat := [26, 170, 0, 0, 0, 0, 0, 33, 255, 255, 255, 253, 255, 255, 255, 255]
def by_X1_valueOf_1 : List Nat := [0, 0, 0, 31, 0, 0, 0, 29, 0, 0, 0, 27, 27, 172, 28, 172]
def by_X1_valueOf_z : List Nat := [29, 172, 26, 172]
def by_X1_valueOf : List (List Nat) := [by_X1_valueOf_0, by_X1_valueOf_1]
set_option maxRecDepth 100000 in
theorem byo_X1_valueOf : cX1_valueOf.data.toList.map UInt8.toNat = by_X1_valueOf.flatten ++ by_X1_valueOf_z := by decide +kernel
theorem byl_X1_valueOf : by_X1_valueOf.all (fun r => r.length == 16) = true := by decide +kernel
theorem byr_X1_valueOf_0 {j v : Nat} (h : by_X1_valueOf_0[j]? = some v) : RD cX1_valueOf (0 + j) v := rd_16 byo_X1_valueOf byl_X1_valueOf 0 rfl h
theorem byr_X1_valueOf_1 {j v : Nat} (h : by_X1_valueOf_1[j]? = some v) : RD cX1_valueOf (16 + j) v := rd_16 byo_X1_valueOf byl_X1_valueOf 1 rfl h
theorem byr_X1_valueOf_2 {j v : Nat} (h : by_X1_valueOf_z[j]? = some v) : RD cX1_valueOf (32 + j) v := rd_z byo_X1_valueOf byl_X1_valueOf 2 rfl h
theorem dX1_valueOf_0 : decode cX1_valueOf 0 = .ok (.iload_n 0, 1) := dk_26 (byr_X1_valueOf_0 (j := 0) rfl)
set_option maxRecDepth 20000 in
theorem dX1_valueOf_1 : decode cX1_valueOf 1 = .ok (.tableswitch 33 (-3) (-1) #[31, 29, 27], 27) := by decide +kernel
theorem dX1_valueOf_28 : decode cX1_valueOf 28 = .ok (.iload_n 1, 1) := dk_27 (byr_X1_valueOf_1 (j := 12) rfl)
theorem dX1_valueOf_29 : decode cX1_valueOf 29 = .ok (.ireturn, 1) := dk_172 (byr_X1_valueOf_1 (j := 13) rfl)
theorem dX1_valueOf_30 : decode cX1_valueOf 30 = .ok (.iload_n 2, 1) := dk_28 (byr_X1_valueOf_1 (j := 14) rfl)
theorem dX1_valueOf_31 : decode cX1_valueOf 31 = .ok (.ireturn, 1) := dk_172 (byr_X1_valueOf_1 (j := 15) rfl)
theorem dX1_valueOf_32 : decode cX1_valueOf 32 = .ok (.iload_n 3, 1) := dk_29 (byr_X1_valueOf_2 (j := 0) rfl)
theorem dX1_valueOf_33 : decode cX1_valueOf 33 = .ok (.ireturn, 1) := dk_172 (byr_X1_valueOf_2 (j := 1) rfl)
theorem dX1_valueOf_34 : decode cX1_valueOf 34 = .ok (.iload_n 0, 1) := dk_26 (byr_X1_valueOf_2 (j := 2) rfl)
theorem dX1_valueOf_35 : decode cX1_valueOf 35 = .ok (.ireturn, 1) := dk_172 (byr_X1_valueOf_2 (j := 3) rfl)
set_option maxHeartbeats 4000000 in
set_option maxRecDepth 100000 in
theorem c_X1_valueOf (l : Launch) (G : GT) (σ : Sto) (a0 : Int32) (a1 : Int32) (a2 : Int32) (a3 : Int32) (r : Int32) (h : f_X1_valueOf a0 a1 a2 a3 = some r) : MW l G (2) (64) 0 0 yX1_valueOf cX1_valueOf 4 (Option.some Jvm.ClassFile.FieldType.int) [.int a0, .int a1, .int a2, .int a3] (wl G σ) (some (.int r)) (wl G σ) := by
  refine mw_of RX1 (fpI G σ) [(0, .int a0), (1, .int a1), (2, .int a2), (3, .int a3)] (by decide +kernel) rfl (Nat.le_of_ble_eq_true rfl) rfl h rfl (fun p e s m args below meth c X hr hnm => ?_)
  unfold f_X1_valueOf
  refine sm_iload_n X 1 0 dX1_valueOf_0 rfl rfl rfl ?_
  refine sm_if (fun h1_0 => ?_) (fun h1_0 => ?_)
  · refine sm_table X 32 dX1_valueOf_1 (by rw [h1_0]; decide) (by rw [h1_0]; decide) (by first | (rw [h1_0]; done) | (rw [h1_0]; rfl)) (by decide) ?_
    refine sm_iload_n X 33 3 dX1_valueOf_32 rfl rfl rfl ?_
    exact sm_iret X hr dX1_valueOf_33 rfl
  refine sm_if (fun h1_1 => ?_) (fun h1_1 => ?_)
  · refine sm_table X 30 dX1_valueOf_1 (by rw [h1_1]; decide) (by rw [h1_1]; decide) (by first | (rw [h1_1]; done) | (rw [h1_1]; rfl)) (by decide) ?_
    refine sm_iload_n X 31 2 dX1_valueOf_30 rfl rfl rfl ?_
    exact sm_iret X hr dX1_valueOf_31 rfl
  refine sm_if (fun h1_2 => ?_) (fun h1_2 => ?_)
  · refine sm_table X 28 dX1_valueOf_1 (by rw [h1_2]; decide) (by rw [h1_2]; decide) (by first | (rw [h1_2]; done) | (rw [h1_2]; rfl)) (by decide) ?_
    refine sm_iload_n X 29 1 dX1_valueOf_28 rfl rfl rfl ?_
    exact sm_iret X hr dX1_valueOf_29 rfl
  have q0 : ¬ (a0).toInt = (-3) := ne_toInt h1_0
  have q1 : ¬ (a0).toInt = (-2) := ne_toInt h1_1
  have q2 : ¬ (a0).toInt = (-1) := ne_toInt h1_2
  refine sm_tableD X 34 dX1_valueOf_1 (by omega) (by decide) ?_
  refine sm_iload_n X 35 0 dX1_valueOf_34 rfl rfl rfl ?_
  exact sm_iret X hr dX1_valueOf_35 rfl
def by_X1_joined_0 : List Nat := [26, 171, 0, 0, 0, 0, 0, 168, 0, 0, 0, 9, 255, 255, 255, 132]
def by_X1_joined_1 : List Nat := [0, 0, 0, 83, 255, 255, 255, 194, 0, 0, 0, 133, 255, 255, 255, 195]
def by_X1_joined_2 : List Nat := [0, 0, 0, 122, 255, 255, 255, 196, 0, 0, 0, 111, 255, 255, 255, 209]
def by_X1_joined_3 : List Nat := [0, 0, 0, 156, 255, 255, 255, 211, 0, 0, 0, 148, 255, 255, 255, 213]
def by_X1_joined_4 : List Nat := [0, 0, 0, 144, 255, 255, 255, 214, 0, 0, 0, 152, 255, 255, 255, 218]
def by_X1_joined_5 : List Nat := [0, 0, 0, 97, 27, 154, 0, 7, 28, 153, 0, 7, 4, 167, 0, 4]
def by_X1_joined_6 : List Nat := [3, 172, 27, 153, 0, 11, 28, 153, 0, 7, 4, 167, 0, 4, 3, 172]
def by_X1_joined_7 : List Nat := [27, 28, 162, 0, 7, 4, 167, 0, 4, 3, 172, 27, 28, 160, 0, 7]
def by_X1_joined_8 : List Nat := [4, 167, 0, 4, 3, 172, 27, 28, 164, 0, 7, 4, 167, 0, 4, 3]
def by_X1_joined_9 : List Nat := [172, 27, 28, 96, 172, 27, 28, 100, 172, 27, 28, 104, 172, 28, 154, 0]
def by_X1_joined_10 : List Nat := [7, 3, 167, 0, 6, 27, 28, 108, 172, 28, 154, 0, 7, 3, 167, 0]
def by_X1_joined_z : List Nat := [6, 27, 28, 112, 172]
def by_X1_joined : List (List Nat) := [by_X1_joined_0, by_X1_joined_1, by_X1_joined_2, by_X1_joined_3, by_X1_joined_4, by_X1_joined_5, by_X1_joined_6, by_X1_joined_7, by_X1_joined_8, by_X1_joined_9, by_X1_joined_10]
set_option maxRecDepth 100000 in
theorem byo_X1_joined : cX1_joined.data.toList.map UInt8.toNat = by_X1_joined.flatten ++ by_X1_joined_z := by decide +kernel
theorem byl_X1_joined : by_X1_joined.all (fun r => r.length == 16) = true := by decide +kernel
theorem byr_X1_joined_0 {j v : Nat} (h : by_X1_joined_0[j]? = some v) : RD cX1_joined (0 + j) v := rd_16 byo_X1_joined byl_X1_joined 0 rfl h
theorem byr_X1_joined_1 {j v : Nat} (h : by_X1_joined_1[j]? = some v) : RD cX1_joined (16 + j) v := rd_16 byo_X1_joined byl_X1_joined 1 rfl h
theorem byr_X1_joined_2 {j v : Nat} (h : by_X1_joined_2[j]? = some v) : RD cX1_joined (32 + j) v := rd_16 byo_X1_joined byl_X1_joined 2 rfl h
theorem byr_X1_joined_3 {j v : Nat} (h : by_X1_joined_3[j]? = some v) : RD cX1_joined (48 + j) v := rd_16 byo_X1_joined byl_X1_joined 3 rfl h
theorem byr_X1_joined_4 {j v : Nat} (h : by_X1_joined_4[j]? = some v) : RD cX1_joined (64 + j) v := rd_16 byo_X1_joined byl_X1_joined 4 rfl h
theorem byr_X1_joined_5 {j v : Nat} (h : by_X1_joined_5[j]? = some v) : RD cX1_joined (80 + j) v := rd_16 byo_X1_joined byl_X1_joined 5 rfl h
theorem byr_X1_joined_6 {j v : Nat} (h : by_X1_joined_6[j]? = some v) : RD cX1_joined (96 + j) v := rd_16 byo_X1_joined byl_X1_joined 6 rfl h
theorem byr_X1_joined_7 {j v : Nat} (h : by_X1_joined_7[j]? = some v) : RD cX1_joined (112 + j) v := rd_16 byo_X1_joined byl_X1_joined 7 rfl h
theorem byr_X1_joined_8 {j v : Nat} (h : by_X1_joined_8[j]? = some v) : RD cX1_joined (128 + j) v := rd_16 byo_X1_joined byl_X1_joined 8 rfl h
theorem byr_X1_joined_9 {j v : Nat} (h : by_X1_joined_9[j]? = some v) : RD cX1_joined (144 + j) v := rd_16 byo_X1_joined byl_X1_joined 9 rfl h
theorem byr_X1_joined_10 {j v : Nat} (h : by_X1_joined_10[j]? = some v) : RD cX1_joined (160 + j) v := rd_16 byo_X1_joined byl_X1_joined 10 rfl h
theorem byr_X1_joined_11 {j v : Nat} (h : by_X1_joined_z[j]? = some v) : RD cX1_joined (176 + j) v := rd_z byo_X1_joined byl_X1_joined 11 rfl h
theorem dX1_joined_0 : decode cX1_joined 0 = .ok (.iload_n 0, 1) := dk_26 (byr_X1_joined_0 (j := 0) rfl)
set_option maxRecDepth 20000 in
theorem dX1_joined_1 : decode cX1_joined 1 = .ok (.lookupswitch 168 #[(-124, 83), (-62, 133), (-61, 122), (-60, 111), (-47, 156), (-45, 148), (-43, 144), (-42, 152), (-38, 97)], 83) := by decide +kernel
theorem dX1_joined_84 : decode cX1_joined 84 = .ok (.iload_n 1, 1) := dk_27 (byr_X1_joined_5 (j := 4) rfl)
theorem dX1_joined_85 : decode cX1_joined 85 = .ok (.ifCond .ne 7, 3) := dk_154 (byr_X1_joined_5 (j := 5) rfl) (byr_X1_joined_5 (j := 6) rfl) (byr_X1_joined_5 (j := 7) rfl) (by decide)
theorem dX1_joined_88 : decode cX1_joined 88 = .ok (.iload_n 2, 1) := dk_28 (byr_X1_joined_5 (j := 8) rfl)
theorem dX1_joined_89 : decode cX1_joined 89 = .ok (.ifCond .eq 7, 3) := dk_153 (byr_X1_joined_5 (j := 9) rfl) (byr_X1_joined_5 (j := 10) rfl) (byr_X1_joined_5 (j := 11) rfl) (by decide)
theorem dX1_joined_92 : decode cX1_joined 92 = .ok (.iconst 1, 1) := dk_4 (byr_X1_joined_5 (j := 12) rfl)
theorem dX1_joined_93 : decode cX1_joined 93 = .ok (.goto 4, 3) := dk_167 (byr_X1_joined_5 (j := 13) rfl) (byr_X1_joined_5 (j := 14) rfl) (byr_X1_joined_5 (j := 15) rfl) (by decide)
theorem dX1_joined_96 : decode cX1_joined 96 = .ok (.iconst 0, 1) := dk_3 (byr_X1_joined_6 (j := 0) rfl)
theorem dX1_joined_97 : decode cX1_joined 97 = .ok (.ireturn, 1) := dk_172 (byr_X1_joined_6 (j := 1) rfl)
theorem dX1_joined_98 : decode cX1_joined 98 = .ok (.iload_n 1, 1) := dk_27 (byr_X1_joined_6 (j := 2) rfl)
theorem dX1_joined_99 : decode cX1_joined 99 = .ok (.ifCond .eq 11, 3) := dk_153 (byr_X1_joined_6 (j := 3) rfl) (byr_X1_joined_6 (j := 4) rfl) (byr_X1_joined_6 (j := 5) rfl) (by decide)
theorem dX1_joined_102 : decode cX1_joined 102 = .ok (.iload_n 2, 1) := dk_28 (byr_X1_joined_6 (j := 6) rfl)
theorem dX1_joined_103 : decode cX1_joined 103 = .ok (.ifCond .eq 7, 3) := dk_153 (byr_X1_joined_6 (j := 7) rfl) (byr_X1_joined_6 (j := 8) rfl) (byr_X1_joined_6 (j := 9) rfl) (by decide)
theorem dX1_joined_106 : decode cX1_joined 106 = .ok (.iconst 1, 1) := dk_4 (byr_X1_joined_6 (j := 10) rfl)
theorem dX1_joined_107 : decode cX1_joined 107 = .ok (.goto 4, 3) := dk_167 (byr_X1_joined_6 (j := 11) rfl) (byr_X1_joined_6 (j := 12) rfl) (byr_X1_joined_6 (j := 13) rfl) (by decide)
theorem dX1_joined_110 : decode cX1_joined 110 = .ok (.iconst 0, 1) := dk_3 (byr_X1_joined_6 (j := 14) rfl)
theorem dX1_joined_111 : decode cX1_joined 111 = .ok (.ireturn, 1) := dk_172 (byr_X1_joined_6 (j := 15) rfl)
theorem dX1_joined_112 : decode cX1_joined 112 = .ok (.iload_n 1, 1) := dk_27 (byr_X1_joined_7 (j := 0) rfl)
theorem dX1_joined_113 : decode cX1_joined 113 = .ok (.iload_n 2, 1) := dk_28 (byr_X1_joined_7 (j := 1) rfl)
theorem dX1_joined_114 : decode cX1_joined 114 = .ok (.if_icmp .ge 7, 3) := dk_162 (byr_X1_joined_7 (j := 2) rfl) (byr_X1_joined_7 (j := 3) rfl) (byr_X1_joined_7 (j := 4) rfl) (by decide)
theorem dX1_joined_117 : decode cX1_joined 117 = .ok (.iconst 1, 1) := dk_4 (byr_X1_joined_7 (j := 5) rfl)
theorem dX1_joined_118 : decode cX1_joined 118 = .ok (.goto 4, 3) := dk_167 (byr_X1_joined_7 (j := 6) rfl) (byr_X1_joined_7 (j := 7) rfl) (byr_X1_joined_7 (j := 8) rfl) (by decide)
theorem dX1_joined_121 : decode cX1_joined 121 = .ok (.iconst 0, 1) := dk_3 (byr_X1_joined_7 (j := 9) rfl)
theorem dX1_joined_122 : decode cX1_joined 122 = .ok (.ireturn, 1) := dk_172 (byr_X1_joined_7 (j := 10) rfl)
theorem dX1_joined_123 : decode cX1_joined 123 = .ok (.iload_n 1, 1) := dk_27 (byr_X1_joined_7 (j := 11) rfl)
theorem dX1_joined_124 : decode cX1_joined 124 = .ok (.iload_n 2, 1) := dk_28 (byr_X1_joined_7 (j := 12) rfl)
theorem dX1_joined_125 : decode cX1_joined 125 = .ok (.if_icmp .ne 7, 3) := dk_160 (byr_X1_joined_7 (j := 13) rfl) (byr_X1_joined_7 (j := 14) rfl) (byr_X1_joined_7 (j := 15) rfl) (by decide)
theorem dX1_joined_128 : decode cX1_joined 128 = .ok (.iconst 1, 1) := dk_4 (byr_X1_joined_8 (j := 0) rfl)
theorem dX1_joined_129 : decode cX1_joined 129 = .ok (.goto 4, 3) := dk_167 (byr_X1_joined_8 (j := 1) rfl) (byr_X1_joined_8 (j := 2) rfl) (byr_X1_joined_8 (j := 3) rfl) (by decide)
theorem dX1_joined_132 : decode cX1_joined 132 = .ok (.iconst 0, 1) := dk_3 (byr_X1_joined_8 (j := 4) rfl)
theorem dX1_joined_133 : decode cX1_joined 133 = .ok (.ireturn, 1) := dk_172 (byr_X1_joined_8 (j := 5) rfl)
theorem dX1_joined_134 : decode cX1_joined 134 = .ok (.iload_n 1, 1) := dk_27 (byr_X1_joined_8 (j := 6) rfl)
theorem dX1_joined_135 : decode cX1_joined 135 = .ok (.iload_n 2, 1) := dk_28 (byr_X1_joined_8 (j := 7) rfl)
theorem dX1_joined_136 : decode cX1_joined 136 = .ok (.if_icmp .le 7, 3) := dk_164 (byr_X1_joined_8 (j := 8) rfl) (byr_X1_joined_8 (j := 9) rfl) (byr_X1_joined_8 (j := 10) rfl) (by decide)
theorem dX1_joined_139 : decode cX1_joined 139 = .ok (.iconst 1, 1) := dk_4 (byr_X1_joined_8 (j := 11) rfl)
theorem dX1_joined_140 : decode cX1_joined 140 = .ok (.goto 4, 3) := dk_167 (byr_X1_joined_8 (j := 12) rfl) (byr_X1_joined_8 (j := 13) rfl) (byr_X1_joined_8 (j := 14) rfl) (by decide)
theorem dX1_joined_143 : decode cX1_joined 143 = .ok (.iconst 0, 1) := dk_3 (byr_X1_joined_8 (j := 15) rfl)
theorem dX1_joined_144 : decode cX1_joined 144 = .ok (.ireturn, 1) := dk_172 (byr_X1_joined_9 (j := 0) rfl)
theorem dX1_joined_145 : decode cX1_joined 145 = .ok (.iload_n 1, 1) := dk_27 (byr_X1_joined_9 (j := 1) rfl)
theorem dX1_joined_146 : decode cX1_joined 146 = .ok (.iload_n 2, 1) := dk_28 (byr_X1_joined_9 (j := 2) rfl)
theorem dX1_joined_147 : decode cX1_joined 147 = .ok (.iadd, 1) := dk_96 (byr_X1_joined_9 (j := 3) rfl)
theorem dX1_joined_148 : decode cX1_joined 148 = .ok (.ireturn, 1) := dk_172 (byr_X1_joined_9 (j := 4) rfl)
theorem dX1_joined_149 : decode cX1_joined 149 = .ok (.iload_n 1, 1) := dk_27 (byr_X1_joined_9 (j := 5) rfl)
theorem dX1_joined_150 : decode cX1_joined 150 = .ok (.iload_n 2, 1) := dk_28 (byr_X1_joined_9 (j := 6) rfl)
theorem dX1_joined_151 : decode cX1_joined 151 = .ok (.isub, 1) := dk_100 (byr_X1_joined_9 (j := 7) rfl)
theorem dX1_joined_152 : decode cX1_joined 152 = .ok (.ireturn, 1) := dk_172 (byr_X1_joined_9 (j := 8) rfl)
theorem dX1_joined_153 : decode cX1_joined 153 = .ok (.iload_n 1, 1) := dk_27 (byr_X1_joined_9 (j := 9) rfl)
theorem dX1_joined_154 : decode cX1_joined 154 = .ok (.iload_n 2, 1) := dk_28 (byr_X1_joined_9 (j := 10) rfl)
theorem dX1_joined_155 : decode cX1_joined 155 = .ok (.imul, 1) := dk_104 (byr_X1_joined_9 (j := 11) rfl)
theorem dX1_joined_156 : decode cX1_joined 156 = .ok (.ireturn, 1) := dk_172 (byr_X1_joined_9 (j := 12) rfl)
theorem dX1_joined_157 : decode cX1_joined 157 = .ok (.iload_n 2, 1) := dk_28 (byr_X1_joined_9 (j := 13) rfl)
theorem dX1_joined_158 : decode cX1_joined 158 = .ok (.ifCond .ne 7, 3) := dk_154 (byr_X1_joined_9 (j := 14) rfl) (byr_X1_joined_9 (j := 15) rfl) (byr_X1_joined_10 (j := 0) rfl) (by decide)
theorem dX1_joined_161 : decode cX1_joined 161 = .ok (.iconst 0, 1) := dk_3 (byr_X1_joined_10 (j := 1) rfl)
theorem dX1_joined_162 : decode cX1_joined 162 = .ok (.goto 6, 3) := dk_167 (byr_X1_joined_10 (j := 2) rfl) (byr_X1_joined_10 (j := 3) rfl) (byr_X1_joined_10 (j := 4) rfl) (by decide)
theorem dX1_joined_165 : decode cX1_joined 165 = .ok (.iload_n 1, 1) := dk_27 (byr_X1_joined_10 (j := 5) rfl)
theorem dX1_joined_166 : decode cX1_joined 166 = .ok (.iload_n 2, 1) := dk_28 (byr_X1_joined_10 (j := 6) rfl)
theorem dX1_joined_167 : decode cX1_joined 167 = .ok (.idiv, 1) := dk_108 (byr_X1_joined_10 (j := 7) rfl)
theorem dX1_joined_168 : decode cX1_joined 168 = .ok (.ireturn, 1) := dk_172 (byr_X1_joined_10 (j := 8) rfl)
theorem dX1_joined_169 : decode cX1_joined 169 = .ok (.iload_n 2, 1) := dk_28 (byr_X1_joined_10 (j := 9) rfl)
theorem dX1_joined_170 : decode cX1_joined 170 = .ok (.ifCond .ne 7, 3) := dk_154 (byr_X1_joined_10 (j := 10) rfl) (byr_X1_joined_10 (j := 11) rfl) (byr_X1_joined_10 (j := 12) rfl) (by decide)
theorem dX1_joined_173 : decode cX1_joined 173 = .ok (.iconst 0, 1) := dk_3 (byr_X1_joined_10 (j := 13) rfl)
theorem dX1_joined_174 : decode cX1_joined 174 = .ok (.goto 6, 3) := dk_167 (byr_X1_joined_10 (j := 14) rfl) (byr_X1_joined_10 (j := 15) rfl) (byr_X1_joined_11 (j := 0) rfl) (by decide)
theorem dX1_joined_177 : decode cX1_joined 177 = .ok (.iload_n 1, 1) := dk_27 (byr_X1_joined_11 (j := 1) rfl)
theorem dX1_joined_178 : decode cX1_joined 178 = .ok (.iload_n 2, 1) := dk_28 (byr_X1_joined_11 (j := 2) rfl)
theorem dX1_joined_179 : decode cX1_joined 179 = .ok (.irem, 1) := dk_112 (byr_X1_joined_11 (j := 3) rfl)
theorem dX1_joined_180 : decode cX1_joined 180 = .ok (.ireturn, 1) := dk_172 (byr_X1_joined_11 (j := 4) rfl)
set_option maxHeartbeats 4000000 in
set_option maxRecDepth 100000 in
theorem c_X1_joined (l : Launch) (G : GT) (σ : Sto) (a0 : Int32) (a1 : Int32) (a2 : Int32) (r : Int32) (h : f_X1_joined a0 a1 a2 = some r) : MW l G (2) (64) 0 0 yX1_joined cX1_joined 3 (Option.some Jvm.ClassFile.FieldType.int) [.int a0, .int a1, .int a2] (wl G σ) (some (.int r)) (wl G σ) := by
  refine mw_of RX1 (fpI G σ) [(0, .int a0), (1, .int a1), (2, .int a2)] (by decide +kernel) rfl (Nat.le_of_ble_eq_true rfl) rfl h rfl (fun p e s m args below meth c X hr hnm => ?_)
  have J92 : ∀ (_ : Unit), Sm p l e { frames := 2, cells := 0, slots := 0, locals := 64 } s m args below meth c G 3 (Qm below args s G 0 0 (fpI G σ)) 0 0 (wl G σ) 92 [] [] (f_X1_joined_L92  ) := by
    intro _
    rw [f_X1_joined_L92]
    refine sm_iconst X 93 (1) dX1_joined_92 rfl rfl ?_
    refine sm_goto X 97 dX1_joined_93 (by decide) ?_
    exact sm_iret X hr dX1_joined_97 rfl
  unfold f_X1_joined
  refine sm_iload_n X 1 0 dX1_joined_0 rfl rfl rfl ?_
  refine sm_if (fun h1_0 => ?_) (fun h1_0 => ?_)
  · refine sm_lookup X 84 dX1_joined_1 (by decide) (by first | (rw [h1_0]; done) | (rw [h1_0]; rfl)) (by decide) ?_
    refine sm_iload_n X 85 1 dX1_joined_84 rfl rfl rfl ?_
    refine sm_if_ne X 88 92 dX1_joined_85 rfl (by decide) (fun h85 => ?_) (fun h85 => ?_)
    · refine sm_iload_n X 89 2 dX1_joined_88 rfl rfl rfl ?_
      refine sm_if_eq X 92 96 dX1_joined_89 rfl (by decide) (fun h89 => ?_) (fun h89 => ?_)
      · refine sm_iconst X 97 (0) dX1_joined_96 rfl rfl ?_
        exact sm_iret X hr dX1_joined_97 rfl
      · exact sm_sub [] rfl (J92 ())
    · exact sm_sub [] rfl (J92 ())
  refine sm_if (fun h1_1 => ?_) (fun h1_1 => ?_)
  · refine sm_lookup X 134 dX1_joined_1 (by decide) (by first | (rw [h1_1]; done) | (rw [h1_1]; rfl)) (by decide) ?_
    refine sm_iload_n X 135 1 dX1_joined_134 rfl rfl rfl ?_
    refine sm_iload_n X 136 2 dX1_joined_135 rfl rfl rfl ?_
    refine sm_icmp_le X 139 143 dX1_joined_136 rfl (by decide) (fun h136 => ?_) (fun h136 => ?_)
    · refine sm_iconst X 144 (0) dX1_joined_143 rfl rfl ?_
      exact sm_iret X hr dX1_joined_144 rfl
    · refine sm_iconst X 140 (1) dX1_joined_139 rfl rfl ?_
      refine sm_goto X 144 dX1_joined_140 (by decide) ?_
      exact sm_iret X hr dX1_joined_144 rfl
  refine sm_if (fun h1_2 => ?_) (fun h1_2 => ?_)
  · refine sm_lookup X 123 dX1_joined_1 (by decide) (by first | (rw [h1_2]; done) | (rw [h1_2]; rfl)) (by decide) ?_
    refine sm_iload_n X 124 1 dX1_joined_123 rfl rfl rfl ?_
    refine sm_iload_n X 125 2 dX1_joined_124 rfl rfl rfl ?_
    refine sm_icmp_ne X 128 132 dX1_joined_125 rfl (by decide) (fun h125 => ?_) (fun h125 => ?_)
    · refine sm_iconst X 129 (1) dX1_joined_128 rfl rfl ?_
      refine sm_goto X 133 dX1_joined_129 (by decide) ?_
      exact sm_iret X hr dX1_joined_133 rfl
    · refine sm_iconst X 133 (0) dX1_joined_132 rfl rfl ?_
      exact sm_iret X hr dX1_joined_133 rfl
  refine sm_if (fun h1_3 => ?_) (fun h1_3 => ?_)
  · refine sm_lookup X 112 dX1_joined_1 (by decide) (by first | (rw [h1_3]; done) | (rw [h1_3]; rfl)) (by decide) ?_
    refine sm_iload_n X 113 1 dX1_joined_112 rfl rfl rfl ?_
    refine sm_iload_n X 114 2 dX1_joined_113 rfl rfl rfl ?_
    refine sm_icmp_ge X 117 121 dX1_joined_114 rfl (by decide) (fun h114 => ?_) (fun h114 => ?_)
    · refine sm_iconst X 122 (0) dX1_joined_121 rfl rfl ?_
      exact sm_iret X hr dX1_joined_122 rfl
    · refine sm_iconst X 118 (1) dX1_joined_117 rfl rfl ?_
      refine sm_goto X 122 dX1_joined_118 (by decide) ?_
      exact sm_iret X hr dX1_joined_122 rfl
  refine sm_if (fun h1_4 => ?_) (fun h1_4 => ?_)
  · refine sm_lookup X 157 dX1_joined_1 (by decide) (by first | (rw [h1_4]; done) | (rw [h1_4]; rfl)) (by decide) ?_
    refine sm_iload_n X 158 2 dX1_joined_157 rfl rfl rfl ?_
    refine sm_if_ne X 161 165 dX1_joined_158 rfl (by decide) (fun h158 => ?_) (fun h158 => ?_)
    · refine sm_iconst X 162 (0) dX1_joined_161 rfl rfl ?_
      refine sm_goto X 168 dX1_joined_162 (by decide) ?_
      exact sm_iret X hr dX1_joined_168 rfl
    · refine sm_iload_n X 166 1 dX1_joined_165 rfl rfl rfl ?_
      refine sm_iload_n X 167 2 dX1_joined_166 rfl rfl rfl ?_
      refine sm_idiv X 168 dX1_joined_167 rfl (by first | decide | assumption) ?_
      exact sm_iret X hr dX1_joined_168 rfl
  refine sm_if (fun h1_5 => ?_) (fun h1_5 => ?_)
  · refine sm_lookup X 149 dX1_joined_1 (by decide) (by first | (rw [h1_5]; done) | (rw [h1_5]; rfl)) (by decide) ?_
    refine sm_iload_n X 150 1 dX1_joined_149 rfl rfl rfl ?_
    refine sm_iload_n X 151 2 dX1_joined_150 rfl rfl rfl ?_
    refine sm_isub X 152 dX1_joined_151 rfl ?_
    exact sm_iret X hr dX1_joined_152 rfl
  refine sm_if (fun h1_6 => ?_) (fun h1_6 => ?_)
  · refine sm_lookup X 145 dX1_joined_1 (by decide) (by first | (rw [h1_6]; done) | (rw [h1_6]; rfl)) (by decide) ?_
    refine sm_iload_n X 146 1 dX1_joined_145 rfl rfl rfl ?_
    refine sm_iload_n X 147 2 dX1_joined_146 rfl rfl rfl ?_
    refine sm_iadd X 148 dX1_joined_147 rfl ?_
    exact sm_iret X hr dX1_joined_148 rfl
  refine sm_if (fun h1_7 => ?_) (fun h1_7 => ?_)
  · refine sm_lookup X 153 dX1_joined_1 (by decide) (by first | (rw [h1_7]; done) | (rw [h1_7]; rfl)) (by decide) ?_
    refine sm_iload_n X 154 1 dX1_joined_153 rfl rfl rfl ?_
    refine sm_iload_n X 155 2 dX1_joined_154 rfl rfl rfl ?_
    refine sm_imul X 156 dX1_joined_155 rfl ?_
    exact sm_iret X hr dX1_joined_156 rfl
  refine sm_if (fun h1_8 => ?_) (fun h1_8 => ?_)
  · refine sm_lookup X 98 dX1_joined_1 (by decide) (by first | (rw [h1_8]; done) | (rw [h1_8]; rfl)) (by decide) ?_
    refine sm_iload_n X 99 1 dX1_joined_98 rfl rfl rfl ?_
    refine sm_if_eq X 102 110 dX1_joined_99 rfl (by decide) (fun h99 => ?_) (fun h99 => ?_)
    · refine sm_iconst X 111 (0) dX1_joined_110 rfl rfl ?_
      exact sm_iret X hr dX1_joined_111 rfl
    · refine sm_iload_n X 103 2 dX1_joined_102 rfl rfl rfl ?_
      refine sm_if_eq X 106 110 dX1_joined_103 rfl (by decide) (fun h103 => ?_) (fun h103 => ?_)
      · refine sm_iconst X 111 (0) dX1_joined_110 rfl rfl ?_
        exact sm_iret X hr dX1_joined_111 rfl
      · refine sm_iconst X 107 (1) dX1_joined_106 rfl rfl ?_
        refine sm_goto X 111 dX1_joined_107 (by decide) ?_
        exact sm_iret X hr dX1_joined_111 rfl
  have q0 : ¬ (a0).toInt = (-124) := ne_toInt h1_0
  have q1 : ¬ (a0).toInt = (-62) := ne_toInt h1_1
  have q2 : ¬ (a0).toInt = (-61) := ne_toInt h1_2
  have q3 : ¬ (a0).toInt = (-60) := ne_toInt h1_3
  have q4 : ¬ (a0).toInt = (-47) := ne_toInt h1_4
  have q5 : ¬ (a0).toInt = (-45) := ne_toInt h1_5
  have q6 : ¬ (a0).toInt = (-43) := ne_toInt h1_6
  have q7 : ¬ (a0).toInt = (-42) := ne_toInt h1_7
  have q8 : ¬ (a0).toInt = (-38) := ne_toInt h1_8
  refine sm_lookup X (off := 168) 169 dX1_joined_1 (by decide) (by simp [Op.lookupswitch.offset, q0, Ne.symm q0, q1, Ne.symm q1, q2, Ne.symm q2, q3, Ne.symm q3, q4, Ne.symm q4, q5, Ne.symm q5, q6, Ne.symm q6, q7, Ne.symm q7, q8, Ne.symm q8]) (by decide) ?_
  refine sm_iload_n X 170 2 dX1_joined_169 rfl rfl rfl ?_
  refine sm_if_ne X 173 177 dX1_joined_170 rfl (by decide) (fun h170 => ?_) (fun h170 => ?_)
  · refine sm_iconst X 174 (0) dX1_joined_173 rfl rfl ?_
    refine sm_goto X 180 dX1_joined_174 (by decide) ?_
    exact sm_iret X hr dX1_joined_180 rfl
  · refine sm_iload_n X 178 1 dX1_joined_177 rfl rfl rfl ?_
    refine sm_iload_n X 179 2 dX1_joined_178 rfl rfl rfl ?_
    refine sm_irem X 180 dX1_joined_179 rfl (by first | decide | assumption) ?_
    exact sm_iret X hr dX1_joined_180 rfl
def by_X1_workOut_0 : List Nat := [3, 54, 4, 3, 54, 5, 21, 5, 42, 180, 0, 18, 162, 0, 147, 21]
def by_X1_workOut_1 : List Nat := [5, 42, 180, 0, 9, 190, 162, 0, 137, 42, 180, 0, 9, 21, 5, 46]
def by_X1_workOut_2 : List Nat := [54, 6, 21, 6, 16, 223, 164, 0, 34, 21, 4, 42, 180, 0, 15, 190]
def by_X1_workOut_3 : List Nat := [162, 0, 105, 42, 180, 0, 15, 21, 4, 21, 6, 27, 28, 29, 184, 0]
def by_X1_workOut_4 : List Nat := [44, 79, 132, 4, 1, 167, 0, 84, 21, 6, 16, 223, 160, 0, 38, 21]
def by_X1_workOut_5 : List Nat := [4, 4, 161, 0, 71, 42, 180, 0, 15, 21, 4, 4, 100, 42, 180, 0]
def by_X1_workOut_6 : List Nat := [15, 21, 4, 4, 100, 46, 154, 0, 7, 4, 167, 0, 4, 3, 79, 167]
def by_X1_workOut_7 : List Nat := [0, 42, 21, 4, 5, 161, 0, 36, 132, 4, 255, 42, 180, 0, 15, 21]
def by_X1_workOut_8 : List Nat := [4, 4, 100, 21, 6, 42, 180, 0, 15, 21, 4, 4, 100, 46, 42, 180]
def by_X1_workOut_9 : List Nat := [0, 15, 21, 4, 46, 184, 0, 48, 79, 132, 5, 1, 167, 255, 106, 42]
def by_X1_workOut_z : List Nat := [180, 0, 15, 3, 46, 172]
def by_X1_workOut : List (List Nat) := [by_X1_workOut_0, by_X1_workOut_1, by_X1_workOut_2, by_X1_workOut_3, by_X1_workOut_4, by_X1_workOut_5, by_X1_workOut_6, by_X1_workOut_7, by_X1_workOut_8, by_X1_workOut_9]
set_option maxRecDepth 100000 in
theorem byo_X1_workOut : cX1_workOut.data.toList.map UInt8.toNat = by_X1_workOut.flatten ++ by_X1_workOut_z := by decide +kernel
theorem byl_X1_workOut : by_X1_workOut.all (fun r => r.length == 16) = true := by decide +kernel
theorem byr_X1_workOut_0 {j v : Nat} (h : by_X1_workOut_0[j]? = some v) : RD cX1_workOut (0 + j) v := rd_16 byo_X1_workOut byl_X1_workOut 0 rfl h
theorem byr_X1_workOut_1 {j v : Nat} (h : by_X1_workOut_1[j]? = some v) : RD cX1_workOut (16 + j) v := rd_16 byo_X1_workOut byl_X1_workOut 1 rfl h
theorem byr_X1_workOut_2 {j v : Nat} (h : by_X1_workOut_2[j]? = some v) : RD cX1_workOut (32 + j) v := rd_16 byo_X1_workOut byl_X1_workOut 2 rfl h
theorem byr_X1_workOut_3 {j v : Nat} (h : by_X1_workOut_3[j]? = some v) : RD cX1_workOut (48 + j) v := rd_16 byo_X1_workOut byl_X1_workOut 3 rfl h
theorem byr_X1_workOut_4 {j v : Nat} (h : by_X1_workOut_4[j]? = some v) : RD cX1_workOut (64 + j) v := rd_16 byo_X1_workOut byl_X1_workOut 4 rfl h
theorem byr_X1_workOut_5 {j v : Nat} (h : by_X1_workOut_5[j]? = some v) : RD cX1_workOut (80 + j) v := rd_16 byo_X1_workOut byl_X1_workOut 5 rfl h
theorem byr_X1_workOut_6 {j v : Nat} (h : by_X1_workOut_6[j]? = some v) : RD cX1_workOut (96 + j) v := rd_16 byo_X1_workOut byl_X1_workOut 6 rfl h
theorem byr_X1_workOut_7 {j v : Nat} (h : by_X1_workOut_7[j]? = some v) : RD cX1_workOut (112 + j) v := rd_16 byo_X1_workOut byl_X1_workOut 7 rfl h
theorem byr_X1_workOut_8 {j v : Nat} (h : by_X1_workOut_8[j]? = some v) : RD cX1_workOut (128 + j) v := rd_16 byo_X1_workOut byl_X1_workOut 8 rfl h
theorem byr_X1_workOut_9 {j v : Nat} (h : by_X1_workOut_9[j]? = some v) : RD cX1_workOut (144 + j) v := rd_16 byo_X1_workOut byl_X1_workOut 9 rfl h
theorem byr_X1_workOut_10 {j v : Nat} (h : by_X1_workOut_z[j]? = some v) : RD cX1_workOut (160 + j) v := rd_z byo_X1_workOut byl_X1_workOut 10 rfl h
theorem dX1_workOut_0 : decode cX1_workOut 0 = .ok (.iconst 0, 1) := dk_3 (byr_X1_workOut_0 (j := 0) rfl)
theorem dX1_workOut_1 : decode cX1_workOut 1 = .ok (.istore 4, 2) := dk_54 (byr_X1_workOut_0 (j := 1) rfl) (byr_X1_workOut_0 (j := 2) rfl)
theorem dX1_workOut_3 : decode cX1_workOut 3 = .ok (.iconst 0, 1) := dk_3 (byr_X1_workOut_0 (j := 3) rfl)
theorem dX1_workOut_4 : decode cX1_workOut 4 = .ok (.istore 5, 2) := dk_54 (byr_X1_workOut_0 (j := 4) rfl) (byr_X1_workOut_0 (j := 5) rfl)
theorem dX1_workOut_6 : decode cX1_workOut 6 = .ok (.iload 5, 2) := dk_21 (byr_X1_workOut_0 (j := 6) rfl) (byr_X1_workOut_0 (j := 7) rfl)
theorem dX1_workOut_8 : decode cX1_workOut 8 = .ok (.aload_n 0, 1) := dk_42 (byr_X1_workOut_0 (j := 8) rfl)
theorem dX1_workOut_9 : decode cX1_workOut 9 = .ok (.getfield 18, 3) := dk_180 (byr_X1_workOut_0 (j := 9) rfl) (byr_X1_workOut_0 (j := 10) rfl) (byr_X1_workOut_0 (j := 11) rfl) (by decide)
theorem dX1_workOut_12 : decode cX1_workOut 12 = .ok (.if_icmp .ge 147, 3) := dk_162 (byr_X1_workOut_0 (j := 12) rfl) (byr_X1_workOut_0 (j := 13) rfl) (byr_X1_workOut_0 (j := 14) rfl) (by decide)
theorem dX1_workOut_15 : decode cX1_workOut 15 = .ok (.iload 5, 2) := dk_21 (byr_X1_workOut_0 (j := 15) rfl) (byr_X1_workOut_1 (j := 0) rfl)
theorem dX1_workOut_17 : decode cX1_workOut 17 = .ok (.aload_n 0, 1) := dk_42 (byr_X1_workOut_1 (j := 1) rfl)
theorem dX1_workOut_18 : decode cX1_workOut 18 = .ok (.getfield 9, 3) := dk_180 (byr_X1_workOut_1 (j := 2) rfl) (byr_X1_workOut_1 (j := 3) rfl) (byr_X1_workOut_1 (j := 4) rfl) (by decide)
theorem dX1_workOut_21 : decode cX1_workOut 21 = .ok (.arraylength, 1) := dk_190 (byr_X1_workOut_1 (j := 5) rfl)
theorem dX1_workOut_22 : decode cX1_workOut 22 = .ok (.if_icmp .ge 137, 3) := dk_162 (byr_X1_workOut_1 (j := 6) rfl) (byr_X1_workOut_1 (j := 7) rfl) (byr_X1_workOut_1 (j := 8) rfl) (by decide)
theorem dX1_workOut_25 : decode cX1_workOut 25 = .ok (.aload_n 0, 1) := dk_42 (byr_X1_workOut_1 (j := 9) rfl)
theorem dX1_workOut_26 : decode cX1_workOut 26 = .ok (.getfield 9, 3) := dk_180 (byr_X1_workOut_1 (j := 10) rfl) (byr_X1_workOut_1 (j := 11) rfl) (byr_X1_workOut_1 (j := 12) rfl) (by decide)
theorem dX1_workOut_29 : decode cX1_workOut 29 = .ok (.iload 5, 2) := dk_21 (byr_X1_workOut_1 (j := 13) rfl) (byr_X1_workOut_1 (j := 14) rfl)
theorem dX1_workOut_31 : decode cX1_workOut 31 = .ok (.iaload, 1) := dk_46 (byr_X1_workOut_1 (j := 15) rfl)
theorem dX1_workOut_32 : decode cX1_workOut 32 = .ok (.istore 6, 2) := dk_54 (byr_X1_workOut_2 (j := 0) rfl) (byr_X1_workOut_2 (j := 1) rfl)
theorem dX1_workOut_34 : decode cX1_workOut 34 = .ok (.iload 6, 2) := dk_21 (byr_X1_workOut_2 (j := 2) rfl) (byr_X1_workOut_2 (j := 3) rfl)
theorem dX1_workOut_36 : decode cX1_workOut 36 = .ok (.bipush (-33), 2) := dk_16 (byr_X1_workOut_2 (j := 4) rfl) (byr_X1_workOut_2 (j := 5) rfl) (by decide)
theorem dX1_workOut_38 : decode cX1_workOut 38 = .ok (.if_icmp .le 34, 3) := dk_164 (byr_X1_workOut_2 (j := 6) rfl) (byr_X1_workOut_2 (j := 7) rfl) (byr_X1_workOut_2 (j := 8) rfl) (by decide)
theorem dX1_workOut_41 : decode cX1_workOut 41 = .ok (.iload 4, 2) := dk_21 (byr_X1_workOut_2 (j := 9) rfl) (byr_X1_workOut_2 (j := 10) rfl)
theorem dX1_workOut_43 : decode cX1_workOut 43 = .ok (.aload_n 0, 1) := dk_42 (byr_X1_workOut_2 (j := 11) rfl)
theorem dX1_workOut_44 : decode cX1_workOut 44 = .ok (.getfield 15, 3) := dk_180 (byr_X1_workOut_2 (j := 12) rfl) (byr_X1_workOut_2 (j := 13) rfl) (byr_X1_workOut_2 (j := 14) rfl) (by decide)
theorem dX1_workOut_47 : decode cX1_workOut 47 = .ok (.arraylength, 1) := dk_190 (byr_X1_workOut_2 (j := 15) rfl)
theorem dX1_workOut_48 : decode cX1_workOut 48 = .ok (.if_icmp .ge 105, 3) := dk_162 (byr_X1_workOut_3 (j := 0) rfl) (byr_X1_workOut_3 (j := 1) rfl) (byr_X1_workOut_3 (j := 2) rfl) (by decide)
theorem dX1_workOut_51 : decode cX1_workOut 51 = .ok (.aload_n 0, 1) := dk_42 (byr_X1_workOut_3 (j := 3) rfl)
theorem dX1_workOut_52 : decode cX1_workOut 52 = .ok (.getfield 15, 3) := dk_180 (byr_X1_workOut_3 (j := 4) rfl) (byr_X1_workOut_3 (j := 5) rfl) (byr_X1_workOut_3 (j := 6) rfl) (by decide)
theorem dX1_workOut_55 : decode cX1_workOut 55 = .ok (.iload 4, 2) := dk_21 (byr_X1_workOut_3 (j := 7) rfl) (byr_X1_workOut_3 (j := 8) rfl)
theorem dX1_workOut_57 : decode cX1_workOut 57 = .ok (.iload 6, 2) := dk_21 (byr_X1_workOut_3 (j := 9) rfl) (byr_X1_workOut_3 (j := 10) rfl)
theorem dX1_workOut_59 : decode cX1_workOut 59 = .ok (.iload_n 1, 1) := dk_27 (byr_X1_workOut_3 (j := 11) rfl)
theorem dX1_workOut_60 : decode cX1_workOut 60 = .ok (.iload_n 2, 1) := dk_28 (byr_X1_workOut_3 (j := 12) rfl)
theorem dX1_workOut_61 : decode cX1_workOut 61 = .ok (.iload_n 3, 1) := dk_29 (byr_X1_workOut_3 (j := 13) rfl)
theorem dX1_workOut_62 : decode cX1_workOut 62 = .ok (.invokestatic 44, 3) := dk_184 (byr_X1_workOut_3 (j := 14) rfl) (byr_X1_workOut_3 (j := 15) rfl) (byr_X1_workOut_4 (j := 0) rfl) (by decide)
theorem dX1_workOut_65 : decode cX1_workOut 65 = .ok (.iastore, 1) := dk_79 (byr_X1_workOut_4 (j := 1) rfl)
theorem dX1_workOut_66 : decode cX1_workOut 66 = .ok (.iinc 4 1, 3) := dk_132 (byr_X1_workOut_4 (j := 2) rfl) (byr_X1_workOut_4 (j := 3) rfl) (byr_X1_workOut_4 (j := 4) rfl) (by decide)
theorem dX1_workOut_69 : decode cX1_workOut 69 = .ok (.goto 84, 3) := dk_167 (byr_X1_workOut_4 (j := 5) rfl) (byr_X1_workOut_4 (j := 6) rfl) (byr_X1_workOut_4 (j := 7) rfl) (by decide)
theorem dX1_workOut_72 : decode cX1_workOut 72 = .ok (.iload 6, 2) := dk_21 (byr_X1_workOut_4 (j := 8) rfl) (byr_X1_workOut_4 (j := 9) rfl)
theorem dX1_workOut_74 : decode cX1_workOut 74 = .ok (.bipush (-33), 2) := dk_16 (byr_X1_workOut_4 (j := 10) rfl) (byr_X1_workOut_4 (j := 11) rfl) (by decide)
theorem dX1_workOut_76 : decode cX1_workOut 76 = .ok (.if_icmp .ne 38, 3) := dk_160 (byr_X1_workOut_4 (j := 12) rfl) (byr_X1_workOut_4 (j := 13) rfl) (byr_X1_workOut_4 (j := 14) rfl) (by decide)
theorem dX1_workOut_79 : decode cX1_workOut 79 = .ok (.iload 4, 2) := dk_21 (byr_X1_workOut_4 (j := 15) rfl) (byr_X1_workOut_5 (j := 0) rfl)
theorem dX1_workOut_81 : decode cX1_workOut 81 = .ok (.iconst 1, 1) := dk_4 (byr_X1_workOut_5 (j := 1) rfl)
theorem dX1_workOut_82 : decode cX1_workOut 82 = .ok (.if_icmp .lt 71, 3) := dk_161 (byr_X1_workOut_5 (j := 2) rfl) (byr_X1_workOut_5 (j := 3) rfl) (byr_X1_workOut_5 (j := 4) rfl) (by decide)
theorem dX1_workOut_85 : decode cX1_workOut 85 = .ok (.aload_n 0, 1) := dk_42 (byr_X1_workOut_5 (j := 5) rfl)
theorem dX1_workOut_86 : decode cX1_workOut 86 = .ok (.getfield 15, 3) := dk_180 (byr_X1_workOut_5 (j := 6) rfl) (byr_X1_workOut_5 (j := 7) rfl) (byr_X1_workOut_5 (j := 8) rfl) (by decide)
theorem dX1_workOut_89 : decode cX1_workOut 89 = .ok (.iload 4, 2) := dk_21 (byr_X1_workOut_5 (j := 9) rfl) (byr_X1_workOut_5 (j := 10) rfl)
theorem dX1_workOut_91 : decode cX1_workOut 91 = .ok (.iconst 1, 1) := dk_4 (byr_X1_workOut_5 (j := 11) rfl)
theorem dX1_workOut_92 : decode cX1_workOut 92 = .ok (.isub, 1) := dk_100 (byr_X1_workOut_5 (j := 12) rfl)
theorem dX1_workOut_93 : decode cX1_workOut 93 = .ok (.aload_n 0, 1) := dk_42 (byr_X1_workOut_5 (j := 13) rfl)
theorem dX1_workOut_94 : decode cX1_workOut 94 = .ok (.getfield 15, 3) := dk_180 (byr_X1_workOut_5 (j := 14) rfl) (byr_X1_workOut_5 (j := 15) rfl) (byr_X1_workOut_6 (j := 0) rfl) (by decide)
theorem dX1_workOut_97 : decode cX1_workOut 97 = .ok (.iload 4, 2) := dk_21 (byr_X1_workOut_6 (j := 1) rfl) (byr_X1_workOut_6 (j := 2) rfl)
theorem dX1_workOut_99 : decode cX1_workOut 99 = .ok (.iconst 1, 1) := dk_4 (byr_X1_workOut_6 (j := 3) rfl)
theorem dX1_workOut_100 : decode cX1_workOut 100 = .ok (.isub, 1) := dk_100 (byr_X1_workOut_6 (j := 4) rfl)
theorem dX1_workOut_101 : decode cX1_workOut 101 = .ok (.iaload, 1) := dk_46 (byr_X1_workOut_6 (j := 5) rfl)
theorem dX1_workOut_102 : decode cX1_workOut 102 = .ok (.ifCond .ne 7, 3) := dk_154 (byr_X1_workOut_6 (j := 6) rfl) (byr_X1_workOut_6 (j := 7) rfl) (byr_X1_workOut_6 (j := 8) rfl) (by decide)
theorem dX1_workOut_105 : decode cX1_workOut 105 = .ok (.iconst 1, 1) := dk_4 (byr_X1_workOut_6 (j := 9) rfl)
theorem dX1_workOut_106 : decode cX1_workOut 106 = .ok (.goto 4, 3) := dk_167 (byr_X1_workOut_6 (j := 10) rfl) (byr_X1_workOut_6 (j := 11) rfl) (byr_X1_workOut_6 (j := 12) rfl) (by decide)
theorem dX1_workOut_109 : decode cX1_workOut 109 = .ok (.iconst 0, 1) := dk_3 (byr_X1_workOut_6 (j := 13) rfl)
theorem dX1_workOut_110 : decode cX1_workOut 110 = .ok (.iastore, 1) := dk_79 (byr_X1_workOut_6 (j := 14) rfl)
theorem dX1_workOut_111 : decode cX1_workOut 111 = .ok (.goto 42, 3) := dk_167 (byr_X1_workOut_6 (j := 15) rfl) (byr_X1_workOut_7 (j := 0) rfl) (byr_X1_workOut_7 (j := 1) rfl) (by decide)
theorem dX1_workOut_114 : decode cX1_workOut 114 = .ok (.iload 4, 2) := dk_21 (byr_X1_workOut_7 (j := 2) rfl) (byr_X1_workOut_7 (j := 3) rfl)
theorem dX1_workOut_116 : decode cX1_workOut 116 = .ok (.iconst 2, 1) := dk_5 (byr_X1_workOut_7 (j := 4) rfl)
theorem dX1_workOut_117 : decode cX1_workOut 117 = .ok (.if_icmp .lt 36, 3) := dk_161 (byr_X1_workOut_7 (j := 5) rfl) (byr_X1_workOut_7 (j := 6) rfl) (byr_X1_workOut_7 (j := 7) rfl) (by decide)
theorem dX1_workOut_120 : decode cX1_workOut 120 = .ok (.iinc 4 (-1), 3) := dk_132 (byr_X1_workOut_7 (j := 8) rfl) (byr_X1_workOut_7 (j := 9) rfl) (byr_X1_workOut_7 (j := 10) rfl) (by decide)
theorem dX1_workOut_123 : decode cX1_workOut 123 = .ok (.aload_n 0, 1) := dk_42 (byr_X1_workOut_7 (j := 11) rfl)
theorem dX1_workOut_124 : decode cX1_workOut 124 = .ok (.getfield 15, 3) := dk_180 (byr_X1_workOut_7 (j := 12) rfl) (byr_X1_workOut_7 (j := 13) rfl) (byr_X1_workOut_7 (j := 14) rfl) (by decide)
theorem dX1_workOut_127 : decode cX1_workOut 127 = .ok (.iload 4, 2) := dk_21 (byr_X1_workOut_7 (j := 15) rfl) (byr_X1_workOut_8 (j := 0) rfl)
theorem dX1_workOut_129 : decode cX1_workOut 129 = .ok (.iconst 1, 1) := dk_4 (byr_X1_workOut_8 (j := 1) rfl)
theorem dX1_workOut_130 : decode cX1_workOut 130 = .ok (.isub, 1) := dk_100 (byr_X1_workOut_8 (j := 2) rfl)
theorem dX1_workOut_131 : decode cX1_workOut 131 = .ok (.iload 6, 2) := dk_21 (byr_X1_workOut_8 (j := 3) rfl) (byr_X1_workOut_8 (j := 4) rfl)
theorem dX1_workOut_133 : decode cX1_workOut 133 = .ok (.aload_n 0, 1) := dk_42 (byr_X1_workOut_8 (j := 5) rfl)
theorem dX1_workOut_134 : decode cX1_workOut 134 = .ok (.getfield 15, 3) := dk_180 (byr_X1_workOut_8 (j := 6) rfl) (byr_X1_workOut_8 (j := 7) rfl) (byr_X1_workOut_8 (j := 8) rfl) (by decide)
theorem dX1_workOut_137 : decode cX1_workOut 137 = .ok (.iload 4, 2) := dk_21 (byr_X1_workOut_8 (j := 9) rfl) (byr_X1_workOut_8 (j := 10) rfl)
theorem dX1_workOut_139 : decode cX1_workOut 139 = .ok (.iconst 1, 1) := dk_4 (byr_X1_workOut_8 (j := 11) rfl)
theorem dX1_workOut_140 : decode cX1_workOut 140 = .ok (.isub, 1) := dk_100 (byr_X1_workOut_8 (j := 12) rfl)
theorem dX1_workOut_141 : decode cX1_workOut 141 = .ok (.iaload, 1) := dk_46 (byr_X1_workOut_8 (j := 13) rfl)
theorem dX1_workOut_142 : decode cX1_workOut 142 = .ok (.aload_n 0, 1) := dk_42 (byr_X1_workOut_8 (j := 14) rfl)
theorem dX1_workOut_143 : decode cX1_workOut 143 = .ok (.getfield 15, 3) := dk_180 (byr_X1_workOut_8 (j := 15) rfl) (byr_X1_workOut_9 (j := 0) rfl) (byr_X1_workOut_9 (j := 1) rfl) (by decide)
theorem dX1_workOut_146 : decode cX1_workOut 146 = .ok (.iload 4, 2) := dk_21 (byr_X1_workOut_9 (j := 2) rfl) (byr_X1_workOut_9 (j := 3) rfl)
theorem dX1_workOut_148 : decode cX1_workOut 148 = .ok (.iaload, 1) := dk_46 (byr_X1_workOut_9 (j := 4) rfl)
theorem dX1_workOut_149 : decode cX1_workOut 149 = .ok (.invokestatic 48, 3) := dk_184 (byr_X1_workOut_9 (j := 5) rfl) (byr_X1_workOut_9 (j := 6) rfl) (byr_X1_workOut_9 (j := 7) rfl) (by decide)
theorem dX1_workOut_152 : decode cX1_workOut 152 = .ok (.iastore, 1) := dk_79 (byr_X1_workOut_9 (j := 8) rfl)
theorem dX1_workOut_153 : decode cX1_workOut 153 = .ok (.iinc 5 1, 3) := dk_132 (byr_X1_workOut_9 (j := 9) rfl) (byr_X1_workOut_9 (j := 10) rfl) (byr_X1_workOut_9 (j := 11) rfl) (by decide)
theorem dX1_workOut_156 : decode cX1_workOut 156 = .ok (.goto (-150), 3) := dk_167 (byr_X1_workOut_9 (j := 12) rfl) (byr_X1_workOut_9 (j := 13) rfl) (byr_X1_workOut_9 (j := 14) rfl) (by decide)
theorem dX1_workOut_159 : decode cX1_workOut 159 = .ok (.aload_n 0, 1) := dk_42 (byr_X1_workOut_9 (j := 15) rfl)
theorem dX1_workOut_160 : decode cX1_workOut 160 = .ok (.getfield 15, 3) := dk_180 (byr_X1_workOut_10 (j := 0) rfl) (byr_X1_workOut_10 (j := 1) rfl) (byr_X1_workOut_10 (j := 2) rfl) (by decide)
theorem dX1_workOut_163 : decode cX1_workOut 163 = .ok (.iconst 0, 1) := dk_3 (byr_X1_workOut_10 (j := 3) rfl)
theorem dX1_workOut_164 : decode cX1_workOut 164 = .ok (.iaload, 1) := dk_46 (byr_X1_workOut_10 (j := 4) rfl)
theorem dX1_workOut_165 : decode cX1_workOut 165 = .ok (.ireturn, 1) := dk_172 (byr_X1_workOut_10 (j := 5) rfl)
set_option maxHeartbeats 4000000 in
set_option maxRecDepth 100000 in
theorem c_X1_workOut (l : Launch) (G : GT) (σ : Sto) (k0 : Nat) (hk0 : K0 k0 = 1) (a1 : Int32) (a2 : Int32) (a3 : Int32) (r : (Int32 × Sto)) (h : f_X1_workOut σ k0 a1 a2 a3 = some r) : MW l G (3) (87) 0 0 yX1_workOut cX1_workOut 7 (Option.some Jvm.ClassFile.FieldType.int) [.ref (gad G k0), .int a1, .int a2, .int a3] (wl G σ) (some (.int r.1)) (wl G r.2) := by
  refine mw_of RX1 (fiI G) [(0, .ref (gad G k0)), (1, .int a1), (2, .int a2), (3, .int a3)] (by decide +kernel) rfl (Nat.le_of_ble_eq_true rfl) rfl h rfl (fun p e s m args below meth c X hr hnm => ?_)
  have J153 : ∀ (k0 : Nat) (hk0 : K0 k0 = 1) (v1 : Int32) (v2 : Int32) (v3 : Int32) (v4 : Int32) (v5 : Int32) (K6 : Int32 → Int32 → Sto → Option (Int32 × Sto)) (hK6 : ∀ (v4' : Int32) (v5' : Int32) (σ' : Sto), Sm p l e { frames := 3, cells := 0, slots := 0, locals := 87 } s m args below meth c G 7 (Qm below args s G 0 0 (fiI G)) 0 0 (wl G σ') 6 [(0, .ref (gad G k0)), (1, .int v1), (2, .int v2), (3, .int v3), (4, .int v4'), (5, .int v5')] [] (K6 v4' v5' σ')) (σ : Sto), Sm p l e { frames := 3, cells := 0, slots := 0, locals := 87 } s m args below meth c G 7 (Qm below args s G 0 0 (fiI G)) 0 0 (wl G σ) 153 [(0, .ref (gad G k0)), (1, .int v1), (2, .int v2), (3, .int v3), (4, .int v4), (5, .int v5)] [] (f_X1_workOut_L153 K6 k0 v1 v2 v3 v4 v5 σ) := by
    intro k0 hk0 v1 v2 v3 v4 v5 K6 hK6 σ
    rw [f_X1_workOut_L153]
    refine sm_iinc X 156 5 (1 : Int32) [(5, .int (v5 + (1 : Int32))), (0, .ref (gad G k0)), (1, .int v1), (2, .int v2), (3, .int v3), (4, .int v4)] dX1_workOut_153 rfl rfl rfl (by decide) rfl ?_
    refine sm_goto X 6 dX1_workOut_156 (by decide) ?_
    exact sm_sub [1, 2, 3, 4, 5, 0] rfl (hK6 v4 (v5 + (1 : Int32)) σ)
  have J110 : ∀ (k0 : Nat) (hk0 : K0 k0 = 1) (v1 : Int32) (v2 : Int32) (v3 : Int32) (v4 : Int32) (v5 : Int32) (vs0 : Bool) (vs1 : Int32) (ks2 : Nat) (hks2 : K0 ks2 = 20) (K6 : Int32 → Int32 → Sto → Option (Int32 × Sto)) (hK6 : ∀ (v4' : Int32) (v5' : Int32) (σ' : Sto), Sm p l e { frames := 3, cells := 0, slots := 0, locals := 87 } s m args below meth c G 7 (Qm below args s G 0 0 (fiI G)) 0 0 (wl G σ') 6 [(0, .ref (gad G k0)), (1, .int v1), (2, .int v2), (3, .int v3), (4, .int v4'), (5, .int v5')] [] (K6 v4' v5' σ')) (σ : Sto), Sm p l e { frames := 3, cells := 0, slots := 0, locals := 87 } s m args below meth c G 7 (Qm below args s G 0 0 (fiI G)) 0 0 (wl G σ) 110 [(0, .ref (gad G k0)), (1, .int v1), (2, .int v2), (3, .int v3), (4, .int v4), (5, .int v5)] [.int (b2i vs0), .int vs1, .ref (gad G ks2)] (f_X1_workOut_L110 K6 k0 v1 v2 v3 v4 v5 vs0 vs1 ks2 σ) := by
    intro k0 hk0 v1 v2 v3 v4 v5 vs0 vs1 ks2 hks2 K6 hK6 σ
    rw [f_X1_workOut_L110]
    refine sm_iast X 111 hks2 dX1_workOut_110 rfl (fun σ110 e110 => ?_)
    clear e110
    refine sm_goto X 153 dX1_workOut_111 (by decide) ?_
    exact sm_sub [0, 1, 2, 3, 4, 5] rfl (J153 k0 hk0 v1 v2 v3 v4 v5 K6 hK6 σ110)
  have J6 : ∀ (k0 : Nat) (hk0 : K0 k0 = 1) (v1 : Int32) (v2 : Int32) (v3 : Int32)  (n : Nat) (v4 : Int32) (v5 : Int32) (σ : Sto), Sm p l e { frames := 3, cells := 0, slots := 0, locals := 87 } s m args below meth c G 7 (Qm below args s G 0 0 (fiI G)) 0 0 (wl G σ) 6 [(0, .ref (gad G k0)), (1, .int v1), (2, .int v2), (3, .int v3), (4, .int v4), (5, .int v5)] [] (f_X1_workOut_L6  k0 v1 v2 v3 n v4 v5 σ) := by
    intro k0 hk0 v1 v2 v3 n
    induction n with
    | zero => intro v4 v5 σ; rw [f_X1_workOut_L6]; exact sm_none
    | succ n ihl =>
      intro v4 v5 σ
      rw [f_X1_workOut_L6]
      refine sm_iload X 8 5 dX1_workOut_6 rfl rfl ?_
      refine sm_aload_n X 9 0 dX1_workOut_8 rfl rfl rfl ?_
      refine sm_geti X 12 hk0 fd_1_3 dX1_workOut_9 rfl q_43 ?_
      refine sm_icmp_ge X 15 159 dX1_workOut_12 rfl (by decide) (fun h12 => ?_) (fun h12 => ?_)
      · refine sm_aload_n X 160 0 dX1_workOut_159 rfl rfl rfl ?_
        refine sm_getf X 163 (A0 k0 2) hk0 fd_1_2 (fr_1_2 hk0).1 dX1_workOut_160 rfl q_42 ?_
        refine sm_iconst X 164 (0) dX1_workOut_163 rfl rfl ?_
        refine sm_iald X 165 ((fr_1_2 hk0).2.1) dX1_workOut_164 rfl (fun r164 e164 => ?_)
        clear e164
        exact sm_iret X hr dX1_workOut_165 rfl
      · refine sm_iload X 17 5 dX1_workOut_15 rfl rfl ?_
        refine sm_aload_n X 18 0 dX1_workOut_17 rfl rfl rfl ?_
        refine sm_getf X 21 (A0 k0 1) hk0 fd_1_1 (fr_1_1 hk0).1 dX1_workOut_18 rfl q_41 ?_
        refine sm_alen X 22 50 (Or.inl ((fr_1_1 hk0).2.1)) (by rw [(fr_1_1 hk0).2.2]; rfl) dX1_workOut_21 rfl ?_
        refine sm_icmp_ge X 25 159 dX1_workOut_22 rfl (by decide) (fun h22 => ?_) (fun h22 => ?_)
        · refine sm_aload_n X 160 0 dX1_workOut_159 rfl rfl rfl ?_
          refine sm_getf X 163 (A0 k0 2) hk0 fd_1_2 (fr_1_2 hk0).1 dX1_workOut_160 rfl q_42 ?_
          refine sm_iconst X 164 (0) dX1_workOut_163 rfl rfl ?_
          refine sm_iald X 165 ((fr_1_2 hk0).2.1) dX1_workOut_164 rfl (fun r164 e164 => ?_)
          clear e164
          exact sm_iret X hr dX1_workOut_165 rfl
        · refine sm_aload_n X 26 0 dX1_workOut_25 rfl rfl rfl ?_
          refine sm_getf X 29 (A0 k0 1) hk0 fd_1_1 (fr_1_1 hk0).1 dX1_workOut_26 rfl q_41 ?_
          refine sm_iload X 31 5 dX1_workOut_29 rfl rfl ?_
          refine sm_iald X 32 ((fr_1_1 hk0).2.1) dX1_workOut_31 rfl (fun r31 e31 => ?_)
          clear e31
          refine sm_istore X 34 [(6, .int r31), (0, .ref (gad G k0)), (1, .int v1), (2, .int v2), (3, .int v3), (4, .int v4), (5, .int v5)] dX1_workOut_32 rfl (by decide) rfl ?_
          refine sm_iload X 36 0 dX1_workOut_34 rfl rfl ?_
          refine sm_bipush X 38 (-33) dX1_workOut_36 rfl rfl ?_
          refine sm_icmp_le X 41 72 dX1_workOut_38 rfl (by decide) (fun h38 => ?_) (fun h38 => ?_)
          · refine sm_iload X 74 0 dX1_workOut_72 rfl rfl ?_
            refine sm_bipush X 76 (-33) dX1_workOut_74 rfl rfl ?_
            refine sm_icmp_ne X 79 114 dX1_workOut_76 rfl (by decide) (fun h76 => ?_) (fun h76 => ?_)
            · refine sm_iload X 81 5 dX1_workOut_79 rfl rfl ?_
              refine sm_iconst X 82 (1) dX1_workOut_81 rfl rfl ?_
              refine sm_icmp_lt X 85 153 dX1_workOut_82 rfl (by decide) (fun h82 => ?_) (fun h82 => ?_)
              · exact sm_sub [1, 2, 3, 4, 5, 6] rfl (J153 k0 hk0 v1 v2 v3 v4 v5 (f_X1_workOut_L6  k0 v1 v2 v3 n) ihl σ)
              · refine sm_aload_n X 86 1 dX1_workOut_85 rfl rfl rfl ?_
                refine sm_getf X 89 (A0 k0 2) hk0 fd_1_2 (fr_1_2 hk0).1 dX1_workOut_86 rfl q_42 ?_
                refine sm_iload X 91 5 dX1_workOut_89 rfl rfl ?_
                refine sm_iconst X 92 (1) dX1_workOut_91 rfl rfl ?_
                refine sm_isub X 93 dX1_workOut_92 rfl ?_
                refine sm_aload_n X 94 1 dX1_workOut_93 rfl rfl rfl ?_
                refine sm_getf X 97 (A0 k0 2) hk0 fd_1_2 (fr_1_2 hk0).1 dX1_workOut_94 rfl q_42 ?_
                refine sm_iload X 99 5 dX1_workOut_97 rfl rfl ?_
                refine sm_iconst X 100 (1) dX1_workOut_99 rfl rfl ?_
                refine sm_isub X 101 dX1_workOut_100 rfl ?_
                refine sm_iald X 102 ((fr_1_2 hk0).2.1) dX1_workOut_101 rfl (fun r101 e101 => ?_)
                clear e101
                refine sm_if_ne X 105 109 dX1_workOut_102 rfl (by decide) (fun h102 => ?_) (fun h102 => ?_)
                · refine sm_iconst X 106 (1) dX1_workOut_105 rfl rfl ?_
                  refine sm_goto X 110 dX1_workOut_106 (by decide) ?_
                  exact sm_sub [1, 2, 3, 4, 5, 6] rfl (J110 k0 hk0 v1 v2 v3 v4 v5 true (v4 - (1 : Int32)) (A0 k0 2) ((fr_1_2 hk0).2.1) (f_X1_workOut_L6  k0 v1 v2 v3 n) ihl σ)
                · refine sm_iconst X 110 (0) dX1_workOut_109 rfl rfl ?_
                  exact sm_sub [1, 2, 3, 4, 5, 6] rfl (J110 k0 hk0 v1 v2 v3 v4 v5 false (v4 - (1 : Int32)) (A0 k0 2) ((fr_1_2 hk0).2.1) (f_X1_workOut_L6  k0 v1 v2 v3 n) ihl σ)
            · refine sm_iload X 116 5 dX1_workOut_114 rfl rfl ?_
              refine sm_iconst X 117 (2) dX1_workOut_116 rfl rfl ?_
              refine sm_icmp_lt X 120 153 dX1_workOut_117 rfl (by decide) (fun h117 => ?_) (fun h117 => ?_)
              · exact sm_sub [1, 2, 3, 4, 5, 6] rfl (J153 k0 hk0 v1 v2 v3 v4 v5 (f_X1_workOut_L6  k0 v1 v2 v3 n) ihl σ)
              · refine sm_iinc X 123 5 (-1 : Int32) [(4, .int (v4 + (-1 : Int32))), (6, .int r31), (0, .ref (gad G k0)), (1, .int v1), (2, .int v2), (3, .int v3), (5, .int v5)] dX1_workOut_120 rfl rfl rfl (by decide) rfl ?_
                refine sm_aload_n X 124 2 dX1_workOut_123 rfl rfl rfl ?_
                refine sm_getf X 127 (A0 k0 2) hk0 fd_1_2 (fr_1_2 hk0).1 dX1_workOut_124 rfl q_42 ?_
                refine sm_iload X 129 0 dX1_workOut_127 rfl rfl ?_
                refine sm_iconst X 130 (1) dX1_workOut_129 rfl rfl ?_
                refine sm_isub X 131 dX1_workOut_130 rfl ?_
                refine sm_iload X 133 1 dX1_workOut_131 rfl rfl ?_
                refine sm_aload_n X 134 2 dX1_workOut_133 rfl rfl rfl ?_
                refine sm_getf X 137 (A0 k0 2) hk0 fd_1_2 (fr_1_2 hk0).1 dX1_workOut_134 rfl q_42 ?_
                refine sm_iload X 139 0 dX1_workOut_137 rfl rfl ?_
                refine sm_iconst X 140 (1) dX1_workOut_139 rfl rfl ?_
                refine sm_isub X 141 dX1_workOut_140 rfl ?_
                refine sm_iald X 142 ((fr_1_2 hk0).2.1) dX1_workOut_141 rfl (fun r141 e141 => ?_)
                clear e141
                refine sm_aload_n X 143 2 dX1_workOut_142 rfl rfl rfl ?_
                refine sm_getf X 146 (A0 k0 2) hk0 fd_1_2 (fr_1_2 hk0).1 dX1_workOut_143 rfl q_42 ?_
                refine sm_iload X 148 0 dX1_workOut_146 rfl rfl ?_
                refine sm_iald X 149 ((fr_1_2 hk0).2.1) dX1_workOut_148 rfl (fun r148 e148 => ?_)
                clear e148
                refine sm_bind (fun r149 h149 => ?_)
                refine sm_callS0 X 152 [.int r31, .int r141, .int r148] [.int ((v4 + (-1 : Int32)) - (1 : Int32)), .ref (gad G (A0 k0 2))] [.int r149, .int ((v4 + (-1 : Int32)) - (1 : Int32)), .ref (gad G (A0 k0 2))] (c_X1_joined l G σ r31 r141 r148 r149 h149) cw_X1_joined q_360 q_359 rfl rfl rfl (Nat.le_of_ble_eq_true rfl) ⟨Nat.le_of_ble_eq_true rfl, Nat.le_of_ble_eq_true rfl⟩ ⟨Nat.le_refl _, Nat.le_refl _⟩ dX1_workOut_149 rfl ?_
                refine sm_iast X 153 ((fr_1_2 hk0).2.1) dX1_workOut_152 rfl (fun σ152 e152 => ?_)
                clear e152
                exact sm_sub [2, 3, 4, 5, 0, 6] rfl (J153 k0 hk0 v1 v2 v3 (v4 + (-1 : Int32)) v5 (f_X1_workOut_L6  k0 v1 v2 v3 n) ihl σ152)
          · refine sm_iload X 43 5 dX1_workOut_41 rfl rfl ?_
            refine sm_aload_n X 44 1 dX1_workOut_43 rfl rfl rfl ?_
            refine sm_getf X 47 (A0 k0 2) hk0 fd_1_2 (fr_1_2 hk0).1 dX1_workOut_44 rfl q_42 ?_
            refine sm_alen X 48 50 (Or.inl ((fr_1_2 hk0).2.1)) (by rw [(fr_1_2 hk0).2.2]; rfl) dX1_workOut_47 rfl ?_
            refine sm_icmp_ge X 51 153 dX1_workOut_48 rfl (by decide) (fun h48 => ?_) (fun h48 => ?_)
            · exact sm_sub [1, 2, 3, 4, 5, 6] rfl (J153 k0 hk0 v1 v2 v3 v4 v5 (f_X1_workOut_L6  k0 v1 v2 v3 n) ihl σ)
            · refine sm_aload_n X 52 1 dX1_workOut_51 rfl rfl rfl ?_
              refine sm_getf X 55 (A0 k0 2) hk0 fd_1_2 (fr_1_2 hk0).1 dX1_workOut_52 rfl q_42 ?_
              refine sm_iload X 57 5 dX1_workOut_55 rfl rfl ?_
              refine sm_iload X 59 0 dX1_workOut_57 rfl rfl ?_
              refine sm_iload_n X 60 2 dX1_workOut_59 rfl rfl rfl ?_
              refine sm_iload_n X 61 3 dX1_workOut_60 rfl rfl rfl ?_
              refine sm_iload_n X 62 4 dX1_workOut_61 rfl rfl rfl ?_
              refine sm_bind (fun r62 h62 => ?_)
              refine sm_callS0 X 65 [.int r31, .int v1, .int v2, .int v3] [.int v4, .ref (gad G (A0 k0 2))] [.int r62, .int v4, .ref (gad G (A0 k0 2))] (c_X1_valueOf l G σ r31 v1 v2 v3 r62 h62) cw_X1_valueOf q_357 q_356 rfl rfl rfl (Nat.le_of_ble_eq_true rfl) ⟨Nat.le_of_ble_eq_true rfl, Nat.le_of_ble_eq_true rfl⟩ ⟨Nat.le_refl _, Nat.le_refl _⟩ dX1_workOut_62 rfl ?_
              refine sm_iast X 66 ((fr_1_2 hk0).2.1) dX1_workOut_65 rfl (fun σ65 e65 => ?_)
              clear e65
              refine sm_iinc X 69 5 (1 : Int32) [(4, .int (v4 + (1 : Int32))), (6, .int r31), (0, .ref (gad G k0)), (1, .int v1), (2, .int v2), (3, .int v3), (5, .int v5)] dX1_workOut_66 rfl rfl rfl (by decide) rfl ?_
              refine sm_goto X 153 dX1_workOut_69 (by decide) ?_
              exact sm_sub [2, 3, 4, 5, 0, 6] rfl (J153 k0 hk0 v1 v2 v3 (v4 + (1 : Int32)) v5 (f_X1_workOut_L6  k0 v1 v2 v3 n) ihl σ65)
  unfold f_X1_workOut
  refine sm_iconst X 1 (0) dX1_workOut_0 rfl rfl ?_
  refine sm_istore X 3 [(4, .int 0), (0, .ref (gad G k0)), (1, .int a1), (2, .int a2), (3, .int a3)] dX1_workOut_1 rfl (by decide) rfl ?_
  refine sm_iconst X 4 (0) dX1_workOut_3 rfl rfl ?_
  refine sm_istore X 6 [(5, .int 0), (4, .int 0), (0, .ref (gad G k0)), (1, .int a1), (2, .int a2), (3, .int a3)] dX1_workOut_4 rfl (by decide) rfl ?_
  exact sm_sub [2, 3, 4, 5, 1, 0] rfl (J6 k0 hk0 a1 a2 a3  FU (0 : Int32) (0 : Int32) σ)
def by_X8_heldWithin_z : List Nat := [27, 28, 26, 184, 1, 50, 184, 1, 61, 172]
def by_X8_heldWithin : List (List Nat) := []
set_option maxRecDepth 100000 in
theorem byo_X8_heldWithin : cX8_heldWithin.data.toList.map UInt8.toNat = by_X8_heldWithin.flatten ++ by_X8_heldWithin_z := by decide +kernel
theorem byl_X8_heldWithin : by_X8_heldWithin.all (fun r => r.length == 16) = true := by decide +kernel
theorem byr_X8_heldWithin_0 {j v : Nat} (h : by_X8_heldWithin_z[j]? = some v) : RD cX8_heldWithin (0 + j) v := rd_z byo_X8_heldWithin byl_X8_heldWithin 0 rfl h
theorem dX8_heldWithin_0 : decode cX8_heldWithin 0 = .ok (.iload_n 1, 1) := dk_27 (byr_X8_heldWithin_0 (j := 0) rfl)
theorem dX8_heldWithin_1 : decode cX8_heldWithin 1 = .ok (.iload_n 2, 1) := dk_28 (byr_X8_heldWithin_0 (j := 1) rfl)
theorem dX8_heldWithin_2 : decode cX8_heldWithin 2 = .ok (.iload_n 0, 1) := dk_26 (byr_X8_heldWithin_0 (j := 2) rfl)
theorem dX8_heldWithin_3 : decode cX8_heldWithin 3 = .ok (.invokestatic 306, 3) := dk_184 (byr_X8_heldWithin_0 (j := 3) rfl) (byr_X8_heldWithin_0 (j := 4) rfl) (byr_X8_heldWithin_0 (j := 5) rfl) (by decide)
theorem dX8_heldWithin_6 : decode cX8_heldWithin 6 = .ok (.invokestatic 317, 3) := dk_184 (byr_X8_heldWithin_0 (j := 6) rfl) (byr_X8_heldWithin_0 (j := 7) rfl) (byr_X8_heldWithin_0 (j := 8) rfl) (by decide)
theorem dX8_heldWithin_9 : decode cX8_heldWithin 9 = .ok (.ireturn, 1) := dk_172 (byr_X8_heldWithin_0 (j := 9) rfl)
set_option maxHeartbeats 4000000 in
set_option maxRecDepth 100000 in
theorem c_X8_heldWithin (l : Launch) (G : GT) (σ : Sto) (a0 : Int32) (a1 : Int32) (a2 : Int32) (r : Int32) (h : f_X8_heldWithin a0 a1 a2 = some r) : MW l G (2) (64) 0 0 yX8_heldWithin cX8_heldWithin 3 (Option.some Jvm.ClassFile.FieldType.int) [.int a0, .int a1, .int a2] (wl G σ) (some (.int r)) (wl G σ) := by
  refine mw_of RX8 (fpI G σ) [(0, .int a0), (1, .int a1), (2, .int a2)] (by decide +kernel) rfl (Nat.le_of_ble_eq_true rfl) rfl h rfl (fun p e s m args below meth c X hr hnm => ?_)
  unfold f_X8_heldWithin
  refine sm_iload_n X 1 1 dX8_heldWithin_0 rfl rfl rfl ?_
  refine sm_iload_n X 2 2 dX8_heldWithin_1 rfl rfl rfl ?_
  refine sm_iload_n X 3 0 dX8_heldWithin_2 rfl rfl rfl ?_
  refine sm_mmin X 6 dX8_heldWithin_3 rfl q_365 q_366 q_367 q_11 ⟨Nat.le_of_ble_eq_true rfl, Nat.le_of_ble_eq_true rfl, Nat.le_refl _, Nat.le_refl _⟩ ?_
  refine sm_mmax X 9 dX8_heldWithin_6 rfl q_368 q_369 q_370 q_11 ⟨Nat.le_of_ble_eq_true rfl, Nat.le_of_ble_eq_true rfl, Nat.le_refl _, Nat.le_refl _⟩ ?_
  exact sm_iret X hr dX8_heldWithin_9 rfl
def by_X1_give_0 : List Nat := [42, 180, 0, 22, 154, 0, 33, 42, 180, 0, 18, 158, 0, 13, 42, 27]
def by_X1_give_1 : List Nat := [28, 29, 182, 0, 37, 167, 0, 8, 27, 5, 28, 104, 96, 16, 226, 16]
def by_X1_give_2 : List Nat := [30, 184, 0, 41, 172, 42, 180, 0, 18, 158, 0, 13, 42, 27, 28, 29]
def by_X1_give_3 : List Nat := [182, 0, 37, 167, 0, 7, 27, 16, 12, 108, 3, 16, 100, 184, 0, 41]
def by_X1_give_z : List Nat := [172]
def by_X1_give : List (List Nat) := [by_X1_give_0, by_X1_give_1, by_X1_give_2, by_X1_give_3]
set_option maxRecDepth 100000 in
theorem byo_X1_give : cX1_give.data.toList.map UInt8.toNat = by_X1_give.flatten ++ by_X1_give_z := by decide +kernel
theorem byl_X1_give : by_X1_give.all (fun r => r.length == 16) = true := by decide +kernel
theorem byr_X1_give_0 {j v : Nat} (h : by_X1_give_0[j]? = some v) : RD cX1_give (0 + j) v := rd_16 byo_X1_give byl_X1_give 0 rfl h
theorem byr_X1_give_1 {j v : Nat} (h : by_X1_give_1[j]? = some v) : RD cX1_give (16 + j) v := rd_16 byo_X1_give byl_X1_give 1 rfl h
theorem byr_X1_give_2 {j v : Nat} (h : by_X1_give_2[j]? = some v) : RD cX1_give (32 + j) v := rd_16 byo_X1_give byl_X1_give 2 rfl h
theorem byr_X1_give_3 {j v : Nat} (h : by_X1_give_3[j]? = some v) : RD cX1_give (48 + j) v := rd_16 byo_X1_give byl_X1_give 3 rfl h
theorem byr_X1_give_4 {j v : Nat} (h : by_X1_give_z[j]? = some v) : RD cX1_give (64 + j) v := rd_z byo_X1_give byl_X1_give 4 rfl h
theorem dX1_give_0 : decode cX1_give 0 = .ok (.aload_n 0, 1) := dk_42 (byr_X1_give_0 (j := 0) rfl)
theorem dX1_give_1 : decode cX1_give 1 = .ok (.getfield 22, 3) := dk_180 (byr_X1_give_0 (j := 1) rfl) (byr_X1_give_0 (j := 2) rfl) (byr_X1_give_0 (j := 3) rfl) (by decide)
theorem dX1_give_4 : decode cX1_give 4 = .ok (.ifCond .ne 33, 3) := dk_154 (byr_X1_give_0 (j := 4) rfl) (byr_X1_give_0 (j := 5) rfl) (byr_X1_give_0 (j := 6) rfl) (by decide)
theorem dX1_give_7 : decode cX1_give 7 = .ok (.aload_n 0, 1) := dk_42 (byr_X1_give_0 (j := 7) rfl)
theorem dX1_give_8 : decode cX1_give 8 = .ok (.getfield 18, 3) := dk_180 (byr_X1_give_0 (j := 8) rfl) (byr_X1_give_0 (j := 9) rfl) (byr_X1_give_0 (j := 10) rfl) (by decide)
theorem dX1_give_11 : decode cX1_give 11 = .ok (.ifCond .le 13, 3) := dk_158 (byr_X1_give_0 (j := 11) rfl) (byr_X1_give_0 (j := 12) rfl) (byr_X1_give_0 (j := 13) rfl) (by decide)
theorem dX1_give_14 : decode cX1_give 14 = .ok (.aload_n 0, 1) := dk_42 (byr_X1_give_0 (j := 14) rfl)
theorem dX1_give_15 : decode cX1_give 15 = .ok (.iload_n 1, 1) := dk_27 (byr_X1_give_0 (j := 15) rfl)
theorem dX1_give_16 : decode cX1_give 16 = .ok (.iload_n 2, 1) := dk_28 (byr_X1_give_1 (j := 0) rfl)
theorem dX1_give_17 : decode cX1_give 17 = .ok (.iload_n 3, 1) := dk_29 (byr_X1_give_1 (j := 1) rfl)
theorem dX1_give_18 : decode cX1_give 18 = .ok (.invokevirtual 37, 3) := dk_182 (byr_X1_give_1 (j := 2) rfl) (byr_X1_give_1 (j := 3) rfl) (byr_X1_give_1 (j := 4) rfl) (by decide)
theorem dX1_give_21 : decode cX1_give 21 = .ok (.goto 8, 3) := dk_167 (byr_X1_give_1 (j := 5) rfl) (byr_X1_give_1 (j := 6) rfl) (byr_X1_give_1 (j := 7) rfl) (by decide)
theorem dX1_give_24 : decode cX1_give 24 = .ok (.iload_n 1, 1) := dk_27 (byr_X1_give_1 (j := 8) rfl)
theorem dX1_give_25 : decode cX1_give 25 = .ok (.iconst 2, 1) := dk_5 (byr_X1_give_1 (j := 9) rfl)
theorem dX1_give_26 : decode cX1_give 26 = .ok (.iload_n 2, 1) := dk_28 (byr_X1_give_1 (j := 10) rfl)
theorem dX1_give_27 : decode cX1_give 27 = .ok (.imul, 1) := dk_104 (byr_X1_give_1 (j := 11) rfl)
theorem dX1_give_28 : decode cX1_give 28 = .ok (.iadd, 1) := dk_96 (byr_X1_give_1 (j := 12) rfl)
theorem dX1_give_29 : decode cX1_give 29 = .ok (.bipush (-30), 2) := dk_16 (byr_X1_give_1 (j := 13) rfl) (byr_X1_give_1 (j := 14) rfl) (by decide)
theorem dX1_give_31 : decode cX1_give 31 = .ok (.bipush 30, 2) := dk_16 (byr_X1_give_1 (j := 15) rfl) (byr_X1_give_2 (j := 0) rfl) (by decide)
theorem dX1_give_33 : decode cX1_give 33 = .ok (.invokestatic 41, 3) := dk_184 (byr_X1_give_2 (j := 1) rfl) (byr_X1_give_2 (j := 2) rfl) (byr_X1_give_2 (j := 3) rfl) (by decide)
theorem dX1_give_36 : decode cX1_give 36 = .ok (.ireturn, 1) := dk_172 (byr_X1_give_2 (j := 4) rfl)
theorem dX1_give_37 : decode cX1_give 37 = .ok (.aload_n 0, 1) := dk_42 (byr_X1_give_2 (j := 5) rfl)
theorem dX1_give_38 : decode cX1_give 38 = .ok (.getfield 18, 3) := dk_180 (byr_X1_give_2 (j := 6) rfl) (byr_X1_give_2 (j := 7) rfl) (byr_X1_give_2 (j := 8) rfl) (by decide)
theorem dX1_give_41 : decode cX1_give 41 = .ok (.ifCond .le 13, 3) := dk_158 (byr_X1_give_2 (j := 9) rfl) (byr_X1_give_2 (j := 10) rfl) (byr_X1_give_2 (j := 11) rfl) (by decide)
theorem dX1_give_44 : decode cX1_give 44 = .ok (.aload_n 0, 1) := dk_42 (byr_X1_give_2 (j := 12) rfl)
theorem dX1_give_45 : decode cX1_give 45 = .ok (.iload_n 1, 1) := dk_27 (byr_X1_give_2 (j := 13) rfl)
theorem dX1_give_46 : decode cX1_give 46 = .ok (.iload_n 2, 1) := dk_28 (byr_X1_give_2 (j := 14) rfl)
theorem dX1_give_47 : decode cX1_give 47 = .ok (.iload_n 3, 1) := dk_29 (byr_X1_give_2 (j := 15) rfl)
theorem dX1_give_48 : decode cX1_give 48 = .ok (.invokevirtual 37, 3) := dk_182 (byr_X1_give_3 (j := 0) rfl) (byr_X1_give_3 (j := 1) rfl) (byr_X1_give_3 (j := 2) rfl) (by decide)
theorem dX1_give_51 : decode cX1_give 51 = .ok (.goto 7, 3) := dk_167 (byr_X1_give_3 (j := 3) rfl) (byr_X1_give_3 (j := 4) rfl) (byr_X1_give_3 (j := 5) rfl) (by decide)
theorem dX1_give_54 : decode cX1_give 54 = .ok (.iload_n 1, 1) := dk_27 (byr_X1_give_3 (j := 6) rfl)
theorem dX1_give_55 : decode cX1_give 55 = .ok (.bipush 12, 2) := dk_16 (byr_X1_give_3 (j := 7) rfl) (byr_X1_give_3 (j := 8) rfl) (by decide)
theorem dX1_give_57 : decode cX1_give 57 = .ok (.idiv, 1) := dk_108 (byr_X1_give_3 (j := 9) rfl)
theorem dX1_give_58 : decode cX1_give 58 = .ok (.iconst 0, 1) := dk_3 (byr_X1_give_3 (j := 10) rfl)
theorem dX1_give_59 : decode cX1_give 59 = .ok (.bipush 100, 2) := dk_16 (byr_X1_give_3 (j := 11) rfl) (byr_X1_give_3 (j := 12) rfl) (by decide)
theorem dX1_give_61 : decode cX1_give 61 = .ok (.invokestatic 41, 3) := dk_184 (byr_X1_give_3 (j := 13) rfl) (byr_X1_give_3 (j := 14) rfl) (byr_X1_give_3 (j := 15) rfl) (by decide)
theorem dX1_give_64 : decode cX1_give 64 = .ok (.ireturn, 1) := dk_172 (byr_X1_give_4 (j := 0) rfl)
set_option maxHeartbeats 4000000 in
set_option maxRecDepth 100000 in
theorem c_X1_give (l : Launch) (G : GT) (σ : Sto) (k0 : Nat) (hk0 : K0 k0 = 1) (a1 : Int32) (a2 : Int32) (a3 : Int32) (r : (Int32 × Sto)) (h : f_X1_give σ k0 a1 a2 a3 = some r) : MW l G (4) (113) 0 0 yX1_give cX1_give 4 (Option.some Jvm.ClassFile.FieldType.int) [.ref (gad G k0), .int a1, .int a2, .int a3] (wl G σ) (some (.int r.1)) (wl G r.2) := by
  refine mw_of RX1 (fiI G) [(0, .ref (gad G k0)), (1, .int a1), (2, .int a2), (3, .int a3)] (by decide +kernel) rfl (Nat.le_of_ble_eq_true rfl) rfl h rfl (fun p e s m args below meth c X hr hnm => ?_)
  unfold f_X1_give
  refine sm_aload_n X 1 0 dX1_give_0 rfl rfl rfl ?_
  refine sm_geti X 4 hk0 fd_1_0 dX1_give_1 rfl q_40 ?_
  refine sm_if_ne X 7 37 dX1_give_4 rfl (by decide) (fun h4 => ?_) (fun h4 => ?_)
  · refine sm_aload_n X 8 0 dX1_give_7 rfl rfl rfl ?_
    refine sm_geti X 11 hk0 fd_1_3 dX1_give_8 rfl q_43 ?_
    refine sm_if_le X 14 24 dX1_give_11 rfl (by decide) (fun h11 => ?_) (fun h11 => ?_)
    · refine sm_iload_n X 25 1 dX1_give_24 rfl rfl rfl ?_
      refine sm_iconst X 26 (2) dX1_give_25 rfl rfl ?_
      refine sm_iload_n X 27 2 dX1_give_26 rfl rfl rfl ?_
      refine sm_imul X 28 dX1_give_27 rfl ?_
      refine sm_iadd X 29 dX1_give_28 rfl ?_
      refine sm_bipush X 31 (-30) dX1_give_29 rfl rfl ?_
      refine sm_bipush X 33 (30) dX1_give_31 rfl rfl ?_
      refine sm_bind (fun r33 h33 => ?_)
      refine sm_callSN0 X 36 (host := RX8) [.int (a1 + ((2 : Int32) * a2)), .int (-30), .int 30] [] [.int r33] (c_X8_heldWithin l G σ (a1 + ((2 : Int32) * a2)) (-30 : Int32) (30 : Int32) r33 h33) cw_X8_heldWithin q_363 (List.mem_of_getElem? (i := 9) rfl) rfl rfl rfl (Nat.le_of_ble_eq_true rfl) ⟨Nat.le_of_ble_eq_true rfl, Nat.le_of_ble_eq_true rfl⟩ ⟨Nat.le_refl _, Nat.le_refl _⟩ dX1_give_33 rfl ?_
      exact sm_iret X hr dX1_give_36 rfl
    · refine sm_aload_n X 15 0 dX1_give_14 rfl rfl rfl ?_
      refine sm_iload_n X 16 1 dX1_give_15 rfl rfl rfl ?_
      refine sm_iload_n X 17 2 dX1_give_16 rfl rfl rfl ?_
      refine sm_iload_n X 18 3 dX1_give_17 rfl rfl rfl ?_
      refine sm_bind (fun r18 h18 => ?_)
      refine sm_callV0 X 21 [.int a1, .int a2, .int a3] [] [.int r18.1] (c_X1_workOut l G σ k0 hk0 a1 a2 a3 r18 h18) cw_X1_workOut q_354 qs_1 q_352 hk0 (by decide) rfl rfl rfl rfl rfl (Nat.le_of_ble_eq_true rfl) ⟨Nat.le_of_ble_eq_true rfl, Nat.le_of_ble_eq_true rfl⟩ ⟨Nat.le_refl _, Nat.le_refl _⟩ dX1_give_18 rfl ?_
      refine sm_goto X 29 dX1_give_21 (by decide) ?_
      refine sm_bipush X 31 (-30) dX1_give_29 rfl rfl ?_
      refine sm_bipush X 33 (30) dX1_give_31 rfl rfl ?_
      refine sm_bind (fun r33 h33 => ?_)
      refine sm_callSN0 X 36 (host := RX8) [.int r18.1, .int (-30), .int 30] [] [.int r33] (c_X8_heldWithin l G r18.2 r18.1 (-30 : Int32) (30 : Int32) r33 h33) cw_X8_heldWithin q_363 (List.mem_of_getElem? (i := 9) rfl) rfl rfl rfl (Nat.le_of_ble_eq_true rfl) ⟨Nat.le_of_ble_eq_true rfl, Nat.le_of_ble_eq_true rfl⟩ ⟨Nat.le_refl _, Nat.le_refl _⟩ dX1_give_33 rfl ?_
      exact sm_iret X hr dX1_give_36 rfl
  · refine sm_aload_n X 38 0 dX1_give_37 rfl rfl rfl ?_
    refine sm_geti X 41 hk0 fd_1_3 dX1_give_38 rfl q_43 ?_
    refine sm_if_le X 44 54 dX1_give_41 rfl (by decide) (fun h41 => ?_) (fun h41 => ?_)
    · refine sm_iload_n X 55 1 dX1_give_54 rfl rfl rfl ?_
      refine sm_bipush X 57 (12) dX1_give_55 rfl rfl ?_
      refine sm_idiv X 58 dX1_give_57 rfl (by first | decide | assumption) ?_
      refine sm_iconst X 59 (0) dX1_give_58 rfl rfl ?_
      refine sm_bipush X 61 (100) dX1_give_59 rfl rfl ?_
      refine sm_bind (fun r61 h61 => ?_)
      refine sm_callSN0 X 64 (host := RX8) [.int (a1 / (12 : Int32)), .int 0, .int 100] [] [.int r61] (c_X8_heldWithin l G σ (a1 / (12 : Int32)) (0 : Int32) (100 : Int32) r61 h61) cw_X8_heldWithin q_363 (List.mem_of_getElem? (i := 9) rfl) rfl rfl rfl (Nat.le_of_ble_eq_true rfl) ⟨Nat.le_of_ble_eq_true rfl, Nat.le_of_ble_eq_true rfl⟩ ⟨Nat.le_refl _, Nat.le_refl _⟩ dX1_give_61 rfl ?_
      exact sm_iret X hr dX1_give_64 rfl
    · refine sm_aload_n X 45 0 dX1_give_44 rfl rfl rfl ?_
      refine sm_iload_n X 46 1 dX1_give_45 rfl rfl rfl ?_
      refine sm_iload_n X 47 2 dX1_give_46 rfl rfl rfl ?_
      refine sm_iload_n X 48 3 dX1_give_47 rfl rfl rfl ?_
      refine sm_bind (fun r48 h48 => ?_)
      refine sm_callV0 X 51 [.int a1, .int a2, .int a3] [] [.int r48.1] (c_X1_workOut l G σ k0 hk0 a1 a2 a3 r48 h48) cw_X1_workOut q_354 qs_1 q_352 hk0 (by decide) rfl rfl rfl rfl rfl (Nat.le_of_ble_eq_true rfl) ⟨Nat.le_of_ble_eq_true rfl, Nat.le_of_ble_eq_true rfl⟩ ⟨Nat.le_refl _, Nat.le_refl _⟩ dX1_give_48 rfl ?_
      refine sm_goto X 58 dX1_give_51 (by decide) ?_
      refine sm_iconst X 59 (0) dX1_give_58 rfl rfl ?_
      refine sm_bipush X 61 (100) dX1_give_59 rfl rfl ?_
      refine sm_bind (fun r61 h61 => ?_)
      refine sm_callSN0 X 64 (host := RX8) [.int r48.1, .int 0, .int 100] [] [.int r61] (c_X8_heldWithin l G r48.2 r48.1 (0 : Int32) (100 : Int32) r61 h61) cw_X8_heldWithin q_363 (List.mem_of_getElem? (i := 9) rfl) rfl rfl rfl (Nat.le_of_ble_eq_true rfl) ⟨Nat.le_of_ble_eq_true rfl, Nat.le_of_ble_eq_true rfl⟩ ⟨Nat.le_refl _, Nat.le_refl _⟩ dX1_give_61 rfl ?_
      exact sm_iret X hr dX1_give_64 rfl
def by_X0_flowOf_0 : List Nat := [27, 3, 8, 184, 0, 71, 153, 0, 5, 3, 172, 42, 180, 0, 48, 42]
def by_X0_flowOf_z : List Nat := [180, 0, 9, 27, 46, 28, 27, 182, 0, 75, 172]
def by_X0_flowOf : List (List Nat) := [by_X0_flowOf_0]
set_option maxRecDepth 100000 in
theorem byo_X0_flowOf : cX0_flowOf.data.toList.map UInt8.toNat = by_X0_flowOf.flatten ++ by_X0_flowOf_z := by decide +kernel
theorem byl_X0_flowOf : by_X0_flowOf.all (fun r => r.length == 16) = true := by decide +kernel
theorem byr_X0_flowOf_0 {j v : Nat} (h : by_X0_flowOf_0[j]? = some v) : RD cX0_flowOf (0 + j) v := rd_16 byo_X0_flowOf byl_X0_flowOf 0 rfl h
theorem byr_X0_flowOf_1 {j v : Nat} (h : by_X0_flowOf_z[j]? = some v) : RD cX0_flowOf (16 + j) v := rd_z byo_X0_flowOf byl_X0_flowOf 1 rfl h
theorem dX0_flowOf_0 : decode cX0_flowOf 0 = .ok (.iload_n 1, 1) := dk_27 (byr_X0_flowOf_0 (j := 0) rfl)
theorem dX0_flowOf_1 : decode cX0_flowOf 1 = .ok (.iconst 0, 1) := dk_3 (byr_X0_flowOf_0 (j := 1) rfl)
theorem dX0_flowOf_2 : decode cX0_flowOf 2 = .ok (.iconst 5, 1) := dk_8 (byr_X0_flowOf_0 (j := 2) rfl)
theorem dX0_flowOf_3 : decode cX0_flowOf 3 = .ok (.invokestatic 71, 3) := dk_184 (byr_X0_flowOf_0 (j := 3) rfl) (byr_X0_flowOf_0 (j := 4) rfl) (byr_X0_flowOf_0 (j := 5) rfl) (by decide)
theorem dX0_flowOf_6 : decode cX0_flowOf 6 = .ok (.ifCond .eq 5, 3) := dk_153 (byr_X0_flowOf_0 (j := 6) rfl) (byr_X0_flowOf_0 (j := 7) rfl) (byr_X0_flowOf_0 (j := 8) rfl) (by decide)
theorem dX0_flowOf_9 : decode cX0_flowOf 9 = .ok (.iconst 0, 1) := dk_3 (byr_X0_flowOf_0 (j := 9) rfl)
theorem dX0_flowOf_10 : decode cX0_flowOf 10 = .ok (.ireturn, 1) := dk_172 (byr_X0_flowOf_0 (j := 10) rfl)
theorem dX0_flowOf_11 : decode cX0_flowOf 11 = .ok (.aload_n 0, 1) := dk_42 (byr_X0_flowOf_0 (j := 11) rfl)
theorem dX0_flowOf_12 : decode cX0_flowOf 12 = .ok (.getfield 48, 3) := dk_180 (byr_X0_flowOf_0 (j := 12) rfl) (byr_X0_flowOf_0 (j := 13) rfl) (byr_X0_flowOf_0 (j := 14) rfl) (by decide)
theorem dX0_flowOf_15 : decode cX0_flowOf 15 = .ok (.aload_n 0, 1) := dk_42 (byr_X0_flowOf_0 (j := 15) rfl)
theorem dX0_flowOf_16 : decode cX0_flowOf 16 = .ok (.getfield 9, 3) := dk_180 (byr_X0_flowOf_1 (j := 0) rfl) (byr_X0_flowOf_1 (j := 1) rfl) (byr_X0_flowOf_1 (j := 2) rfl) (by decide)
theorem dX0_flowOf_19 : decode cX0_flowOf 19 = .ok (.iload_n 1, 1) := dk_27 (byr_X0_flowOf_1 (j := 3) rfl)
theorem dX0_flowOf_20 : decode cX0_flowOf 20 = .ok (.iaload, 1) := dk_46 (byr_X0_flowOf_1 (j := 4) rfl)
theorem dX0_flowOf_21 : decode cX0_flowOf 21 = .ok (.iload_n 2, 1) := dk_28 (byr_X0_flowOf_1 (j := 5) rfl)
theorem dX0_flowOf_22 : decode cX0_flowOf 22 = .ok (.iload_n 1, 1) := dk_27 (byr_X0_flowOf_1 (j := 6) rfl)
theorem dX0_flowOf_23 : decode cX0_flowOf 23 = .ok (.invokevirtual 75, 3) := dk_182 (byr_X0_flowOf_1 (j := 7) rfl) (byr_X0_flowOf_1 (j := 8) rfl) (byr_X0_flowOf_1 (j := 9) rfl) (by decide)
theorem dX0_flowOf_26 : decode cX0_flowOf 26 = .ok (.ireturn, 1) := dk_172 (byr_X0_flowOf_1 (j := 10) rfl)
set_option maxHeartbeats 4000000 in
set_option maxRecDepth 100000 in
theorem c_X0_flowOf (l : Launch) (G : GT) (σ : Sto) (k0 : Nat) (hk0 : K0 k0 = 0) (a1 : Int32) (a2 : Int32) (r : (Int32 × Sto)) (h : f_X0_flowOf σ k0 a1 a2 = some r) : MW l G (5) (136) 0 0 yX0_flowOf cX0_flowOf 3 (Option.some Jvm.ClassFile.FieldType.int) [.ref (gad G k0), .int a1, .int a2] (wl G σ) (some (.int r.1)) (wl G r.2) := by
  refine mw_of RX0 (fiI G) [(0, .ref (gad G k0)), (1, .int a1), (2, .int a2)] (by decide +kernel) rfl (Nat.le_of_ble_eq_true rfl) rfl h rfl (fun p e s m args below meth c X hr hnm => ?_)
  unfold f_X0_flowOf
  refine sm_iload_n X 1 1 dX0_flowOf_0 rfl rfl rfl ?_
  refine sm_iconst X 2 (0) dX0_flowOf_1 rfl rfl ?_
  refine sm_iconst X 3 (5) dX0_flowOf_2 rfl rfl ?_
  refine sm_bind (fun r3 h3 => ?_)
  refine sm_callSN0 X 6 (host := RX8) [.int a1, .int 0, .int 5] [] [.int (b2i r3)] (c_X8_isOutside l G σ a1 (0 : Int32) (5 : Int32) r3 h3) cw_X8_isOutside q_328 (List.mem_of_getElem? (i := 8) rfl) rfl rfl rfl (Nat.le_of_ble_eq_true rfl) ⟨Nat.le_of_ble_eq_true rfl, Nat.le_of_ble_eq_true rfl⟩ ⟨Nat.le_refl _, Nat.le_refl _⟩ dX0_flowOf_3 rfl ?_
  refine sm_ifz_eq X 9 11 dX0_flowOf_6 rfl (by decide) (fun h6 => ?_) (fun h6 => ?_)
  · refine sm_iconst X 10 (0) dX0_flowOf_9 rfl rfl ?_
    exact sm_iret X hr dX0_flowOf_10 rfl
  · refine sm_aload_n X 12 0 dX0_flowOf_11 rfl rfl rfl ?_
    refine sm_getf X 15 (A0 k0 9) hk0 fd_0_9 (fr_0_9 hk0).1 dX0_flowOf_12 rfl q_106 ?_
    refine sm_aload_n X 16 0 dX0_flowOf_15 rfl rfl rfl ?_
    refine sm_getf X 19 (A0 k0 0) hk0 fd_0_0 (fr_0_0 hk0).1 dX0_flowOf_16 rfl q_89 ?_
    refine sm_iload_n X 20 1 dX0_flowOf_19 rfl rfl rfl ?_
    refine sm_iald X 21 ((fr_0_0 hk0).2.1) dX0_flowOf_20 rfl (fun r20 e20 => ?_)
    clear e20
    refine sm_iload_n X 22 2 dX0_flowOf_21 rfl rfl rfl ?_
    refine sm_iload_n X 23 1 dX0_flowOf_22 rfl rfl rfl ?_
    refine sm_bind (fun r23 h23 => ?_)
    refine sm_callV0 X 26 [.int r20, .int a2, .int a1] [] [.int r23.1] (c_X1_give l G σ (A0 k0 9) ((fr_0_9 hk0).2.1) r20 a2 a1 r23 h23) cw_X1_give q_349 q_350 q_348 ((fr_0_9 hk0).2.1) (by decide) rfl rfl rfl rfl rfl (Nat.le_of_ble_eq_true rfl) ⟨Nat.le_of_ble_eq_true rfl, Nat.le_of_ble_eq_true rfl⟩ ⟨Nat.le_refl _, Nat.le_refl _⟩ dX0_flowOf_23 rfl ?_
    exact sm_iret X hr dX0_flowOf_26 rfl
def by_X0_addToTape_0 : List Nat := [3, 54, 4, 21, 4, 29, 162, 0, 52, 42, 180, 0, 58, 42, 180, 0]
def by_X0_addToTape_1 : List Nat := [55, 190, 162, 0, 40, 42, 180, 0, 55, 42, 180, 0, 58, 31, 16, 8]
def by_X0_addToTape_2 : List Nat := [21, 4, 104, 125, 136, 17, 0, 255, 126, 79, 42, 89, 180, 0, 58, 4]
def by_X0_addToTape_z : List Nat := [96, 181, 0, 58, 132, 4, 1, 167, 255, 204, 177]
def by_X0_addToTape : List (List Nat) := [by_X0_addToTape_0, by_X0_addToTape_1, by_X0_addToTape_2]
set_option maxRecDepth 100000 in
theorem byo_X0_addToTape : cX0_addToTape.data.toList.map UInt8.toNat = by_X0_addToTape.flatten ++ by_X0_addToTape_z := by decide +kernel
theorem byl_X0_addToTape : by_X0_addToTape.all (fun r => r.length == 16) = true := by decide +kernel
theorem byr_X0_addToTape_0 {j v : Nat} (h : by_X0_addToTape_0[j]? = some v) : RD cX0_addToTape (0 + j) v := rd_16 byo_X0_addToTape byl_X0_addToTape 0 rfl h
theorem byr_X0_addToTape_1 {j v : Nat} (h : by_X0_addToTape_1[j]? = some v) : RD cX0_addToTape (16 + j) v := rd_16 byo_X0_addToTape byl_X0_addToTape 1 rfl h
theorem byr_X0_addToTape_2 {j v : Nat} (h : by_X0_addToTape_2[j]? = some v) : RD cX0_addToTape (32 + j) v := rd_16 byo_X0_addToTape byl_X0_addToTape 2 rfl h
theorem byr_X0_addToTape_3 {j v : Nat} (h : by_X0_addToTape_z[j]? = some v) : RD cX0_addToTape (48 + j) v := rd_z byo_X0_addToTape byl_X0_addToTape 3 rfl h
theorem dX0_addToTape_0 : decode cX0_addToTape 0 = .ok (.iconst 0, 1) := dk_3 (byr_X0_addToTape_0 (j := 0) rfl)
theorem dX0_addToTape_1 : decode cX0_addToTape 1 = .ok (.istore 4, 2) := dk_54 (byr_X0_addToTape_0 (j := 1) rfl) (byr_X0_addToTape_0 (j := 2) rfl)
theorem dX0_addToTape_3 : decode cX0_addToTape 3 = .ok (.iload 4, 2) := dk_21 (byr_X0_addToTape_0 (j := 3) rfl) (byr_X0_addToTape_0 (j := 4) rfl)
theorem dX0_addToTape_5 : decode cX0_addToTape 5 = .ok (.iload_n 3, 1) := dk_29 (byr_X0_addToTape_0 (j := 5) rfl)
theorem dX0_addToTape_6 : decode cX0_addToTape 6 = .ok (.if_icmp .ge 52, 3) := dk_162 (byr_X0_addToTape_0 (j := 6) rfl) (byr_X0_addToTape_0 (j := 7) rfl) (byr_X0_addToTape_0 (j := 8) rfl) (by decide)
theorem dX0_addToTape_9 : decode cX0_addToTape 9 = .ok (.aload_n 0, 1) := dk_42 (byr_X0_addToTape_0 (j := 9) rfl)
theorem dX0_addToTape_10 : decode cX0_addToTape 10 = .ok (.getfield 58, 3) := dk_180 (byr_X0_addToTape_0 (j := 10) rfl) (byr_X0_addToTape_0 (j := 11) rfl) (byr_X0_addToTape_0 (j := 12) rfl) (by decide)
theorem dX0_addToTape_13 : decode cX0_addToTape 13 = .ok (.aload_n 0, 1) := dk_42 (byr_X0_addToTape_0 (j := 13) rfl)
theorem dX0_addToTape_14 : decode cX0_addToTape 14 = .ok (.getfield 55, 3) := dk_180 (byr_X0_addToTape_0 (j := 14) rfl) (byr_X0_addToTape_0 (j := 15) rfl) (byr_X0_addToTape_1 (j := 0) rfl) (by decide)
theorem dX0_addToTape_17 : decode cX0_addToTape 17 = .ok (.arraylength, 1) := dk_190 (byr_X0_addToTape_1 (j := 1) rfl)
theorem dX0_addToTape_18 : decode cX0_addToTape 18 = .ok (.if_icmp .ge 40, 3) := dk_162 (byr_X0_addToTape_1 (j := 2) rfl) (byr_X0_addToTape_1 (j := 3) rfl) (byr_X0_addToTape_1 (j := 4) rfl) (by decide)
theorem dX0_addToTape_21 : decode cX0_addToTape 21 = .ok (.aload_n 0, 1) := dk_42 (byr_X0_addToTape_1 (j := 5) rfl)
theorem dX0_addToTape_22 : decode cX0_addToTape 22 = .ok (.getfield 55, 3) := dk_180 (byr_X0_addToTape_1 (j := 6) rfl) (byr_X0_addToTape_1 (j := 7) rfl) (byr_X0_addToTape_1 (j := 8) rfl) (by decide)
theorem dX0_addToTape_25 : decode cX0_addToTape 25 = .ok (.aload_n 0, 1) := dk_42 (byr_X0_addToTape_1 (j := 9) rfl)
theorem dX0_addToTape_26 : decode cX0_addToTape 26 = .ok (.getfield 58, 3) := dk_180 (byr_X0_addToTape_1 (j := 10) rfl) (byr_X0_addToTape_1 (j := 11) rfl) (byr_X0_addToTape_1 (j := 12) rfl) (by decide)
theorem dX0_addToTape_29 : decode cX0_addToTape 29 = .ok (.lload_n 1, 1) := dk_31 (byr_X0_addToTape_1 (j := 13) rfl)
theorem dX0_addToTape_30 : decode cX0_addToTape 30 = .ok (.bipush 8, 2) := dk_16 (byr_X0_addToTape_1 (j := 14) rfl) (byr_X0_addToTape_1 (j := 15) rfl) (by decide)
theorem dX0_addToTape_32 : decode cX0_addToTape 32 = .ok (.iload 4, 2) := dk_21 (byr_X0_addToTape_2 (j := 0) rfl) (byr_X0_addToTape_2 (j := 1) rfl)
theorem dX0_addToTape_34 : decode cX0_addToTape 34 = .ok (.imul, 1) := dk_104 (byr_X0_addToTape_2 (j := 2) rfl)
theorem dX0_addToTape_35 : decode cX0_addToTape 35 = .ok (.lushr, 1) := dk_125 (byr_X0_addToTape_2 (j := 3) rfl)
theorem dX0_addToTape_36 : decode cX0_addToTape 36 = .ok (.l2i, 1) := dk_136 (byr_X0_addToTape_2 (j := 4) rfl)
theorem dX0_addToTape_37 : decode cX0_addToTape 37 = .ok (.sipush 255, 3) := dk_17 (byr_X0_addToTape_2 (j := 5) rfl) (byr_X0_addToTape_2 (j := 6) rfl) (byr_X0_addToTape_2 (j := 7) rfl) (by decide)
theorem dX0_addToTape_40 : decode cX0_addToTape 40 = .ok (.iand, 1) := dk_126 (byr_X0_addToTape_2 (j := 8) rfl)
theorem dX0_addToTape_41 : decode cX0_addToTape 41 = .ok (.iastore, 1) := dk_79 (byr_X0_addToTape_2 (j := 9) rfl)
theorem dX0_addToTape_42 : decode cX0_addToTape 42 = .ok (.aload_n 0, 1) := dk_42 (byr_X0_addToTape_2 (j := 10) rfl)
theorem dX0_addToTape_43 : decode cX0_addToTape 43 = .ok (.dup, 1) := dk_89 (byr_X0_addToTape_2 (j := 11) rfl)
theorem dX0_addToTape_44 : decode cX0_addToTape 44 = .ok (.getfield 58, 3) := dk_180 (byr_X0_addToTape_2 (j := 12) rfl) (byr_X0_addToTape_2 (j := 13) rfl) (byr_X0_addToTape_2 (j := 14) rfl) (by decide)
theorem dX0_addToTape_47 : decode cX0_addToTape 47 = .ok (.iconst 1, 1) := dk_4 (byr_X0_addToTape_2 (j := 15) rfl)
theorem dX0_addToTape_48 : decode cX0_addToTape 48 = .ok (.iadd, 1) := dk_96 (byr_X0_addToTape_3 (j := 0) rfl)
theorem dX0_addToTape_49 : decode cX0_addToTape 49 = .ok (.putfield 58, 3) := dk_181 (byr_X0_addToTape_3 (j := 1) rfl) (byr_X0_addToTape_3 (j := 2) rfl) (byr_X0_addToTape_3 (j := 3) rfl) (by decide)
theorem dX0_addToTape_52 : decode cX0_addToTape 52 = .ok (.iinc 4 1, 3) := dk_132 (byr_X0_addToTape_3 (j := 4) rfl) (byr_X0_addToTape_3 (j := 5) rfl) (byr_X0_addToTape_3 (j := 6) rfl) (by decide)
theorem dX0_addToTape_55 : decode cX0_addToTape 55 = .ok (.goto (-52), 3) := dk_167 (byr_X0_addToTape_3 (j := 7) rfl) (byr_X0_addToTape_3 (j := 8) rfl) (byr_X0_addToTape_3 (j := 9) rfl) (by decide)
theorem dX0_addToTape_58 : decode cX0_addToTape 58 = .ok (.return_, 1) := dk_177 (byr_X0_addToTape_3 (j := 10) rfl)
set_option maxHeartbeats 4000000 in
set_option maxRecDepth 100000 in
theorem c_X0_addToTape (l : Launch) (G : GT) (σ : Sto) (k0 : Nat) (hk0 : K0 k0 = 0) (a1 : Int64) (a3 : Int32) (r : Sto) (h : f_X0_addToTape σ k0 a1 a3 = some r) : MW l G (2) (64) 0 0 yX0_addToTape cX0_addToTape 5 (Option.none : Option Jvm.ClassFile.FieldType) [.ref (gad G k0), .long a1, .int a3] (wl G σ) (none) (wl G r) := by
  refine mw_of RX0 (fiV G) [(0, .ref (gad G k0)), (1, .long a1), (3, .int a3)] (by decide +kernel) rfl (Nat.le_of_ble_eq_true rfl) rfl h rfl (fun p e s m args below meth c X hr hnm => ?_)
  have J3 : ∀ (k0 : Nat) (hk0 : K0 k0 = 0) (v1 : Int64) (v3 : Int32)  (n : Nat) (v4 : Int32) (σ : Sto), Sm p l e { frames := 2, cells := 0, slots := 0, locals := 64 } s m args below meth c G 5 (Qm below args s G 0 0 (fiV G)) 0 0 (wl G σ) 3 [(0, .ref (gad G k0)), (1, .long v1), (3, .int v3), (4, .int v4)] [] (f_X0_addToTape_L3  k0 v1 v3 n v4 σ) := by
    intro k0 hk0 v1 v3 n
    induction n with
    | zero => intro v4 σ; rw [f_X0_addToTape_L3]; exact sm_none
    | succ n ihl =>
      intro v4 σ
      rw [f_X0_addToTape_L3]
      refine sm_iload X 5 3 dX0_addToTape_3 rfl rfl ?_
      refine sm_iload_n X 6 2 dX0_addToTape_5 rfl rfl rfl ?_
      refine sm_icmp_ge X 9 58 dX0_addToTape_6 rfl (by decide) (fun h6 => ?_) (fun h6 => ?_)
      · exact sm_vret X hr dX0_addToTape_58 rfl
      · refine sm_aload_n X 10 0 dX0_addToTape_9 rfl rfl rfl ?_
        refine sm_geti X 13 hk0 fd_0_12 dX0_addToTape_10 rfl q_110 ?_
        refine sm_aload_n X 14 0 dX0_addToTape_13 rfl rfl rfl ?_
        refine sm_getf X 17 (A0 k0 11) hk0 fd_0_11 (fr_0_11 hk0).1 dX0_addToTape_14 rfl q_108 ?_
        refine sm_alen X 18 50 (Or.inl ((fr_0_11 hk0).2.1)) (by rw [(fr_0_11 hk0).2.2]; rfl) dX0_addToTape_17 rfl ?_
        refine sm_icmp_ge X 21 58 dX0_addToTape_18 rfl (by decide) (fun h18 => ?_) (fun h18 => ?_)
        · exact sm_vret X hr dX0_addToTape_58 rfl
        · refine sm_aload_n X 22 0 dX0_addToTape_21 rfl rfl rfl ?_
          refine sm_getf X 25 (A0 k0 11) hk0 fd_0_11 (fr_0_11 hk0).1 dX0_addToTape_22 rfl q_108 ?_
          refine sm_aload_n X 26 0 dX0_addToTape_25 rfl rfl rfl ?_
          refine sm_geti X 29 hk0 fd_0_12 dX0_addToTape_26 rfl q_110 ?_
          refine sm_lload_n X 30 1 dX0_addToTape_29 rfl rfl rfl ?_
          refine sm_bipush X 32 (8) dX0_addToTape_30 rfl rfl ?_
          refine sm_iload X 34 3 dX0_addToTape_32 rfl rfl ?_
          refine sm_imul X 35 dX0_addToTape_34 rfl ?_
          refine sm_lushr X 36 dX0_addToTape_35 rfl ?_
          refine sm_l2i X 37 dX0_addToTape_36 rfl ?_
          refine sm_sipush X 40 (255) dX0_addToTape_37 rfl rfl ?_
          refine sm_iand X 41 dX0_addToTape_40 rfl ?_
          refine sm_iast X 42 ((fr_0_11 hk0).2.1) dX0_addToTape_41 rfl (fun σ41 e41 => ?_)
          clear e41
          refine sm_aload_n X 43 0 dX0_addToTape_42 rfl rfl rfl ?_
          refine sm_dup X 44 dX0_addToTape_43 rfl rfl ?_
          refine sm_geti X 47 hk0 fd_0_12 dX0_addToTape_44 rfl q_110 ?_
          refine sm_iconst X 48 (1) dX0_addToTape_47 rfl rfl ?_
          refine sm_iadd X 49 dX0_addToTape_48 rfl ?_
          refine sm_puti X 52 .int hk0 fd_0_12 (by decide) rfl rfl rfl dX0_addToTape_49 rfl q_110 (fun σ49 e49 => ?_)
          clear e49
          refine sm_iinc X 55 3 (1 : Int32) [(4, .int (v4 + (1 : Int32))), (0, .ref (gad G k0)), (1, .long v1), (3, .int v3)] dX0_addToTape_52 rfl rfl rfl (by decide) rfl ?_
          refine sm_goto X 3 dX0_addToTape_55 (by decide) ?_
          exact sm_sub [1, 2, 3, 0] rfl (ihl (v4 + (1 : Int32)) σ49)
  unfold f_X0_addToTape
  refine sm_iconst X 1 (0) dX0_addToTape_0 rfl rfl ?_
  refine sm_istore X 3 [(4, .int 0), (0, .ref (gad G k0)), (1, .long a1), (3, .int a3)] dX0_addToTape_1 rfl (by decide) rfl ?_
  exact sm_sub [1, 2, 3, 0] rfl (J3 k0 hk0 a1 a3  FU (0 : Int32) σ)
def by_X0_draw_0 : List Nat := [42, 42, 180, 0, 67, 18, 79, 104, 17, 48, 57, 96, 181, 0, 67, 42]
def by_X0_draw_z : List Nat := [180, 0, 67, 16, 8, 124, 172]
def by_X0_draw : List (List Nat) := [by_X0_draw_0]
set_option maxRecDepth 100000 in
theorem byo_X0_draw : cX0_draw.data.toList.map UInt8.toNat = by_X0_draw.flatten ++ by_X0_draw_z := by decide +kernel
theorem byl_X0_draw : by_X0_draw.all (fun r => r.length == 16) = true := by decide +kernel
theorem byr_X0_draw_0 {j v : Nat} (h : by_X0_draw_0[j]? = some v) : RD cX0_draw (0 + j) v := rd_16 byo_X0_draw byl_X0_draw 0 rfl h
theorem byr_X0_draw_1 {j v : Nat} (h : by_X0_draw_z[j]? = some v) : RD cX0_draw (16 + j) v := rd_z byo_X0_draw byl_X0_draw 1 rfl h
theorem dX0_draw_0 : decode cX0_draw 0 = .ok (.aload_n 0, 1) := dk_42 (byr_X0_draw_0 (j := 0) rfl)
theorem dX0_draw_1 : decode cX0_draw 1 = .ok (.aload_n 0, 1) := dk_42 (byr_X0_draw_0 (j := 1) rfl)
theorem dX0_draw_2 : decode cX0_draw 2 = .ok (.getfield 67, 3) := dk_180 (byr_X0_draw_0 (j := 2) rfl) (byr_X0_draw_0 (j := 3) rfl) (byr_X0_draw_0 (j := 4) rfl) (by decide)
theorem dX0_draw_5 : decode cX0_draw 5 = .ok (.ldc 79, 2) := dk_18 (byr_X0_draw_0 (j := 5) rfl) (byr_X0_draw_0 (j := 6) rfl)
theorem dX0_draw_7 : decode cX0_draw 7 = .ok (.imul, 1) := dk_104 (byr_X0_draw_0 (j := 7) rfl)
theorem dX0_draw_8 : decode cX0_draw 8 = .ok (.sipush 12345, 3) := dk_17 (byr_X0_draw_0 (j := 8) rfl) (byr_X0_draw_0 (j := 9) rfl) (byr_X0_draw_0 (j := 10) rfl) (by decide)
theorem dX0_draw_11 : decode cX0_draw 11 = .ok (.iadd, 1) := dk_96 (byr_X0_draw_0 (j := 11) rfl)
theorem dX0_draw_12 : decode cX0_draw 12 = .ok (.putfield 67, 3) := dk_181 (byr_X0_draw_0 (j := 12) rfl) (byr_X0_draw_0 (j := 13) rfl) (byr_X0_draw_0 (j := 14) rfl) (by decide)
theorem dX0_draw_15 : decode cX0_draw 15 = .ok (.aload_n 0, 1) := dk_42 (byr_X0_draw_0 (j := 15) rfl)
theorem dX0_draw_16 : decode cX0_draw 16 = .ok (.getfield 67, 3) := dk_180 (byr_X0_draw_1 (j := 0) rfl) (byr_X0_draw_1 (j := 1) rfl) (byr_X0_draw_1 (j := 2) rfl) (by decide)
theorem dX0_draw_19 : decode cX0_draw 19 = .ok (.bipush 8, 2) := dk_16 (byr_X0_draw_1 (j := 3) rfl) (byr_X0_draw_1 (j := 4) rfl) (by decide)
theorem dX0_draw_21 : decode cX0_draw 21 = .ok (.iushr, 1) := dk_124 (byr_X0_draw_1 (j := 5) rfl)
theorem dX0_draw_22 : decode cX0_draw 22 = .ok (.ireturn, 1) := dk_172 (byr_X0_draw_1 (j := 6) rfl)
set_option maxHeartbeats 4000000 in
set_option maxRecDepth 100000 in
theorem c_X0_draw (l : Launch) (G : GT) (σ : Sto) (k0 : Nat) (hk0 : K0 k0 = 0) (r : (Int32 × Sto)) (h : f_X0_draw σ k0 = some r) : MW l G (2) (64) 0 0 yX0_draw cX0_draw 1 (Option.some Jvm.ClassFile.FieldType.int) [.ref (gad G k0)] (wl G σ) (some (.int r.1)) (wl G r.2) := by
  refine mw_of RX0 (fiI G) [(0, .ref (gad G k0))] (by decide +kernel) rfl (Nat.le_of_ble_eq_true rfl) rfl h rfl (fun p e s m args below meth c X hr hnm => ?_)
  unfold f_X0_draw
  refine sm_aload_n X 1 0 dX0_draw_0 rfl rfl rfl ?_
  refine sm_aload_n X 2 0 dX0_draw_1 rfl rfl rfl ?_
  refine sm_geti X 5 hk0 fd_0_15 dX0_draw_2 rfl q_116 ?_
  refine sm_ldc X 7 (1103515245) dX0_draw_5 rfl q_676 ?_
  refine sm_imul X 8 dX0_draw_7 rfl ?_
  refine sm_sipush X 11 (12345) dX0_draw_8 rfl rfl ?_
  refine sm_iadd X 12 dX0_draw_11 rfl ?_
  refine sm_puti X 15 .int hk0 fd_0_15 (by decide) rfl rfl rfl dX0_draw_12 rfl q_116 (fun σ12 e12 => ?_)
  clear e12
  refine sm_aload_n X 16 0 dX0_draw_15 rfl rfl rfl ?_
  refine sm_geti X 19 hk0 fd_0_15 dX0_draw_16 rfl q_116 ?_
  refine sm_bipush X 21 (8) dX0_draw_19 rfl rfl ?_
  refine sm_iushr X 22 dX0_draw_21 rfl ?_
  exact sm_iret X hr dX0_draw_22 rfl
def by_X0_share_0 : List Nat := [42, 180, 0, 52, 42, 180, 0, 22, 42, 180, 0, 25, 42, 180, 0, 15]
def by_X0_share_1 : List Nat := [182, 0, 75, 60, 42, 18, 80, 42, 180, 0, 28, 27, 96, 184, 0, 81]
def by_X0_share_2 : List Nat := [181, 0, 28, 42, 18, 80, 42, 180, 0, 31, 16, 100, 96, 27, 100, 184]
def by_X0_share_z : List Nat := [0, 81, 181, 0, 31, 177]
def by_X0_share : List (List Nat) := [by_X0_share_0, by_X0_share_1, by_X0_share_2]
set_option maxRecDepth 100000 in
theorem byo_X0_share : cX0_share.data.toList.map UInt8.toNat = by_X0_share.flatten ++ by_X0_share_z := by decide +kernel
theorem byl_X0_share : by_X0_share.all (fun r => r.length == 16) = true := by decide +kernel
theorem byr_X0_share_0 {j v : Nat} (h : by_X0_share_0[j]? = some v) : RD cX0_share (0 + j) v := rd_16 byo_X0_share byl_X0_share 0 rfl h
theorem byr_X0_share_1 {j v : Nat} (h : by_X0_share_1[j]? = some v) : RD cX0_share (16 + j) v := rd_16 byo_X0_share byl_X0_share 1 rfl h
theorem byr_X0_share_2 {j v : Nat} (h : by_X0_share_2[j]? = some v) : RD cX0_share (32 + j) v := rd_16 byo_X0_share byl_X0_share 2 rfl h
theorem byr_X0_share_3 {j v : Nat} (h : by_X0_share_z[j]? = some v) : RD cX0_share (48 + j) v := rd_z byo_X0_share byl_X0_share 3 rfl h
theorem dX0_share_0 : decode cX0_share 0 = .ok (.aload_n 0, 1) := dk_42 (byr_X0_share_0 (j := 0) rfl)
theorem dX0_share_1 : decode cX0_share 1 = .ok (.getfield 52, 3) := dk_180 (byr_X0_share_0 (j := 1) rfl) (byr_X0_share_0 (j := 2) rfl) (byr_X0_share_0 (j := 3) rfl) (by decide)
theorem dX0_share_4 : decode cX0_share 4 = .ok (.aload_n 0, 1) := dk_42 (byr_X0_share_0 (j := 4) rfl)
theorem dX0_share_5 : decode cX0_share 5 = .ok (.getfield 22, 3) := dk_180 (byr_X0_share_0 (j := 5) rfl) (byr_X0_share_0 (j := 6) rfl) (byr_X0_share_0 (j := 7) rfl) (by decide)
theorem dX0_share_8 : decode cX0_share 8 = .ok (.aload_n 0, 1) := dk_42 (byr_X0_share_0 (j := 8) rfl)
theorem dX0_share_9 : decode cX0_share 9 = .ok (.getfield 25, 3) := dk_180 (byr_X0_share_0 (j := 9) rfl) (byr_X0_share_0 (j := 10) rfl) (byr_X0_share_0 (j := 11) rfl) (by decide)
theorem dX0_share_12 : decode cX0_share 12 = .ok (.aload_n 0, 1) := dk_42 (byr_X0_share_0 (j := 12) rfl)
theorem dX0_share_13 : decode cX0_share 13 = .ok (.getfield 15, 3) := dk_180 (byr_X0_share_0 (j := 13) rfl) (byr_X0_share_0 (j := 14) rfl) (byr_X0_share_0 (j := 15) rfl) (by decide)
theorem dX0_share_16 : decode cX0_share 16 = .ok (.invokevirtual 75, 3) := dk_182 (byr_X0_share_1 (j := 0) rfl) (byr_X0_share_1 (j := 1) rfl) (byr_X0_share_1 (j := 2) rfl) (by decide)
theorem dX0_share_19 : decode cX0_share 19 = .ok (.istore_n 1, 1) := dk_60 (byr_X0_share_1 (j := 3) rfl)
theorem dX0_share_20 : decode cX0_share 20 = .ok (.aload_n 0, 1) := dk_42 (byr_X0_share_1 (j := 4) rfl)
theorem dX0_share_21 : decode cX0_share 21 = .ok (.ldc 80, 2) := dk_18 (byr_X0_share_1 (j := 5) rfl) (byr_X0_share_1 (j := 6) rfl)
theorem dX0_share_23 : decode cX0_share 23 = .ok (.aload_n 0, 1) := dk_42 (byr_X0_share_1 (j := 7) rfl)
theorem dX0_share_24 : decode cX0_share 24 = .ok (.getfield 28, 3) := dk_180 (byr_X0_share_1 (j := 8) rfl) (byr_X0_share_1 (j := 9) rfl) (byr_X0_share_1 (j := 10) rfl) (by decide)
theorem dX0_share_27 : decode cX0_share 27 = .ok (.iload_n 1, 1) := dk_27 (byr_X0_share_1 (j := 11) rfl)
theorem dX0_share_28 : decode cX0_share 28 = .ok (.iadd, 1) := dk_96 (byr_X0_share_1 (j := 12) rfl)
theorem dX0_share_29 : decode cX0_share 29 = .ok (.invokestatic 81, 3) := dk_184 (byr_X0_share_1 (j := 13) rfl) (byr_X0_share_1 (j := 14) rfl) (byr_X0_share_1 (j := 15) rfl) (by decide)
theorem dX0_share_32 : decode cX0_share 32 = .ok (.putfield 28, 3) := dk_181 (byr_X0_share_2 (j := 0) rfl) (byr_X0_share_2 (j := 1) rfl) (byr_X0_share_2 (j := 2) rfl) (by decide)
theorem dX0_share_35 : decode cX0_share 35 = .ok (.aload_n 0, 1) := dk_42 (byr_X0_share_2 (j := 3) rfl)
theorem dX0_share_36 : decode cX0_share 36 = .ok (.ldc 80, 2) := dk_18 (byr_X0_share_2 (j := 4) rfl) (byr_X0_share_2 (j := 5) rfl)
theorem dX0_share_38 : decode cX0_share 38 = .ok (.aload_n 0, 1) := dk_42 (byr_X0_share_2 (j := 6) rfl)
theorem dX0_share_39 : decode cX0_share 39 = .ok (.getfield 31, 3) := dk_180 (byr_X0_share_2 (j := 7) rfl) (byr_X0_share_2 (j := 8) rfl) (byr_X0_share_2 (j := 9) rfl) (by decide)
theorem dX0_share_42 : decode cX0_share 42 = .ok (.bipush 100, 2) := dk_16 (byr_X0_share_2 (j := 10) rfl) (byr_X0_share_2 (j := 11) rfl) (by decide)
theorem dX0_share_44 : decode cX0_share 44 = .ok (.iadd, 1) := dk_96 (byr_X0_share_2 (j := 12) rfl)
theorem dX0_share_45 : decode cX0_share 45 = .ok (.iload_n 1, 1) := dk_27 (byr_X0_share_2 (j := 13) rfl)
theorem dX0_share_46 : decode cX0_share 46 = .ok (.isub, 1) := dk_100 (byr_X0_share_2 (j := 14) rfl)
theorem dX0_share_47 : decode cX0_share 47 = .ok (.invokestatic 81, 3) := dk_184 (byr_X0_share_2 (j := 15) rfl) (byr_X0_share_3 (j := 0) rfl) (byr_X0_share_3 (j := 1) rfl) (by decide)
theorem dX0_share_50 : decode cX0_share 50 = .ok (.putfield 31, 3) := dk_181 (byr_X0_share_3 (j := 2) rfl) (byr_X0_share_3 (j := 3) rfl) (byr_X0_share_3 (j := 4) rfl) (by decide)
theorem dX0_share_53 : decode cX0_share 53 = .ok (.return_, 1) := dk_177 (byr_X0_share_3 (j := 5) rfl)
set_option maxHeartbeats 4000000 in
set_option maxRecDepth 100000 in
theorem c_X0_share (l : Launch) (G : GT) (σ : Sto) (k0 : Nat) (hk0 : K0 k0 = 0) (r : Sto) (h : f_X0_share σ k0 = some r) : MW l G (5) (136) 0 0 yX0_share cX0_share 2 (Option.none : Option Jvm.ClassFile.FieldType) [.ref (gad G k0)] (wl G σ) (none) (wl G r) := by
  refine mw_of RX0 (fiV G) [(0, .ref (gad G k0))] (by decide +kernel) rfl (Nat.le_of_ble_eq_true rfl) rfl h rfl (fun p e s m args below meth c X hr hnm => ?_)
  unfold f_X0_share
  refine sm_aload_n X 1 0 dX0_share_0 rfl rfl rfl ?_
  refine sm_getf X 4 (A0 k0 10) hk0 fd_0_10 (fr_0_10 hk0).1 dX0_share_1 rfl q_107 ?_
  refine sm_aload_n X 5 0 dX0_share_4 rfl rfl rfl ?_
  refine sm_geti X 8 hk0 fd_0_3 dX0_share_5 rfl q_95 ?_
  refine sm_aload_n X 9 0 dX0_share_8 rfl rfl rfl ?_
  refine sm_geti X 12 hk0 fd_0_4 dX0_share_9 rfl q_97 ?_
  refine sm_aload_n X 13 0 dX0_share_12 rfl rfl rfl ?_
  refine sm_geti X 16 hk0 fd_0_1 dX0_share_13 rfl q_91 ?_
  refine sm_bind (fun r16 h16 => ?_)
  refine sm_callV0 X 19 [.int (σ.1 k0 3), .int (σ.1 k0 4), .int (σ.1 k0 1)] [] [.int r16.1] (c_X1_give l G σ (A0 k0 10) ((fr_0_10 hk0).2.1) (σ.1 k0 3) (σ.1 k0 4) (σ.1 k0 1) r16 h16) cw_X1_give q_349 q_350 q_348 ((fr_0_10 hk0).2.1) (by decide) rfl rfl rfl rfl rfl (Nat.le_of_ble_eq_true rfl) ⟨Nat.le_of_ble_eq_true rfl, Nat.le_of_ble_eq_true rfl⟩ ⟨Nat.le_refl _, Nat.le_refl _⟩ dX0_share_16 rfl ?_
  refine sm_istore_n X 20 [(1, .int r16.1), (0, .ref (gad G k0))] dX0_share_19 rfl rfl (by decide) rfl ?_
  refine sm_aload_n X 21 1 dX0_share_20 rfl rfl rfl ?_
  refine sm_ldc X 23 (999999) dX0_share_21 rfl q_666 ?_
  refine sm_aload_n X 24 1 dX0_share_23 rfl rfl rfl ?_
  refine sm_geti X 27 hk0 fd_0_5 dX0_share_24 rfl q_99 ?_
  refine sm_iload_n X 28 0 dX0_share_27 rfl rfl rfl ?_
  refine sm_iadd X 29 dX0_share_28 rfl ?_
  refine sm_mmin X 32 dX0_share_29 rfl q_667 q_366 q_367 q_11 ⟨Nat.le_of_ble_eq_true rfl, Nat.le_of_ble_eq_true rfl, Nat.le_refl _, Nat.le_refl _⟩ ?_
  refine sm_puti X 35 .int hk0 fd_0_5 (by decide) rfl rfl rfl dX0_share_32 rfl q_99 (fun σ32 e32 => ?_)
  clear e32
  refine sm_aload_n X 36 1 dX0_share_35 rfl rfl rfl ?_
  refine sm_ldc X 38 (999999) dX0_share_36 rfl q_666 ?_
  refine sm_aload_n X 39 1 dX0_share_38 rfl rfl rfl ?_
  refine sm_geti X 42 hk0 fd_0_6 dX0_share_39 rfl q_101 ?_
  refine sm_bipush X 44 (100) dX0_share_42 rfl rfl ?_
  refine sm_iadd X 45 dX0_share_44 rfl ?_
  refine sm_iload_n X 46 0 dX0_share_45 rfl rfl rfl ?_
  refine sm_isub X 47 dX0_share_46 rfl ?_
  refine sm_mmin X 50 dX0_share_47 rfl q_667 q_366 q_367 q_11 ⟨Nat.le_of_ble_eq_true rfl, Nat.le_of_ble_eq_true rfl, Nat.le_refl _, Nat.le_refl _⟩ ?_
  refine sm_puti X 53 .int hk0 fd_0_6 (by decide) rfl rfl rfl dX0_share_50 rfl q_101 (fun σ50 e50 => ?_)
  clear e50
  exact sm_vret X hr dX0_share_53 rfl
def by_X1_copy_0 : List Nat := [42, 43, 180, 0, 18, 181, 0, 18, 43, 180, 0, 9, 3, 42, 180, 0]
def by_X1_copy_z : List Nat := [9, 3, 16, 50, 184, 0, 31, 177]
def by_X1_copy : List (List Nat) := [by_X1_copy_0]
set_option maxRecDepth 100000 in
theorem byo_X1_copy : cX1_copy.data.toList.map UInt8.toNat = by_X1_copy.flatten ++ by_X1_copy_z := by decide +kernel
theorem byl_X1_copy : by_X1_copy.all (fun r => r.length == 16) = true := by decide +kernel
theorem byr_X1_copy_0 {j v : Nat} (h : by_X1_copy_0[j]? = some v) : RD cX1_copy (0 + j) v := rd_16 byo_X1_copy byl_X1_copy 0 rfl h
theorem byr_X1_copy_1 {j v : Nat} (h : by_X1_copy_z[j]? = some v) : RD cX1_copy (16 + j) v := rd_z byo_X1_copy byl_X1_copy 1 rfl h
theorem dX1_copy_0 : decode cX1_copy 0 = .ok (.aload_n 0, 1) := dk_42 (byr_X1_copy_0 (j := 0) rfl)
theorem dX1_copy_1 : decode cX1_copy 1 = .ok (.aload_n 1, 1) := dk_43 (byr_X1_copy_0 (j := 1) rfl)
theorem dX1_copy_2 : decode cX1_copy 2 = .ok (.getfield 18, 3) := dk_180 (byr_X1_copy_0 (j := 2) rfl) (byr_X1_copy_0 (j := 3) rfl) (byr_X1_copy_0 (j := 4) rfl) (by decide)
theorem dX1_copy_5 : decode cX1_copy 5 = .ok (.putfield 18, 3) := dk_181 (byr_X1_copy_0 (j := 5) rfl) (byr_X1_copy_0 (j := 6) rfl) (byr_X1_copy_0 (j := 7) rfl) (by decide)
theorem dX1_copy_8 : decode cX1_copy 8 = .ok (.aload_n 1, 1) := dk_43 (byr_X1_copy_0 (j := 8) rfl)
theorem dX1_copy_9 : decode cX1_copy 9 = .ok (.getfield 9, 3) := dk_180 (byr_X1_copy_0 (j := 9) rfl) (byr_X1_copy_0 (j := 10) rfl) (byr_X1_copy_0 (j := 11) rfl) (by decide)
theorem dX1_copy_12 : decode cX1_copy 12 = .ok (.iconst 0, 1) := dk_3 (byr_X1_copy_0 (j := 12) rfl)
theorem dX1_copy_13 : decode cX1_copy 13 = .ok (.aload_n 0, 1) := dk_42 (byr_X1_copy_0 (j := 13) rfl)
theorem dX1_copy_14 : decode cX1_copy 14 = .ok (.getfield 9, 3) := dk_180 (byr_X1_copy_0 (j := 14) rfl) (byr_X1_copy_0 (j := 15) rfl) (byr_X1_copy_1 (j := 0) rfl) (by decide)
theorem dX1_copy_17 : decode cX1_copy 17 = .ok (.iconst 0, 1) := dk_3 (byr_X1_copy_1 (j := 1) rfl)
theorem dX1_copy_18 : decode cX1_copy 18 = .ok (.bipush 50, 2) := dk_16 (byr_X1_copy_1 (j := 2) rfl) (byr_X1_copy_1 (j := 3) rfl) (by decide)
theorem dX1_copy_20 : decode cX1_copy 20 = .ok (.invokestatic 31, 3) := dk_184 (byr_X1_copy_1 (j := 4) rfl) (byr_X1_copy_1 (j := 5) rfl) (byr_X1_copy_1 (j := 6) rfl) (by decide)
theorem dX1_copy_23 : decode cX1_copy 23 = .ok (.return_, 1) := dk_177 (byr_X1_copy_1 (j := 7) rfl)
set_option maxHeartbeats 4000000 in
set_option maxRecDepth 100000 in
theorem c_X1_copy (l : Launch) (G : GT) (σ : Sto) (k0 : Nat) (hk0 : K0 k0 = 1) (a1 : Nat) (ha1 : K0 a1 = 1) (r : Sto) (h : f_X1_copy σ k0 a1 = some r) : MW l G (2) (64) 0 0 yX1_copy cX1_copy 2 (Option.none : Option Jvm.ClassFile.FieldType) [.ref (gad G k0), .ref (gad G a1)] (wl G σ) (none) (wl G r) := by
  refine mw_of RX1 (fiV G) [(0, .ref (gad G k0)), (1, .ref (gad G a1))] (by decide +kernel) rfl (Nat.le_of_ble_eq_true rfl) rfl h rfl (fun p e s m args below meth c X hr hnm => ?_)
  unfold f_X1_copy
  refine sm_aload_n X 1 0 dX1_copy_0 rfl rfl rfl ?_
  refine sm_aload_n X 2 1 dX1_copy_1 rfl rfl rfl ?_
  refine sm_geti X 5 ha1 fd_1_3 dX1_copy_2 rfl q_43 ?_
  refine sm_puti X 8 .int hk0 fd_1_3 (by decide) rfl rfl rfl dX1_copy_5 rfl q_43 (fun σ5 e5 => ?_)
  clear e5
  refine sm_aload_n X 9 1 dX1_copy_8 rfl rfl rfl ?_
  refine sm_getf X 12 (A0 a1 1) ha1 fd_1_1 (fr_1_1 ha1).1 dX1_copy_9 rfl q_41 ?_
  refine sm_iconst X 13 (0) dX1_copy_12 rfl rfl ?_
  refine sm_aload_n X 14 0 dX1_copy_13 rfl rfl rfl ?_
  refine sm_getf X 17 (A0 k0 1) hk0 fd_1_1 (fr_1_1 hk0).1 dX1_copy_14 rfl q_41 ?_
  refine sm_iconst X 18 (0) dX1_copy_17 rfl rfl ?_
  refine sm_bipush X 20 (50) dX1_copy_18 rfl rfl ?_
  refine sm_copy X 23 ((fr_1_1 ha1).2.1) ((fr_1_1 hk0).2.1) dX1_copy_20 rfl q_592 q_456 q_455 q_12 ⟨Nat.le_of_ble_eq_true rfl, Nat.le_of_ble_eq_true rfl⟩ (fun σ20 e20 => ?_)
  clear e20
  exact sm_vret X hr dX1_copy_23 rfl
def by_X6_copy_0 : List Nat := [42, 43, 180, 0, 9, 181, 0, 9, 42, 43, 180, 0, 15, 181, 0, 15]
def by_X6_copy_1 : List Nat := [42, 43, 180, 0, 18, 181, 0, 18, 42, 43, 180, 0, 21, 181, 0, 21]
def by_X6_copy_2 : List Nat := [42, 43, 180, 0, 24, 181, 0, 24, 43, 180, 0, 27, 3, 42, 180, 0]
def by_X6_copy_z : List Nat := [27, 3, 7, 184, 0, 38, 177]
def by_X6_copy : List (List Nat) := [by_X6_copy_0, by_X6_copy_1, by_X6_copy_2]
set_option maxRecDepth 100000 in
theorem byo_X6_copy : cX6_copy.data.toList.map UInt8.toNat = by_X6_copy.flatten ++ by_X6_copy_z := by decide +kernel
theorem byl_X6_copy : by_X6_copy.all (fun r => r.length == 16) = true := by decide +kernel
theorem byr_X6_copy_0 {j v : Nat} (h : by_X6_copy_0[j]? = some v) : RD cX6_copy (0 + j) v := rd_16 byo_X6_copy byl_X6_copy 0 rfl h
theorem byr_X6_copy_1 {j v : Nat} (h : by_X6_copy_1[j]? = some v) : RD cX6_copy (16 + j) v := rd_16 byo_X6_copy byl_X6_copy 1 rfl h
theorem byr_X6_copy_2 {j v : Nat} (h : by_X6_copy_2[j]? = some v) : RD cX6_copy (32 + j) v := rd_16 byo_X6_copy byl_X6_copy 2 rfl h
theorem byr_X6_copy_3 {j v : Nat} (h : by_X6_copy_z[j]? = some v) : RD cX6_copy (48 + j) v := rd_z byo_X6_copy byl_X6_copy 3 rfl h
theorem dX6_copy_0 : decode cX6_copy 0 = .ok (.aload_n 0, 1) := dk_42 (byr_X6_copy_0 (j := 0) rfl)
theorem dX6_copy_1 : decode cX6_copy 1 = .ok (.aload_n 1, 1) := dk_43 (byr_X6_copy_0 (j := 1) rfl)
theorem dX6_copy_2 : decode cX6_copy 2 = .ok (.getfield 9, 3) := dk_180 (byr_X6_copy_0 (j := 2) rfl) (byr_X6_copy_0 (j := 3) rfl) (byr_X6_copy_0 (j := 4) rfl) (by decide)
theorem dX6_copy_5 : decode cX6_copy 5 = .ok (.putfield 9, 3) := dk_181 (byr_X6_copy_0 (j := 5) rfl) (byr_X6_copy_0 (j := 6) rfl) (byr_X6_copy_0 (j := 7) rfl) (by decide)
theorem dX6_copy_8 : decode cX6_copy 8 = .ok (.aload_n 0, 1) := dk_42 (byr_X6_copy_0 (j := 8) rfl)
theorem dX6_copy_9 : decode cX6_copy 9 = .ok (.aload_n 1, 1) := dk_43 (byr_X6_copy_0 (j := 9) rfl)
theorem dX6_copy_10 : decode cX6_copy 10 = .ok (.getfield 15, 3) := dk_180 (byr_X6_copy_0 (j := 10) rfl) (byr_X6_copy_0 (j := 11) rfl) (byr_X6_copy_0 (j := 12) rfl) (by decide)
theorem dX6_copy_13 : decode cX6_copy 13 = .ok (.putfield 15, 3) := dk_181 (byr_X6_copy_0 (j := 13) rfl) (byr_X6_copy_0 (j := 14) rfl) (byr_X6_copy_0 (j := 15) rfl) (by decide)
theorem dX6_copy_16 : decode cX6_copy 16 = .ok (.aload_n 0, 1) := dk_42 (byr_X6_copy_1 (j := 0) rfl)
theorem dX6_copy_17 : decode cX6_copy 17 = .ok (.aload_n 1, 1) := dk_43 (byr_X6_copy_1 (j := 1) rfl)
theorem dX6_copy_18 : decode cX6_copy 18 = .ok (.getfield 18, 3) := dk_180 (byr_X6_copy_1 (j := 2) rfl) (byr_X6_copy_1 (j := 3) rfl) (byr_X6_copy_1 (j := 4) rfl) (by decide)
theorem dX6_copy_21 : decode cX6_copy 21 = .ok (.putfield 18, 3) := dk_181 (byr_X6_copy_1 (j := 5) rfl) (byr_X6_copy_1 (j := 6) rfl) (byr_X6_copy_1 (j := 7) rfl) (by decide)
theorem dX6_copy_24 : decode cX6_copy 24 = .ok (.aload_n 0, 1) := dk_42 (byr_X6_copy_1 (j := 8) rfl)
theorem dX6_copy_25 : decode cX6_copy 25 = .ok (.aload_n 1, 1) := dk_43 (byr_X6_copy_1 (j := 9) rfl)
theorem dX6_copy_26 : decode cX6_copy 26 = .ok (.getfield 21, 3) := dk_180 (byr_X6_copy_1 (j := 10) rfl) (byr_X6_copy_1 (j := 11) rfl) (byr_X6_copy_1 (j := 12) rfl) (by decide)
theorem dX6_copy_29 : decode cX6_copy 29 = .ok (.putfield 21, 3) := dk_181 (byr_X6_copy_1 (j := 13) rfl) (byr_X6_copy_1 (j := 14) rfl) (byr_X6_copy_1 (j := 15) rfl) (by decide)
theorem dX6_copy_32 : decode cX6_copy 32 = .ok (.aload_n 0, 1) := dk_42 (byr_X6_copy_2 (j := 0) rfl)
theorem dX6_copy_33 : decode cX6_copy 33 = .ok (.aload_n 1, 1) := dk_43 (byr_X6_copy_2 (j := 1) rfl)
theorem dX6_copy_34 : decode cX6_copy 34 = .ok (.getfield 24, 3) := dk_180 (byr_X6_copy_2 (j := 2) rfl) (byr_X6_copy_2 (j := 3) rfl) (byr_X6_copy_2 (j := 4) rfl) (by decide)
theorem dX6_copy_37 : decode cX6_copy 37 = .ok (.putfield 24, 3) := dk_181 (byr_X6_copy_2 (j := 5) rfl) (byr_X6_copy_2 (j := 6) rfl) (byr_X6_copy_2 (j := 7) rfl) (by decide)
theorem dX6_copy_40 : decode cX6_copy 40 = .ok (.aload_n 1, 1) := dk_43 (byr_X6_copy_2 (j := 8) rfl)
theorem dX6_copy_41 : decode cX6_copy 41 = .ok (.getfield 27, 3) := dk_180 (byr_X6_copy_2 (j := 9) rfl) (byr_X6_copy_2 (j := 10) rfl) (byr_X6_copy_2 (j := 11) rfl) (by decide)
theorem dX6_copy_44 : decode cX6_copy 44 = .ok (.iconst 0, 1) := dk_3 (byr_X6_copy_2 (j := 12) rfl)
theorem dX6_copy_45 : decode cX6_copy 45 = .ok (.aload_n 0, 1) := dk_42 (byr_X6_copy_2 (j := 13) rfl)
theorem dX6_copy_46 : decode cX6_copy 46 = .ok (.getfield 27, 3) := dk_180 (byr_X6_copy_2 (j := 14) rfl) (byr_X6_copy_2 (j := 15) rfl) (byr_X6_copy_3 (j := 0) rfl) (by decide)
theorem dX6_copy_49 : decode cX6_copy 49 = .ok (.iconst 0, 1) := dk_3 (byr_X6_copy_3 (j := 1) rfl)
theorem dX6_copy_50 : decode cX6_copy 50 = .ok (.iconst 4, 1) := dk_7 (byr_X6_copy_3 (j := 2) rfl)
theorem dX6_copy_51 : decode cX6_copy 51 = .ok (.invokestatic 38, 3) := dk_184 (byr_X6_copy_3 (j := 3) rfl) (byr_X6_copy_3 (j := 4) rfl) (byr_X6_copy_3 (j := 5) rfl) (by decide)
theorem dX6_copy_54 : decode cX6_copy 54 = .ok (.return_, 1) := dk_177 (byr_X6_copy_3 (j := 6) rfl)
set_option maxHeartbeats 4000000 in
set_option maxRecDepth 100000 in
theorem c_X6_copy (l : Launch) (G : GT) (σ : Sto) (k0 : Nat) (hk0 : K0 k0 = 6) (a1 : Nat) (ha1 : K0 a1 = 6) (r : Sto) (h : f_X6_copy σ k0 a1 = some r) : MW l G (2) (64) 0 0 yX6_copy cX6_copy 2 (Option.none : Option Jvm.ClassFile.FieldType) [.ref (gad G k0), .ref (gad G a1)] (wl G σ) (none) (wl G r) := by
  refine mw_of RX6 (fiV G) [(0, .ref (gad G k0)), (1, .ref (gad G a1))] (by decide +kernel) rfl (Nat.le_of_ble_eq_true rfl) rfl h rfl (fun p e s m args below meth c X hr hnm => ?_)
  unfold f_X6_copy
  refine sm_aload_n X 1 0 dX6_copy_0 rfl rfl rfl ?_
  refine sm_aload_n X 2 1 dX6_copy_1 rfl rfl rfl ?_
  refine sm_geti X 5 ha1 fd_6_0 dX6_copy_2 rfl q_59 ?_
  refine sm_puti X 8 .int hk0 fd_6_0 (by decide) rfl rfl rfl dX6_copy_5 rfl q_59 (fun σ5 e5 => ?_)
  clear e5
  refine sm_aload_n X 9 0 dX6_copy_8 rfl rfl rfl ?_
  refine sm_aload_n X 10 1 dX6_copy_9 rfl rfl rfl ?_
  refine sm_geti X 13 ha1 fd_6_1 dX6_copy_10 rfl q_62 ?_
  refine sm_puti X 16 .int hk0 fd_6_1 (by decide) rfl rfl rfl dX6_copy_13 rfl q_62 (fun σ13 e13 => ?_)
  clear e13
  refine sm_aload_n X 17 0 dX6_copy_16 rfl rfl rfl ?_
  refine sm_aload_n X 18 1 dX6_copy_17 rfl rfl rfl ?_
  refine sm_geti X 21 ha1 fd_6_2 dX6_copy_18 rfl q_65 ?_
  refine sm_puti X 24 .int hk0 fd_6_2 (by decide) rfl rfl rfl dX6_copy_21 rfl q_65 (fun σ21 e21 => ?_)
  clear e21
  refine sm_aload_n X 25 0 dX6_copy_24 rfl rfl rfl ?_
  refine sm_aload_n X 26 1 dX6_copy_25 rfl rfl rfl ?_
  refine sm_geti X 29 ha1 fd_6_3 dX6_copy_26 rfl q_69 ?_
  refine sm_puti X 32 .int hk0 fd_6_3 (by decide) rfl rfl rfl dX6_copy_29 rfl q_69 (fun σ29 e29 => ?_)
  clear e29
  refine sm_aload_n X 33 0 dX6_copy_32 rfl rfl rfl ?_
  refine sm_aload_n X 34 1 dX6_copy_33 rfl rfl rfl ?_
  refine sm_geti X 37 ha1 fd_6_4 dX6_copy_34 rfl q_71 ?_
  refine sm_puti X 40 .int hk0 fd_6_4 (by decide) rfl rfl rfl dX6_copy_37 rfl q_71 (fun σ37 e37 => ?_)
  clear e37
  refine sm_aload_n X 41 1 dX6_copy_40 rfl rfl rfl ?_
  refine sm_getf X 44 (A0 a1 5) ha1 fd_6_5 (fr_6_5 ha1).1 dX6_copy_41 rfl q_73 ?_
  refine sm_iconst X 45 (0) dX6_copy_44 rfl rfl ?_
  refine sm_aload_n X 46 0 dX6_copy_45 rfl rfl rfl ?_
  refine sm_getf X 49 (A0 k0 5) hk0 fd_6_5 (fr_6_5 hk0).1 dX6_copy_46 rfl q_73 ?_
  refine sm_iconst X 50 (0) dX6_copy_49 rfl rfl ?_
  refine sm_iconst X 51 (4) dX6_copy_50 rfl rfl ?_
  refine sm_copy X 54 ((fr_6_5 ha1).2.1) ((fr_6_5 hk0).2.1) dX6_copy_51 rfl q_689 q_456 q_455 q_12 ⟨Nat.le_of_ble_eq_true rfl, Nat.le_of_ble_eq_true rfl⟩ (fun σ51 e51 => ?_)
  clear e51
  exact sm_vret X hr dX6_copy_54 rfl
def by_X0_copy_0 : List Nat := [42, 43, 180, 0, 15, 181, 0, 15, 42, 43, 180, 0, 19, 181, 0, 19]
def by_X0_copy_1 : List Nat := [42, 43, 180, 0, 22, 181, 0, 22, 42, 43, 180, 0, 25, 181, 0, 25]
def by_X0_copy_2 : List Nat := [42, 43, 180, 0, 28, 181, 0, 28, 42, 43, 180, 0, 31, 181, 0, 31]
def by_X0_copy_3 : List Nat := [42, 43, 180, 0, 40, 181, 0, 40, 42, 43, 180, 0, 58, 181, 0, 58]
def by_X0_copy_4 : List Nat := [42, 43, 180, 0, 64, 181, 0, 64, 42, 43, 180, 0, 67, 181, 0, 67]
def by_X0_copy_5 : List Nat := [42, 180, 0, 48, 43, 180, 0, 48, 182, 0, 87, 42, 180, 0, 52, 43]
def by_X0_copy_6 : List Nat := [180, 0, 52, 182, 0, 87, 43, 180, 0, 9, 3, 42, 180, 0, 9, 3]
def by_X0_copy_7 : List Nat := [16, 6, 184, 0, 91, 43, 180, 0, 55, 3, 42, 180, 0, 55, 3, 16]
def by_X0_copy_8 : List Nat := [50, 184, 0, 91, 43, 180, 0, 61, 3, 42, 180, 0, 61, 3, 16, 20]
def by_X0_copy_9 : List Nat := [184, 0, 91, 3, 61, 28, 42, 180, 0, 40, 162, 0, 37, 42, 28, 182]
def by_X0_copy_10 : List Nat := [0, 97, 78, 43, 28, 182, 0, 97, 58, 4, 45, 198, 0, 14, 25, 4]
def by_X0_copy_11 : List Nat := [198, 0, 9, 45, 25, 4, 182, 0, 101, 132, 2, 1, 167, 255, 217, 177]
def by_X0_copy_z : List Nat := []
def by_X0_copy : List (List Nat) := [by_X0_copy_0, by_X0_copy_1, by_X0_copy_2, by_X0_copy_3, by_X0_copy_4, by_X0_copy_5, by_X0_copy_6, by_X0_copy_7, by_X0_copy_8, by_X0_copy_9, by_X0_copy_10, by_X0_copy_11]
set_option maxRecDepth 100000 in
theorem byo_X0_copy : cX0_copy.data.toList.map UInt8.toNat = by_X0_copy.flatten ++ by_X0_copy_z := by decide +kernel
theorem byl_X0_copy : by_X0_copy.all (fun r => r.length == 16) = true := by decide +kernel
theorem byr_X0_copy_0 {j v : Nat} (h : by_X0_copy_0[j]? = some v) : RD cX0_copy (0 + j) v := rd_16 byo_X0_copy byl_X0_copy 0 rfl h
theorem byr_X0_copy_1 {j v : Nat} (h : by_X0_copy_1[j]? = some v) : RD cX0_copy (16 + j) v := rd_16 byo_X0_copy byl_X0_copy 1 rfl h
theorem byr_X0_copy_2 {j v : Nat} (h : by_X0_copy_2[j]? = some v) : RD cX0_copy (32 + j) v := rd_16 byo_X0_copy byl_X0_copy 2 rfl h
theorem byr_X0_copy_3 {j v : Nat} (h : by_X0_copy_3[j]? = some v) : RD cX0_copy (48 + j) v := rd_16 byo_X0_copy byl_X0_copy 3 rfl h
theorem byr_X0_copy_4 {j v : Nat} (h : by_X0_copy_4[j]? = some v) : RD cX0_copy (64 + j) v := rd_16 byo_X0_copy byl_X0_copy 4 rfl h
theorem byr_X0_copy_5 {j v : Nat} (h : by_X0_copy_5[j]? = some v) : RD cX0_copy (80 + j) v := rd_16 byo_X0_copy byl_X0_copy 5 rfl h
theorem byr_X0_copy_6 {j v : Nat} (h : by_X0_copy_6[j]? = some v) : RD cX0_copy (96 + j) v := rd_16 byo_X0_copy byl_X0_copy 6 rfl h
theorem byr_X0_copy_7 {j v : Nat} (h : by_X0_copy_7[j]? = some v) : RD cX0_copy (112 + j) v := rd_16 byo_X0_copy byl_X0_copy 7 rfl h
theorem byr_X0_copy_8 {j v : Nat} (h : by_X0_copy_8[j]? = some v) : RD cX0_copy (128 + j) v := rd_16 byo_X0_copy byl_X0_copy 8 rfl h
theorem byr_X0_copy_9 {j v : Nat} (h : by_X0_copy_9[j]? = some v) : RD cX0_copy (144 + j) v := rd_16 byo_X0_copy byl_X0_copy 9 rfl h
theorem byr_X0_copy_10 {j v : Nat} (h : by_X0_copy_10[j]? = some v) : RD cX0_copy (160 + j) v := rd_16 byo_X0_copy byl_X0_copy 10 rfl h
theorem byr_X0_copy_11 {j v : Nat} (h : by_X0_copy_11[j]? = some v) : RD cX0_copy (176 + j) v := rd_16 byo_X0_copy byl_X0_copy 11 rfl h
theorem byr_X0_copy_12 {j v : Nat} (h : by_X0_copy_z[j]? = some v) : RD cX0_copy (192 + j) v := rd_z byo_X0_copy byl_X0_copy 12 rfl h
theorem dX0_copy_0 : decode cX0_copy 0 = .ok (.aload_n 0, 1) := dk_42 (byr_X0_copy_0 (j := 0) rfl)
theorem dX0_copy_1 : decode cX0_copy 1 = .ok (.aload_n 1, 1) := dk_43 (byr_X0_copy_0 (j := 1) rfl)
theorem dX0_copy_2 : decode cX0_copy 2 = .ok (.getfield 15, 3) := dk_180 (byr_X0_copy_0 (j := 2) rfl) (byr_X0_copy_0 (j := 3) rfl) (byr_X0_copy_0 (j := 4) rfl) (by decide)
theorem dX0_copy_5 : decode cX0_copy 5 = .ok (.putfield 15, 3) := dk_181 (byr_X0_copy_0 (j := 5) rfl) (byr_X0_copy_0 (j := 6) rfl) (byr_X0_copy_0 (j := 7) rfl) (by decide)
theorem dX0_copy_8 : decode cX0_copy 8 = .ok (.aload_n 0, 1) := dk_42 (byr_X0_copy_0 (j := 8) rfl)
theorem dX0_copy_9 : decode cX0_copy 9 = .ok (.aload_n 1, 1) := dk_43 (byr_X0_copy_0 (j := 9) rfl)
theorem dX0_copy_10 : decode cX0_copy 10 = .ok (.getfield 19, 3) := dk_180 (byr_X0_copy_0 (j := 10) rfl) (byr_X0_copy_0 (j := 11) rfl) (byr_X0_copy_0 (j := 12) rfl) (by decide)
theorem dX0_copy_13 : decode cX0_copy 13 = .ok (.putfield 19, 3) := dk_181 (byr_X0_copy_0 (j := 13) rfl) (byr_X0_copy_0 (j := 14) rfl) (byr_X0_copy_0 (j := 15) rfl) (by decide)
theorem dX0_copy_16 : decode cX0_copy 16 = .ok (.aload_n 0, 1) := dk_42 (byr_X0_copy_1 (j := 0) rfl)
theorem dX0_copy_17 : decode cX0_copy 17 = .ok (.aload_n 1, 1) := dk_43 (byr_X0_copy_1 (j := 1) rfl)
theorem dX0_copy_18 : decode cX0_copy 18 = .ok (.getfield 22, 3) := dk_180 (byr_X0_copy_1 (j := 2) rfl) (byr_X0_copy_1 (j := 3) rfl) (byr_X0_copy_1 (j := 4) rfl) (by decide)
theorem dX0_copy_21 : decode cX0_copy 21 = .ok (.putfield 22, 3) := dk_181 (byr_X0_copy_1 (j := 5) rfl) (byr_X0_copy_1 (j := 6) rfl) (byr_X0_copy_1 (j := 7) rfl) (by decide)
theorem dX0_copy_24 : decode cX0_copy 24 = .ok (.aload_n 0, 1) := dk_42 (byr_X0_copy_1 (j := 8) rfl)
theorem dX0_copy_25 : decode cX0_copy 25 = .ok (.aload_n 1, 1) := dk_43 (byr_X0_copy_1 (j := 9) rfl)
theorem dX0_copy_26 : decode cX0_copy 26 = .ok (.getfield 25, 3) := dk_180 (byr_X0_copy_1 (j := 10) rfl) (byr_X0_copy_1 (j := 11) rfl) (byr_X0_copy_1 (j := 12) rfl) (by decide)
theorem dX0_copy_29 : decode cX0_copy 29 = .ok (.putfield 25, 3) := dk_181 (byr_X0_copy_1 (j := 13) rfl) (byr_X0_copy_1 (j := 14) rfl) (byr_X0_copy_1 (j := 15) rfl) (by decide)
theorem dX0_copy_32 : decode cX0_copy 32 = .ok (.aload_n 0, 1) := dk_42 (byr_X0_copy_2 (j := 0) rfl)
theorem dX0_copy_33 : decode cX0_copy 33 = .ok (.aload_n 1, 1) := dk_43 (byr_X0_copy_2 (j := 1) rfl)
theorem dX0_copy_34 : decode cX0_copy 34 = .ok (.getfield 28, 3) := dk_180 (byr_X0_copy_2 (j := 2) rfl) (byr_X0_copy_2 (j := 3) rfl) (byr_X0_copy_2 (j := 4) rfl) (by decide)
theorem dX0_copy_37 : decode cX0_copy 37 = .ok (.putfield 28, 3) := dk_181 (byr_X0_copy_2 (j := 5) rfl) (byr_X0_copy_2 (j := 6) rfl) (byr_X0_copy_2 (j := 7) rfl) (by decide)
theorem dX0_copy_40 : decode cX0_copy 40 = .ok (.aload_n 0, 1) := dk_42 (byr_X0_copy_2 (j := 8) rfl)
theorem dX0_copy_41 : decode cX0_copy 41 = .ok (.aload_n 1, 1) := dk_43 (byr_X0_copy_2 (j := 9) rfl)
theorem dX0_copy_42 : decode cX0_copy 42 = .ok (.getfield 31, 3) := dk_180 (byr_X0_copy_2 (j := 10) rfl) (byr_X0_copy_2 (j := 11) rfl) (byr_X0_copy_2 (j := 12) rfl) (by decide)
theorem dX0_copy_45 : decode cX0_copy 45 = .ok (.putfield 31, 3) := dk_181 (byr_X0_copy_2 (j := 13) rfl) (byr_X0_copy_2 (j := 14) rfl) (byr_X0_copy_2 (j := 15) rfl) (by decide)
theorem dX0_copy_48 : decode cX0_copy 48 = .ok (.aload_n 0, 1) := dk_42 (byr_X0_copy_3 (j := 0) rfl)
theorem dX0_copy_49 : decode cX0_copy 49 = .ok (.aload_n 1, 1) := dk_43 (byr_X0_copy_3 (j := 1) rfl)
theorem dX0_copy_50 : decode cX0_copy 50 = .ok (.getfield 40, 3) := dk_180 (byr_X0_copy_3 (j := 2) rfl) (byr_X0_copy_3 (j := 3) rfl) (byr_X0_copy_3 (j := 4) rfl) (by decide)
theorem dX0_copy_53 : decode cX0_copy 53 = .ok (.putfield 40, 3) := dk_181 (byr_X0_copy_3 (j := 5) rfl) (byr_X0_copy_3 (j := 6) rfl) (byr_X0_copy_3 (j := 7) rfl) (by decide)
theorem dX0_copy_56 : decode cX0_copy 56 = .ok (.aload_n 0, 1) := dk_42 (byr_X0_copy_3 (j := 8) rfl)
theorem dX0_copy_57 : decode cX0_copy 57 = .ok (.aload_n 1, 1) := dk_43 (byr_X0_copy_3 (j := 9) rfl)
theorem dX0_copy_58 : decode cX0_copy 58 = .ok (.getfield 58, 3) := dk_180 (byr_X0_copy_3 (j := 10) rfl) (byr_X0_copy_3 (j := 11) rfl) (byr_X0_copy_3 (j := 12) rfl) (by decide)
theorem dX0_copy_61 : decode cX0_copy 61 = .ok (.putfield 58, 3) := dk_181 (byr_X0_copy_3 (j := 13) rfl) (byr_X0_copy_3 (j := 14) rfl) (byr_X0_copy_3 (j := 15) rfl) (by decide)
theorem dX0_copy_64 : decode cX0_copy 64 = .ok (.aload_n 0, 1) := dk_42 (byr_X0_copy_4 (j := 0) rfl)
theorem dX0_copy_65 : decode cX0_copy 65 = .ok (.aload_n 1, 1) := dk_43 (byr_X0_copy_4 (j := 1) rfl)
theorem dX0_copy_66 : decode cX0_copy 66 = .ok (.getfield 64, 3) := dk_180 (byr_X0_copy_4 (j := 2) rfl) (byr_X0_copy_4 (j := 3) rfl) (byr_X0_copy_4 (j := 4) rfl) (by decide)
theorem dX0_copy_69 : decode cX0_copy 69 = .ok (.putfield 64, 3) := dk_181 (byr_X0_copy_4 (j := 5) rfl) (byr_X0_copy_4 (j := 6) rfl) (byr_X0_copy_4 (j := 7) rfl) (by decide)
theorem dX0_copy_72 : decode cX0_copy 72 = .ok (.aload_n 0, 1) := dk_42 (byr_X0_copy_4 (j := 8) rfl)
theorem dX0_copy_73 : decode cX0_copy 73 = .ok (.aload_n 1, 1) := dk_43 (byr_X0_copy_4 (j := 9) rfl)
theorem dX0_copy_74 : decode cX0_copy 74 = .ok (.getfield 67, 3) := dk_180 (byr_X0_copy_4 (j := 10) rfl) (byr_X0_copy_4 (j := 11) rfl) (byr_X0_copy_4 (j := 12) rfl) (by decide)
theorem dX0_copy_77 : decode cX0_copy 77 = .ok (.putfield 67, 3) := dk_181 (byr_X0_copy_4 (j := 13) rfl) (byr_X0_copy_4 (j := 14) rfl) (byr_X0_copy_4 (j := 15) rfl) (by decide)
theorem dX0_copy_80 : decode cX0_copy 80 = .ok (.aload_n 0, 1) := dk_42 (byr_X0_copy_5 (j := 0) rfl)
theorem dX0_copy_81 : decode cX0_copy 81 = .ok (.getfield 48, 3) := dk_180 (byr_X0_copy_5 (j := 1) rfl) (byr_X0_copy_5 (j := 2) rfl) (byr_X0_copy_5 (j := 3) rfl) (by decide)
theorem dX0_copy_84 : decode cX0_copy 84 = .ok (.aload_n 1, 1) := dk_43 (byr_X0_copy_5 (j := 4) rfl)
theorem dX0_copy_85 : decode cX0_copy 85 = .ok (.getfield 48, 3) := dk_180 (byr_X0_copy_5 (j := 5) rfl) (byr_X0_copy_5 (j := 6) rfl) (byr_X0_copy_5 (j := 7) rfl) (by decide)
theorem dX0_copy_88 : decode cX0_copy 88 = .ok (.invokevirtual 87, 3) := dk_182 (byr_X0_copy_5 (j := 8) rfl) (byr_X0_copy_5 (j := 9) rfl) (byr_X0_copy_5 (j := 10) rfl) (by decide)
theorem dX0_copy_91 : decode cX0_copy 91 = .ok (.aload_n 0, 1) := dk_42 (byr_X0_copy_5 (j := 11) rfl)
theorem dX0_copy_92 : decode cX0_copy 92 = .ok (.getfield 52, 3) := dk_180 (byr_X0_copy_5 (j := 12) rfl) (byr_X0_copy_5 (j := 13) rfl) (byr_X0_copy_5 (j := 14) rfl) (by decide)
theorem dX0_copy_95 : decode cX0_copy 95 = .ok (.aload_n 1, 1) := dk_43 (byr_X0_copy_5 (j := 15) rfl)
theorem dX0_copy_96 : decode cX0_copy 96 = .ok (.getfield 52, 3) := dk_180 (byr_X0_copy_6 (j := 0) rfl) (byr_X0_copy_6 (j := 1) rfl) (byr_X0_copy_6 (j := 2) rfl) (by decide)
theorem dX0_copy_99 : decode cX0_copy 99 = .ok (.invokevirtual 87, 3) := dk_182 (byr_X0_copy_6 (j := 3) rfl) (byr_X0_copy_6 (j := 4) rfl) (byr_X0_copy_6 (j := 5) rfl) (by decide)
theorem dX0_copy_102 : decode cX0_copy 102 = .ok (.aload_n 1, 1) := dk_43 (byr_X0_copy_6 (j := 6) rfl)
theorem dX0_copy_103 : decode cX0_copy 103 = .ok (.getfield 9, 3) := dk_180 (byr_X0_copy_6 (j := 7) rfl) (byr_X0_copy_6 (j := 8) rfl) (byr_X0_copy_6 (j := 9) rfl) (by decide)
theorem dX0_copy_106 : decode cX0_copy 106 = .ok (.iconst 0, 1) := dk_3 (byr_X0_copy_6 (j := 10) rfl)
theorem dX0_copy_107 : decode cX0_copy 107 = .ok (.aload_n 0, 1) := dk_42 (byr_X0_copy_6 (j := 11) rfl)
theorem dX0_copy_108 : decode cX0_copy 108 = .ok (.getfield 9, 3) := dk_180 (byr_X0_copy_6 (j := 12) rfl) (byr_X0_copy_6 (j := 13) rfl) (byr_X0_copy_6 (j := 14) rfl) (by decide)
theorem dX0_copy_111 : decode cX0_copy 111 = .ok (.iconst 0, 1) := dk_3 (byr_X0_copy_6 (j := 15) rfl)
theorem dX0_copy_112 : decode cX0_copy 112 = .ok (.bipush 6, 2) := dk_16 (byr_X0_copy_7 (j := 0) rfl) (byr_X0_copy_7 (j := 1) rfl) (by decide)
theorem dX0_copy_114 : decode cX0_copy 114 = .ok (.invokestatic 91, 3) := dk_184 (byr_X0_copy_7 (j := 2) rfl) (byr_X0_copy_7 (j := 3) rfl) (byr_X0_copy_7 (j := 4) rfl) (by decide)
theorem dX0_copy_117 : decode cX0_copy 117 = .ok (.aload_n 1, 1) := dk_43 (byr_X0_copy_7 (j := 5) rfl)
theorem dX0_copy_118 : decode cX0_copy 118 = .ok (.getfield 55, 3) := dk_180 (byr_X0_copy_7 (j := 6) rfl) (byr_X0_copy_7 (j := 7) rfl) (byr_X0_copy_7 (j := 8) rfl) (by decide)
theorem dX0_copy_121 : decode cX0_copy 121 = .ok (.iconst 0, 1) := dk_3 (byr_X0_copy_7 (j := 9) rfl)
theorem dX0_copy_122 : decode cX0_copy 122 = .ok (.aload_n 0, 1) := dk_42 (byr_X0_copy_7 (j := 10) rfl)
theorem dX0_copy_123 : decode cX0_copy 123 = .ok (.getfield 55, 3) := dk_180 (byr_X0_copy_7 (j := 11) rfl) (byr_X0_copy_7 (j := 12) rfl) (byr_X0_copy_7 (j := 13) rfl) (by decide)
theorem dX0_copy_126 : decode cX0_copy 126 = .ok (.iconst 0, 1) := dk_3 (byr_X0_copy_7 (j := 14) rfl)
theorem dX0_copy_127 : decode cX0_copy 127 = .ok (.bipush 50, 2) := dk_16 (byr_X0_copy_7 (j := 15) rfl) (byr_X0_copy_8 (j := 0) rfl) (by decide)
theorem dX0_copy_129 : decode cX0_copy 129 = .ok (.invokestatic 91, 3) := dk_184 (byr_X0_copy_8 (j := 1) rfl) (byr_X0_copy_8 (j := 2) rfl) (byr_X0_copy_8 (j := 3) rfl) (by decide)
theorem dX0_copy_132 : decode cX0_copy 132 = .ok (.aload_n 1, 1) := dk_43 (byr_X0_copy_8 (j := 4) rfl)
theorem dX0_copy_133 : decode cX0_copy 133 = .ok (.getfield 61, 3) := dk_180 (byr_X0_copy_8 (j := 5) rfl) (byr_X0_copy_8 (j := 6) rfl) (byr_X0_copy_8 (j := 7) rfl) (by decide)
theorem dX0_copy_136 : decode cX0_copy 136 = .ok (.iconst 0, 1) := dk_3 (byr_X0_copy_8 (j := 8) rfl)
theorem dX0_copy_137 : decode cX0_copy 137 = .ok (.aload_n 0, 1) := dk_42 (byr_X0_copy_8 (j := 9) rfl)
theorem dX0_copy_138 : decode cX0_copy 138 = .ok (.getfield 61, 3) := dk_180 (byr_X0_copy_8 (j := 10) rfl) (byr_X0_copy_8 (j := 11) rfl) (byr_X0_copy_8 (j := 12) rfl) (by decide)
theorem dX0_copy_141 : decode cX0_copy 141 = .ok (.iconst 0, 1) := dk_3 (byr_X0_copy_8 (j := 13) rfl)
theorem dX0_copy_142 : decode cX0_copy 142 = .ok (.bipush 20, 2) := dk_16 (byr_X0_copy_8 (j := 14) rfl) (byr_X0_copy_8 (j := 15) rfl) (by decide)
theorem dX0_copy_144 : decode cX0_copy 144 = .ok (.invokestatic 91, 3) := dk_184 (byr_X0_copy_9 (j := 0) rfl) (byr_X0_copy_9 (j := 1) rfl) (byr_X0_copy_9 (j := 2) rfl) (by decide)
theorem dX0_copy_147 : decode cX0_copy 147 = .ok (.iconst 0, 1) := dk_3 (byr_X0_copy_9 (j := 3) rfl)
theorem dX0_copy_148 : decode cX0_copy 148 = .ok (.istore_n 2, 1) := dk_61 (byr_X0_copy_9 (j := 4) rfl)
theorem dX0_copy_149 : decode cX0_copy 149 = .ok (.iload_n 2, 1) := dk_28 (byr_X0_copy_9 (j := 5) rfl)
theorem dX0_copy_150 : decode cX0_copy 150 = .ok (.aload_n 0, 1) := dk_42 (byr_X0_copy_9 (j := 6) rfl)
theorem dX0_copy_151 : decode cX0_copy 151 = .ok (.getfield 40, 3) := dk_180 (byr_X0_copy_9 (j := 7) rfl) (byr_X0_copy_9 (j := 8) rfl) (byr_X0_copy_9 (j := 9) rfl) (by decide)
theorem dX0_copy_154 : decode cX0_copy 154 = .ok (.if_icmp .ge 37, 3) := dk_162 (byr_X0_copy_9 (j := 10) rfl) (byr_X0_copy_9 (j := 11) rfl) (byr_X0_copy_9 (j := 12) rfl) (by decide)
theorem dX0_copy_157 : decode cX0_copy 157 = .ok (.aload_n 0, 1) := dk_42 (byr_X0_copy_9 (j := 13) rfl)
theorem dX0_copy_158 : decode cX0_copy 158 = .ok (.iload_n 2, 1) := dk_28 (byr_X0_copy_9 (j := 14) rfl)
theorem dX0_copy_159 : decode cX0_copy 159 = .ok (.invokevirtual 97, 3) := dk_182 (byr_X0_copy_9 (j := 15) rfl) (byr_X0_copy_10 (j := 0) rfl) (byr_X0_copy_10 (j := 1) rfl) (by decide)
theorem dX0_copy_162 : decode cX0_copy 162 = .ok (.astore_n 3, 1) := dk_78 (byr_X0_copy_10 (j := 2) rfl)
theorem dX0_copy_163 : decode cX0_copy 163 = .ok (.aload_n 1, 1) := dk_43 (byr_X0_copy_10 (j := 3) rfl)
theorem dX0_copy_164 : decode cX0_copy 164 = .ok (.iload_n 2, 1) := dk_28 (byr_X0_copy_10 (j := 4) rfl)
theorem dX0_copy_165 : decode cX0_copy 165 = .ok (.invokevirtual 97, 3) := dk_182 (byr_X0_copy_10 (j := 5) rfl) (byr_X0_copy_10 (j := 6) rfl) (byr_X0_copy_10 (j := 7) rfl) (by decide)
theorem dX0_copy_168 : decode cX0_copy 168 = .ok (.astore 4, 2) := dk_58 (byr_X0_copy_10 (j := 8) rfl) (byr_X0_copy_10 (j := 9) rfl)
theorem dX0_copy_170 : decode cX0_copy 170 = .ok (.aload_n 3, 1) := dk_45 (byr_X0_copy_10 (j := 10) rfl)
theorem dX0_copy_171 : decode cX0_copy 171 = .ok (.ifnull 14, 3) := dk_198 (byr_X0_copy_10 (j := 11) rfl) (byr_X0_copy_10 (j := 12) rfl) (byr_X0_copy_10 (j := 13) rfl) (by decide)
theorem dX0_copy_174 : decode cX0_copy 174 = .ok (.aload 4, 2) := dk_25 (byr_X0_copy_10 (j := 14) rfl) (byr_X0_copy_10 (j := 15) rfl)
theorem dX0_copy_176 : decode cX0_copy 176 = .ok (.ifnull 9, 3) := dk_198 (byr_X0_copy_11 (j := 0) rfl) (byr_X0_copy_11 (j := 1) rfl) (byr_X0_copy_11 (j := 2) rfl) (by decide)
theorem dX0_copy_179 : decode cX0_copy 179 = .ok (.aload_n 3, 1) := dk_45 (byr_X0_copy_11 (j := 3) rfl)
theorem dX0_copy_180 : decode cX0_copy 180 = .ok (.aload 4, 2) := dk_25 (byr_X0_copy_11 (j := 4) rfl) (byr_X0_copy_11 (j := 5) rfl)
theorem dX0_copy_182 : decode cX0_copy 182 = .ok (.invokevirtual 101, 3) := dk_182 (byr_X0_copy_11 (j := 6) rfl) (byr_X0_copy_11 (j := 7) rfl) (byr_X0_copy_11 (j := 8) rfl) (by decide)
theorem dX0_copy_185 : decode cX0_copy 185 = .ok (.iinc 2 1, 3) := dk_132 (byr_X0_copy_11 (j := 9) rfl) (byr_X0_copy_11 (j := 10) rfl) (byr_X0_copy_11 (j := 11) rfl) (by decide)
theorem dX0_copy_188 : decode cX0_copy 188 = .ok (.goto (-39), 3) := dk_167 (byr_X0_copy_11 (j := 12) rfl) (byr_X0_copy_11 (j := 13) rfl) (byr_X0_copy_11 (j := 14) rfl) (by decide)
theorem dX0_copy_191 : decode cX0_copy 191 = .ok (.return_, 1) := dk_177 (byr_X0_copy_11 (j := 15) rfl)
set_option maxHeartbeats 4000000 in
set_option maxRecDepth 100000 in
theorem c_X0_copy (l : Launch) (G : GT) (σ : Sto) (k0 : Nat) (hk0 : K0 k0 = 0) (a1 : Nat) (ha1 : K0 a1 = 0) (r : Sto) (h : f_X0_copy σ k0 a1 = some r) : MW l G (4) (107) 0 0 yX0_copy cX0_copy 5 (Option.none : Option Jvm.ClassFile.FieldType) [.ref (gad G k0), .ref (gad G a1)] (wl G σ) (none) (wl G r) := by
  refine mw_of RX0 (fiV G) [(0, .ref (gad G k0)), (1, .ref (gad G a1))] (by decide +kernel) rfl (Nat.le_of_ble_eq_true rfl) rfl h rfl (fun p e s m args below meth c X hr hnm => ?_)
  have J185 : ∀ (k0 : Nat) (hk0 : K0 k0 = 0) (k1 : Nat) (hk1 : K0 k1 = 0) (v2 : Int32) (K149 : Int32 → Sto → Option Sto) (hK149 : ∀ (v2' : Int32) (σ' : Sto), Sm p l e { frames := 4, cells := 0, slots := 0, locals := 107 } s m args below meth c G 5 (Qm below args s G 0 0 (fiV G)) 0 0 (wl G σ') 149 [(0, .ref (gad G k0)), (1, .ref (gad G k1)), (2, .int v2')] [] (K149 v2' σ')) (σ : Sto), Sm p l e { frames := 4, cells := 0, slots := 0, locals := 107 } s m args below meth c G 5 (Qm below args s G 0 0 (fiV G)) 0 0 (wl G σ) 185 [(0, .ref (gad G k0)), (1, .ref (gad G k1)), (2, .int v2)] [] (f_X0_copy_L185 K149 k0 k1 v2 σ) := by
    intro k0 hk0 k1 hk1 v2 K149 hK149 σ
    rw [f_X0_copy_L185]
    refine sm_iinc X 188 2 (1 : Int32) [(2, .int (v2 + (1 : Int32))), (0, .ref (gad G k0)), (1, .ref (gad G k1))] dX0_copy_185 rfl rfl rfl (by decide) rfl ?_
    refine sm_goto X 149 dX0_copy_188 (by decide) ?_
    exact sm_sub [1, 2, 0] rfl (hK149 (v2 + (1 : Int32)) σ)
  have J149 : ∀ (k0 : Nat) (hk0 : K0 k0 = 0) (k1 : Nat) (hk1 : K0 k1 = 0)  (n : Nat) (v2 : Int32) (σ : Sto), Sm p l e { frames := 4, cells := 0, slots := 0, locals := 107 } s m args below meth c G 5 (Qm below args s G 0 0 (fiV G)) 0 0 (wl G σ) 149 [(0, .ref (gad G k0)), (1, .ref (gad G k1)), (2, .int v2)] [] (f_X0_copy_L149  k0 k1 n v2 σ) := by
    intro k0 hk0 k1 hk1 n
    induction n with
    | zero => intro v2 σ; rw [f_X0_copy_L149]; exact sm_none
    | succ n ihl =>
      intro v2 σ
      rw [f_X0_copy_L149]
      refine sm_iload_n X 150 2 dX0_copy_149 rfl rfl rfl ?_
      refine sm_aload_n X 151 0 dX0_copy_150 rfl rfl rfl ?_
      refine sm_geti X 154 hk0 fd_0_8 dX0_copy_151 rfl q_104 ?_
      refine sm_icmp_ge X 157 191 dX0_copy_154 rfl (by decide) (fun h154 => ?_) (fun h154 => ?_)
      · exact sm_vret X hr dX0_copy_191 rfl
      · refine sm_aload_n X 158 0 dX0_copy_157 rfl rfl rfl ?_
        refine sm_iload_n X 159 2 dX0_copy_158 rfl rfl rfl ?_
        refine sm_bind (fun r159 h159 => ?_)
        refine sm_callV0 X 162 [.int v2] [] [va_re (gad G) r159] (c_X0_swimmerAt l G σ k0 hk0 v2 r159 h159) cw_X0_swimmerAt q_376 q_377 q_854 hk0 (by decide) rfl rfl rfl rfl rfl (Nat.le_of_ble_eq_true rfl) ⟨Nat.le_of_ble_eq_true rfl, Nat.le_of_ble_eq_true rfl⟩ ⟨Nat.le_refl _, Nat.le_refl _⟩ dX0_copy_159 rfl ?_
        refine sm_astore_nq X 163 [(3, va_re (gad G) r159), (0, .ref (gad G k0)), (1, .ref (gad G k1)), (2, .int v2)] dX0_copy_162 rfl rfl (by decide) rfl ?_
        refine sm_aload_n X 164 2 dX0_copy_163 rfl rfl rfl ?_
        refine sm_iload_n X 165 3 dX0_copy_164 rfl rfl rfl ?_
        refine sm_bind (fun r165 h165 => ?_)
        refine sm_callV0 X 168 [.int v2] [] [va_re (gad G) r165] (c_X0_swimmerAt l G σ k1 hk1 v2 r165 h165) cw_X0_swimmerAt q_376 q_377 q_854 hk1 (by decide) rfl rfl rfl rfl rfl (Nat.le_of_ble_eq_true rfl) ⟨Nat.le_of_ble_eq_true rfl, Nat.le_of_ble_eq_true rfl⟩ ⟨Nat.le_refl _, Nat.le_refl _⟩ dX0_copy_165 rfl ?_
        refine sm_astoreq X 170 [(4, va_re (gad G) r165), (3, va_re (gad G) r159), (0, .ref (gad G k0)), (1, .ref (gad G k1)), (2, .int v2)] dX0_copy_168 rfl (by decide) (by cases r159 <;> rfl) ?_
        refine sm_aload_nq X 171 1 dX0_copy_170 rfl rfl rfl ?_
        refine sm_ifnull X 174 185 dX0_copy_171 rfl (by decide) (fun hn => ?_) (fun k171 hn => ?_)
        · subst hn
          exact sm_sub [2, 3, 4] rfl (J185 k0 hk0 k1 hk1 v2 (f_X0_copy_L149  k0 k1 n) ihl σ)
        · subst hn
          refine sm_aloadq X 176 0 dX0_copy_174 rfl rfl ?_
          refine sm_ifnull X 179 185 dX0_copy_176 rfl (by decide) (fun hn => ?_) (fun k176 hn => ?_)
          · subst hn
            exact sm_sub [2, 3, 4] rfl (J185 k0 hk0 k1 hk1 v2 (f_X0_copy_L149  k0 k1 n) ihl σ)
          · subst hn
            refine sm_aload_n X 180 1 dX0_copy_179 rfl rfl rfl ?_
            refine sm_aload X 182 0 dX0_copy_180 rfl rfl ?_
            refine sm_guard (fun hk171 => ?_)
            refine sm_guard (fun hk176 => ?_)
            refine sm_bind (fun r182 h182 => ?_)
            refine sm_callV0 X 185 [.ref (gad G k176)] [] [] (c_X6_copy l G σ k171 hk171 k176 hk176 r182 h182) cw_X6_copy q_686 q_687 q_855 hk171 (by decide) rfl rfl rfl rfl rfl (Nat.le_of_ble_eq_true rfl) ⟨Nat.le_of_ble_eq_true rfl, Nat.le_of_ble_eq_true rfl⟩ ⟨Nat.le_refl _, Nat.le_refl _⟩ dX0_copy_182 rfl ?_
            exact sm_sub [2, 3, 4] rfl (J185 k0 hk0 k1 hk1 v2 (f_X0_copy_L149  k0 k1 n) ihl r182)
  unfold f_X0_copy
  refine sm_aload_n X 1 0 dX0_copy_0 rfl rfl rfl ?_
  refine sm_aload_n X 2 1 dX0_copy_1 rfl rfl rfl ?_
  refine sm_geti X 5 ha1 fd_0_1 dX0_copy_2 rfl q_91 ?_
  refine sm_puti X 8 .int hk0 fd_0_1 (by decide) rfl rfl rfl dX0_copy_5 rfl q_91 (fun σ5 e5 => ?_)
  clear e5
  refine sm_aload_n X 9 0 dX0_copy_8 rfl rfl rfl ?_
  refine sm_aload_n X 10 1 dX0_copy_9 rfl rfl rfl ?_
  refine sm_geti X 13 ha1 fd_0_2 dX0_copy_10 rfl q_93 ?_
  refine sm_puti X 16 .int hk0 fd_0_2 (by decide) rfl rfl rfl dX0_copy_13 rfl q_93 (fun σ13 e13 => ?_)
  clear e13
  refine sm_aload_n X 17 0 dX0_copy_16 rfl rfl rfl ?_
  refine sm_aload_n X 18 1 dX0_copy_17 rfl rfl rfl ?_
  refine sm_geti X 21 ha1 fd_0_3 dX0_copy_18 rfl q_95 ?_
  refine sm_puti X 24 .int hk0 fd_0_3 (by decide) rfl rfl rfl dX0_copy_21 rfl q_95 (fun σ21 e21 => ?_)
  clear e21
  refine sm_aload_n X 25 0 dX0_copy_24 rfl rfl rfl ?_
  refine sm_aload_n X 26 1 dX0_copy_25 rfl rfl rfl ?_
  refine sm_geti X 29 ha1 fd_0_4 dX0_copy_26 rfl q_97 ?_
  refine sm_puti X 32 .int hk0 fd_0_4 (by decide) rfl rfl rfl dX0_copy_29 rfl q_97 (fun σ29 e29 => ?_)
  clear e29
  refine sm_aload_n X 33 0 dX0_copy_32 rfl rfl rfl ?_
  refine sm_aload_n X 34 1 dX0_copy_33 rfl rfl rfl ?_
  refine sm_geti X 37 ha1 fd_0_5 dX0_copy_34 rfl q_99 ?_
  refine sm_puti X 40 .int hk0 fd_0_5 (by decide) rfl rfl rfl dX0_copy_37 rfl q_99 (fun σ37 e37 => ?_)
  clear e37
  refine sm_aload_n X 41 0 dX0_copy_40 rfl rfl rfl ?_
  refine sm_aload_n X 42 1 dX0_copy_41 rfl rfl rfl ?_
  refine sm_geti X 45 ha1 fd_0_6 dX0_copy_42 rfl q_101 ?_
  refine sm_puti X 48 .int hk0 fd_0_6 (by decide) rfl rfl rfl dX0_copy_45 rfl q_101 (fun σ45 e45 => ?_)
  clear e45
  refine sm_aload_n X 49 0 dX0_copy_48 rfl rfl rfl ?_
  refine sm_aload_n X 50 1 dX0_copy_49 rfl rfl rfl ?_
  refine sm_geti X 53 ha1 fd_0_8 dX0_copy_50 rfl q_104 ?_
  refine sm_puti X 56 .int hk0 fd_0_8 (by decide) rfl rfl rfl dX0_copy_53 rfl q_104 (fun σ53 e53 => ?_)
  clear e53
  refine sm_aload_n X 57 0 dX0_copy_56 rfl rfl rfl ?_
  refine sm_aload_n X 58 1 dX0_copy_57 rfl rfl rfl ?_
  refine sm_geti X 61 ha1 fd_0_12 dX0_copy_58 rfl q_110 ?_
  refine sm_puti X 64 .int hk0 fd_0_12 (by decide) rfl rfl rfl dX0_copy_61 rfl q_110 (fun σ61 e61 => ?_)
  clear e61
  refine sm_aload_n X 65 0 dX0_copy_64 rfl rfl rfl ?_
  refine sm_aload_n X 66 1 dX0_copy_65 rfl rfl rfl ?_
  refine sm_geti X 69 ha1 fd_0_14 dX0_copy_66 rfl q_114 ?_
  refine sm_puti X 72 .int hk0 fd_0_14 (by decide) rfl rfl rfl dX0_copy_69 rfl q_114 (fun σ69 e69 => ?_)
  clear e69
  refine sm_aload_n X 73 0 dX0_copy_72 rfl rfl rfl ?_
  refine sm_aload_n X 74 1 dX0_copy_73 rfl rfl rfl ?_
  refine sm_geti X 77 ha1 fd_0_15 dX0_copy_74 rfl q_116 ?_
  refine sm_puti X 80 .int hk0 fd_0_15 (by decide) rfl rfl rfl dX0_copy_77 rfl q_116 (fun σ77 e77 => ?_)
  clear e77
  refine sm_aload_n X 81 0 dX0_copy_80 rfl rfl rfl ?_
  refine sm_getf X 84 (A0 k0 9) hk0 fd_0_9 (fr_0_9 hk0).1 dX0_copy_81 rfl q_106 ?_
  refine sm_aload_n X 85 1 dX0_copy_84 rfl rfl rfl ?_
  refine sm_getf X 88 (A0 a1 9) ha1 fd_0_9 (fr_0_9 ha1).1 dX0_copy_85 rfl q_106 ?_
  refine sm_bind (fun r88 h88 => ?_)
  refine sm_callV0 X 91 [.ref (gad G (A0 a1 9))] [] [] (c_X1_copy l G σ77 (A0 k0 9) ((fr_0_9 hk0).2.1) (A0 a1 9) ((fr_0_9 ha1).2.1) r88 h88) cw_X1_copy q_850 q_851 q_849 ((fr_0_9 hk0).2.1) (by decide) rfl rfl rfl rfl rfl (Nat.le_of_ble_eq_true rfl) ⟨Nat.le_of_ble_eq_true rfl, Nat.le_of_ble_eq_true rfl⟩ ⟨Nat.le_refl _, Nat.le_refl _⟩ dX0_copy_88 rfl ?_
  refine sm_aload_n X 92 0 dX0_copy_91 rfl rfl rfl ?_
  refine sm_getf X 95 (A0 k0 10) hk0 fd_0_10 (fr_0_10 hk0).1 dX0_copy_92 rfl q_107 ?_
  refine sm_aload_n X 96 1 dX0_copy_95 rfl rfl rfl ?_
  refine sm_getf X 99 (A0 a1 10) ha1 fd_0_10 (fr_0_10 ha1).1 dX0_copy_96 rfl q_107 ?_
  refine sm_bind (fun r99 h99 => ?_)
  refine sm_callV0 X 102 [.ref (gad G (A0 a1 10))] [] [] (c_X1_copy l G r88 (A0 k0 10) ((fr_0_10 hk0).2.1) (A0 a1 10) ((fr_0_10 ha1).2.1) r99 h99) cw_X1_copy q_850 q_851 q_849 ((fr_0_10 hk0).2.1) (by decide) rfl rfl rfl rfl rfl (Nat.le_of_ble_eq_true rfl) ⟨Nat.le_of_ble_eq_true rfl, Nat.le_of_ble_eq_true rfl⟩ ⟨Nat.le_refl _, Nat.le_refl _⟩ dX0_copy_99 rfl ?_
  refine sm_aload_n X 103 1 dX0_copy_102 rfl rfl rfl ?_
  refine sm_getf X 106 (A0 a1 0) ha1 fd_0_0 (fr_0_0 ha1).1 dX0_copy_103 rfl q_89 ?_
  refine sm_iconst X 107 (0) dX0_copy_106 rfl rfl ?_
  refine sm_aload_n X 108 0 dX0_copy_107 rfl rfl rfl ?_
  refine sm_getf X 111 (A0 k0 0) hk0 fd_0_0 (fr_0_0 hk0).1 dX0_copy_108 rfl q_89 ?_
  refine sm_iconst X 112 (0) dX0_copy_111 rfl rfl ?_
  refine sm_bipush X 114 (6) dX0_copy_112 rfl rfl ?_
  refine sm_copy X 117 ((fr_0_0 ha1).2.1) ((fr_0_0 hk0).2.1) dX0_copy_114 rfl q_853 q_456 q_455 q_12 ⟨Nat.le_of_ble_eq_true rfl, Nat.le_of_ble_eq_true rfl⟩ (fun σ114 e114 => ?_)
  clear e114
  refine sm_aload_n X 118 1 dX0_copy_117 rfl rfl rfl ?_
  refine sm_getf X 121 (A0 a1 11) ha1 fd_0_11 (fr_0_11 ha1).1 dX0_copy_118 rfl q_108 ?_
  refine sm_iconst X 122 (0) dX0_copy_121 rfl rfl ?_
  refine sm_aload_n X 123 0 dX0_copy_122 rfl rfl rfl ?_
  refine sm_getf X 126 (A0 k0 11) hk0 fd_0_11 (fr_0_11 hk0).1 dX0_copy_123 rfl q_108 ?_
  refine sm_iconst X 127 (0) dX0_copy_126 rfl rfl ?_
  refine sm_bipush X 129 (50) dX0_copy_127 rfl rfl ?_
  refine sm_copy X 132 ((fr_0_11 ha1).2.1) ((fr_0_11 hk0).2.1) dX0_copy_129 rfl q_853 q_456 q_455 q_12 ⟨Nat.le_of_ble_eq_true rfl, Nat.le_of_ble_eq_true rfl⟩ (fun σ129 e129 => ?_)
  clear e129
  refine sm_aload_n X 133 1 dX0_copy_132 rfl rfl rfl ?_
  refine sm_getf X 136 (A0 a1 13) ha1 fd_0_13 (fr_0_13 ha1).1 dX0_copy_133 rfl q_112 ?_
  refine sm_iconst X 137 (0) dX0_copy_136 rfl rfl ?_
  refine sm_aload_n X 138 0 dX0_copy_137 rfl rfl rfl ?_
  refine sm_getf X 141 (A0 k0 13) hk0 fd_0_13 (fr_0_13 hk0).1 dX0_copy_138 rfl q_112 ?_
  refine sm_iconst X 142 (0) dX0_copy_141 rfl rfl ?_
  refine sm_bipush X 144 (20) dX0_copy_142 rfl rfl ?_
  refine sm_copy X 147 ((fr_0_13 ha1).2.1) ((fr_0_13 hk0).2.1) dX0_copy_144 rfl q_853 q_456 q_455 q_12 ⟨Nat.le_of_ble_eq_true rfl, Nat.le_of_ble_eq_true rfl⟩ (fun σ144 e144 => ?_)
  clear e144
  refine sm_iconst X 148 (0) dX0_copy_147 rfl rfl ?_
  refine sm_istore_n X 149 [(2, .int 0), (0, .ref (gad G k0)), (1, .ref (gad G a1))] dX0_copy_148 rfl rfl (by decide) rfl ?_
  exact sm_sub [1, 2, 0] rfl (J149 k0 hk0 a1 ha1  FU (0 : Int32) σ144)
def by_X1_take_0 : List Nat := [42, 43, 180, 0, 25, 181, 0, 18, 43, 180, 0, 30, 3, 42, 180, 0]
def by_X1_take_z : List Nat := [9, 3, 16, 50, 184, 0, 31, 177]
def by_X1_take : List (List Nat) := [by_X1_take_0]
set_option maxRecDepth 100000 in
theorem byo_X1_take : cX1_take.data.toList.map UInt8.toNat = by_X1_take.flatten ++ by_X1_take_z := by decide +kernel
theorem byl_X1_take : by_X1_take.all (fun r => r.length == 16) = true := by decide +kernel
theorem byr_X1_take_0 {j v : Nat} (h : by_X1_take_0[j]? = some v) : RD cX1_take (0 + j) v := rd_16 byo_X1_take byl_X1_take 0 rfl h
theorem byr_X1_take_1 {j v : Nat} (h : by_X1_take_z[j]? = some v) : RD cX1_take (16 + j) v := rd_z byo_X1_take byl_X1_take 1 rfl h
theorem dX1_take_0 : decode cX1_take 0 = .ok (.aload_n 0, 1) := dk_42 (byr_X1_take_0 (j := 0) rfl)
theorem dX1_take_1 : decode cX1_take 1 = .ok (.aload_n 1, 1) := dk_43 (byr_X1_take_0 (j := 1) rfl)
theorem dX1_take_2 : decode cX1_take 2 = .ok (.getfield 25, 3) := dk_180 (byr_X1_take_0 (j := 2) rfl) (byr_X1_take_0 (j := 3) rfl) (byr_X1_take_0 (j := 4) rfl) (by decide)
theorem dX1_take_5 : decode cX1_take 5 = .ok (.putfield 18, 3) := dk_181 (byr_X1_take_0 (j := 5) rfl) (byr_X1_take_0 (j := 6) rfl) (byr_X1_take_0 (j := 7) rfl) (by decide)
theorem dX1_take_8 : decode cX1_take 8 = .ok (.aload_n 1, 1) := dk_43 (byr_X1_take_0 (j := 8) rfl)
theorem dX1_take_9 : decode cX1_take 9 = .ok (.getfield 30, 3) := dk_180 (byr_X1_take_0 (j := 9) rfl) (byr_X1_take_0 (j := 10) rfl) (byr_X1_take_0 (j := 11) rfl) (by decide)
theorem dX1_take_12 : decode cX1_take 12 = .ok (.iconst 0, 1) := dk_3 (byr_X1_take_0 (j := 12) rfl)
theorem dX1_take_13 : decode cX1_take 13 = .ok (.aload_n 0, 1) := dk_42 (byr_X1_take_0 (j := 13) rfl)
theorem dX1_take_14 : decode cX1_take 14 = .ok (.getfield 9, 3) := dk_180 (byr_X1_take_0 (j := 14) rfl) (byr_X1_take_0 (j := 15) rfl) (byr_X1_take_1 (j := 0) rfl) (by decide)
theorem dX1_take_17 : decode cX1_take 17 = .ok (.iconst 0, 1) := dk_3 (byr_X1_take_1 (j := 1) rfl)
theorem dX1_take_18 : decode cX1_take 18 = .ok (.bipush 50, 2) := dk_16 (byr_X1_take_1 (j := 2) rfl) (byr_X1_take_1 (j := 3) rfl) (by decide)
theorem dX1_take_20 : decode cX1_take 20 = .ok (.invokestatic 31, 3) := dk_184 (byr_X1_take_1 (j := 4) rfl) (byr_X1_take_1 (j := 5) rfl) (byr_X1_take_1 (j := 6) rfl) (by decide)
theorem dX1_take_23 : decode cX1_take 23 = .ok (.return_, 1) := dk_177 (byr_X1_take_1 (j := 7) rfl)
set_option maxHeartbeats 4000000 in
set_option maxRecDepth 100000 in
theorem c_X1_take (l : Launch) (G : GT) (σ : Sto) (k0 : Nat) (hk0 : K0 k0 = 1) (r : Sto) (h : f_X1_take σ k0 = some r) : MW l G (2) (64) 0 0 yX1_take cX1_take 2 (Option.none : Option Jvm.ClassFile.FieldType) [.ref (gad G k0), .ref (gad G 55)] (wl G σ) (none) (wl G r) := by
  refine mw_of RX1 (fiV G) [(0, .ref (gad G k0)), (1, .ref (gad G 55))] (by decide +kernel) rfl (Nat.le_of_ble_eq_true rfl) rfl h rfl (fun p e s m args below meth c X hr hnm => ?_)
  unfold f_X1_take
  refine sm_aload_n X 1 0 dX1_take_0 rfl rfl rfl ?_
  refine sm_aload_n X 2 1 dX1_take_1 rfl rfl rfl ?_
  refine sm_geti X 5 rfl fd_3_1 dX1_take_2 rfl q_161 ?_
  refine sm_puti X 8 .int hk0 fd_1_3 (by decide) rfl rfl rfl dX1_take_5 rfl q_43 (fun σ5 e5 => ?_)
  clear e5
  refine sm_aload_n X 9 1 dX1_take_8 rfl rfl rfl ?_
  refine sm_getf X 12 56 rfl fd_3_0 rfl dX1_take_9 rfl q_159 ?_
  refine sm_iconst X 13 (0) dX1_take_12 rfl rfl ?_
  refine sm_aload_n X 14 0 dX1_take_13 rfl rfl rfl ?_
  refine sm_getf X 17 (A0 k0 1) hk0 fd_1_1 (fr_1_1 hk0).1 dX1_take_14 rfl q_41 ?_
  refine sm_iconst X 18 (0) dX1_take_17 rfl rfl ?_
  refine sm_bipush X 20 (50) dX1_take_18 rfl rfl ?_
  refine sm_copy X 23 rfl ((fr_1_1 hk0).2.1) dX1_take_20 rfl q_592 q_456 q_455 q_12 ⟨Nat.le_of_ble_eq_true rfl, Nat.le_of_ble_eq_true rfl⟩ (fun σ20 e20 => ?_)
  clear e20
  exact sm_vret X hr dX1_take_23 rfl
def by_X2_bestLane_0 : List Nat := [27, 3, 42, 180, 0, 19, 190, 4, 100, 184, 0, 43, 153, 0, 7, 3]
def by_X2_bestLane_z : List Nat := [167, 0, 9, 42, 180, 0, 19, 27, 46, 172]
def by_X2_bestLane : List (List Nat) := [by_X2_bestLane_0]
set_option maxRecDepth 100000 in
theorem byo_X2_bestLane : cX2_bestLane.data.toList.map UInt8.toNat = by_X2_bestLane.flatten ++ by_X2_bestLane_z := by decide +kernel
theorem byl_X2_bestLane : by_X2_bestLane.all (fun r => r.length == 16) = true := by decide +kernel
theorem byr_X2_bestLane_0 {j v : Nat} (h : by_X2_bestLane_0[j]? = some v) : RD cX2_bestLane (0 + j) v := rd_16 byo_X2_bestLane byl_X2_bestLane 0 rfl h
theorem byr_X2_bestLane_1 {j v : Nat} (h : by_X2_bestLane_z[j]? = some v) : RD cX2_bestLane (16 + j) v := rd_z byo_X2_bestLane byl_X2_bestLane 1 rfl h
theorem dX2_bestLane_0 : decode cX2_bestLane 0 = .ok (.iload_n 1, 1) := dk_27 (byr_X2_bestLane_0 (j := 0) rfl)
theorem dX2_bestLane_1 : decode cX2_bestLane 1 = .ok (.iconst 0, 1) := dk_3 (byr_X2_bestLane_0 (j := 1) rfl)
theorem dX2_bestLane_2 : decode cX2_bestLane 2 = .ok (.aload_n 0, 1) := dk_42 (byr_X2_bestLane_0 (j := 2) rfl)
theorem dX2_bestLane_3 : decode cX2_bestLane 3 = .ok (.getfield 19, 3) := dk_180 (byr_X2_bestLane_0 (j := 3) rfl) (byr_X2_bestLane_0 (j := 4) rfl) (byr_X2_bestLane_0 (j := 5) rfl) (by decide)
theorem dX2_bestLane_6 : decode cX2_bestLane 6 = .ok (.arraylength, 1) := dk_190 (byr_X2_bestLane_0 (j := 6) rfl)
theorem dX2_bestLane_7 : decode cX2_bestLane 7 = .ok (.iconst 1, 1) := dk_4 (byr_X2_bestLane_0 (j := 7) rfl)
theorem dX2_bestLane_8 : decode cX2_bestLane 8 = .ok (.isub, 1) := dk_100 (byr_X2_bestLane_0 (j := 8) rfl)
theorem dX2_bestLane_9 : decode cX2_bestLane 9 = .ok (.invokestatic 43, 3) := dk_184 (byr_X2_bestLane_0 (j := 9) rfl) (byr_X2_bestLane_0 (j := 10) rfl) (byr_X2_bestLane_0 (j := 11) rfl) (by decide)
theorem dX2_bestLane_12 : decode cX2_bestLane 12 = .ok (.ifCond .eq 7, 3) := dk_153 (byr_X2_bestLane_0 (j := 12) rfl) (byr_X2_bestLane_0 (j := 13) rfl) (byr_X2_bestLane_0 (j := 14) rfl) (by decide)
theorem dX2_bestLane_15 : decode cX2_bestLane 15 = .ok (.iconst 0, 1) := dk_3 (byr_X2_bestLane_0 (j := 15) rfl)
theorem dX2_bestLane_16 : decode cX2_bestLane 16 = .ok (.goto 9, 3) := dk_167 (byr_X2_bestLane_1 (j := 0) rfl) (byr_X2_bestLane_1 (j := 1) rfl) (byr_X2_bestLane_1 (j := 2) rfl) (by decide)
theorem dX2_bestLane_19 : decode cX2_bestLane 19 = .ok (.aload_n 0, 1) := dk_42 (byr_X2_bestLane_1 (j := 3) rfl)
theorem dX2_bestLane_20 : decode cX2_bestLane 20 = .ok (.getfield 19, 3) := dk_180 (byr_X2_bestLane_1 (j := 4) rfl) (byr_X2_bestLane_1 (j := 5) rfl) (byr_X2_bestLane_1 (j := 6) rfl) (by decide)
theorem dX2_bestLane_23 : decode cX2_bestLane 23 = .ok (.iload_n 1, 1) := dk_27 (byr_X2_bestLane_1 (j := 7) rfl)
theorem dX2_bestLane_24 : decode cX2_bestLane 24 = .ok (.iaload, 1) := dk_46 (byr_X2_bestLane_1 (j := 8) rfl)
theorem dX2_bestLane_25 : decode cX2_bestLane 25 = .ok (.ireturn, 1) := dk_172 (byr_X2_bestLane_1 (j := 9) rfl)
set_option maxHeartbeats 4000000 in
set_option maxRecDepth 100000 in
theorem c_X2_bestLane (l : Launch) (G : GT) (σ : Sto) (a1 : Int32) (r : Int32) (h : f_X2_bestLane σ a1 = some r) : MW l G (3) (86) 0 0 yX2_bestLane cX2_bestLane 2 (Option.some Jvm.ClassFile.FieldType.int) [.ref (gad G 60), .int a1] (wl G σ) (some (.int r)) (wl G σ) := by
  refine mw_of RX2 (fpI G σ) [(0, .ref (gad G 60)), (1, .int a1)] (by decide +kernel) rfl (Nat.le_of_ble_eq_true rfl) rfl h rfl (fun p e s m args below meth c X hr hnm => ?_)
  unfold f_X2_bestLane
  refine sm_iload_n X 1 1 dX2_bestLane_0 rfl rfl rfl ?_
  refine sm_iconst X 2 (0) dX2_bestLane_1 rfl rfl ?_
  refine sm_aload_n X 3 0 dX2_bestLane_2 rfl rfl rfl ?_
  refine sm_getf X 6 61 rfl fd_2_2 rfl dX2_bestLane_3 rfl q_220 ?_
  refine sm_alen X 7 4 (Or.inl rfl) rfl dX2_bestLane_6 rfl ?_
  refine sm_iconst X 8 (1) dX2_bestLane_7 rfl rfl ?_
  refine sm_isub X 9 dX2_bestLane_8 rfl ?_
  refine sm_bind (fun r9 h9 => ?_)
  refine sm_callSN0 X 12 (host := RX8) [.int a1, .int 0, .int ((4 : Int32) - (1 : Int32))] [] [.int (b2i r9)] (c_X8_isOutside l G σ a1 (0 : Int32) ((4 : Int32) - (1 : Int32)) r9 h9) cw_X8_isOutside q_328 (List.mem_of_getElem? (i := 12) rfl) rfl rfl rfl (Nat.le_of_ble_eq_true rfl) ⟨Nat.le_of_ble_eq_true rfl, Nat.le_of_ble_eq_true rfl⟩ ⟨Nat.le_refl _, Nat.le_refl _⟩ dX2_bestLane_9 rfl ?_
  refine sm_ifz_eq X 15 19 dX2_bestLane_12 rfl (by decide) (fun h12 => ?_) (fun h12 => ?_)
  · refine sm_iconst X 16 (0) dX2_bestLane_15 rfl rfl ?_
    refine sm_goto X 25 dX2_bestLane_16 (by decide) ?_
    exact sm_iret X hr dX2_bestLane_25 rfl
  · refine sm_aload_n X 20 0 dX2_bestLane_19 rfl rfl rfl ?_
    refine sm_getf X 23 61 rfl fd_2_2 rfl dX2_bestLane_20 rfl q_220 ?_
    refine sm_iload_n X 24 1 dX2_bestLane_23 rfl rfl rfl ?_
    refine sm_iald X 25 rfl dX2_bestLane_24 rfl (fun r24 e24 => ?_)
    clear e24
    exact sm_iret X hr dX2_bestLane_25 rfl
def by_X6_shore_z : List Nat := [42, 180, 0, 18, 154, 0, 7, 3, 167, 0, 6, 17, 4, 176, 172]
def by_X6_shore : List (List Nat) := []
set_option maxRecDepth 100000 in
theorem byo_X6_shore : cX6_shore.data.toList.map UInt8.toNat = by_X6_shore.flatten ++ by_X6_shore_z := by decide +kernel
theorem byl_X6_shore : by_X6_shore.all (fun r => r.length == 16) = true := by decide +kernel
theorem byr_X6_shore_0 {j v : Nat} (h : by_X6_shore_z[j]? = some v) : RD cX6_shore (0 + j) v := rd_z byo_X6_shore byl_X6_shore 0 rfl h
theorem dX6_shore_0 : decode cX6_shore 0 = .ok (.aload_n 0, 1) := dk_42 (byr_X6_shore_0 (j := 0) rfl)
theorem dX6_shore_1 : decode cX6_shore 1 = .ok (.getfield 18, 3) := dk_180 (byr_X6_shore_0 (j := 1) rfl) (byr_X6_shore_0 (j := 2) rfl) (byr_X6_shore_0 (j := 3) rfl) (by decide)
theorem dX6_shore_4 : decode cX6_shore 4 = .ok (.ifCond .ne 7, 3) := dk_154 (byr_X6_shore_0 (j := 4) rfl) (byr_X6_shore_0 (j := 5) rfl) (byr_X6_shore_0 (j := 6) rfl) (by decide)
theorem dX6_shore_7 : decode cX6_shore 7 = .ok (.iconst 0, 1) := dk_3 (byr_X6_shore_0 (j := 7) rfl)
theorem dX6_shore_8 : decode cX6_shore 8 = .ok (.goto 6, 3) := dk_167 (byr_X6_shore_0 (j := 8) rfl) (byr_X6_shore_0 (j := 9) rfl) (byr_X6_shore_0 (j := 10) rfl) (by decide)
theorem dX6_shore_11 : decode cX6_shore 11 = .ok (.sipush 1200, 3) := dk_17 (byr_X6_shore_0 (j := 11) rfl) (byr_X6_shore_0 (j := 12) rfl) (byr_X6_shore_0 (j := 13) rfl) (by decide)
theorem dX6_shore_14 : decode cX6_shore 14 = .ok (.ireturn, 1) := dk_172 (byr_X6_shore_0 (j := 14) rfl)
set_option maxHeartbeats 4000000 in
set_option maxRecDepth 100000 in
theorem c_X6_shore (l : Launch) (G : GT) (σ : Sto) (k0 : Nat) (hk0 : K0 k0 = 6) (r : Int32) (h : f_X6_shore σ k0 = some r) : MW l G (2) (64) 0 0 yX6_shore cX6_shore 1 (Option.some Jvm.ClassFile.FieldType.int) [.ref (gad G k0)] (wl G σ) (some (.int r)) (wl G σ) := by
  refine mw_of RX6 (fpI G σ) [(0, .ref (gad G k0))] (by decide +kernel) rfl (Nat.le_of_ble_eq_true rfl) rfl h rfl (fun p e s m args below meth c X hr hnm => ?_)
  unfold f_X6_shore
  refine sm_aload_n X 1 0 dX6_shore_0 rfl rfl rfl ?_
  refine sm_geti X 4 hk0 fd_6_2 dX6_shore_1 rfl q_65 ?_
  refine sm_if_ne X 7 11 dX6_shore_4 rfl (by decide) (fun h4 => ?_) (fun h4 => ?_)
  · refine sm_iconst X 8 (0) dX6_shore_7 rfl rfl ?_
    refine sm_goto X 14 dX6_shore_8 (by decide) ?_
    exact sm_iret X hr dX6_shore_14 rfl
  · refine sm_sipush X 14 (1200) dX6_shore_11 rfl rfl ?_
    exact sm_iret X hr dX6_shore_14 rfl
def by_X6_plainPace_0 : List Nat := [16, 20, 42, 180, 0, 21, 96, 27, 7, 108, 100, 61, 28, 8, 162, 0]
def by_X6_plainPace_z : List Nat := [7, 8, 167, 0, 4, 28, 172]
def by_X6_plainPace : List (List Nat) := [by_X6_plainPace_0]
set_option maxRecDepth 100000 in
theorem byo_X6_plainPace : cX6_plainPace.data.toList.map UInt8.toNat = by_X6_plainPace.flatten ++ by_X6_plainPace_z := by decide +kernel
theorem byl_X6_plainPace : by_X6_plainPace.all (fun r => r.length == 16) = true := by decide +kernel
theorem byr_X6_plainPace_0 {j v : Nat} (h : by_X6_plainPace_0[j]? = some v) : RD cX6_plainPace (0 + j) v := rd_16 byo_X6_plainPace byl_X6_plainPace 0 rfl h
theorem byr_X6_plainPace_1 {j v : Nat} (h : by_X6_plainPace_z[j]? = some v) : RD cX6_plainPace (16 + j) v := rd_z byo_X6_plainPace byl_X6_plainPace 1 rfl h
theorem dX6_plainPace_0 : decode cX6_plainPace 0 = .ok (.bipush 20, 2) := dk_16 (byr_X6_plainPace_0 (j := 0) rfl) (byr_X6_plainPace_0 (j := 1) rfl) (by decide)
theorem dX6_plainPace_2 : decode cX6_plainPace 2 = .ok (.aload_n 0, 1) := dk_42 (byr_X6_plainPace_0 (j := 2) rfl)
theorem dX6_plainPace_3 : decode cX6_plainPace 3 = .ok (.getfield 21, 3) := dk_180 (byr_X6_plainPace_0 (j := 3) rfl) (byr_X6_plainPace_0 (j := 4) rfl) (byr_X6_plainPace_0 (j := 5) rfl) (by decide)
theorem dX6_plainPace_6 : decode cX6_plainPace 6 = .ok (.iadd, 1) := dk_96 (byr_X6_plainPace_0 (j := 6) rfl)
theorem dX6_plainPace_7 : decode cX6_plainPace 7 = .ok (.iload_n 1, 1) := dk_27 (byr_X6_plainPace_0 (j := 7) rfl)
theorem dX6_plainPace_8 : decode cX6_plainPace 8 = .ok (.iconst 4, 1) := dk_7 (byr_X6_plainPace_0 (j := 8) rfl)
theorem dX6_plainPace_9 : decode cX6_plainPace 9 = .ok (.idiv, 1) := dk_108 (byr_X6_plainPace_0 (j := 9) rfl)
theorem dX6_plainPace_10 : decode cX6_plainPace 10 = .ok (.isub, 1) := dk_100 (byr_X6_plainPace_0 (j := 10) rfl)
theorem dX6_plainPace_11 : decode cX6_plainPace 11 = .ok (.istore_n 2, 1) := dk_61 (byr_X6_plainPace_0 (j := 11) rfl)
theorem dX6_plainPace_12 : decode cX6_plainPace 12 = .ok (.iload_n 2, 1) := dk_28 (byr_X6_plainPace_0 (j := 12) rfl)
theorem dX6_plainPace_13 : decode cX6_plainPace 13 = .ok (.iconst 5, 1) := dk_8 (byr_X6_plainPace_0 (j := 13) rfl)
theorem dX6_plainPace_14 : decode cX6_plainPace 14 = .ok (.if_icmp .ge 7, 3) := dk_162 (byr_X6_plainPace_0 (j := 14) rfl) (byr_X6_plainPace_0 (j := 15) rfl) (byr_X6_plainPace_1 (j := 0) rfl) (by decide)
theorem dX6_plainPace_17 : decode cX6_plainPace 17 = .ok (.iconst 5, 1) := dk_8 (byr_X6_plainPace_1 (j := 1) rfl)
theorem dX6_plainPace_18 : decode cX6_plainPace 18 = .ok (.goto 4, 3) := dk_167 (byr_X6_plainPace_1 (j := 2) rfl) (byr_X6_plainPace_1 (j := 3) rfl) (byr_X6_plainPace_1 (j := 4) rfl) (by decide)
theorem dX6_plainPace_21 : decode cX6_plainPace 21 = .ok (.iload_n 2, 1) := dk_28 (byr_X6_plainPace_1 (j := 5) rfl)
theorem dX6_plainPace_22 : decode cX6_plainPace 22 = .ok (.ireturn, 1) := dk_172 (byr_X6_plainPace_1 (j := 6) rfl)
set_option maxHeartbeats 4000000 in
set_option maxRecDepth 100000 in
theorem c_X6_plainPace (l : Launch) (G : GT) (σ : Sto) (k0 : Nat) (hk0 : K0 k0 = 6) (a1 : Int32) (r : Int32) (h : f_X6_plainPace σ k0 a1 = some r) : MW l G (2) (64) 0 0 yX6_plainPace cX6_plainPace 3 (Option.some Jvm.ClassFile.FieldType.int) [.ref (gad G k0), .int a1] (wl G σ) (some (.int r)) (wl G σ) := by
  refine mw_of RX6 (fpI G σ) [(0, .ref (gad G k0)), (1, .int a1)] (by decide +kernel) rfl (Nat.le_of_ble_eq_true rfl) rfl h rfl (fun p e s m args below meth c X hr hnm => ?_)
  unfold f_X6_plainPace
  refine sm_bipush X 2 (20) dX6_plainPace_0 rfl rfl ?_
  refine sm_aload_n X 3 0 dX6_plainPace_2 rfl rfl rfl ?_
  refine sm_geti X 6 hk0 fd_6_3 dX6_plainPace_3 rfl q_69 ?_
  refine sm_iadd X 7 dX6_plainPace_6 rfl ?_
  refine sm_iload_n X 8 1 dX6_plainPace_7 rfl rfl rfl ?_
  refine sm_iconst X 9 (4) dX6_plainPace_8 rfl rfl ?_
  refine sm_idiv X 10 dX6_plainPace_9 rfl (by first | decide | assumption) ?_
  refine sm_isub X 11 dX6_plainPace_10 rfl ?_
  refine sm_istore_n X 12 [(2, .int (((20 : Int32) + (σ.1 k0 3)) - (a1 / (4 : Int32)))), (0, .ref (gad G k0)), (1, .int a1)] dX6_plainPace_11 rfl rfl (by decide) rfl ?_
  refine sm_iload_n X 13 0 dX6_plainPace_12 rfl rfl rfl ?_
  refine sm_iconst X 14 (5) dX6_plainPace_13 rfl rfl ?_
  refine sm_icmp_ge X 17 21 dX6_plainPace_14 rfl (by decide) (fun h14 => ?_) (fun h14 => ?_)
  · refine sm_iload_n X 22 0 dX6_plainPace_21 rfl rfl rfl ?_
    exact sm_iret X hr dX6_plainPace_22 rfl
  · refine sm_iconst X 18 (5) dX6_plainPace_17 rfl rfl ?_
    refine sm_goto X 22 dX6_plainPace_18 (by decide) ?_
    exact sm_iret X hr dX6_plainPace_22 rfl
def by_X6_paceIn_0 : List Nat := [42, 27, 182, 0, 48, 61, 27, 42, 180, 0, 15, 162, 0, 10, 28, 16]
def by_X6_paceIn_1 : List Nat := [20, 96, 167, 0, 6, 28, 5, 108, 62, 42, 180, 0, 9, 170, 0, 0]
def by_X6_paceIn_2 : List Nat := [0, 0, 0, 89, 0, 0, 0, 1, 0, 0, 0, 6, 0, 0, 0, 39]
def by_X6_paceIn_3 : List Nat := [0, 0, 0, 41, 0, 0, 0, 48, 0, 0, 0, 50, 0, 0, 0, 61]
def by_X6_paceIn_4 : List Nat := [0, 0, 0, 72, 29, 172, 28, 42, 180, 0, 15, 96, 172, 8, 172, 27]
def by_X6_paceIn_5 : List Nat := [6, 163, 0, 7, 3, 167, 0, 4, 29, 172, 42, 3, 182, 0, 48, 42]
def by_X6_paceIn_6 : List Nat := [180, 0, 15, 96, 172, 27, 16, 10, 112, 42, 180, 0, 15, 160, 0, 7]
def by_X6_paceIn_z : List Nat := [3, 167, 0, 4, 8, 172, 28, 172]
def by_X6_paceIn : List (List Nat) := [by_X6_paceIn_0, by_X6_paceIn_1, by_X6_paceIn_2, by_X6_paceIn_3, by_X6_paceIn_4, by_X6_paceIn_5, by_X6_paceIn_6]
set_option maxRecDepth 100000 in
theorem byo_X6_paceIn : cX6_paceIn.data.toList.map UInt8.toNat = by_X6_paceIn.flatten ++ by_X6_paceIn_z := by decide +kernel
theorem byl_X6_paceIn : by_X6_paceIn.all (fun r => r.length == 16) = true := by decide +kernel
theorem byr_X6_paceIn_0 {j v : Nat} (h : by_X6_paceIn_0[j]? = some v) : RD cX6_paceIn (0 + j) v := rd_16 byo_X6_paceIn byl_X6_paceIn 0 rfl h
theorem byr_X6_paceIn_1 {j v : Nat} (h : by_X6_paceIn_1[j]? = some v) : RD cX6_paceIn (16 + j) v := rd_16 byo_X6_paceIn byl_X6_paceIn 1 rfl h
theorem byr_X6_paceIn_2 {j v : Nat} (h : by_X6_paceIn_2[j]? = some v) : RD cX6_paceIn (32 + j) v := rd_16 byo_X6_paceIn byl_X6_paceIn 2 rfl h
theorem byr_X6_paceIn_3 {j v : Nat} (h : by_X6_paceIn_3[j]? = some v) : RD cX6_paceIn (48 + j) v := rd_16 byo_X6_paceIn byl_X6_paceIn 3 rfl h
theorem byr_X6_paceIn_4 {j v : Nat} (h : by_X6_paceIn_4[j]? = some v) : RD cX6_paceIn (64 + j) v := rd_16 byo_X6_paceIn byl_X6_paceIn 4 rfl h
theorem byr_X6_paceIn_5 {j v : Nat} (h : by_X6_paceIn_5[j]? = some v) : RD cX6_paceIn (80 + j) v := rd_16 byo_X6_paceIn byl_X6_paceIn 5 rfl h
theorem byr_X6_paceIn_6 {j v : Nat} (h : by_X6_paceIn_6[j]? = some v) : RD cX6_paceIn (96 + j) v := rd_16 byo_X6_paceIn byl_X6_paceIn 6 rfl h
theorem byr_X6_paceIn_7 {j v : Nat} (h : by_X6_paceIn_z[j]? = some v) : RD cX6_paceIn (112 + j) v := rd_z byo_X6_paceIn byl_X6_paceIn 7 rfl h
theorem dX6_paceIn_0 : decode cX6_paceIn 0 = .ok (.aload_n 0, 1) := dk_42 (byr_X6_paceIn_0 (j := 0) rfl)
theorem dX6_paceIn_1 : decode cX6_paceIn 1 = .ok (.iload_n 1, 1) := dk_27 (byr_X6_paceIn_0 (j := 1) rfl)
theorem dX6_paceIn_2 : decode cX6_paceIn 2 = .ok (.invokevirtual 48, 3) := dk_182 (byr_X6_paceIn_0 (j := 2) rfl) (byr_X6_paceIn_0 (j := 3) rfl) (byr_X6_paceIn_0 (j := 4) rfl) (by decide)
theorem dX6_paceIn_5 : decode cX6_paceIn 5 = .ok (.istore_n 2, 1) := dk_61 (byr_X6_paceIn_0 (j := 5) rfl)
theorem dX6_paceIn_6 : decode cX6_paceIn 6 = .ok (.iload_n 1, 1) := dk_27 (byr_X6_paceIn_0 (j := 6) rfl)
theorem dX6_paceIn_7 : decode cX6_paceIn 7 = .ok (.aload_n 0, 1) := dk_42 (byr_X6_paceIn_0 (j := 7) rfl)
theorem dX6_paceIn_8 : decode cX6_paceIn 8 = .ok (.getfield 15, 3) := dk_180 (byr_X6_paceIn_0 (j := 8) rfl) (byr_X6_paceIn_0 (j := 9) rfl) (byr_X6_paceIn_0 (j := 10) rfl) (by decide)
theorem dX6_paceIn_11 : decode cX6_paceIn 11 = .ok (.if_icmp .ge 10, 3) := dk_162 (byr_X6_paceIn_0 (j := 11) rfl) (byr_X6_paceIn_0 (j := 12) rfl) (byr_X6_paceIn_0 (j := 13) rfl) (by decide)
theorem dX6_paceIn_14 : decode cX6_paceIn 14 = .ok (.iload_n 2, 1) := dk_28 (byr_X6_paceIn_0 (j := 14) rfl)
theorem dX6_paceIn_15 : decode cX6_paceIn 15 = .ok (.bipush 20, 2) := dk_16 (byr_X6_paceIn_0 (j := 15) rfl) (byr_X6_paceIn_1 (j := 0) rfl) (by decide)
theorem dX6_paceIn_17 : decode cX6_paceIn 17 = .ok (.iadd, 1) := dk_96 (byr_X6_paceIn_1 (j := 1) rfl)
theorem dX6_paceIn_18 : decode cX6_paceIn 18 = .ok (.goto 6, 3) := dk_167 (byr_X6_paceIn_1 (j := 2) rfl) (byr_X6_paceIn_1 (j := 3) rfl) (byr_X6_paceIn_1 (j := 4) rfl) (by decide)
theorem dX6_paceIn_21 : decode cX6_paceIn 21 = .ok (.iload_n 2, 1) := dk_28 (byr_X6_paceIn_1 (j := 5) rfl)
theorem dX6_paceIn_22 : decode cX6_paceIn 22 = .ok (.iconst 2, 1) := dk_5 (byr_X6_paceIn_1 (j := 6) rfl)
theorem dX6_paceIn_23 : decode cX6_paceIn 23 = .ok (.idiv, 1) := dk_108 (byr_X6_paceIn_1 (j := 7) rfl)
theorem dX6_paceIn_24 : decode cX6_paceIn 24 = .ok (.istore_n 3, 1) := dk_62 (byr_X6_paceIn_1 (j := 8) rfl)
theorem dX6_paceIn_25 : decode cX6_paceIn 25 = .ok (.aload_n 0, 1) := dk_42 (byr_X6_paceIn_1 (j := 9) rfl)
theorem dX6_paceIn_26 : decode cX6_paceIn 26 = .ok (.getfield 9, 3) := dk_180 (byr_X6_paceIn_1 (j := 10) rfl) (byr_X6_paceIn_1 (j := 11) rfl) (byr_X6_paceIn_1 (j := 12) rfl) (by decide)
set_option maxRecDepth 20000 in
theorem dX6_paceIn_29 : decode cX6_paceIn 29 = .ok (.tableswitch 89 1 6 #[39, 41, 48, 50, 61, 72], 39) := by decide +kernel
theorem dX6_paceIn_68 : decode cX6_paceIn 68 = .ok (.iload_n 3, 1) := dk_29 (byr_X6_paceIn_4 (j := 4) rfl)
theorem dX6_paceIn_69 : decode cX6_paceIn 69 = .ok (.ireturn, 1) := dk_172 (byr_X6_paceIn_4 (j := 5) rfl)
theorem dX6_paceIn_70 : decode cX6_paceIn 70 = .ok (.iload_n 2, 1) := dk_28 (byr_X6_paceIn_4 (j := 6) rfl)
theorem dX6_paceIn_71 : decode cX6_paceIn 71 = .ok (.aload_n 0, 1) := dk_42 (byr_X6_paceIn_4 (j := 7) rfl)
theorem dX6_paceIn_72 : decode cX6_paceIn 72 = .ok (.getfield 15, 3) := dk_180 (byr_X6_paceIn_4 (j := 8) rfl) (byr_X6_paceIn_4 (j := 9) rfl) (byr_X6_paceIn_4 (j := 10) rfl) (by decide)
theorem dX6_paceIn_75 : decode cX6_paceIn 75 = .ok (.iadd, 1) := dk_96 (byr_X6_paceIn_4 (j := 11) rfl)
theorem dX6_paceIn_76 : decode cX6_paceIn 76 = .ok (.ireturn, 1) := dk_172 (byr_X6_paceIn_4 (j := 12) rfl)
theorem dX6_paceIn_77 : decode cX6_paceIn 77 = .ok (.iconst 5, 1) := dk_8 (byr_X6_paceIn_4 (j := 13) rfl)
theorem dX6_paceIn_78 : decode cX6_paceIn 78 = .ok (.ireturn, 1) := dk_172 (byr_X6_paceIn_4 (j := 14) rfl)
theorem dX6_paceIn_79 : decode cX6_paceIn 79 = .ok (.iload_n 1, 1) := dk_27 (byr_X6_paceIn_4 (j := 15) rfl)
theorem dX6_paceIn_80 : decode cX6_paceIn 80 = .ok (.iconst 3, 1) := dk_6 (byr_X6_paceIn_5 (j := 0) rfl)
theorem dX6_paceIn_81 : decode cX6_paceIn 81 = .ok (.if_icmp .gt 7, 3) := dk_163 (byr_X6_paceIn_5 (j := 1) rfl) (byr_X6_paceIn_5 (j := 2) rfl) (byr_X6_paceIn_5 (j := 3) rfl) (by decide)
theorem dX6_paceIn_84 : decode cX6_paceIn 84 = .ok (.iconst 0, 1) := dk_3 (byr_X6_paceIn_5 (j := 4) rfl)
theorem dX6_paceIn_85 : decode cX6_paceIn 85 = .ok (.goto 4, 3) := dk_167 (byr_X6_paceIn_5 (j := 5) rfl) (byr_X6_paceIn_5 (j := 6) rfl) (byr_X6_paceIn_5 (j := 7) rfl) (by decide)
theorem dX6_paceIn_88 : decode cX6_paceIn 88 = .ok (.iload_n 3, 1) := dk_29 (byr_X6_paceIn_5 (j := 8) rfl)
theorem dX6_paceIn_89 : decode cX6_paceIn 89 = .ok (.ireturn, 1) := dk_172 (byr_X6_paceIn_5 (j := 9) rfl)
theorem dX6_paceIn_90 : decode cX6_paceIn 90 = .ok (.aload_n 0, 1) := dk_42 (byr_X6_paceIn_5 (j := 10) rfl)
theorem dX6_paceIn_91 : decode cX6_paceIn 91 = .ok (.iconst 0, 1) := dk_3 (byr_X6_paceIn_5 (j := 11) rfl)
theorem dX6_paceIn_92 : decode cX6_paceIn 92 = .ok (.invokevirtual 48, 3) := dk_182 (byr_X6_paceIn_5 (j := 12) rfl) (byr_X6_paceIn_5 (j := 13) rfl) (byr_X6_paceIn_5 (j := 14) rfl) (by decide)
theorem dX6_paceIn_95 : decode cX6_paceIn 95 = .ok (.aload_n 0, 1) := dk_42 (byr_X6_paceIn_5 (j := 15) rfl)
theorem dX6_paceIn_96 : decode cX6_paceIn 96 = .ok (.getfield 15, 3) := dk_180 (byr_X6_paceIn_6 (j := 0) rfl) (byr_X6_paceIn_6 (j := 1) rfl) (byr_X6_paceIn_6 (j := 2) rfl) (by decide)
theorem dX6_paceIn_99 : decode cX6_paceIn 99 = .ok (.iadd, 1) := dk_96 (byr_X6_paceIn_6 (j := 3) rfl)
theorem dX6_paceIn_100 : decode cX6_paceIn 100 = .ok (.ireturn, 1) := dk_172 (byr_X6_paceIn_6 (j := 4) rfl)
theorem dX6_paceIn_101 : decode cX6_paceIn 101 = .ok (.iload_n 1, 1) := dk_27 (byr_X6_paceIn_6 (j := 5) rfl)
theorem dX6_paceIn_102 : decode cX6_paceIn 102 = .ok (.bipush 10, 2) := dk_16 (byr_X6_paceIn_6 (j := 6) rfl) (byr_X6_paceIn_6 (j := 7) rfl) (by decide)
theorem dX6_paceIn_104 : decode cX6_paceIn 104 = .ok (.irem, 1) := dk_112 (byr_X6_paceIn_6 (j := 8) rfl)
theorem dX6_paceIn_105 : decode cX6_paceIn 105 = .ok (.aload_n 0, 1) := dk_42 (byr_X6_paceIn_6 (j := 9) rfl)
theorem dX6_paceIn_106 : decode cX6_paceIn 106 = .ok (.getfield 15, 3) := dk_180 (byr_X6_paceIn_6 (j := 10) rfl) (byr_X6_paceIn_6 (j := 11) rfl) (byr_X6_paceIn_6 (j := 12) rfl) (by decide)
theorem dX6_paceIn_109 : decode cX6_paceIn 109 = .ok (.if_icmp .ne 7, 3) := dk_160 (byr_X6_paceIn_6 (j := 13) rfl) (byr_X6_paceIn_6 (j := 14) rfl) (byr_X6_paceIn_6 (j := 15) rfl) (by decide)
theorem dX6_paceIn_112 : decode cX6_paceIn 112 = .ok (.iconst 0, 1) := dk_3 (byr_X6_paceIn_7 (j := 0) rfl)
theorem dX6_paceIn_113 : decode cX6_paceIn 113 = .ok (.goto 4, 3) := dk_167 (byr_X6_paceIn_7 (j := 1) rfl) (byr_X6_paceIn_7 (j := 2) rfl) (byr_X6_paceIn_7 (j := 3) rfl) (by decide)
theorem dX6_paceIn_116 : decode cX6_paceIn 116 = .ok (.iconst 5, 1) := dk_8 (byr_X6_paceIn_7 (j := 4) rfl)
theorem dX6_paceIn_117 : decode cX6_paceIn 117 = .ok (.ireturn, 1) := dk_172 (byr_X6_paceIn_7 (j := 5) rfl)
theorem dX6_paceIn_118 : decode cX6_paceIn 118 = .ok (.iload_n 2, 1) := dk_28 (byr_X6_paceIn_7 (j := 6) rfl)
theorem dX6_paceIn_119 : decode cX6_paceIn 119 = .ok (.ireturn, 1) := dk_172 (byr_X6_paceIn_7 (j := 7) rfl)
set_option maxHeartbeats 4000000 in
set_option maxRecDepth 100000 in
theorem c_X6_paceIn (l : Launch) (G : GT) (σ : Sto) (k0 : Nat) (hk0 : K0 k0 = 6) (a1 : Int32) (r : Int32) (h : f_X6_paceIn σ k0 a1 = some r) : MW l G (3) (86) 0 0 yX6_paceIn cX6_paceIn 4 (Option.some Jvm.ClassFile.FieldType.int) [.ref (gad G k0), .int a1] (wl G σ) (some (.int r)) (wl G σ) := by
  refine mw_of RX6 (fpI G σ) [(0, .ref (gad G k0)), (1, .int a1)] (by decide +kernel) rfl (Nat.le_of_ble_eq_true rfl) rfl h rfl (fun p e s m args below meth c X hr hnm => ?_)
  have J24 : ∀ (k0 : Nat) (hk0 : K0 k0 = 6) (v1 : Int32) (v2 : Int32) (vs0 : Int32)  , Sm p l e { frames := 3, cells := 0, slots := 0, locals := 86 } s m args below meth c G 4 (Qm below args s G 0 0 (fpI G σ)) 0 0 (wl G σ) 24 [(0, .ref (gad G k0)), (1, .int v1), (2, .int v2)] [.int vs0] (f_X6_paceIn_L24 σ  k0 v1 v2 vs0) := by
    intro k0 hk0 v1 v2 vs0
    rw [f_X6_paceIn_L24]
    refine sm_istore_n X 25 [(3, .int vs0), (0, .ref (gad G k0)), (1, .int v1), (2, .int v2)] dX6_paceIn_24 rfl rfl (by decide) rfl ?_
    refine sm_aload_n X 26 1 dX6_paceIn_25 rfl rfl rfl ?_
    refine sm_geti X 29 hk0 fd_6_0 dX6_paceIn_26 rfl q_59 ?_
    refine sm_if (fun h29_0 => ?_) (fun h29_0 => ?_)
    · refine sm_table X 68 dX6_paceIn_29 (by rw [h29_0]; decide) (by rw [h29_0]; decide) (by first | (rw [h29_0]; done) | (rw [h29_0]; rfl)) (by decide) ?_
      refine sm_iload_n X 69 0 dX6_paceIn_68 rfl rfl rfl ?_
      exact sm_iret X hr dX6_paceIn_69 rfl
    refine sm_if (fun h29_1 => ?_) (fun h29_1 => ?_)
    · refine sm_table X 70 dX6_paceIn_29 (by rw [h29_1]; decide) (by rw [h29_1]; decide) (by first | (rw [h29_1]; done) | (rw [h29_1]; rfl)) (by decide) ?_
      refine sm_iload_n X 71 3 dX6_paceIn_70 rfl rfl rfl ?_
      refine sm_aload_n X 72 1 dX6_paceIn_71 rfl rfl rfl ?_
      refine sm_geti X 75 hk0 fd_6_1 dX6_paceIn_72 rfl q_62 ?_
      refine sm_iadd X 76 dX6_paceIn_75 rfl ?_
      exact sm_iret X hr dX6_paceIn_76 rfl
    refine sm_if (fun h29_2 => ?_) (fun h29_2 => ?_)
    · refine sm_table X 77 dX6_paceIn_29 (by rw [h29_2]; decide) (by rw [h29_2]; decide) (by first | (rw [h29_2]; done) | (rw [h29_2]; rfl)) (by decide) ?_
      refine sm_iconst X 78 (5) dX6_paceIn_77 rfl rfl ?_
      exact sm_iret X hr dX6_paceIn_78 rfl
    refine sm_if (fun h29_3 => ?_) (fun h29_3 => ?_)
    · refine sm_table X 79 dX6_paceIn_29 (by rw [h29_3]; decide) (by rw [h29_3]; decide) (by first | (rw [h29_3]; done) | (rw [h29_3]; rfl)) (by decide) ?_
      refine sm_iload_n X 80 2 dX6_paceIn_79 rfl rfl rfl ?_
      refine sm_iconst X 81 (3) dX6_paceIn_80 rfl rfl ?_
      refine sm_icmp_gt X 84 88 dX6_paceIn_81 rfl (by decide) (fun h81 => ?_) (fun h81 => ?_)
      · refine sm_iload_n X 89 0 dX6_paceIn_88 rfl rfl rfl ?_
        exact sm_iret X hr dX6_paceIn_89 rfl
      · refine sm_iconst X 85 (0) dX6_paceIn_84 rfl rfl ?_
        refine sm_goto X 89 dX6_paceIn_85 (by decide) ?_
        exact sm_iret X hr dX6_paceIn_89 rfl
    refine sm_if (fun h29_4 => ?_) (fun h29_4 => ?_)
    · refine sm_table X 90 dX6_paceIn_29 (by rw [h29_4]; decide) (by rw [h29_4]; decide) (by first | (rw [h29_4]; done) | (rw [h29_4]; rfl)) (by decide) ?_
      refine sm_aload_n X 91 1 dX6_paceIn_90 rfl rfl rfl ?_
      refine sm_iconst X 92 (0) dX6_paceIn_91 rfl rfl ?_
      refine sm_bind (fun r92 h92 => ?_)
      refine sm_callV0 X 95 [.int 0] [] [.int r92] (c_X6_plainPace l G σ k0 hk0 (0 : Int32) r92 h92) cw_X6_plainPace q_431 qs_2 q_429 hk0 (by decide) rfl rfl rfl rfl rfl (Nat.le_of_ble_eq_true rfl) ⟨Nat.le_of_ble_eq_true rfl, Nat.le_of_ble_eq_true rfl⟩ ⟨Nat.le_refl _, Nat.le_refl _⟩ dX6_paceIn_92 rfl ?_
      refine sm_aload_n X 96 1 dX6_paceIn_95 rfl rfl rfl ?_
      refine sm_geti X 99 hk0 fd_6_1 dX6_paceIn_96 rfl q_62 ?_
      refine sm_iadd X 100 dX6_paceIn_99 rfl ?_
      exact sm_iret X hr dX6_paceIn_100 rfl
    refine sm_if (fun h29_5 => ?_) (fun h29_5 => ?_)
    · refine sm_table X 101 dX6_paceIn_29 (by rw [h29_5]; decide) (by rw [h29_5]; decide) (by first | (rw [h29_5]; done) | (rw [h29_5]; rfl)) (by decide) ?_
      refine sm_iload_n X 102 2 dX6_paceIn_101 rfl rfl rfl ?_
      refine sm_bipush X 104 (10) dX6_paceIn_102 rfl rfl ?_
      refine sm_irem X 105 dX6_paceIn_104 rfl (by first | decide | assumption) ?_
      refine sm_aload_n X 106 1 dX6_paceIn_105 rfl rfl rfl ?_
      refine sm_geti X 109 hk0 fd_6_1 dX6_paceIn_106 rfl q_62 ?_
      refine sm_icmp_ne X 112 116 dX6_paceIn_109 rfl (by decide) (fun h109 => ?_) (fun h109 => ?_)
      · refine sm_iconst X 113 (0) dX6_paceIn_112 rfl rfl ?_
        refine sm_goto X 117 dX6_paceIn_113 (by decide) ?_
        exact sm_iret X hr dX6_paceIn_117 rfl
      · refine sm_iconst X 117 (5) dX6_paceIn_116 rfl rfl ?_
        exact sm_iret X hr dX6_paceIn_117 rfl
    have q0 : ¬ ((σ.1 k0 0)).toInt = 1 := ne_toInt h29_0
    have q1 : ¬ ((σ.1 k0 0)).toInt = 2 := ne_toInt h29_1
    have q2 : ¬ ((σ.1 k0 0)).toInt = 3 := ne_toInt h29_2
    have q3 : ¬ ((σ.1 k0 0)).toInt = 4 := ne_toInt h29_3
    have q4 : ¬ ((σ.1 k0 0)).toInt = 5 := ne_toInt h29_4
    have q5 : ¬ ((σ.1 k0 0)).toInt = 6 := ne_toInt h29_5
    refine sm_tableD X 118 dX6_paceIn_29 (by omega) (by decide) ?_
    refine sm_iload_n X 119 3 dX6_paceIn_118 rfl rfl rfl ?_
    exact sm_iret X hr dX6_paceIn_119 rfl
  unfold f_X6_paceIn
  refine sm_aload_n X 1 0 dX6_paceIn_0 rfl rfl rfl ?_
  refine sm_iload_n X 2 1 dX6_paceIn_1 rfl rfl rfl ?_
  refine sm_bind (fun r2 h2 => ?_)
  refine sm_callV0 X 5 [.int a1] [] [.int r2] (c_X6_plainPace l G σ k0 hk0 a1 r2 h2) cw_X6_plainPace q_431 qs_2 q_429 hk0 (by decide) rfl rfl rfl rfl rfl (Nat.le_of_ble_eq_true rfl) ⟨Nat.le_of_ble_eq_true rfl, Nat.le_of_ble_eq_true rfl⟩ ⟨Nat.le_refl _, Nat.le_refl _⟩ dX6_paceIn_2 rfl ?_
  refine sm_istore_n X 6 [(2, .int r2), (0, .ref (gad G k0)), (1, .int a1)] dX6_paceIn_5 rfl rfl (by decide) rfl ?_
  refine sm_iload_n X 7 2 dX6_paceIn_6 rfl rfl rfl ?_
  refine sm_aload_n X 8 1 dX6_paceIn_7 rfl rfl rfl ?_
  refine sm_geti X 11 hk0 fd_6_1 dX6_paceIn_8 rfl q_62 ?_
  refine sm_icmp_ge X 14 21 dX6_paceIn_11 rfl (by decide) (fun h11 => ?_) (fun h11 => ?_)
  · refine sm_iload_n X 22 0 dX6_paceIn_21 rfl rfl rfl ?_
    refine sm_iconst X 23 (2) dX6_paceIn_22 rfl rfl ?_
    refine sm_idiv X 24 dX6_paceIn_23 rfl (by first | decide | assumption) ?_
    exact sm_sub [1, 2, 0] rfl (J24 k0 hk0 a1 r2 (r2 / (2 : Int32)))
  · refine sm_iload_n X 15 0 dX6_paceIn_14 rfl rfl rfl ?_
    refine sm_bipush X 17 (20) dX6_paceIn_15 rfl rfl ?_
    refine sm_iadd X 18 dX6_paceIn_17 rfl ?_
    refine sm_goto X 24 dX6_paceIn_18 (by decide) ?_
    exact sm_sub [1, 2, 0] rfl (J24 k0 hk0 a1 r2 (r2 + (20 : Int32)))
def by_X6_laneOf_0 : List Nat := [27, 155, 0, 12, 27, 42, 180, 0, 27, 190, 161, 0, 7, 3, 167, 0]
def by_X6_laneOf_z : List Nat := [9, 42, 180, 0, 27, 27, 46, 172]
def by_X6_laneOf : List (List Nat) := [by_X6_laneOf_0]
set_option maxRecDepth 100000 in
theorem byo_X6_laneOf : cX6_laneOf.data.toList.map UInt8.toNat = by_X6_laneOf.flatten ++ by_X6_laneOf_z := by decide +kernel
theorem byl_X6_laneOf : by_X6_laneOf.all (fun r => r.length == 16) = true := by decide +kernel
theorem byr_X6_laneOf_0 {j v : Nat} (h : by_X6_laneOf_0[j]? = some v) : RD cX6_laneOf (0 + j) v := rd_16 byo_X6_laneOf byl_X6_laneOf 0 rfl h
theorem byr_X6_laneOf_1 {j v : Nat} (h : by_X6_laneOf_z[j]? = some v) : RD cX6_laneOf (16 + j) v := rd_z byo_X6_laneOf byl_X6_laneOf 1 rfl h
theorem dX6_laneOf_0 : decode cX6_laneOf 0 = .ok (.iload_n 1, 1) := dk_27 (byr_X6_laneOf_0 (j := 0) rfl)
theorem dX6_laneOf_1 : decode cX6_laneOf 1 = .ok (.ifCond .lt 12, 3) := dk_155 (byr_X6_laneOf_0 (j := 1) rfl) (byr_X6_laneOf_0 (j := 2) rfl) (byr_X6_laneOf_0 (j := 3) rfl) (by decide)
theorem dX6_laneOf_4 : decode cX6_laneOf 4 = .ok (.iload_n 1, 1) := dk_27 (byr_X6_laneOf_0 (j := 4) rfl)
theorem dX6_laneOf_5 : decode cX6_laneOf 5 = .ok (.aload_n 0, 1) := dk_42 (byr_X6_laneOf_0 (j := 5) rfl)
theorem dX6_laneOf_6 : decode cX6_laneOf 6 = .ok (.getfield 27, 3) := dk_180 (byr_X6_laneOf_0 (j := 6) rfl) (byr_X6_laneOf_0 (j := 7) rfl) (byr_X6_laneOf_0 (j := 8) rfl) (by decide)
theorem dX6_laneOf_9 : decode cX6_laneOf 9 = .ok (.arraylength, 1) := dk_190 (byr_X6_laneOf_0 (j := 9) rfl)
theorem dX6_laneOf_10 : decode cX6_laneOf 10 = .ok (.if_icmp .lt 7, 3) := dk_161 (byr_X6_laneOf_0 (j := 10) rfl) (byr_X6_laneOf_0 (j := 11) rfl) (byr_X6_laneOf_0 (j := 12) rfl) (by decide)
theorem dX6_laneOf_13 : decode cX6_laneOf 13 = .ok (.iconst 0, 1) := dk_3 (byr_X6_laneOf_0 (j := 13) rfl)
theorem dX6_laneOf_14 : decode cX6_laneOf 14 = .ok (.goto 9, 3) := dk_167 (byr_X6_laneOf_0 (j := 14) rfl) (byr_X6_laneOf_0 (j := 15) rfl) (byr_X6_laneOf_1 (j := 0) rfl) (by decide)
theorem dX6_laneOf_17 : decode cX6_laneOf 17 = .ok (.aload_n 0, 1) := dk_42 (byr_X6_laneOf_1 (j := 1) rfl)
theorem dX6_laneOf_18 : decode cX6_laneOf 18 = .ok (.getfield 27, 3) := dk_180 (byr_X6_laneOf_1 (j := 2) rfl) (byr_X6_laneOf_1 (j := 3) rfl) (byr_X6_laneOf_1 (j := 4) rfl) (by decide)
theorem dX6_laneOf_21 : decode cX6_laneOf 21 = .ok (.iload_n 1, 1) := dk_27 (byr_X6_laneOf_1 (j := 5) rfl)
theorem dX6_laneOf_22 : decode cX6_laneOf 22 = .ok (.iaload, 1) := dk_46 (byr_X6_laneOf_1 (j := 6) rfl)
theorem dX6_laneOf_23 : decode cX6_laneOf 23 = .ok (.ireturn, 1) := dk_172 (byr_X6_laneOf_1 (j := 7) rfl)
set_option maxHeartbeats 4000000 in
set_option maxRecDepth 100000 in
theorem c_X6_laneOf (l : Launch) (G : GT) (σ : Sto) (k0 : Nat) (hk0 : K0 k0 = 6) (a1 : Int32) (r : Int32) (h : f_X6_laneOf σ k0 a1 = some r) : MW l G (2) (64) 0 0 yX6_laneOf cX6_laneOf 2 (Option.some Jvm.ClassFile.FieldType.int) [.ref (gad G k0), .int a1] (wl G σ) (some (.int r)) (wl G σ) := by
  refine mw_of RX6 (fpI G σ) [(0, .ref (gad G k0)), (1, .int a1)] (by decide +kernel) rfl (Nat.le_of_ble_eq_true rfl) rfl h rfl (fun p e s m args below meth c X hr hnm => ?_)
  have J13 : ∀ (_ : Unit), Sm p l e { frames := 2, cells := 0, slots := 0, locals := 64 } s m args below meth c G 2 (Qm below args s G 0 0 (fpI G σ)) 0 0 (wl G σ) 13 [] [] (f_X6_laneOf_L13 σ  ) := by
    intro _
    rw [f_X6_laneOf_L13]
    refine sm_iconst X 14 (0) dX6_laneOf_13 rfl rfl ?_
    refine sm_goto X 23 dX6_laneOf_14 (by decide) ?_
    exact sm_iret X hr dX6_laneOf_23 rfl
  unfold f_X6_laneOf
  refine sm_iload_n X 1 1 dX6_laneOf_0 rfl rfl rfl ?_
  refine sm_if_lt X 4 13 dX6_laneOf_1 rfl (by decide) (fun h1 => ?_) (fun h1 => ?_)
  · exact sm_sub [] rfl (J13 ())
  · refine sm_iload_n X 5 1 dX6_laneOf_4 rfl rfl rfl ?_
    refine sm_aload_n X 6 0 dX6_laneOf_5 rfl rfl rfl ?_
    refine sm_getf X 9 (A0 k0 5) hk0 fd_6_5 (fr_6_5 hk0).1 dX6_laneOf_6 rfl q_73 ?_
    refine sm_alen X 10 4 (Or.inl ((fr_6_5 hk0).2.1)) (by rw [(fr_6_5 hk0).2.2]; rfl) dX6_laneOf_9 rfl ?_
    refine sm_icmp_lt X 13 17 dX6_laneOf_10 rfl (by decide) (fun h10 => ?_) (fun h10 => ?_)
    · refine sm_aload_n X 18 0 dX6_laneOf_17 rfl rfl rfl ?_
      refine sm_getf X 21 (A0 k0 5) hk0 fd_6_5 (fr_6_5 hk0).1 dX6_laneOf_18 rfl q_73 ?_
      refine sm_iload_n X 22 1 dX6_laneOf_21 rfl rfl rfl ?_
      refine sm_iald X 23 ((fr_6_5 hk0).2.1) dX6_laneOf_22 rfl (fun r22 e22 => ?_)
      clear e22
      exact sm_iret X hr dX6_laneOf_23 rfl
    · exact sm_sub [] rfl (J13 ())
def by_X6_laneIn_0 : List Nat := [27, 16, 10, 108, 61, 42, 28, 7, 162, 0, 7, 28, 167, 0, 4, 6]
def by_X6_laneIn_z : List Nat := [182, 0, 44, 172]
def by_X6_laneIn : List (List Nat) := [by_X6_laneIn_0]
set_option maxRecDepth 100000 in
theorem byo_X6_laneIn : cX6_laneIn.data.toList.map UInt8.toNat = by_X6_laneIn.flatten ++ by_X6_laneIn_z := by decide +kernel
theorem byl_X6_laneIn : by_X6_laneIn.all (fun r => r.length == 16) = true := by decide +kernel
theorem byr_X6_laneIn_0 {j v : Nat} (h : by_X6_laneIn_0[j]? = some v) : RD cX6_laneIn (0 + j) v := rd_16 byo_X6_laneIn byl_X6_laneIn 0 rfl h
theorem byr_X6_laneIn_1 {j v : Nat} (h : by_X6_laneIn_z[j]? = some v) : RD cX6_laneIn (16 + j) v := rd_z byo_X6_laneIn byl_X6_laneIn 1 rfl h
theorem dX6_laneIn_0 : decode cX6_laneIn 0 = .ok (.iload_n 1, 1) := dk_27 (byr_X6_laneIn_0 (j := 0) rfl)
theorem dX6_laneIn_1 : decode cX6_laneIn 1 = .ok (.bipush 10, 2) := dk_16 (byr_X6_laneIn_0 (j := 1) rfl) (byr_X6_laneIn_0 (j := 2) rfl) (by decide)
theorem dX6_laneIn_3 : decode cX6_laneIn 3 = .ok (.idiv, 1) := dk_108 (byr_X6_laneIn_0 (j := 3) rfl)
theorem dX6_laneIn_4 : decode cX6_laneIn 4 = .ok (.istore_n 2, 1) := dk_61 (byr_X6_laneIn_0 (j := 4) rfl)
theorem dX6_laneIn_5 : decode cX6_laneIn 5 = .ok (.aload_n 0, 1) := dk_42 (byr_X6_laneIn_0 (j := 5) rfl)
theorem dX6_laneIn_6 : decode cX6_laneIn 6 = .ok (.iload_n 2, 1) := dk_28 (byr_X6_laneIn_0 (j := 6) rfl)
theorem dX6_laneIn_7 : decode cX6_laneIn 7 = .ok (.iconst 4, 1) := dk_7 (byr_X6_laneIn_0 (j := 7) rfl)
theorem dX6_laneIn_8 : decode cX6_laneIn 8 = .ok (.if_icmp .ge 7, 3) := dk_162 (byr_X6_laneIn_0 (j := 8) rfl) (byr_X6_laneIn_0 (j := 9) rfl) (byr_X6_laneIn_0 (j := 10) rfl) (by decide)
theorem dX6_laneIn_11 : decode cX6_laneIn 11 = .ok (.iload_n 2, 1) := dk_28 (byr_X6_laneIn_0 (j := 11) rfl)
theorem dX6_laneIn_12 : decode cX6_laneIn 12 = .ok (.goto 4, 3) := dk_167 (byr_X6_laneIn_0 (j := 12) rfl) (byr_X6_laneIn_0 (j := 13) rfl) (byr_X6_laneIn_0 (j := 14) rfl) (by decide)
theorem dX6_laneIn_15 : decode cX6_laneIn 15 = .ok (.iconst 3, 1) := dk_6 (byr_X6_laneIn_0 (j := 15) rfl)
theorem dX6_laneIn_16 : decode cX6_laneIn 16 = .ok (.invokevirtual 44, 3) := dk_182 (byr_X6_laneIn_1 (j := 0) rfl) (byr_X6_laneIn_1 (j := 1) rfl) (byr_X6_laneIn_1 (j := 2) rfl) (by decide)
theorem dX6_laneIn_19 : decode cX6_laneIn 19 = .ok (.ireturn, 1) := dk_172 (byr_X6_laneIn_1 (j := 3) rfl)
set_option maxHeartbeats 4000000 in
set_option maxRecDepth 100000 in
theorem c_X6_laneIn (l : Launch) (G : GT) (σ : Sto) (k0 : Nat) (hk0 : K0 k0 = 6) (a1 : Int32) (r : Int32) (h : f_X6_laneIn σ k0 a1 = some r) : MW l G (3) (85) 0 0 yX6_laneIn cX6_laneIn 3 (Option.some Jvm.ClassFile.FieldType.int) [.ref (gad G k0), .int a1] (wl G σ) (some (.int r)) (wl G σ) := by
  refine mw_of RX6 (fpI G σ) [(0, .ref (gad G k0)), (1, .int a1)] (by decide +kernel) rfl (Nat.le_of_ble_eq_true rfl) rfl h rfl (fun p e s m args below meth c X hr hnm => ?_)
  unfold f_X6_laneIn
  refine sm_iload_n X 1 1 dX6_laneIn_0 rfl rfl rfl ?_
  refine sm_bipush X 3 (10) dX6_laneIn_1 rfl rfl ?_
  refine sm_idiv X 4 dX6_laneIn_3 rfl (by first | decide | assumption) ?_
  refine sm_istore_n X 5 [(2, .int (a1 / (10 : Int32))), (0, .ref (gad G k0)), (1, .int a1)] dX6_laneIn_4 rfl rfl (by decide) rfl ?_
  refine sm_aload_n X 6 1 dX6_laneIn_5 rfl rfl rfl ?_
  refine sm_iload_n X 7 0 dX6_laneIn_6 rfl rfl rfl ?_
  refine sm_iconst X 8 (4) dX6_laneIn_7 rfl rfl ?_
  refine sm_icmp_ge X 11 15 dX6_laneIn_8 rfl (by decide) (fun h8 => ?_) (fun h8 => ?_)
  · refine sm_iconst X 16 (3) dX6_laneIn_15 rfl rfl ?_
    refine sm_bind (fun r16 h16 => ?_)
    refine sm_callV0 X 19 [.int 3] [] [.int r16] (c_X6_laneOf l G σ k0 hk0 (3 : Int32) r16 h16) cw_X6_laneOf q_396 q_397 q_624 hk0 (by decide) rfl rfl rfl rfl rfl (Nat.le_of_ble_eq_true rfl) ⟨Nat.le_of_ble_eq_true rfl, Nat.le_of_ble_eq_true rfl⟩ ⟨Nat.le_refl _, Nat.le_refl _⟩ dX6_laneIn_16 rfl ?_
    exact sm_iret X hr dX6_laneIn_19 rfl
  · refine sm_iload_n X 12 0 dX6_laneIn_11 rfl rfl rfl ?_
    refine sm_goto X 16 dX6_laneIn_12 (by decide) ?_
    refine sm_bind (fun r16 h16 => ?_)
    refine sm_callV0 X 19 [.int (a1 / (10 : Int32))] [] [.int r16] (c_X6_laneOf l G σ k0 hk0 (a1 / (10 : Int32)) r16 h16) cw_X6_laneOf q_396 q_397 q_624 hk0 (by decide) rfl rfl rfl rfl rfl (Nat.le_of_ble_eq_true rfl) ⟨Nat.le_of_ble_eq_true rfl, Nat.le_of_ble_eq_true rfl⟩ ⟨Nat.le_refl _, Nat.le_refl _⟩ dX6_laneIn_16 rfl ?_
    exact sm_iret X hr dX6_laneIn_19 rfl
def by_X5_flowIn_0 : List Nat := [27, 3, 42, 180, 0, 9, 190, 4, 100, 184, 0, 37, 153, 0, 7, 3]
def by_X5_flowIn_z : List Nat := [167, 0, 9, 42, 180, 0, 9, 27, 46, 172]
def by_X5_flowIn : List (List Nat) := [by_X5_flowIn_0]
set_option maxRecDepth 100000 in
theorem byo_X5_flowIn : cX5_flowIn.data.toList.map UInt8.toNat = by_X5_flowIn.flatten ++ by_X5_flowIn_z := by decide +kernel
theorem byl_X5_flowIn : by_X5_flowIn.all (fun r => r.length == 16) = true := by decide +kernel
theorem byr_X5_flowIn_0 {j v : Nat} (h : by_X5_flowIn_0[j]? = some v) : RD cX5_flowIn (0 + j) v := rd_16 byo_X5_flowIn byl_X5_flowIn 0 rfl h
theorem byr_X5_flowIn_1 {j v : Nat} (h : by_X5_flowIn_z[j]? = some v) : RD cX5_flowIn (16 + j) v := rd_z byo_X5_flowIn byl_X5_flowIn 1 rfl h
theorem dX5_flowIn_0 : decode cX5_flowIn 0 = .ok (.iload_n 1, 1) := dk_27 (byr_X5_flowIn_0 (j := 0) rfl)
theorem dX5_flowIn_1 : decode cX5_flowIn 1 = .ok (.iconst 0, 1) := dk_3 (byr_X5_flowIn_0 (j := 1) rfl)
theorem dX5_flowIn_2 : decode cX5_flowIn 2 = .ok (.aload_n 0, 1) := dk_42 (byr_X5_flowIn_0 (j := 2) rfl)
theorem dX5_flowIn_3 : decode cX5_flowIn 3 = .ok (.getfield 9, 3) := dk_180 (byr_X5_flowIn_0 (j := 3) rfl) (byr_X5_flowIn_0 (j := 4) rfl) (byr_X5_flowIn_0 (j := 5) rfl) (by decide)
theorem dX5_flowIn_6 : decode cX5_flowIn 6 = .ok (.arraylength, 1) := dk_190 (byr_X5_flowIn_0 (j := 6) rfl)
theorem dX5_flowIn_7 : decode cX5_flowIn 7 = .ok (.iconst 1, 1) := dk_4 (byr_X5_flowIn_0 (j := 7) rfl)
theorem dX5_flowIn_8 : decode cX5_flowIn 8 = .ok (.isub, 1) := dk_100 (byr_X5_flowIn_0 (j := 8) rfl)
theorem dX5_flowIn_9 : decode cX5_flowIn 9 = .ok (.invokestatic 37, 3) := dk_184 (byr_X5_flowIn_0 (j := 9) rfl) (byr_X5_flowIn_0 (j := 10) rfl) (byr_X5_flowIn_0 (j := 11) rfl) (by decide)
theorem dX5_flowIn_12 : decode cX5_flowIn 12 = .ok (.ifCond .eq 7, 3) := dk_153 (byr_X5_flowIn_0 (j := 12) rfl) (byr_X5_flowIn_0 (j := 13) rfl) (byr_X5_flowIn_0 (j := 14) rfl) (by decide)
theorem dX5_flowIn_15 : decode cX5_flowIn 15 = .ok (.iconst 0, 1) := dk_3 (byr_X5_flowIn_0 (j := 15) rfl)
theorem dX5_flowIn_16 : decode cX5_flowIn 16 = .ok (.goto 9, 3) := dk_167 (byr_X5_flowIn_1 (j := 0) rfl) (byr_X5_flowIn_1 (j := 1) rfl) (byr_X5_flowIn_1 (j := 2) rfl) (by decide)
theorem dX5_flowIn_19 : decode cX5_flowIn 19 = .ok (.aload_n 0, 1) := dk_42 (byr_X5_flowIn_1 (j := 3) rfl)
theorem dX5_flowIn_20 : decode cX5_flowIn 20 = .ok (.getfield 9, 3) := dk_180 (byr_X5_flowIn_1 (j := 4) rfl) (byr_X5_flowIn_1 (j := 5) rfl) (byr_X5_flowIn_1 (j := 6) rfl) (by decide)
theorem dX5_flowIn_23 : decode cX5_flowIn 23 = .ok (.iload_n 1, 1) := dk_27 (byr_X5_flowIn_1 (j := 7) rfl)
theorem dX5_flowIn_24 : decode cX5_flowIn 24 = .ok (.iaload, 1) := dk_46 (byr_X5_flowIn_1 (j := 8) rfl)
theorem dX5_flowIn_25 : decode cX5_flowIn 25 = .ok (.ireturn, 1) := dk_172 (byr_X5_flowIn_1 (j := 9) rfl)
set_option maxHeartbeats 4000000 in
set_option maxRecDepth 100000 in
theorem c_X5_flowIn (l : Launch) (G : GT) (σ : Sto) (a1 : Int32) (r : Int32) (h : f_X5_flowIn σ a1 = some r) : MW l G (3) (86) 0 0 yX5_flowIn cX5_flowIn 2 (Option.some Jvm.ClassFile.FieldType.int) [.ref (gad G 58), .int a1] (wl G σ) (some (.int r)) (wl G σ) := by
  refine mw_of RX5 (fpI G σ) [(0, .ref (gad G 58)), (1, .int a1)] (by decide +kernel) rfl (Nat.le_of_ble_eq_true rfl) rfl h rfl (fun p e s m args below meth c X hr hnm => ?_)
  unfold f_X5_flowIn
  refine sm_iload_n X 1 1 dX5_flowIn_0 rfl rfl rfl ?_
  refine sm_iconst X 2 (0) dX5_flowIn_1 rfl rfl ?_
  refine sm_aload_n X 3 0 dX5_flowIn_2 rfl rfl rfl ?_
  refine sm_getf X 6 59 rfl fd_5_0 rfl dX5_flowIn_3 rfl q_186 ?_
  refine sm_alen X 7 6 (Or.inl rfl) rfl dX5_flowIn_6 rfl ?_
  refine sm_iconst X 8 (1) dX5_flowIn_7 rfl rfl ?_
  refine sm_isub X 9 dX5_flowIn_8 rfl ?_
  refine sm_bind (fun r9 h9 => ?_)
  refine sm_callSN0 X 12 (host := RX8) [.int a1, .int 0, .int ((6 : Int32) - (1 : Int32))] [] [.int (b2i r9)] (c_X8_isOutside l G σ a1 (0 : Int32) ((6 : Int32) - (1 : Int32)) r9 h9) cw_X8_isOutside q_328 (List.mem_of_getElem? (i := 10) rfl) rfl rfl rfl (Nat.le_of_ble_eq_true rfl) ⟨Nat.le_of_ble_eq_true rfl, Nat.le_of_ble_eq_true rfl⟩ ⟨Nat.le_refl _, Nat.le_refl _⟩ dX5_flowIn_9 rfl ?_
  refine sm_ifz_eq X 15 19 dX5_flowIn_12 rfl (by decide) (fun h12 => ?_) (fun h12 => ?_)
  · refine sm_iconst X 16 (0) dX5_flowIn_15 rfl rfl ?_
    refine sm_goto X 25 dX5_flowIn_16 (by decide) ?_
    exact sm_iret X hr dX5_flowIn_25 rfl
  · refine sm_aload_n X 20 0 dX5_flowIn_19 rfl rfl rfl ?_
    refine sm_getf X 23 59 rfl fd_5_0 rfl dX5_flowIn_20 rfl q_186 ?_
    refine sm_iload_n X 24 1 dX5_flowIn_23 rfl rfl rfl ?_
    refine sm_iald X 25 rfl dX5_flowIn_24 rfl (fun r24 e24 => ?_)
    clear e24
    exact sm_iret X hr dX5_flowIn_25 rfl
def by_X5_placeNext_0 : List Nat := [43, 29, 182, 0, 41, 54, 4, 43, 180, 0, 47, 154, 0, 8, 21, 4]
def by_X5_placeNext_1 : List Nat := [167, 0, 6, 21, 4, 116, 54, 5, 28, 21, 5, 96, 42, 43, 29, 182]
def by_X5_placeNext_z : List Nat := [0, 50, 182, 0, 53, 96, 3, 17, 4, 176, 184, 0, 56, 172]
def by_X5_placeNext : List (List Nat) := [by_X5_placeNext_0, by_X5_placeNext_1]
set_option maxRecDepth 100000 in
theorem byo_X5_placeNext : cX5_placeNext.data.toList.map UInt8.toNat = by_X5_placeNext.flatten ++ by_X5_placeNext_z := by decide +kernel
theorem byl_X5_placeNext : by_X5_placeNext.all (fun r => r.length == 16) = true := by decide +kernel
theorem byr_X5_placeNext_0 {j v : Nat} (h : by_X5_placeNext_0[j]? = some v) : RD cX5_placeNext (0 + j) v := rd_16 byo_X5_placeNext byl_X5_placeNext 0 rfl h
theorem byr_X5_placeNext_1 {j v : Nat} (h : by_X5_placeNext_1[j]? = some v) : RD cX5_placeNext (16 + j) v := rd_16 byo_X5_placeNext byl_X5_placeNext 1 rfl h
theorem byr_X5_placeNext_2 {j v : Nat} (h : by_X5_placeNext_z[j]? = some v) : RD cX5_placeNext (32 + j) v := rd_z byo_X5_placeNext byl_X5_placeNext 2 rfl h
theorem dX5_placeNext_0 : decode cX5_placeNext 0 = .ok (.aload_n 1, 1) := dk_43 (byr_X5_placeNext_0 (j := 0) rfl)
theorem dX5_placeNext_1 : decode cX5_placeNext 1 = .ok (.iload_n 3, 1) := dk_29 (byr_X5_placeNext_0 (j := 1) rfl)
theorem dX5_placeNext_2 : decode cX5_placeNext 2 = .ok (.invokevirtual 41, 3) := dk_182 (byr_X5_placeNext_0 (j := 2) rfl) (byr_X5_placeNext_0 (j := 3) rfl) (byr_X5_placeNext_0 (j := 4) rfl) (by decide)
theorem dX5_placeNext_5 : decode cX5_placeNext 5 = .ok (.istore 4, 2) := dk_54 (byr_X5_placeNext_0 (j := 5) rfl) (byr_X5_placeNext_0 (j := 6) rfl)
theorem dX5_placeNext_7 : decode cX5_placeNext 7 = .ok (.aload_n 1, 1) := dk_43 (byr_X5_placeNext_0 (j := 7) rfl)
theorem dX5_placeNext_8 : decode cX5_placeNext 8 = .ok (.getfield 47, 3) := dk_180 (byr_X5_placeNext_0 (j := 8) rfl) (byr_X5_placeNext_0 (j := 9) rfl) (byr_X5_placeNext_0 (j := 10) rfl) (by decide)
theorem dX5_placeNext_11 : decode cX5_placeNext 11 = .ok (.ifCond .ne 8, 3) := dk_154 (byr_X5_placeNext_0 (j := 11) rfl) (byr_X5_placeNext_0 (j := 12) rfl) (byr_X5_placeNext_0 (j := 13) rfl) (by decide)
theorem dX5_placeNext_14 : decode cX5_placeNext 14 = .ok (.iload 4, 2) := dk_21 (byr_X5_placeNext_0 (j := 14) rfl) (byr_X5_placeNext_0 (j := 15) rfl)
theorem dX5_placeNext_16 : decode cX5_placeNext 16 = .ok (.goto 6, 3) := dk_167 (byr_X5_placeNext_1 (j := 0) rfl) (byr_X5_placeNext_1 (j := 1) rfl) (byr_X5_placeNext_1 (j := 2) rfl) (by decide)
theorem dX5_placeNext_19 : decode cX5_placeNext 19 = .ok (.iload 4, 2) := dk_21 (byr_X5_placeNext_1 (j := 3) rfl) (byr_X5_placeNext_1 (j := 4) rfl)
theorem dX5_placeNext_21 : decode cX5_placeNext 21 = .ok (.ineg, 1) := dk_116 (byr_X5_placeNext_1 (j := 5) rfl)
theorem dX5_placeNext_22 : decode cX5_placeNext 22 = .ok (.istore 5, 2) := dk_54 (byr_X5_placeNext_1 (j := 6) rfl) (byr_X5_placeNext_1 (j := 7) rfl)
theorem dX5_placeNext_24 : decode cX5_placeNext 24 = .ok (.iload_n 2, 1) := dk_28 (byr_X5_placeNext_1 (j := 8) rfl)
theorem dX5_placeNext_25 : decode cX5_placeNext 25 = .ok (.iload 5, 2) := dk_21 (byr_X5_placeNext_1 (j := 9) rfl) (byr_X5_placeNext_1 (j := 10) rfl)
theorem dX5_placeNext_27 : decode cX5_placeNext 27 = .ok (.iadd, 1) := dk_96 (byr_X5_placeNext_1 (j := 11) rfl)
theorem dX5_placeNext_28 : decode cX5_placeNext 28 = .ok (.aload_n 0, 1) := dk_42 (byr_X5_placeNext_1 (j := 12) rfl)
theorem dX5_placeNext_29 : decode cX5_placeNext 29 = .ok (.aload_n 1, 1) := dk_43 (byr_X5_placeNext_1 (j := 13) rfl)
theorem dX5_placeNext_30 : decode cX5_placeNext 30 = .ok (.iload_n 3, 1) := dk_29 (byr_X5_placeNext_1 (j := 14) rfl)
theorem dX5_placeNext_31 : decode cX5_placeNext 31 = .ok (.invokevirtual 50, 3) := dk_182 (byr_X5_placeNext_1 (j := 15) rfl) (byr_X5_placeNext_2 (j := 0) rfl) (byr_X5_placeNext_2 (j := 1) rfl) (by decide)
theorem dX5_placeNext_34 : decode cX5_placeNext 34 = .ok (.invokevirtual 53, 3) := dk_182 (byr_X5_placeNext_2 (j := 2) rfl) (byr_X5_placeNext_2 (j := 3) rfl) (byr_X5_placeNext_2 (j := 4) rfl) (by decide)
theorem dX5_placeNext_37 : decode cX5_placeNext 37 = .ok (.iadd, 1) := dk_96 (byr_X5_placeNext_2 (j := 5) rfl)
theorem dX5_placeNext_38 : decode cX5_placeNext 38 = .ok (.iconst 0, 1) := dk_3 (byr_X5_placeNext_2 (j := 6) rfl)
theorem dX5_placeNext_39 : decode cX5_placeNext 39 = .ok (.sipush 1200, 3) := dk_17 (byr_X5_placeNext_2 (j := 7) rfl) (byr_X5_placeNext_2 (j := 8) rfl) (byr_X5_placeNext_2 (j := 9) rfl) (by decide)
theorem dX5_placeNext_42 : decode cX5_placeNext 42 = .ok (.invokestatic 56, 3) := dk_184 (byr_X5_placeNext_2 (j := 10) rfl) (byr_X5_placeNext_2 (j := 11) rfl) (byr_X5_placeNext_2 (j := 12) rfl) (by decide)
theorem dX5_placeNext_45 : decode cX5_placeNext 45 = .ok (.ireturn, 1) := dk_172 (byr_X5_placeNext_2 (j := 13) rfl)
set_option maxHeartbeats 4000000 in
set_option maxRecDepth 100000 in
theorem c_X5_placeNext (l : Launch) (G : GT) (σ : Sto) (a1 : Nat) (ha1 : K0 a1 = 6) (a2 : Int32) (a3 : Int32) (r : Int32) (h : f_X5_placeNext σ a1 a2 a3 = some r) : MW l G (4) (109) 0 0 yX5_placeNext cX5_placeNext 6 (Option.some Jvm.ClassFile.FieldType.int) [.ref (gad G 58), .ref (gad G a1), .int a2, .int a3] (wl G σ) (some (.int r)) (wl G σ) := by
  refine mw_of RX5 (fpI G σ) [(0, .ref (gad G 58)), (1, .ref (gad G a1)), (2, .int a2), (3, .int a3)] (by decide +kernel) rfl (Nat.le_of_ble_eq_true rfl) rfl h rfl (fun p e s m args below meth c X hr hnm => ?_)
  have J22 : ∀ (k1 : Nat) (hk1 : K0 k1 = 6) (v2 : Int32) (v3 : Int32) (vs0 : Int32)  , Sm p l e { frames := 4, cells := 0, slots := 0, locals := 109 } s m args below meth c G 6 (Qm below args s G 0 0 (fpI G σ)) 0 0 (wl G σ) 22 [(0, .ref (gad G 58)), (1, .ref (gad G k1)), (2, .int v2), (3, .int v3)] [.int vs0] (f_X5_placeNext_L22 σ  k1 v2 v3 vs0) := by
    intro k1 hk1 v2 v3 vs0
    rw [f_X5_placeNext_L22]
    refine sm_istore X 24 [(5, .int vs0), (0, .ref (gad G 58)), (1, .ref (gad G k1)), (2, .int v2), (3, .int v3)] dX5_placeNext_22 rfl (by decide) rfl ?_
    refine sm_iload_n X 25 3 dX5_placeNext_24 rfl rfl rfl ?_
    refine sm_iload X 27 0 dX5_placeNext_25 rfl rfl ?_
    refine sm_iadd X 28 dX5_placeNext_27 rfl ?_
    refine sm_aload_n X 29 1 dX5_placeNext_28 rfl rfl rfl ?_
    refine sm_aload_n X 30 2 dX5_placeNext_29 rfl rfl rfl ?_
    refine sm_iload_n X 31 4 dX5_placeNext_30 rfl rfl rfl ?_
    refine sm_bind (fun r31 h31 => ?_)
    refine sm_callV0 X 34 [.int v3] [.ref (gad G 58), .int (v2 + vs0)] [.int r31, .ref (gad G 58), .int (v2 + vs0)] (c_X6_laneIn l G σ k1 hk1 v3 r31 h31) cw_X6_laneIn q_621 q_622 q_620 hk1 (by decide) rfl rfl rfl rfl rfl (Nat.le_of_ble_eq_true rfl) ⟨Nat.le_of_ble_eq_true rfl, Nat.le_of_ble_eq_true rfl⟩ ⟨Nat.le_refl _, Nat.le_refl _⟩ dX5_placeNext_31 rfl ?_
    refine sm_bind (fun r34 h34 => ?_)
    refine sm_callV0 X 37 [.int r31] [.int (v2 + vs0)] [.int r34, .int (v2 + vs0)] (c_X5_flowIn l G σ r31 r34 h34) cw_X5_flowIn q_626 q_627 q_625 rfl (by decide) rfl rfl rfl rfl rfl (Nat.le_of_ble_eq_true rfl) ⟨Nat.le_of_ble_eq_true rfl, Nat.le_of_ble_eq_true rfl⟩ ⟨Nat.le_refl _, Nat.le_refl _⟩ dX5_placeNext_34 rfl ?_
    refine sm_iadd X 38 dX5_placeNext_37 rfl ?_
    refine sm_iconst X 39 (0) dX5_placeNext_38 rfl rfl ?_
    refine sm_sipush X 42 (1200) dX5_placeNext_39 rfl rfl ?_
    refine sm_bind (fun r42 h42 => ?_)
    refine sm_callSN0 X 45 (host := RX8) [.int ((v2 + vs0) + r34), .int 0, .int 1200] [] [.int r42] (c_X8_heldWithin l G σ ((v2 + vs0) + r34) (0 : Int32) (1200 : Int32) r42 h42) cw_X8_heldWithin q_363 (List.mem_of_getElem? (i := 11) rfl) rfl rfl rfl (Nat.le_of_ble_eq_true rfl) ⟨Nat.le_of_ble_eq_true rfl, Nat.le_of_ble_eq_true rfl⟩ ⟨Nat.le_refl _, Nat.le_refl _⟩ dX5_placeNext_42 rfl ?_
    exact sm_iret X hr dX5_placeNext_45 rfl
  unfold f_X5_placeNext
  refine sm_aload_n X 1 1 dX5_placeNext_0 rfl rfl rfl ?_
  refine sm_iload_n X 2 3 dX5_placeNext_1 rfl rfl rfl ?_
  refine sm_bind (fun r2 h2 => ?_)
  refine sm_callV0 X 5 [.int a3] [] [.int r2] (c_X6_paceIn l G σ a1 ha1 a3 r2 h2) cw_X6_paceIn q_426 q_427 q_619 ha1 (by decide) rfl rfl rfl rfl rfl (Nat.le_of_ble_eq_true rfl) ⟨Nat.le_of_ble_eq_true rfl, Nat.le_of_ble_eq_true rfl⟩ ⟨Nat.le_refl _, Nat.le_refl _⟩ dX5_placeNext_2 rfl ?_
  refine sm_istore X 7 [(4, .int r2), (0, .ref (gad G 58)), (1, .ref (gad G a1)), (2, .int a2), (3, .int a3)] dX5_placeNext_5 rfl (by decide) rfl ?_
  refine sm_aload_n X 8 2 dX5_placeNext_7 rfl rfl rfl ?_
  refine sm_geti X 11 ha1 fd_6_2 dX5_placeNext_8 rfl q_66 ?_
  refine sm_if_ne X 14 19 dX5_placeNext_11 rfl (by decide) (fun h11 => ?_) (fun h11 => ?_)
  · refine sm_iload X 16 0 dX5_placeNext_14 rfl rfl ?_
    refine sm_goto X 22 dX5_placeNext_16 (by decide) ?_
    exact sm_sub [1, 2, 3, 4] rfl (J22 a1 ha1 a2 a3 r2)
  · refine sm_iload X 21 0 dX5_placeNext_19 rfl rfl ?_
    refine sm_ineg X 22 dX5_placeNext_21 rfl ?_
    exact sm_sub [1, 2, 3, 4] rfl (J22 a1 ha1 a2 a3 (-r2))
def by_X2_setLane_0 : List Nat := [3, 27, 184, 0, 76, 62, 29, 7, 162, 0, 28, 42, 180, 0, 26, 180]
def by_X2_setLane_1 : List Nat := [0, 82, 29, 29, 27, 160, 0, 7, 28, 167, 0, 4, 3, 79, 132, 3]
def by_X2_setLane_z : List Nat := [1, 167, 255, 229, 177]
def by_X2_setLane : List (List Nat) := [by_X2_setLane_0, by_X2_setLane_1]
set_option maxRecDepth 100000 in
theorem byo_X2_setLane : cX2_setLane.data.toList.map UInt8.toNat = by_X2_setLane.flatten ++ by_X2_setLane_z := by decide +kernel
theorem byl_X2_setLane : by_X2_setLane.all (fun r => r.length == 16) = true := by decide +kernel
theorem byr_X2_setLane_0 {j v : Nat} (h : by_X2_setLane_0[j]? = some v) : RD cX2_setLane (0 + j) v := rd_16 byo_X2_setLane byl_X2_setLane 0 rfl h
theorem byr_X2_setLane_1 {j v : Nat} (h : by_X2_setLane_1[j]? = some v) : RD cX2_setLane (16 + j) v := rd_16 byo_X2_setLane byl_X2_setLane 1 rfl h
theorem byr_X2_setLane_2 {j v : Nat} (h : by_X2_setLane_z[j]? = some v) : RD cX2_setLane (32 + j) v := rd_z byo_X2_setLane byl_X2_setLane 2 rfl h
theorem dX2_setLane_0 : decode cX2_setLane 0 = .ok (.iconst 0, 1) := dk_3 (byr_X2_setLane_0 (j := 0) rfl)
theorem dX2_setLane_1 : decode cX2_setLane 1 = .ok (.iload_n 1, 1) := dk_27 (byr_X2_setLane_0 (j := 1) rfl)
theorem dX2_setLane_2 : decode cX2_setLane 2 = .ok (.invokestatic 76, 3) := dk_184 (byr_X2_setLane_0 (j := 2) rfl) (byr_X2_setLane_0 (j := 3) rfl) (byr_X2_setLane_0 (j := 4) rfl) (by decide)
theorem dX2_setLane_5 : decode cX2_setLane 5 = .ok (.istore_n 3, 1) := dk_62 (byr_X2_setLane_0 (j := 5) rfl)
theorem dX2_setLane_6 : decode cX2_setLane 6 = .ok (.iload_n 3, 1) := dk_29 (byr_X2_setLane_0 (j := 6) rfl)
theorem dX2_setLane_7 : decode cX2_setLane 7 = .ok (.iconst 4, 1) := dk_7 (byr_X2_setLane_0 (j := 7) rfl)
theorem dX2_setLane_8 : decode cX2_setLane 8 = .ok (.if_icmp .ge 28, 3) := dk_162 (byr_X2_setLane_0 (j := 8) rfl) (byr_X2_setLane_0 (j := 9) rfl) (byr_X2_setLane_0 (j := 10) rfl) (by decide)
theorem dX2_setLane_11 : decode cX2_setLane 11 = .ok (.aload_n 0, 1) := dk_42 (byr_X2_setLane_0 (j := 11) rfl)
theorem dX2_setLane_12 : decode cX2_setLane 12 = .ok (.getfield 26, 3) := dk_180 (byr_X2_setLane_0 (j := 12) rfl) (byr_X2_setLane_0 (j := 13) rfl) (byr_X2_setLane_0 (j := 14) rfl) (by decide)
theorem dX2_setLane_15 : decode cX2_setLane 15 = .ok (.getfield 82, 3) := dk_180 (byr_X2_setLane_0 (j := 15) rfl) (byr_X2_setLane_1 (j := 0) rfl) (byr_X2_setLane_1 (j := 1) rfl) (by decide)
theorem dX2_setLane_18 : decode cX2_setLane 18 = .ok (.iload_n 3, 1) := dk_29 (byr_X2_setLane_1 (j := 2) rfl)
theorem dX2_setLane_19 : decode cX2_setLane 19 = .ok (.iload_n 3, 1) := dk_29 (byr_X2_setLane_1 (j := 3) rfl)
theorem dX2_setLane_20 : decode cX2_setLane 20 = .ok (.iload_n 1, 1) := dk_27 (byr_X2_setLane_1 (j := 4) rfl)
theorem dX2_setLane_21 : decode cX2_setLane 21 = .ok (.if_icmp .ne 7, 3) := dk_160 (byr_X2_setLane_1 (j := 5) rfl) (byr_X2_setLane_1 (j := 6) rfl) (byr_X2_setLane_1 (j := 7) rfl) (by decide)
theorem dX2_setLane_24 : decode cX2_setLane 24 = .ok (.iload_n 2, 1) := dk_28 (byr_X2_setLane_1 (j := 8) rfl)
theorem dX2_setLane_25 : decode cX2_setLane 25 = .ok (.goto 4, 3) := dk_167 (byr_X2_setLane_1 (j := 9) rfl) (byr_X2_setLane_1 (j := 10) rfl) (byr_X2_setLane_1 (j := 11) rfl) (by decide)
theorem dX2_setLane_28 : decode cX2_setLane 28 = .ok (.iconst 0, 1) := dk_3 (byr_X2_setLane_1 (j := 12) rfl)
theorem dX2_setLane_29 : decode cX2_setLane 29 = .ok (.iastore, 1) := dk_79 (byr_X2_setLane_1 (j := 13) rfl)
theorem dX2_setLane_30 : decode cX2_setLane 30 = .ok (.iinc 3 1, 3) := dk_132 (byr_X2_setLane_1 (j := 14) rfl) (byr_X2_setLane_1 (j := 15) rfl) (byr_X2_setLane_2 (j := 0) rfl) (by decide)
theorem dX2_setLane_33 : decode cX2_setLane 33 = .ok (.goto (-27), 3) := dk_167 (byr_X2_setLane_2 (j := 1) rfl) (byr_X2_setLane_2 (j := 2) rfl) (byr_X2_setLane_2 (j := 3) rfl) (by decide)
theorem dX2_setLane_36 : decode cX2_setLane 36 = .ok (.return_, 1) := dk_177 (byr_X2_setLane_2 (j := 4) rfl)
set_option maxHeartbeats 4000000 in
set_option maxRecDepth 100000 in
theorem c_X2_setLane (l : Launch) (G : GT) (σ : Sto) (a1 : Int32) (a2 : Int32) (r : Sto) (h : f_X2_setLane σ a1 a2 = some r) : MW l G (2) (64) 0 0 yX2_setLane cX2_setLane 4 (Option.none : Option Jvm.ClassFile.FieldType) [.ref (gad G 60), .int a1, .int a2] (wl G σ) (none) (wl G r) := by
  refine mw_of RX2 (fiV G) [(0, .ref (gad G 60)), (1, .int a1), (2, .int a2)] (by decide +kernel) rfl (Nat.le_of_ble_eq_true rfl) rfl h rfl (fun p e s m args below meth c X hr hnm => ?_)
  have J29 : ∀ (v1 : Int32) (v2 : Int32) (v3 : Int32) (vs0 : Int32) (vs1 : Int32) (K6 : Int32 → Sto → Option Sto) (hK6 : ∀ (v3' : Int32) (σ' : Sto), Sm p l e { frames := 2, cells := 0, slots := 0, locals := 64 } s m args below meth c G 4 (Qm below args s G 0 0 (fiV G)) 0 0 (wl G σ') 6 [(0, .ref (gad G 60)), (1, .int v1), (2, .int v2), (3, .int v3')] [] (K6 v3' σ')) (σ : Sto), Sm p l e { frames := 2, cells := 0, slots := 0, locals := 64 } s m args below meth c G 4 (Qm below args s G 0 0 (fiV G)) 0 0 (wl G σ) 29 [(0, .ref (gad G 60)), (1, .int v1), (2, .int v2), (3, .int v3)] [.int vs0, .int vs1, .ref (gad G 63)] (f_X2_setLane_L29 K6 v1 v2 v3 vs0 vs1 σ) := by
    intro v1 v2 v3 vs0 vs1 K6 hK6 σ
    rw [f_X2_setLane_L29]
    refine sm_iast X 30 rfl dX2_setLane_29 rfl (fun σ29 e29 => ?_)
    clear e29
    refine sm_iinc X 33 3 (1 : Int32) [(3, .int (v3 + (1 : Int32))), (0, .ref (gad G 60)), (1, .int v1), (2, .int v2)] dX2_setLane_30 rfl rfl rfl (by decide) rfl ?_
    refine sm_goto X 6 dX2_setLane_33 (by decide) ?_
    exact sm_sub [1, 2, 3, 0] rfl (hK6 (v3 + (1 : Int32)) σ29)
  have J6 : ∀ (v1 : Int32) (v2 : Int32)  (n : Nat) (v3 : Int32) (σ : Sto), Sm p l e { frames := 2, cells := 0, slots := 0, locals := 64 } s m args below meth c G 4 (Qm below args s G 0 0 (fiV G)) 0 0 (wl G σ) 6 [(0, .ref (gad G 60)), (1, .int v1), (2, .int v2), (3, .int v3)] [] (f_X2_setLane_L6  v1 v2 n v3 σ) := by
    intro v1 v2 n
    induction n with
    | zero => intro v3 σ; rw [f_X2_setLane_L6]; exact sm_none
    | succ n ihl =>
      intro v3 σ
      rw [f_X2_setLane_L6]
      refine sm_iload_n X 7 3 dX2_setLane_6 rfl rfl rfl ?_
      refine sm_iconst X 8 (4) dX2_setLane_7 rfl rfl ?_
      refine sm_icmp_ge X 11 36 dX2_setLane_8 rfl (by decide) (fun h8 => ?_) (fun h8 => ?_)
      · exact sm_vret X hr dX2_setLane_36 rfl
      · refine sm_aload_n X 12 0 dX2_setLane_11 rfl rfl rfl ?_
        refine sm_getf X 15 62 rfl fd_2_3 rfl dX2_setLane_12 rfl q_221 ?_
        refine sm_getf X 18 63 rfl fd_6_5 rfl dX2_setLane_15 rfl q_74 ?_
        refine sm_iload_n X 19 3 dX2_setLane_18 rfl rfl rfl ?_
        refine sm_iload_n X 20 3 dX2_setLane_19 rfl rfl rfl ?_
        refine sm_iload_n X 21 1 dX2_setLane_20 rfl rfl rfl ?_
        refine sm_icmp_ne X 24 28 dX2_setLane_21 rfl (by decide) (fun h21 => ?_) (fun h21 => ?_)
        · refine sm_iload_n X 25 2 dX2_setLane_24 rfl rfl rfl ?_
          refine sm_goto X 29 dX2_setLane_25 (by decide) ?_
          exact sm_sub [0, 1, 2, 3] rfl (J29 v1 v2 v3 v2 v3 (f_X2_setLane_L6  v1 v2 n) ihl σ)
        · refine sm_iconst X 29 (0) dX2_setLane_28 rfl rfl ?_
          exact sm_sub [0, 1, 2, 3] rfl (J29 v1 v2 v3 (0 : Int32) v3 (f_X2_setLane_L6  v1 v2 n) ihl σ)
  unfold f_X2_setLane
  refine sm_iconst X 1 (0) dX2_setLane_0 rfl rfl ?_
  refine sm_iload_n X 2 1 dX2_setLane_1 rfl rfl rfl ?_
  refine sm_mmax X 5 dX2_setLane_2 rfl q_702 q_369 q_370 q_11 ⟨Nat.le_of_ble_eq_true rfl, Nat.le_of_ble_eq_true rfl, Nat.le_refl _, Nat.le_refl _⟩ ?_
  refine sm_istore_n X 6 [(3, .int (imax (0 : Int32) a1)), (0, .ref (gad G 60)), (1, .int a1), (2, .int a2)] dX2_setLane_5 rfl rfl (by decide) rfl ?_
  exact sm_sub [1, 2, 3, 0] rfl (J6 a1 a2  FU (imax (0 : Int32) a1) σ)
def by_X8_isBetter_0 : List Nat := [26, 154, 0, 16, 27, 28, 164, 0, 7, 4, 167, 0, 17, 3, 167, 0]
def by_X8_isBetter_z : List Nat := [13, 27, 28, 162, 0, 7, 4, 167, 0, 4, 3, 172]
def by_X8_isBetter : List (List Nat) := [by_X8_isBetter_0]
set_option maxRecDepth 100000 in
theorem byo_X8_isBetter : cX8_isBetter.data.toList.map UInt8.toNat = by_X8_isBetter.flatten ++ by_X8_isBetter_z := by decide +kernel
theorem byl_X8_isBetter : by_X8_isBetter.all (fun r => r.length == 16) = true := by decide +kernel
theorem byr_X8_isBetter_0 {j v : Nat} (h : by_X8_isBetter_0[j]? = some v) : RD cX8_isBetter (0 + j) v := rd_16 byo_X8_isBetter byl_X8_isBetter 0 rfl h
theorem byr_X8_isBetter_1 {j v : Nat} (h : by_X8_isBetter_z[j]? = some v) : RD cX8_isBetter (16 + j) v := rd_z byo_X8_isBetter byl_X8_isBetter 1 rfl h
theorem dX8_isBetter_0 : decode cX8_isBetter 0 = .ok (.iload_n 0, 1) := dk_26 (byr_X8_isBetter_0 (j := 0) rfl)
theorem dX8_isBetter_1 : decode cX8_isBetter 1 = .ok (.ifCond .ne 16, 3) := dk_154 (byr_X8_isBetter_0 (j := 1) rfl) (byr_X8_isBetter_0 (j := 2) rfl) (byr_X8_isBetter_0 (j := 3) rfl) (by decide)
theorem dX8_isBetter_4 : decode cX8_isBetter 4 = .ok (.iload_n 1, 1) := dk_27 (byr_X8_isBetter_0 (j := 4) rfl)
theorem dX8_isBetter_5 : decode cX8_isBetter 5 = .ok (.iload_n 2, 1) := dk_28 (byr_X8_isBetter_0 (j := 5) rfl)
theorem dX8_isBetter_6 : decode cX8_isBetter 6 = .ok (.if_icmp .le 7, 3) := dk_164 (byr_X8_isBetter_0 (j := 6) rfl) (byr_X8_isBetter_0 (j := 7) rfl) (byr_X8_isBetter_0 (j := 8) rfl) (by decide)
theorem dX8_isBetter_9 : decode cX8_isBetter 9 = .ok (.iconst 1, 1) := dk_4 (byr_X8_isBetter_0 (j := 9) rfl)
theorem dX8_isBetter_10 : decode cX8_isBetter 10 = .ok (.goto 17, 3) := dk_167 (byr_X8_isBetter_0 (j := 10) rfl) (byr_X8_isBetter_0 (j := 11) rfl) (byr_X8_isBetter_0 (j := 12) rfl) (by decide)
theorem dX8_isBetter_13 : decode cX8_isBetter 13 = .ok (.iconst 0, 1) := dk_3 (byr_X8_isBetter_0 (j := 13) rfl)
theorem dX8_isBetter_14 : decode cX8_isBetter 14 = .ok (.goto 13, 3) := dk_167 (byr_X8_isBetter_0 (j := 14) rfl) (byr_X8_isBetter_0 (j := 15) rfl) (byr_X8_isBetter_1 (j := 0) rfl) (by decide)
theorem dX8_isBetter_17 : decode cX8_isBetter 17 = .ok (.iload_n 1, 1) := dk_27 (byr_X8_isBetter_1 (j := 1) rfl)
theorem dX8_isBetter_18 : decode cX8_isBetter 18 = .ok (.iload_n 2, 1) := dk_28 (byr_X8_isBetter_1 (j := 2) rfl)
theorem dX8_isBetter_19 : decode cX8_isBetter 19 = .ok (.if_icmp .ge 7, 3) := dk_162 (byr_X8_isBetter_1 (j := 3) rfl) (byr_X8_isBetter_1 (j := 4) rfl) (byr_X8_isBetter_1 (j := 5) rfl) (by decide)
theorem dX8_isBetter_22 : decode cX8_isBetter 22 = .ok (.iconst 1, 1) := dk_4 (byr_X8_isBetter_1 (j := 6) rfl)
theorem dX8_isBetter_23 : decode cX8_isBetter 23 = .ok (.goto 4, 3) := dk_167 (byr_X8_isBetter_1 (j := 7) rfl) (byr_X8_isBetter_1 (j := 8) rfl) (byr_X8_isBetter_1 (j := 9) rfl) (by decide)
theorem dX8_isBetter_26 : decode cX8_isBetter 26 = .ok (.iconst 0, 1) := dk_3 (byr_X8_isBetter_1 (j := 10) rfl)
theorem dX8_isBetter_27 : decode cX8_isBetter 27 = .ok (.ireturn, 1) := dk_172 (byr_X8_isBetter_1 (j := 11) rfl)
set_option maxHeartbeats 4000000 in
set_option maxRecDepth 100000 in
theorem c_X8_isBetter (l : Launch) (G : GT) (σ : Sto) (a0 : Int32) (a1 : Int32) (a2 : Int32) (r : Bool) (h : f_X8_isBetter a0 a1 a2 = some r) : MW l G (2) (64) 0 0 yX8_isBetter cX8_isBetter 3 (Option.some Jvm.ClassFile.FieldType.boolean) [.int a0, .int a1, .int a2] (wl G σ) (some (.int (b2i r))) (wl G σ) := by
  refine mw_of RX8 (fpZ G σ) [(0, .int a0), (1, .int a1), (2, .int a2)] (by decide +kernel) rfl (Nat.le_of_ble_eq_true rfl) rfl h rfl (fun p e s m args below meth c X hr hnm => ?_)
  unfold f_X8_isBetter
  refine sm_iload_n X 1 0 dX8_isBetter_0 rfl rfl rfl ?_
  refine sm_if_ne X 4 17 dX8_isBetter_1 rfl (by decide) (fun h1 => ?_) (fun h1 => ?_)
  · refine sm_iload_n X 5 1 dX8_isBetter_4 rfl rfl rfl ?_
    refine sm_iload_n X 6 2 dX8_isBetter_5 rfl rfl rfl ?_
    refine sm_icmp_le X 9 13 dX8_isBetter_6 rfl (by decide) (fun h6 => ?_) (fun h6 => ?_)
    · refine sm_iconst X 14 (0) dX8_isBetter_13 rfl rfl ?_
      refine sm_goto X 27 dX8_isBetter_14 (by decide) ?_
      exact sm_zret X (v := false) hr dX8_isBetter_27 rfl
    · refine sm_iconst X 10 (1) dX8_isBetter_9 rfl rfl ?_
      refine sm_goto X 27 dX8_isBetter_10 (by decide) ?_
      exact sm_zret X (v := true) hr dX8_isBetter_27 rfl
  · refine sm_iload_n X 18 1 dX8_isBetter_17 rfl rfl rfl ?_
    refine sm_iload_n X 19 2 dX8_isBetter_18 rfl rfl rfl ?_
    refine sm_icmp_ge X 22 26 dX8_isBetter_19 rfl (by decide) (fun h19 => ?_) (fun h19 => ?_)
    · refine sm_iconst X 27 (0) dX8_isBetter_26 rfl rfl ?_
      exact sm_zret X (v := false) hr dX8_isBetter_27 rfl
    · refine sm_iconst X 23 (1) dX8_isBetter_22 rfl rfl ?_
      refine sm_goto X 27 dX8_isBetter_23 (by decide) ?_
      exact sm_zret X (v := true) hr dX8_isBetter_27 rfl
def by_X2_meetsAt_0 : List Nat := [42, 180, 0, 37, 198, 0, 37, 28, 3, 42, 180, 0, 30, 190, 4, 100]
def by_X2_meetsAt_1 : List Nat := [184, 0, 43, 154, 0, 22, 42, 180, 0, 26, 28, 182, 0, 85, 42, 180]
def by_X2_meetsAt_2 : List Nat := [0, 37, 28, 182, 0, 85, 159, 0, 5, 3, 172, 42, 180, 0, 30, 28]
def by_X2_meetsAt_3 : List Nat := [46, 62, 42, 180, 0, 26, 180, 0, 88, 154, 0, 9, 29, 27, 100, 167]
def by_X2_meetsAt_4 : List Nat := [0, 6, 27, 29, 100, 54, 4, 21, 4, 42, 180, 0, 40, 164, 0, 5]
def by_X2_meetsAt_5 : List Nat := [3, 172, 27, 29, 96, 5, 108, 54, 5, 42, 180, 0, 9, 153, 0, 22]
def by_X2_meetsAt_6 : List Nat := [42, 180, 0, 26, 180, 0, 88, 21, 5, 42, 180, 0, 15, 184, 0, 91]
def by_X2_meetsAt_7 : List Nat := [153, 0, 31, 42, 4, 181, 0, 9, 42, 21, 5, 181, 0, 15, 42, 180]
def by_X2_meetsAt_8 : List Nat := [0, 26, 180, 0, 82, 3, 42, 180, 0, 19, 3, 7, 184, 0, 94, 4]
def by_X2_meetsAt_z : List Nat := [172]
def by_X2_meetsAt : List (List Nat) := [by_X2_meetsAt_0, by_X2_meetsAt_1, by_X2_meetsAt_2, by_X2_meetsAt_3, by_X2_meetsAt_4, by_X2_meetsAt_5, by_X2_meetsAt_6, by_X2_meetsAt_7, by_X2_meetsAt_8]
set_option maxRecDepth 100000 in
theorem byo_X2_meetsAt : cX2_meetsAt.data.toList.map UInt8.toNat = by_X2_meetsAt.flatten ++ by_X2_meetsAt_z := by decide +kernel
theorem byl_X2_meetsAt : by_X2_meetsAt.all (fun r => r.length == 16) = true := by decide +kernel
theorem byr_X2_meetsAt_0 {j v : Nat} (h : by_X2_meetsAt_0[j]? = some v) : RD cX2_meetsAt (0 + j) v := rd_16 byo_X2_meetsAt byl_X2_meetsAt 0 rfl h
theorem byr_X2_meetsAt_1 {j v : Nat} (h : by_X2_meetsAt_1[j]? = some v) : RD cX2_meetsAt (16 + j) v := rd_16 byo_X2_meetsAt byl_X2_meetsAt 1 rfl h
theorem byr_X2_meetsAt_2 {j v : Nat} (h : by_X2_meetsAt_2[j]? = some v) : RD cX2_meetsAt (32 + j) v := rd_16 byo_X2_meetsAt byl_X2_meetsAt 2 rfl h
theorem byr_X2_meetsAt_3 {j v : Nat} (h : by_X2_meetsAt_3[j]? = some v) : RD cX2_meetsAt (48 + j) v := rd_16 byo_X2_meetsAt byl_X2_meetsAt 3 rfl h
theorem byr_X2_meetsAt_4 {j v : Nat} (h : by_X2_meetsAt_4[j]? = some v) : RD cX2_meetsAt (64 + j) v := rd_16 byo_X2_meetsAt byl_X2_meetsAt 4 rfl h
theorem byr_X2_meetsAt_5 {j v : Nat} (h : by_X2_meetsAt_5[j]? = some v) : RD cX2_meetsAt (80 + j) v := rd_16 byo_X2_meetsAt byl_X2_meetsAt 5 rfl h
theorem byr_X2_meetsAt_6 {j v : Nat} (h : by_X2_meetsAt_6[j]? = some v) : RD cX2_meetsAt (96 + j) v := rd_16 byo_X2_meetsAt byl_X2_meetsAt 6 rfl h
theorem byr_X2_meetsAt_7 {j v : Nat} (h : by_X2_meetsAt_7[j]? = some v) : RD cX2_meetsAt (112 + j) v := rd_16 byo_X2_meetsAt byl_X2_meetsAt 7 rfl h
theorem byr_X2_meetsAt_8 {j v : Nat} (h : by_X2_meetsAt_8[j]? = some v) : RD cX2_meetsAt (128 + j) v := rd_16 byo_X2_meetsAt byl_X2_meetsAt 8 rfl h
theorem byr_X2_meetsAt_9 {j v : Nat} (h : by_X2_meetsAt_z[j]? = some v) : RD cX2_meetsAt (144 + j) v := rd_z byo_X2_meetsAt byl_X2_meetsAt 9 rfl h
theorem dX2_meetsAt_0 : decode cX2_meetsAt 0 = .ok (.aload_n 0, 1) := dk_42 (byr_X2_meetsAt_0 (j := 0) rfl)
theorem dX2_meetsAt_1 : decode cX2_meetsAt 1 = .ok (.getfield 37, 3) := dk_180 (byr_X2_meetsAt_0 (j := 1) rfl) (byr_X2_meetsAt_0 (j := 2) rfl) (byr_X2_meetsAt_0 (j := 3) rfl) (by decide)
theorem dX2_meetsAt_4 : decode cX2_meetsAt 4 = .ok (.ifnull 37, 3) := dk_198 (byr_X2_meetsAt_0 (j := 4) rfl) (byr_X2_meetsAt_0 (j := 5) rfl) (byr_X2_meetsAt_0 (j := 6) rfl) (by decide)
theorem dX2_meetsAt_7 : decode cX2_meetsAt 7 = .ok (.iload_n 2, 1) := dk_28 (byr_X2_meetsAt_0 (j := 7) rfl)
theorem dX2_meetsAt_8 : decode cX2_meetsAt 8 = .ok (.iconst 0, 1) := dk_3 (byr_X2_meetsAt_0 (j := 8) rfl)
theorem dX2_meetsAt_9 : decode cX2_meetsAt 9 = .ok (.aload_n 0, 1) := dk_42 (byr_X2_meetsAt_0 (j := 9) rfl)
theorem dX2_meetsAt_10 : decode cX2_meetsAt 10 = .ok (.getfield 30, 3) := dk_180 (byr_X2_meetsAt_0 (j := 10) rfl) (byr_X2_meetsAt_0 (j := 11) rfl) (byr_X2_meetsAt_0 (j := 12) rfl) (by decide)
theorem dX2_meetsAt_13 : decode cX2_meetsAt 13 = .ok (.arraylength, 1) := dk_190 (byr_X2_meetsAt_0 (j := 13) rfl)
theorem dX2_meetsAt_14 : decode cX2_meetsAt 14 = .ok (.iconst 1, 1) := dk_4 (byr_X2_meetsAt_0 (j := 14) rfl)
theorem dX2_meetsAt_15 : decode cX2_meetsAt 15 = .ok (.isub, 1) := dk_100 (byr_X2_meetsAt_0 (j := 15) rfl)
theorem dX2_meetsAt_16 : decode cX2_meetsAt 16 = .ok (.invokestatic 43, 3) := dk_184 (byr_X2_meetsAt_1 (j := 0) rfl) (byr_X2_meetsAt_1 (j := 1) rfl) (byr_X2_meetsAt_1 (j := 2) rfl) (by decide)
theorem dX2_meetsAt_19 : decode cX2_meetsAt 19 = .ok (.ifCond .ne 22, 3) := dk_154 (byr_X2_meetsAt_1 (j := 3) rfl) (byr_X2_meetsAt_1 (j := 4) rfl) (byr_X2_meetsAt_1 (j := 5) rfl) (by decide)
theorem dX2_meetsAt_22 : decode cX2_meetsAt 22 = .ok (.aload_n 0, 1) := dk_42 (byr_X2_meetsAt_1 (j := 6) rfl)
theorem dX2_meetsAt_23 : decode cX2_meetsAt 23 = .ok (.getfield 26, 3) := dk_180 (byr_X2_meetsAt_1 (j := 7) rfl) (byr_X2_meetsAt_1 (j := 8) rfl) (byr_X2_meetsAt_1 (j := 9) rfl) (by decide)
theorem dX2_meetsAt_26 : decode cX2_meetsAt 26 = .ok (.iload_n 2, 1) := dk_28 (byr_X2_meetsAt_1 (j := 10) rfl)
theorem dX2_meetsAt_27 : decode cX2_meetsAt 27 = .ok (.invokevirtual 85, 3) := dk_182 (byr_X2_meetsAt_1 (j := 11) rfl) (byr_X2_meetsAt_1 (j := 12) rfl) (byr_X2_meetsAt_1 (j := 13) rfl) (by decide)
theorem dX2_meetsAt_30 : decode cX2_meetsAt 30 = .ok (.aload_n 0, 1) := dk_42 (byr_X2_meetsAt_1 (j := 14) rfl)
theorem dX2_meetsAt_31 : decode cX2_meetsAt 31 = .ok (.getfield 37, 3) := dk_180 (byr_X2_meetsAt_1 (j := 15) rfl) (byr_X2_meetsAt_2 (j := 0) rfl) (byr_X2_meetsAt_2 (j := 1) rfl) (by decide)
theorem dX2_meetsAt_34 : decode cX2_meetsAt 34 = .ok (.iload_n 2, 1) := dk_28 (byr_X2_meetsAt_2 (j := 2) rfl)
theorem dX2_meetsAt_35 : decode cX2_meetsAt 35 = .ok (.invokevirtual 85, 3) := dk_182 (byr_X2_meetsAt_2 (j := 3) rfl) (byr_X2_meetsAt_2 (j := 4) rfl) (byr_X2_meetsAt_2 (j := 5) rfl) (by decide)
theorem dX2_meetsAt_38 : decode cX2_meetsAt 38 = .ok (.if_icmp .eq 5, 3) := dk_159 (byr_X2_meetsAt_2 (j := 6) rfl) (byr_X2_meetsAt_2 (j := 7) rfl) (byr_X2_meetsAt_2 (j := 8) rfl) (by decide)
theorem dX2_meetsAt_41 : decode cX2_meetsAt 41 = .ok (.iconst 0, 1) := dk_3 (byr_X2_meetsAt_2 (j := 9) rfl)
theorem dX2_meetsAt_42 : decode cX2_meetsAt 42 = .ok (.ireturn, 1) := dk_172 (byr_X2_meetsAt_2 (j := 10) rfl)
theorem dX2_meetsAt_43 : decode cX2_meetsAt 43 = .ok (.aload_n 0, 1) := dk_42 (byr_X2_meetsAt_2 (j := 11) rfl)
theorem dX2_meetsAt_44 : decode cX2_meetsAt 44 = .ok (.getfield 30, 3) := dk_180 (byr_X2_meetsAt_2 (j := 12) rfl) (byr_X2_meetsAt_2 (j := 13) rfl) (byr_X2_meetsAt_2 (j := 14) rfl) (by decide)
theorem dX2_meetsAt_47 : decode cX2_meetsAt 47 = .ok (.iload_n 2, 1) := dk_28 (byr_X2_meetsAt_2 (j := 15) rfl)
theorem dX2_meetsAt_48 : decode cX2_meetsAt 48 = .ok (.iaload, 1) := dk_46 (byr_X2_meetsAt_3 (j := 0) rfl)
theorem dX2_meetsAt_49 : decode cX2_meetsAt 49 = .ok (.istore_n 3, 1) := dk_62 (byr_X2_meetsAt_3 (j := 1) rfl)
theorem dX2_meetsAt_50 : decode cX2_meetsAt 50 = .ok (.aload_n 0, 1) := dk_42 (byr_X2_meetsAt_3 (j := 2) rfl)
theorem dX2_meetsAt_51 : decode cX2_meetsAt 51 = .ok (.getfield 26, 3) := dk_180 (byr_X2_meetsAt_3 (j := 3) rfl) (byr_X2_meetsAt_3 (j := 4) rfl) (byr_X2_meetsAt_3 (j := 5) rfl) (by decide)
theorem dX2_meetsAt_54 : decode cX2_meetsAt 54 = .ok (.getfield 88, 3) := dk_180 (byr_X2_meetsAt_3 (j := 6) rfl) (byr_X2_meetsAt_3 (j := 7) rfl) (byr_X2_meetsAt_3 (j := 8) rfl) (by decide)
theorem dX2_meetsAt_57 : decode cX2_meetsAt 57 = .ok (.ifCond .ne 9, 3) := dk_154 (byr_X2_meetsAt_3 (j := 9) rfl) (byr_X2_meetsAt_3 (j := 10) rfl) (byr_X2_meetsAt_3 (j := 11) rfl) (by decide)
theorem dX2_meetsAt_60 : decode cX2_meetsAt 60 = .ok (.iload_n 3, 1) := dk_29 (byr_X2_meetsAt_3 (j := 12) rfl)
theorem dX2_meetsAt_61 : decode cX2_meetsAt 61 = .ok (.iload_n 1, 1) := dk_27 (byr_X2_meetsAt_3 (j := 13) rfl)
theorem dX2_meetsAt_62 : decode cX2_meetsAt 62 = .ok (.isub, 1) := dk_100 (byr_X2_meetsAt_3 (j := 14) rfl)
theorem dX2_meetsAt_63 : decode cX2_meetsAt 63 = .ok (.goto 6, 3) := dk_167 (byr_X2_meetsAt_3 (j := 15) rfl) (byr_X2_meetsAt_4 (j := 0) rfl) (byr_X2_meetsAt_4 (j := 1) rfl) (by decide)
theorem dX2_meetsAt_66 : decode cX2_meetsAt 66 = .ok (.iload_n 1, 1) := dk_27 (byr_X2_meetsAt_4 (j := 2) rfl)
theorem dX2_meetsAt_67 : decode cX2_meetsAt 67 = .ok (.iload_n 3, 1) := dk_29 (byr_X2_meetsAt_4 (j := 3) rfl)
theorem dX2_meetsAt_68 : decode cX2_meetsAt 68 = .ok (.isub, 1) := dk_100 (byr_X2_meetsAt_4 (j := 4) rfl)
theorem dX2_meetsAt_69 : decode cX2_meetsAt 69 = .ok (.istore 4, 2) := dk_54 (byr_X2_meetsAt_4 (j := 5) rfl) (byr_X2_meetsAt_4 (j := 6) rfl)
theorem dX2_meetsAt_71 : decode cX2_meetsAt 71 = .ok (.iload 4, 2) := dk_21 (byr_X2_meetsAt_4 (j := 7) rfl) (byr_X2_meetsAt_4 (j := 8) rfl)
theorem dX2_meetsAt_73 : decode cX2_meetsAt 73 = .ok (.aload_n 0, 1) := dk_42 (byr_X2_meetsAt_4 (j := 9) rfl)
theorem dX2_meetsAt_74 : decode cX2_meetsAt 74 = .ok (.getfield 40, 3) := dk_180 (byr_X2_meetsAt_4 (j := 10) rfl) (byr_X2_meetsAt_4 (j := 11) rfl) (byr_X2_meetsAt_4 (j := 12) rfl) (by decide)
theorem dX2_meetsAt_77 : decode cX2_meetsAt 77 = .ok (.if_icmp .le 5, 3) := dk_164 (byr_X2_meetsAt_4 (j := 13) rfl) (byr_X2_meetsAt_4 (j := 14) rfl) (byr_X2_meetsAt_4 (j := 15) rfl) (by decide)
theorem dX2_meetsAt_80 : decode cX2_meetsAt 80 = .ok (.iconst 0, 1) := dk_3 (byr_X2_meetsAt_5 (j := 0) rfl)
theorem dX2_meetsAt_81 : decode cX2_meetsAt 81 = .ok (.ireturn, 1) := dk_172 (byr_X2_meetsAt_5 (j := 1) rfl)
theorem dX2_meetsAt_82 : decode cX2_meetsAt 82 = .ok (.iload_n 1, 1) := dk_27 (byr_X2_meetsAt_5 (j := 2) rfl)
theorem dX2_meetsAt_83 : decode cX2_meetsAt 83 = .ok (.iload_n 3, 1) := dk_29 (byr_X2_meetsAt_5 (j := 3) rfl)
theorem dX2_meetsAt_84 : decode cX2_meetsAt 84 = .ok (.iadd, 1) := dk_96 (byr_X2_meetsAt_5 (j := 4) rfl)
theorem dX2_meetsAt_85 : decode cX2_meetsAt 85 = .ok (.iconst 2, 1) := dk_5 (byr_X2_meetsAt_5 (j := 5) rfl)
theorem dX2_meetsAt_86 : decode cX2_meetsAt 86 = .ok (.idiv, 1) := dk_108 (byr_X2_meetsAt_5 (j := 6) rfl)
theorem dX2_meetsAt_87 : decode cX2_meetsAt 87 = .ok (.istore 5, 2) := dk_54 (byr_X2_meetsAt_5 (j := 7) rfl) (byr_X2_meetsAt_5 (j := 8) rfl)
theorem dX2_meetsAt_89 : decode cX2_meetsAt 89 = .ok (.aload_n 0, 1) := dk_42 (byr_X2_meetsAt_5 (j := 9) rfl)
theorem dX2_meetsAt_90 : decode cX2_meetsAt 90 = .ok (.getfield 9, 3) := dk_180 (byr_X2_meetsAt_5 (j := 10) rfl) (byr_X2_meetsAt_5 (j := 11) rfl) (byr_X2_meetsAt_5 (j := 12) rfl) (by decide)
theorem dX2_meetsAt_93 : decode cX2_meetsAt 93 = .ok (.ifCond .eq 22, 3) := dk_153 (byr_X2_meetsAt_5 (j := 13) rfl) (byr_X2_meetsAt_5 (j := 14) rfl) (byr_X2_meetsAt_5 (j := 15) rfl) (by decide)
theorem dX2_meetsAt_96 : decode cX2_meetsAt 96 = .ok (.aload_n 0, 1) := dk_42 (byr_X2_meetsAt_6 (j := 0) rfl)
theorem dX2_meetsAt_97 : decode cX2_meetsAt 97 = .ok (.getfield 26, 3) := dk_180 (byr_X2_meetsAt_6 (j := 1) rfl) (byr_X2_meetsAt_6 (j := 2) rfl) (byr_X2_meetsAt_6 (j := 3) rfl) (by decide)
theorem dX2_meetsAt_100 : decode cX2_meetsAt 100 = .ok (.getfield 88, 3) := dk_180 (byr_X2_meetsAt_6 (j := 4) rfl) (byr_X2_meetsAt_6 (j := 5) rfl) (byr_X2_meetsAt_6 (j := 6) rfl) (by decide)
theorem dX2_meetsAt_103 : decode cX2_meetsAt 103 = .ok (.iload 5, 2) := dk_21 (byr_X2_meetsAt_6 (j := 7) rfl) (byr_X2_meetsAt_6 (j := 8) rfl)
theorem dX2_meetsAt_105 : decode cX2_meetsAt 105 = .ok (.aload_n 0, 1) := dk_42 (byr_X2_meetsAt_6 (j := 9) rfl)
theorem dX2_meetsAt_106 : decode cX2_meetsAt 106 = .ok (.getfield 15, 3) := dk_180 (byr_X2_meetsAt_6 (j := 10) rfl) (byr_X2_meetsAt_6 (j := 11) rfl) (byr_X2_meetsAt_6 (j := 12) rfl) (by decide)
theorem dX2_meetsAt_109 : decode cX2_meetsAt 109 = .ok (.invokestatic 91, 3) := dk_184 (byr_X2_meetsAt_6 (j := 13) rfl) (byr_X2_meetsAt_6 (j := 14) rfl) (byr_X2_meetsAt_6 (j := 15) rfl) (by decide)
theorem dX2_meetsAt_112 : decode cX2_meetsAt 112 = .ok (.ifCond .eq 31, 3) := dk_153 (byr_X2_meetsAt_7 (j := 0) rfl) (byr_X2_meetsAt_7 (j := 1) rfl) (byr_X2_meetsAt_7 (j := 2) rfl) (by decide)
theorem dX2_meetsAt_115 : decode cX2_meetsAt 115 = .ok (.aload_n 0, 1) := dk_42 (byr_X2_meetsAt_7 (j := 3) rfl)
theorem dX2_meetsAt_116 : decode cX2_meetsAt 116 = .ok (.iconst 1, 1) := dk_4 (byr_X2_meetsAt_7 (j := 4) rfl)
theorem dX2_meetsAt_117 : decode cX2_meetsAt 117 = .ok (.putfield 9, 3) := dk_181 (byr_X2_meetsAt_7 (j := 5) rfl) (byr_X2_meetsAt_7 (j := 6) rfl) (byr_X2_meetsAt_7 (j := 7) rfl) (by decide)
theorem dX2_meetsAt_120 : decode cX2_meetsAt 120 = .ok (.aload_n 0, 1) := dk_42 (byr_X2_meetsAt_7 (j := 8) rfl)
theorem dX2_meetsAt_121 : decode cX2_meetsAt 121 = .ok (.iload 5, 2) := dk_21 (byr_X2_meetsAt_7 (j := 9) rfl) (byr_X2_meetsAt_7 (j := 10) rfl)
theorem dX2_meetsAt_123 : decode cX2_meetsAt 123 = .ok (.putfield 15, 3) := dk_181 (byr_X2_meetsAt_7 (j := 11) rfl) (byr_X2_meetsAt_7 (j := 12) rfl) (byr_X2_meetsAt_7 (j := 13) rfl) (by decide)
theorem dX2_meetsAt_126 : decode cX2_meetsAt 126 = .ok (.aload_n 0, 1) := dk_42 (byr_X2_meetsAt_7 (j := 14) rfl)
theorem dX2_meetsAt_127 : decode cX2_meetsAt 127 = .ok (.getfield 26, 3) := dk_180 (byr_X2_meetsAt_7 (j := 15) rfl) (byr_X2_meetsAt_8 (j := 0) rfl) (byr_X2_meetsAt_8 (j := 1) rfl) (by decide)
theorem dX2_meetsAt_130 : decode cX2_meetsAt 130 = .ok (.getfield 82, 3) := dk_180 (byr_X2_meetsAt_8 (j := 2) rfl) (byr_X2_meetsAt_8 (j := 3) rfl) (byr_X2_meetsAt_8 (j := 4) rfl) (by decide)
theorem dX2_meetsAt_133 : decode cX2_meetsAt 133 = .ok (.iconst 0, 1) := dk_3 (byr_X2_meetsAt_8 (j := 5) rfl)
theorem dX2_meetsAt_134 : decode cX2_meetsAt 134 = .ok (.aload_n 0, 1) := dk_42 (byr_X2_meetsAt_8 (j := 6) rfl)
theorem dX2_meetsAt_135 : decode cX2_meetsAt 135 = .ok (.getfield 19, 3) := dk_180 (byr_X2_meetsAt_8 (j := 7) rfl) (byr_X2_meetsAt_8 (j := 8) rfl) (byr_X2_meetsAt_8 (j := 9) rfl) (by decide)
theorem dX2_meetsAt_138 : decode cX2_meetsAt 138 = .ok (.iconst 0, 1) := dk_3 (byr_X2_meetsAt_8 (j := 10) rfl)
theorem dX2_meetsAt_139 : decode cX2_meetsAt 139 = .ok (.iconst 4, 1) := dk_7 (byr_X2_meetsAt_8 (j := 11) rfl)
theorem dX2_meetsAt_140 : decode cX2_meetsAt 140 = .ok (.invokestatic 94, 3) := dk_184 (byr_X2_meetsAt_8 (j := 12) rfl) (byr_X2_meetsAt_8 (j := 13) rfl) (byr_X2_meetsAt_8 (j := 14) rfl) (by decide)
theorem dX2_meetsAt_143 : decode cX2_meetsAt 143 = .ok (.iconst 1, 1) := dk_4 (byr_X2_meetsAt_8 (j := 15) rfl)
theorem dX2_meetsAt_144 : decode cX2_meetsAt 144 = .ok (.ireturn, 1) := dk_172 (byr_X2_meetsAt_9 (j := 0) rfl)
set_option maxHeartbeats 4000000 in
set_option maxRecDepth 100000 in
theorem c_X2_meetsAt (l : Launch) (G : GT) (σ : Sto) (a1 : Int32) (a2 : Int32) (r : (Bool × Sto)) (h : f_X2_meetsAt σ a1 a2 = some r) : MW l G (4) (107) 0 0 yX2_meetsAt cX2_meetsAt 6 (Option.some Jvm.ClassFile.FieldType.boolean) [.ref (gad G 60), .int a1, .int a2] (wl G σ) (some (.int (b2i r.1))) (wl G r.2) := by
  refine mw_of RX2 (fiZ G) [(0, .ref (gad G 60)), (1, .int a1), (2, .int a2)] (by decide +kernel) rfl (Nat.le_of_ble_eq_true rfl) rfl h rfl (fun p e s m args below meth c X hr hnm => ?_)
  have J115 : ∀ (v5 : Int32)  (σ : Sto), Sm p l e { frames := 4, cells := 0, slots := 0, locals := 107 } s m args below meth c G 6 (Qm below args s G 0 0 (fiZ G)) 0 0 (wl G σ) 115 [(0, .ref (gad G 60)), (5, .int v5)] [] (f_X2_meetsAt_L115  v5 σ) := by
    intro v5 σ
    rw [f_X2_meetsAt_L115]
    refine sm_aload_n X 116 0 dX2_meetsAt_115 rfl rfl rfl ?_
    refine sm_iconst X 117 (1) dX2_meetsAt_116 rfl rfl ?_
    refine sm_puti X 120 .boolean rfl fd_2_0 (by decide) rfl rfl rfl dX2_meetsAt_117 rfl q_216 (fun σ117 e117 => ?_)
    clear e117
    refine sm_aload_n X 121 0 dX2_meetsAt_120 rfl rfl rfl ?_
    refine sm_iload X 123 1 dX2_meetsAt_121 rfl rfl ?_
    refine sm_puti X 126 .int rfl fd_2_1 (by decide) rfl rfl rfl dX2_meetsAt_123 rfl q_218 (fun σ123 e123 => ?_)
    clear e123
    refine sm_aload_n X 127 0 dX2_meetsAt_126 rfl rfl rfl ?_
    refine sm_getf X 130 62 rfl fd_2_3 rfl dX2_meetsAt_127 rfl q_221 ?_
    refine sm_getf X 133 63 rfl fd_6_5 rfl dX2_meetsAt_130 rfl q_74 ?_
    refine sm_iconst X 134 (0) dX2_meetsAt_133 rfl rfl ?_
    refine sm_aload_n X 135 0 dX2_meetsAt_134 rfl rfl rfl ?_
    refine sm_getf X 138 61 rfl fd_2_2 rfl dX2_meetsAt_135 rfl q_220 ?_
    refine sm_iconst X 139 (0) dX2_meetsAt_138 rfl rfl ?_
    refine sm_iconst X 140 (4) dX2_meetsAt_139 rfl rfl ?_
    refine sm_copy X 143 rfl rfl dX2_meetsAt_140 rfl q_711 q_456 q_455 q_12 ⟨Nat.le_of_ble_eq_true rfl, Nat.le_of_ble_eq_true rfl⟩ (fun σ140 e140 => ?_)
    clear e140
    refine sm_iconst X 144 (1) dX2_meetsAt_143 rfl rfl ?_
    exact sm_zret X (v := true) hr dX2_meetsAt_144 rfl
  have J69 : ∀ (v1 : Int32) (v3 : Int32) (vs0 : Int32)  (σ : Sto), Sm p l e { frames := 4, cells := 0, slots := 0, locals := 107 } s m args below meth c G 6 (Qm below args s G 0 0 (fiZ G)) 0 0 (wl G σ) 69 [(0, .ref (gad G 60)), (1, .int v1), (3, .int v3)] [.int vs0] (f_X2_meetsAt_L69  v1 v3 vs0 σ) := by
    intro v1 v3 vs0 σ
    rw [f_X2_meetsAt_L69]
    refine sm_istore X 71 [(4, .int vs0), (0, .ref (gad G 60)), (1, .int v1), (3, .int v3)] dX2_meetsAt_69 rfl (by decide) rfl ?_
    refine sm_iload X 73 0 dX2_meetsAt_71 rfl rfl ?_
    refine sm_aload_n X 74 1 dX2_meetsAt_73 rfl rfl rfl ?_
    refine sm_geti X 77 rfl fd_2_7 dX2_meetsAt_74 rfl q_225 ?_
    refine sm_icmp_le X 80 82 dX2_meetsAt_77 rfl (by decide) (fun h77 => ?_) (fun h77 => ?_)
    · refine sm_iload_n X 83 2 dX2_meetsAt_82 rfl rfl rfl ?_
      refine sm_iload_n X 84 3 dX2_meetsAt_83 rfl rfl rfl ?_
      refine sm_iadd X 85 dX2_meetsAt_84 rfl ?_
      refine sm_iconst X 86 (2) dX2_meetsAt_85 rfl rfl ?_
      refine sm_idiv X 87 dX2_meetsAt_86 rfl (by first | decide | assumption) ?_
      refine sm_istore X 89 [(5, .int ((v1 + v3) / (2 : Int32))), (4, .int vs0), (0, .ref (gad G 60)), (1, .int v1), (3, .int v3)] dX2_meetsAt_87 rfl (by decide) rfl ?_
      refine sm_aload_n X 90 2 dX2_meetsAt_89 rfl rfl rfl ?_
      refine sm_geti X 93 rfl fd_2_0 dX2_meetsAt_90 rfl q_216 ?_
      refine sm_if_eq X 96 115 dX2_meetsAt_93 rfl (by decide) (fun h93 => ?_) (fun h93 => ?_)
      · exact sm_sub [2, 0] rfl (J115 ((v1 + v3) / (2 : Int32))  σ)
      · refine sm_aload_n X 97 2 dX2_meetsAt_96 rfl rfl rfl ?_
        refine sm_getf X 100 62 rfl fd_2_3 rfl dX2_meetsAt_97 rfl q_221 ?_
        refine sm_geti X 103 rfl fd_6_2 dX2_meetsAt_100 rfl q_67 ?_
        refine sm_iload X 105 0 dX2_meetsAt_103 rfl rfl ?_
        refine sm_aload_n X 106 2 dX2_meetsAt_105 rfl rfl rfl ?_
        refine sm_geti X 109 rfl fd_2_1 dX2_meetsAt_106 rfl q_218 ?_
        refine sm_bind (fun r109 h109 => ?_)
        refine sm_callSN0 X 112 (host := RX8) [.int (σ.1 62 2), .int ((v1 + v3) / (2 : Int32)), .int (σ.1 60 1)] [] [.int (b2i r109)] (c_X8_isBetter l G σ (σ.1 62 2) ((v1 + v3) / (2 : Int32)) (σ.1 60 1) r109 h109) cw_X8_isBetter q_709 (List.mem_of_getElem? (i := 13) rfl) rfl rfl rfl (Nat.le_of_ble_eq_true rfl) ⟨Nat.le_of_ble_eq_true rfl, Nat.le_of_ble_eq_true rfl⟩ ⟨Nat.le_refl _, Nat.le_refl _⟩ dX2_meetsAt_109 rfl ?_
        refine sm_ifz_eq X 115 143 dX2_meetsAt_112 rfl (by decide) (fun h112 => ?_) (fun h112 => ?_)
        · exact sm_sub [2, 0] rfl (J115 ((v1 + v3) / (2 : Int32))  σ)
        · refine sm_iconst X 144 (1) dX2_meetsAt_143 rfl rfl ?_
          exact sm_zret X (v := true) hr dX2_meetsAt_144 rfl
    · refine sm_iconst X 81 (0) dX2_meetsAt_80 rfl rfl ?_
      exact sm_zret X (v := false) hr dX2_meetsAt_81 rfl
  unfold f_X2_meetsAt
  refine sm_aload_n X 1 0 dX2_meetsAt_0 rfl rfl rfl ?_
  refine sm_getrN X 4 rfl fd_2_6 dX2_meetsAt_1 rfl q_224 (fun r1 e1 => ?_)
  clear e1
  refine sm_ifnull X 7 41 dX2_meetsAt_4 rfl (by decide) (fun hn => ?_) (fun k4 hn => ?_)
  · subst hn
    refine sm_iconst X 42 (0) dX2_meetsAt_41 rfl rfl ?_
    exact sm_zret X (v := false) hr dX2_meetsAt_42 rfl
  · subst hn
    refine sm_iload_n X 8 2 dX2_meetsAt_7 rfl rfl rfl ?_
    refine sm_iconst X 9 (0) dX2_meetsAt_8 rfl rfl ?_
    refine sm_aload_n X 10 0 dX2_meetsAt_9 rfl rfl rfl ?_
    refine sm_getf X 13 64 rfl fd_2_4 rfl dX2_meetsAt_10 rfl q_222 ?_
    refine sm_alen X 14 60 (Or.inl rfl) rfl dX2_meetsAt_13 rfl ?_
    refine sm_iconst X 15 (1) dX2_meetsAt_14 rfl rfl ?_
    refine sm_isub X 16 dX2_meetsAt_15 rfl ?_
    refine sm_bind (fun r16 h16 => ?_)
    refine sm_callSN0 X 19 (host := RX8) [.int a2, .int 0, .int ((60 : Int32) - (1 : Int32))] [] [.int (b2i r16)] (c_X8_isOutside l G σ a2 (0 : Int32) ((60 : Int32) - (1 : Int32)) r16 h16) cw_X8_isOutside q_328 (List.mem_of_getElem? (i := 12) rfl) rfl rfl rfl (Nat.le_of_ble_eq_true rfl) ⟨Nat.le_of_ble_eq_true rfl, Nat.le_of_ble_eq_true rfl⟩ ⟨Nat.le_refl _, Nat.le_refl _⟩ dX2_meetsAt_16 rfl ?_
    refine sm_ifz_ne X 22 41 dX2_meetsAt_19 rfl (by decide) (fun h19 => ?_) (fun h19 => ?_)
    · refine sm_iconst X 42 (0) dX2_meetsAt_41 rfl rfl ?_
      exact sm_zret X (v := false) hr dX2_meetsAt_42 rfl
    · refine sm_aload_n X 23 0 dX2_meetsAt_22 rfl rfl rfl ?_
      refine sm_getf X 26 62 rfl fd_2_3 rfl dX2_meetsAt_23 rfl q_221 ?_
      refine sm_iload_n X 27 2 dX2_meetsAt_26 rfl rfl rfl ?_
      refine sm_bind (fun r27 h27 => ?_)
      refine sm_callV0 X 30 [.int a2] [] [.int r27] (c_X6_laneIn l G σ 62 rfl a2 r27 h27) cw_X6_laneIn q_621 q_622 q_707 rfl (by decide) rfl rfl rfl rfl rfl (Nat.le_of_ble_eq_true rfl) ⟨Nat.le_of_ble_eq_true rfl, Nat.le_of_ble_eq_true rfl⟩ ⟨Nat.le_refl _, Nat.le_refl _⟩ dX2_meetsAt_27 rfl ?_
      refine sm_aload_n X 31 0 dX2_meetsAt_30 rfl rfl rfl ?_
      refine sm_getrN X 34 rfl fd_2_6 dX2_meetsAt_31 rfl q_224 (fun r31 e31 => ?_)
      clear e31
      refine sm_iload_n X 35 2 dX2_meetsAt_34 rfl rfl rfl ?_
      refine sm_deref (fun k35 h hk35 => ?_)
      subst h
      refine sm_bind (fun r35 h35 => ?_)
      refine sm_callV0 X 38 [.int a2] [.int r27] [.int r35, .int r27] (c_X6_laneIn l G σ k35 hk35 a2 r35 h35) cw_X6_laneIn q_621 q_622 q_707 hk35 (by decide) rfl rfl rfl rfl rfl (Nat.le_of_ble_eq_true rfl) ⟨Nat.le_of_ble_eq_true rfl, Nat.le_of_ble_eq_true rfl⟩ ⟨Nat.le_refl _, Nat.le_refl _⟩ dX2_meetsAt_35 rfl ?_
      refine sm_icmp_eq X 41 43 dX2_meetsAt_38 rfl (by decide) (fun h38 => ?_) (fun h38 => ?_)
      · refine sm_aload_n X 44 0 dX2_meetsAt_43 rfl rfl rfl ?_
        refine sm_getf X 47 64 rfl fd_2_4 rfl dX2_meetsAt_44 rfl q_222 ?_
        refine sm_iload_n X 48 2 dX2_meetsAt_47 rfl rfl rfl ?_
        refine sm_iald X 49 rfl dX2_meetsAt_48 rfl (fun r48 e48 => ?_)
        clear e48
        refine sm_istore_n X 50 [(3, .int r48), (0, .ref (gad G 60)), (1, .int a1), (2, .int a2)] dX2_meetsAt_49 rfl rfl (by decide) rfl ?_
        refine sm_aload_n X 51 1 dX2_meetsAt_50 rfl rfl rfl ?_
        refine sm_getf X 54 62 rfl fd_2_3 rfl dX2_meetsAt_51 rfl q_221 ?_
        refine sm_geti X 57 rfl fd_6_2 dX2_meetsAt_54 rfl q_67 ?_
        refine sm_if_ne X 60 66 dX2_meetsAt_57 rfl (by decide) (fun h57 => ?_) (fun h57 => ?_)
        · refine sm_iload_n X 61 0 dX2_meetsAt_60 rfl rfl rfl ?_
          refine sm_iload_n X 62 2 dX2_meetsAt_61 rfl rfl rfl ?_
          refine sm_isub X 63 dX2_meetsAt_62 rfl ?_
          refine sm_goto X 69 dX2_meetsAt_63 (by decide) ?_
          exact sm_sub [1, 2, 0] rfl (J69 a1 r48 (r48 - a1)  σ)
        · refine sm_iload_n X 67 2 dX2_meetsAt_66 rfl rfl rfl ?_
          refine sm_iload_n X 68 0 dX2_meetsAt_67 rfl rfl rfl ?_
          refine sm_isub X 69 dX2_meetsAt_68 rfl ?_
          exact sm_sub [1, 2, 0] rfl (J69 a1 r48 (a1 - r48)  σ)
      · refine sm_iconst X 42 (0) dX2_meetsAt_41 rfl rfl ?_
        exact sm_zret X (v := false) hr dX2_meetsAt_42 rfl
def by_X2_tryLanes_0 : List Nat := [27, 3, 6, 184, 0, 43, 154, 0, 17, 42, 180, 0, 33, 198, 0, 10]
def by_X2_tryLanes_1 : List Nat := [42, 180, 0, 37, 199, 0, 4, 177, 27, 6, 160, 0, 7, 4, 167, 0]
def by_X2_tryLanes_2 : List Nat := [4, 3, 62, 3, 54, 4, 21, 4, 16, 6, 162, 0, 128, 29, 153, 0]
def by_X2_tryLanes_3 : List Nat := [19, 21, 4, 42, 180, 0, 37, 27, 182, 0, 65, 159, 0, 6, 167, 0]
def by_X2_tryLanes_4 : List Nat := [102, 42, 27, 21, 4, 182, 0, 69, 28, 54, 5, 3, 54, 6, 29, 153]
def by_X2_tryLanes_5 : List Nat := [0, 8, 16, 60, 167, 0, 9, 27, 4, 96, 16, 10, 104, 54, 7, 27]
def by_X2_tryLanes_6 : List Nat := [16, 10, 104, 54, 8, 21, 8, 21, 7, 162, 0, 41, 21, 6, 154, 0]
def by_X2_tryLanes_7 : List Nat := [36, 42, 180, 0, 33, 42, 180, 0, 26, 21, 5, 21, 8, 182, 0, 55]
def by_X2_tryLanes_8 : List Nat := [54, 5, 42, 21, 5, 21, 8, 182, 0, 72, 54, 6, 132, 8, 1, 167]
def by_X2_tryLanes_9 : List Nat := [255, 214, 21, 6, 154, 0, 16, 29, 154, 0, 12, 42, 27, 4, 96, 21]
def by_X2_tryLanes_z : List Nat := [5, 182, 0, 61, 132, 4, 1, 167, 255, 127, 177]
def by_X2_tryLanes : List (List Nat) := [by_X2_tryLanes_0, by_X2_tryLanes_1, by_X2_tryLanes_2, by_X2_tryLanes_3, by_X2_tryLanes_4, by_X2_tryLanes_5, by_X2_tryLanes_6, by_X2_tryLanes_7, by_X2_tryLanes_8, by_X2_tryLanes_9]
set_option maxRecDepth 100000 in
theorem byo_X2_tryLanes : cX2_tryLanes.data.toList.map UInt8.toNat = by_X2_tryLanes.flatten ++ by_X2_tryLanes_z := by decide +kernel
theorem byl_X2_tryLanes : by_X2_tryLanes.all (fun r => r.length == 16) = true := by decide +kernel
theorem byr_X2_tryLanes_0 {j v : Nat} (h : by_X2_tryLanes_0[j]? = some v) : RD cX2_tryLanes (0 + j) v := rd_16 byo_X2_tryLanes byl_X2_tryLanes 0 rfl h
theorem byr_X2_tryLanes_1 {j v : Nat} (h : by_X2_tryLanes_1[j]? = some v) : RD cX2_tryLanes (16 + j) v := rd_16 byo_X2_tryLanes byl_X2_tryLanes 1 rfl h
theorem byr_X2_tryLanes_2 {j v : Nat} (h : by_X2_tryLanes_2[j]? = some v) : RD cX2_tryLanes (32 + j) v := rd_16 byo_X2_tryLanes byl_X2_tryLanes 2 rfl h
theorem byr_X2_tryLanes_3 {j v : Nat} (h : by_X2_tryLanes_3[j]? = some v) : RD cX2_tryLanes (48 + j) v := rd_16 byo_X2_tryLanes byl_X2_tryLanes 3 rfl h
theorem byr_X2_tryLanes_4 {j v : Nat} (h : by_X2_tryLanes_4[j]? = some v) : RD cX2_tryLanes (64 + j) v := rd_16 byo_X2_tryLanes byl_X2_tryLanes 4 rfl h
theorem byr_X2_tryLanes_5 {j v : Nat} (h : by_X2_tryLanes_5[j]? = some v) : RD cX2_tryLanes (80 + j) v := rd_16 byo_X2_tryLanes byl_X2_tryLanes 5 rfl h
theorem byr_X2_tryLanes_6 {j v : Nat} (h : by_X2_tryLanes_6[j]? = some v) : RD cX2_tryLanes (96 + j) v := rd_16 byo_X2_tryLanes byl_X2_tryLanes 6 rfl h
theorem byr_X2_tryLanes_7 {j v : Nat} (h : by_X2_tryLanes_7[j]? = some v) : RD cX2_tryLanes (112 + j) v := rd_16 byo_X2_tryLanes byl_X2_tryLanes 7 rfl h
theorem byr_X2_tryLanes_8 {j v : Nat} (h : by_X2_tryLanes_8[j]? = some v) : RD cX2_tryLanes (128 + j) v := rd_16 byo_X2_tryLanes byl_X2_tryLanes 8 rfl h
theorem byr_X2_tryLanes_9 {j v : Nat} (h : by_X2_tryLanes_9[j]? = some v) : RD cX2_tryLanes (144 + j) v := rd_16 byo_X2_tryLanes byl_X2_tryLanes 9 rfl h
theorem byr_X2_tryLanes_10 {j v : Nat} (h : by_X2_tryLanes_z[j]? = some v) : RD cX2_tryLanes (160 + j) v := rd_z byo_X2_tryLanes byl_X2_tryLanes 10 rfl h
theorem dX2_tryLanes_0 : decode cX2_tryLanes 0 = .ok (.iload_n 1, 1) := dk_27 (byr_X2_tryLanes_0 (j := 0) rfl)
theorem dX2_tryLanes_1 : decode cX2_tryLanes 1 = .ok (.iconst 0, 1) := dk_3 (byr_X2_tryLanes_0 (j := 1) rfl)
theorem dX2_tryLanes_2 : decode cX2_tryLanes 2 = .ok (.iconst 3, 1) := dk_6 (byr_X2_tryLanes_0 (j := 2) rfl)
theorem dX2_tryLanes_3 : decode cX2_tryLanes 3 = .ok (.invokestatic 43, 3) := dk_184 (byr_X2_tryLanes_0 (j := 3) rfl) (byr_X2_tryLanes_0 (j := 4) rfl) (byr_X2_tryLanes_0 (j := 5) rfl) (by decide)
theorem dX2_tryLanes_6 : decode cX2_tryLanes 6 = .ok (.ifCond .ne 17, 3) := dk_154 (byr_X2_tryLanes_0 (j := 6) rfl) (byr_X2_tryLanes_0 (j := 7) rfl) (byr_X2_tryLanes_0 (j := 8) rfl) (by decide)
theorem dX2_tryLanes_9 : decode cX2_tryLanes 9 = .ok (.aload_n 0, 1) := dk_42 (byr_X2_tryLanes_0 (j := 9) rfl)
theorem dX2_tryLanes_10 : decode cX2_tryLanes 10 = .ok (.getfield 33, 3) := dk_180 (byr_X2_tryLanes_0 (j := 10) rfl) (byr_X2_tryLanes_0 (j := 11) rfl) (byr_X2_tryLanes_0 (j := 12) rfl) (by decide)
theorem dX2_tryLanes_13 : decode cX2_tryLanes 13 = .ok (.ifnull 10, 3) := dk_198 (byr_X2_tryLanes_0 (j := 13) rfl) (byr_X2_tryLanes_0 (j := 14) rfl) (byr_X2_tryLanes_0 (j := 15) rfl) (by decide)
theorem dX2_tryLanes_16 : decode cX2_tryLanes 16 = .ok (.aload_n 0, 1) := dk_42 (byr_X2_tryLanes_1 (j := 0) rfl)
theorem dX2_tryLanes_17 : decode cX2_tryLanes 17 = .ok (.getfield 37, 3) := dk_180 (byr_X2_tryLanes_1 (j := 1) rfl) (byr_X2_tryLanes_1 (j := 2) rfl) (byr_X2_tryLanes_1 (j := 3) rfl) (by decide)
theorem dX2_tryLanes_20 : decode cX2_tryLanes 20 = .ok (.ifnonnull 4, 3) := dk_199 (byr_X2_tryLanes_1 (j := 4) rfl) (byr_X2_tryLanes_1 (j := 5) rfl) (byr_X2_tryLanes_1 (j := 6) rfl) (by decide)
theorem dX2_tryLanes_23 : decode cX2_tryLanes 23 = .ok (.return_, 1) := dk_177 (byr_X2_tryLanes_1 (j := 7) rfl)
theorem dX2_tryLanes_24 : decode cX2_tryLanes 24 = .ok (.iload_n 1, 1) := dk_27 (byr_X2_tryLanes_1 (j := 8) rfl)
theorem dX2_tryLanes_25 : decode cX2_tryLanes 25 = .ok (.iconst 3, 1) := dk_6 (byr_X2_tryLanes_1 (j := 9) rfl)
theorem dX2_tryLanes_26 : decode cX2_tryLanes 26 = .ok (.if_icmp .ne 7, 3) := dk_160 (byr_X2_tryLanes_1 (j := 10) rfl) (byr_X2_tryLanes_1 (j := 11) rfl) (byr_X2_tryLanes_1 (j := 12) rfl) (by decide)
theorem dX2_tryLanes_29 : decode cX2_tryLanes 29 = .ok (.iconst 1, 1) := dk_4 (byr_X2_tryLanes_1 (j := 13) rfl)
theorem dX2_tryLanes_30 : decode cX2_tryLanes 30 = .ok (.goto 4, 3) := dk_167 (byr_X2_tryLanes_1 (j := 14) rfl) (byr_X2_tryLanes_1 (j := 15) rfl) (byr_X2_tryLanes_2 (j := 0) rfl) (by decide)
theorem dX2_tryLanes_33 : decode cX2_tryLanes 33 = .ok (.iconst 0, 1) := dk_3 (byr_X2_tryLanes_2 (j := 1) rfl)
theorem dX2_tryLanes_34 : decode cX2_tryLanes 34 = .ok (.istore_n 3, 1) := dk_62 (byr_X2_tryLanes_2 (j := 2) rfl)
theorem dX2_tryLanes_35 : decode cX2_tryLanes 35 = .ok (.iconst 0, 1) := dk_3 (byr_X2_tryLanes_2 (j := 3) rfl)
theorem dX2_tryLanes_36 : decode cX2_tryLanes 36 = .ok (.istore 4, 2) := dk_54 (byr_X2_tryLanes_2 (j := 4) rfl) (byr_X2_tryLanes_2 (j := 5) rfl)
theorem dX2_tryLanes_38 : decode cX2_tryLanes 38 = .ok (.iload 4, 2) := dk_21 (byr_X2_tryLanes_2 (j := 6) rfl) (byr_X2_tryLanes_2 (j := 7) rfl)
theorem dX2_tryLanes_40 : decode cX2_tryLanes 40 = .ok (.bipush 6, 2) := dk_16 (byr_X2_tryLanes_2 (j := 8) rfl) (byr_X2_tryLanes_2 (j := 9) rfl) (by decide)
theorem dX2_tryLanes_42 : decode cX2_tryLanes 42 = .ok (.if_icmp .ge 128, 3) := dk_162 (byr_X2_tryLanes_2 (j := 10) rfl) (byr_X2_tryLanes_2 (j := 11) rfl) (byr_X2_tryLanes_2 (j := 12) rfl) (by decide)
theorem dX2_tryLanes_45 : decode cX2_tryLanes 45 = .ok (.iload_n 3, 1) := dk_29 (byr_X2_tryLanes_2 (j := 13) rfl)
theorem dX2_tryLanes_46 : decode cX2_tryLanes 46 = .ok (.ifCond .eq 19, 3) := dk_153 (byr_X2_tryLanes_2 (j := 14) rfl) (byr_X2_tryLanes_2 (j := 15) rfl) (byr_X2_tryLanes_3 (j := 0) rfl) (by decide)
theorem dX2_tryLanes_49 : decode cX2_tryLanes 49 = .ok (.iload 4, 2) := dk_21 (byr_X2_tryLanes_3 (j := 1) rfl) (byr_X2_tryLanes_3 (j := 2) rfl)
theorem dX2_tryLanes_51 : decode cX2_tryLanes 51 = .ok (.aload_n 0, 1) := dk_42 (byr_X2_tryLanes_3 (j := 3) rfl)
theorem dX2_tryLanes_52 : decode cX2_tryLanes 52 = .ok (.getfield 37, 3) := dk_180 (byr_X2_tryLanes_3 (j := 4) rfl) (byr_X2_tryLanes_3 (j := 5) rfl) (byr_X2_tryLanes_3 (j := 6) rfl) (by decide)
theorem dX2_tryLanes_55 : decode cX2_tryLanes 55 = .ok (.iload_n 1, 1) := dk_27 (byr_X2_tryLanes_3 (j := 7) rfl)
theorem dX2_tryLanes_56 : decode cX2_tryLanes 56 = .ok (.invokevirtual 65, 3) := dk_182 (byr_X2_tryLanes_3 (j := 8) rfl) (byr_X2_tryLanes_3 (j := 9) rfl) (byr_X2_tryLanes_3 (j := 10) rfl) (by decide)
theorem dX2_tryLanes_59 : decode cX2_tryLanes 59 = .ok (.if_icmp .eq 6, 3) := dk_159 (byr_X2_tryLanes_3 (j := 11) rfl) (byr_X2_tryLanes_3 (j := 12) rfl) (byr_X2_tryLanes_3 (j := 13) rfl) (by decide)
theorem dX2_tryLanes_62 : decode cX2_tryLanes 62 = .ok (.goto 102, 3) := dk_167 (byr_X2_tryLanes_3 (j := 14) rfl) (byr_X2_tryLanes_3 (j := 15) rfl) (byr_X2_tryLanes_4 (j := 0) rfl) (by decide)
theorem dX2_tryLanes_65 : decode cX2_tryLanes 65 = .ok (.aload_n 0, 1) := dk_42 (byr_X2_tryLanes_4 (j := 1) rfl)
theorem dX2_tryLanes_66 : decode cX2_tryLanes 66 = .ok (.iload_n 1, 1) := dk_27 (byr_X2_tryLanes_4 (j := 2) rfl)
theorem dX2_tryLanes_67 : decode cX2_tryLanes 67 = .ok (.iload 4, 2) := dk_21 (byr_X2_tryLanes_4 (j := 3) rfl) (byr_X2_tryLanes_4 (j := 4) rfl)
theorem dX2_tryLanes_69 : decode cX2_tryLanes 69 = .ok (.invokevirtual 69, 3) := dk_182 (byr_X2_tryLanes_4 (j := 5) rfl) (byr_X2_tryLanes_4 (j := 6) rfl) (byr_X2_tryLanes_4 (j := 7) rfl) (by decide)
theorem dX2_tryLanes_72 : decode cX2_tryLanes 72 = .ok (.iload_n 2, 1) := dk_28 (byr_X2_tryLanes_4 (j := 8) rfl)
theorem dX2_tryLanes_73 : decode cX2_tryLanes 73 = .ok (.istore 5, 2) := dk_54 (byr_X2_tryLanes_4 (j := 9) rfl) (byr_X2_tryLanes_4 (j := 10) rfl)
theorem dX2_tryLanes_75 : decode cX2_tryLanes 75 = .ok (.iconst 0, 1) := dk_3 (byr_X2_tryLanes_4 (j := 11) rfl)
theorem dX2_tryLanes_76 : decode cX2_tryLanes 76 = .ok (.istore 6, 2) := dk_54 (byr_X2_tryLanes_4 (j := 12) rfl) (byr_X2_tryLanes_4 (j := 13) rfl)
theorem dX2_tryLanes_78 : decode cX2_tryLanes 78 = .ok (.iload_n 3, 1) := dk_29 (byr_X2_tryLanes_4 (j := 14) rfl)
theorem dX2_tryLanes_79 : decode cX2_tryLanes 79 = .ok (.ifCond .eq 8, 3) := dk_153 (byr_X2_tryLanes_4 (j := 15) rfl) (byr_X2_tryLanes_5 (j := 0) rfl) (byr_X2_tryLanes_5 (j := 1) rfl) (by decide)
theorem dX2_tryLanes_82 : decode cX2_tryLanes 82 = .ok (.bipush 60, 2) := dk_16 (byr_X2_tryLanes_5 (j := 2) rfl) (byr_X2_tryLanes_5 (j := 3) rfl) (by decide)
theorem dX2_tryLanes_84 : decode cX2_tryLanes 84 = .ok (.goto 9, 3) := dk_167 (byr_X2_tryLanes_5 (j := 4) rfl) (byr_X2_tryLanes_5 (j := 5) rfl) (byr_X2_tryLanes_5 (j := 6) rfl) (by decide)
theorem dX2_tryLanes_87 : decode cX2_tryLanes 87 = .ok (.iload_n 1, 1) := dk_27 (byr_X2_tryLanes_5 (j := 7) rfl)
theorem dX2_tryLanes_88 : decode cX2_tryLanes 88 = .ok (.iconst 1, 1) := dk_4 (byr_X2_tryLanes_5 (j := 8) rfl)
theorem dX2_tryLanes_89 : decode cX2_tryLanes 89 = .ok (.iadd, 1) := dk_96 (byr_X2_tryLanes_5 (j := 9) rfl)
theorem dX2_tryLanes_90 : decode cX2_tryLanes 90 = .ok (.bipush 10, 2) := dk_16 (byr_X2_tryLanes_5 (j := 10) rfl) (byr_X2_tryLanes_5 (j := 11) rfl) (by decide)
theorem dX2_tryLanes_92 : decode cX2_tryLanes 92 = .ok (.imul, 1) := dk_104 (byr_X2_tryLanes_5 (j := 12) rfl)
theorem dX2_tryLanes_93 : decode cX2_tryLanes 93 = .ok (.istore 7, 2) := dk_54 (byr_X2_tryLanes_5 (j := 13) rfl) (byr_X2_tryLanes_5 (j := 14) rfl)
theorem dX2_tryLanes_95 : decode cX2_tryLanes 95 = .ok (.iload_n 1, 1) := dk_27 (byr_X2_tryLanes_5 (j := 15) rfl)
theorem dX2_tryLanes_96 : decode cX2_tryLanes 96 = .ok (.bipush 10, 2) := dk_16 (byr_X2_tryLanes_6 (j := 0) rfl) (byr_X2_tryLanes_6 (j := 1) rfl) (by decide)
theorem dX2_tryLanes_98 : decode cX2_tryLanes 98 = .ok (.imul, 1) := dk_104 (byr_X2_tryLanes_6 (j := 2) rfl)
theorem dX2_tryLanes_99 : decode cX2_tryLanes 99 = .ok (.istore 8, 2) := dk_54 (byr_X2_tryLanes_6 (j := 3) rfl) (byr_X2_tryLanes_6 (j := 4) rfl)
theorem dX2_tryLanes_101 : decode cX2_tryLanes 101 = .ok (.iload 8, 2) := dk_21 (byr_X2_tryLanes_6 (j := 5) rfl) (byr_X2_tryLanes_6 (j := 6) rfl)
theorem dX2_tryLanes_103 : decode cX2_tryLanes 103 = .ok (.iload 7, 2) := dk_21 (byr_X2_tryLanes_6 (j := 7) rfl) (byr_X2_tryLanes_6 (j := 8) rfl)
theorem dX2_tryLanes_105 : decode cX2_tryLanes 105 = .ok (.if_icmp .ge 41, 3) := dk_162 (byr_X2_tryLanes_6 (j := 9) rfl) (byr_X2_tryLanes_6 (j := 10) rfl) (byr_X2_tryLanes_6 (j := 11) rfl) (by decide)
theorem dX2_tryLanes_108 : decode cX2_tryLanes 108 = .ok (.iload 6, 2) := dk_21 (byr_X2_tryLanes_6 (j := 12) rfl) (byr_X2_tryLanes_6 (j := 13) rfl)
theorem dX2_tryLanes_110 : decode cX2_tryLanes 110 = .ok (.ifCond .ne 36, 3) := dk_154 (byr_X2_tryLanes_6 (j := 14) rfl) (byr_X2_tryLanes_6 (j := 15) rfl) (byr_X2_tryLanes_7 (j := 0) rfl) (by decide)
theorem dX2_tryLanes_113 : decode cX2_tryLanes 113 = .ok (.aload_n 0, 1) := dk_42 (byr_X2_tryLanes_7 (j := 1) rfl)
theorem dX2_tryLanes_114 : decode cX2_tryLanes 114 = .ok (.getfield 33, 3) := dk_180 (byr_X2_tryLanes_7 (j := 2) rfl) (byr_X2_tryLanes_7 (j := 3) rfl) (byr_X2_tryLanes_7 (j := 4) rfl) (by decide)
theorem dX2_tryLanes_117 : decode cX2_tryLanes 117 = .ok (.aload_n 0, 1) := dk_42 (byr_X2_tryLanes_7 (j := 5) rfl)
theorem dX2_tryLanes_118 : decode cX2_tryLanes 118 = .ok (.getfield 26, 3) := dk_180 (byr_X2_tryLanes_7 (j := 6) rfl) (byr_X2_tryLanes_7 (j := 7) rfl) (byr_X2_tryLanes_7 (j := 8) rfl) (by decide)
theorem dX2_tryLanes_121 : decode cX2_tryLanes 121 = .ok (.iload 5, 2) := dk_21 (byr_X2_tryLanes_7 (j := 9) rfl) (byr_X2_tryLanes_7 (j := 10) rfl)
theorem dX2_tryLanes_123 : decode cX2_tryLanes 123 = .ok (.iload 8, 2) := dk_21 (byr_X2_tryLanes_7 (j := 11) rfl) (byr_X2_tryLanes_7 (j := 12) rfl)
theorem dX2_tryLanes_125 : decode cX2_tryLanes 125 = .ok (.invokevirtual 55, 3) := dk_182 (byr_X2_tryLanes_7 (j := 13) rfl) (byr_X2_tryLanes_7 (j := 14) rfl) (byr_X2_tryLanes_7 (j := 15) rfl) (by decide)
theorem dX2_tryLanes_128 : decode cX2_tryLanes 128 = .ok (.istore 5, 2) := dk_54 (byr_X2_tryLanes_8 (j := 0) rfl) (byr_X2_tryLanes_8 (j := 1) rfl)
theorem dX2_tryLanes_130 : decode cX2_tryLanes 130 = .ok (.aload_n 0, 1) := dk_42 (byr_X2_tryLanes_8 (j := 2) rfl)
theorem dX2_tryLanes_131 : decode cX2_tryLanes 131 = .ok (.iload 5, 2) := dk_21 (byr_X2_tryLanes_8 (j := 3) rfl) (byr_X2_tryLanes_8 (j := 4) rfl)
theorem dX2_tryLanes_133 : decode cX2_tryLanes 133 = .ok (.iload 8, 2) := dk_21 (byr_X2_tryLanes_8 (j := 5) rfl) (byr_X2_tryLanes_8 (j := 6) rfl)
theorem dX2_tryLanes_135 : decode cX2_tryLanes 135 = .ok (.invokevirtual 72, 3) := dk_182 (byr_X2_tryLanes_8 (j := 7) rfl) (byr_X2_tryLanes_8 (j := 8) rfl) (byr_X2_tryLanes_8 (j := 9) rfl) (by decide)
theorem dX2_tryLanes_138 : decode cX2_tryLanes 138 = .ok (.istore 6, 2) := dk_54 (byr_X2_tryLanes_8 (j := 10) rfl) (byr_X2_tryLanes_8 (j := 11) rfl)
theorem dX2_tryLanes_140 : decode cX2_tryLanes 140 = .ok (.iinc 8 1, 3) := dk_132 (byr_X2_tryLanes_8 (j := 12) rfl) (byr_X2_tryLanes_8 (j := 13) rfl) (byr_X2_tryLanes_8 (j := 14) rfl) (by decide)
theorem dX2_tryLanes_143 : decode cX2_tryLanes 143 = .ok (.goto (-42), 3) := dk_167 (byr_X2_tryLanes_8 (j := 15) rfl) (byr_X2_tryLanes_9 (j := 0) rfl) (byr_X2_tryLanes_9 (j := 1) rfl) (by decide)
theorem dX2_tryLanes_146 : decode cX2_tryLanes 146 = .ok (.iload 6, 2) := dk_21 (byr_X2_tryLanes_9 (j := 2) rfl) (byr_X2_tryLanes_9 (j := 3) rfl)
theorem dX2_tryLanes_148 : decode cX2_tryLanes 148 = .ok (.ifCond .ne 16, 3) := dk_154 (byr_X2_tryLanes_9 (j := 4) rfl) (byr_X2_tryLanes_9 (j := 5) rfl) (byr_X2_tryLanes_9 (j := 6) rfl) (by decide)
theorem dX2_tryLanes_151 : decode cX2_tryLanes 151 = .ok (.iload_n 3, 1) := dk_29 (byr_X2_tryLanes_9 (j := 7) rfl)
theorem dX2_tryLanes_152 : decode cX2_tryLanes 152 = .ok (.ifCond .ne 12, 3) := dk_154 (byr_X2_tryLanes_9 (j := 8) rfl) (byr_X2_tryLanes_9 (j := 9) rfl) (byr_X2_tryLanes_9 (j := 10) rfl) (by decide)
theorem dX2_tryLanes_155 : decode cX2_tryLanes 155 = .ok (.aload_n 0, 1) := dk_42 (byr_X2_tryLanes_9 (j := 11) rfl)
theorem dX2_tryLanes_156 : decode cX2_tryLanes 156 = .ok (.iload_n 1, 1) := dk_27 (byr_X2_tryLanes_9 (j := 12) rfl)
theorem dX2_tryLanes_157 : decode cX2_tryLanes 157 = .ok (.iconst 1, 1) := dk_4 (byr_X2_tryLanes_9 (j := 13) rfl)
theorem dX2_tryLanes_158 : decode cX2_tryLanes 158 = .ok (.iadd, 1) := dk_96 (byr_X2_tryLanes_9 (j := 14) rfl)
theorem dX2_tryLanes_159 : decode cX2_tryLanes 159 = .ok (.iload 5, 2) := dk_21 (byr_X2_tryLanes_9 (j := 15) rfl) (byr_X2_tryLanes_10 (j := 0) rfl)
theorem dX2_tryLanes_161 : decode cX2_tryLanes 161 = .ok (.invokevirtual 61, 3) := dk_182 (byr_X2_tryLanes_10 (j := 1) rfl) (byr_X2_tryLanes_10 (j := 2) rfl) (byr_X2_tryLanes_10 (j := 3) rfl) (by decide)
theorem dX2_tryLanes_164 : decode cX2_tryLanes 164 = .ok (.iinc 4 1, 3) := dk_132 (byr_X2_tryLanes_10 (j := 4) rfl) (byr_X2_tryLanes_10 (j := 5) rfl) (byr_X2_tryLanes_10 (j := 6) rfl) (by decide)
theorem dX2_tryLanes_167 : decode cX2_tryLanes 167 = .ok (.goto (-129), 3) := dk_167 (byr_X2_tryLanes_10 (j := 7) rfl) (byr_X2_tryLanes_10 (j := 8) rfl) (byr_X2_tryLanes_10 (j := 9) rfl) (by decide)
theorem dX2_tryLanes_170 : decode cX2_tryLanes 170 = .ok (.return_, 1) := dk_177 (byr_X2_tryLanes_10 (j := 10) rfl)
set_option maxHeartbeats 4000000 in
set_option maxRecDepth 100000 in
theorem cg_X2_tryLanes (l : Launch) (G : GT) : ∀ d, (∀ (σ : Sto) (a1 : Int32) (a2 : Int32) (r : Sto) (_ : g_X2_tryLanes d 0 a1 a2 σ = some r), MW l G (6 + d) (198 + 64 * d) 0 0 yX2_tryLanes cX2_tryLanes 9 (Option.none : Option Jvm.ClassFile.FieldType) [.ref (gad G 60), .int a1, .int a2] (wl G σ) (none) (wl G r)) := by
  intro d
  induction d with
  | zero => exact fun _ _ _ _ => by intro h; cases h
  | succ d ih =>
    intro σ a1 a2 r h
    rw [g_X2_tryLanes] at h
    refine mw_of RX2 (fiV G) [(0, .ref (gad G 60)), (1, .int a1), (2, .int a2)] (by decide +kernel) rfl (Nat.le_of_ble_eq_true rfl) rfl h rfl (fun p e s m args below meth c X hr hnm => ?_)
    have J164 : ∀ (v1 : Int32) (v2 : Int32) (v3 : Bool) (v4 : Int32) (K38 : Int32 → Sto → Option Sto) (hK38 : ∀ (v4' : Int32) (σ' : Sto), Sm p l e { frames := 6 + (d + 1), cells := 0, slots := 0, locals := 198 + 64 * (d + 1) } s m args below meth c G 9 (Qm below args s G 0 0 (fiV G)) 0 0 (wl G σ') 38 [(0, .ref (gad G 60)), (1, .int v1), (2, .int v2), (3, .int (b2i v3)), (4, .int v4')] [] (K38 v4' σ')) (σ : Sto), Sm p l e { frames := 6 + (d + 1), cells := 0, slots := 0, locals := 198 + 64 * (d + 1) } s m args below meth c G 9 (Qm below args s G 0 0 (fiV G)) 0 0 (wl G σ) 164 [(0, .ref (gad G 60)), (1, .int v1), (2, .int v2), (3, .int (b2i v3)), (4, .int v4)] [] (f_X2_tryLanes_L164 (g_X2_tryLanes d) K38 v1 v2 v3 v4 σ) := by
      intro v1 v2 v3 v4 K38 hK38 σ
      rw [f_X2_tryLanes_L164]
      refine sm_iinc X 167 4 (1 : Int32) [(4, .int (v4 + (1 : Int32))), (0, .ref (gad G 60)), (1, .int v1), (2, .int v2), (3, .int (b2i v3))] dX2_tryLanes_164 rfl rfl rfl (by decide) rfl ?_
      refine sm_goto X 38 dX2_tryLanes_167 (by decide) ?_
      exact sm_sub [1, 2, 3, 4, 0] rfl (hK38 (v4 + (1 : Int32)) σ)
    have J146 : ∀ (v1 : Int32) (v2 : Int32) (v3 : Bool) (v4 : Int32) (v5 : Int32) (v6 : Bool) (K38 : Int32 → Sto → Option Sto) (hK38 : ∀ (v4' : Int32) (σ' : Sto), Sm p l e { frames := 6 + (d + 1), cells := 0, slots := 0, locals := 198 + 64 * (d + 1) } s m args below meth c G 9 (Qm below args s G 0 0 (fiV G)) 0 0 (wl G σ') 38 [(0, .ref (gad G 60)), (1, .int v1), (2, .int v2), (3, .int (b2i v3)), (4, .int v4')] [] (K38 v4' σ')) (σ : Sto), Sm p l e { frames := 6 + (d + 1), cells := 0, slots := 0, locals := 198 + 64 * (d + 1) } s m args below meth c G 9 (Qm below args s G 0 0 (fiV G)) 0 0 (wl G σ) 146 [(0, .ref (gad G 60)), (1, .int v1), (2, .int v2), (3, .int (b2i v3)), (4, .int v4), (5, .int v5), (6, .int (b2i v6))] [] (f_X2_tryLanes_L146 (g_X2_tryLanes d) K38 v1 v2 v3 v4 v5 v6 σ) := by
      intro v1 v2 v3 v4 v5 v6 K38 hK38 σ
      rw [f_X2_tryLanes_L146]
      refine sm_iload X 148 6 dX2_tryLanes_146 rfl rfl ?_
      refine sm_ifz_ne X 151 164 dX2_tryLanes_148 rfl (by decide) (fun h148 => ?_) (fun h148 => ?_)
      · exact sm_sub [0, 1, 2, 3, 4] rfl (J164 v1 v2 v3 v4 K38 hK38 σ)
      · refine sm_iload_n X 152 3 dX2_tryLanes_151 rfl rfl rfl ?_
        refine sm_ifz_ne X 155 164 dX2_tryLanes_152 rfl (by decide) (fun h152 => ?_) (fun h152 => ?_)
        · exact sm_sub [0, 1, 2, 3, 4] rfl (J164 v1 v2 v3 v4 K38 hK38 σ)
        · refine sm_aload_n X 156 0 dX2_tryLanes_155 rfl rfl rfl ?_
          refine sm_iload_n X 157 1 dX2_tryLanes_156 rfl rfl rfl ?_
          refine sm_iconst X 158 (1) dX2_tryLanes_157 rfl rfl ?_
          refine sm_iadd X 159 dX2_tryLanes_158 rfl ?_
          refine sm_iload X 161 5 dX2_tryLanes_159 rfl rfl ?_
          refine sm_bind (fun r161 h161 => ?_)
          refine sm_callV0 X 164 [.int (v1 + (1 : Int32)), .int v5] [] [] (ih σ (v1 + (1 : Int32)) v5 r161 h161) cw_X2_tryLanes q_694 qs_18 q_692 rfl (by decide) rfl rfl rfl rfl rfl (Nat.le_of_ble_eq_true rfl) ⟨by show _ + _ + 1 ≤ _ + (_ + 1); omega, by show _ + (_ + 64 * _) ≤ _ + 64 * (_ + 1); omega⟩ ⟨Nat.le_refl _, Nat.le_refl _⟩ dX2_tryLanes_161 rfl ?_
          exact sm_sub [0, 1, 2, 3, 4] rfl (J164 v1 v2 v3 v4 K38 hK38 r161)
    have J101 : ∀ (v1 : Int32) (v2 : Int32) (v3 : Bool) (v4 : Int32) (v7 : Int32) (K38 : Int32 → Sto → Option Sto) (hK38 : ∀ (v4' : Int32) (σ' : Sto), Sm p l e { frames := 6 + (d + 1), cells := 0, slots := 0, locals := 198 + 64 * (d + 1) } s m args below meth c G 9 (Qm below args s G 0 0 (fiV G)) 0 0 (wl G σ') 38 [(0, .ref (gad G 60)), (1, .int v1), (2, .int v2), (3, .int (b2i v3)), (4, .int v4')] [] (K38 v4' σ')) (n : Nat) (v5 : Int32) (v6 : Bool) (v8 : Int32) (σ : Sto), Sm p l e { frames := 6 + (d + 1), cells := 0, slots := 0, locals := 198 + 64 * (d + 1) } s m args below meth c G 9 (Qm below args s G 0 0 (fiV G)) 0 0 (wl G σ) 101 [(0, .ref (gad G 60)), (1, .int v1), (2, .int v2), (3, .int (b2i v3)), (4, .int v4), (5, .int v5), (6, .int (b2i v6)), (7, .int v7), (8, .int v8)] [] (f_X2_tryLanes_L101 (g_X2_tryLanes d) K38 v1 v2 v3 v4 v7 n v5 v6 v8 σ) := by
      intro v1 v2 v3 v4 v7 K38 hK38 n
      induction n with
      | zero => intro v5 v6 v8 σ; rw [f_X2_tryLanes_L101]; exact sm_none
      | succ n ihl =>
        intro v5 v6 v8 σ
        rw [f_X2_tryLanes_L101]
        refine sm_iload X 103 8 dX2_tryLanes_101 rfl rfl ?_
        refine sm_iload X 105 7 dX2_tryLanes_103 rfl rfl ?_
        refine sm_icmp_ge X 108 146 dX2_tryLanes_105 rfl (by decide) (fun h105 => ?_) (fun h105 => ?_)
        · exact sm_sub [0, 1, 2, 3, 4, 5, 6] rfl (J146 v1 v2 v3 v4 v5 v6 K38 hK38 σ)
        · refine sm_iload X 110 6 dX2_tryLanes_108 rfl rfl ?_
          refine sm_ifz_ne X 113 146 dX2_tryLanes_110 rfl (by decide) (fun h110 => ?_) (fun h110 => ?_)
          · exact sm_sub [0, 1, 2, 3, 4, 5, 6] rfl (J146 v1 v2 v3 v4 v5 v6 K38 hK38 σ)
          · refine sm_aload_n X 114 0 dX2_tryLanes_113 rfl rfl rfl ?_
            refine sm_getrN X 117 rfl fd_2_5 dX2_tryLanes_114 rfl q_223 (fun r114 e114 => ?_)
            clear e114
            refine sm_aload_n X 118 0 dX2_tryLanes_117 rfl rfl rfl ?_
            refine sm_getf X 121 62 rfl fd_2_3 rfl dX2_tryLanes_118 rfl q_221 ?_
            refine sm_iload X 123 5 dX2_tryLanes_121 rfl rfl ?_
            refine sm_iload X 125 8 dX2_tryLanes_123 rfl rfl ?_
            refine sm_deref (fun k125 h hk125 => ?_)
            subst h
            obtain rfl := sg_5 hk125
            clear hk125
            refine sm_bind (fun r125 h125 => ?_)
            refine sm_callV0 X 128 [.ref (gad G 62), .int v5, .int v8] [] [.int r125] (c_X5_placeNext l G σ 62 rfl v5 v8 r125 h125) cw_X5_placeNext q_616 q_617 q_691 rfl (by decide) rfl rfl rfl rfl rfl (Nat.le_of_ble_eq_true rfl) ⟨by show _ + 1 ≤ _ + (_ + 1); omega, by show _ ≤ _ + 64 * (_ + 1); omega⟩ ⟨Nat.le_refl _, Nat.le_refl _⟩ dX2_tryLanes_125 rfl ?_
            refine sm_istore X 130 [(5, .int r125), (0, .ref (gad G 60)), (1, .int v1), (2, .int v2), (3, .int (b2i v3)), (4, .int v4), (6, .int (b2i v6)), (7, .int v7), (8, .int v8)] dX2_tryLanes_128 rfl (by decide) rfl ?_
            refine sm_aload_n X 131 1 dX2_tryLanes_130 rfl rfl rfl ?_
            refine sm_iload X 133 0 dX2_tryLanes_131 rfl rfl ?_
            refine sm_iload X 135 8 dX2_tryLanes_133 rfl rfl ?_
            refine sm_bind (fun r135 h135 => ?_)
            refine sm_callV0 X 138 [.int r125, .int v8] [] [.int (b2i r135.1)] (c_X2_meetsAt l G σ r125 v8 r135 h135) cw_X2_meetsAt q_705 qs_20 q_703 rfl (by decide) rfl rfl rfl rfl rfl (Nat.le_of_ble_eq_true rfl) ⟨by show _ + 1 ≤ _ + (_ + 1); omega, by show _ ≤ _ + 64 * (_ + 1); omega⟩ ⟨Nat.le_refl _, Nat.le_refl _⟩ dX2_tryLanes_135 rfl ?_
            refine sm_istore X 140 [(6, .int (b2i r135.1)), (5, .int r125), (0, .ref (gad G 60)), (1, .int v1), (2, .int v2), (3, .int (b2i v3)), (4, .int v4), (7, .int v7), (8, .int v8)] dX2_tryLanes_138 rfl (by decide) rfl ?_
            refine sm_iinc X 143 8 (1 : Int32) [(8, .int (v8 + (1 : Int32))), (6, .int (b2i r135.1)), (5, .int r125), (0, .ref (gad G 60)), (1, .int v1), (2, .int v2), (3, .int (b2i v3)), (4, .int v4), (7, .int v7)] dX2_tryLanes_140 rfl rfl rfl (by decide) rfl ?_
            refine sm_goto X 101 dX2_tryLanes_143 (by decide) ?_
            exact sm_sub [3, 4, 5, 6, 7, 2, 1, 8, 0] rfl (ihl r125 r135.1 (v8 + (1 : Int32)) r135.2)
    have J93 : ∀ (v1 : Int32) (v2 : Int32) (v3 : Bool) (v4 : Int32) (v5 : Int32) (v6 : Bool) (vs0 : Int32) (K38 : Int32 → Sto → Option Sto) (hK38 : ∀ (v4' : Int32) (σ' : Sto), Sm p l e { frames := 6 + (d + 1), cells := 0, slots := 0, locals := 198 + 64 * (d + 1) } s m args below meth c G 9 (Qm below args s G 0 0 (fiV G)) 0 0 (wl G σ') 38 [(0, .ref (gad G 60)), (1, .int v1), (2, .int v2), (3, .int (b2i v3)), (4, .int v4')] [] (K38 v4' σ')) (σ : Sto), Sm p l e { frames := 6 + (d + 1), cells := 0, slots := 0, locals := 198 + 64 * (d + 1) } s m args below meth c G 9 (Qm below args s G 0 0 (fiV G)) 0 0 (wl G σ) 93 [(0, .ref (gad G 60)), (1, .int v1), (2, .int v2), (3, .int (b2i v3)), (4, .int v4), (5, .int v5), (6, .int (b2i v6))] [.int vs0] (f_X2_tryLanes_L93 (g_X2_tryLanes d) K38 v1 v2 v3 v4 v5 v6 vs0 σ) := by
      intro v1 v2 v3 v4 v5 v6 vs0 K38 hK38 σ
      rw [f_X2_tryLanes_L93]
      refine sm_istore X 95 [(7, .int vs0), (0, .ref (gad G 60)), (1, .int v1), (2, .int v2), (3, .int (b2i v3)), (4, .int v4), (5, .int v5), (6, .int (b2i v6))] dX2_tryLanes_93 rfl (by decide) rfl ?_
      refine sm_iload_n X 96 2 dX2_tryLanes_95 rfl rfl rfl ?_
      refine sm_bipush X 98 (10) dX2_tryLanes_96 rfl rfl ?_
      refine sm_imul X 99 dX2_tryLanes_98 rfl ?_
      refine sm_istore X 101 [(8, .int (v1 * (10 : Int32))), (7, .int vs0), (0, .ref (gad G 60)), (1, .int v1), (2, .int v2), (3, .int (b2i v3)), (4, .int v4), (5, .int v5), (6, .int (b2i v6))] dX2_tryLanes_99 rfl (by decide) rfl ?_
      exact sm_sub [2, 3, 4, 5, 6, 7, 8, 1, 0] rfl (J101 v1 v2 v3 v4 vs0 K38 hK38 FU v5 v6 (v1 * (10 : Int32)) σ)
    have J65 : ∀ (v1 : Int32) (v2 : Int32) (v3 : Bool) (v4 : Int32) (K38 : Int32 → Sto → Option Sto) (hK38 : ∀ (v4' : Int32) (σ' : Sto), Sm p l e { frames := 6 + (d + 1), cells := 0, slots := 0, locals := 198 + 64 * (d + 1) } s m args below meth c G 9 (Qm below args s G 0 0 (fiV G)) 0 0 (wl G σ') 38 [(0, .ref (gad G 60)), (1, .int v1), (2, .int v2), (3, .int (b2i v3)), (4, .int v4')] [] (K38 v4' σ')) (σ : Sto), Sm p l e { frames := 6 + (d + 1), cells := 0, slots := 0, locals := 198 + 64 * (d + 1) } s m args below meth c G 9 (Qm below args s G 0 0 (fiV G)) 0 0 (wl G σ) 65 [(0, .ref (gad G 60)), (1, .int v1), (2, .int v2), (3, .int (b2i v3)), (4, .int v4)] [] (f_X2_tryLanes_L65 (g_X2_tryLanes d) K38 v1 v2 v3 v4 σ) := by
      intro v1 v2 v3 v4 K38 hK38 σ
      rw [f_X2_tryLanes_L65]
      refine sm_aload_n X 66 0 dX2_tryLanes_65 rfl rfl rfl ?_
      refine sm_iload_n X 67 1 dX2_tryLanes_66 rfl rfl rfl ?_
      refine sm_iload X 69 4 dX2_tryLanes_67 rfl rfl ?_
      refine sm_bind (fun r69 h69 => ?_)
      refine sm_callV0 X 72 [.int v1, .int v4] [] [] (c_X2_setLane l G σ v1 v4 r69 h69) cw_X2_setLane q_700 qs_19 q_698 rfl (by decide) rfl rfl rfl rfl rfl (Nat.le_of_ble_eq_true rfl) ⟨by show _ + 1 ≤ _ + (_ + 1); omega, by show _ ≤ _ + 64 * (_ + 1); omega⟩ ⟨Nat.le_refl _, Nat.le_refl _⟩ dX2_tryLanes_69 rfl ?_
      refine sm_iload_n X 73 2 dX2_tryLanes_72 rfl rfl rfl ?_
      refine sm_istore X 75 [(5, .int v2), (0, .ref (gad G 60)), (1, .int v1), (2, .int v2), (3, .int (b2i v3)), (4, .int v4)] dX2_tryLanes_73 rfl (by decide) rfl ?_
      refine sm_iconst X 76 (0) dX2_tryLanes_75 rfl rfl ?_
      refine sm_istore X 78 [(6, .int 0), (5, .int v2), (0, .ref (gad G 60)), (1, .int v1), (2, .int v2), (3, .int (b2i v3)), (4, .int v4)] dX2_tryLanes_76 rfl (by decide) rfl ?_
      refine sm_iload_n X 79 5 dX2_tryLanes_78 rfl rfl rfl ?_
      refine sm_ifz_eq X 82 87 dX2_tryLanes_79 rfl (by decide) (fun h79 => ?_) (fun h79 => ?_)
      · refine sm_bipush X 84 (60) dX2_tryLanes_82 rfl rfl ?_
        refine sm_goto X 93 dX2_tryLanes_84 (by decide) ?_
        exact sm_sub [2, 3, 4, 5, 6, 1, 0] rfl (J93 v1 v2 v3 v4 v2 false (60 : Int32) K38 hK38 r69)
      · refine sm_iload_n X 88 3 dX2_tryLanes_87 rfl rfl rfl ?_
        refine sm_iconst X 89 (1) dX2_tryLanes_88 rfl rfl ?_
        refine sm_iadd X 90 dX2_tryLanes_89 rfl ?_
        refine sm_bipush X 92 (10) dX2_tryLanes_90 rfl rfl ?_
        refine sm_imul X 93 dX2_tryLanes_92 rfl ?_
        exact sm_sub [2, 3, 4, 5, 6, 1, 0] rfl (J93 v1 v2 v3 v4 v2 false ((v1 + (1 : Int32)) * (10 : Int32)) K38 hK38 r69)
    have J38 : ∀ (v1 : Int32) (v2 : Int32) (v3 : Bool)  (n : Nat) (v4 : Int32) (σ : Sto), Sm p l e { frames := 6 + (d + 1), cells := 0, slots := 0, locals := 198 + 64 * (d + 1) } s m args below meth c G 9 (Qm below args s G 0 0 (fiV G)) 0 0 (wl G σ) 38 [(0, .ref (gad G 60)), (1, .int v1), (2, .int v2), (3, .int (b2i v3)), (4, .int v4)] [] (f_X2_tryLanes_L38 (g_X2_tryLanes d)  v1 v2 v3 n v4 σ) := by
      intro v1 v2 v3 n
      induction n with
      | zero => intro v4 σ; rw [f_X2_tryLanes_L38]; exact sm_none
      | succ n ihl =>
        intro v4 σ
        rw [f_X2_tryLanes_L38]
        refine sm_iload X 40 4 dX2_tryLanes_38 rfl rfl ?_
        refine sm_bipush X 42 (6) dX2_tryLanes_40 rfl rfl ?_
        refine sm_icmp_ge X 45 170 dX2_tryLanes_42 rfl (by decide) (fun h42 => ?_) (fun h42 => ?_)
        · exact sm_vret X hr dX2_tryLanes_170 rfl
        · refine sm_iload_n X 46 3 dX2_tryLanes_45 rfl rfl rfl ?_
          refine sm_ifz_eq X 49 65 dX2_tryLanes_46 rfl (by decide) (fun h46 => ?_) (fun h46 => ?_)
          · refine sm_iload X 51 4 dX2_tryLanes_49 rfl rfl ?_
            refine sm_aload_n X 52 0 dX2_tryLanes_51 rfl rfl rfl ?_
            refine sm_getrN X 55 rfl fd_2_6 dX2_tryLanes_52 rfl q_224 (fun r52 e52 => ?_)
            clear e52
            refine sm_iload_n X 56 1 dX2_tryLanes_55 rfl rfl rfl ?_
            refine sm_deref (fun k56 h hk56 => ?_)
            subst h
            refine sm_bind (fun r56 h56 => ?_)
            refine sm_callV0 X 59 [.int v1] [.int v4] [.int r56, .int v4] (c_X6_laneOf l G σ k56 hk56 v1 r56 h56) cw_X6_laneOf q_396 q_397 q_697 hk56 (by decide) rfl rfl rfl rfl rfl (Nat.le_of_ble_eq_true rfl) ⟨by show _ + 1 ≤ _ + (_ + 1); omega, by show _ ≤ _ + 64 * (_ + 1); omega⟩ ⟨Nat.le_refl _, Nat.le_refl _⟩ dX2_tryLanes_56 rfl ?_
            refine sm_icmp_eq X 62 65 dX2_tryLanes_59 rfl (by decide) (fun h59 => ?_) (fun h59 => ?_)
            · exact sm_sub [0, 1, 2, 3, 4] rfl (J65 v1 v2 v3 v4 (f_X2_tryLanes_L38 (g_X2_tryLanes d)  v1 v2 v3 n) ihl σ)
            · refine sm_goto X 164 dX2_tryLanes_62 (by decide) ?_
              exact sm_sub [0, 1, 2, 3, 4] rfl (J164 v1 v2 v3 v4 (f_X2_tryLanes_L38 (g_X2_tryLanes d)  v1 v2 v3 n) ihl σ)
          · exact sm_sub [0, 1, 2, 3, 4] rfl (J65 v1 v2 v3 v4 (f_X2_tryLanes_L38 (g_X2_tryLanes d)  v1 v2 v3 n) ihl σ)
    have J34 : ∀ (v1 : Int32) (v2 : Int32) (vs0 : Bool)  (σ : Sto), Sm p l e { frames := 6 + (d + 1), cells := 0, slots := 0, locals := 198 + 64 * (d + 1) } s m args below meth c G 9 (Qm below args s G 0 0 (fiV G)) 0 0 (wl G σ) 34 [(0, .ref (gad G 60)), (1, .int v1), (2, .int v2)] [.int (b2i vs0)] (f_X2_tryLanes_L34 (g_X2_tryLanes d)  v1 v2 vs0 σ) := by
      intro v1 v2 vs0 σ
      rw [f_X2_tryLanes_L34]
      refine sm_istore_n X 35 [(3, .int (b2i vs0)), (0, .ref (gad G 60)), (1, .int v1), (2, .int v2)] dX2_tryLanes_34 rfl rfl (by decide) rfl ?_
      refine sm_iconst X 36 (0) dX2_tryLanes_35 rfl rfl ?_
      refine sm_istore X 38 [(4, .int 0), (3, .int (b2i vs0)), (0, .ref (gad G 60)), (1, .int v1), (2, .int v2)] dX2_tryLanes_36 rfl (by decide) rfl ?_
      exact sm_sub [2, 3, 4, 1, 0] rfl (J38 v1 v2 vs0  FU (0 : Int32) σ)
    unfold b_X2_tryLanes
    refine sm_iload_n X 1 1 dX2_tryLanes_0 rfl rfl rfl ?_
    refine sm_iconst X 2 (0) dX2_tryLanes_1 rfl rfl ?_
    refine sm_iconst X 3 (3) dX2_tryLanes_2 rfl rfl ?_
    refine sm_bind (fun r3 h3 => ?_)
    refine sm_callSN0 X 6 (host := RX8) [.int a1, .int 0, .int 3] [] [.int (b2i r3)] (c_X8_isOutside l G σ a1 (0 : Int32) (3 : Int32) r3 h3) cw_X8_isOutside q_328 (List.mem_of_getElem? (i := 12) rfl) rfl rfl rfl (Nat.le_of_ble_eq_true rfl) ⟨by show _ + 1 ≤ _ + (_ + 1); omega, by show _ ≤ _ + 64 * (_ + 1); omega⟩ ⟨Nat.le_refl _, Nat.le_refl _⟩ dX2_tryLanes_3 rfl ?_
    refine sm_ifz_ne X 9 23 dX2_tryLanes_6 rfl (by decide) (fun h6 => ?_) (fun h6 => ?_)
    · exact sm_vret X hr dX2_tryLanes_23 rfl
    · refine sm_aload_n X 10 0 dX2_tryLanes_9 rfl rfl rfl ?_
      refine sm_getrN X 13 rfl fd_2_5 dX2_tryLanes_10 rfl q_223 (fun r10 e10 => ?_)
      clear e10
      refine sm_ifnull X 16 23 dX2_tryLanes_13 rfl (by decide) (fun hn => ?_) (fun k13 hn => ?_)
      · subst hn
        exact sm_vret X hr dX2_tryLanes_23 rfl
      · subst hn
        refine sm_aload_n X 17 0 dX2_tryLanes_16 rfl rfl rfl ?_
        refine sm_getrN X 20 rfl fd_2_6 dX2_tryLanes_17 rfl q_224 (fun r17 e17 => ?_)
        clear e17
        refine sm_ifnonnull X 23 24 dX2_tryLanes_20 rfl (by decide) (fun hn => ?_) (fun k20 hn => ?_)
        · subst hn
          exact sm_vret X hr dX2_tryLanes_23 rfl
        · subst hn
          refine sm_iload_n X 25 1 dX2_tryLanes_24 rfl rfl rfl ?_
          refine sm_iconst X 26 (3) dX2_tryLanes_25 rfl rfl ?_
          refine sm_icmp_ne X 29 33 dX2_tryLanes_26 rfl (by decide) (fun h26 => ?_) (fun h26 => ?_)
          · refine sm_iconst X 30 (1) dX2_tryLanes_29 rfl rfl ?_
            refine sm_goto X 34 dX2_tryLanes_30 (by decide) ?_
            exact sm_sub [0, 1, 2] rfl (J34 a1 a2 true  σ)
          · refine sm_iconst X 34 (0) dX2_tryLanes_33 rfl rfl ?_
            exact sm_sub [0, 1, 2] rfl (J34 a1 a2 false  σ)
set_option maxHeartbeats 4000000 in
set_option maxRecDepth 100000 in
theorem c_X2_tryLanes (l : Launch) (G : GT) (σ : Sto) (a1 : Int32) (a2 : Int32) (r : Sto) (h : g_X2_tryLanes 8 0 a1 a2 σ = some r) : MW l G (14) (710) 0 0 yX2_tryLanes cX2_tryLanes 9 (Option.none : Option Jvm.ClassFile.FieldType) [.ref (gad G 60), .int a1, .int a2] (wl G σ) (none) (wl G r) := (cg_X2_tryLanes l G 8) σ a1 a2 r h
def by_X2_seek_0 : List Nat := [42, 43, 181, 0, 33, 42, 45, 181, 0, 37, 42, 21, 4, 181, 0, 40]
def by_X2_seek_1 : List Nat := [42, 3, 181, 0, 9, 42, 3, 181, 0, 15, 42, 180, 0, 26, 44, 182]
def by_X2_seek_2 : List Nat := [0, 47, 45, 182, 0, 51, 54, 5, 3, 54, 6, 21, 6, 42, 180, 0]
def by_X2_seek_3 : List Nat := [30, 190, 162, 0, 29, 43, 45, 21, 5, 21, 6, 182, 0, 55, 54, 5]
def by_X2_seek_4 : List Nat := [42, 180, 0, 30, 21, 6, 21, 5, 79, 132, 6, 1, 167, 255, 223, 42]
def by_X2_seek_z : List Nat := [3, 42, 180, 0, 26, 182, 0, 51, 182, 0, 61, 177]
def by_X2_seek : List (List Nat) := [by_X2_seek_0, by_X2_seek_1, by_X2_seek_2, by_X2_seek_3, by_X2_seek_4]
set_option maxRecDepth 100000 in
theorem byo_X2_seek : cX2_seek.data.toList.map UInt8.toNat = by_X2_seek.flatten ++ by_X2_seek_z := by decide +kernel
theorem byl_X2_seek : by_X2_seek.all (fun r => r.length == 16) = true := by decide +kernel
theorem byr_X2_seek_0 {j v : Nat} (h : by_X2_seek_0[j]? = some v) : RD cX2_seek (0 + j) v := rd_16 byo_X2_seek byl_X2_seek 0 rfl h
theorem byr_X2_seek_1 {j v : Nat} (h : by_X2_seek_1[j]? = some v) : RD cX2_seek (16 + j) v := rd_16 byo_X2_seek byl_X2_seek 1 rfl h
theorem byr_X2_seek_2 {j v : Nat} (h : by_X2_seek_2[j]? = some v) : RD cX2_seek (32 + j) v := rd_16 byo_X2_seek byl_X2_seek 2 rfl h
theorem byr_X2_seek_3 {j v : Nat} (h : by_X2_seek_3[j]? = some v) : RD cX2_seek (48 + j) v := rd_16 byo_X2_seek byl_X2_seek 3 rfl h
theorem byr_X2_seek_4 {j v : Nat} (h : by_X2_seek_4[j]? = some v) : RD cX2_seek (64 + j) v := rd_16 byo_X2_seek byl_X2_seek 4 rfl h
theorem byr_X2_seek_5 {j v : Nat} (h : by_X2_seek_z[j]? = some v) : RD cX2_seek (80 + j) v := rd_z byo_X2_seek byl_X2_seek 5 rfl h
theorem dX2_seek_0 : decode cX2_seek 0 = .ok (.aload_n 0, 1) := dk_42 (byr_X2_seek_0 (j := 0) rfl)
theorem dX2_seek_1 : decode cX2_seek 1 = .ok (.aload_n 1, 1) := dk_43 (byr_X2_seek_0 (j := 1) rfl)
theorem dX2_seek_2 : decode cX2_seek 2 = .ok (.putfield 33, 3) := dk_181 (byr_X2_seek_0 (j := 2) rfl) (byr_X2_seek_0 (j := 3) rfl) (byr_X2_seek_0 (j := 4) rfl) (by decide)
theorem dX2_seek_5 : decode cX2_seek 5 = .ok (.aload_n 0, 1) := dk_42 (byr_X2_seek_0 (j := 5) rfl)
theorem dX2_seek_6 : decode cX2_seek 6 = .ok (.aload_n 3, 1) := dk_45 (byr_X2_seek_0 (j := 6) rfl)
theorem dX2_seek_7 : decode cX2_seek 7 = .ok (.putfield 37, 3) := dk_181 (byr_X2_seek_0 (j := 7) rfl) (byr_X2_seek_0 (j := 8) rfl) (byr_X2_seek_0 (j := 9) rfl) (by decide)
theorem dX2_seek_10 : decode cX2_seek 10 = .ok (.aload_n 0, 1) := dk_42 (byr_X2_seek_0 (j := 10) rfl)
theorem dX2_seek_11 : decode cX2_seek 11 = .ok (.iload 4, 2) := dk_21 (byr_X2_seek_0 (j := 11) rfl) (byr_X2_seek_0 (j := 12) rfl)
theorem dX2_seek_13 : decode cX2_seek 13 = .ok (.putfield 40, 3) := dk_181 (byr_X2_seek_0 (j := 13) rfl) (byr_X2_seek_0 (j := 14) rfl) (byr_X2_seek_0 (j := 15) rfl) (by decide)
theorem dX2_seek_16 : decode cX2_seek 16 = .ok (.aload_n 0, 1) := dk_42 (byr_X2_seek_1 (j := 0) rfl)
theorem dX2_seek_17 : decode cX2_seek 17 = .ok (.iconst 0, 1) := dk_3 (byr_X2_seek_1 (j := 1) rfl)
theorem dX2_seek_18 : decode cX2_seek 18 = .ok (.putfield 9, 3) := dk_181 (byr_X2_seek_1 (j := 2) rfl) (byr_X2_seek_1 (j := 3) rfl) (byr_X2_seek_1 (j := 4) rfl) (by decide)
theorem dX2_seek_21 : decode cX2_seek 21 = .ok (.aload_n 0, 1) := dk_42 (byr_X2_seek_1 (j := 5) rfl)
theorem dX2_seek_22 : decode cX2_seek 22 = .ok (.iconst 0, 1) := dk_3 (byr_X2_seek_1 (j := 6) rfl)
theorem dX2_seek_23 : decode cX2_seek 23 = .ok (.putfield 15, 3) := dk_181 (byr_X2_seek_1 (j := 7) rfl) (byr_X2_seek_1 (j := 8) rfl) (byr_X2_seek_1 (j := 9) rfl) (by decide)
theorem dX2_seek_26 : decode cX2_seek 26 = .ok (.aload_n 0, 1) := dk_42 (byr_X2_seek_1 (j := 10) rfl)
theorem dX2_seek_27 : decode cX2_seek 27 = .ok (.getfield 26, 3) := dk_180 (byr_X2_seek_1 (j := 11) rfl) (byr_X2_seek_1 (j := 12) rfl) (byr_X2_seek_1 (j := 13) rfl) (by decide)
theorem dX2_seek_30 : decode cX2_seek 30 = .ok (.aload_n 2, 1) := dk_44 (byr_X2_seek_1 (j := 14) rfl)
theorem dX2_seek_31 : decode cX2_seek 31 = .ok (.invokevirtual 47, 3) := dk_182 (byr_X2_seek_1 (j := 15) rfl) (byr_X2_seek_2 (j := 0) rfl) (byr_X2_seek_2 (j := 1) rfl) (by decide)
theorem dX2_seek_34 : decode cX2_seek 34 = .ok (.aload_n 3, 1) := dk_45 (byr_X2_seek_2 (j := 2) rfl)
theorem dX2_seek_35 : decode cX2_seek 35 = .ok (.invokevirtual 51, 3) := dk_182 (byr_X2_seek_2 (j := 3) rfl) (byr_X2_seek_2 (j := 4) rfl) (byr_X2_seek_2 (j := 5) rfl) (by decide)
theorem dX2_seek_38 : decode cX2_seek 38 = .ok (.istore 5, 2) := dk_54 (byr_X2_seek_2 (j := 6) rfl) (byr_X2_seek_2 (j := 7) rfl)
theorem dX2_seek_40 : decode cX2_seek 40 = .ok (.iconst 0, 1) := dk_3 (byr_X2_seek_2 (j := 8) rfl)
theorem dX2_seek_41 : decode cX2_seek 41 = .ok (.istore 6, 2) := dk_54 (byr_X2_seek_2 (j := 9) rfl) (byr_X2_seek_2 (j := 10) rfl)
theorem dX2_seek_43 : decode cX2_seek 43 = .ok (.iload 6, 2) := dk_21 (byr_X2_seek_2 (j := 11) rfl) (byr_X2_seek_2 (j := 12) rfl)
theorem dX2_seek_45 : decode cX2_seek 45 = .ok (.aload_n 0, 1) := dk_42 (byr_X2_seek_2 (j := 13) rfl)
theorem dX2_seek_46 : decode cX2_seek 46 = .ok (.getfield 30, 3) := dk_180 (byr_X2_seek_2 (j := 14) rfl) (byr_X2_seek_2 (j := 15) rfl) (byr_X2_seek_3 (j := 0) rfl) (by decide)
theorem dX2_seek_49 : decode cX2_seek 49 = .ok (.arraylength, 1) := dk_190 (byr_X2_seek_3 (j := 1) rfl)
theorem dX2_seek_50 : decode cX2_seek 50 = .ok (.if_icmp .ge 29, 3) := dk_162 (byr_X2_seek_3 (j := 2) rfl) (byr_X2_seek_3 (j := 3) rfl) (byr_X2_seek_3 (j := 4) rfl) (by decide)
theorem dX2_seek_53 : decode cX2_seek 53 = .ok (.aload_n 1, 1) := dk_43 (byr_X2_seek_3 (j := 5) rfl)
theorem dX2_seek_54 : decode cX2_seek 54 = .ok (.aload_n 3, 1) := dk_45 (byr_X2_seek_3 (j := 6) rfl)
theorem dX2_seek_55 : decode cX2_seek 55 = .ok (.iload 5, 2) := dk_21 (byr_X2_seek_3 (j := 7) rfl) (byr_X2_seek_3 (j := 8) rfl)
theorem dX2_seek_57 : decode cX2_seek 57 = .ok (.iload 6, 2) := dk_21 (byr_X2_seek_3 (j := 9) rfl) (byr_X2_seek_3 (j := 10) rfl)
theorem dX2_seek_59 : decode cX2_seek 59 = .ok (.invokevirtual 55, 3) := dk_182 (byr_X2_seek_3 (j := 11) rfl) (byr_X2_seek_3 (j := 12) rfl) (byr_X2_seek_3 (j := 13) rfl) (by decide)
theorem dX2_seek_62 : decode cX2_seek 62 = .ok (.istore 5, 2) := dk_54 (byr_X2_seek_3 (j := 14) rfl) (byr_X2_seek_3 (j := 15) rfl)
theorem dX2_seek_64 : decode cX2_seek 64 = .ok (.aload_n 0, 1) := dk_42 (byr_X2_seek_4 (j := 0) rfl)
theorem dX2_seek_65 : decode cX2_seek 65 = .ok (.getfield 30, 3) := dk_180 (byr_X2_seek_4 (j := 1) rfl) (byr_X2_seek_4 (j := 2) rfl) (byr_X2_seek_4 (j := 3) rfl) (by decide)
theorem dX2_seek_68 : decode cX2_seek 68 = .ok (.iload 6, 2) := dk_21 (byr_X2_seek_4 (j := 4) rfl) (byr_X2_seek_4 (j := 5) rfl)
theorem dX2_seek_70 : decode cX2_seek 70 = .ok (.iload 5, 2) := dk_21 (byr_X2_seek_4 (j := 6) rfl) (byr_X2_seek_4 (j := 7) rfl)
theorem dX2_seek_72 : decode cX2_seek 72 = .ok (.iastore, 1) := dk_79 (byr_X2_seek_4 (j := 8) rfl)
theorem dX2_seek_73 : decode cX2_seek 73 = .ok (.iinc 6 1, 3) := dk_132 (byr_X2_seek_4 (j := 9) rfl) (byr_X2_seek_4 (j := 10) rfl) (byr_X2_seek_4 (j := 11) rfl) (by decide)
theorem dX2_seek_76 : decode cX2_seek 76 = .ok (.goto (-33), 3) := dk_167 (byr_X2_seek_4 (j := 12) rfl) (byr_X2_seek_4 (j := 13) rfl) (byr_X2_seek_4 (j := 14) rfl) (by decide)
theorem dX2_seek_79 : decode cX2_seek 79 = .ok (.aload_n 0, 1) := dk_42 (byr_X2_seek_4 (j := 15) rfl)
theorem dX2_seek_80 : decode cX2_seek 80 = .ok (.iconst 0, 1) := dk_3 (byr_X2_seek_5 (j := 0) rfl)
theorem dX2_seek_81 : decode cX2_seek 81 = .ok (.aload_n 0, 1) := dk_42 (byr_X2_seek_5 (j := 1) rfl)
theorem dX2_seek_82 : decode cX2_seek 82 = .ok (.getfield 26, 3) := dk_180 (byr_X2_seek_5 (j := 2) rfl) (byr_X2_seek_5 (j := 3) rfl) (byr_X2_seek_5 (j := 4) rfl) (by decide)
theorem dX2_seek_85 : decode cX2_seek 85 = .ok (.invokevirtual 51, 3) := dk_182 (byr_X2_seek_5 (j := 5) rfl) (byr_X2_seek_5 (j := 6) rfl) (byr_X2_seek_5 (j := 7) rfl) (by decide)
theorem dX2_seek_88 : decode cX2_seek 88 = .ok (.invokevirtual 61, 3) := dk_182 (byr_X2_seek_5 (j := 8) rfl) (byr_X2_seek_5 (j := 9) rfl) (byr_X2_seek_5 (j := 10) rfl) (by decide)
theorem dX2_seek_91 : decode cX2_seek 91 = .ok (.return_, 1) := dk_177 (byr_X2_seek_5 (j := 11) rfl)
set_option maxHeartbeats 4000000 in
set_option maxRecDepth 100000 in
theorem c_X2_seek (l : Launch) (G : GT) (σ : Sto) (a2 : Nat) (ha2 : K0 a2 = 6) (a3 : Nat) (ha3 : K0 a3 = 6) (a4 : Int32) (r : Sto) (h : f_X2_seek σ a2 a3 a4 = some r) : MW l G (15) (738) 0 0 yX2_seek cX2_seek 7 (Option.none : Option Jvm.ClassFile.FieldType) [.ref (gad G 60), .ref (gad G 58), .ref (gad G a2), .ref (gad G a3), .int a4] (wl G σ) (none) (wl G r) := by
  refine mw_of RX2 (fiV G) [(0, .ref (gad G 60)), (1, .ref (gad G 58)), (2, .ref (gad G a2)), (3, .ref (gad G a3)), (4, .int a4)] (by decide +kernel) rfl (Nat.le_of_ble_eq_true rfl) rfl h rfl (fun p e s m args below meth c X hr hnm => ?_)
  have J43 : ∀ (k3 : Nat) (hk3 : K0 k3 = 6)  (n : Nat) (v5 : Int32) (v6 : Int32) (σ : Sto), Sm p l e { frames := 15, cells := 0, slots := 0, locals := 738 } s m args below meth c G 7 (Qm below args s G 0 0 (fiV G)) 0 0 (wl G σ) 43 [(0, .ref (gad G 60)), (1, .ref (gad G 58)), (3, .ref (gad G k3)), (5, .int v5), (6, .int v6)] [] (f_X2_seek_L43  k3 n v5 v6 σ) := by
    intro k3 hk3 n
    induction n with
    | zero => intro v5 v6 σ; rw [f_X2_seek_L43]; exact sm_none
    | succ n ihl =>
      intro v5 v6 σ
      rw [f_X2_seek_L43]
      refine sm_iload X 45 4 dX2_seek_43 rfl rfl ?_
      refine sm_aload_n X 46 0 dX2_seek_45 rfl rfl rfl ?_
      refine sm_getf X 49 64 rfl fd_2_4 rfl dX2_seek_46 rfl q_222 ?_
      refine sm_alen X 50 60 (Or.inl rfl) rfl dX2_seek_49 rfl ?_
      refine sm_icmp_ge X 53 79 dX2_seek_50 rfl (by decide) (fun h50 => ?_) (fun h50 => ?_)
      · refine sm_aload_n X 80 0 dX2_seek_79 rfl rfl rfl ?_
        refine sm_iconst X 81 (0) dX2_seek_80 rfl rfl ?_
        refine sm_aload_n X 82 0 dX2_seek_81 rfl rfl rfl ?_
        refine sm_getf X 85 62 rfl fd_2_3 rfl dX2_seek_82 rfl q_221 ?_
        refine sm_bind (fun r85 h85 => ?_)
        refine sm_callV0 X 88 [] [.int 0, .ref (gad G 60)] [.int r85, .int 0, .ref (gad G 60)] (c_X6_shore l G σ 62 rfl r85 h85) cw_X6_shore q_612 q_613 q_690 rfl (by decide) rfl rfl rfl rfl rfl (Nat.le_of_ble_eq_true rfl) ⟨Nat.le_of_ble_eq_true rfl, Nat.le_of_ble_eq_true rfl⟩ ⟨Nat.le_refl _, Nat.le_refl _⟩ dX2_seek_85 rfl ?_
        refine sm_bind (fun r88 h88 => ?_)
        refine sm_callV0 X 91 [.int 0, .int r85] [] [] (c_X2_tryLanes l G σ (0 : Int32) r85 r88 h88) cw_X2_tryLanes q_694 qs_18 q_692 rfl (by decide) rfl rfl rfl rfl rfl (Nat.le_of_ble_eq_true rfl) ⟨Nat.le_of_ble_eq_true rfl, Nat.le_of_ble_eq_true rfl⟩ ⟨Nat.le_refl _, Nat.le_refl _⟩ dX2_seek_88 rfl ?_
        exact sm_vret X hr dX2_seek_91 rfl
      · refine sm_aload_n X 54 1 dX2_seek_53 rfl rfl rfl ?_
        refine sm_aload_n X 55 2 dX2_seek_54 rfl rfl rfl ?_
        refine sm_iload X 57 3 dX2_seek_55 rfl rfl ?_
        refine sm_iload X 59 4 dX2_seek_57 rfl rfl ?_
        refine sm_bind (fun r59 h59 => ?_)
        refine sm_callV0 X 62 [.ref (gad G k3), .int v5, .int v6] [] [.int r59] (c_X5_placeNext l G σ k3 hk3 v5 v6 r59 h59) cw_X5_placeNext q_616 q_617 q_691 rfl (by decide) rfl rfl rfl rfl rfl (Nat.le_of_ble_eq_true rfl) ⟨Nat.le_of_ble_eq_true rfl, Nat.le_of_ble_eq_true rfl⟩ ⟨Nat.le_refl _, Nat.le_refl _⟩ dX2_seek_59 rfl ?_
        refine sm_istore X 64 [(5, .int r59), (0, .ref (gad G 60)), (1, .ref (gad G 58)), (3, .ref (gad G k3)), (6, .int v6)] dX2_seek_62 rfl (by decide) rfl ?_
        refine sm_aload_n X 65 1 dX2_seek_64 rfl rfl rfl ?_
        refine sm_getf X 68 64 rfl fd_2_4 rfl dX2_seek_65 rfl q_222 ?_
        refine sm_iload X 70 4 dX2_seek_68 rfl rfl ?_
        refine sm_iload X 72 0 dX2_seek_70 rfl rfl ?_
        refine sm_iast X 73 rfl dX2_seek_72 rfl (fun σ72 e72 => ?_)
        clear e72
        refine sm_iinc X 76 4 (1 : Int32) [(6, .int (v6 + (1 : Int32))), (5, .int r59), (0, .ref (gad G 60)), (1, .ref (gad G 58)), (3, .ref (gad G k3))] dX2_seek_73 rfl rfl rfl (by decide) rfl ?_
        refine sm_goto X 43 dX2_seek_76 (by decide) ?_
        exact sm_sub [2, 3, 4, 1, 0] rfl (ihl r59 (v6 + (1 : Int32)) σ72)
  unfold f_X2_seek
  refine sm_aload_n X 1 0 dX2_seek_0 rfl rfl rfl ?_
  refine sm_aload_n X 2 1 dX2_seek_1 rfl rfl rfl ?_
  refine sm_putr X 5 (r := (some 58)) (.object "LakeSwimmers$Swim") rfl fd_2_5 rfl (retZ _ _) dX2_seek_2 rfl q_223 (fun σ2 e2 => ?_)
  clear e2
  refine sm_aload_n X 6 0 dX2_seek_5 rfl rfl rfl ?_
  refine sm_aload_n X 7 3 dX2_seek_6 rfl rfl rfl ?_
  refine sm_putr X 10 (r := (some a3)) (.object "LakeSwimmers$Swimmer") rfl fd_2_6 rfl (retZ _ _) dX2_seek_7 rfl q_224 (fun σ7 e7 => ?_)
  clear e7
  refine sm_aload_n X 11 0 dX2_seek_10 rfl rfl rfl ?_
  refine sm_iload X 13 4 dX2_seek_11 rfl rfl ?_
  refine sm_puti X 16 .int rfl fd_2_7 (by decide) rfl rfl rfl dX2_seek_13 rfl q_225 (fun σ13 e13 => ?_)
  clear e13
  refine sm_aload_n X 17 0 dX2_seek_16 rfl rfl rfl ?_
  refine sm_iconst X 18 (0) dX2_seek_17 rfl rfl ?_
  refine sm_puti X 21 .boolean rfl fd_2_0 (by decide) rfl rfl rfl dX2_seek_18 rfl q_216 (fun σ18 e18 => ?_)
  clear e18
  refine sm_aload_n X 22 0 dX2_seek_21 rfl rfl rfl ?_
  refine sm_iconst X 23 (0) dX2_seek_22 rfl rfl ?_
  refine sm_puti X 26 .int rfl fd_2_1 (by decide) rfl rfl rfl dX2_seek_23 rfl q_218 (fun σ23 e23 => ?_)
  clear e23
  refine sm_aload_n X 27 0 dX2_seek_26 rfl rfl rfl ?_
  refine sm_getf X 30 62 rfl fd_2_3 rfl dX2_seek_27 rfl q_221 ?_
  refine sm_aload_n X 31 2 dX2_seek_30 rfl rfl rfl ?_
  refine sm_bind (fun r31 h31 => ?_)
  refine sm_callV0 X 34 [.ref (gad G a2)] [] [] (c_X6_copy l G σ23 62 rfl a2 ha2 r31 h31) cw_X6_copy q_686 q_687 q_685 rfl (by decide) rfl rfl rfl rfl rfl (Nat.le_of_ble_eq_true rfl) ⟨Nat.le_of_ble_eq_true rfl, Nat.le_of_ble_eq_true rfl⟩ ⟨Nat.le_refl _, Nat.le_refl _⟩ dX2_seek_31 rfl ?_
  refine sm_aload_n X 35 3 dX2_seek_34 rfl rfl rfl ?_
  refine sm_bind (fun r35 h35 => ?_)
  refine sm_callV0 X 38 [] [] [.int r35] (c_X6_shore l G r31 a3 ha3 r35 h35) cw_X6_shore q_612 q_613 q_690 ha3 (by decide) rfl rfl rfl rfl rfl (Nat.le_of_ble_eq_true rfl) ⟨Nat.le_of_ble_eq_true rfl, Nat.le_of_ble_eq_true rfl⟩ ⟨Nat.le_refl _, Nat.le_refl _⟩ dX2_seek_35 rfl ?_
  refine sm_istore X 40 [(5, .int r35), (0, .ref (gad G 60)), (1, .ref (gad G 58)), (2, .ref (gad G a2)), (3, .ref (gad G a3)), (4, .int a4)] dX2_seek_38 rfl (by decide) rfl ?_
  refine sm_iconst X 41 (0) dX2_seek_40 rfl rfl ?_
  refine sm_istore X 43 [(6, .int 0), (5, .int r35), (0, .ref (gad G 60)), (1, .ref (gad G 58)), (2, .ref (gad G a2)), (3, .ref (gad G a3)), (4, .int a4)] dX2_seek_41 rfl (by decide) rfl ?_
  exact sm_sub [2, 3, 5, 1, 0] rfl (J43 a3 ha3  FU r35 (0 : Int32) r31)
def by_X3_next_0 : List Nat := [42, 180, 0, 25, 155, 0, 26, 42, 180, 0, 25, 42, 180, 0, 22, 162]
def by_X3_next_1 : List Nat := [0, 15, 42, 180, 0, 25, 42, 180, 0, 19, 190, 161, 0, 7, 2, 167]
def by_X3_next_z : List Nat := [0, 12, 42, 180, 0, 19, 42, 180, 0, 25, 46, 172]
def by_X3_next : List (List Nat) := [by_X3_next_0, by_X3_next_1]
set_option maxRecDepth 100000 in
theorem byo_X3_next : cX3_next.data.toList.map UInt8.toNat = by_X3_next.flatten ++ by_X3_next_z := by decide +kernel
theorem byl_X3_next : by_X3_next.all (fun r => r.length == 16) = true := by decide +kernel
theorem byr_X3_next_0 {j v : Nat} (h : by_X3_next_0[j]? = some v) : RD cX3_next (0 + j) v := rd_16 byo_X3_next byl_X3_next 0 rfl h
theorem byr_X3_next_1 {j v : Nat} (h : by_X3_next_1[j]? = some v) : RD cX3_next (16 + j) v := rd_16 byo_X3_next byl_X3_next 1 rfl h
theorem byr_X3_next_2 {j v : Nat} (h : by_X3_next_z[j]? = some v) : RD cX3_next (32 + j) v := rd_z byo_X3_next byl_X3_next 2 rfl h
theorem dX3_next_0 : decode cX3_next 0 = .ok (.aload_n 0, 1) := dk_42 (byr_X3_next_0 (j := 0) rfl)
theorem dX3_next_1 : decode cX3_next 1 = .ok (.getfield 25, 3) := dk_180 (byr_X3_next_0 (j := 1) rfl) (byr_X3_next_0 (j := 2) rfl) (byr_X3_next_0 (j := 3) rfl) (by decide)
theorem dX3_next_4 : decode cX3_next 4 = .ok (.ifCond .lt 26, 3) := dk_155 (byr_X3_next_0 (j := 4) rfl) (byr_X3_next_0 (j := 5) rfl) (byr_X3_next_0 (j := 6) rfl) (by decide)
theorem dX3_next_7 : decode cX3_next 7 = .ok (.aload_n 0, 1) := dk_42 (byr_X3_next_0 (j := 7) rfl)
theorem dX3_next_8 : decode cX3_next 8 = .ok (.getfield 25, 3) := dk_180 (byr_X3_next_0 (j := 8) rfl) (byr_X3_next_0 (j := 9) rfl) (byr_X3_next_0 (j := 10) rfl) (by decide)
theorem dX3_next_11 : decode cX3_next 11 = .ok (.aload_n 0, 1) := dk_42 (byr_X3_next_0 (j := 11) rfl)
theorem dX3_next_12 : decode cX3_next 12 = .ok (.getfield 22, 3) := dk_180 (byr_X3_next_0 (j := 12) rfl) (byr_X3_next_0 (j := 13) rfl) (byr_X3_next_0 (j := 14) rfl) (by decide)
theorem dX3_next_15 : decode cX3_next 15 = .ok (.if_icmp .ge 15, 3) := dk_162 (byr_X3_next_0 (j := 15) rfl) (byr_X3_next_1 (j := 0) rfl) (byr_X3_next_1 (j := 1) rfl) (by decide)
theorem dX3_next_18 : decode cX3_next 18 = .ok (.aload_n 0, 1) := dk_42 (byr_X3_next_1 (j := 2) rfl)
theorem dX3_next_19 : decode cX3_next 19 = .ok (.getfield 25, 3) := dk_180 (byr_X3_next_1 (j := 3) rfl) (byr_X3_next_1 (j := 4) rfl) (byr_X3_next_1 (j := 5) rfl) (by decide)
theorem dX3_next_22 : decode cX3_next 22 = .ok (.aload_n 0, 1) := dk_42 (byr_X3_next_1 (j := 6) rfl)
theorem dX3_next_23 : decode cX3_next 23 = .ok (.getfield 19, 3) := dk_180 (byr_X3_next_1 (j := 7) rfl) (byr_X3_next_1 (j := 8) rfl) (byr_X3_next_1 (j := 9) rfl) (by decide)
theorem dX3_next_26 : decode cX3_next 26 = .ok (.arraylength, 1) := dk_190 (byr_X3_next_1 (j := 10) rfl)
theorem dX3_next_27 : decode cX3_next 27 = .ok (.if_icmp .lt 7, 3) := dk_161 (byr_X3_next_1 (j := 11) rfl) (byr_X3_next_1 (j := 12) rfl) (byr_X3_next_1 (j := 13) rfl) (by decide)
theorem dX3_next_30 : decode cX3_next 30 = .ok (.iconst (-1), 1) := dk_2 (byr_X3_next_1 (j := 14) rfl)
theorem dX3_next_31 : decode cX3_next 31 = .ok (.goto 12, 3) := dk_167 (byr_X3_next_1 (j := 15) rfl) (byr_X3_next_2 (j := 0) rfl) (byr_X3_next_2 (j := 1) rfl) (by decide)
theorem dX3_next_34 : decode cX3_next 34 = .ok (.aload_n 0, 1) := dk_42 (byr_X3_next_2 (j := 2) rfl)
theorem dX3_next_35 : decode cX3_next 35 = .ok (.getfield 19, 3) := dk_180 (byr_X3_next_2 (j := 3) rfl) (byr_X3_next_2 (j := 4) rfl) (byr_X3_next_2 (j := 5) rfl) (by decide)
theorem dX3_next_38 : decode cX3_next 38 = .ok (.aload_n 0, 1) := dk_42 (byr_X3_next_2 (j := 6) rfl)
theorem dX3_next_39 : decode cX3_next 39 = .ok (.getfield 25, 3) := dk_180 (byr_X3_next_2 (j := 7) rfl) (byr_X3_next_2 (j := 8) rfl) (byr_X3_next_2 (j := 9) rfl) (by decide)
theorem dX3_next_42 : decode cX3_next 42 = .ok (.iaload, 1) := dk_46 (byr_X3_next_2 (j := 10) rfl)
theorem dX3_next_43 : decode cX3_next 43 = .ok (.ireturn, 1) := dk_172 (byr_X3_next_2 (j := 11) rfl)
set_option maxHeartbeats 4000000 in
set_option maxRecDepth 100000 in
theorem c_X3_next (l : Launch) (G : GT) (σ : Sto)  (r : Int32) (h : f_X3_next σ  = some r) : MW l G (2) (64) 0 0 yX3_next cX3_next 1 (Option.some Jvm.ClassFile.FieldType.int) [.ref (gad G 55)] (wl G σ) (some (.int r)) (wl G σ) := by
  refine mw_of RX3 (fpI G σ) [(0, .ref (gad G 55))] (by decide +kernel) rfl (Nat.le_of_ble_eq_true rfl) rfl h rfl (fun p e s m args below meth c X hr hnm => ?_)
  have J30 : ∀ (_ : Unit), Sm p l e { frames := 2, cells := 0, slots := 0, locals := 64 } s m args below meth c G 1 (Qm below args s G 0 0 (fpI G σ)) 0 0 (wl G σ) 30 [] [] (f_X3_next_L30 σ  ) := by
    intro _
    rw [f_X3_next_L30]
    refine sm_iconst X 31 (-1) dX3_next_30 rfl rfl ?_
    refine sm_goto X 43 dX3_next_31 (by decide) ?_
    exact sm_iret X hr dX3_next_43 rfl
  unfold f_X3_next
  refine sm_aload_n X 1 0 dX3_next_0 rfl rfl rfl ?_
  refine sm_geti X 4 rfl fd_3_4 dX3_next_1 rfl q_164 ?_
  refine sm_if_lt X 7 30 dX3_next_4 rfl (by decide) (fun h4 => ?_) (fun h4 => ?_)
  · exact sm_sub [] rfl (J30 ())
  · refine sm_aload_n X 8 0 dX3_next_7 rfl rfl rfl ?_
    refine sm_geti X 11 rfl fd_3_4 dX3_next_8 rfl q_164 ?_
    refine sm_aload_n X 12 0 dX3_next_11 rfl rfl rfl ?_
    refine sm_geti X 15 rfl fd_3_3 dX3_next_12 rfl q_163 ?_
    refine sm_icmp_ge X 18 30 dX3_next_15 rfl (by decide) (fun h15 => ?_) (fun h15 => ?_)
    · exact sm_sub [] rfl (J30 ())
    · refine sm_aload_n X 19 0 dX3_next_18 rfl rfl rfl ?_
      refine sm_geti X 22 rfl fd_3_4 dX3_next_19 rfl q_164 ?_
      refine sm_aload_n X 23 0 dX3_next_22 rfl rfl rfl ?_
      refine sm_getf X 26 57 rfl fd_3_2 rfl dX3_next_23 rfl q_162 ?_
      refine sm_alen X 27 50 (Or.inl rfl) rfl dX3_next_26 rfl ?_
      refine sm_icmp_lt X 30 34 dX3_next_27 rfl (by decide) (fun h27 => ?_) (fun h27 => ?_)
      · refine sm_aload_n X 35 0 dX3_next_34 rfl rfl rfl ?_
        refine sm_getf X 38 57 rfl fd_3_2 rfl dX3_next_35 rfl q_162 ?_
        refine sm_aload_n X 39 0 dX3_next_38 rfl rfl rfl ?_
        refine sm_geti X 42 rfl fd_3_4 dX3_next_39 rfl q_164 ?_
        refine sm_iald X 43 rfl dX3_next_42 rfl (fun r42 e42 => ?_)
        clear e42
        exact sm_iret X hr dX3_next_43 rfl
      · exact sm_sub [] rfl (J30 ())
def by_X3_isDigit_0 : List Nat := [26, 16, 48, 161, 0, 13, 26, 16, 57, 163, 0, 7, 4, 167, 0, 4]
def by_X3_isDigit_z : List Nat := [3, 172]
def by_X3_isDigit : List (List Nat) := [by_X3_isDigit_0]
set_option maxRecDepth 100000 in
theorem byo_X3_isDigit : cX3_isDigit.data.toList.map UInt8.toNat = by_X3_isDigit.flatten ++ by_X3_isDigit_z := by decide +kernel
theorem byl_X3_isDigit : by_X3_isDigit.all (fun r => r.length == 16) = true := by decide +kernel
theorem byr_X3_isDigit_0 {j v : Nat} (h : by_X3_isDigit_0[j]? = some v) : RD cX3_isDigit (0 + j) v := rd_16 byo_X3_isDigit byl_X3_isDigit 0 rfl h
theorem byr_X3_isDigit_1 {j v : Nat} (h : by_X3_isDigit_z[j]? = some v) : RD cX3_isDigit (16 + j) v := rd_z byo_X3_isDigit byl_X3_isDigit 1 rfl h
theorem dX3_isDigit_0 : decode cX3_isDigit 0 = .ok (.iload_n 0, 1) := dk_26 (byr_X3_isDigit_0 (j := 0) rfl)
theorem dX3_isDigit_1 : decode cX3_isDigit 1 = .ok (.bipush 48, 2) := dk_16 (byr_X3_isDigit_0 (j := 1) rfl) (byr_X3_isDigit_0 (j := 2) rfl) (by decide)
theorem dX3_isDigit_3 : decode cX3_isDigit 3 = .ok (.if_icmp .lt 13, 3) := dk_161 (byr_X3_isDigit_0 (j := 3) rfl) (byr_X3_isDigit_0 (j := 4) rfl) (byr_X3_isDigit_0 (j := 5) rfl) (by decide)
theorem dX3_isDigit_6 : decode cX3_isDigit 6 = .ok (.iload_n 0, 1) := dk_26 (byr_X3_isDigit_0 (j := 6) rfl)
theorem dX3_isDigit_7 : decode cX3_isDigit 7 = .ok (.bipush 57, 2) := dk_16 (byr_X3_isDigit_0 (j := 7) rfl) (byr_X3_isDigit_0 (j := 8) rfl) (by decide)
theorem dX3_isDigit_9 : decode cX3_isDigit 9 = .ok (.if_icmp .gt 7, 3) := dk_163 (byr_X3_isDigit_0 (j := 9) rfl) (byr_X3_isDigit_0 (j := 10) rfl) (byr_X3_isDigit_0 (j := 11) rfl) (by decide)
theorem dX3_isDigit_12 : decode cX3_isDigit 12 = .ok (.iconst 1, 1) := dk_4 (byr_X3_isDigit_0 (j := 12) rfl)
theorem dX3_isDigit_13 : decode cX3_isDigit 13 = .ok (.goto 4, 3) := dk_167 (byr_X3_isDigit_0 (j := 13) rfl) (byr_X3_isDigit_0 (j := 14) rfl) (byr_X3_isDigit_0 (j := 15) rfl) (by decide)
theorem dX3_isDigit_16 : decode cX3_isDigit 16 = .ok (.iconst 0, 1) := dk_3 (byr_X3_isDigit_1 (j := 0) rfl)
theorem dX3_isDigit_17 : decode cX3_isDigit 17 = .ok (.ireturn, 1) := dk_172 (byr_X3_isDigit_1 (j := 1) rfl)
set_option maxHeartbeats 4000000 in
set_option maxRecDepth 100000 in
theorem c_X3_isDigit (l : Launch) (G : GT) (σ : Sto) (a0 : Int32) (r : Bool) (h : f_X3_isDigit a0 = some r) : MW l G (2) (64) 0 0 yX3_isDigit cX3_isDigit 1 (Option.some Jvm.ClassFile.FieldType.boolean) [.int a0] (wl G σ) (some (.int (b2i r))) (wl G σ) := by
  refine mw_of RX3 (fpZ G σ) [(0, .int a0)] (by decide +kernel) rfl (Nat.le_of_ble_eq_true rfl) rfl h rfl (fun p e s m args below meth c X hr hnm => ?_)
  unfold f_X3_isDigit
  refine sm_iload_n X 1 0 dX3_isDigit_0 rfl rfl rfl ?_
  refine sm_bipush X 3 (48) dX3_isDigit_1 rfl rfl ?_
  refine sm_icmp_lt X 6 16 dX3_isDigit_3 rfl (by decide) (fun h3 => ?_) (fun h3 => ?_)
  · refine sm_iconst X 17 (0) dX3_isDigit_16 rfl rfl ?_
    exact sm_zret X (v := false) hr dX3_isDigit_17 rfl
  · refine sm_iload_n X 7 0 dX3_isDigit_6 rfl rfl rfl ?_
    refine sm_bipush X 9 (57) dX3_isDigit_7 rfl rfl ?_
    refine sm_icmp_gt X 12 16 dX3_isDigit_9 rfl (by decide) (fun h9 => ?_) (fun h9 => ?_)
    · refine sm_iconst X 17 (0) dX3_isDigit_16 rfl rfl ?_
      exact sm_zret X (v := false) hr dX3_isDigit_17 rfl
    · refine sm_iconst X 13 (1) dX3_isDigit_12 rfl rfl ?_
      refine sm_goto X 17 dX3_isDigit_13 (by decide) ?_
      exact sm_zret X (v := true) hr dX3_isDigit_17 rfl
def by_X3_add_0 : List Nat := [42, 180, 0, 15, 42, 180, 0, 9, 190, 162, 0, 23, 42, 180, 0, 9]
def by_X3_add_1 : List Nat := [42, 180, 0, 15, 27, 79, 42, 89, 180, 0, 15, 4, 96, 181, 0, 15]
def by_X3_add_z : List Nat := [177]
def by_X3_add : List (List Nat) := [by_X3_add_0, by_X3_add_1]
set_option maxRecDepth 100000 in
theorem byo_X3_add : cX3_add.data.toList.map UInt8.toNat = by_X3_add.flatten ++ by_X3_add_z := by decide +kernel
theorem byl_X3_add : by_X3_add.all (fun r => r.length == 16) = true := by decide +kernel
theorem byr_X3_add_0 {j v : Nat} (h : by_X3_add_0[j]? = some v) : RD cX3_add (0 + j) v := rd_16 byo_X3_add byl_X3_add 0 rfl h
theorem byr_X3_add_1 {j v : Nat} (h : by_X3_add_1[j]? = some v) : RD cX3_add (16 + j) v := rd_16 byo_X3_add byl_X3_add 1 rfl h
theorem byr_X3_add_2 {j v : Nat} (h : by_X3_add_z[j]? = some v) : RD cX3_add (32 + j) v := rd_z byo_X3_add byl_X3_add 2 rfl h
theorem dX3_add_0 : decode cX3_add 0 = .ok (.aload_n 0, 1) := dk_42 (byr_X3_add_0 (j := 0) rfl)
theorem dX3_add_1 : decode cX3_add 1 = .ok (.getfield 15, 3) := dk_180 (byr_X3_add_0 (j := 1) rfl) (byr_X3_add_0 (j := 2) rfl) (byr_X3_add_0 (j := 3) rfl) (by decide)
theorem dX3_add_4 : decode cX3_add 4 = .ok (.aload_n 0, 1) := dk_42 (byr_X3_add_0 (j := 4) rfl)
theorem dX3_add_5 : decode cX3_add 5 = .ok (.getfield 9, 3) := dk_180 (byr_X3_add_0 (j := 5) rfl) (byr_X3_add_0 (j := 6) rfl) (byr_X3_add_0 (j := 7) rfl) (by decide)
theorem dX3_add_8 : decode cX3_add 8 = .ok (.arraylength, 1) := dk_190 (byr_X3_add_0 (j := 8) rfl)
theorem dX3_add_9 : decode cX3_add 9 = .ok (.if_icmp .ge 23, 3) := dk_162 (byr_X3_add_0 (j := 9) rfl) (byr_X3_add_0 (j := 10) rfl) (byr_X3_add_0 (j := 11) rfl) (by decide)
theorem dX3_add_12 : decode cX3_add 12 = .ok (.aload_n 0, 1) := dk_42 (byr_X3_add_0 (j := 12) rfl)
theorem dX3_add_13 : decode cX3_add 13 = .ok (.getfield 9, 3) := dk_180 (byr_X3_add_0 (j := 13) rfl) (byr_X3_add_0 (j := 14) rfl) (byr_X3_add_0 (j := 15) rfl) (by decide)
theorem dX3_add_16 : decode cX3_add 16 = .ok (.aload_n 0, 1) := dk_42 (byr_X3_add_1 (j := 0) rfl)
theorem dX3_add_17 : decode cX3_add 17 = .ok (.getfield 15, 3) := dk_180 (byr_X3_add_1 (j := 1) rfl) (byr_X3_add_1 (j := 2) rfl) (byr_X3_add_1 (j := 3) rfl) (by decide)
theorem dX3_add_20 : decode cX3_add 20 = .ok (.iload_n 1, 1) := dk_27 (byr_X3_add_1 (j := 4) rfl)
theorem dX3_add_21 : decode cX3_add 21 = .ok (.iastore, 1) := dk_79 (byr_X3_add_1 (j := 5) rfl)
theorem dX3_add_22 : decode cX3_add 22 = .ok (.aload_n 0, 1) := dk_42 (byr_X3_add_1 (j := 6) rfl)
theorem dX3_add_23 : decode cX3_add 23 = .ok (.dup, 1) := dk_89 (byr_X3_add_1 (j := 7) rfl)
theorem dX3_add_24 : decode cX3_add 24 = .ok (.getfield 15, 3) := dk_180 (byr_X3_add_1 (j := 8) rfl) (byr_X3_add_1 (j := 9) rfl) (byr_X3_add_1 (j := 10) rfl) (by decide)
theorem dX3_add_27 : decode cX3_add 27 = .ok (.iconst 1, 1) := dk_4 (byr_X3_add_1 (j := 11) rfl)
theorem dX3_add_28 : decode cX3_add 28 = .ok (.iadd, 1) := dk_96 (byr_X3_add_1 (j := 12) rfl)
theorem dX3_add_29 : decode cX3_add 29 = .ok (.putfield 15, 3) := dk_181 (byr_X3_add_1 (j := 13) rfl) (byr_X3_add_1 (j := 14) rfl) (byr_X3_add_1 (j := 15) rfl) (by decide)
theorem dX3_add_32 : decode cX3_add 32 = .ok (.return_, 1) := dk_177 (byr_X3_add_2 (j := 0) rfl)
set_option maxHeartbeats 4000000 in
set_option maxRecDepth 100000 in
theorem c_X3_add (l : Launch) (G : GT) (σ : Sto) (a1 : Int32) (r : Sto) (h : f_X3_add σ a1 = some r) : MW l G (2) (64) 0 0 yX3_add cX3_add 2 (Option.none : Option Jvm.ClassFile.FieldType) [.ref (gad G 55), .int a1] (wl G σ) (none) (wl G r) := by
  refine mw_of RX3 (fiV G) [(0, .ref (gad G 55)), (1, .int a1)] (by decide +kernel) rfl (Nat.le_of_ble_eq_true rfl) rfl h rfl (fun p e s m args below meth c X hr hnm => ?_)
  unfold f_X3_add
  refine sm_aload_n X 1 0 dX3_add_0 rfl rfl rfl ?_
  refine sm_geti X 4 rfl fd_3_1 dX3_add_1 rfl q_160 ?_
  refine sm_aload_n X 5 0 dX3_add_4 rfl rfl rfl ?_
  refine sm_getf X 8 56 rfl fd_3_0 rfl dX3_add_5 rfl q_158 ?_
  refine sm_alen X 9 50 (Or.inl rfl) rfl dX3_add_8 rfl ?_
  refine sm_icmp_ge X 12 32 dX3_add_9 rfl (by decide) (fun h9 => ?_) (fun h9 => ?_)
  · exact sm_vret X hr dX3_add_32 rfl
  · refine sm_aload_n X 13 0 dX3_add_12 rfl rfl rfl ?_
    refine sm_getf X 16 56 rfl fd_3_0 rfl dX3_add_13 rfl q_158 ?_
    refine sm_aload_n X 17 0 dX3_add_16 rfl rfl rfl ?_
    refine sm_geti X 20 rfl fd_3_1 dX3_add_17 rfl q_160 ?_
    refine sm_iload_n X 21 1 dX3_add_20 rfl rfl rfl ?_
    refine sm_iast X 22 rfl dX3_add_21 rfl (fun σ21 e21 => ?_)
    clear e21
    refine sm_aload_n X 23 0 dX3_add_22 rfl rfl rfl ?_
    refine sm_dup X 24 dX3_add_23 rfl rfl ?_
    refine sm_geti X 27 rfl fd_3_1 dX3_add_24 rfl q_160 ?_
    refine sm_iconst X 28 (1) dX3_add_27 rfl rfl ?_
    refine sm_iadd X 29 dX3_add_28 rfl ?_
    refine sm_puti X 32 .int rfl fd_3_1 (by decide) rfl rfl rfl dX3_add_29 rfl q_160 (fun σ29 e29 => ?_)
    clear e29
    exact sm_vret X hr dX3_add_32 rfl
def by_X3_readNumber_0 : List Nat := [3, 60, 3, 61, 28, 7, 162, 0, 42, 42, 182, 0, 57, 184, 0, 77]
def by_X3_readNumber_1 : List Nat := [153, 0, 32, 27, 16, 10, 104, 42, 182, 0, 57, 96, 16, 48, 100, 60]
def by_X3_readNumber_2 : List Nat := [42, 89, 180, 0, 25, 4, 96, 181, 0, 25, 132, 2, 1, 167, 255, 215]
def by_X3_readNumber_z : List Nat := [42, 27, 182, 0, 61, 177]
def by_X3_readNumber : List (List Nat) := [by_X3_readNumber_0, by_X3_readNumber_1, by_X3_readNumber_2]
set_option maxRecDepth 100000 in
theorem byo_X3_readNumber : cX3_readNumber.data.toList.map UInt8.toNat = by_X3_readNumber.flatten ++ by_X3_readNumber_z := by decide +kernel
theorem byl_X3_readNumber : by_X3_readNumber.all (fun r => r.length == 16) = true := by decide +kernel
theorem byr_X3_readNumber_0 {j v : Nat} (h : by_X3_readNumber_0[j]? = some v) : RD cX3_readNumber (0 + j) v := rd_16 byo_X3_readNumber byl_X3_readNumber 0 rfl h
theorem byr_X3_readNumber_1 {j v : Nat} (h : by_X3_readNumber_1[j]? = some v) : RD cX3_readNumber (16 + j) v := rd_16 byo_X3_readNumber byl_X3_readNumber 1 rfl h
theorem byr_X3_readNumber_2 {j v : Nat} (h : by_X3_readNumber_2[j]? = some v) : RD cX3_readNumber (32 + j) v := rd_16 byo_X3_readNumber byl_X3_readNumber 2 rfl h
theorem byr_X3_readNumber_3 {j v : Nat} (h : by_X3_readNumber_z[j]? = some v) : RD cX3_readNumber (48 + j) v := rd_z byo_X3_readNumber byl_X3_readNumber 3 rfl h
theorem dX3_readNumber_0 : decode cX3_readNumber 0 = .ok (.iconst 0, 1) := dk_3 (byr_X3_readNumber_0 (j := 0) rfl)
theorem dX3_readNumber_1 : decode cX3_readNumber 1 = .ok (.istore_n 1, 1) := dk_60 (byr_X3_readNumber_0 (j := 1) rfl)
theorem dX3_readNumber_2 : decode cX3_readNumber 2 = .ok (.iconst 0, 1) := dk_3 (byr_X3_readNumber_0 (j := 2) rfl)
theorem dX3_readNumber_3 : decode cX3_readNumber 3 = .ok (.istore_n 2, 1) := dk_61 (byr_X3_readNumber_0 (j := 3) rfl)
theorem dX3_readNumber_4 : decode cX3_readNumber 4 = .ok (.iload_n 2, 1) := dk_28 (byr_X3_readNumber_0 (j := 4) rfl)
theorem dX3_readNumber_5 : decode cX3_readNumber 5 = .ok (.iconst 4, 1) := dk_7 (byr_X3_readNumber_0 (j := 5) rfl)
theorem dX3_readNumber_6 : decode cX3_readNumber 6 = .ok (.if_icmp .ge 42, 3) := dk_162 (byr_X3_readNumber_0 (j := 6) rfl) (byr_X3_readNumber_0 (j := 7) rfl) (byr_X3_readNumber_0 (j := 8) rfl) (by decide)
theorem dX3_readNumber_9 : decode cX3_readNumber 9 = .ok (.aload_n 0, 1) := dk_42 (byr_X3_readNumber_0 (j := 9) rfl)
theorem dX3_readNumber_10 : decode cX3_readNumber 10 = .ok (.invokevirtual 57, 3) := dk_182 (byr_X3_readNumber_0 (j := 10) rfl) (byr_X3_readNumber_0 (j := 11) rfl) (byr_X3_readNumber_0 (j := 12) rfl) (by decide)
theorem dX3_readNumber_13 : decode cX3_readNumber 13 = .ok (.invokestatic 77, 3) := dk_184 (byr_X3_readNumber_0 (j := 13) rfl) (byr_X3_readNumber_0 (j := 14) rfl) (byr_X3_readNumber_0 (j := 15) rfl) (by decide)
theorem dX3_readNumber_16 : decode cX3_readNumber 16 = .ok (.ifCond .eq 32, 3) := dk_153 (byr_X3_readNumber_1 (j := 0) rfl) (byr_X3_readNumber_1 (j := 1) rfl) (byr_X3_readNumber_1 (j := 2) rfl) (by decide)
theorem dX3_readNumber_19 : decode cX3_readNumber 19 = .ok (.iload_n 1, 1) := dk_27 (byr_X3_readNumber_1 (j := 3) rfl)
theorem dX3_readNumber_20 : decode cX3_readNumber 20 = .ok (.bipush 10, 2) := dk_16 (byr_X3_readNumber_1 (j := 4) rfl) (byr_X3_readNumber_1 (j := 5) rfl) (by decide)
theorem dX3_readNumber_22 : decode cX3_readNumber 22 = .ok (.imul, 1) := dk_104 (byr_X3_readNumber_1 (j := 6) rfl)
theorem dX3_readNumber_23 : decode cX3_readNumber 23 = .ok (.aload_n 0, 1) := dk_42 (byr_X3_readNumber_1 (j := 7) rfl)
theorem dX3_readNumber_24 : decode cX3_readNumber 24 = .ok (.invokevirtual 57, 3) := dk_182 (byr_X3_readNumber_1 (j := 8) rfl) (byr_X3_readNumber_1 (j := 9) rfl) (byr_X3_readNumber_1 (j := 10) rfl) (by decide)
theorem dX3_readNumber_27 : decode cX3_readNumber 27 = .ok (.iadd, 1) := dk_96 (byr_X3_readNumber_1 (j := 11) rfl)
theorem dX3_readNumber_28 : decode cX3_readNumber 28 = .ok (.bipush 48, 2) := dk_16 (byr_X3_readNumber_1 (j := 12) rfl) (byr_X3_readNumber_1 (j := 13) rfl) (by decide)
theorem dX3_readNumber_30 : decode cX3_readNumber 30 = .ok (.isub, 1) := dk_100 (byr_X3_readNumber_1 (j := 14) rfl)
theorem dX3_readNumber_31 : decode cX3_readNumber 31 = .ok (.istore_n 1, 1) := dk_60 (byr_X3_readNumber_1 (j := 15) rfl)
theorem dX3_readNumber_32 : decode cX3_readNumber 32 = .ok (.aload_n 0, 1) := dk_42 (byr_X3_readNumber_2 (j := 0) rfl)
theorem dX3_readNumber_33 : decode cX3_readNumber 33 = .ok (.dup, 1) := dk_89 (byr_X3_readNumber_2 (j := 1) rfl)
theorem dX3_readNumber_34 : decode cX3_readNumber 34 = .ok (.getfield 25, 3) := dk_180 (byr_X3_readNumber_2 (j := 2) rfl) (byr_X3_readNumber_2 (j := 3) rfl) (byr_X3_readNumber_2 (j := 4) rfl) (by decide)
theorem dX3_readNumber_37 : decode cX3_readNumber 37 = .ok (.iconst 1, 1) := dk_4 (byr_X3_readNumber_2 (j := 5) rfl)
theorem dX3_readNumber_38 : decode cX3_readNumber 38 = .ok (.iadd, 1) := dk_96 (byr_X3_readNumber_2 (j := 6) rfl)
theorem dX3_readNumber_39 : decode cX3_readNumber 39 = .ok (.putfield 25, 3) := dk_181 (byr_X3_readNumber_2 (j := 7) rfl) (byr_X3_readNumber_2 (j := 8) rfl) (byr_X3_readNumber_2 (j := 9) rfl) (by decide)
theorem dX3_readNumber_42 : decode cX3_readNumber 42 = .ok (.iinc 2 1, 3) := dk_132 (byr_X3_readNumber_2 (j := 10) rfl) (byr_X3_readNumber_2 (j := 11) rfl) (byr_X3_readNumber_2 (j := 12) rfl) (by decide)
theorem dX3_readNumber_45 : decode cX3_readNumber 45 = .ok (.goto (-41), 3) := dk_167 (byr_X3_readNumber_2 (j := 13) rfl) (byr_X3_readNumber_2 (j := 14) rfl) (byr_X3_readNumber_2 (j := 15) rfl) (by decide)
theorem dX3_readNumber_48 : decode cX3_readNumber 48 = .ok (.aload_n 0, 1) := dk_42 (byr_X3_readNumber_3 (j := 0) rfl)
theorem dX3_readNumber_49 : decode cX3_readNumber 49 = .ok (.iload_n 1, 1) := dk_27 (byr_X3_readNumber_3 (j := 1) rfl)
theorem dX3_readNumber_50 : decode cX3_readNumber 50 = .ok (.invokevirtual 61, 3) := dk_182 (byr_X3_readNumber_3 (j := 2) rfl) (byr_X3_readNumber_3 (j := 3) rfl) (byr_X3_readNumber_3 (j := 4) rfl) (by decide)
theorem dX3_readNumber_53 : decode cX3_readNumber 53 = .ok (.return_, 1) := dk_177 (byr_X3_readNumber_3 (j := 5) rfl)
set_option maxHeartbeats 4000000 in
set_option maxRecDepth 100000 in
theorem c_X3_readNumber (l : Launch) (G : GT) (σ : Sto)  (r : Sto) (h : f_X3_readNumber σ  = some r) : MW l G (3) (85) 0 0 yX3_readNumber cX3_readNumber 3 (Option.none : Option Jvm.ClassFile.FieldType) [.ref (gad G 55)] (wl G σ) (none) (wl G r) := by
  refine mw_of RX3 (fiV G) [(0, .ref (gad G 55))] (by decide +kernel) rfl (Nat.le_of_ble_eq_true rfl) rfl h rfl (fun p e s m args below meth c X hr hnm => ?_)
  have J4 : ∀   (n : Nat) (v1 : Int32) (v2 : Int32) (σ : Sto), Sm p l e { frames := 3, cells := 0, slots := 0, locals := 85 } s m args below meth c G 3 (Qm below args s G 0 0 (fiV G)) 0 0 (wl G σ) 4 [(0, .ref (gad G 55)), (1, .int v1), (2, .int v2)] [] (f_X3_readNumber_L4   n v1 v2 σ) := by
    intro  n
    induction n with
    | zero => intro v1 v2 σ; rw [f_X3_readNumber_L4]; exact sm_none
    | succ n ihl =>
      intro v1 v2 σ
      rw [f_X3_readNumber_L4]
      refine sm_iload_n X 5 2 dX3_readNumber_4 rfl rfl rfl ?_
      refine sm_iconst X 6 (4) dX3_readNumber_5 rfl rfl ?_
      refine sm_icmp_ge X 9 48 dX3_readNumber_6 rfl (by decide) (fun h6 => ?_) (fun h6 => ?_)
      · refine sm_aload_n X 49 0 dX3_readNumber_48 rfl rfl rfl ?_
        refine sm_iload_n X 50 1 dX3_readNumber_49 rfl rfl rfl ?_
        refine sm_bind (fun r50 h50 => ?_)
        refine sm_callV0 X 53 [.int v1] [] [] (c_X3_add l G σ v1 r50 h50) cw_X3_add q_496 qs_11 q_494 rfl (by decide) rfl rfl rfl rfl rfl (Nat.le_of_ble_eq_true rfl) ⟨Nat.le_of_ble_eq_true rfl, Nat.le_of_ble_eq_true rfl⟩ ⟨Nat.le_refl _, Nat.le_refl _⟩ dX3_readNumber_50 rfl ?_
        exact sm_vret X hr dX3_readNumber_53 rfl
      · refine sm_aload_n X 10 0 dX3_readNumber_9 rfl rfl rfl ?_
        refine sm_bind (fun r10 h10 => ?_)
        refine sm_callV0 X 13 [] [] [.int r10] (c_X3_next l G σ  r10 h10) cw_X3_next q_485 qs_9 q_483 rfl (by decide) rfl rfl rfl rfl rfl (Nat.le_of_ble_eq_true rfl) ⟨Nat.le_of_ble_eq_true rfl, Nat.le_of_ble_eq_true rfl⟩ ⟨Nat.le_refl _, Nat.le_refl _⟩ dX3_readNumber_10 rfl ?_
        refine sm_bind (fun r13 h13 => ?_)
        refine sm_callS0 X 16 [.int r10] [] [.int (b2i r13)] (c_X3_isDigit l G σ r10 r13 h13) cw_X3_isDigit q_488 q_487 rfl rfl rfl (Nat.le_of_ble_eq_true rfl) ⟨Nat.le_of_ble_eq_true rfl, Nat.le_of_ble_eq_true rfl⟩ ⟨Nat.le_refl _, Nat.le_refl _⟩ dX3_readNumber_13 rfl ?_
        refine sm_ifz_eq X 19 48 dX3_readNumber_16 rfl (by decide) (fun h16 => ?_) (fun h16 => ?_)
        · refine sm_iload_n X 20 1 dX3_readNumber_19 rfl rfl rfl ?_
          refine sm_bipush X 22 (10) dX3_readNumber_20 rfl rfl ?_
          refine sm_imul X 23 dX3_readNumber_22 rfl ?_
          refine sm_aload_n X 24 0 dX3_readNumber_23 rfl rfl rfl ?_
          refine sm_bind (fun r24 h24 => ?_)
          refine sm_callV0 X 27 [] [.int (v1 * (10 : Int32))] [.int r24, .int (v1 * (10 : Int32))] (c_X3_next l G σ  r24 h24) cw_X3_next q_485 qs_9 q_483 rfl (by decide) rfl rfl rfl rfl rfl (Nat.le_of_ble_eq_true rfl) ⟨Nat.le_of_ble_eq_true rfl, Nat.le_of_ble_eq_true rfl⟩ ⟨Nat.le_refl _, Nat.le_refl _⟩ dX3_readNumber_24 rfl ?_
          refine sm_iadd X 28 dX3_readNumber_27 rfl ?_
          refine sm_bipush X 30 (48) dX3_readNumber_28 rfl rfl ?_
          refine sm_isub X 31 dX3_readNumber_30 rfl ?_
          refine sm_istore_n X 32 [(1, .int (((v1 * (10 : Int32)) + r24) - (48 : Int32))), (0, .ref (gad G 55)), (2, .int v2)] dX3_readNumber_31 rfl rfl (by decide) rfl ?_
          refine sm_aload_n X 33 1 dX3_readNumber_32 rfl rfl rfl ?_
          refine sm_dup X 34 dX3_readNumber_33 rfl rfl ?_
          refine sm_geti X 37 rfl fd_3_4 dX3_readNumber_34 rfl q_164 ?_
          refine sm_iconst X 38 (1) dX3_readNumber_37 rfl rfl ?_
          refine sm_iadd X 39 dX3_readNumber_38 rfl ?_
          refine sm_puti X 42 .int rfl fd_3_4 (by decide) rfl rfl rfl dX3_readNumber_39 rfl q_164 (fun σ39 e39 => ?_)
          clear e39
          refine sm_iinc X 45 2 (1 : Int32) [(2, .int (v2 + (1 : Int32))), (1, .int (((v1 * (10 : Int32)) + r24) - (48 : Int32))), (0, .ref (gad G 55))] dX3_readNumber_42 rfl rfl rfl (by decide) rfl ?_
          refine sm_goto X 4 dX3_readNumber_45 (by decide) ?_
          exact sm_sub [2, 1, 0] rfl (ihl (((v1 * (10 : Int32)) + r24) - (48 : Int32)) (v2 + (1 : Int32)) σ39)
        · refine sm_aload_n X 49 0 dX3_readNumber_48 rfl rfl rfl ?_
          refine sm_iload_n X 50 1 dX3_readNumber_49 rfl rfl rfl ?_
          refine sm_bind (fun r50 h50 => ?_)
          refine sm_callV0 X 53 [.int v1] [] [] (c_X3_add l G σ v1 r50 h50) cw_X3_add q_496 qs_11 q_494 rfl (by decide) rfl rfl rfl rfl rfl (Nat.le_of_ble_eq_true rfl) ⟨Nat.le_of_ble_eq_true rfl, Nat.le_of_ble_eq_true rfl⟩ ⟨Nat.le_refl _, Nat.le_refl _⟩ dX3_readNumber_50 rfl ?_
          exact sm_vret X hr dX3_readNumber_53 rfl
  unfold f_X3_readNumber
  refine sm_iconst X 1 (0) dX3_readNumber_0 rfl rfl ?_
  refine sm_istore_n X 2 [(1, .int 0), (0, .ref (gad G 55))] dX3_readNumber_1 rfl rfl (by decide) rfl ?_
  refine sm_iconst X 3 (0) dX3_readNumber_2 rfl rfl ?_
  refine sm_istore_n X 4 [(2, .int 0), (1, .int 0), (0, .ref (gad G 55))] dX3_readNumber_3 rfl rfl (by decide) rfl ?_
  exact sm_sub [2, 1, 0] rfl (J4   FU (0 : Int32) (0 : Int32) σ)
def by_X3_readBracket_0 : List Nat := [42, 27, 182, 0, 50, 153, 0, 12, 42, 182, 0, 57, 16, 41, 159, 0]
def by_X3_readBracket_z : List Nat := [5, 3, 172, 42, 89, 180, 0, 25, 4, 96, 181, 0, 25, 4, 172]
def by_X3_readBracket : List (List Nat) := [by_X3_readBracket_0]
set_option maxRecDepth 100000 in
theorem byo_X3_readBracket : cX3_readBracket.data.toList.map UInt8.toNat = by_X3_readBracket.flatten ++ by_X3_readBracket_z := by decide +kernel
theorem byl_X3_readBracket : by_X3_readBracket.all (fun r => r.length == 16) = true := by decide +kernel
theorem byr_X3_readBracket_0 {j v : Nat} (h : by_X3_readBracket_0[j]? = some v) : RD cX3_readBracket (0 + j) v := rd_16 byo_X3_readBracket byl_X3_readBracket 0 rfl h
theorem byr_X3_readBracket_1 {j v : Nat} (h : by_X3_readBracket_z[j]? = some v) : RD cX3_readBracket (16 + j) v := rd_z byo_X3_readBracket byl_X3_readBracket 1 rfl h
theorem dX3_readBracket_0 : decode cX3_readBracket 0 = .ok (.aload_n 0, 1) := dk_42 (byr_X3_readBracket_0 (j := 0) rfl)
theorem dX3_readBracket_1 : decode cX3_readBracket 1 = .ok (.iload_n 1, 1) := dk_27 (byr_X3_readBracket_0 (j := 1) rfl)
theorem dX3_readBracket_2 : decode cX3_readBracket 2 = .ok (.invokevirtual 50, 3) := dk_182 (byr_X3_readBracket_0 (j := 2) rfl) (byr_X3_readBracket_0 (j := 3) rfl) (byr_X3_readBracket_0 (j := 4) rfl) (by decide)
theorem dX3_readBracket_5 : decode cX3_readBracket 5 = .ok (.ifCond .eq 12, 3) := dk_153 (byr_X3_readBracket_0 (j := 5) rfl) (byr_X3_readBracket_0 (j := 6) rfl) (byr_X3_readBracket_0 (j := 7) rfl) (by decide)
theorem dX3_readBracket_8 : decode cX3_readBracket 8 = .ok (.aload_n 0, 1) := dk_42 (byr_X3_readBracket_0 (j := 8) rfl)
theorem dX3_readBracket_9 : decode cX3_readBracket 9 = .ok (.invokevirtual 57, 3) := dk_182 (byr_X3_readBracket_0 (j := 9) rfl) (byr_X3_readBracket_0 (j := 10) rfl) (byr_X3_readBracket_0 (j := 11) rfl) (by decide)
theorem dX3_readBracket_12 : decode cX3_readBracket 12 = .ok (.bipush 41, 2) := dk_16 (byr_X3_readBracket_0 (j := 12) rfl) (byr_X3_readBracket_0 (j := 13) rfl) (by decide)
theorem dX3_readBracket_14 : decode cX3_readBracket 14 = .ok (.if_icmp .eq 5, 3) := dk_159 (byr_X3_readBracket_0 (j := 14) rfl) (byr_X3_readBracket_0 (j := 15) rfl) (byr_X3_readBracket_1 (j := 0) rfl) (by decide)
theorem dX3_readBracket_17 : decode cX3_readBracket 17 = .ok (.iconst 0, 1) := dk_3 (byr_X3_readBracket_1 (j := 1) rfl)
theorem dX3_readBracket_18 : decode cX3_readBracket 18 = .ok (.ireturn, 1) := dk_172 (byr_X3_readBracket_1 (j := 2) rfl)
theorem dX3_readBracket_19 : decode cX3_readBracket 19 = .ok (.aload_n 0, 1) := dk_42 (byr_X3_readBracket_1 (j := 3) rfl)
theorem dX3_readBracket_20 : decode cX3_readBracket 20 = .ok (.dup, 1) := dk_89 (byr_X3_readBracket_1 (j := 4) rfl)
theorem dX3_readBracket_21 : decode cX3_readBracket 21 = .ok (.getfield 25, 3) := dk_180 (byr_X3_readBracket_1 (j := 5) rfl) (byr_X3_readBracket_1 (j := 6) rfl) (byr_X3_readBracket_1 (j := 7) rfl) (by decide)
theorem dX3_readBracket_24 : decode cX3_readBracket 24 = .ok (.iconst 1, 1) := dk_4 (byr_X3_readBracket_1 (j := 8) rfl)
theorem dX3_readBracket_25 : decode cX3_readBracket 25 = .ok (.iadd, 1) := dk_96 (byr_X3_readBracket_1 (j := 9) rfl)
theorem dX3_readBracket_26 : decode cX3_readBracket 26 = .ok (.putfield 25, 3) := dk_181 (byr_X3_readBracket_1 (j := 10) rfl) (byr_X3_readBracket_1 (j := 11) rfl) (byr_X3_readBracket_1 (j := 12) rfl) (by decide)
theorem dX3_readBracket_29 : decode cX3_readBracket 29 = .ok (.iconst 1, 1) := dk_4 (byr_X3_readBracket_1 (j := 13) rfl)
theorem dX3_readBracket_30 : decode cX3_readBracket 30 = .ok (.ireturn, 1) := dk_172 (byr_X3_readBracket_1 (j := 14) rfl)
def by_X3_readNot_0 : List Nat := [42, 27, 182, 0, 74, 154, 0, 5, 3, 172, 42, 16, 223, 182, 0, 61]
def by_X3_readNot_z : List Nat := [4, 172]
def by_X3_readNot : List (List Nat) := [by_X3_readNot_0]
set_option maxRecDepth 100000 in
theorem byo_X3_readNot : cX3_readNot.data.toList.map UInt8.toNat = by_X3_readNot.flatten ++ by_X3_readNot_z := by decide +kernel
theorem byl_X3_readNot : by_X3_readNot.all (fun r => r.length == 16) = true := by decide +kernel
theorem byr_X3_readNot_0 {j v : Nat} (h : by_X3_readNot_0[j]? = some v) : RD cX3_readNot (0 + j) v := rd_16 byo_X3_readNot byl_X3_readNot 0 rfl h
theorem byr_X3_readNot_1 {j v : Nat} (h : by_X3_readNot_z[j]? = some v) : RD cX3_readNot (16 + j) v := rd_z byo_X3_readNot byl_X3_readNot 1 rfl h
theorem dX3_readNot_0 : decode cX3_readNot 0 = .ok (.aload_n 0, 1) := dk_42 (byr_X3_readNot_0 (j := 0) rfl)
theorem dX3_readNot_1 : decode cX3_readNot 1 = .ok (.iload_n 1, 1) := dk_27 (byr_X3_readNot_0 (j := 1) rfl)
theorem dX3_readNot_2 : decode cX3_readNot 2 = .ok (.invokevirtual 74, 3) := dk_182 (byr_X3_readNot_0 (j := 2) rfl) (byr_X3_readNot_0 (j := 3) rfl) (byr_X3_readNot_0 (j := 4) rfl) (by decide)
theorem dX3_readNot_5 : decode cX3_readNot 5 = .ok (.ifCond .ne 5, 3) := dk_154 (byr_X3_readNot_0 (j := 5) rfl) (byr_X3_readNot_0 (j := 6) rfl) (byr_X3_readNot_0 (j := 7) rfl) (by decide)
theorem dX3_readNot_8 : decode cX3_readNot 8 = .ok (.iconst 0, 1) := dk_3 (byr_X3_readNot_0 (j := 8) rfl)
theorem dX3_readNot_9 : decode cX3_readNot 9 = .ok (.ireturn, 1) := dk_172 (byr_X3_readNot_0 (j := 9) rfl)
theorem dX3_readNot_10 : decode cX3_readNot 10 = .ok (.aload_n 0, 1) := dk_42 (byr_X3_readNot_0 (j := 10) rfl)
theorem dX3_readNot_11 : decode cX3_readNot 11 = .ok (.bipush (-33), 2) := dk_16 (byr_X3_readNot_0 (j := 11) rfl) (byr_X3_readNot_0 (j := 12) rfl) (by decide)
theorem dX3_readNot_13 : decode cX3_readNot 13 = .ok (.invokevirtual 61, 3) := dk_182 (byr_X3_readNot_0 (j := 13) rfl) (byr_X3_readNot_0 (j := 14) rfl) (byr_X3_readNot_0 (j := 15) rfl) (by decide)
theorem dX3_readNot_16 : decode cX3_readNot 16 = .ok (.iconst 1, 1) := dk_4 (byr_X3_readNot_1 (j := 0) rfl)
theorem dX3_readNot_17 : decode cX3_readNot 17 = .ok (.ireturn, 1) := dk_172 (byr_X3_readNot_1 (j := 1) rfl)
def by_X3_readPart_0 : List Nat := [42, 182, 0, 57, 61, 28, 184, 0, 77, 153, 0, 9, 42, 182, 0, 80]
def by_X3_readPart_1 : List Nat := [4, 172, 28, 156, 0, 7, 2, 167, 0, 12, 42, 180, 0, 30, 28, 146]
def by_X3_readPart_2 : List Nat := [182, 0, 83, 62, 29, 155, 0, 22, 42, 89, 180, 0, 25, 4, 96, 181]
def by_X3_readPart_3 : List Nat := [0, 25, 42, 2, 29, 100, 182, 0, 61, 4, 172, 27, 8, 162, 0, 15]
def by_X3_readPart_4 : List Nat := [28, 16, 33, 159, 0, 11, 28, 16, 40, 159, 0, 5, 3, 172, 42, 89]
def by_X3_readPart_5 : List Nat := [180, 0, 25, 4, 96, 181, 0, 25, 28, 16, 33, 160, 0, 11, 42, 27]
def by_X3_readPart_z : List Nat := [4, 96, 182, 0, 89, 172, 42, 27, 4, 96, 182, 0, 92, 172]
def by_X3_readPart : List (List Nat) := [by_X3_readPart_0, by_X3_readPart_1, by_X3_readPart_2, by_X3_readPart_3, by_X3_readPart_4, by_X3_readPart_5]
set_option maxRecDepth 100000 in
theorem byo_X3_readPart : cX3_readPart.data.toList.map UInt8.toNat = by_X3_readPart.flatten ++ by_X3_readPart_z := by decide +kernel
theorem byl_X3_readPart : by_X3_readPart.all (fun r => r.length == 16) = true := by decide +kernel
theorem byr_X3_readPart_0 {j v : Nat} (h : by_X3_readPart_0[j]? = some v) : RD cX3_readPart (0 + j) v := rd_16 byo_X3_readPart byl_X3_readPart 0 rfl h
theorem byr_X3_readPart_1 {j v : Nat} (h : by_X3_readPart_1[j]? = some v) : RD cX3_readPart (16 + j) v := rd_16 byo_X3_readPart byl_X3_readPart 1 rfl h
theorem byr_X3_readPart_2 {j v : Nat} (h : by_X3_readPart_2[j]? = some v) : RD cX3_readPart (32 + j) v := rd_16 byo_X3_readPart byl_X3_readPart 2 rfl h
theorem byr_X3_readPart_3 {j v : Nat} (h : by_X3_readPart_3[j]? = some v) : RD cX3_readPart (48 + j) v := rd_16 byo_X3_readPart byl_X3_readPart 3 rfl h
theorem byr_X3_readPart_4 {j v : Nat} (h : by_X3_readPart_4[j]? = some v) : RD cX3_readPart (64 + j) v := rd_16 byo_X3_readPart byl_X3_readPart 4 rfl h
theorem byr_X3_readPart_5 {j v : Nat} (h : by_X3_readPart_5[j]? = some v) : RD cX3_readPart (80 + j) v := rd_16 byo_X3_readPart byl_X3_readPart 5 rfl h
theorem byr_X3_readPart_6 {j v : Nat} (h : by_X3_readPart_z[j]? = some v) : RD cX3_readPart (96 + j) v := rd_z byo_X3_readPart byl_X3_readPart 6 rfl h
theorem dX3_readPart_0 : decode cX3_readPart 0 = .ok (.aload_n 0, 1) := dk_42 (byr_X3_readPart_0 (j := 0) rfl)
theorem dX3_readPart_1 : decode cX3_readPart 1 = .ok (.invokevirtual 57, 3) := dk_182 (byr_X3_readPart_0 (j := 1) rfl) (byr_X3_readPart_0 (j := 2) rfl) (byr_X3_readPart_0 (j := 3) rfl) (by decide)
theorem dX3_readPart_4 : decode cX3_readPart 4 = .ok (.istore_n 2, 1) := dk_61 (byr_X3_readPart_0 (j := 4) rfl)
theorem dX3_readPart_5 : decode cX3_readPart 5 = .ok (.iload_n 2, 1) := dk_28 (byr_X3_readPart_0 (j := 5) rfl)
theorem dX3_readPart_6 : decode cX3_readPart 6 = .ok (.invokestatic 77, 3) := dk_184 (byr_X3_readPart_0 (j := 6) rfl) (byr_X3_readPart_0 (j := 7) rfl) (byr_X3_readPart_0 (j := 8) rfl) (by decide)
theorem dX3_readPart_9 : decode cX3_readPart 9 = .ok (.ifCond .eq 9, 3) := dk_153 (byr_X3_readPart_0 (j := 9) rfl) (byr_X3_readPart_0 (j := 10) rfl) (byr_X3_readPart_0 (j := 11) rfl) (by decide)
theorem dX3_readPart_12 : decode cX3_readPart 12 = .ok (.aload_n 0, 1) := dk_42 (byr_X3_readPart_0 (j := 12) rfl)
theorem dX3_readPart_13 : decode cX3_readPart 13 = .ok (.invokevirtual 80, 3) := dk_182 (byr_X3_readPart_0 (j := 13) rfl) (byr_X3_readPart_0 (j := 14) rfl) (byr_X3_readPart_0 (j := 15) rfl) (by decide)
theorem dX3_readPart_16 : decode cX3_readPart 16 = .ok (.iconst 1, 1) := dk_4 (byr_X3_readPart_1 (j := 0) rfl)
theorem dX3_readPart_17 : decode cX3_readPart 17 = .ok (.ireturn, 1) := dk_172 (byr_X3_readPart_1 (j := 1) rfl)
theorem dX3_readPart_18 : decode cX3_readPart 18 = .ok (.iload_n 2, 1) := dk_28 (byr_X3_readPart_1 (j := 2) rfl)
theorem dX3_readPart_19 : decode cX3_readPart 19 = .ok (.ifCond .ge 7, 3) := dk_156 (byr_X3_readPart_1 (j := 3) rfl) (byr_X3_readPart_1 (j := 4) rfl) (byr_X3_readPart_1 (j := 5) rfl) (by decide)
theorem dX3_readPart_22 : decode cX3_readPart 22 = .ok (.iconst (-1), 1) := dk_2 (byr_X3_readPart_1 (j := 6) rfl)
theorem dX3_readPart_23 : decode cX3_readPart 23 = .ok (.goto 12, 3) := dk_167 (byr_X3_readPart_1 (j := 7) rfl) (byr_X3_readPart_1 (j := 8) rfl) (byr_X3_readPart_1 (j := 9) rfl) (by decide)
theorem dX3_readPart_26 : decode cX3_readPart 26 = .ok (.aload_n 0, 1) := dk_42 (byr_X3_readPart_1 (j := 10) rfl)
theorem dX3_readPart_27 : decode cX3_readPart 27 = .ok (.getfield 30, 3) := dk_180 (byr_X3_readPart_1 (j := 11) rfl) (byr_X3_readPart_1 (j := 12) rfl) (byr_X3_readPart_1 (j := 13) rfl) (by decide)
theorem dX3_readPart_30 : decode cX3_readPart 30 = .ok (.iload_n 2, 1) := dk_28 (byr_X3_readPart_1 (j := 14) rfl)
theorem dX3_readPart_31 : decode cX3_readPart 31 = .ok (.i2c, 1) := dk_146 (byr_X3_readPart_1 (j := 15) rfl)
theorem dX3_readPart_32 : decode cX3_readPart 32 = .ok (.invokevirtual 83, 3) := dk_182 (byr_X3_readPart_2 (j := 0) rfl) (byr_X3_readPart_2 (j := 1) rfl) (byr_X3_readPart_2 (j := 2) rfl) (by decide)
theorem dX3_readPart_35 : decode cX3_readPart 35 = .ok (.istore_n 3, 1) := dk_62 (byr_X3_readPart_2 (j := 3) rfl)
theorem dX3_readPart_36 : decode cX3_readPart 36 = .ok (.iload_n 3, 1) := dk_29 (byr_X3_readPart_2 (j := 4) rfl)
theorem dX3_readPart_37 : decode cX3_readPart 37 = .ok (.ifCond .lt 22, 3) := dk_155 (byr_X3_readPart_2 (j := 5) rfl) (byr_X3_readPart_2 (j := 6) rfl) (byr_X3_readPart_2 (j := 7) rfl) (by decide)
theorem dX3_readPart_40 : decode cX3_readPart 40 = .ok (.aload_n 0, 1) := dk_42 (byr_X3_readPart_2 (j := 8) rfl)
theorem dX3_readPart_41 : decode cX3_readPart 41 = .ok (.dup, 1) := dk_89 (byr_X3_readPart_2 (j := 9) rfl)
theorem dX3_readPart_42 : decode cX3_readPart 42 = .ok (.getfield 25, 3) := dk_180 (byr_X3_readPart_2 (j := 10) rfl) (byr_X3_readPart_2 (j := 11) rfl) (byr_X3_readPart_2 (j := 12) rfl) (by decide)
theorem dX3_readPart_45 : decode cX3_readPart 45 = .ok (.iconst 1, 1) := dk_4 (byr_X3_readPart_2 (j := 13) rfl)
theorem dX3_readPart_46 : decode cX3_readPart 46 = .ok (.iadd, 1) := dk_96 (byr_X3_readPart_2 (j := 14) rfl)
theorem dX3_readPart_47 : decode cX3_readPart 47 = .ok (.putfield 25, 3) := dk_181 (byr_X3_readPart_2 (j := 15) rfl) (byr_X3_readPart_3 (j := 0) rfl) (byr_X3_readPart_3 (j := 1) rfl) (by decide)
theorem dX3_readPart_50 : decode cX3_readPart 50 = .ok (.aload_n 0, 1) := dk_42 (byr_X3_readPart_3 (j := 2) rfl)
theorem dX3_readPart_51 : decode cX3_readPart 51 = .ok (.iconst (-1), 1) := dk_2 (byr_X3_readPart_3 (j := 3) rfl)
theorem dX3_readPart_52 : decode cX3_readPart 52 = .ok (.iload_n 3, 1) := dk_29 (byr_X3_readPart_3 (j := 4) rfl)
theorem dX3_readPart_53 : decode cX3_readPart 53 = .ok (.isub, 1) := dk_100 (byr_X3_readPart_3 (j := 5) rfl)
theorem dX3_readPart_54 : decode cX3_readPart 54 = .ok (.invokevirtual 61, 3) := dk_182 (byr_X3_readPart_3 (j := 6) rfl) (byr_X3_readPart_3 (j := 7) rfl) (byr_X3_readPart_3 (j := 8) rfl) (by decide)
theorem dX3_readPart_57 : decode cX3_readPart 57 = .ok (.iconst 1, 1) := dk_4 (byr_X3_readPart_3 (j := 9) rfl)
theorem dX3_readPart_58 : decode cX3_readPart 58 = .ok (.ireturn, 1) := dk_172 (byr_X3_readPart_3 (j := 10) rfl)
theorem dX3_readPart_59 : decode cX3_readPart 59 = .ok (.iload_n 1, 1) := dk_27 (byr_X3_readPart_3 (j := 11) rfl)
theorem dX3_readPart_60 : decode cX3_readPart 60 = .ok (.iconst 5, 1) := dk_8 (byr_X3_readPart_3 (j := 12) rfl)
theorem dX3_readPart_61 : decode cX3_readPart 61 = .ok (.if_icmp .ge 15, 3) := dk_162 (byr_X3_readPart_3 (j := 13) rfl) (byr_X3_readPart_3 (j := 14) rfl) (byr_X3_readPart_3 (j := 15) rfl) (by decide)
theorem dX3_readPart_64 : decode cX3_readPart 64 = .ok (.iload_n 2, 1) := dk_28 (byr_X3_readPart_4 (j := 0) rfl)
theorem dX3_readPart_65 : decode cX3_readPart 65 = .ok (.bipush 33, 2) := dk_16 (byr_X3_readPart_4 (j := 1) rfl) (byr_X3_readPart_4 (j := 2) rfl) (by decide)
theorem dX3_readPart_67 : decode cX3_readPart 67 = .ok (.if_icmp .eq 11, 3) := dk_159 (byr_X3_readPart_4 (j := 3) rfl) (byr_X3_readPart_4 (j := 4) rfl) (byr_X3_readPart_4 (j := 5) rfl) (by decide)
theorem dX3_readPart_70 : decode cX3_readPart 70 = .ok (.iload_n 2, 1) := dk_28 (byr_X3_readPart_4 (j := 6) rfl)
theorem dX3_readPart_71 : decode cX3_readPart 71 = .ok (.bipush 40, 2) := dk_16 (byr_X3_readPart_4 (j := 7) rfl) (byr_X3_readPart_4 (j := 8) rfl) (by decide)
theorem dX3_readPart_73 : decode cX3_readPart 73 = .ok (.if_icmp .eq 5, 3) := dk_159 (byr_X3_readPart_4 (j := 9) rfl) (byr_X3_readPart_4 (j := 10) rfl) (byr_X3_readPart_4 (j := 11) rfl) (by decide)
theorem dX3_readPart_76 : decode cX3_readPart 76 = .ok (.iconst 0, 1) := dk_3 (byr_X3_readPart_4 (j := 12) rfl)
theorem dX3_readPart_77 : decode cX3_readPart 77 = .ok (.ireturn, 1) := dk_172 (byr_X3_readPart_4 (j := 13) rfl)
theorem dX3_readPart_78 : decode cX3_readPart 78 = .ok (.aload_n 0, 1) := dk_42 (byr_X3_readPart_4 (j := 14) rfl)
theorem dX3_readPart_79 : decode cX3_readPart 79 = .ok (.dup, 1) := dk_89 (byr_X3_readPart_4 (j := 15) rfl)
theorem dX3_readPart_80 : decode cX3_readPart 80 = .ok (.getfield 25, 3) := dk_180 (byr_X3_readPart_5 (j := 0) rfl) (byr_X3_readPart_5 (j := 1) rfl) (byr_X3_readPart_5 (j := 2) rfl) (by decide)
theorem dX3_readPart_83 : decode cX3_readPart 83 = .ok (.iconst 1, 1) := dk_4 (byr_X3_readPart_5 (j := 3) rfl)
theorem dX3_readPart_84 : decode cX3_readPart 84 = .ok (.iadd, 1) := dk_96 (byr_X3_readPart_5 (j := 4) rfl)
theorem dX3_readPart_85 : decode cX3_readPart 85 = .ok (.putfield 25, 3) := dk_181 (byr_X3_readPart_5 (j := 5) rfl) (byr_X3_readPart_5 (j := 6) rfl) (byr_X3_readPart_5 (j := 7) rfl) (by decide)
theorem dX3_readPart_88 : decode cX3_readPart 88 = .ok (.iload_n 2, 1) := dk_28 (byr_X3_readPart_5 (j := 8) rfl)
theorem dX3_readPart_89 : decode cX3_readPart 89 = .ok (.bipush 33, 2) := dk_16 (byr_X3_readPart_5 (j := 9) rfl) (byr_X3_readPart_5 (j := 10) rfl) (by decide)
theorem dX3_readPart_91 : decode cX3_readPart 91 = .ok (.if_icmp .ne 11, 3) := dk_160 (byr_X3_readPart_5 (j := 11) rfl) (byr_X3_readPart_5 (j := 12) rfl) (byr_X3_readPart_5 (j := 13) rfl) (by decide)
theorem dX3_readPart_94 : decode cX3_readPart 94 = .ok (.aload_n 0, 1) := dk_42 (byr_X3_readPart_5 (j := 14) rfl)
theorem dX3_readPart_95 : decode cX3_readPart 95 = .ok (.iload_n 1, 1) := dk_27 (byr_X3_readPart_5 (j := 15) rfl)
theorem dX3_readPart_96 : decode cX3_readPart 96 = .ok (.iconst 1, 1) := dk_4 (byr_X3_readPart_6 (j := 0) rfl)
theorem dX3_readPart_97 : decode cX3_readPart 97 = .ok (.iadd, 1) := dk_96 (byr_X3_readPart_6 (j := 1) rfl)
theorem dX3_readPart_98 : decode cX3_readPart 98 = .ok (.invokevirtual 89, 3) := dk_182 (byr_X3_readPart_6 (j := 2) rfl) (byr_X3_readPart_6 (j := 3) rfl) (byr_X3_readPart_6 (j := 4) rfl) (by decide)
theorem dX3_readPart_101 : decode cX3_readPart 101 = .ok (.ireturn, 1) := dk_172 (byr_X3_readPart_6 (j := 5) rfl)
theorem dX3_readPart_102 : decode cX3_readPart 102 = .ok (.aload_n 0, 1) := dk_42 (byr_X3_readPart_6 (j := 6) rfl)
theorem dX3_readPart_103 : decode cX3_readPart 103 = .ok (.iload_n 1, 1) := dk_27 (byr_X3_readPart_6 (j := 7) rfl)
theorem dX3_readPart_104 : decode cX3_readPart 104 = .ok (.iconst 1, 1) := dk_4 (byr_X3_readPart_6 (j := 8) rfl)
theorem dX3_readPart_105 : decode cX3_readPart 105 = .ok (.iadd, 1) := dk_96 (byr_X3_readPart_6 (j := 9) rfl)
theorem dX3_readPart_106 : decode cX3_readPart 106 = .ok (.invokevirtual 92, 3) := dk_182 (byr_X3_readPart_6 (j := 10) rfl) (byr_X3_readPart_6 (j := 11) rfl) (byr_X3_readPart_6 (j := 12) rfl) (by decide)
theorem dX3_readPart_109 : decode cX3_readPart 109 = .ok (.ireturn, 1) := dk_172 (byr_X3_readPart_6 (j := 13) rfl)
def by_X3_readProduct_0 : List Nat := [42, 27, 182, 0, 74, 154, 0, 5, 3, 172, 42, 180, 0, 25, 42, 180]
def by_X3_readProduct_1 : List Nat := [0, 22, 162, 0, 64, 42, 182, 0, 57, 16, 42, 159, 0, 21, 42, 182]
def by_X3_readProduct_2 : List Nat := [0, 57, 16, 47, 159, 0, 12, 42, 182, 0, 57, 16, 37, 160, 0, 37]
def by_X3_readProduct_3 : List Nat := [42, 182, 0, 57, 61, 42, 89, 180, 0, 25, 4, 96, 181, 0, 25, 42]
def by_X3_readProduct_4 : List Nat := [27, 182, 0, 74, 154, 0, 5, 3, 172, 42, 28, 116, 182, 0, 61, 167]
def by_X3_readProduct_z : List Nat := [255, 187, 4, 172]
def by_X3_readProduct : List (List Nat) := [by_X3_readProduct_0, by_X3_readProduct_1, by_X3_readProduct_2, by_X3_readProduct_3, by_X3_readProduct_4]
set_option maxRecDepth 100000 in
theorem byo_X3_readProduct : cX3_readProduct.data.toList.map UInt8.toNat = by_X3_readProduct.flatten ++ by_X3_readProduct_z := by decide +kernel
theorem byl_X3_readProduct : by_X3_readProduct.all (fun r => r.length == 16) = true := by decide +kernel
theorem byr_X3_readProduct_0 {j v : Nat} (h : by_X3_readProduct_0[j]? = some v) : RD cX3_readProduct (0 + j) v := rd_16 byo_X3_readProduct byl_X3_readProduct 0 rfl h
theorem byr_X3_readProduct_1 {j v : Nat} (h : by_X3_readProduct_1[j]? = some v) : RD cX3_readProduct (16 + j) v := rd_16 byo_X3_readProduct byl_X3_readProduct 1 rfl h
theorem byr_X3_readProduct_2 {j v : Nat} (h : by_X3_readProduct_2[j]? = some v) : RD cX3_readProduct (32 + j) v := rd_16 byo_X3_readProduct byl_X3_readProduct 2 rfl h
theorem byr_X3_readProduct_3 {j v : Nat} (h : by_X3_readProduct_3[j]? = some v) : RD cX3_readProduct (48 + j) v := rd_16 byo_X3_readProduct byl_X3_readProduct 3 rfl h
theorem byr_X3_readProduct_4 {j v : Nat} (h : by_X3_readProduct_4[j]? = some v) : RD cX3_readProduct (64 + j) v := rd_16 byo_X3_readProduct byl_X3_readProduct 4 rfl h
theorem byr_X3_readProduct_5 {j v : Nat} (h : by_X3_readProduct_z[j]? = some v) : RD cX3_readProduct (80 + j) v := rd_z byo_X3_readProduct byl_X3_readProduct 5 rfl h
theorem dX3_readProduct_0 : decode cX3_readProduct 0 = .ok (.aload_n 0, 1) := dk_42 (byr_X3_readProduct_0 (j := 0) rfl)
theorem dX3_readProduct_1 : decode cX3_readProduct 1 = .ok (.iload_n 1, 1) := dk_27 (byr_X3_readProduct_0 (j := 1) rfl)
theorem dX3_readProduct_2 : decode cX3_readProduct 2 = .ok (.invokevirtual 74, 3) := dk_182 (byr_X3_readProduct_0 (j := 2) rfl) (byr_X3_readProduct_0 (j := 3) rfl) (byr_X3_readProduct_0 (j := 4) rfl) (by decide)
theorem dX3_readProduct_5 : decode cX3_readProduct 5 = .ok (.ifCond .ne 5, 3) := dk_154 (byr_X3_readProduct_0 (j := 5) rfl) (byr_X3_readProduct_0 (j := 6) rfl) (byr_X3_readProduct_0 (j := 7) rfl) (by decide)
theorem dX3_readProduct_8 : decode cX3_readProduct 8 = .ok (.iconst 0, 1) := dk_3 (byr_X3_readProduct_0 (j := 8) rfl)
theorem dX3_readProduct_9 : decode cX3_readProduct 9 = .ok (.ireturn, 1) := dk_172 (byr_X3_readProduct_0 (j := 9) rfl)
theorem dX3_readProduct_10 : decode cX3_readProduct 10 = .ok (.aload_n 0, 1) := dk_42 (byr_X3_readProduct_0 (j := 10) rfl)
theorem dX3_readProduct_11 : decode cX3_readProduct 11 = .ok (.getfield 25, 3) := dk_180 (byr_X3_readProduct_0 (j := 11) rfl) (byr_X3_readProduct_0 (j := 12) rfl) (byr_X3_readProduct_0 (j := 13) rfl) (by decide)
theorem dX3_readProduct_14 : decode cX3_readProduct 14 = .ok (.aload_n 0, 1) := dk_42 (byr_X3_readProduct_0 (j := 14) rfl)
theorem dX3_readProduct_15 : decode cX3_readProduct 15 = .ok (.getfield 22, 3) := dk_180 (byr_X3_readProduct_0 (j := 15) rfl) (byr_X3_readProduct_1 (j := 0) rfl) (byr_X3_readProduct_1 (j := 1) rfl) (by decide)
theorem dX3_readProduct_18 : decode cX3_readProduct 18 = .ok (.if_icmp .ge 64, 3) := dk_162 (byr_X3_readProduct_1 (j := 2) rfl) (byr_X3_readProduct_1 (j := 3) rfl) (byr_X3_readProduct_1 (j := 4) rfl) (by decide)
theorem dX3_readProduct_21 : decode cX3_readProduct 21 = .ok (.aload_n 0, 1) := dk_42 (byr_X3_readProduct_1 (j := 5) rfl)
theorem dX3_readProduct_22 : decode cX3_readProduct 22 = .ok (.invokevirtual 57, 3) := dk_182 (byr_X3_readProduct_1 (j := 6) rfl) (byr_X3_readProduct_1 (j := 7) rfl) (byr_X3_readProduct_1 (j := 8) rfl) (by decide)
theorem dX3_readProduct_25 : decode cX3_readProduct 25 = .ok (.bipush 42, 2) := dk_16 (byr_X3_readProduct_1 (j := 9) rfl) (byr_X3_readProduct_1 (j := 10) rfl) (by decide)
theorem dX3_readProduct_27 : decode cX3_readProduct 27 = .ok (.if_icmp .eq 21, 3) := dk_159 (byr_X3_readProduct_1 (j := 11) rfl) (byr_X3_readProduct_1 (j := 12) rfl) (byr_X3_readProduct_1 (j := 13) rfl) (by decide)
theorem dX3_readProduct_30 : decode cX3_readProduct 30 = .ok (.aload_n 0, 1) := dk_42 (byr_X3_readProduct_1 (j := 14) rfl)
theorem dX3_readProduct_31 : decode cX3_readProduct 31 = .ok (.invokevirtual 57, 3) := dk_182 (byr_X3_readProduct_1 (j := 15) rfl) (byr_X3_readProduct_2 (j := 0) rfl) (byr_X3_readProduct_2 (j := 1) rfl) (by decide)
theorem dX3_readProduct_34 : decode cX3_readProduct 34 = .ok (.bipush 47, 2) := dk_16 (byr_X3_readProduct_2 (j := 2) rfl) (byr_X3_readProduct_2 (j := 3) rfl) (by decide)
theorem dX3_readProduct_36 : decode cX3_readProduct 36 = .ok (.if_icmp .eq 12, 3) := dk_159 (byr_X3_readProduct_2 (j := 4) rfl) (byr_X3_readProduct_2 (j := 5) rfl) (byr_X3_readProduct_2 (j := 6) rfl) (by decide)
theorem dX3_readProduct_39 : decode cX3_readProduct 39 = .ok (.aload_n 0, 1) := dk_42 (byr_X3_readProduct_2 (j := 7) rfl)
theorem dX3_readProduct_40 : decode cX3_readProduct 40 = .ok (.invokevirtual 57, 3) := dk_182 (byr_X3_readProduct_2 (j := 8) rfl) (byr_X3_readProduct_2 (j := 9) rfl) (byr_X3_readProduct_2 (j := 10) rfl) (by decide)
theorem dX3_readProduct_43 : decode cX3_readProduct 43 = .ok (.bipush 37, 2) := dk_16 (byr_X3_readProduct_2 (j := 11) rfl) (byr_X3_readProduct_2 (j := 12) rfl) (by decide)
theorem dX3_readProduct_45 : decode cX3_readProduct 45 = .ok (.if_icmp .ne 37, 3) := dk_160 (byr_X3_readProduct_2 (j := 13) rfl) (byr_X3_readProduct_2 (j := 14) rfl) (byr_X3_readProduct_2 (j := 15) rfl) (by decide)
theorem dX3_readProduct_48 : decode cX3_readProduct 48 = .ok (.aload_n 0, 1) := dk_42 (byr_X3_readProduct_3 (j := 0) rfl)
theorem dX3_readProduct_49 : decode cX3_readProduct 49 = .ok (.invokevirtual 57, 3) := dk_182 (byr_X3_readProduct_3 (j := 1) rfl) (byr_X3_readProduct_3 (j := 2) rfl) (byr_X3_readProduct_3 (j := 3) rfl) (by decide)
theorem dX3_readProduct_52 : decode cX3_readProduct 52 = .ok (.istore_n 2, 1) := dk_61 (byr_X3_readProduct_3 (j := 4) rfl)
theorem dX3_readProduct_53 : decode cX3_readProduct 53 = .ok (.aload_n 0, 1) := dk_42 (byr_X3_readProduct_3 (j := 5) rfl)
theorem dX3_readProduct_54 : decode cX3_readProduct 54 = .ok (.dup, 1) := dk_89 (byr_X3_readProduct_3 (j := 6) rfl)
theorem dX3_readProduct_55 : decode cX3_readProduct 55 = .ok (.getfield 25, 3) := dk_180 (byr_X3_readProduct_3 (j := 7) rfl) (byr_X3_readProduct_3 (j := 8) rfl) (byr_X3_readProduct_3 (j := 9) rfl) (by decide)
theorem dX3_readProduct_58 : decode cX3_readProduct 58 = .ok (.iconst 1, 1) := dk_4 (byr_X3_readProduct_3 (j := 10) rfl)
theorem dX3_readProduct_59 : decode cX3_readProduct 59 = .ok (.iadd, 1) := dk_96 (byr_X3_readProduct_3 (j := 11) rfl)
theorem dX3_readProduct_60 : decode cX3_readProduct 60 = .ok (.putfield 25, 3) := dk_181 (byr_X3_readProduct_3 (j := 12) rfl) (byr_X3_readProduct_3 (j := 13) rfl) (byr_X3_readProduct_3 (j := 14) rfl) (by decide)
theorem dX3_readProduct_63 : decode cX3_readProduct 63 = .ok (.aload_n 0, 1) := dk_42 (byr_X3_readProduct_3 (j := 15) rfl)
theorem dX3_readProduct_64 : decode cX3_readProduct 64 = .ok (.iload_n 1, 1) := dk_27 (byr_X3_readProduct_4 (j := 0) rfl)
theorem dX3_readProduct_65 : decode cX3_readProduct 65 = .ok (.invokevirtual 74, 3) := dk_182 (byr_X3_readProduct_4 (j := 1) rfl) (byr_X3_readProduct_4 (j := 2) rfl) (byr_X3_readProduct_4 (j := 3) rfl) (by decide)
theorem dX3_readProduct_68 : decode cX3_readProduct 68 = .ok (.ifCond .ne 5, 3) := dk_154 (byr_X3_readProduct_4 (j := 4) rfl) (byr_X3_readProduct_4 (j := 5) rfl) (byr_X3_readProduct_4 (j := 6) rfl) (by decide)
theorem dX3_readProduct_71 : decode cX3_readProduct 71 = .ok (.iconst 0, 1) := dk_3 (byr_X3_readProduct_4 (j := 7) rfl)
theorem dX3_readProduct_72 : decode cX3_readProduct 72 = .ok (.ireturn, 1) := dk_172 (byr_X3_readProduct_4 (j := 8) rfl)
theorem dX3_readProduct_73 : decode cX3_readProduct 73 = .ok (.aload_n 0, 1) := dk_42 (byr_X3_readProduct_4 (j := 9) rfl)
theorem dX3_readProduct_74 : decode cX3_readProduct 74 = .ok (.iload_n 2, 1) := dk_28 (byr_X3_readProduct_4 (j := 10) rfl)
theorem dX3_readProduct_75 : decode cX3_readProduct 75 = .ok (.ineg, 1) := dk_116 (byr_X3_readProduct_4 (j := 11) rfl)
theorem dX3_readProduct_76 : decode cX3_readProduct 76 = .ok (.invokevirtual 61, 3) := dk_182 (byr_X3_readProduct_4 (j := 12) rfl) (byr_X3_readProduct_4 (j := 13) rfl) (byr_X3_readProduct_4 (j := 14) rfl) (by decide)
theorem dX3_readProduct_79 : decode cX3_readProduct 79 = .ok (.goto (-69), 3) := dk_167 (byr_X3_readProduct_4 (j := 15) rfl) (byr_X3_readProduct_5 (j := 0) rfl) (byr_X3_readProduct_5 (j := 1) rfl) (by decide)
theorem dX3_readProduct_82 : decode cX3_readProduct 82 = .ok (.iconst 1, 1) := dk_4 (byr_X3_readProduct_5 (j := 2) rfl)
theorem dX3_readProduct_83 : decode cX3_readProduct 83 = .ok (.ireturn, 1) := dk_172 (byr_X3_readProduct_5 (j := 3) rfl)
def by_X3_readSum_0 : List Nat := [42, 27, 182, 0, 71, 154, 0, 5, 3, 172, 42, 180, 0, 25, 42, 180]
def by_X3_readSum_1 : List Nat := [0, 22, 162, 0, 55, 42, 182, 0, 57, 16, 43, 159, 0, 12, 42, 182]
def by_X3_readSum_2 : List Nat := [0, 57, 16, 45, 160, 0, 37, 42, 182, 0, 57, 61, 42, 89, 180, 0]
def by_X3_readSum_3 : List Nat := [25, 4, 96, 181, 0, 25, 42, 27, 182, 0, 71, 154, 0, 5, 3, 172]
def by_X3_readSum_z : List Nat := [42, 28, 116, 182, 0, 61, 167, 255, 196, 4, 172]
def by_X3_readSum : List (List Nat) := [by_X3_readSum_0, by_X3_readSum_1, by_X3_readSum_2, by_X3_readSum_3]
set_option maxRecDepth 100000 in
theorem byo_X3_readSum : cX3_readSum.data.toList.map UInt8.toNat = by_X3_readSum.flatten ++ by_X3_readSum_z := by decide +kernel
theorem byl_X3_readSum : by_X3_readSum.all (fun r => r.length == 16) = true := by decide +kernel
theorem byr_X3_readSum_0 {j v : Nat} (h : by_X3_readSum_0[j]? = some v) : RD cX3_readSum (0 + j) v := rd_16 byo_X3_readSum byl_X3_readSum 0 rfl h
theorem byr_X3_readSum_1 {j v : Nat} (h : by_X3_readSum_1[j]? = some v) : RD cX3_readSum (16 + j) v := rd_16 byo_X3_readSum byl_X3_readSum 1 rfl h
theorem byr_X3_readSum_2 {j v : Nat} (h : by_X3_readSum_2[j]? = some v) : RD cX3_readSum (32 + j) v := rd_16 byo_X3_readSum byl_X3_readSum 2 rfl h
theorem byr_X3_readSum_3 {j v : Nat} (h : by_X3_readSum_3[j]? = some v) : RD cX3_readSum (48 + j) v := rd_16 byo_X3_readSum byl_X3_readSum 3 rfl h
theorem byr_X3_readSum_4 {j v : Nat} (h : by_X3_readSum_z[j]? = some v) : RD cX3_readSum (64 + j) v := rd_z byo_X3_readSum byl_X3_readSum 4 rfl h
theorem dX3_readSum_0 : decode cX3_readSum 0 = .ok (.aload_n 0, 1) := dk_42 (byr_X3_readSum_0 (j := 0) rfl)
theorem dX3_readSum_1 : decode cX3_readSum 1 = .ok (.iload_n 1, 1) := dk_27 (byr_X3_readSum_0 (j := 1) rfl)
theorem dX3_readSum_2 : decode cX3_readSum 2 = .ok (.invokevirtual 71, 3) := dk_182 (byr_X3_readSum_0 (j := 2) rfl) (byr_X3_readSum_0 (j := 3) rfl) (byr_X3_readSum_0 (j := 4) rfl) (by decide)
theorem dX3_readSum_5 : decode cX3_readSum 5 = .ok (.ifCond .ne 5, 3) := dk_154 (byr_X3_readSum_0 (j := 5) rfl) (byr_X3_readSum_0 (j := 6) rfl) (byr_X3_readSum_0 (j := 7) rfl) (by decide)
theorem dX3_readSum_8 : decode cX3_readSum 8 = .ok (.iconst 0, 1) := dk_3 (byr_X3_readSum_0 (j := 8) rfl)
theorem dX3_readSum_9 : decode cX3_readSum 9 = .ok (.ireturn, 1) := dk_172 (byr_X3_readSum_0 (j := 9) rfl)
theorem dX3_readSum_10 : decode cX3_readSum 10 = .ok (.aload_n 0, 1) := dk_42 (byr_X3_readSum_0 (j := 10) rfl)
theorem dX3_readSum_11 : decode cX3_readSum 11 = .ok (.getfield 25, 3) := dk_180 (byr_X3_readSum_0 (j := 11) rfl) (byr_X3_readSum_0 (j := 12) rfl) (byr_X3_readSum_0 (j := 13) rfl) (by decide)
theorem dX3_readSum_14 : decode cX3_readSum 14 = .ok (.aload_n 0, 1) := dk_42 (byr_X3_readSum_0 (j := 14) rfl)
theorem dX3_readSum_15 : decode cX3_readSum 15 = .ok (.getfield 22, 3) := dk_180 (byr_X3_readSum_0 (j := 15) rfl) (byr_X3_readSum_1 (j := 0) rfl) (byr_X3_readSum_1 (j := 1) rfl) (by decide)
theorem dX3_readSum_18 : decode cX3_readSum 18 = .ok (.if_icmp .ge 55, 3) := dk_162 (byr_X3_readSum_1 (j := 2) rfl) (byr_X3_readSum_1 (j := 3) rfl) (byr_X3_readSum_1 (j := 4) rfl) (by decide)
theorem dX3_readSum_21 : decode cX3_readSum 21 = .ok (.aload_n 0, 1) := dk_42 (byr_X3_readSum_1 (j := 5) rfl)
theorem dX3_readSum_22 : decode cX3_readSum 22 = .ok (.invokevirtual 57, 3) := dk_182 (byr_X3_readSum_1 (j := 6) rfl) (byr_X3_readSum_1 (j := 7) rfl) (byr_X3_readSum_1 (j := 8) rfl) (by decide)
theorem dX3_readSum_25 : decode cX3_readSum 25 = .ok (.bipush 43, 2) := dk_16 (byr_X3_readSum_1 (j := 9) rfl) (byr_X3_readSum_1 (j := 10) rfl) (by decide)
theorem dX3_readSum_27 : decode cX3_readSum 27 = .ok (.if_icmp .eq 12, 3) := dk_159 (byr_X3_readSum_1 (j := 11) rfl) (byr_X3_readSum_1 (j := 12) rfl) (byr_X3_readSum_1 (j := 13) rfl) (by decide)
theorem dX3_readSum_30 : decode cX3_readSum 30 = .ok (.aload_n 0, 1) := dk_42 (byr_X3_readSum_1 (j := 14) rfl)
theorem dX3_readSum_31 : decode cX3_readSum 31 = .ok (.invokevirtual 57, 3) := dk_182 (byr_X3_readSum_1 (j := 15) rfl) (byr_X3_readSum_2 (j := 0) rfl) (byr_X3_readSum_2 (j := 1) rfl) (by decide)
theorem dX3_readSum_34 : decode cX3_readSum 34 = .ok (.bipush 45, 2) := dk_16 (byr_X3_readSum_2 (j := 2) rfl) (byr_X3_readSum_2 (j := 3) rfl) (by decide)
theorem dX3_readSum_36 : decode cX3_readSum 36 = .ok (.if_icmp .ne 37, 3) := dk_160 (byr_X3_readSum_2 (j := 4) rfl) (byr_X3_readSum_2 (j := 5) rfl) (byr_X3_readSum_2 (j := 6) rfl) (by decide)
theorem dX3_readSum_39 : decode cX3_readSum 39 = .ok (.aload_n 0, 1) := dk_42 (byr_X3_readSum_2 (j := 7) rfl)
theorem dX3_readSum_40 : decode cX3_readSum 40 = .ok (.invokevirtual 57, 3) := dk_182 (byr_X3_readSum_2 (j := 8) rfl) (byr_X3_readSum_2 (j := 9) rfl) (byr_X3_readSum_2 (j := 10) rfl) (by decide)
theorem dX3_readSum_43 : decode cX3_readSum 43 = .ok (.istore_n 2, 1) := dk_61 (byr_X3_readSum_2 (j := 11) rfl)
theorem dX3_readSum_44 : decode cX3_readSum 44 = .ok (.aload_n 0, 1) := dk_42 (byr_X3_readSum_2 (j := 12) rfl)
theorem dX3_readSum_45 : decode cX3_readSum 45 = .ok (.dup, 1) := dk_89 (byr_X3_readSum_2 (j := 13) rfl)
theorem dX3_readSum_46 : decode cX3_readSum 46 = .ok (.getfield 25, 3) := dk_180 (byr_X3_readSum_2 (j := 14) rfl) (byr_X3_readSum_2 (j := 15) rfl) (byr_X3_readSum_3 (j := 0) rfl) (by decide)
theorem dX3_readSum_49 : decode cX3_readSum 49 = .ok (.iconst 1, 1) := dk_4 (byr_X3_readSum_3 (j := 1) rfl)
theorem dX3_readSum_50 : decode cX3_readSum 50 = .ok (.iadd, 1) := dk_96 (byr_X3_readSum_3 (j := 2) rfl)
theorem dX3_readSum_51 : decode cX3_readSum 51 = .ok (.putfield 25, 3) := dk_181 (byr_X3_readSum_3 (j := 3) rfl) (byr_X3_readSum_3 (j := 4) rfl) (byr_X3_readSum_3 (j := 5) rfl) (by decide)
theorem dX3_readSum_54 : decode cX3_readSum 54 = .ok (.aload_n 0, 1) := dk_42 (byr_X3_readSum_3 (j := 6) rfl)
theorem dX3_readSum_55 : decode cX3_readSum 55 = .ok (.iload_n 1, 1) := dk_27 (byr_X3_readSum_3 (j := 7) rfl)
theorem dX3_readSum_56 : decode cX3_readSum 56 = .ok (.invokevirtual 71, 3) := dk_182 (byr_X3_readSum_3 (j := 8) rfl) (byr_X3_readSum_3 (j := 9) rfl) (byr_X3_readSum_3 (j := 10) rfl) (by decide)
theorem dX3_readSum_59 : decode cX3_readSum 59 = .ok (.ifCond .ne 5, 3) := dk_154 (byr_X3_readSum_3 (j := 11) rfl) (byr_X3_readSum_3 (j := 12) rfl) (byr_X3_readSum_3 (j := 13) rfl) (by decide)
theorem dX3_readSum_62 : decode cX3_readSum 62 = .ok (.iconst 0, 1) := dk_3 (byr_X3_readSum_3 (j := 14) rfl)
theorem dX3_readSum_63 : decode cX3_readSum 63 = .ok (.ireturn, 1) := dk_172 (byr_X3_readSum_3 (j := 15) rfl)
theorem dX3_readSum_64 : decode cX3_readSum 64 = .ok (.aload_n 0, 1) := dk_42 (byr_X3_readSum_4 (j := 0) rfl)
theorem dX3_readSum_65 : decode cX3_readSum 65 = .ok (.iload_n 2, 1) := dk_28 (byr_X3_readSum_4 (j := 1) rfl)
theorem dX3_readSum_66 : decode cX3_readSum 66 = .ok (.ineg, 1) := dk_116 (byr_X3_readSum_4 (j := 2) rfl)
theorem dX3_readSum_67 : decode cX3_readSum 67 = .ok (.invokevirtual 61, 3) := dk_182 (byr_X3_readSum_4 (j := 3) rfl) (byr_X3_readSum_4 (j := 4) rfl) (byr_X3_readSum_4 (j := 5) rfl) (by decide)
theorem dX3_readSum_70 : decode cX3_readSum 70 = .ok (.goto (-60), 3) := dk_167 (byr_X3_readSum_4 (j := 6) rfl) (byr_X3_readSum_4 (j := 7) rfl) (byr_X3_readSum_4 (j := 8) rfl) (by decide)
theorem dX3_readSum_73 : decode cX3_readSum 73 = .ok (.iconst 1, 1) := dk_4 (byr_X3_readSum_4 (j := 9) rfl)
theorem dX3_readSum_74 : decode cX3_readSum 74 = .ok (.ireturn, 1) := dk_172 (byr_X3_readSum_4 (j := 10) rfl)
def by_X3_readComparison_0 : List Nat := [42, 27, 182, 0, 68, 154, 0, 5, 3, 172, 42, 182, 0, 57, 61, 28]
def by_X3_readComparison_1 : List Nat := [16, 60, 159, 0, 15, 28, 16, 61, 159, 0, 9, 28, 16, 62, 160, 0]
def by_X3_readComparison_2 : List Nat := [29, 42, 89, 180, 0, 25, 4, 96, 181, 0, 25, 42, 27, 182, 0, 68]
def by_X3_readComparison_z : List Nat := [154, 0, 5, 3, 172, 42, 28, 116, 182, 0, 61, 4, 172]
def by_X3_readComparison : List (List Nat) := [by_X3_readComparison_0, by_X3_readComparison_1, by_X3_readComparison_2]
set_option maxRecDepth 100000 in
theorem byo_X3_readComparison : cX3_readComparison.data.toList.map UInt8.toNat = by_X3_readComparison.flatten ++ by_X3_readComparison_z := by decide +kernel
theorem byl_X3_readComparison : by_X3_readComparison.all (fun r => r.length == 16) = true := by decide +kernel
theorem byr_X3_readComparison_0 {j v : Nat} (h : by_X3_readComparison_0[j]? = some v) : RD cX3_readComparison (0 + j) v := rd_16 byo_X3_readComparison byl_X3_readComparison 0 rfl h
theorem byr_X3_readComparison_1 {j v : Nat} (h : by_X3_readComparison_1[j]? = some v) : RD cX3_readComparison (16 + j) v := rd_16 byo_X3_readComparison byl_X3_readComparison 1 rfl h
theorem byr_X3_readComparison_2 {j v : Nat} (h : by_X3_readComparison_2[j]? = some v) : RD cX3_readComparison (32 + j) v := rd_16 byo_X3_readComparison byl_X3_readComparison 2 rfl h
theorem byr_X3_readComparison_3 {j v : Nat} (h : by_X3_readComparison_z[j]? = some v) : RD cX3_readComparison (48 + j) v := rd_z byo_X3_readComparison byl_X3_readComparison 3 rfl h
theorem dX3_readComparison_0 : decode cX3_readComparison 0 = .ok (.aload_n 0, 1) := dk_42 (byr_X3_readComparison_0 (j := 0) rfl)
theorem dX3_readComparison_1 : decode cX3_readComparison 1 = .ok (.iload_n 1, 1) := dk_27 (byr_X3_readComparison_0 (j := 1) rfl)
theorem dX3_readComparison_2 : decode cX3_readComparison 2 = .ok (.invokevirtual 68, 3) := dk_182 (byr_X3_readComparison_0 (j := 2) rfl) (byr_X3_readComparison_0 (j := 3) rfl) (byr_X3_readComparison_0 (j := 4) rfl) (by decide)
theorem dX3_readComparison_5 : decode cX3_readComparison 5 = .ok (.ifCond .ne 5, 3) := dk_154 (byr_X3_readComparison_0 (j := 5) rfl) (byr_X3_readComparison_0 (j := 6) rfl) (byr_X3_readComparison_0 (j := 7) rfl) (by decide)
theorem dX3_readComparison_8 : decode cX3_readComparison 8 = .ok (.iconst 0, 1) := dk_3 (byr_X3_readComparison_0 (j := 8) rfl)
theorem dX3_readComparison_9 : decode cX3_readComparison 9 = .ok (.ireturn, 1) := dk_172 (byr_X3_readComparison_0 (j := 9) rfl)
theorem dX3_readComparison_10 : decode cX3_readComparison 10 = .ok (.aload_n 0, 1) := dk_42 (byr_X3_readComparison_0 (j := 10) rfl)
theorem dX3_readComparison_11 : decode cX3_readComparison 11 = .ok (.invokevirtual 57, 3) := dk_182 (byr_X3_readComparison_0 (j := 11) rfl) (byr_X3_readComparison_0 (j := 12) rfl) (byr_X3_readComparison_0 (j := 13) rfl) (by decide)
theorem dX3_readComparison_14 : decode cX3_readComparison 14 = .ok (.istore_n 2, 1) := dk_61 (byr_X3_readComparison_0 (j := 14) rfl)
theorem dX3_readComparison_15 : decode cX3_readComparison 15 = .ok (.iload_n 2, 1) := dk_28 (byr_X3_readComparison_0 (j := 15) rfl)
theorem dX3_readComparison_16 : decode cX3_readComparison 16 = .ok (.bipush 60, 2) := dk_16 (byr_X3_readComparison_1 (j := 0) rfl) (byr_X3_readComparison_1 (j := 1) rfl) (by decide)
theorem dX3_readComparison_18 : decode cX3_readComparison 18 = .ok (.if_icmp .eq 15, 3) := dk_159 (byr_X3_readComparison_1 (j := 2) rfl) (byr_X3_readComparison_1 (j := 3) rfl) (byr_X3_readComparison_1 (j := 4) rfl) (by decide)
theorem dX3_readComparison_21 : decode cX3_readComparison 21 = .ok (.iload_n 2, 1) := dk_28 (byr_X3_readComparison_1 (j := 5) rfl)
theorem dX3_readComparison_22 : decode cX3_readComparison 22 = .ok (.bipush 61, 2) := dk_16 (byr_X3_readComparison_1 (j := 6) rfl) (byr_X3_readComparison_1 (j := 7) rfl) (by decide)
theorem dX3_readComparison_24 : decode cX3_readComparison 24 = .ok (.if_icmp .eq 9, 3) := dk_159 (byr_X3_readComparison_1 (j := 8) rfl) (byr_X3_readComparison_1 (j := 9) rfl) (byr_X3_readComparison_1 (j := 10) rfl) (by decide)
theorem dX3_readComparison_27 : decode cX3_readComparison 27 = .ok (.iload_n 2, 1) := dk_28 (byr_X3_readComparison_1 (j := 11) rfl)
theorem dX3_readComparison_28 : decode cX3_readComparison 28 = .ok (.bipush 62, 2) := dk_16 (byr_X3_readComparison_1 (j := 12) rfl) (byr_X3_readComparison_1 (j := 13) rfl) (by decide)
theorem dX3_readComparison_30 : decode cX3_readComparison 30 = .ok (.if_icmp .ne 29, 3) := dk_160 (byr_X3_readComparison_1 (j := 14) rfl) (byr_X3_readComparison_1 (j := 15) rfl) (byr_X3_readComparison_2 (j := 0) rfl) (by decide)
theorem dX3_readComparison_33 : decode cX3_readComparison 33 = .ok (.aload_n 0, 1) := dk_42 (byr_X3_readComparison_2 (j := 1) rfl)
theorem dX3_readComparison_34 : decode cX3_readComparison 34 = .ok (.dup, 1) := dk_89 (byr_X3_readComparison_2 (j := 2) rfl)
theorem dX3_readComparison_35 : decode cX3_readComparison 35 = .ok (.getfield 25, 3) := dk_180 (byr_X3_readComparison_2 (j := 3) rfl) (byr_X3_readComparison_2 (j := 4) rfl) (byr_X3_readComparison_2 (j := 5) rfl) (by decide)
theorem dX3_readComparison_38 : decode cX3_readComparison 38 = .ok (.iconst 1, 1) := dk_4 (byr_X3_readComparison_2 (j := 6) rfl)
theorem dX3_readComparison_39 : decode cX3_readComparison 39 = .ok (.iadd, 1) := dk_96 (byr_X3_readComparison_2 (j := 7) rfl)
theorem dX3_readComparison_40 : decode cX3_readComparison 40 = .ok (.putfield 25, 3) := dk_181 (byr_X3_readComparison_2 (j := 8) rfl) (byr_X3_readComparison_2 (j := 9) rfl) (byr_X3_readComparison_2 (j := 10) rfl) (by decide)
theorem dX3_readComparison_43 : decode cX3_readComparison 43 = .ok (.aload_n 0, 1) := dk_42 (byr_X3_readComparison_2 (j := 11) rfl)
theorem dX3_readComparison_44 : decode cX3_readComparison 44 = .ok (.iload_n 1, 1) := dk_27 (byr_X3_readComparison_2 (j := 12) rfl)
theorem dX3_readComparison_45 : decode cX3_readComparison 45 = .ok (.invokevirtual 68, 3) := dk_182 (byr_X3_readComparison_2 (j := 13) rfl) (byr_X3_readComparison_2 (j := 14) rfl) (byr_X3_readComparison_2 (j := 15) rfl) (by decide)
theorem dX3_readComparison_48 : decode cX3_readComparison 48 = .ok (.ifCond .ne 5, 3) := dk_154 (byr_X3_readComparison_3 (j := 0) rfl) (byr_X3_readComparison_3 (j := 1) rfl) (byr_X3_readComparison_3 (j := 2) rfl) (by decide)
theorem dX3_readComparison_51 : decode cX3_readComparison 51 = .ok (.iconst 0, 1) := dk_3 (byr_X3_readComparison_3 (j := 3) rfl)
theorem dX3_readComparison_52 : decode cX3_readComparison 52 = .ok (.ireturn, 1) := dk_172 (byr_X3_readComparison_3 (j := 4) rfl)
theorem dX3_readComparison_53 : decode cX3_readComparison 53 = .ok (.aload_n 0, 1) := dk_42 (byr_X3_readComparison_3 (j := 5) rfl)
theorem dX3_readComparison_54 : decode cX3_readComparison 54 = .ok (.iload_n 2, 1) := dk_28 (byr_X3_readComparison_3 (j := 6) rfl)
theorem dX3_readComparison_55 : decode cX3_readComparison 55 = .ok (.ineg, 1) := dk_116 (byr_X3_readComparison_3 (j := 7) rfl)
theorem dX3_readComparison_56 : decode cX3_readComparison 56 = .ok (.invokevirtual 61, 3) := dk_182 (byr_X3_readComparison_3 (j := 8) rfl) (byr_X3_readComparison_3 (j := 9) rfl) (byr_X3_readComparison_3 (j := 10) rfl) (by decide)
theorem dX3_readComparison_59 : decode cX3_readComparison 59 = .ok (.iconst 1, 1) := dk_4 (byr_X3_readComparison_3 (j := 11) rfl)
theorem dX3_readComparison_60 : decode cX3_readComparison 60 = .ok (.ireturn, 1) := dk_172 (byr_X3_readComparison_3 (j := 12) rfl)
def by_X3_readAll_0 : List Nat := [42, 27, 182, 0, 65, 154, 0, 5, 3, 172, 42, 180, 0, 25, 42, 180]
def by_X3_readAll_1 : List Nat := [0, 22, 162, 0, 41, 42, 182, 0, 57, 16, 38, 160, 0, 32, 42, 89]
def by_X3_readAll_2 : List Nat := [180, 0, 25, 4, 96, 181, 0, 25, 42, 27, 182, 0, 65, 154, 0, 5]
def by_X3_readAll_z : List Nat := [3, 172, 42, 16, 218, 182, 0, 61, 167, 255, 210, 4, 172]
def by_X3_readAll : List (List Nat) := [by_X3_readAll_0, by_X3_readAll_1, by_X3_readAll_2]
set_option maxRecDepth 100000 in
theorem byo_X3_readAll : cX3_readAll.data.toList.map UInt8.toNat = by_X3_readAll.flatten ++ by_X3_readAll_z := by decide +kernel
theorem byl_X3_readAll : by_X3_readAll.all (fun r => r.length == 16) = true := by decide +kernel
theorem byr_X3_readAll_0 {j v : Nat} (h : by_X3_readAll_0[j]? = some v) : RD cX3_readAll (0 + j) v := rd_16 byo_X3_readAll byl_X3_readAll 0 rfl h
theorem byr_X3_readAll_1 {j v : Nat} (h : by_X3_readAll_1[j]? = some v) : RD cX3_readAll (16 + j) v := rd_16 byo_X3_readAll byl_X3_readAll 1 rfl h
theorem byr_X3_readAll_2 {j v : Nat} (h : by_X3_readAll_2[j]? = some v) : RD cX3_readAll (32 + j) v := rd_16 byo_X3_readAll byl_X3_readAll 2 rfl h
theorem byr_X3_readAll_3 {j v : Nat} (h : by_X3_readAll_z[j]? = some v) : RD cX3_readAll (48 + j) v := rd_z byo_X3_readAll byl_X3_readAll 3 rfl h
theorem dX3_readAll_0 : decode cX3_readAll 0 = .ok (.aload_n 0, 1) := dk_42 (byr_X3_readAll_0 (j := 0) rfl)
theorem dX3_readAll_1 : decode cX3_readAll 1 = .ok (.iload_n 1, 1) := dk_27 (byr_X3_readAll_0 (j := 1) rfl)
theorem dX3_readAll_2 : decode cX3_readAll 2 = .ok (.invokevirtual 65, 3) := dk_182 (byr_X3_readAll_0 (j := 2) rfl) (byr_X3_readAll_0 (j := 3) rfl) (byr_X3_readAll_0 (j := 4) rfl) (by decide)
theorem dX3_readAll_5 : decode cX3_readAll 5 = .ok (.ifCond .ne 5, 3) := dk_154 (byr_X3_readAll_0 (j := 5) rfl) (byr_X3_readAll_0 (j := 6) rfl) (byr_X3_readAll_0 (j := 7) rfl) (by decide)
theorem dX3_readAll_8 : decode cX3_readAll 8 = .ok (.iconst 0, 1) := dk_3 (byr_X3_readAll_0 (j := 8) rfl)
theorem dX3_readAll_9 : decode cX3_readAll 9 = .ok (.ireturn, 1) := dk_172 (byr_X3_readAll_0 (j := 9) rfl)
theorem dX3_readAll_10 : decode cX3_readAll 10 = .ok (.aload_n 0, 1) := dk_42 (byr_X3_readAll_0 (j := 10) rfl)
theorem dX3_readAll_11 : decode cX3_readAll 11 = .ok (.getfield 25, 3) := dk_180 (byr_X3_readAll_0 (j := 11) rfl) (byr_X3_readAll_0 (j := 12) rfl) (byr_X3_readAll_0 (j := 13) rfl) (by decide)
theorem dX3_readAll_14 : decode cX3_readAll 14 = .ok (.aload_n 0, 1) := dk_42 (byr_X3_readAll_0 (j := 14) rfl)
theorem dX3_readAll_15 : decode cX3_readAll 15 = .ok (.getfield 22, 3) := dk_180 (byr_X3_readAll_0 (j := 15) rfl) (byr_X3_readAll_1 (j := 0) rfl) (byr_X3_readAll_1 (j := 1) rfl) (by decide)
theorem dX3_readAll_18 : decode cX3_readAll 18 = .ok (.if_icmp .ge 41, 3) := dk_162 (byr_X3_readAll_1 (j := 2) rfl) (byr_X3_readAll_1 (j := 3) rfl) (byr_X3_readAll_1 (j := 4) rfl) (by decide)
theorem dX3_readAll_21 : decode cX3_readAll 21 = .ok (.aload_n 0, 1) := dk_42 (byr_X3_readAll_1 (j := 5) rfl)
theorem dX3_readAll_22 : decode cX3_readAll 22 = .ok (.invokevirtual 57, 3) := dk_182 (byr_X3_readAll_1 (j := 6) rfl) (byr_X3_readAll_1 (j := 7) rfl) (byr_X3_readAll_1 (j := 8) rfl) (by decide)
theorem dX3_readAll_25 : decode cX3_readAll 25 = .ok (.bipush 38, 2) := dk_16 (byr_X3_readAll_1 (j := 9) rfl) (byr_X3_readAll_1 (j := 10) rfl) (by decide)
theorem dX3_readAll_27 : decode cX3_readAll 27 = .ok (.if_icmp .ne 32, 3) := dk_160 (byr_X3_readAll_1 (j := 11) rfl) (byr_X3_readAll_1 (j := 12) rfl) (byr_X3_readAll_1 (j := 13) rfl) (by decide)
theorem dX3_readAll_30 : decode cX3_readAll 30 = .ok (.aload_n 0, 1) := dk_42 (byr_X3_readAll_1 (j := 14) rfl)
theorem dX3_readAll_31 : decode cX3_readAll 31 = .ok (.dup, 1) := dk_89 (byr_X3_readAll_1 (j := 15) rfl)
theorem dX3_readAll_32 : decode cX3_readAll 32 = .ok (.getfield 25, 3) := dk_180 (byr_X3_readAll_2 (j := 0) rfl) (byr_X3_readAll_2 (j := 1) rfl) (byr_X3_readAll_2 (j := 2) rfl) (by decide)
theorem dX3_readAll_35 : decode cX3_readAll 35 = .ok (.iconst 1, 1) := dk_4 (byr_X3_readAll_2 (j := 3) rfl)
theorem dX3_readAll_36 : decode cX3_readAll 36 = .ok (.iadd, 1) := dk_96 (byr_X3_readAll_2 (j := 4) rfl)
theorem dX3_readAll_37 : decode cX3_readAll 37 = .ok (.putfield 25, 3) := dk_181 (byr_X3_readAll_2 (j := 5) rfl) (byr_X3_readAll_2 (j := 6) rfl) (byr_X3_readAll_2 (j := 7) rfl) (by decide)
theorem dX3_readAll_40 : decode cX3_readAll 40 = .ok (.aload_n 0, 1) := dk_42 (byr_X3_readAll_2 (j := 8) rfl)
theorem dX3_readAll_41 : decode cX3_readAll 41 = .ok (.iload_n 1, 1) := dk_27 (byr_X3_readAll_2 (j := 9) rfl)
theorem dX3_readAll_42 : decode cX3_readAll 42 = .ok (.invokevirtual 65, 3) := dk_182 (byr_X3_readAll_2 (j := 10) rfl) (byr_X3_readAll_2 (j := 11) rfl) (byr_X3_readAll_2 (j := 12) rfl) (by decide)
theorem dX3_readAll_45 : decode cX3_readAll 45 = .ok (.ifCond .ne 5, 3) := dk_154 (byr_X3_readAll_2 (j := 13) rfl) (byr_X3_readAll_2 (j := 14) rfl) (byr_X3_readAll_2 (j := 15) rfl) (by decide)
theorem dX3_readAll_48 : decode cX3_readAll 48 = .ok (.iconst 0, 1) := dk_3 (byr_X3_readAll_3 (j := 0) rfl)
theorem dX3_readAll_49 : decode cX3_readAll 49 = .ok (.ireturn, 1) := dk_172 (byr_X3_readAll_3 (j := 1) rfl)
theorem dX3_readAll_50 : decode cX3_readAll 50 = .ok (.aload_n 0, 1) := dk_42 (byr_X3_readAll_3 (j := 2) rfl)
theorem dX3_readAll_51 : decode cX3_readAll 51 = .ok (.bipush (-38), 2) := dk_16 (byr_X3_readAll_3 (j := 3) rfl) (byr_X3_readAll_3 (j := 4) rfl) (by decide)
theorem dX3_readAll_53 : decode cX3_readAll 53 = .ok (.invokevirtual 61, 3) := dk_182 (byr_X3_readAll_3 (j := 5) rfl) (byr_X3_readAll_3 (j := 6) rfl) (byr_X3_readAll_3 (j := 7) rfl) (by decide)
theorem dX3_readAll_56 : decode cX3_readAll 56 = .ok (.goto (-46), 3) := dk_167 (byr_X3_readAll_3 (j := 8) rfl) (byr_X3_readAll_3 (j := 9) rfl) (byr_X3_readAll_3 (j := 10) rfl) (by decide)
theorem dX3_readAll_59 : decode cX3_readAll 59 = .ok (.iconst 1, 1) := dk_4 (byr_X3_readAll_3 (j := 11) rfl)
theorem dX3_readAll_60 : decode cX3_readAll 60 = .ok (.ireturn, 1) := dk_172 (byr_X3_readAll_3 (j := 12) rfl)
def by_X3_readAny_0 : List Nat := [42, 27, 182, 0, 54, 154, 0, 5, 3, 172, 42, 180, 0, 25, 42, 180]
def by_X3_readAny_1 : List Nat := [0, 22, 162, 0, 41, 42, 182, 0, 57, 16, 124, 160, 0, 32, 42, 89]
def by_X3_readAny_2 : List Nat := [180, 0, 25, 4, 96, 181, 0, 25, 42, 27, 182, 0, 54, 154, 0, 5]
def by_X3_readAny_z : List Nat := [3, 172, 42, 16, 132, 182, 0, 61, 167, 255, 210, 4, 172]
def by_X3_readAny : List (List Nat) := [by_X3_readAny_0, by_X3_readAny_1, by_X3_readAny_2]
set_option maxRecDepth 100000 in
theorem byo_X3_readAny : cX3_readAny.data.toList.map UInt8.toNat = by_X3_readAny.flatten ++ by_X3_readAny_z := by decide +kernel
theorem byl_X3_readAny : by_X3_readAny.all (fun r => r.length == 16) = true := by decide +kernel
theorem byr_X3_readAny_0 {j v : Nat} (h : by_X3_readAny_0[j]? = some v) : RD cX3_readAny (0 + j) v := rd_16 byo_X3_readAny byl_X3_readAny 0 rfl h
theorem byr_X3_readAny_1 {j v : Nat} (h : by_X3_readAny_1[j]? = some v) : RD cX3_readAny (16 + j) v := rd_16 byo_X3_readAny byl_X3_readAny 1 rfl h
theorem byr_X3_readAny_2 {j v : Nat} (h : by_X3_readAny_2[j]? = some v) : RD cX3_readAny (32 + j) v := rd_16 byo_X3_readAny byl_X3_readAny 2 rfl h
theorem byr_X3_readAny_3 {j v : Nat} (h : by_X3_readAny_z[j]? = some v) : RD cX3_readAny (48 + j) v := rd_z byo_X3_readAny byl_X3_readAny 3 rfl h
theorem dX3_readAny_0 : decode cX3_readAny 0 = .ok (.aload_n 0, 1) := dk_42 (byr_X3_readAny_0 (j := 0) rfl)
theorem dX3_readAny_1 : decode cX3_readAny 1 = .ok (.iload_n 1, 1) := dk_27 (byr_X3_readAny_0 (j := 1) rfl)
theorem dX3_readAny_2 : decode cX3_readAny 2 = .ok (.invokevirtual 54, 3) := dk_182 (byr_X3_readAny_0 (j := 2) rfl) (byr_X3_readAny_0 (j := 3) rfl) (byr_X3_readAny_0 (j := 4) rfl) (by decide)
theorem dX3_readAny_5 : decode cX3_readAny 5 = .ok (.ifCond .ne 5, 3) := dk_154 (byr_X3_readAny_0 (j := 5) rfl) (byr_X3_readAny_0 (j := 6) rfl) (byr_X3_readAny_0 (j := 7) rfl) (by decide)
theorem dX3_readAny_8 : decode cX3_readAny 8 = .ok (.iconst 0, 1) := dk_3 (byr_X3_readAny_0 (j := 8) rfl)
theorem dX3_readAny_9 : decode cX3_readAny 9 = .ok (.ireturn, 1) := dk_172 (byr_X3_readAny_0 (j := 9) rfl)
theorem dX3_readAny_10 : decode cX3_readAny 10 = .ok (.aload_n 0, 1) := dk_42 (byr_X3_readAny_0 (j := 10) rfl)
theorem dX3_readAny_11 : decode cX3_readAny 11 = .ok (.getfield 25, 3) := dk_180 (byr_X3_readAny_0 (j := 11) rfl) (byr_X3_readAny_0 (j := 12) rfl) (byr_X3_readAny_0 (j := 13) rfl) (by decide)
theorem dX3_readAny_14 : decode cX3_readAny 14 = .ok (.aload_n 0, 1) := dk_42 (byr_X3_readAny_0 (j := 14) rfl)
theorem dX3_readAny_15 : decode cX3_readAny 15 = .ok (.getfield 22, 3) := dk_180 (byr_X3_readAny_0 (j := 15) rfl) (byr_X3_readAny_1 (j := 0) rfl) (byr_X3_readAny_1 (j := 1) rfl) (by decide)
theorem dX3_readAny_18 : decode cX3_readAny 18 = .ok (.if_icmp .ge 41, 3) := dk_162 (byr_X3_readAny_1 (j := 2) rfl) (byr_X3_readAny_1 (j := 3) rfl) (byr_X3_readAny_1 (j := 4) rfl) (by decide)
theorem dX3_readAny_21 : decode cX3_readAny 21 = .ok (.aload_n 0, 1) := dk_42 (byr_X3_readAny_1 (j := 5) rfl)
theorem dX3_readAny_22 : decode cX3_readAny 22 = .ok (.invokevirtual 57, 3) := dk_182 (byr_X3_readAny_1 (j := 6) rfl) (byr_X3_readAny_1 (j := 7) rfl) (byr_X3_readAny_1 (j := 8) rfl) (by decide)
theorem dX3_readAny_25 : decode cX3_readAny 25 = .ok (.bipush 124, 2) := dk_16 (byr_X3_readAny_1 (j := 9) rfl) (byr_X3_readAny_1 (j := 10) rfl) (by decide)
theorem dX3_readAny_27 : decode cX3_readAny 27 = .ok (.if_icmp .ne 32, 3) := dk_160 (byr_X3_readAny_1 (j := 11) rfl) (byr_X3_readAny_1 (j := 12) rfl) (byr_X3_readAny_1 (j := 13) rfl) (by decide)
theorem dX3_readAny_30 : decode cX3_readAny 30 = .ok (.aload_n 0, 1) := dk_42 (byr_X3_readAny_1 (j := 14) rfl)
theorem dX3_readAny_31 : decode cX3_readAny 31 = .ok (.dup, 1) := dk_89 (byr_X3_readAny_1 (j := 15) rfl)
theorem dX3_readAny_32 : decode cX3_readAny 32 = .ok (.getfield 25, 3) := dk_180 (byr_X3_readAny_2 (j := 0) rfl) (byr_X3_readAny_2 (j := 1) rfl) (byr_X3_readAny_2 (j := 2) rfl) (by decide)
theorem dX3_readAny_35 : decode cX3_readAny 35 = .ok (.iconst 1, 1) := dk_4 (byr_X3_readAny_2 (j := 3) rfl)
theorem dX3_readAny_36 : decode cX3_readAny 36 = .ok (.iadd, 1) := dk_96 (byr_X3_readAny_2 (j := 4) rfl)
theorem dX3_readAny_37 : decode cX3_readAny 37 = .ok (.putfield 25, 3) := dk_181 (byr_X3_readAny_2 (j := 5) rfl) (byr_X3_readAny_2 (j := 6) rfl) (byr_X3_readAny_2 (j := 7) rfl) (by decide)
theorem dX3_readAny_40 : decode cX3_readAny 40 = .ok (.aload_n 0, 1) := dk_42 (byr_X3_readAny_2 (j := 8) rfl)
theorem dX3_readAny_41 : decode cX3_readAny 41 = .ok (.iload_n 1, 1) := dk_27 (byr_X3_readAny_2 (j := 9) rfl)
theorem dX3_readAny_42 : decode cX3_readAny 42 = .ok (.invokevirtual 54, 3) := dk_182 (byr_X3_readAny_2 (j := 10) rfl) (byr_X3_readAny_2 (j := 11) rfl) (byr_X3_readAny_2 (j := 12) rfl) (by decide)
theorem dX3_readAny_45 : decode cX3_readAny 45 = .ok (.ifCond .ne 5, 3) := dk_154 (byr_X3_readAny_2 (j := 13) rfl) (byr_X3_readAny_2 (j := 14) rfl) (byr_X3_readAny_2 (j := 15) rfl) (by decide)
theorem dX3_readAny_48 : decode cX3_readAny 48 = .ok (.iconst 0, 1) := dk_3 (byr_X3_readAny_3 (j := 0) rfl)
theorem dX3_readAny_49 : decode cX3_readAny 49 = .ok (.ireturn, 1) := dk_172 (byr_X3_readAny_3 (j := 1) rfl)
theorem dX3_readAny_50 : decode cX3_readAny 50 = .ok (.aload_n 0, 1) := dk_42 (byr_X3_readAny_3 (j := 2) rfl)
theorem dX3_readAny_51 : decode cX3_readAny 51 = .ok (.bipush (-124), 2) := dk_16 (byr_X3_readAny_3 (j := 3) rfl) (byr_X3_readAny_3 (j := 4) rfl) (by decide)
theorem dX3_readAny_53 : decode cX3_readAny 53 = .ok (.invokevirtual 61, 3) := dk_182 (byr_X3_readAny_3 (j := 5) rfl) (byr_X3_readAny_3 (j := 6) rfl) (byr_X3_readAny_3 (j := 7) rfl) (by decide)
theorem dX3_readAny_56 : decode cX3_readAny 56 = .ok (.goto (-46), 3) := dk_167 (byr_X3_readAny_3 (j := 8) rfl) (byr_X3_readAny_3 (j := 9) rfl) (byr_X3_readAny_3 (j := 10) rfl) (by decide)
theorem dX3_readAny_59 : decode cX3_readAny 59 = .ok (.iconst 1, 1) := dk_4 (byr_X3_readAny_3 (j := 11) rfl)
theorem dX3_readAny_60 : decode cX3_readAny 60 = .ok (.ireturn, 1) := dk_172 (byr_X3_readAny_3 (j := 12) rfl)
set_option maxHeartbeats 4000000 in
set_option maxRecDepth 100000 in
theorem cg_X3_readAll (l : Launch) (G : GT) : ∀ d, (∀ (σ : Sto) (a1 : Int32) (r : (Bool × Sto)) (_ : g_X3_readAll d 0 a1 σ = some r), MW l G (10 + d) (485 + 64 * d) 0 0 yX3_readAll cX3_readAll 2 (Option.some Jvm.ClassFile.FieldType.boolean) [.ref (gad G 55), .int a1] (wl G σ) (some (.int (b2i r.1))) (wl G r.2)) ∧ (∀ (σ : Sto) (a1 : Int32) (r : (Bool × Sto)) (_ : g_X3_readAll d 1 a1 σ = some r), MW l G (10 + d) (485 + 64 * d) 0 0 yX3_readAny cX3_readAny 2 (Option.some Jvm.ClassFile.FieldType.boolean) [.ref (gad G 55), .int a1] (wl G σ) (some (.int (b2i r.1))) (wl G r.2)) ∧ (∀ (σ : Sto) (a1 : Int32) (r : (Bool × Sto)) (_ : g_X3_readAll d 2 a1 σ = some r), MW l G (10 + d) (485 + 64 * d) 0 0 yX3_readBracket cX3_readBracket 2 (Option.some Jvm.ClassFile.FieldType.boolean) [.ref (gad G 55), .int a1] (wl G σ) (some (.int (b2i r.1))) (wl G r.2)) ∧ (∀ (σ : Sto) (a1 : Int32) (r : (Bool × Sto)) (_ : g_X3_readAll d 3 a1 σ = some r), MW l G (10 + d) (485 + 64 * d) 0 0 yX3_readComparison cX3_readComparison 3 (Option.some Jvm.ClassFile.FieldType.boolean) [.ref (gad G 55), .int a1] (wl G σ) (some (.int (b2i r.1))) (wl G r.2)) ∧ (∀ (σ : Sto) (a1 : Int32) (r : (Bool × Sto)) (_ : g_X3_readAll d 4 a1 σ = some r), MW l G (10 + d) (485 + 64 * d) 0 0 yX3_readNot cX3_readNot 2 (Option.some Jvm.ClassFile.FieldType.boolean) [.ref (gad G 55), .int a1] (wl G σ) (some (.int (b2i r.1))) (wl G r.2)) ∧ (∀ (σ : Sto) (a1 : Int32) (r : (Bool × Sto)) (_ : g_X3_readAll d 5 a1 σ = some r), MW l G (10 + d) (485 + 64 * d) 0 0 yX3_readPart cX3_readPart 4 (Option.some Jvm.ClassFile.FieldType.boolean) [.ref (gad G 55), .int a1] (wl G σ) (some (.int (b2i r.1))) (wl G r.2)) ∧ (∀ (σ : Sto) (a1 : Int32) (r : (Bool × Sto)) (_ : g_X3_readAll d 6 a1 σ = some r), MW l G (10 + d) (485 + 64 * d) 0 0 yX3_readProduct cX3_readProduct 3 (Option.some Jvm.ClassFile.FieldType.boolean) [.ref (gad G 55), .int a1] (wl G σ) (some (.int (b2i r.1))) (wl G r.2)) ∧ (∀ (σ : Sto) (a1 : Int32) (r : (Bool × Sto)) (_ : g_X3_readAll d 7 a1 σ = some r), MW l G (10 + d) (485 + 64 * d) 0 0 yX3_readSum cX3_readSum 3 (Option.some Jvm.ClassFile.FieldType.boolean) [.ref (gad G 55), .int a1] (wl G σ) (some (.int (b2i r.1))) (wl G r.2)) := by
  intro d
  induction d with
  | zero => exact ⟨(fun _ _ _ => by intro h; cases h), (fun _ _ _ => by intro h; cases h), (fun _ _ _ => by intro h; cases h), (fun _ _ _ => by intro h; cases h), (fun _ _ _ => by intro h; cases h), (fun _ _ _ => by intro h; cases h), (fun _ _ _ => by intro h; cases h), (fun _ _ _ => by intro h; cases h)⟩
  | succ d ih =>
    refine ⟨?_, ?_, ?_, ?_, ?_, ?_, ?_, ?_⟩
    · intro σ a1 r h
      rw [g_X3_readAll] at h
      refine mw_of RX3 (fiZ G) [(0, .ref (gad G 55)), (1, .int a1)] (by decide +kernel) rfl (Nat.le_of_ble_eq_true rfl) rfl h rfl (fun p e s m args below meth c X hr hnm => ?_)
      have J10 : ∀ (v1 : Int32)  (n : Nat)  (σ : Sto), Sm p l e { frames := 10 + (d + 1), cells := 0, slots := 0, locals := 485 + 64 * (d + 1) } s m args below meth c G 2 (Qm below args s G 0 0 (fiZ G)) 0 0 (wl G σ) 10 [(0, .ref (gad G 55)), (1, .int v1)] [] (f_X3_readAll_L10 (g_X3_readAll d)  v1 n σ) := by
        intro v1 n
        induction n with
        | zero => intro σ; rw [f_X3_readAll_L10]; exact sm_none
        | succ n ihl =>
          intro σ
          rw [f_X3_readAll_L10]
          refine sm_aload_n X 11 0 dX3_readAll_10 rfl rfl rfl ?_
          refine sm_geti X 14 rfl fd_3_4 dX3_readAll_11 rfl q_164 ?_
          refine sm_aload_n X 15 0 dX3_readAll_14 rfl rfl rfl ?_
          refine sm_geti X 18 rfl fd_3_3 dX3_readAll_15 rfl q_163 ?_
          refine sm_icmp_ge X 21 59 dX3_readAll_18 rfl (by decide) (fun h18 => ?_) (fun h18 => ?_)
          · refine sm_iconst X 60 (1) dX3_readAll_59 rfl rfl ?_
            exact sm_zret X (v := true) hr dX3_readAll_60 rfl
          · refine sm_aload_n X 22 0 dX3_readAll_21 rfl rfl rfl ?_
            refine sm_bind (fun r22 h22 => ?_)
            refine sm_callV0 X 25 [] [] [.int r22] (c_X3_next l G σ  r22 h22) cw_X3_next q_485 qs_9 q_483 rfl (by decide) rfl rfl rfl rfl rfl (Nat.le_of_ble_eq_true rfl) ⟨by show _ + 1 ≤ _ + (_ + 1); omega, by show _ ≤ _ + 64 * (_ + 1); omega⟩ ⟨Nat.le_refl _, Nat.le_refl _⟩ dX3_readAll_22 rfl ?_
            refine sm_bipush X 27 (38) dX3_readAll_25 rfl rfl ?_
            refine sm_icmp_ne X 30 59 dX3_readAll_27 rfl (by decide) (fun h27 => ?_) (fun h27 => ?_)
            · refine sm_aload_n X 31 0 dX3_readAll_30 rfl rfl rfl ?_
              refine sm_dup X 32 dX3_readAll_31 rfl rfl ?_
              refine sm_geti X 35 rfl fd_3_4 dX3_readAll_32 rfl q_164 ?_
              refine sm_iconst X 36 (1) dX3_readAll_35 rfl rfl ?_
              refine sm_iadd X 37 dX3_readAll_36 rfl ?_
              refine sm_puti X 40 .int rfl fd_3_4 (by decide) rfl rfl rfl dX3_readAll_37 rfl q_164 (fun σ37 e37 => ?_)
              clear e37
              refine sm_aload_n X 41 0 dX3_readAll_40 rfl rfl rfl ?_
              refine sm_iload_n X 42 1 dX3_readAll_41 rfl rfl rfl ?_
              refine sm_bind (fun r42 h42 => ?_)
              refine sm_callV0 X 45 [.int v1] [] [.int (b2i r42.1)] (ih.2.2.2.1 σ37 v1 r42 h42) cw_X3_readComparison q_469 qs_5 q_467 rfl (by decide) rfl rfl rfl rfl rfl (Nat.le_of_ble_eq_true rfl) ⟨by show _ + _ + 1 ≤ _ + (_ + 1); omega, by show _ + (_ + 64 * _) ≤ _ + 64 * (_ + 1); omega⟩ ⟨Nat.le_refl _, Nat.le_refl _⟩ dX3_readAll_42 rfl ?_
              refine sm_ifz_ne X 48 50 dX3_readAll_45 rfl (by decide) (fun h45 => ?_) (fun h45 => ?_)
              · refine sm_aload_n X 51 0 dX3_readAll_50 rfl rfl rfl ?_
                refine sm_bipush X 53 (-38) dX3_readAll_51 rfl rfl ?_
                refine sm_bind (fun r53 h53 => ?_)
                refine sm_callV0 X 56 [.int (-38)] [] [] (c_X3_add l G r42.2 (-38 : Int32) r53 h53) cw_X3_add q_496 qs_11 q_494 rfl (by decide) rfl rfl rfl rfl rfl (Nat.le_of_ble_eq_true rfl) ⟨by show _ + 1 ≤ _ + (_ + 1); omega, by show _ ≤ _ + 64 * (_ + 1); omega⟩ ⟨Nat.le_refl _, Nat.le_refl _⟩ dX3_readAll_53 rfl ?_
                refine sm_goto X 10 dX3_readAll_56 (by decide) ?_
                exact sm_sub [0, 1] rfl (ihl r53)
              · refine sm_iconst X 49 (0) dX3_readAll_48 rfl rfl ?_
                exact sm_zret X (v := false) hr dX3_readAll_49 rfl
            · refine sm_iconst X 60 (1) dX3_readAll_59 rfl rfl ?_
              exact sm_zret X (v := true) hr dX3_readAll_60 rfl
      unfold b_X3_readAll
      refine sm_aload_n X 1 0 dX3_readAll_0 rfl rfl rfl ?_
      refine sm_iload_n X 2 1 dX3_readAll_1 rfl rfl rfl ?_
      refine sm_bind (fun r2 h2 => ?_)
      refine sm_callV0 X 5 [.int a1] [] [.int (b2i r2.1)] (ih.2.2.2.1 σ a1 r2 h2) cw_X3_readComparison q_469 qs_5 q_467 rfl (by decide) rfl rfl rfl rfl rfl (Nat.le_of_ble_eq_true rfl) ⟨by show _ + _ + 1 ≤ _ + (_ + 1); omega, by show _ + (_ + 64 * _) ≤ _ + 64 * (_ + 1); omega⟩ ⟨Nat.le_refl _, Nat.le_refl _⟩ dX3_readAll_2 rfl ?_
      refine sm_ifz_ne X 8 10 dX3_readAll_5 rfl (by decide) (fun h5 => ?_) (fun h5 => ?_)
      · exact sm_sub [0, 1] rfl (J10 a1  FU r2.2)
      · refine sm_iconst X 9 (0) dX3_readAll_8 rfl rfl ?_
        exact sm_zret X (v := false) hr dX3_readAll_9 rfl
    · intro σ a1 r h
      rw [g_X3_readAll] at h
      refine mw_of RX3 (fiZ G) [(0, .ref (gad G 55)), (1, .int a1)] (by decide +kernel) rfl (Nat.le_of_ble_eq_true rfl) rfl h rfl (fun p e s m args below meth c X hr hnm => ?_)
      have J10 : ∀ (v1 : Int32)  (n : Nat)  (σ : Sto), Sm p l e { frames := 10 + (d + 1), cells := 0, slots := 0, locals := 485 + 64 * (d + 1) } s m args below meth c G 2 (Qm below args s G 0 0 (fiZ G)) 0 0 (wl G σ) 10 [(0, .ref (gad G 55)), (1, .int v1)] [] (f_X3_readAny_L10 (g_X3_readAll d)  v1 n σ) := by
        intro v1 n
        induction n with
        | zero => intro σ; rw [f_X3_readAny_L10]; exact sm_none
        | succ n ihl =>
          intro σ
          rw [f_X3_readAny_L10]
          refine sm_aload_n X 11 0 dX3_readAny_10 rfl rfl rfl ?_
          refine sm_geti X 14 rfl fd_3_4 dX3_readAny_11 rfl q_164 ?_
          refine sm_aload_n X 15 0 dX3_readAny_14 rfl rfl rfl ?_
          refine sm_geti X 18 rfl fd_3_3 dX3_readAny_15 rfl q_163 ?_
          refine sm_icmp_ge X 21 59 dX3_readAny_18 rfl (by decide) (fun h18 => ?_) (fun h18 => ?_)
          · refine sm_iconst X 60 (1) dX3_readAny_59 rfl rfl ?_
            exact sm_zret X (v := true) hr dX3_readAny_60 rfl
          · refine sm_aload_n X 22 0 dX3_readAny_21 rfl rfl rfl ?_
            refine sm_bind (fun r22 h22 => ?_)
            refine sm_callV0 X 25 [] [] [.int r22] (c_X3_next l G σ  r22 h22) cw_X3_next q_485 qs_9 q_483 rfl (by decide) rfl rfl rfl rfl rfl (Nat.le_of_ble_eq_true rfl) ⟨by show _ + 1 ≤ _ + (_ + 1); omega, by show _ ≤ _ + 64 * (_ + 1); omega⟩ ⟨Nat.le_refl _, Nat.le_refl _⟩ dX3_readAny_22 rfl ?_
            refine sm_bipush X 27 (124) dX3_readAny_25 rfl rfl ?_
            refine sm_icmp_ne X 30 59 dX3_readAny_27 rfl (by decide) (fun h27 => ?_) (fun h27 => ?_)
            · refine sm_aload_n X 31 0 dX3_readAny_30 rfl rfl rfl ?_
              refine sm_dup X 32 dX3_readAny_31 rfl rfl ?_
              refine sm_geti X 35 rfl fd_3_4 dX3_readAny_32 rfl q_164 ?_
              refine sm_iconst X 36 (1) dX3_readAny_35 rfl rfl ?_
              refine sm_iadd X 37 dX3_readAny_36 rfl ?_
              refine sm_puti X 40 .int rfl fd_3_4 (by decide) rfl rfl rfl dX3_readAny_37 rfl q_164 (fun σ37 e37 => ?_)
              clear e37
              refine sm_aload_n X 41 0 dX3_readAny_40 rfl rfl rfl ?_
              refine sm_iload_n X 42 1 dX3_readAny_41 rfl rfl rfl ?_
              refine sm_bind (fun r42 h42 => ?_)
              refine sm_callV0 X 45 [.int v1] [] [.int (b2i r42.1)] (ih.1 σ37 v1 r42 h42) cw_X3_readAll q_465 qs_4 q_463 rfl (by decide) rfl rfl rfl rfl rfl (Nat.le_of_ble_eq_true rfl) ⟨by show _ + _ + 1 ≤ _ + (_ + 1); omega, by show _ + (_ + 64 * _) ≤ _ + 64 * (_ + 1); omega⟩ ⟨Nat.le_refl _, Nat.le_refl _⟩ dX3_readAny_42 rfl ?_
              refine sm_ifz_ne X 48 50 dX3_readAny_45 rfl (by decide) (fun h45 => ?_) (fun h45 => ?_)
              · refine sm_aload_n X 51 0 dX3_readAny_50 rfl rfl rfl ?_
                refine sm_bipush X 53 (-124) dX3_readAny_51 rfl rfl ?_
                refine sm_bind (fun r53 h53 => ?_)
                refine sm_callV0 X 56 [.int (-124)] [] [] (c_X3_add l G r42.2 (-124 : Int32) r53 h53) cw_X3_add q_496 qs_11 q_494 rfl (by decide) rfl rfl rfl rfl rfl (Nat.le_of_ble_eq_true rfl) ⟨by show _ + 1 ≤ _ + (_ + 1); omega, by show _ ≤ _ + 64 * (_ + 1); omega⟩ ⟨Nat.le_refl _, Nat.le_refl _⟩ dX3_readAny_53 rfl ?_
                refine sm_goto X 10 dX3_readAny_56 (by decide) ?_
                exact sm_sub [0, 1] rfl (ihl r53)
              · refine sm_iconst X 49 (0) dX3_readAny_48 rfl rfl ?_
                exact sm_zret X (v := false) hr dX3_readAny_49 rfl
            · refine sm_iconst X 60 (1) dX3_readAny_59 rfl rfl ?_
              exact sm_zret X (v := true) hr dX3_readAny_60 rfl
      unfold b_X3_readAny
      refine sm_aload_n X 1 0 dX3_readAny_0 rfl rfl rfl ?_
      refine sm_iload_n X 2 1 dX3_readAny_1 rfl rfl rfl ?_
      refine sm_bind (fun r2 h2 => ?_)
      refine sm_callV0 X 5 [.int a1] [] [.int (b2i r2.1)] (ih.1 σ a1 r2 h2) cw_X3_readAll q_465 qs_4 q_463 rfl (by decide) rfl rfl rfl rfl rfl (Nat.le_of_ble_eq_true rfl) ⟨by show _ + _ + 1 ≤ _ + (_ + 1); omega, by show _ + (_ + 64 * _) ≤ _ + 64 * (_ + 1); omega⟩ ⟨Nat.le_refl _, Nat.le_refl _⟩ dX3_readAny_2 rfl ?_
      refine sm_ifz_ne X 8 10 dX3_readAny_5 rfl (by decide) (fun h5 => ?_) (fun h5 => ?_)
      · exact sm_sub [0, 1] rfl (J10 a1  FU r2.2)
      · refine sm_iconst X 9 (0) dX3_readAny_8 rfl rfl ?_
        exact sm_zret X (v := false) hr dX3_readAny_9 rfl
    · intro σ a1 r h
      rw [g_X3_readAll] at h
      refine mw_of RX3 (fiZ G) [(0, .ref (gad G 55)), (1, .int a1)] (by decide +kernel) rfl (Nat.le_of_ble_eq_true rfl) rfl h rfl (fun p e s m args below meth c X hr hnm => ?_)
      unfold b_X3_readBracket
      refine sm_aload_n X 1 0 dX3_readBracket_0 rfl rfl rfl ?_
      refine sm_iload_n X 2 1 dX3_readBracket_1 rfl rfl rfl ?_
      refine sm_bind (fun r2 h2 => ?_)
      refine sm_callV0 X 5 [.int a1] [] [.int (b2i r2.1)] (ih.2.1 σ a1 r2 h2) cw_X3_readAny q_461 qs_3 q_459 rfl (by decide) rfl rfl rfl rfl rfl (Nat.le_of_ble_eq_true rfl) ⟨by show _ + _ + 1 ≤ _ + (_ + 1); omega, by show _ + (_ + 64 * _) ≤ _ + 64 * (_ + 1); omega⟩ ⟨Nat.le_refl _, Nat.le_refl _⟩ dX3_readBracket_2 rfl ?_
      refine sm_ifz_eq X 8 17 dX3_readBracket_5 rfl (by decide) (fun h5 => ?_) (fun h5 => ?_)
      · refine sm_aload_n X 9 0 dX3_readBracket_8 rfl rfl rfl ?_
        refine sm_bind (fun r9 h9 => ?_)
        refine sm_callV0 X 12 [] [] [.int r9] (c_X3_next l G r2.2  r9 h9) cw_X3_next q_485 qs_9 q_483 rfl (by decide) rfl rfl rfl rfl rfl (Nat.le_of_ble_eq_true rfl) ⟨by show _ + 1 ≤ _ + (_ + 1); omega, by show _ ≤ _ + 64 * (_ + 1); omega⟩ ⟨Nat.le_refl _, Nat.le_refl _⟩ dX3_readBracket_9 rfl ?_
        refine sm_bipush X 14 (41) dX3_readBracket_12 rfl rfl ?_
        refine sm_icmp_eq X 17 19 dX3_readBracket_14 rfl (by decide) (fun h14 => ?_) (fun h14 => ?_)
        · refine sm_aload_n X 20 0 dX3_readBracket_19 rfl rfl rfl ?_
          refine sm_dup X 21 dX3_readBracket_20 rfl rfl ?_
          refine sm_geti X 24 rfl fd_3_4 dX3_readBracket_21 rfl q_164 ?_
          refine sm_iconst X 25 (1) dX3_readBracket_24 rfl rfl ?_
          refine sm_iadd X 26 dX3_readBracket_25 rfl ?_
          refine sm_puti X 29 .int rfl fd_3_4 (by decide) rfl rfl rfl dX3_readBracket_26 rfl q_164 (fun σ26 e26 => ?_)
          clear e26
          refine sm_iconst X 30 (1) dX3_readBracket_29 rfl rfl ?_
          exact sm_zret X (v := true) hr dX3_readBracket_30 rfl
        · refine sm_iconst X 18 (0) dX3_readBracket_17 rfl rfl ?_
          exact sm_zret X (v := false) hr dX3_readBracket_18 rfl
      · refine sm_iconst X 18 (0) dX3_readBracket_17 rfl rfl ?_
        exact sm_zret X (v := false) hr dX3_readBracket_18 rfl
    · intro σ a1 r h
      rw [g_X3_readAll] at h
      refine mw_of RX3 (fiZ G) [(0, .ref (gad G 55)), (1, .int a1)] (by decide +kernel) rfl (Nat.le_of_ble_eq_true rfl) rfl h rfl (fun p e s m args below meth c X hr hnm => ?_)
      have J33 : ∀ (v1 : Int32) (v2 : Int32)  (σ : Sto), Sm p l e { frames := 10 + (d + 1), cells := 0, slots := 0, locals := 485 + 64 * (d + 1) } s m args below meth c G 3 (Qm below args s G 0 0 (fiZ G)) 0 0 (wl G σ) 33 [(0, .ref (gad G 55)), (1, .int v1), (2, .int v2)] [] (f_X3_readComparison_L33 (g_X3_readAll d)  v1 v2 σ) := by
        intro v1 v2 σ
        rw [f_X3_readComparison_L33]
        refine sm_aload_n X 34 0 dX3_readComparison_33 rfl rfl rfl ?_
        refine sm_dup X 35 dX3_readComparison_34 rfl rfl ?_
        refine sm_geti X 38 rfl fd_3_4 dX3_readComparison_35 rfl q_164 ?_
        refine sm_iconst X 39 (1) dX3_readComparison_38 rfl rfl ?_
        refine sm_iadd X 40 dX3_readComparison_39 rfl ?_
        refine sm_puti X 43 .int rfl fd_3_4 (by decide) rfl rfl rfl dX3_readComparison_40 rfl q_164 (fun σ40 e40 => ?_)
        clear e40
        refine sm_aload_n X 44 0 dX3_readComparison_43 rfl rfl rfl ?_
        refine sm_iload_n X 45 1 dX3_readComparison_44 rfl rfl rfl ?_
        refine sm_bind (fun r45 h45 => ?_)
        refine sm_callV0 X 48 [.int v1] [] [.int (b2i r45.1)] (ih.2.2.2.2.2.2.2 σ40 v1 r45 h45) cw_X3_readSum q_473 qs_6 q_471 rfl (by decide) rfl rfl rfl rfl rfl (Nat.le_of_ble_eq_true rfl) ⟨by show _ + _ + 1 ≤ _ + (_ + 1); omega, by show _ + (_ + 64 * _) ≤ _ + 64 * (_ + 1); omega⟩ ⟨Nat.le_refl _, Nat.le_refl _⟩ dX3_readComparison_45 rfl ?_
        refine sm_ifz_ne X 51 53 dX3_readComparison_48 rfl (by decide) (fun h48 => ?_) (fun h48 => ?_)
        · refine sm_aload_n X 54 0 dX3_readComparison_53 rfl rfl rfl ?_
          refine sm_iload_n X 55 2 dX3_readComparison_54 rfl rfl rfl ?_
          refine sm_ineg X 56 dX3_readComparison_55 rfl ?_
          refine sm_bind (fun r56 h56 => ?_)
          refine sm_callV0 X 59 [.int (-v2)] [] [] (c_X3_add l G r45.2 (-v2) r56 h56) cw_X3_add q_496 qs_11 q_494 rfl (by decide) rfl rfl rfl rfl rfl (Nat.le_of_ble_eq_true rfl) ⟨by show _ + 1 ≤ _ + (_ + 1); omega, by show _ ≤ _ + 64 * (_ + 1); omega⟩ ⟨Nat.le_refl _, Nat.le_refl _⟩ dX3_readComparison_56 rfl ?_
          refine sm_iconst X 60 (1) dX3_readComparison_59 rfl rfl ?_
          exact sm_zret X (v := true) hr dX3_readComparison_60 rfl
        · refine sm_iconst X 52 (0) dX3_readComparison_51 rfl rfl ?_
          exact sm_zret X (v := false) hr dX3_readComparison_52 rfl
      unfold b_X3_readComparison
      refine sm_aload_n X 1 0 dX3_readComparison_0 rfl rfl rfl ?_
      refine sm_iload_n X 2 1 dX3_readComparison_1 rfl rfl rfl ?_
      refine sm_bind (fun r2 h2 => ?_)
      refine sm_callV0 X 5 [.int a1] [] [.int (b2i r2.1)] (ih.2.2.2.2.2.2.2 σ a1 r2 h2) cw_X3_readSum q_473 qs_6 q_471 rfl (by decide) rfl rfl rfl rfl rfl (Nat.le_of_ble_eq_true rfl) ⟨by show _ + _ + 1 ≤ _ + (_ + 1); omega, by show _ + (_ + 64 * _) ≤ _ + 64 * (_ + 1); omega⟩ ⟨Nat.le_refl _, Nat.le_refl _⟩ dX3_readComparison_2 rfl ?_
      refine sm_ifz_ne X 8 10 dX3_readComparison_5 rfl (by decide) (fun h5 => ?_) (fun h5 => ?_)
      · refine sm_aload_n X 11 0 dX3_readComparison_10 rfl rfl rfl ?_
        refine sm_bind (fun r11 h11 => ?_)
        refine sm_callV0 X 14 [] [] [.int r11] (c_X3_next l G r2.2  r11 h11) cw_X3_next q_485 qs_9 q_483 rfl (by decide) rfl rfl rfl rfl rfl (Nat.le_of_ble_eq_true rfl) ⟨by show _ + 1 ≤ _ + (_ + 1); omega, by show _ ≤ _ + 64 * (_ + 1); omega⟩ ⟨Nat.le_refl _, Nat.le_refl _⟩ dX3_readComparison_11 rfl ?_
        refine sm_istore_n X 15 [(2, .int r11), (0, .ref (gad G 55)), (1, .int a1)] dX3_readComparison_14 rfl rfl (by decide) rfl ?_
        refine sm_iload_n X 16 0 dX3_readComparison_15 rfl rfl rfl ?_
        refine sm_bipush X 18 (60) dX3_readComparison_16 rfl rfl ?_
        refine sm_icmp_eq X 21 33 dX3_readComparison_18 rfl (by decide) (fun h18 => ?_) (fun h18 => ?_)
        · exact sm_sub [1, 2, 0] rfl (J33 a1 r11  r2.2)
        · refine sm_iload_n X 22 0 dX3_readComparison_21 rfl rfl rfl ?_
          refine sm_bipush X 24 (61) dX3_readComparison_22 rfl rfl ?_
          refine sm_icmp_eq X 27 33 dX3_readComparison_24 rfl (by decide) (fun h24 => ?_) (fun h24 => ?_)
          · exact sm_sub [1, 2, 0] rfl (J33 a1 r11  r2.2)
          · refine sm_iload_n X 28 0 dX3_readComparison_27 rfl rfl rfl ?_
            refine sm_bipush X 30 (62) dX3_readComparison_28 rfl rfl ?_
            refine sm_icmp_ne X 33 59 dX3_readComparison_30 rfl (by decide) (fun h30 => ?_) (fun h30 => ?_)
            · exact sm_sub [1, 2, 0] rfl (J33 a1 r11  r2.2)
            · refine sm_iconst X 60 (1) dX3_readComparison_59 rfl rfl ?_
              exact sm_zret X (v := true) hr dX3_readComparison_60 rfl
      · refine sm_iconst X 9 (0) dX3_readComparison_8 rfl rfl ?_
        exact sm_zret X (v := false) hr dX3_readComparison_9 rfl
    · intro σ a1 r h
      rw [g_X3_readAll] at h
      refine mw_of RX3 (fiZ G) [(0, .ref (gad G 55)), (1, .int a1)] (by decide +kernel) rfl (Nat.le_of_ble_eq_true rfl) rfl h rfl (fun p e s m args below meth c X hr hnm => ?_)
      unfold b_X3_readNot
      refine sm_aload_n X 1 0 dX3_readNot_0 rfl rfl rfl ?_
      refine sm_iload_n X 2 1 dX3_readNot_1 rfl rfl rfl ?_
      refine sm_bind (fun r2 h2 => ?_)
      refine sm_callV0 X 5 [.int a1] [] [.int (b2i r2.1)] (ih.2.2.2.2.2.1 σ a1 r2 h2) cw_X3_readPart q_481 qs_8 q_479 rfl (by decide) rfl rfl rfl rfl rfl (Nat.le_of_ble_eq_true rfl) ⟨by show _ + _ + 1 ≤ _ + (_ + 1); omega, by show _ + (_ + 64 * _) ≤ _ + 64 * (_ + 1); omega⟩ ⟨Nat.le_refl _, Nat.le_refl _⟩ dX3_readNot_2 rfl ?_
      refine sm_ifz_ne X 8 10 dX3_readNot_5 rfl (by decide) (fun h5 => ?_) (fun h5 => ?_)
      · refine sm_aload_n X 11 0 dX3_readNot_10 rfl rfl rfl ?_
        refine sm_bipush X 13 (-33) dX3_readNot_11 rfl rfl ?_
        refine sm_bind (fun r13 h13 => ?_)
        refine sm_callV0 X 16 [.int (-33)] [] [] (c_X3_add l G r2.2 (-33 : Int32) r13 h13) cw_X3_add q_496 qs_11 q_494 rfl (by decide) rfl rfl rfl rfl rfl (Nat.le_of_ble_eq_true rfl) ⟨by show _ + 1 ≤ _ + (_ + 1); omega, by show _ ≤ _ + 64 * (_ + 1); omega⟩ ⟨Nat.le_refl _, Nat.le_refl _⟩ dX3_readNot_13 rfl ?_
        refine sm_iconst X 17 (1) dX3_readNot_16 rfl rfl ?_
        exact sm_zret X (v := true) hr dX3_readNot_17 rfl
      · refine sm_iconst X 9 (0) dX3_readNot_8 rfl rfl ?_
        exact sm_zret X (v := false) hr dX3_readNot_9 rfl
    · intro σ a1 r h
      rw [g_X3_readAll] at h
      refine mw_of RX3 (fiZ G) [(0, .ref (gad G 55)), (1, .int a1)] (by decide +kernel) rfl (Nat.le_of_ble_eq_true rfl) rfl h rfl (fun p e s m args below meth c X hr hnm => ?_)
      have J78 : ∀ (v1 : Int32) (v2 : Int32)  (σ : Sto), Sm p l e { frames := 10 + (d + 1), cells := 0, slots := 0, locals := 485 + 64 * (d + 1) } s m args below meth c G 4 (Qm below args s G 0 0 (fiZ G)) 0 0 (wl G σ) 78 [(0, .ref (gad G 55)), (1, .int v1), (2, .int v2)] [] (f_X3_readPart_L78 (g_X3_readAll d)  v1 v2 σ) := by
        intro v1 v2 σ
        rw [f_X3_readPart_L78]
        refine sm_aload_n X 79 0 dX3_readPart_78 rfl rfl rfl ?_
        refine sm_dup X 80 dX3_readPart_79 rfl rfl ?_
        refine sm_geti X 83 rfl fd_3_4 dX3_readPart_80 rfl q_164 ?_
        refine sm_iconst X 84 (1) dX3_readPart_83 rfl rfl ?_
        refine sm_iadd X 85 dX3_readPart_84 rfl ?_
        refine sm_puti X 88 .int rfl fd_3_4 (by decide) rfl rfl rfl dX3_readPart_85 rfl q_164 (fun σ85 e85 => ?_)
        clear e85
        refine sm_iload_n X 89 2 dX3_readPart_88 rfl rfl rfl ?_
        refine sm_bipush X 91 (33) dX3_readPart_89 rfl rfl ?_
        refine sm_icmp_ne X 94 102 dX3_readPart_91 rfl (by decide) (fun h91 => ?_) (fun h91 => ?_)
        · refine sm_aload_n X 95 0 dX3_readPart_94 rfl rfl rfl ?_
          refine sm_iload_n X 96 1 dX3_readPart_95 rfl rfl rfl ?_
          refine sm_iconst X 97 (1) dX3_readPart_96 rfl rfl ?_
          refine sm_iadd X 98 dX3_readPart_97 rfl ?_
          refine sm_bind (fun r98 h98 => ?_)
          refine sm_callV0 X 101 [.int (v1 + (1 : Int32))] [] [.int (b2i r98.1)] (ih.2.2.2.2.1 σ85 (v1 + (1 : Int32)) r98 h98) cw_X3_readNot q_582 qs_12 q_580 rfl (by decide) rfl rfl rfl rfl rfl (Nat.le_of_ble_eq_true rfl) ⟨by show _ + _ + 1 ≤ _ + (_ + 1); omega, by show _ + (_ + 64 * _) ≤ _ + 64 * (_ + 1); omega⟩ ⟨Nat.le_refl _, Nat.le_refl _⟩ dX3_readPart_98 rfl ?_
          exact sm_zret X (v := r98.1) hr dX3_readPart_101 rfl
        · refine sm_aload_n X 103 0 dX3_readPart_102 rfl rfl rfl ?_
          refine sm_iload_n X 104 1 dX3_readPart_103 rfl rfl rfl ?_
          refine sm_iconst X 105 (1) dX3_readPart_104 rfl rfl ?_
          refine sm_iadd X 106 dX3_readPart_105 rfl ?_
          refine sm_bind (fun r106 h106 => ?_)
          refine sm_callV0 X 109 [.int (v1 + (1 : Int32))] [] [.int (b2i r106.1)] (ih.2.2.1 σ85 (v1 + (1 : Int32)) r106 h106) cw_X3_readBracket q_586 qs_13 q_584 rfl (by decide) rfl rfl rfl rfl rfl (Nat.le_of_ble_eq_true rfl) ⟨by show _ + _ + 1 ≤ _ + (_ + 1); omega, by show _ + (_ + 64 * _) ≤ _ + 64 * (_ + 1); omega⟩ ⟨Nat.le_refl _, Nat.le_refl _⟩ dX3_readPart_106 rfl ?_
          exact sm_zret X (v := r106.1) hr dX3_readPart_109 rfl
      have J35 : ∀ (v1 : Int32) (v2 : Int32) (vs0 : Int32)  (σ : Sto), Sm p l e { frames := 10 + (d + 1), cells := 0, slots := 0, locals := 485 + 64 * (d + 1) } s m args below meth c G 4 (Qm below args s G 0 0 (fiZ G)) 0 0 (wl G σ) 35 [(0, .ref (gad G 55)), (1, .int v1), (2, .int v2)] [.int vs0] (f_X3_readPart_L35 (g_X3_readAll d)  v1 v2 vs0 σ) := by
        intro v1 v2 vs0 σ
        rw [f_X3_readPart_L35]
        refine sm_istore_n X 36 [(3, .int vs0), (0, .ref (gad G 55)), (1, .int v1), (2, .int v2)] dX3_readPart_35 rfl rfl (by decide) rfl ?_
        refine sm_iload_n X 37 0 dX3_readPart_36 rfl rfl rfl ?_
        refine sm_if_lt X 40 59 dX3_readPart_37 rfl (by decide) (fun h37 => ?_) (fun h37 => ?_)
        · refine sm_iload_n X 60 2 dX3_readPart_59 rfl rfl rfl ?_
          refine sm_iconst X 61 (5) dX3_readPart_60 rfl rfl ?_
          refine sm_icmp_ge X 64 76 dX3_readPart_61 rfl (by decide) (fun h61 => ?_) (fun h61 => ?_)
          · refine sm_iconst X 77 (0) dX3_readPart_76 rfl rfl ?_
            exact sm_zret X (v := false) hr dX3_readPart_77 rfl
          · refine sm_iload_n X 65 3 dX3_readPart_64 rfl rfl rfl ?_
            refine sm_bipush X 67 (33) dX3_readPart_65 rfl rfl ?_
            refine sm_icmp_eq X 70 78 dX3_readPart_67 rfl (by decide) (fun h67 => ?_) (fun h67 => ?_)
            · exact sm_sub [1, 2, 3] rfl (J78 v1 v2  σ)
            · refine sm_iload_n X 71 3 dX3_readPart_70 rfl rfl rfl ?_
              refine sm_bipush X 73 (40) dX3_readPart_71 rfl rfl ?_
              refine sm_icmp_eq X 76 78 dX3_readPart_73 rfl (by decide) (fun h73 => ?_) (fun h73 => ?_)
              · exact sm_sub [1, 2, 3] rfl (J78 v1 v2  σ)
              · refine sm_iconst X 77 (0) dX3_readPart_76 rfl rfl ?_
                exact sm_zret X (v := false) hr dX3_readPart_77 rfl
        · refine sm_aload_n X 41 1 dX3_readPart_40 rfl rfl rfl ?_
          refine sm_dup X 42 dX3_readPart_41 rfl rfl ?_
          refine sm_geti X 45 rfl fd_3_4 dX3_readPart_42 rfl q_164 ?_
          refine sm_iconst X 46 (1) dX3_readPart_45 rfl rfl ?_
          refine sm_iadd X 47 dX3_readPart_46 rfl ?_
          refine sm_puti X 50 .int rfl fd_3_4 (by decide) rfl rfl rfl dX3_readPart_47 rfl q_164 (fun σ47 e47 => ?_)
          clear e47
          refine sm_aload_n X 51 1 dX3_readPart_50 rfl rfl rfl ?_
          refine sm_iconst X 52 (-1) dX3_readPart_51 rfl rfl ?_
          refine sm_iload_n X 53 0 dX3_readPart_52 rfl rfl rfl ?_
          refine sm_isub X 54 dX3_readPart_53 rfl ?_
          refine sm_bind (fun r54 h54 => ?_)
          refine sm_callV0 X 57 [.int ((-1 : Int32) - vs0)] [] [] (c_X3_add l G σ47 ((-1 : Int32) - vs0) r54 h54) cw_X3_add q_496 qs_11 q_494 rfl (by decide) rfl rfl rfl rfl rfl (Nat.le_of_ble_eq_true rfl) ⟨by show _ + 1 ≤ _ + (_ + 1); omega, by show _ ≤ _ + 64 * (_ + 1); omega⟩ ⟨Nat.le_refl _, Nat.le_refl _⟩ dX3_readPart_54 rfl ?_
          refine sm_iconst X 58 (1) dX3_readPart_57 rfl rfl ?_
          exact sm_zret X (v := true) hr dX3_readPart_58 rfl
      unfold b_X3_readPart
      refine sm_aload_n X 1 0 dX3_readPart_0 rfl rfl rfl ?_
      refine sm_bind (fun r1 h1 => ?_)
      refine sm_callV0 X 4 [] [] [.int r1] (c_X3_next l G σ  r1 h1) cw_X3_next q_485 qs_9 q_483 rfl (by decide) rfl rfl rfl rfl rfl (Nat.le_of_ble_eq_true rfl) ⟨by show _ + 1 ≤ _ + (_ + 1); omega, by show _ ≤ _ + 64 * (_ + 1); omega⟩ ⟨Nat.le_refl _, Nat.le_refl _⟩ dX3_readPart_1 rfl ?_
      refine sm_istore_n X 5 [(2, .int r1), (0, .ref (gad G 55)), (1, .int a1)] dX3_readPart_4 rfl rfl (by decide) rfl ?_
      refine sm_iload_n X 6 0 dX3_readPart_5 rfl rfl rfl ?_
      refine sm_bind (fun r6 h6 => ?_)
      refine sm_callS0 X 9 [.int r1] [] [.int (b2i r6)] (c_X3_isDigit l G σ r1 r6 h6) cw_X3_isDigit q_488 q_487 rfl rfl rfl (Nat.le_of_ble_eq_true rfl) ⟨by show _ + 1 ≤ _ + (_ + 1); omega, by show _ ≤ _ + 64 * (_ + 1); omega⟩ ⟨Nat.le_refl _, Nat.le_refl _⟩ dX3_readPart_6 rfl ?_
      refine sm_ifz_eq X 12 18 dX3_readPart_9 rfl (by decide) (fun h9 => ?_) (fun h9 => ?_)
      · refine sm_aload_n X 13 1 dX3_readPart_12 rfl rfl rfl ?_
        refine sm_bind (fun r13 h13 => ?_)
        refine sm_callV0 X 16 [] [] [] (c_X3_readNumber l G σ  r13 h13) cw_X3_readNumber q_492 qs_10 q_490 rfl (by decide) rfl rfl rfl rfl rfl (Nat.le_of_ble_eq_true rfl) ⟨by show _ + 1 ≤ _ + (_ + 1); omega, by show _ ≤ _ + 64 * (_ + 1); omega⟩ ⟨Nat.le_refl _, Nat.le_refl _⟩ dX3_readPart_13 rfl ?_
        refine sm_iconst X 17 (1) dX3_readPart_16 rfl rfl ?_
        exact sm_zret X (v := true) hr dX3_readPart_17 rfl
      · refine sm_iload_n X 19 0 dX3_readPart_18 rfl rfl rfl ?_
        refine sm_if_ge X 22 26 dX3_readPart_19 rfl (by decide) (fun h19 => ?_) (fun h19 => ?_)
        · refine sm_aload_n X 27 1 dX3_readPart_26 rfl rfl rfl ?_
          refine sm_getrN X 30 rfl fd_3_5 dX3_readPart_27 rfl q_165 (fun r27 e27 => ?_)
          clear e27
          refine sm_iload_n X 31 0 dX3_readPart_30 rfl rfl rfl ?_
          refine sm_i2c X 32 dX3_readPart_31 rfl ?_
          refine sm_derefS (fun i32 hi32 h => ?_)
          subst h
          refine sm_bind (fun r32 h32 => ?_)
          refine sm_callStr X 35 [.int (i2c r1)] [] [.int r32] (c_ixS l G σ i32 (i2c r1) r32 hi32 h32) hi32 cw_ixS q_499 q_500 q_498 rfl rfl rfl rfl (Nat.le_of_ble_eq_true rfl) ⟨by show _ + 1 ≤ _ + (_ + 1); omega, by show _ ≤ _ + 64 * (_ + 1); omega⟩ ⟨Nat.le_refl _, Nat.le_refl _⟩ dX3_readPart_32 rfl ?_
          exact sm_sub [1, 2, 0] rfl (J35 a1 r1 r32  σ)
        · refine sm_iconst X 23 (-1) dX3_readPart_22 rfl rfl ?_
          refine sm_goto X 35 dX3_readPart_23 (by decide) ?_
          exact sm_sub [1, 2, 0] rfl (J35 a1 r1 (-1 : Int32)  σ)
    · intro σ a1 r h
      rw [g_X3_readAll] at h
      refine mw_of RX3 (fiZ G) [(0, .ref (gad G 55)), (1, .int a1)] (by decide +kernel) rfl (Nat.le_of_ble_eq_true rfl) rfl h rfl (fun p e s m args below meth c X hr hnm => ?_)
      have J48 : ∀ (v1 : Int32) (K10 : Sto → Option (Bool × Sto)) (hK10 : ∀ (σ' : Sto), Sm p l e { frames := 10 + (d + 1), cells := 0, slots := 0, locals := 485 + 64 * (d + 1) } s m args below meth c G 3 (Qm below args s G 0 0 (fiZ G)) 0 0 (wl G σ') 10 [(0, .ref (gad G 55)), (1, .int v1)] [] (K10 σ')) (σ : Sto), Sm p l e { frames := 10 + (d + 1), cells := 0, slots := 0, locals := 485 + 64 * (d + 1) } s m args below meth c G 3 (Qm below args s G 0 0 (fiZ G)) 0 0 (wl G σ) 48 [(0, .ref (gad G 55)), (1, .int v1)] [] (f_X3_readProduct_L48 (g_X3_readAll d) K10 v1 σ) := by
        intro v1 K10 hK10 σ
        rw [f_X3_readProduct_L48]
        refine sm_aload_n X 49 0 dX3_readProduct_48 rfl rfl rfl ?_
        refine sm_bind (fun r49 h49 => ?_)
        refine sm_callV0 X 52 [] [] [.int r49] (c_X3_next l G σ  r49 h49) cw_X3_next q_485 qs_9 q_483 rfl (by decide) rfl rfl rfl rfl rfl (Nat.le_of_ble_eq_true rfl) ⟨by show _ + 1 ≤ _ + (_ + 1); omega, by show _ ≤ _ + 64 * (_ + 1); omega⟩ ⟨Nat.le_refl _, Nat.le_refl _⟩ dX3_readProduct_49 rfl ?_
        refine sm_istore_n X 53 [(2, .int r49), (0, .ref (gad G 55)), (1, .int v1)] dX3_readProduct_52 rfl rfl (by decide) rfl ?_
        refine sm_aload_n X 54 1 dX3_readProduct_53 rfl rfl rfl ?_
        refine sm_dup X 55 dX3_readProduct_54 rfl rfl ?_
        refine sm_geti X 58 rfl fd_3_4 dX3_readProduct_55 rfl q_164 ?_
        refine sm_iconst X 59 (1) dX3_readProduct_58 rfl rfl ?_
        refine sm_iadd X 60 dX3_readProduct_59 rfl ?_
        refine sm_puti X 63 .int rfl fd_3_4 (by decide) rfl rfl rfl dX3_readProduct_60 rfl q_164 (fun σ60 e60 => ?_)
        clear e60
        refine sm_aload_n X 64 1 dX3_readProduct_63 rfl rfl rfl ?_
        refine sm_iload_n X 65 2 dX3_readProduct_64 rfl rfl rfl ?_
        refine sm_bind (fun r65 h65 => ?_)
        refine sm_callV0 X 68 [.int v1] [] [.int (b2i r65.1)] (ih.2.2.2.2.2.1 σ60 v1 r65 h65) cw_X3_readPart q_481 qs_8 q_479 rfl (by decide) rfl rfl rfl rfl rfl (Nat.le_of_ble_eq_true rfl) ⟨by show _ + _ + 1 ≤ _ + (_ + 1); omega, by show _ + (_ + 64 * _) ≤ _ + 64 * (_ + 1); omega⟩ ⟨Nat.le_refl _, Nat.le_refl _⟩ dX3_readProduct_65 rfl ?_
        refine sm_ifz_ne X 71 73 dX3_readProduct_68 rfl (by decide) (fun h68 => ?_) (fun h68 => ?_)
        · refine sm_aload_n X 74 1 dX3_readProduct_73 rfl rfl rfl ?_
          refine sm_iload_n X 75 0 dX3_readProduct_74 rfl rfl rfl ?_
          refine sm_ineg X 76 dX3_readProduct_75 rfl ?_
          refine sm_bind (fun r76 h76 => ?_)
          refine sm_callV0 X 79 [.int (-r49)] [] [] (c_X3_add l G r65.2 (-r49) r76 h76) cw_X3_add q_496 qs_11 q_494 rfl (by decide) rfl rfl rfl rfl rfl (Nat.le_of_ble_eq_true rfl) ⟨by show _ + 1 ≤ _ + (_ + 1); omega, by show _ ≤ _ + 64 * (_ + 1); omega⟩ ⟨Nat.le_refl _, Nat.le_refl _⟩ dX3_readProduct_76 rfl ?_
          refine sm_goto X 10 dX3_readProduct_79 (by decide) ?_
          exact sm_sub [1, 2] rfl (hK10 r76)
        · refine sm_iconst X 72 (0) dX3_readProduct_71 rfl rfl ?_
          exact sm_zret X (v := false) hr dX3_readProduct_72 rfl
      have J10 : ∀ (v1 : Int32)  (n : Nat)  (σ : Sto), Sm p l e { frames := 10 + (d + 1), cells := 0, slots := 0, locals := 485 + 64 * (d + 1) } s m args below meth c G 3 (Qm below args s G 0 0 (fiZ G)) 0 0 (wl G σ) 10 [(0, .ref (gad G 55)), (1, .int v1)] [] (f_X3_readProduct_L10 (g_X3_readAll d)  v1 n σ) := by
        intro v1 n
        induction n with
        | zero => intro σ; rw [f_X3_readProduct_L10]; exact sm_none
        | succ n ihl =>
          intro σ
          rw [f_X3_readProduct_L10]
          refine sm_aload_n X 11 0 dX3_readProduct_10 rfl rfl rfl ?_
          refine sm_geti X 14 rfl fd_3_4 dX3_readProduct_11 rfl q_164 ?_
          refine sm_aload_n X 15 0 dX3_readProduct_14 rfl rfl rfl ?_
          refine sm_geti X 18 rfl fd_3_3 dX3_readProduct_15 rfl q_163 ?_
          refine sm_icmp_ge X 21 82 dX3_readProduct_18 rfl (by decide) (fun h18 => ?_) (fun h18 => ?_)
          · refine sm_iconst X 83 (1) dX3_readProduct_82 rfl rfl ?_
            exact sm_zret X (v := true) hr dX3_readProduct_83 rfl
          · refine sm_aload_n X 22 0 dX3_readProduct_21 rfl rfl rfl ?_
            refine sm_bind (fun r22 h22 => ?_)
            refine sm_callV0 X 25 [] [] [.int r22] (c_X3_next l G σ  r22 h22) cw_X3_next q_485 qs_9 q_483 rfl (by decide) rfl rfl rfl rfl rfl (Nat.le_of_ble_eq_true rfl) ⟨by show _ + 1 ≤ _ + (_ + 1); omega, by show _ ≤ _ + 64 * (_ + 1); omega⟩ ⟨Nat.le_refl _, Nat.le_refl _⟩ dX3_readProduct_22 rfl ?_
            refine sm_bipush X 27 (42) dX3_readProduct_25 rfl rfl ?_
            refine sm_icmp_eq X 30 48 dX3_readProduct_27 rfl (by decide) (fun h27 => ?_) (fun h27 => ?_)
            · exact sm_sub [0, 1] rfl (J48 v1 (f_X3_readProduct_L10 (g_X3_readAll d)  v1 n) ihl σ)
            · refine sm_aload_n X 31 0 dX3_readProduct_30 rfl rfl rfl ?_
              refine sm_bind (fun r31 h31 => ?_)
              refine sm_callV0 X 34 [] [] [.int r31] (c_X3_next l G σ  r31 h31) cw_X3_next q_485 qs_9 q_483 rfl (by decide) rfl rfl rfl rfl rfl (Nat.le_of_ble_eq_true rfl) ⟨by show _ + 1 ≤ _ + (_ + 1); omega, by show _ ≤ _ + 64 * (_ + 1); omega⟩ ⟨Nat.le_refl _, Nat.le_refl _⟩ dX3_readProduct_31 rfl ?_
              refine sm_bipush X 36 (47) dX3_readProduct_34 rfl rfl ?_
              refine sm_icmp_eq X 39 48 dX3_readProduct_36 rfl (by decide) (fun h36 => ?_) (fun h36 => ?_)
              · exact sm_sub [0, 1] rfl (J48 v1 (f_X3_readProduct_L10 (g_X3_readAll d)  v1 n) ihl σ)
              · refine sm_aload_n X 40 0 dX3_readProduct_39 rfl rfl rfl ?_
                refine sm_bind (fun r40 h40 => ?_)
                refine sm_callV0 X 43 [] [] [.int r40] (c_X3_next l G σ  r40 h40) cw_X3_next q_485 qs_9 q_483 rfl (by decide) rfl rfl rfl rfl rfl (Nat.le_of_ble_eq_true rfl) ⟨by show _ + 1 ≤ _ + (_ + 1); omega, by show _ ≤ _ + 64 * (_ + 1); omega⟩ ⟨Nat.le_refl _, Nat.le_refl _⟩ dX3_readProduct_40 rfl ?_
                refine sm_bipush X 45 (37) dX3_readProduct_43 rfl rfl ?_
                refine sm_icmp_ne X 48 82 dX3_readProduct_45 rfl (by decide) (fun h45 => ?_) (fun h45 => ?_)
                · exact sm_sub [0, 1] rfl (J48 v1 (f_X3_readProduct_L10 (g_X3_readAll d)  v1 n) ihl σ)
                · refine sm_iconst X 83 (1) dX3_readProduct_82 rfl rfl ?_
                  exact sm_zret X (v := true) hr dX3_readProduct_83 rfl
      unfold b_X3_readProduct
      refine sm_aload_n X 1 0 dX3_readProduct_0 rfl rfl rfl ?_
      refine sm_iload_n X 2 1 dX3_readProduct_1 rfl rfl rfl ?_
      refine sm_bind (fun r2 h2 => ?_)
      refine sm_callV0 X 5 [.int a1] [] [.int (b2i r2.1)] (ih.2.2.2.2.2.1 σ a1 r2 h2) cw_X3_readPart q_481 qs_8 q_479 rfl (by decide) rfl rfl rfl rfl rfl (Nat.le_of_ble_eq_true rfl) ⟨by show _ + _ + 1 ≤ _ + (_ + 1); omega, by show _ + (_ + 64 * _) ≤ _ + 64 * (_ + 1); omega⟩ ⟨Nat.le_refl _, Nat.le_refl _⟩ dX3_readProduct_2 rfl ?_
      refine sm_ifz_ne X 8 10 dX3_readProduct_5 rfl (by decide) (fun h5 => ?_) (fun h5 => ?_)
      · exact sm_sub [0, 1] rfl (J10 a1  FU r2.2)
      · refine sm_iconst X 9 (0) dX3_readProduct_8 rfl rfl ?_
        exact sm_zret X (v := false) hr dX3_readProduct_9 rfl
    · intro σ a1 r h
      rw [g_X3_readAll] at h
      refine mw_of RX3 (fiZ G) [(0, .ref (gad G 55)), (1, .int a1)] (by decide +kernel) rfl (Nat.le_of_ble_eq_true rfl) rfl h rfl (fun p e s m args below meth c X hr hnm => ?_)
      have J39 : ∀ (v1 : Int32) (K10 : Sto → Option (Bool × Sto)) (hK10 : ∀ (σ' : Sto), Sm p l e { frames := 10 + (d + 1), cells := 0, slots := 0, locals := 485 + 64 * (d + 1) } s m args below meth c G 3 (Qm below args s G 0 0 (fiZ G)) 0 0 (wl G σ') 10 [(0, .ref (gad G 55)), (1, .int v1)] [] (K10 σ')) (σ : Sto), Sm p l e { frames := 10 + (d + 1), cells := 0, slots := 0, locals := 485 + 64 * (d + 1) } s m args below meth c G 3 (Qm below args s G 0 0 (fiZ G)) 0 0 (wl G σ) 39 [(0, .ref (gad G 55)), (1, .int v1)] [] (f_X3_readSum_L39 (g_X3_readAll d) K10 v1 σ) := by
        intro v1 K10 hK10 σ
        rw [f_X3_readSum_L39]
        refine sm_aload_n X 40 0 dX3_readSum_39 rfl rfl rfl ?_
        refine sm_bind (fun r40 h40 => ?_)
        refine sm_callV0 X 43 [] [] [.int r40] (c_X3_next l G σ  r40 h40) cw_X3_next q_485 qs_9 q_483 rfl (by decide) rfl rfl rfl rfl rfl (Nat.le_of_ble_eq_true rfl) ⟨by show _ + 1 ≤ _ + (_ + 1); omega, by show _ ≤ _ + 64 * (_ + 1); omega⟩ ⟨Nat.le_refl _, Nat.le_refl _⟩ dX3_readSum_40 rfl ?_
        refine sm_istore_n X 44 [(2, .int r40), (0, .ref (gad G 55)), (1, .int v1)] dX3_readSum_43 rfl rfl (by decide) rfl ?_
        refine sm_aload_n X 45 1 dX3_readSum_44 rfl rfl rfl ?_
        refine sm_dup X 46 dX3_readSum_45 rfl rfl ?_
        refine sm_geti X 49 rfl fd_3_4 dX3_readSum_46 rfl q_164 ?_
        refine sm_iconst X 50 (1) dX3_readSum_49 rfl rfl ?_
        refine sm_iadd X 51 dX3_readSum_50 rfl ?_
        refine sm_puti X 54 .int rfl fd_3_4 (by decide) rfl rfl rfl dX3_readSum_51 rfl q_164 (fun σ51 e51 => ?_)
        clear e51
        refine sm_aload_n X 55 1 dX3_readSum_54 rfl rfl rfl ?_
        refine sm_iload_n X 56 2 dX3_readSum_55 rfl rfl rfl ?_
        refine sm_bind (fun r56 h56 => ?_)
        refine sm_callV0 X 59 [.int v1] [] [.int (b2i r56.1)] (ih.2.2.2.2.2.2.1 σ51 v1 r56 h56) cw_X3_readProduct q_477 qs_7 q_475 rfl (by decide) rfl rfl rfl rfl rfl (Nat.le_of_ble_eq_true rfl) ⟨by show _ + _ + 1 ≤ _ + (_ + 1); omega, by show _ + (_ + 64 * _) ≤ _ + 64 * (_ + 1); omega⟩ ⟨Nat.le_refl _, Nat.le_refl _⟩ dX3_readSum_56 rfl ?_
        refine sm_ifz_ne X 62 64 dX3_readSum_59 rfl (by decide) (fun h59 => ?_) (fun h59 => ?_)
        · refine sm_aload_n X 65 1 dX3_readSum_64 rfl rfl rfl ?_
          refine sm_iload_n X 66 0 dX3_readSum_65 rfl rfl rfl ?_
          refine sm_ineg X 67 dX3_readSum_66 rfl ?_
          refine sm_bind (fun r67 h67 => ?_)
          refine sm_callV0 X 70 [.int (-r40)] [] [] (c_X3_add l G r56.2 (-r40) r67 h67) cw_X3_add q_496 qs_11 q_494 rfl (by decide) rfl rfl rfl rfl rfl (Nat.le_of_ble_eq_true rfl) ⟨by show _ + 1 ≤ _ + (_ + 1); omega, by show _ ≤ _ + 64 * (_ + 1); omega⟩ ⟨Nat.le_refl _, Nat.le_refl _⟩ dX3_readSum_67 rfl ?_
          refine sm_goto X 10 dX3_readSum_70 (by decide) ?_
          exact sm_sub [1, 2] rfl (hK10 r67)
        · refine sm_iconst X 63 (0) dX3_readSum_62 rfl rfl ?_
          exact sm_zret X (v := false) hr dX3_readSum_63 rfl
      have J10 : ∀ (v1 : Int32)  (n : Nat)  (σ : Sto), Sm p l e { frames := 10 + (d + 1), cells := 0, slots := 0, locals := 485 + 64 * (d + 1) } s m args below meth c G 3 (Qm below args s G 0 0 (fiZ G)) 0 0 (wl G σ) 10 [(0, .ref (gad G 55)), (1, .int v1)] [] (f_X3_readSum_L10 (g_X3_readAll d)  v1 n σ) := by
        intro v1 n
        induction n with
        | zero => intro σ; rw [f_X3_readSum_L10]; exact sm_none
        | succ n ihl =>
          intro σ
          rw [f_X3_readSum_L10]
          refine sm_aload_n X 11 0 dX3_readSum_10 rfl rfl rfl ?_
          refine sm_geti X 14 rfl fd_3_4 dX3_readSum_11 rfl q_164 ?_
          refine sm_aload_n X 15 0 dX3_readSum_14 rfl rfl rfl ?_
          refine sm_geti X 18 rfl fd_3_3 dX3_readSum_15 rfl q_163 ?_
          refine sm_icmp_ge X 21 73 dX3_readSum_18 rfl (by decide) (fun h18 => ?_) (fun h18 => ?_)
          · refine sm_iconst X 74 (1) dX3_readSum_73 rfl rfl ?_
            exact sm_zret X (v := true) hr dX3_readSum_74 rfl
          · refine sm_aload_n X 22 0 dX3_readSum_21 rfl rfl rfl ?_
            refine sm_bind (fun r22 h22 => ?_)
            refine sm_callV0 X 25 [] [] [.int r22] (c_X3_next l G σ  r22 h22) cw_X3_next q_485 qs_9 q_483 rfl (by decide) rfl rfl rfl rfl rfl (Nat.le_of_ble_eq_true rfl) ⟨by show _ + 1 ≤ _ + (_ + 1); omega, by show _ ≤ _ + 64 * (_ + 1); omega⟩ ⟨Nat.le_refl _, Nat.le_refl _⟩ dX3_readSum_22 rfl ?_
            refine sm_bipush X 27 (43) dX3_readSum_25 rfl rfl ?_
            refine sm_icmp_eq X 30 39 dX3_readSum_27 rfl (by decide) (fun h27 => ?_) (fun h27 => ?_)
            · exact sm_sub [0, 1] rfl (J39 v1 (f_X3_readSum_L10 (g_X3_readAll d)  v1 n) ihl σ)
            · refine sm_aload_n X 31 0 dX3_readSum_30 rfl rfl rfl ?_
              refine sm_bind (fun r31 h31 => ?_)
              refine sm_callV0 X 34 [] [] [.int r31] (c_X3_next l G σ  r31 h31) cw_X3_next q_485 qs_9 q_483 rfl (by decide) rfl rfl rfl rfl rfl (Nat.le_of_ble_eq_true rfl) ⟨by show _ + 1 ≤ _ + (_ + 1); omega, by show _ ≤ _ + 64 * (_ + 1); omega⟩ ⟨Nat.le_refl _, Nat.le_refl _⟩ dX3_readSum_31 rfl ?_
              refine sm_bipush X 36 (45) dX3_readSum_34 rfl rfl ?_
              refine sm_icmp_ne X 39 73 dX3_readSum_36 rfl (by decide) (fun h36 => ?_) (fun h36 => ?_)
              · exact sm_sub [0, 1] rfl (J39 v1 (f_X3_readSum_L10 (g_X3_readAll d)  v1 n) ihl σ)
              · refine sm_iconst X 74 (1) dX3_readSum_73 rfl rfl ?_
                exact sm_zret X (v := true) hr dX3_readSum_74 rfl
      unfold b_X3_readSum
      refine sm_aload_n X 1 0 dX3_readSum_0 rfl rfl rfl ?_
      refine sm_iload_n X 2 1 dX3_readSum_1 rfl rfl rfl ?_
      refine sm_bind (fun r2 h2 => ?_)
      refine sm_callV0 X 5 [.int a1] [] [.int (b2i r2.1)] (ih.2.2.2.2.2.2.1 σ a1 r2 h2) cw_X3_readProduct q_477 qs_7 q_475 rfl (by decide) rfl rfl rfl rfl rfl (Nat.le_of_ble_eq_true rfl) ⟨by show _ + _ + 1 ≤ _ + (_ + 1); omega, by show _ + (_ + 64 * _) ≤ _ + 64 * (_ + 1); omega⟩ ⟨Nat.le_refl _, Nat.le_refl _⟩ dX3_readSum_2 rfl ?_
      refine sm_ifz_ne X 8 10 dX3_readSum_5 rfl (by decide) (fun h5 => ?_) (fun h5 => ?_)
      · exact sm_sub [0, 1] rfl (J10 a1  FU r2.2)
      · refine sm_iconst X 9 (0) dX3_readSum_8 rfl rfl ?_
        exact sm_zret X (v := false) hr dX3_readSum_9 rfl
