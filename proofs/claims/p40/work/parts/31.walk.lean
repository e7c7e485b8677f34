set_option maxHeartbeats 4000000 in
set_option maxRecDepth 100000 in
theorem c_X3_readAll (l : Launch) (G : GT) (σ : Sto) (a1 : Int32) (r : (Bool × Sto)) (h : g_X3_readAll 64 0 a1 σ = some r) : MW l G (74) (4581) 0 0 yX3_readAll cX3_readAll 2 (Option.some Jvm.ClassFile.FieldType.boolean) [.ref (gad G 55), .int a1] (wl G σ) (some (.int (b2i r.1))) (wl G r.2) := (cg_X3_readAll l G 64).1 σ a1 r h
set_option maxHeartbeats 4000000 in
set_option maxRecDepth 100000 in
theorem c_X3_readAny (l : Launch) (G : GT) (σ : Sto) (a1 : Int32) (r : (Bool × Sto)) (h : g_X3_readAll 64 1 a1 σ = some r) : MW l G (74) (4581) 0 0 yX3_readAny cX3_readAny 2 (Option.some Jvm.ClassFile.FieldType.boolean) [.ref (gad G 55), .int a1] (wl G σ) (some (.int (b2i r.1))) (wl G r.2) := (cg_X3_readAll l G 64).2.1 σ a1 r h
set_option maxHeartbeats 4000000 in
set_option maxRecDepth 100000 in
theorem c_X3_readBracket (l : Launch) (G : GT) (σ : Sto) (a1 : Int32) (r : (Bool × Sto)) (h : g_X3_readAll 64 2 a1 σ = some r) : MW l G (74) (4581) 0 0 yX3_readBracket cX3_readBracket 2 (Option.some Jvm.ClassFile.FieldType.boolean) [.ref (gad G 55), .int a1] (wl G σ) (some (.int (b2i r.1))) (wl G r.2) := (cg_X3_readAll l G 64).2.2.1 σ a1 r h
set_option maxHeartbeats 4000000 in
set_option maxRecDepth 100000 in
theorem c_X3_readComparison (l : Launch) (G : GT) (σ : Sto) (a1 : Int32) (r : (Bool × Sto)) (h : g_X3_readAll 64 3 a1 σ = some r) : MW l G (74) (4581) 0 0 yX3_readComparison cX3_readComparison 3 (Option.some Jvm.ClassFile.FieldType.boolean) [.ref (gad G 55), .int a1] (wl G σ) (some (.int (b2i r.1))) (wl G r.2) := (cg_X3_readAll l G 64).2.2.2.1 σ a1 r h
set_option maxHeartbeats 4000000 in
set_option maxRecDepth 100000 in
theorem c_X3_readNot (l : Launch) (G : GT) (σ : Sto) (a1 : Int32) (r : (Bool × Sto)) (h : g_X3_readAll 64 4 a1 σ = some r) : MW l G (74) (4581) 0 0 yX3_readNot cX3_readNot 2 (Option.some Jvm.ClassFile.FieldType.boolean) [.ref (gad G 55), .int a1] (wl G σ) (some (.int (b2i r.1))) (wl G r.2) := (cg_X3_readAll l G 64).2.2.2.2.1 σ a1 r h
set_option maxHeartbeats 4000000 in
set_option maxRecDepth 100000 in
theorem c_X3_readPart (l : Launch) (G : GT) (σ : Sto) (a1 : Int32) (r : (Bool × Sto)) (h : g_X3_readAll 64 5 a1 σ = some r) : MW l G (74) (4581) 0 0 yX3_readPart cX3_readPart 4 (Option.some Jvm.ClassFile.FieldType.boolean) [.ref (gad G 55), .int a1] (wl G σ) (some (.int (b2i r.1))) (wl G r.2) := (cg_X3_readAll l G 64).2.2.2.2.2.1 σ a1 r h
set_option maxHeartbeats 4000000 in
set_option maxRecDepth 100000 in
theorem c_X3_readProduct (l : Launch) (G : GT) (σ : Sto) (a1 : Int32) (r : (Bool × Sto)) (h : g_X3_readAll 64 6 a1 σ = some r) : MW l G (74) (4581) 0 0 yX3_readProduct cX3_readProduct 3 (Option.some Jvm.ClassFile.FieldType.boolean) [.ref (gad G 55), .int a1] (wl G σ) (some (.int (b2i r.1))) (wl G r.2) := (cg_X3_readAll l G 64).2.2.2.2.2.2.1 σ a1 r h
set_option maxHeartbeats 4000000 in
set_option maxRecDepth 100000 in
theorem c_X3_readSum (l : Launch) (G : GT) (σ : Sto) (a1 : Int32) (r : (Bool × Sto)) (h : g_X3_readAll 64 7 a1 σ = some r) : MW l G (74) (4581) 0 0 yX3_readSum cX3_readSum 3 (Option.some Jvm.ClassFile.FieldType.boolean) [.ref (gad G 55), .int a1] (wl G σ) (some (.int (b2i r.1))) (wl G r.2) := (cg_X3_readAll l G 64).2.2.2.2.2.2.2 σ a1 r h
def by_X3_read_0 : List Nat := [42, 28, 43, 190, 184, 0, 34, 16, 50, 184, 0, 34, 181, 0, 22, 43]
def by_X3_read_1 : List Nat := [3, 42, 180, 0, 19, 3, 42, 180, 0, 22, 184, 0, 40, 42, 29, 154]
def by_X3_read_2 : List Nat := [0, 8, 18, 46, 167, 0, 5, 18, 48, 181, 0, 30, 42, 3, 181, 0]
def by_X3_read_3 : List Nat := [25, 42, 3, 181, 0, 15, 42, 3, 182, 0, 50, 153, 0, 18, 42, 180]
def by_X3_read_4 : List Nat := [0, 25, 42, 180, 0, 22, 160, 0, 7, 2, 167, 0, 7, 42, 180, 0]
def by_X3_read_z : List Nat := [25, 172]
def by_X3_read : List (List Nat) := [by_X3_read_0, by_X3_read_1, by_X3_read_2, by_X3_read_3, by_X3_read_4]
set_option maxRecDepth 100000 in
theorem byo_X3_read : cX3_read.data.toList.map UInt8.toNat = by_X3_read.flatten ++ by_X3_read_z := by decide +kernel
theorem byl_X3_read : by_X3_read.all (fun r => r.length == 16) = true := by decide +kernel
theorem byr_X3_read_0 {j v : Nat} (h : by_X3_read_0[j]? = some v) : RD cX3_read (0 + j) v := rd_16 byo_X3_read byl_X3_read 0 rfl h
theorem byr_X3_read_1 {j v : Nat} (h : by_X3_read_1[j]? = some v) : RD cX3_read (16 + j) v := rd_16 byo_X3_read byl_X3_read 1 rfl h
theorem byr_X3_read_2 {j v : Nat} (h : by_X3_read_2[j]? = some v) : RD cX3_read (32 + j) v := rd_16 byo_X3_read byl_X3_read 2 rfl h
theorem byr_X3_read_3 {j v : Nat} (h : by_X3_read_3[j]? = some v) : RD cX3_read (48 + j) v := rd_16 byo_X3_read byl_X3_read 3 rfl h
theorem byr_X3_read_4 {j v : Nat} (h : by_X3_read_4[j]? = some v) : RD cX3_read (64 + j) v := rd_16 byo_X3_read byl_X3_read 4 rfl h
theorem byr_X3_read_5 {j v : Nat} (h : by_X3_read_z[j]? = some v) : RD cX3_read (80 + j) v := rd_z byo_X3_read byl_X3_read 5 rfl h
theorem dX3_read_0 : decode cX3_read 0 = .ok (.aload_n 0, 1) := dk_42 (byr_X3_read_0 (j := 0) rfl)
theorem dX3_read_1 : decode cX3_read 1 = .ok (.iload_n 2, 1) := dk_28 (byr_X3_read_0 (j := 1) rfl)
theorem dX3_read_2 : decode cX3_read 2 = .ok (.aload_n 1, 1) := dk_43 (byr_X3_read_0 (j := 2) rfl)
theorem dX3_read_3 : decode cX3_read 3 = .ok (.arraylength, 1) := dk_190 (byr_X3_read_0 (j := 3) rfl)
theorem dX3_read_4 : decode cX3_read 4 = .ok (.invokestatic 34, 3) := dk_184 (byr_X3_read_0 (j := 4) rfl) (byr_X3_read_0 (j := 5) rfl) (byr_X3_read_0 (j := 6) rfl) (by decide)
theorem dX3_read_7 : decode cX3_read 7 = .ok (.bipush 50, 2) := dk_16 (byr_X3_read_0 (j := 7) rfl) (byr_X3_read_0 (j := 8) rfl) (by decide)
theorem dX3_read_9 : decode cX3_read 9 = .ok (.invokestatic 34, 3) := dk_184 (byr_X3_read_0 (j := 9) rfl) (byr_X3_read_0 (j := 10) rfl) (byr_X3_read_0 (j := 11) rfl) (by decide)
theorem dX3_read_12 : decode cX3_read 12 = .ok (.putfield 22, 3) := dk_181 (byr_X3_read_0 (j := 12) rfl) (byr_X3_read_0 (j := 13) rfl) (byr_X3_read_0 (j := 14) rfl) (by decide)
theorem dX3_read_15 : decode cX3_read 15 = .ok (.aload_n 1, 1) := dk_43 (byr_X3_read_0 (j := 15) rfl)
theorem dX3_read_16 : decode cX3_read 16 = .ok (.iconst 0, 1) := dk_3 (byr_X3_read_1 (j := 0) rfl)
theorem dX3_read_17 : decode cX3_read 17 = .ok (.aload_n 0, 1) := dk_42 (byr_X3_read_1 (j := 1) rfl)
theorem dX3_read_18 : decode cX3_read 18 = .ok (.getfield 19, 3) := dk_180 (byr_X3_read_1 (j := 2) rfl) (byr_X3_read_1 (j := 3) rfl) (byr_X3_read_1 (j := 4) rfl) (by decide)
theorem dX3_read_21 : decode cX3_read 21 = .ok (.iconst 0, 1) := dk_3 (byr_X3_read_1 (j := 5) rfl)
theorem dX3_read_22 : decode cX3_read 22 = .ok (.aload_n 0, 1) := dk_42 (byr_X3_read_1 (j := 6) rfl)
theorem dX3_read_23 : decode cX3_read 23 = .ok (.getfield 22, 3) := dk_180 (byr_X3_read_1 (j := 7) rfl) (byr_X3_read_1 (j := 8) rfl) (byr_X3_read_1 (j := 9) rfl) (by decide)
theorem dX3_read_26 : decode cX3_read 26 = .ok (.invokestatic 40, 3) := dk_184 (byr_X3_read_1 (j := 10) rfl) (byr_X3_read_1 (j := 11) rfl) (byr_X3_read_1 (j := 12) rfl) (by decide)
theorem dX3_read_29 : decode cX3_read 29 = .ok (.aload_n 0, 1) := dk_42 (byr_X3_read_1 (j := 13) rfl)
theorem dX3_read_30 : decode cX3_read 30 = .ok (.iload_n 3, 1) := dk_29 (byr_X3_read_1 (j := 14) rfl)
theorem dX3_read_31 : decode cX3_read 31 = .ok (.ifCond .ne 8, 3) := dk_154 (byr_X3_read_1 (j := 15) rfl) (byr_X3_read_2 (j := 0) rfl) (byr_X3_read_2 (j := 1) rfl) (by decide)
theorem dX3_read_34 : decode cX3_read 34 = .ok (.ldc 46, 2) := dk_18 (byr_X3_read_2 (j := 2) rfl) (byr_X3_read_2 (j := 3) rfl)
theorem dX3_read_36 : decode cX3_read 36 = .ok (.goto 5, 3) := dk_167 (byr_X3_read_2 (j := 4) rfl) (byr_X3_read_2 (j := 5) rfl) (byr_X3_read_2 (j := 6) rfl) (by decide)
theorem dX3_read_39 : decode cX3_read 39 = .ok (.ldc 48, 2) := dk_18 (byr_X3_read_2 (j := 7) rfl) (byr_X3_read_2 (j := 8) rfl)
theorem dX3_read_41 : decode cX3_read 41 = .ok (.putfield 30, 3) := dk_181 (byr_X3_read_2 (j := 9) rfl) (byr_X3_read_2 (j := 10) rfl) (byr_X3_read_2 (j := 11) rfl) (by decide)
theorem dX3_read_44 : decode cX3_read 44 = .ok (.aload_n 0, 1) := dk_42 (byr_X3_read_2 (j := 12) rfl)
theorem dX3_read_45 : decode cX3_read 45 = .ok (.iconst 0, 1) := dk_3 (byr_X3_read_2 (j := 13) rfl)
theorem dX3_read_46 : decode cX3_read 46 = .ok (.putfield 25, 3) := dk_181 (byr_X3_read_2 (j := 14) rfl) (byr_X3_read_2 (j := 15) rfl) (byr_X3_read_3 (j := 0) rfl) (by decide)
theorem dX3_read_49 : decode cX3_read 49 = .ok (.aload_n 0, 1) := dk_42 (byr_X3_read_3 (j := 1) rfl)
theorem dX3_read_50 : decode cX3_read 50 = .ok (.iconst 0, 1) := dk_3 (byr_X3_read_3 (j := 2) rfl)
theorem dX3_read_51 : decode cX3_read 51 = .ok (.putfield 15, 3) := dk_181 (byr_X3_read_3 (j := 3) rfl) (byr_X3_read_3 (j := 4) rfl) (byr_X3_read_3 (j := 5) rfl) (by decide)
theorem dX3_read_54 : decode cX3_read 54 = .ok (.aload_n 0, 1) := dk_42 (byr_X3_read_3 (j := 6) rfl)
theorem dX3_read_55 : decode cX3_read 55 = .ok (.iconst 0, 1) := dk_3 (byr_X3_read_3 (j := 7) rfl)
theorem dX3_read_56 : decode cX3_read 56 = .ok (.invokevirtual 50, 3) := dk_182 (byr_X3_read_3 (j := 8) rfl) (byr_X3_read_3 (j := 9) rfl) (byr_X3_read_3 (j := 10) rfl) (by decide)
theorem dX3_read_59 : decode cX3_read 59 = .ok (.ifCond .eq 18, 3) := dk_153 (byr_X3_read_3 (j := 11) rfl) (byr_X3_read_3 (j := 12) rfl) (byr_X3_read_3 (j := 13) rfl) (by decide)
theorem dX3_read_62 : decode cX3_read 62 = .ok (.aload_n 0, 1) := dk_42 (byr_X3_read_3 (j := 14) rfl)
theorem dX3_read_63 : decode cX3_read 63 = .ok (.getfield 25, 3) := dk_180 (byr_X3_read_3 (j := 15) rfl) (byr_X3_read_4 (j := 0) rfl) (byr_X3_read_4 (j := 1) rfl) (by decide)
theorem dX3_read_66 : decode cX3_read 66 = .ok (.aload_n 0, 1) := dk_42 (byr_X3_read_4 (j := 2) rfl)
theorem dX3_read_67 : decode cX3_read 67 = .ok (.getfield 22, 3) := dk_180 (byr_X3_read_4 (j := 3) rfl) (byr_X3_read_4 (j := 4) rfl) (byr_X3_read_4 (j := 5) rfl) (by decide)
theorem dX3_read_70 : decode cX3_read 70 = .ok (.if_icmp .ne 7, 3) := dk_160 (byr_X3_read_4 (j := 6) rfl) (byr_X3_read_4 (j := 7) rfl) (byr_X3_read_4 (j := 8) rfl) (by decide)
theorem dX3_read_73 : decode cX3_read 73 = .ok (.iconst (-1), 1) := dk_2 (byr_X3_read_4 (j := 9) rfl)
theorem dX3_read_74 : decode cX3_read 74 = .ok (.goto 7, 3) := dk_167 (byr_X3_read_4 (j := 10) rfl) (byr_X3_read_4 (j := 11) rfl) (byr_X3_read_4 (j := 12) rfl) (by decide)
theorem dX3_read_77 : decode cX3_read 77 = .ok (.aload_n 0, 1) := dk_42 (byr_X3_read_4 (j := 13) rfl)
theorem dX3_read_78 : decode cX3_read 78 = .ok (.getfield 25, 3) := dk_180 (byr_X3_read_4 (j := 14) rfl) (byr_X3_read_4 (j := 15) rfl) (byr_X3_read_5 (j := 0) rfl) (by decide)
theorem dX3_read_81 : decode cX3_read 81 = .ok (.ireturn, 1) := dk_172 (byr_X3_read_5 (j := 1) rfl)
set_option maxHeartbeats 4000000 in
set_option maxRecDepth 100000 in
theorem c_X3_read (l : Launch) (G : GT) (σ : Sto) (a1 : Nat) (ha1 : K0 a1 = 20) (a2 : Int32) (a3 : Int32) (r : (Int32 × Sto)) (h : f_X3_read σ a1 a2 a3 = some r) : MW l G (75) (4602) 0 0 yX3_read cX3_read 4 (Option.some Jvm.ClassFile.FieldType.int) [.ref (gad G 55), .ref (gad G a1), .int a2, .int a3] (wl G σ) (some (.int r.1)) (wl G r.2) := by
  refine mw_of RX3 (fiI G) [(0, .ref (gad G 55)), (1, .ref (gad G a1)), (2, .int a2), (3, .int a3)] (by decide +kernel) rfl (Nat.le_of_ble_eq_true rfl) rfl h rfl (fun p e s m args below meth c X hr hnm => ?_)
  have J41 : ∀ (rs0 : Option Nat)  (σ : Sto), Sm p l e { frames := 75, cells := 0, slots := 0, locals := 4602 } s m args below meth c G 4 (Qm below args s G 0 0 (fiI G)) 0 0 (wl G σ) 41 [(0, .ref (gad G 55))] [va_re (gad G) rs0, .ref (gad G 55)] (f_X3_read_L41  rs0 σ) := by
    intro rs0 σ
    rw [f_X3_read_L41]
    refine sm_putr X 44 (r := rs0) (.object "java/lang/String") rfl fd_3_5 rfl (retZ _ _) dX3_read_41 rfl q_165 (fun σ41 e41 => ?_)
    clear e41
    refine sm_aload_n X 45 0 dX3_read_44 rfl rfl rfl ?_
    refine sm_iconst X 46 (0) dX3_read_45 rfl rfl ?_
    refine sm_puti X 49 .int rfl fd_3_4 (by decide) rfl rfl rfl dX3_read_46 rfl q_164 (fun σ46 e46 => ?_)
    clear e46
    refine sm_aload_n X 50 0 dX3_read_49 rfl rfl rfl ?_
    refine sm_iconst X 51 (0) dX3_read_50 rfl rfl ?_
    refine sm_puti X 54 .int rfl fd_3_1 (by decide) rfl rfl rfl dX3_read_51 rfl q_160 (fun σ51 e51 => ?_)
    clear e51
    refine sm_aload_n X 55 0 dX3_read_54 rfl rfl rfl ?_
    refine sm_iconst X 56 (0) dX3_read_55 rfl rfl ?_
    refine sm_bind (fun r56 h56 => ?_)
    refine sm_callV0 X 59 [.int 0] [] [.int (b2i r56.1)] (c_X3_readAny l G σ51 (0 : Int32) r56 h56) cw_X3_readAny q_461 qs_3 q_459 rfl (by decide) rfl rfl rfl rfl rfl (Nat.le_of_ble_eq_true rfl) ⟨Nat.le_of_ble_eq_true rfl, Nat.le_of_ble_eq_true rfl⟩ ⟨Nat.le_refl _, Nat.le_refl _⟩ dX3_read_56 rfl ?_
    refine sm_ifz_eq X 62 77 dX3_read_59 rfl (by decide) (fun h59 => ?_) (fun h59 => ?_)
    · refine sm_aload_n X 63 0 dX3_read_62 rfl rfl rfl ?_
      refine sm_geti X 66 rfl fd_3_4 dX3_read_63 rfl q_164 ?_
      refine sm_aload_n X 67 0 dX3_read_66 rfl rfl rfl ?_
      refine sm_geti X 70 rfl fd_3_3 dX3_read_67 rfl q_163 ?_
      refine sm_icmp_ne X 73 77 dX3_read_70 rfl (by decide) (fun h70 => ?_) (fun h70 => ?_)
      · refine sm_iconst X 74 (-1) dX3_read_73 rfl rfl ?_
        refine sm_goto X 81 dX3_read_74 (by decide) ?_
        exact sm_iret X hr dX3_read_81 rfl
      · refine sm_aload_n X 78 0 dX3_read_77 rfl rfl rfl ?_
        refine sm_geti X 81 rfl fd_3_4 dX3_read_78 rfl q_164 ?_
        exact sm_iret X hr dX3_read_81 rfl
    · refine sm_aload_n X 78 0 dX3_read_77 rfl rfl rfl ?_
      refine sm_geti X 81 rfl fd_3_4 dX3_read_78 rfl q_164 ?_
      exact sm_iret X hr dX3_read_81 rfl
  unfold f_X3_read
  refine sm_aload_n X 1 0 dX3_read_0 rfl rfl rfl ?_
  refine sm_iload_n X 2 2 dX3_read_1 rfl rfl rfl ?_
  refine sm_aload_n X 3 1 dX3_read_2 rfl rfl rfl ?_
  refine sm_alen X 4 (Int32.ofNat (Ln0 a1)) (Or.inl ha1) rfl dX3_read_3 rfl ?_
  refine sm_mmin X 7 dX3_read_4 rfl q_453 q_366 q_367 q_11 ⟨Nat.le_of_ble_eq_true rfl, Nat.le_of_ble_eq_true rfl, Nat.le_refl _, Nat.le_refl _⟩ ?_
  refine sm_bipush X 9 (50) dX3_read_7 rfl rfl ?_
  refine sm_mmin X 12 dX3_read_9 rfl q_453 q_366 q_367 q_11 ⟨Nat.le_of_ble_eq_true rfl, Nat.le_of_ble_eq_true rfl, Nat.le_refl _, Nat.le_refl _⟩ ?_
  refine sm_puti X 15 .int rfl fd_3_3 (by decide) rfl rfl rfl dX3_read_12 rfl q_163 (fun σ12 e12 => ?_)
  clear e12
  refine sm_aload_n X 16 1 dX3_read_15 rfl rfl rfl ?_
  refine sm_iconst X 17 (0) dX3_read_16 rfl rfl ?_
  refine sm_aload_n X 18 0 dX3_read_17 rfl rfl rfl ?_
  refine sm_getf X 21 57 rfl fd_3_2 rfl dX3_read_18 rfl q_162 ?_
  refine sm_iconst X 22 (0) dX3_read_21 rfl rfl ?_
  refine sm_aload_n X 23 0 dX3_read_22 rfl rfl rfl ?_
  refine sm_geti X 26 rfl fd_3_3 dX3_read_23 rfl q_163 ?_
  refine sm_copy X 29 ha1 rfl dX3_read_26 rfl q_454 q_456 q_455 q_12 ⟨Nat.le_of_ble_eq_true rfl, Nat.le_of_ble_eq_true rfl⟩ (fun σ26 e26 => ?_)
  clear e26
  refine sm_aload_n X 30 0 dX3_read_29 rfl rfl rfl ?_
  refine sm_iload_n X 31 3 dX3_read_30 rfl rfl rfl ?_
  refine sm_if_ne X 34 39 dX3_read_31 rfl (by decide) (fun h31 => ?_) (fun h31 => ?_)
  · refine sm_ldcS X 36 (tx := "cwl") 1 dX3_read_34 rfl rfl (by decide) ?_
    refine sm_goto X 41 dX3_read_36 (by decide) ?_
    exact sm_sub [0] rfl (J41 (some 1004)  σ26)
  · refine sm_ldcS X 41 (tx := "byw") 2 dX3_read_39 rfl rfl (by decide) ?_
    exact sm_sub [0] rfl (J41 (some 1005)  σ26)
def by_X4_clear_0 : List Nat := [42, 27, 181, 0, 19, 42, 28, 3, 16, 40, 184, 0, 22, 181, 0, 15]
def by_X4_clear_1 : List Nat := [3, 62, 29, 42, 180, 0, 9, 190, 162, 0, 16, 42, 180, 0, 9, 29]
def by_X4_clear_z : List Nat := [3, 79, 132, 3, 1, 167, 255, 237, 177]
def by_X4_clear : List (List Nat) := [by_X4_clear_0, by_X4_clear_1]
set_option maxRecDepth 100000 in
theorem byo_X4_clear : cX4_clear.data.toList.map UInt8.toNat = by_X4_clear.flatten ++ by_X4_clear_z := by decide +kernel
theorem byl_X4_clear : by_X4_clear.all (fun r => r.length == 16) = true := by decide +kernel
theorem byr_X4_clear_0 {j v : Nat} (h : by_X4_clear_0[j]? = some v) : RD cX4_clear (0 + j) v := rd_16 byo_X4_clear byl_X4_clear 0 rfl h
theorem byr_X4_clear_1 {j v : Nat} (h : by_X4_clear_1[j]? = some v) : RD cX4_clear (16 + j) v := rd_16 byo_X4_clear byl_X4_clear 1 rfl h
theorem byr_X4_clear_2 {j v : Nat} (h : by_X4_clear_z[j]? = some v) : RD cX4_clear (32 + j) v := rd_z byo_X4_clear byl_X4_clear 2 rfl h
theorem dX4_clear_0 : decode cX4_clear 0 = .ok (.aload_n 0, 1) := dk_42 (byr_X4_clear_0 (j := 0) rfl)
theorem dX4_clear_1 : decode cX4_clear 1 = .ok (.iload_n 1, 1) := dk_27 (byr_X4_clear_0 (j := 1) rfl)
theorem dX4_clear_2 : decode cX4_clear 2 = .ok (.putfield 19, 3) := dk_181 (byr_X4_clear_0 (j := 2) rfl) (byr_X4_clear_0 (j := 3) rfl) (byr_X4_clear_0 (j := 4) rfl) (by decide)
theorem dX4_clear_5 : decode cX4_clear 5 = .ok (.aload_n 0, 1) := dk_42 (byr_X4_clear_0 (j := 5) rfl)
theorem dX4_clear_6 : decode cX4_clear 6 = .ok (.iload_n 2, 1) := dk_28 (byr_X4_clear_0 (j := 6) rfl)
theorem dX4_clear_7 : decode cX4_clear 7 = .ok (.iconst 0, 1) := dk_3 (byr_X4_clear_0 (j := 7) rfl)
theorem dX4_clear_8 : decode cX4_clear 8 = .ok (.bipush 40, 2) := dk_16 (byr_X4_clear_0 (j := 8) rfl) (byr_X4_clear_0 (j := 9) rfl) (by decide)
theorem dX4_clear_10 : decode cX4_clear 10 = .ok (.invokestatic 22, 3) := dk_184 (byr_X4_clear_0 (j := 10) rfl) (byr_X4_clear_0 (j := 11) rfl) (byr_X4_clear_0 (j := 12) rfl) (by decide)
theorem dX4_clear_13 : decode cX4_clear 13 = .ok (.putfield 15, 3) := dk_181 (byr_X4_clear_0 (j := 13) rfl) (byr_X4_clear_0 (j := 14) rfl) (byr_X4_clear_0 (j := 15) rfl) (by decide)
theorem dX4_clear_16 : decode cX4_clear 16 = .ok (.iconst 0, 1) := dk_3 (byr_X4_clear_1 (j := 0) rfl)
theorem dX4_clear_17 : decode cX4_clear 17 = .ok (.istore_n 3, 1) := dk_62 (byr_X4_clear_1 (j := 1) rfl)
theorem dX4_clear_18 : decode cX4_clear 18 = .ok (.iload_n 3, 1) := dk_29 (byr_X4_clear_1 (j := 2) rfl)
theorem dX4_clear_19 : decode cX4_clear 19 = .ok (.aload_n 0, 1) := dk_42 (byr_X4_clear_1 (j := 3) rfl)
theorem dX4_clear_20 : decode cX4_clear 20 = .ok (.getfield 9, 3) := dk_180 (byr_X4_clear_1 (j := 4) rfl) (byr_X4_clear_1 (j := 5) rfl) (byr_X4_clear_1 (j := 6) rfl) (by decide)
theorem dX4_clear_23 : decode cX4_clear 23 = .ok (.arraylength, 1) := dk_190 (byr_X4_clear_1 (j := 7) rfl)
theorem dX4_clear_24 : decode cX4_clear 24 = .ok (.if_icmp .ge 16, 3) := dk_162 (byr_X4_clear_1 (j := 8) rfl) (byr_X4_clear_1 (j := 9) rfl) (byr_X4_clear_1 (j := 10) rfl) (by decide)
theorem dX4_clear_27 : decode cX4_clear 27 = .ok (.aload_n 0, 1) := dk_42 (byr_X4_clear_1 (j := 11) rfl)
theorem dX4_clear_28 : decode cX4_clear 28 = .ok (.getfield 9, 3) := dk_180 (byr_X4_clear_1 (j := 12) rfl) (byr_X4_clear_1 (j := 13) rfl) (byr_X4_clear_1 (j := 14) rfl) (by decide)
theorem dX4_clear_31 : decode cX4_clear 31 = .ok (.iload_n 3, 1) := dk_29 (byr_X4_clear_1 (j := 15) rfl)
theorem dX4_clear_32 : decode cX4_clear 32 = .ok (.iconst 0, 1) := dk_3 (byr_X4_clear_2 (j := 0) rfl)
theorem dX4_clear_33 : decode cX4_clear 33 = .ok (.iastore, 1) := dk_79 (byr_X4_clear_2 (j := 1) rfl)
theorem dX4_clear_34 : decode cX4_clear 34 = .ok (.iinc 3 1, 3) := dk_132 (byr_X4_clear_2 (j := 2) rfl) (byr_X4_clear_2 (j := 3) rfl) (byr_X4_clear_2 (j := 4) rfl) (by decide)
theorem dX4_clear_37 : decode cX4_clear 37 = .ok (.goto (-19), 3) := dk_167 (byr_X4_clear_2 (j := 5) rfl) (byr_X4_clear_2 (j := 6) rfl) (byr_X4_clear_2 (j := 7) rfl) (by decide)
theorem dX4_clear_40 : decode cX4_clear 40 = .ok (.return_, 1) := dk_177 (byr_X4_clear_2 (j := 8) rfl)
set_option maxHeartbeats 4000000 in
set_option maxRecDepth 100000 in
theorem c_X4_clear (l : Launch) (G : GT) (σ : Sto) (k0 : Nat) (hk0 : K0 k0 = 4) (a1 : Int32) (a2 : Int32) (r : Sto) (h : f_X4_clear σ k0 a1 a2 = some r) : MW l G (3) (86) 0 0 yX4_clear cX4_clear 4 (Option.none : Option Jvm.ClassFile.FieldType) [.ref (gad G k0), .int a1, .int a2] (wl G σ) (none) (wl G r) := by
  refine mw_of RX4 (fiV G) [(0, .ref (gad G k0)), (1, .int a1), (2, .int a2)] (by decide +kernel) rfl (Nat.le_of_ble_eq_true rfl) rfl h rfl (fun p e s m args below meth c X hr hnm => ?_)
  have J18 : ∀ (k0 : Nat) (hk0 : K0 k0 = 4)  (n : Nat) (v3 : Int32) (σ : Sto), Sm p l e { frames := 3, cells := 0, slots := 0, locals := 86 } s m args below meth c G 4 (Qm below args s G 0 0 (fiV G)) 0 0 (wl G σ) 18 [(0, .ref (gad G k0)), (3, .int v3)] [] (f_X4_clear_L18  k0 n v3 σ) := by
    intro k0 hk0 n
    induction n with
    | zero => intro v3 σ; rw [f_X4_clear_L18]; exact sm_none
    | succ n ihl =>
      intro v3 σ
      rw [f_X4_clear_L18]
      refine sm_iload_n X 19 1 dX4_clear_18 rfl rfl rfl ?_
      refine sm_aload_n X 20 0 dX4_clear_19 rfl rfl rfl ?_
      refine sm_getf X 23 (A0 k0 0) hk0 fd_4_0 (fr_4_0 hk0).1 dX4_clear_20 rfl q_276 ?_
      refine sm_alen X 24 40 (Or.inl ((fr_4_0 hk0).2.1)) (by rw [(fr_4_0 hk0).2.2]; rfl) dX4_clear_23 rfl ?_
      refine sm_icmp_ge X 27 40 dX4_clear_24 rfl (by decide) (fun h24 => ?_) (fun h24 => ?_)
      · exact sm_vret X hr dX4_clear_40 rfl
      · refine sm_aload_n X 28 0 dX4_clear_27 rfl rfl rfl ?_
        refine sm_getf X 31 (A0 k0 0) hk0 fd_4_0 (fr_4_0 hk0).1 dX4_clear_28 rfl q_276 ?_
        refine sm_iload_n X 32 1 dX4_clear_31 rfl rfl rfl ?_
        refine sm_iconst X 33 (0) dX4_clear_32 rfl rfl ?_
        refine sm_iast X 34 ((fr_4_0 hk0).2.1) dX4_clear_33 rfl (fun σ33 e33 => ?_)
        clear e33
        refine sm_iinc X 37 1 (1 : Int32) [(3, .int (v3 + (1 : Int32))), (0, .ref (gad G k0))] dX4_clear_34 rfl rfl rfl (by decide) rfl ?_
        refine sm_goto X 18 dX4_clear_37 (by decide) ?_
        exact sm_sub [1, 0] rfl (ihl (v3 + (1 : Int32)) σ33)
  unfold f_X4_clear
  refine sm_aload_n X 1 0 dX4_clear_0 rfl rfl rfl ?_
  refine sm_iload_n X 2 1 dX4_clear_1 rfl rfl rfl ?_
  refine sm_puti X 5 .int hk0 fd_4_2 (by decide) rfl rfl rfl dX4_clear_2 rfl q_280 (fun σ2 e2 => ?_)
  clear e2
  refine sm_aload_n X 6 0 dX4_clear_5 rfl rfl rfl ?_
  refine sm_iload_n X 7 2 dX4_clear_6 rfl rfl rfl ?_
  refine sm_iconst X 8 (0) dX4_clear_7 rfl rfl ?_
  refine sm_bipush X 10 (40) dX4_clear_8 rfl rfl ?_
  refine sm_bind (fun r10 h10 => ?_)
  refine sm_callSN0 X 13 (host := RX8) [.int a2, .int 0, .int 40] [.ref (gad G k0)] [.int r10, .ref (gad G k0)] (c_X8_heldWithin l G σ2 a2 (0 : Int32) (40 : Int32) r10 h10) cw_X8_heldWithin q_363 (List.mem_of_getElem? (i := 16) rfl) rfl rfl rfl (Nat.le_of_ble_eq_true rfl) ⟨Nat.le_of_ble_eq_true rfl, Nat.le_of_ble_eq_true rfl⟩ ⟨Nat.le_refl _, Nat.le_refl _⟩ dX4_clear_10 rfl ?_
  refine sm_puti X 16 .int hk0 fd_4_1 (by decide) rfl rfl rfl dX4_clear_13 rfl q_278 (fun σ13 e13 => ?_)
  clear e13
  refine sm_iconst X 17 (0) dX4_clear_16 rfl rfl ?_
  refine sm_istore_n X 18 [(3, .int 0), (0, .ref (gad G k0)), (1, .int a1), (2, .int a2)] dX4_clear_17 rfl rfl (by decide) rfl ?_
  exact sm_sub [1, 0] rfl (J18 k0 hk0  FU (0 : Int32) σ13)
def by_X4_isMissing_z : List Nat := [42, 180, 0, 19, 154, 0, 7, 4, 167, 0, 4, 3, 172]
def by_X4_isMissing : List (List Nat) := []
set_option maxRecDepth 100000 in
theorem byo_X4_isMissing : cX4_isMissing.data.toList.map UInt8.toNat = by_X4_isMissing.flatten ++ by_X4_isMissing_z := by decide +kernel
theorem byl_X4_isMissing : by_X4_isMissing.all (fun r => r.length == 16) = true := by decide +kernel
theorem byr_X4_isMissing_0 {j v : Nat} (h : by_X4_isMissing_z[j]? = some v) : RD cX4_isMissing (0 + j) v := rd_z byo_X4_isMissing byl_X4_isMissing 0 rfl h
theorem dX4_isMissing_0 : decode cX4_isMissing 0 = .ok (.aload_n 0, 1) := dk_42 (byr_X4_isMissing_0 (j := 0) rfl)
theorem dX4_isMissing_1 : decode cX4_isMissing 1 = .ok (.getfield 19, 3) := dk_180 (byr_X4_isMissing_0 (j := 1) rfl) (byr_X4_isMissing_0 (j := 2) rfl) (byr_X4_isMissing_0 (j := 3) rfl) (by decide)
theorem dX4_isMissing_4 : decode cX4_isMissing 4 = .ok (.ifCond .ne 7, 3) := dk_154 (byr_X4_isMissing_0 (j := 4) rfl) (byr_X4_isMissing_0 (j := 5) rfl) (byr_X4_isMissing_0 (j := 6) rfl) (by decide)
theorem dX4_isMissing_7 : decode cX4_isMissing 7 = .ok (.iconst 1, 1) := dk_4 (byr_X4_isMissing_0 (j := 7) rfl)
theorem dX4_isMissing_8 : decode cX4_isMissing 8 = .ok (.goto 4, 3) := dk_167 (byr_X4_isMissing_0 (j := 8) rfl) (byr_X4_isMissing_0 (j := 9) rfl) (byr_X4_isMissing_0 (j := 10) rfl) (by decide)
theorem dX4_isMissing_11 : decode cX4_isMissing 11 = .ok (.iconst 0, 1) := dk_3 (byr_X4_isMissing_0 (j := 11) rfl)
theorem dX4_isMissing_12 : decode cX4_isMissing 12 = .ok (.ireturn, 1) := dk_172 (byr_X4_isMissing_0 (j := 12) rfl)
set_option maxHeartbeats 4000000 in
set_option maxRecDepth 100000 in
theorem c_X4_isMissing (l : Launch) (G : GT) (σ : Sto) (k0 : Nat) (hk0 : K0 k0 = 4) (r : Bool) (h : f_X4_isMissing σ k0 = some r) : MW l G (2) (64) 0 0 yX4_isMissing cX4_isMissing 1 (Option.some Jvm.ClassFile.FieldType.boolean) [.ref (gad G k0)] (wl G σ) (some (.int (b2i r))) (wl G σ) := by
  refine mw_of RX4 (fpZ G σ) [(0, .ref (gad G k0))] (by decide +kernel) rfl (Nat.le_of_ble_eq_true rfl) rfl h rfl (fun p e s m args below meth c X hr hnm => ?_)
  unfold f_X4_isMissing
  refine sm_aload_n X 1 0 dX4_isMissing_0 rfl rfl rfl ?_
  refine sm_geti X 4 hk0 fd_4_2 dX4_isMissing_1 rfl q_280 ?_
  refine sm_if_ne X 7 11 dX4_isMissing_4 rfl (by decide) (fun h4 => ?_) (fun h4 => ?_)
  · refine sm_iconst X 8 (1) dX4_isMissing_7 rfl rfl ?_
    refine sm_goto X 12 dX4_isMissing_8 (by decide) ?_
    exact sm_zret X (v := true) hr dX4_isMissing_12 rfl
  · refine sm_iconst X 12 (0) dX4_isMissing_11 rfl rfl ?_
    exact sm_zret X (v := false) hr dX4_isMissing_12 rfl
def by_X4_read_0 : List Nat := [27, 3, 42, 180, 0, 9, 190, 4, 100, 184, 0, 26, 153, 0, 7, 3]
def by_X4_read_z : List Nat := [167, 0, 9, 42, 180, 0, 9, 27, 46, 172]
def by_X4_read : List (List Nat) := [by_X4_read_0]
set_option maxRecDepth 100000 in
theorem byo_X4_read : cX4_read.data.toList.map UInt8.toNat = by_X4_read.flatten ++ by_X4_read_z := by decide +kernel
theorem byl_X4_read : by_X4_read.all (fun r => r.length == 16) = true := by decide +kernel
theorem byr_X4_read_0 {j v : Nat} (h : by_X4_read_0[j]? = some v) : RD cX4_read (0 + j) v := rd_16 byo_X4_read byl_X4_read 0 rfl h
theorem byr_X4_read_1 {j v : Nat} (h : by_X4_read_z[j]? = some v) : RD cX4_read (16 + j) v := rd_z byo_X4_read byl_X4_read 1 rfl h
theorem dX4_read_0 : decode cX4_read 0 = .ok (.iload_n 1, 1) := dk_27 (byr_X4_read_0 (j := 0) rfl)
theorem dX4_read_1 : decode cX4_read 1 = .ok (.iconst 0, 1) := dk_3 (byr_X4_read_0 (j := 1) rfl)
theorem dX4_read_2 : decode cX4_read 2 = .ok (.aload_n 0, 1) := dk_42 (byr_X4_read_0 (j := 2) rfl)
theorem dX4_read_3 : decode cX4_read 3 = .ok (.getfield 9, 3) := dk_180 (byr_X4_read_0 (j := 3) rfl) (byr_X4_read_0 (j := 4) rfl) (byr_X4_read_0 (j := 5) rfl) (by decide)
theorem dX4_read_6 : decode cX4_read 6 = .ok (.arraylength, 1) := dk_190 (byr_X4_read_0 (j := 6) rfl)
theorem dX4_read_7 : decode cX4_read 7 = .ok (.iconst 1, 1) := dk_4 (byr_X4_read_0 (j := 7) rfl)
theorem dX4_read_8 : decode cX4_read 8 = .ok (.isub, 1) := dk_100 (byr_X4_read_0 (j := 8) rfl)
theorem dX4_read_9 : decode cX4_read 9 = .ok (.invokestatic 26, 3) := dk_184 (byr_X4_read_0 (j := 9) rfl) (byr_X4_read_0 (j := 10) rfl) (byr_X4_read_0 (j := 11) rfl) (by decide)
theorem dX4_read_12 : decode cX4_read 12 = .ok (.ifCond .eq 7, 3) := dk_153 (byr_X4_read_0 (j := 12) rfl) (byr_X4_read_0 (j := 13) rfl) (byr_X4_read_0 (j := 14) rfl) (by decide)
theorem dX4_read_15 : decode cX4_read 15 = .ok (.iconst 0, 1) := dk_3 (byr_X4_read_0 (j := 15) rfl)
theorem dX4_read_16 : decode cX4_read 16 = .ok (.goto 9, 3) := dk_167 (byr_X4_read_1 (j := 0) rfl) (byr_X4_read_1 (j := 1) rfl) (byr_X4_read_1 (j := 2) rfl) (by decide)
theorem dX4_read_19 : decode cX4_read 19 = .ok (.aload_n 0, 1) := dk_42 (byr_X4_read_1 (j := 3) rfl)
theorem dX4_read_20 : decode cX4_read 20 = .ok (.getfield 9, 3) := dk_180 (byr_X4_read_1 (j := 4) rfl) (byr_X4_read_1 (j := 5) rfl) (byr_X4_read_1 (j := 6) rfl) (by decide)
theorem dX4_read_23 : decode cX4_read 23 = .ok (.iload_n 1, 1) := dk_27 (byr_X4_read_1 (j := 7) rfl)
theorem dX4_read_24 : decode cX4_read 24 = .ok (.iaload, 1) := dk_46 (byr_X4_read_1 (j := 8) rfl)
theorem dX4_read_25 : decode cX4_read 25 = .ok (.ireturn, 1) := dk_172 (byr_X4_read_1 (j := 9) rfl)
set_option maxHeartbeats 4000000 in
set_option maxRecDepth 100000 in
theorem c_X4_read (l : Launch) (G : GT) (σ : Sto) (k0 : Nat) (hk0 : K0 k0 = 4) (a1 : Int32) (r : Int32) (h : f_X4_read σ k0 a1 = some r) : MW l G (3) (86) 0 0 yX4_read cX4_read 2 (Option.some Jvm.ClassFile.FieldType.int) [.ref (gad G k0), .int a1] (wl G σ) (some (.int r)) (wl G σ) := by
  refine mw_of RX4 (fpI G σ) [(0, .ref (gad G k0)), (1, .int a1)] (by decide +kernel) rfl (Nat.le_of_ble_eq_true rfl) rfl h rfl (fun p e s m args below meth c X hr hnm => ?_)
  unfold f_X4_read
  refine sm_iload_n X 1 1 dX4_read_0 rfl rfl rfl ?_
  refine sm_iconst X 2 (0) dX4_read_1 rfl rfl ?_
  refine sm_aload_n X 3 0 dX4_read_2 rfl rfl rfl ?_
  refine sm_getf X 6 (A0 k0 0) hk0 fd_4_0 (fr_4_0 hk0).1 dX4_read_3 rfl q_276 ?_
  refine sm_alen X 7 40 (Or.inl ((fr_4_0 hk0).2.1)) (by rw [(fr_4_0 hk0).2.2]; rfl) dX4_read_6 rfl ?_
  refine sm_iconst X 8 (1) dX4_read_7 rfl rfl ?_
  refine sm_isub X 9 dX4_read_8 rfl ?_
  refine sm_bind (fun r9 h9 => ?_)
  refine sm_callSN0 X 12 (host := RX8) [.int a1, .int 0, .int ((40 : Int32) - (1 : Int32))] [] [.int (b2i r9)] (c_X8_isOutside l G σ a1 (0 : Int32) ((40 : Int32) - (1 : Int32)) r9 h9) cw_X8_isOutside q_328 (List.mem_of_getElem? (i := 17) rfl) rfl rfl rfl (Nat.le_of_ble_eq_true rfl) ⟨Nat.le_of_ble_eq_true rfl, Nat.le_of_ble_eq_true rfl⟩ ⟨Nat.le_refl _, Nat.le_refl _⟩ dX4_read_9 rfl ?_
  refine sm_ifz_eq X 15 19 dX4_read_12 rfl (by decide) (fun h12 => ?_) (fun h12 => ?_)
  · refine sm_iconst X 16 (0) dX4_read_15 rfl rfl ?_
    refine sm_goto X 25 dX4_read_16 (by decide) ?_
    exact sm_iret X hr dX4_read_25 rfl
  · refine sm_aload_n X 20 0 dX4_read_19 rfl rfl rfl ?_
    refine sm_getf X 23 (A0 k0 0) hk0 fd_4_0 (fr_4_0 hk0).1 dX4_read_20 rfl q_276 ?_
    refine sm_iload_n X 24 1 dX4_read_23 rfl rfl rfl ?_
    refine sm_iald X 25 ((fr_4_0 hk0).2.1) dX4_read_24 rfl (fun r24 e24 => ?_)
    clear e24
    exact sm_iret X hr dX4_read_25 rfl
def by_X4_write_0 : List Nat := [27, 3, 42, 180, 0, 9, 190, 4, 100, 184, 0, 26, 153, 0, 4, 177]
def by_X4_write_1 : List Nat := [42, 180, 0, 19, 16, 8, 160, 0, 14, 42, 180, 0, 9, 27, 28, 145]
def by_X4_write_2 : List Nat := [79, 167, 0, 30, 42, 180, 0, 19, 16, 16, 160, 0, 14, 42, 180, 0]
def by_X4_write_3 : List Nat := [9, 27, 28, 147, 79, 167, 0, 10, 42, 180, 0, 9, 27, 28, 79, 177]
def by_X4_write_z : List Nat := []
def by_X4_write : List (List Nat) := [by_X4_write_0, by_X4_write_1, by_X4_write_2, by_X4_write_3]
set_option maxRecDepth 100000 in
theorem byo_X4_write : cX4_write.data.toList.map UInt8.toNat = by_X4_write.flatten ++ by_X4_write_z := by decide +kernel
theorem byl_X4_write : by_X4_write.all (fun r => r.length == 16) = true := by decide +kernel
theorem byr_X4_write_0 {j v : Nat} (h : by_X4_write_0[j]? = some v) : RD cX4_write (0 + j) v := rd_16 byo_X4_write byl_X4_write 0 rfl h
theorem byr_X4_write_1 {j v : Nat} (h : by_X4_write_1[j]? = some v) : RD cX4_write (16 + j) v := rd_16 byo_X4_write byl_X4_write 1 rfl h
theorem byr_X4_write_2 {j v : Nat} (h : by_X4_write_2[j]? = some v) : RD cX4_write (32 + j) v := rd_16 byo_X4_write byl_X4_write 2 rfl h
theorem byr_X4_write_3 {j v : Nat} (h : by_X4_write_3[j]? = some v) : RD cX4_write (48 + j) v := rd_16 byo_X4_write byl_X4_write 3 rfl h
theorem byr_X4_write_4 {j v : Nat} (h : by_X4_write_z[j]? = some v) : RD cX4_write (64 + j) v := rd_z byo_X4_write byl_X4_write 4 rfl h
theorem dX4_write_0 : decode cX4_write 0 = .ok (.iload_n 1, 1) := dk_27 (byr_X4_write_0 (j := 0) rfl)
theorem dX4_write_1 : decode cX4_write 1 = .ok (.iconst 0, 1) := dk_3 (byr_X4_write_0 (j := 1) rfl)
theorem dX4_write_2 : decode cX4_write 2 = .ok (.aload_n 0, 1) := dk_42 (byr_X4_write_0 (j := 2) rfl)
theorem dX4_write_3 : decode cX4_write 3 = .ok (.getfield 9, 3) := dk_180 (byr_X4_write_0 (j := 3) rfl) (byr_X4_write_0 (j := 4) rfl) (byr_X4_write_0 (j := 5) rfl) (by decide)
theorem dX4_write_6 : decode cX4_write 6 = .ok (.arraylength, 1) := dk_190 (byr_X4_write_0 (j := 6) rfl)
theorem dX4_write_7 : decode cX4_write 7 = .ok (.iconst 1, 1) := dk_4 (byr_X4_write_0 (j := 7) rfl)
theorem dX4_write_8 : decode cX4_write 8 = .ok (.isub, 1) := dk_100 (byr_X4_write_0 (j := 8) rfl)
theorem dX4_write_9 : decode cX4_write 9 = .ok (.invokestatic 26, 3) := dk_184 (byr_X4_write_0 (j := 9) rfl) (byr_X4_write_0 (j := 10) rfl) (byr_X4_write_0 (j := 11) rfl) (by decide)
theorem dX4_write_12 : decode cX4_write 12 = .ok (.ifCond .eq 4, 3) := dk_153 (byr_X4_write_0 (j := 12) rfl) (byr_X4_write_0 (j := 13) rfl) (byr_X4_write_0 (j := 14) rfl) (by decide)
theorem dX4_write_15 : decode cX4_write 15 = .ok (.return_, 1) := dk_177 (byr_X4_write_0 (j := 15) rfl)
theorem dX4_write_16 : decode cX4_write 16 = .ok (.aload_n 0, 1) := dk_42 (byr_X4_write_1 (j := 0) rfl)
theorem dX4_write_17 : decode cX4_write 17 = .ok (.getfield 19, 3) := dk_180 (byr_X4_write_1 (j := 1) rfl) (byr_X4_write_1 (j := 2) rfl) (byr_X4_write_1 (j := 3) rfl) (by decide)
theorem dX4_write_20 : decode cX4_write 20 = .ok (.bipush 8, 2) := dk_16 (byr_X4_write_1 (j := 4) rfl) (byr_X4_write_1 (j := 5) rfl) (by decide)
theorem dX4_write_22 : decode cX4_write 22 = .ok (.if_icmp .ne 14, 3) := dk_160 (byr_X4_write_1 (j := 6) rfl) (byr_X4_write_1 (j := 7) rfl) (byr_X4_write_1 (j := 8) rfl) (by decide)
theorem dX4_write_25 : decode cX4_write 25 = .ok (.aload_n 0, 1) := dk_42 (byr_X4_write_1 (j := 9) rfl)
theorem dX4_write_26 : decode cX4_write 26 = .ok (.getfield 9, 3) := dk_180 (byr_X4_write_1 (j := 10) rfl) (byr_X4_write_1 (j := 11) rfl) (byr_X4_write_1 (j := 12) rfl) (by decide)
theorem dX4_write_29 : decode cX4_write 29 = .ok (.iload_n 1, 1) := dk_27 (byr_X4_write_1 (j := 13) rfl)
theorem dX4_write_30 : decode cX4_write 30 = .ok (.iload_n 2, 1) := dk_28 (byr_X4_write_1 (j := 14) rfl)
theorem dX4_write_31 : decode cX4_write 31 = .ok (.i2b, 1) := dk_145 (byr_X4_write_1 (j := 15) rfl)
theorem dX4_write_32 : decode cX4_write 32 = .ok (.iastore, 1) := dk_79 (byr_X4_write_2 (j := 0) rfl)
theorem dX4_write_33 : decode cX4_write 33 = .ok (.goto 30, 3) := dk_167 (byr_X4_write_2 (j := 1) rfl) (byr_X4_write_2 (j := 2) rfl) (byr_X4_write_2 (j := 3) rfl) (by decide)
theorem dX4_write_36 : decode cX4_write 36 = .ok (.aload_n 0, 1) := dk_42 (byr_X4_write_2 (j := 4) rfl)
theorem dX4_write_37 : decode cX4_write 37 = .ok (.getfield 19, 3) := dk_180 (byr_X4_write_2 (j := 5) rfl) (byr_X4_write_2 (j := 6) rfl) (byr_X4_write_2 (j := 7) rfl) (by decide)
theorem dX4_write_40 : decode cX4_write 40 = .ok (.bipush 16, 2) := dk_16 (byr_X4_write_2 (j := 8) rfl) (byr_X4_write_2 (j := 9) rfl) (by decide)
theorem dX4_write_42 : decode cX4_write 42 = .ok (.if_icmp .ne 14, 3) := dk_160 (byr_X4_write_2 (j := 10) rfl) (byr_X4_write_2 (j := 11) rfl) (byr_X4_write_2 (j := 12) rfl) (by decide)
theorem dX4_write_45 : decode cX4_write 45 = .ok (.aload_n 0, 1) := dk_42 (byr_X4_write_2 (j := 13) rfl)
theorem dX4_write_46 : decode cX4_write 46 = .ok (.getfield 9, 3) := dk_180 (byr_X4_write_2 (j := 14) rfl) (byr_X4_write_2 (j := 15) rfl) (byr_X4_write_3 (j := 0) rfl) (by decide)
theorem dX4_write_49 : decode cX4_write 49 = .ok (.iload_n 1, 1) := dk_27 (byr_X4_write_3 (j := 1) rfl)
theorem dX4_write_50 : decode cX4_write 50 = .ok (.iload_n 2, 1) := dk_28 (byr_X4_write_3 (j := 2) rfl)
theorem dX4_write_51 : decode cX4_write 51 = .ok (.i2s, 1) := dk_147 (byr_X4_write_3 (j := 3) rfl)
theorem dX4_write_52 : decode cX4_write 52 = .ok (.iastore, 1) := dk_79 (byr_X4_write_3 (j := 4) rfl)
theorem dX4_write_53 : decode cX4_write 53 = .ok (.goto 10, 3) := dk_167 (byr_X4_write_3 (j := 5) rfl) (byr_X4_write_3 (j := 6) rfl) (byr_X4_write_3 (j := 7) rfl) (by decide)
theorem dX4_write_56 : decode cX4_write 56 = .ok (.aload_n 0, 1) := dk_42 (byr_X4_write_3 (j := 8) rfl)
theorem dX4_write_57 : decode cX4_write 57 = .ok (.getfield 9, 3) := dk_180 (byr_X4_write_3 (j := 9) rfl) (byr_X4_write_3 (j := 10) rfl) (byr_X4_write_3 (j := 11) rfl) (by decide)
theorem dX4_write_60 : decode cX4_write 60 = .ok (.iload_n 1, 1) := dk_27 (byr_X4_write_3 (j := 12) rfl)
theorem dX4_write_61 : decode cX4_write 61 = .ok (.iload_n 2, 1) := dk_28 (byr_X4_write_3 (j := 13) rfl)
theorem dX4_write_62 : decode cX4_write 62 = .ok (.iastore, 1) := dk_79 (byr_X4_write_3 (j := 14) rfl)
theorem dX4_write_63 : decode cX4_write 63 = .ok (.return_, 1) := dk_177 (byr_X4_write_3 (j := 15) rfl)
set_option maxHeartbeats 4000000 in
set_option maxRecDepth 100000 in
theorem c_X4_write (l : Launch) (G : GT) (σ : Sto) (k0 : Nat) (hk0 : K0 k0 = 4) (a1 : Int32) (a2 : Int32) (r : Sto) (h : f_X4_write σ k0 a1 a2 = some r) : MW l G (3) (86) 0 0 yX4_write cX4_write 3 (Option.none : Option Jvm.ClassFile.FieldType) [.ref (gad G k0), .int a1, .int a2] (wl G σ) (none) (wl G r) := by
  refine mw_of RX4 (fiV G) [(0, .ref (gad G k0)), (1, .int a1), (2, .int a2)] (by decide +kernel) rfl (Nat.le_of_ble_eq_true rfl) rfl h rfl (fun p e s m args below meth c X hr hnm => ?_)
  unfold f_X4_write
  refine sm_iload_n X 1 1 dX4_write_0 rfl rfl rfl ?_
  refine sm_iconst X 2 (0) dX4_write_1 rfl rfl ?_
  refine sm_aload_n X 3 0 dX4_write_2 rfl rfl rfl ?_
  refine sm_getf X 6 (A0 k0 0) hk0 fd_4_0 (fr_4_0 hk0).1 dX4_write_3 rfl q_276 ?_
  refine sm_alen X 7 40 (Or.inl ((fr_4_0 hk0).2.1)) (by rw [(fr_4_0 hk0).2.2]; rfl) dX4_write_6 rfl ?_
  refine sm_iconst X 8 (1) dX4_write_7 rfl rfl ?_
  refine sm_isub X 9 dX4_write_8 rfl ?_
  refine sm_bind (fun r9 h9 => ?_)
  refine sm_callSN0 X 12 (host := RX8) [.int a1, .int 0, .int ((40 : Int32) - (1 : Int32))] [] [.int (b2i r9)] (c_X8_isOutside l G σ a1 (0 : Int32) ((40 : Int32) - (1 : Int32)) r9 h9) cw_X8_isOutside q_328 (List.mem_of_getElem? (i := 17) rfl) rfl rfl rfl (Nat.le_of_ble_eq_true rfl) ⟨Nat.le_of_ble_eq_true rfl, Nat.le_of_ble_eq_true rfl⟩ ⟨Nat.le_refl _, Nat.le_refl _⟩ dX4_write_9 rfl ?_
  refine sm_ifz_eq X 15 16 dX4_write_12 rfl (by decide) (fun h12 => ?_) (fun h12 => ?_)
  · exact sm_vret X hr dX4_write_15 rfl
  · refine sm_aload_n X 17 0 dX4_write_16 rfl rfl rfl ?_
    refine sm_geti X 20 hk0 fd_4_2 dX4_write_17 rfl q_280 ?_
    refine sm_bipush X 22 (8) dX4_write_20 rfl rfl ?_
    refine sm_icmp_ne X 25 36 dX4_write_22 rfl (by decide) (fun h22 => ?_) (fun h22 => ?_)
    · refine sm_aload_n X 26 0 dX4_write_25 rfl rfl rfl ?_
      refine sm_getf X 29 (A0 k0 0) hk0 fd_4_0 (fr_4_0 hk0).1 dX4_write_26 rfl q_276 ?_
      refine sm_iload_n X 30 1 dX4_write_29 rfl rfl rfl ?_
      refine sm_iload_n X 31 2 dX4_write_30 rfl rfl rfl ?_
      refine sm_i2b X 32 dX4_write_31 rfl ?_
      refine sm_iast X 33 ((fr_4_0 hk0).2.1) dX4_write_32 rfl (fun σ32 e32 => ?_)
      clear e32
      refine sm_goto X 63 dX4_write_33 (by decide) ?_
      exact sm_vret X hr dX4_write_63 rfl
    · refine sm_aload_n X 37 0 dX4_write_36 rfl rfl rfl ?_
      refine sm_geti X 40 hk0 fd_4_2 dX4_write_37 rfl q_280 ?_
      refine sm_bipush X 42 (16) dX4_write_40 rfl rfl ?_
      refine sm_icmp_ne X 45 56 dX4_write_42 rfl (by decide) (fun h42 => ?_) (fun h42 => ?_)
      · refine sm_aload_n X 46 0 dX4_write_45 rfl rfl rfl ?_
        refine sm_getf X 49 (A0 k0 0) hk0 fd_4_0 (fr_4_0 hk0).1 dX4_write_46 rfl q_276 ?_
        refine sm_iload_n X 50 1 dX4_write_49 rfl rfl rfl ?_
        refine sm_iload_n X 51 2 dX4_write_50 rfl rfl rfl ?_
        refine sm_i2s X 52 dX4_write_51 rfl ?_
        refine sm_iast X 53 ((fr_4_0 hk0).2.1) dX4_write_52 rfl (fun σ52 e52 => ?_)
        clear e52
        refine sm_goto X 63 dX4_write_53 (by decide) ?_
        exact sm_vret X hr dX4_write_63 rfl
      · refine sm_aload_n X 57 0 dX4_write_56 rfl rfl rfl ?_
        refine sm_getf X 60 (A0 k0 0) hk0 fd_4_0 (fr_4_0 hk0).1 dX4_write_57 rfl q_276 ?_
        refine sm_iload_n X 61 1 dX4_write_60 rfl rfl rfl ?_
        refine sm_iload_n X 62 2 dX4_write_61 rfl rfl rfl ?_
        refine sm_iast X 63 ((fr_4_0 hk0).2.1) dX4_write_62 rfl (fun σ62 e62 => ?_)
        clear e62
        exact sm_vret X hr dX4_write_63 rfl
def by_X4_holds_0 : List Nat := [27, 155, 0, 29, 28, 155, 0, 25, 27, 42, 180, 0, 15, 163, 0, 17]
def by_X4_holds_1 : List Nat := [28, 42, 180, 0, 15, 27, 100, 163, 0, 7, 4, 167, 0, 4, 3, 172]
def by_X4_holds_z : List Nat := []
def by_X4_holds : List (List Nat) := [by_X4_holds_0, by_X4_holds_1]
set_option maxRecDepth 100000 in
theorem byo_X4_holds : cX4_holds.data.toList.map UInt8.toNat = by_X4_holds.flatten ++ by_X4_holds_z := by decide +kernel
theorem byl_X4_holds : by_X4_holds.all (fun r => r.length == 16) = true := by decide +kernel
theorem byr_X4_holds_0 {j v : Nat} (h : by_X4_holds_0[j]? = some v) : RD cX4_holds (0 + j) v := rd_16 byo_X4_holds byl_X4_holds 0 rfl h
theorem byr_X4_holds_1 {j v : Nat} (h : by_X4_holds_1[j]? = some v) : RD cX4_holds (16 + j) v := rd_16 byo_X4_holds byl_X4_holds 1 rfl h
theorem byr_X4_holds_2 {j v : Nat} (h : by_X4_holds_z[j]? = some v) : RD cX4_holds (32 + j) v := rd_z byo_X4_holds byl_X4_holds 2 rfl h
theorem dX4_holds_0 : decode cX4_holds 0 = .ok (.iload_n 1, 1) := dk_27 (byr_X4_holds_0 (j := 0) rfl)
theorem dX4_holds_1 : decode cX4_holds 1 = .ok (.ifCond .lt 29, 3) := dk_155 (byr_X4_holds_0 (j := 1) rfl) (byr_X4_holds_0 (j := 2) rfl) (byr_X4_holds_0 (j := 3) rfl) (by decide)
theorem dX4_holds_4 : decode cX4_holds 4 = .ok (.iload_n 2, 1) := dk_28 (byr_X4_holds_0 (j := 4) rfl)
theorem dX4_holds_5 : decode cX4_holds 5 = .ok (.ifCond .lt 25, 3) := dk_155 (byr_X4_holds_0 (j := 5) rfl) (byr_X4_holds_0 (j := 6) rfl) (byr_X4_holds_0 (j := 7) rfl) (by decide)
theorem dX4_holds_8 : decode cX4_holds 8 = .ok (.iload_n 1, 1) := dk_27 (byr_X4_holds_0 (j := 8) rfl)
theorem dX4_holds_9 : decode cX4_holds 9 = .ok (.aload_n 0, 1) := dk_42 (byr_X4_holds_0 (j := 9) rfl)
theorem dX4_holds_10 : decode cX4_holds 10 = .ok (.getfield 15, 3) := dk_180 (byr_X4_holds_0 (j := 10) rfl) (byr_X4_holds_0 (j := 11) rfl) (byr_X4_holds_0 (j := 12) rfl) (by decide)
theorem dX4_holds_13 : decode cX4_holds 13 = .ok (.if_icmp .gt 17, 3) := dk_163 (byr_X4_holds_0 (j := 13) rfl) (byr_X4_holds_0 (j := 14) rfl) (byr_X4_holds_0 (j := 15) rfl) (by decide)
theorem dX4_holds_16 : decode cX4_holds 16 = .ok (.iload_n 2, 1) := dk_28 (byr_X4_holds_1 (j := 0) rfl)
theorem dX4_holds_17 : decode cX4_holds 17 = .ok (.aload_n 0, 1) := dk_42 (byr_X4_holds_1 (j := 1) rfl)
theorem dX4_holds_18 : decode cX4_holds 18 = .ok (.getfield 15, 3) := dk_180 (byr_X4_holds_1 (j := 2) rfl) (byr_X4_holds_1 (j := 3) rfl) (byr_X4_holds_1 (j := 4) rfl) (by decide)
theorem dX4_holds_21 : decode cX4_holds 21 = .ok (.iload_n 1, 1) := dk_27 (byr_X4_holds_1 (j := 5) rfl)
theorem dX4_holds_22 : decode cX4_holds 22 = .ok (.isub, 1) := dk_100 (byr_X4_holds_1 (j := 6) rfl)
theorem dX4_holds_23 : decode cX4_holds 23 = .ok (.if_icmp .gt 7, 3) := dk_163 (byr_X4_holds_1 (j := 7) rfl) (byr_X4_holds_1 (j := 8) rfl) (byr_X4_holds_1 (j := 9) rfl) (by decide)
theorem dX4_holds_26 : decode cX4_holds 26 = .ok (.iconst 1, 1) := dk_4 (byr_X4_holds_1 (j := 10) rfl)
theorem dX4_holds_27 : decode cX4_holds 27 = .ok (.goto 4, 3) := dk_167 (byr_X4_holds_1 (j := 11) rfl) (byr_X4_holds_1 (j := 12) rfl) (byr_X4_holds_1 (j := 13) rfl) (by decide)
theorem dX4_holds_30 : decode cX4_holds 30 = .ok (.iconst 0, 1) := dk_3 (byr_X4_holds_1 (j := 14) rfl)
theorem dX4_holds_31 : decode cX4_holds 31 = .ok (.ireturn, 1) := dk_172 (byr_X4_holds_1 (j := 15) rfl)
set_option maxHeartbeats 4000000 in
set_option maxRecDepth 100000 in
theorem c_X4_holds (l : Launch) (G : GT) (σ : Sto) (k0 : Nat) (hk0 : K0 k0 = 4) (a1 : Int32) (a2 : Int32) (r : Bool) (h : f_X4_holds σ k0 a1 a2 = some r) : MW l G (2) (64) 0 0 yX4_holds cX4_holds 3 (Option.some Jvm.ClassFile.FieldType.boolean) [.ref (gad G k0), .int a1, .int a2] (wl G σ) (some (.int (b2i r))) (wl G σ) := by
  refine mw_of RX4 (fpZ G σ) [(0, .ref (gad G k0)), (1, .int a1), (2, .int a2)] (by decide +kernel) rfl (Nat.le_of_ble_eq_true rfl) rfl h rfl (fun p e s m args below meth c X hr hnm => ?_)
  unfold f_X4_holds
  refine sm_iload_n X 1 1 dX4_holds_0 rfl rfl rfl ?_
  refine sm_if_lt X 4 30 dX4_holds_1 rfl (by decide) (fun h1 => ?_) (fun h1 => ?_)
  · refine sm_iconst X 31 (0) dX4_holds_30 rfl rfl ?_
    exact sm_zret X (v := false) hr dX4_holds_31 rfl
  · refine sm_iload_n X 5 2 dX4_holds_4 rfl rfl rfl ?_
    refine sm_if_lt X 8 30 dX4_holds_5 rfl (by decide) (fun h5 => ?_) (fun h5 => ?_)
    · refine sm_iconst X 31 (0) dX4_holds_30 rfl rfl ?_
      exact sm_zret X (v := false) hr dX4_holds_31 rfl
    · refine sm_iload_n X 9 1 dX4_holds_8 rfl rfl rfl ?_
      refine sm_aload_n X 10 0 dX4_holds_9 rfl rfl rfl ?_
      refine sm_geti X 13 hk0 fd_4_1 dX4_holds_10 rfl q_278 ?_
      refine sm_icmp_gt X 16 30 dX4_holds_13 rfl (by decide) (fun h13 => ?_) (fun h13 => ?_)
      · refine sm_iconst X 31 (0) dX4_holds_30 rfl rfl ?_
        exact sm_zret X (v := false) hr dX4_holds_31 rfl
      · refine sm_iload_n X 17 2 dX4_holds_16 rfl rfl rfl ?_
        refine sm_aload_n X 18 0 dX4_holds_17 rfl rfl rfl ?_
        refine sm_geti X 21 hk0 fd_4_1 dX4_holds_18 rfl q_278 ?_
        refine sm_iload_n X 22 1 dX4_holds_21 rfl rfl rfl ?_
        refine sm_isub X 23 dX4_holds_22 rfl ?_
        refine sm_icmp_gt X 26 30 dX4_holds_23 rfl (by decide) (fun h23 => ?_) (fun h23 => ?_)
        · refine sm_iconst X 31 (0) dX4_holds_30 rfl rfl ?_
          exact sm_zret X (v := false) hr dX4_holds_31 rfl
        · refine sm_iconst X 27 (1) dX4_holds_26 rfl rfl ?_
          refine sm_goto X 31 dX4_holds_27 (by decide) ?_
          exact sm_zret X (v := true) hr dX4_holds_31 rfl
def by_X5_feel_0 : List Nat := [3, 62, 29, 42, 180, 0, 9, 190, 162, 0, 21, 42, 180, 0, 9, 29]
def by_X5_feel_z : List Nat := [43, 29, 28, 182, 0, 31, 79, 132, 3, 1, 167, 255, 232, 177]
def by_X5_feel : List (List Nat) := [by_X5_feel_0]
set_option maxRecDepth 100000 in
theorem byo_X5_feel : cX5_feel.data.toList.map UInt8.toNat = by_X5_feel.flatten ++ by_X5_feel_z := by decide +kernel
theorem byl_X5_feel : by_X5_feel.all (fun r => r.length == 16) = true := by decide +kernel
theorem byr_X5_feel_0 {j v : Nat} (h : by_X5_feel_0[j]? = some v) : RD cX5_feel (0 + j) v := rd_16 byo_X5_feel byl_X5_feel 0 rfl h
theorem byr_X5_feel_1 {j v : Nat} (h : by_X5_feel_z[j]? = some v) : RD cX5_feel (16 + j) v := rd_z byo_X5_feel byl_X5_feel 1 rfl h
theorem dX5_feel_0 : decode cX5_feel 0 = .ok (.iconst 0, 1) := dk_3 (byr_X5_feel_0 (j := 0) rfl)
theorem dX5_feel_1 : decode cX5_feel 1 = .ok (.istore_n 3, 1) := dk_62 (byr_X5_feel_0 (j := 1) rfl)
theorem dX5_feel_2 : decode cX5_feel 2 = .ok (.iload_n 3, 1) := dk_29 (byr_X5_feel_0 (j := 2) rfl)
theorem dX5_feel_3 : decode cX5_feel 3 = .ok (.aload_n 0, 1) := dk_42 (byr_X5_feel_0 (j := 3) rfl)
theorem dX5_feel_4 : decode cX5_feel 4 = .ok (.getfield 9, 3) := dk_180 (byr_X5_feel_0 (j := 4) rfl) (byr_X5_feel_0 (j := 5) rfl) (byr_X5_feel_0 (j := 6) rfl) (by decide)
theorem dX5_feel_7 : decode cX5_feel 7 = .ok (.arraylength, 1) := dk_190 (byr_X5_feel_0 (j := 7) rfl)
theorem dX5_feel_8 : decode cX5_feel 8 = .ok (.if_icmp .ge 21, 3) := dk_162 (byr_X5_feel_0 (j := 8) rfl) (byr_X5_feel_0 (j := 9) rfl) (byr_X5_feel_0 (j := 10) rfl) (by decide)
theorem dX5_feel_11 : decode cX5_feel 11 = .ok (.aload_n 0, 1) := dk_42 (byr_X5_feel_0 (j := 11) rfl)
theorem dX5_feel_12 : decode cX5_feel 12 = .ok (.getfield 9, 3) := dk_180 (byr_X5_feel_0 (j := 12) rfl) (byr_X5_feel_0 (j := 13) rfl) (byr_X5_feel_0 (j := 14) rfl) (by decide)
theorem dX5_feel_15 : decode cX5_feel 15 = .ok (.iload_n 3, 1) := dk_29 (byr_X5_feel_0 (j := 15) rfl)
theorem dX5_feel_16 : decode cX5_feel 16 = .ok (.aload_n 1, 1) := dk_43 (byr_X5_feel_1 (j := 0) rfl)
theorem dX5_feel_17 : decode cX5_feel 17 = .ok (.iload_n 3, 1) := dk_29 (byr_X5_feel_1 (j := 1) rfl)
theorem dX5_feel_18 : decode cX5_feel 18 = .ok (.iload_n 2, 1) := dk_28 (byr_X5_feel_1 (j := 2) rfl)
theorem dX5_feel_19 : decode cX5_feel 19 = .ok (.invokevirtual 31, 3) := dk_182 (byr_X5_feel_1 (j := 3) rfl) (byr_X5_feel_1 (j := 4) rfl) (byr_X5_feel_1 (j := 5) rfl) (by decide)
theorem dX5_feel_22 : decode cX5_feel 22 = .ok (.iastore, 1) := dk_79 (byr_X5_feel_1 (j := 6) rfl)
theorem dX5_feel_23 : decode cX5_feel 23 = .ok (.iinc 3 1, 3) := dk_132 (byr_X5_feel_1 (j := 7) rfl) (byr_X5_feel_1 (j := 8) rfl) (byr_X5_feel_1 (j := 9) rfl) (by decide)
theorem dX5_feel_26 : decode cX5_feel 26 = .ok (.goto (-24), 3) := dk_167 (byr_X5_feel_1 (j := 10) rfl) (byr_X5_feel_1 (j := 11) rfl) (byr_X5_feel_1 (j := 12) rfl) (by decide)
theorem dX5_feel_29 : decode cX5_feel 29 = .ok (.return_, 1) := dk_177 (byr_X5_feel_1 (j := 13) rfl)
set_option maxHeartbeats 4000000 in
set_option maxRecDepth 100000 in
theorem c_X5_feel (l : Launch) (G : GT) (σ : Sto) (a1 : Nat) (ha1 : K0 a1 = 0) (a2 : Int32) (r : Sto) (h : f_X5_feel σ a1 a2 = some r) : MW l G (6) (158) 0 0 yX5_feel cX5_feel 4 (Option.none : Option Jvm.ClassFile.FieldType) [.ref (gad G 58), .ref (gad G a1), .int a2] (wl G σ) (none) (wl G r) := by
  refine mw_of RX5 (fiV G) [(0, .ref (gad G 58)), (1, .ref (gad G a1)), (2, .int a2)] (by decide +kernel) rfl (Nat.le_of_ble_eq_true rfl) rfl h rfl (fun p e s m args below meth c X hr hnm => ?_)
  have J2 : ∀ (k1 : Nat) (hk1 : K0 k1 = 0) (v2 : Int32)  (n : Nat) (v3 : Int32) (σ : Sto), Sm p l e { frames := 6, cells := 0, slots := 0, locals := 158 } s m args below meth c G 4 (Qm below args s G 0 0 (fiV G)) 0 0 (wl G σ) 2 [(0, .ref (gad G 58)), (1, .ref (gad G k1)), (2, .int v2), (3, .int v3)] [] (f_X5_feel_L2  k1 v2 n v3 σ) := by
    intro k1 hk1 v2 n
    induction n with
    | zero => intro v3 σ; rw [f_X5_feel_L2]; exact sm_none
    | succ n ihl =>
      intro v3 σ
      rw [f_X5_feel_L2]
      refine sm_iload_n X 3 3 dX5_feel_2 rfl rfl rfl ?_
      refine sm_aload_n X 4 0 dX5_feel_3 rfl rfl rfl ?_
      refine sm_getf X 7 59 rfl fd_5_0 rfl dX5_feel_4 rfl q_186 ?_
      refine sm_alen X 8 6 (Or.inl rfl) rfl dX5_feel_7 rfl ?_
      refine sm_icmp_ge X 11 29 dX5_feel_8 rfl (by decide) (fun h8 => ?_) (fun h8 => ?_)
      · exact sm_vret X hr dX5_feel_29 rfl
      · refine sm_aload_n X 12 0 dX5_feel_11 rfl rfl rfl ?_
        refine sm_getf X 15 59 rfl fd_5_0 rfl dX5_feel_12 rfl q_186 ?_
        refine sm_iload_n X 16 3 dX5_feel_15 rfl rfl rfl ?_
        refine sm_aload_n X 17 1 dX5_feel_16 rfl rfl rfl ?_
        refine sm_iload_n X 18 3 dX5_feel_17 rfl rfl rfl ?_
        refine sm_iload_n X 19 2 dX5_feel_18 rfl rfl rfl ?_
        refine sm_bind (fun r19 h19 => ?_)
        refine sm_callV0 X 22 [.int v3, .int v2] [.int v3, .ref (gad G 59)] [.int r19.1, .int v3, .ref (gad G 59)] (c_X0_flowOf l G σ k1 hk1 v3 v2 r19 h19) cw_X0_flowOf q_344 q_345 q_606 hk1 (by decide) rfl rfl rfl rfl rfl (Nat.le_of_ble_eq_true rfl) ⟨Nat.le_of_ble_eq_true rfl, Nat.le_of_ble_eq_true rfl⟩ ⟨Nat.le_refl _, Nat.le_refl _⟩ dX5_feel_19 rfl ?_
        refine sm_iast X 23 rfl dX5_feel_22 rfl (fun σ22 e22 => ?_)
        clear e22
        refine sm_iinc X 26 3 (1 : Int32) [(3, .int (v3 + (1 : Int32))), (0, .ref (gad G 58)), (1, .ref (gad G k1)), (2, .int v2)] dX5_feel_23 rfl rfl rfl (by decide) rfl ?_
        refine sm_goto X 2 dX5_feel_26 (by decide) ?_
        exact sm_sub [1, 2, 3, 0] rfl (ihl (v3 + (1 : Int32)) σ22)
  unfold f_X5_feel
  refine sm_iconst X 1 (0) dX5_feel_0 rfl rfl ?_
  refine sm_istore_n X 2 [(3, .int 0), (0, .ref (gad G 58)), (1, .ref (gad G a1)), (2, .int a2)] dX5_feel_1 rfl rfl (by decide) rfl ?_
  exact sm_sub [1, 2, 3, 0] rfl (J2 a1 ha1 a2  FU (0 : Int32) σ)
def by_X5_placeBehind_0 : List Nat := [43, 182, 0, 60, 62, 3, 54, 4, 21, 4, 28, 162, 0, 18, 42, 43]
def by_X5_placeBehind_z : List Nat := [29, 21, 4, 182, 0, 64, 62, 132, 4, 1, 167, 255, 238, 29, 172]
def by_X5_placeBehind : List (List Nat) := [by_X5_placeBehind_0]
set_option maxRecDepth 100000 in
theorem byo_X5_placeBehind : cX5_placeBehind.data.toList.map UInt8.toNat = by_X5_placeBehind.flatten ++ by_X5_placeBehind_z := by decide +kernel
theorem byl_X5_placeBehind : by_X5_placeBehind.all (fun r => r.length == 16) = true := by decide +kernel
theorem byr_X5_placeBehind_0 {j v : Nat} (h : by_X5_placeBehind_0[j]? = some v) : RD cX5_placeBehind (0 + j) v := rd_16 byo_X5_placeBehind byl_X5_placeBehind 0 rfl h
theorem byr_X5_placeBehind_1 {j v : Nat} (h : by_X5_placeBehind_z[j]? = some v) : RD cX5_placeBehind (16 + j) v := rd_z byo_X5_placeBehind byl_X5_placeBehind 1 rfl h
theorem dX5_placeBehind_0 : decode cX5_placeBehind 0 = .ok (.aload_n 1, 1) := dk_43 (byr_X5_placeBehind_0 (j := 0) rfl)
theorem dX5_placeBehind_1 : decode cX5_placeBehind 1 = .ok (.invokevirtual 60, 3) := dk_182 (byr_X5_placeBehind_0 (j := 1) rfl) (byr_X5_placeBehind_0 (j := 2) rfl) (byr_X5_placeBehind_0 (j := 3) rfl) (by decide)
theorem dX5_placeBehind_4 : decode cX5_placeBehind 4 = .ok (.istore_n 3, 1) := dk_62 (byr_X5_placeBehind_0 (j := 4) rfl)
theorem dX5_placeBehind_5 : decode cX5_placeBehind 5 = .ok (.iconst 0, 1) := dk_3 (byr_X5_placeBehind_0 (j := 5) rfl)
theorem dX5_placeBehind_6 : decode cX5_placeBehind 6 = .ok (.istore 4, 2) := dk_54 (byr_X5_placeBehind_0 (j := 6) rfl) (byr_X5_placeBehind_0 (j := 7) rfl)
theorem dX5_placeBehind_8 : decode cX5_placeBehind 8 = .ok (.iload 4, 2) := dk_21 (byr_X5_placeBehind_0 (j := 8) rfl) (byr_X5_placeBehind_0 (j := 9) rfl)
theorem dX5_placeBehind_10 : decode cX5_placeBehind 10 = .ok (.iload_n 2, 1) := dk_28 (byr_X5_placeBehind_0 (j := 10) rfl)
theorem dX5_placeBehind_11 : decode cX5_placeBehind 11 = .ok (.if_icmp .ge 18, 3) := dk_162 (byr_X5_placeBehind_0 (j := 11) rfl) (byr_X5_placeBehind_0 (j := 12) rfl) (byr_X5_placeBehind_0 (j := 13) rfl) (by decide)
theorem dX5_placeBehind_14 : decode cX5_placeBehind 14 = .ok (.aload_n 0, 1) := dk_42 (byr_X5_placeBehind_0 (j := 14) rfl)
theorem dX5_placeBehind_15 : decode cX5_placeBehind 15 = .ok (.aload_n 1, 1) := dk_43 (byr_X5_placeBehind_0 (j := 15) rfl)
theorem dX5_placeBehind_16 : decode cX5_placeBehind 16 = .ok (.iload_n 3, 1) := dk_29 (byr_X5_placeBehind_1 (j := 0) rfl)
theorem dX5_placeBehind_17 : decode cX5_placeBehind 17 = .ok (.iload 4, 2) := dk_21 (byr_X5_placeBehind_1 (j := 1) rfl) (byr_X5_placeBehind_1 (j := 2) rfl)
theorem dX5_placeBehind_19 : decode cX5_placeBehind 19 = .ok (.invokevirtual 64, 3) := dk_182 (byr_X5_placeBehind_1 (j := 3) rfl) (byr_X5_placeBehind_1 (j := 4) rfl) (byr_X5_placeBehind_1 (j := 5) rfl) (by decide)
theorem dX5_placeBehind_22 : decode cX5_placeBehind 22 = .ok (.istore_n 3, 1) := dk_62 (byr_X5_placeBehind_1 (j := 6) rfl)
theorem dX5_placeBehind_23 : decode cX5_placeBehind 23 = .ok (.iinc 4 1, 3) := dk_132 (byr_X5_placeBehind_1 (j := 7) rfl) (byr_X5_placeBehind_1 (j := 8) rfl) (byr_X5_placeBehind_1 (j := 9) rfl) (by decide)
theorem dX5_placeBehind_26 : decode cX5_placeBehind 26 = .ok (.goto (-18), 3) := dk_167 (byr_X5_placeBehind_1 (j := 10) rfl) (byr_X5_placeBehind_1 (j := 11) rfl) (byr_X5_placeBehind_1 (j := 12) rfl) (by decide)
theorem dX5_placeBehind_29 : decode cX5_placeBehind 29 = .ok (.iload_n 3, 1) := dk_29 (byr_X5_placeBehind_1 (j := 13) rfl)
theorem dX5_placeBehind_30 : decode cX5_placeBehind 30 = .ok (.ireturn, 1) := dk_172 (byr_X5_placeBehind_1 (j := 14) rfl)
set_option maxHeartbeats 4000000 in
set_option maxRecDepth 100000 in
theorem c_X5_placeBehind (l : Launch) (G : GT) (σ : Sto) (a1 : Nat) (ha1 : K0 a1 = 6) (a2 : Int32) (r : Int32) (h : f_X5_placeBehind σ a1 a2 = some r) : MW l G (5) (134) 0 0 yX5_placeBehind cX5_placeBehind 5 (Option.some Jvm.ClassFile.FieldType.int) [.ref (gad G 58), .ref (gad G a1), .int a2] (wl G σ) (some (.int r)) (wl G σ) := by
  refine mw_of RX5 (fpI G σ) [(0, .ref (gad G 58)), (1, .ref (gad G a1)), (2, .int a2)] (by decide +kernel) rfl (Nat.le_of_ble_eq_true rfl) rfl h rfl (fun p e s m args below meth c X hr hnm => ?_)
  have J8 : ∀ (k1 : Nat) (hk1 : K0 k1 = 6) (v2 : Int32)  (n : Nat) (v3 : Int32) (v4 : Int32) , Sm p l e { frames := 5, cells := 0, slots := 0, locals := 134 } s m args below meth c G 5 (Qm below args s G 0 0 (fpI G σ)) 0 0 (wl G σ) 8 [(0, .ref (gad G 58)), (1, .ref (gad G k1)), (2, .int v2), (3, .int v3), (4, .int v4)] [] (f_X5_placeBehind_L8 σ  k1 v2 n v3 v4) := by
    intro k1 hk1 v2 n
    induction n with
    | zero => intro v3 v4; rw [f_X5_placeBehind_L8]; exact sm_none
    | succ n ihl =>
      intro v3 v4
      rw [f_X5_placeBehind_L8]
      refine sm_iload X 10 4 dX5_placeBehind_8 rfl rfl ?_
      refine sm_iload_n X 11 2 dX5_placeBehind_10 rfl rfl rfl ?_
      refine sm_icmp_ge X 14 29 dX5_placeBehind_11 rfl (by decide) (fun h11 => ?_) (fun h11 => ?_)
      · refine sm_iload_n X 30 3 dX5_placeBehind_29 rfl rfl rfl ?_
        exact sm_iret X hr dX5_placeBehind_30 rfl
      · refine sm_aload_n X 15 0 dX5_placeBehind_14 rfl rfl rfl ?_
        refine sm_aload_n X 16 1 dX5_placeBehind_15 rfl rfl rfl ?_
        refine sm_iload_n X 17 3 dX5_placeBehind_16 rfl rfl rfl ?_
        refine sm_iload X 19 4 dX5_placeBehind_17 rfl rfl ?_
        refine sm_bind (fun r19 h19 => ?_)
        refine sm_callV0 X 22 [.ref (gad G k1), .int v3, .int v4] [] [.int r19] (c_X5_placeNext l G σ k1 hk1 v3 v4 r19 h19) cw_X5_placeNext q_616 q_617 q_615 rfl (by decide) rfl rfl rfl rfl rfl (Nat.le_of_ble_eq_true rfl) ⟨Nat.le_of_ble_eq_true rfl, Nat.le_of_ble_eq_true rfl⟩ ⟨Nat.le_refl _, Nat.le_refl _⟩ dX5_placeBehind_19 rfl ?_
        refine sm_istore_n X 23 [(3, .int r19), (0, .ref (gad G 58)), (1, .ref (gad G k1)), (2, .int v2), (4, .int v4)] dX5_placeBehind_22 rfl rfl (by decide) rfl ?_
        refine sm_iinc X 26 4 (1 : Int32) [(4, .int (v4 + (1 : Int32))), (3, .int r19), (0, .ref (gad G 58)), (1, .ref (gad G k1)), (2, .int v2)] dX5_placeBehind_23 rfl rfl rfl (by decide) rfl ?_
        refine sm_goto X 8 dX5_placeBehind_26 (by decide) ?_
        exact sm_sub [2, 3, 4, 1, 0] rfl (ihl r19 (v4 + (1 : Int32)))
  unfold f_X5_placeBehind
  refine sm_aload_n X 1 1 dX5_placeBehind_0 rfl rfl rfl ?_
  refine sm_bind (fun r1 h1 => ?_)
  refine sm_callV0 X 4 [] [] [.int r1] (c_X6_shore l G σ a1 ha1 r1 h1) cw_X6_shore q_612 q_613 q_611 ha1 (by decide) rfl rfl rfl rfl rfl (Nat.le_of_ble_eq_true rfl) ⟨Nat.le_of_ble_eq_true rfl, Nat.le_of_ble_eq_true rfl⟩ ⟨Nat.le_refl _, Nat.le_refl _⟩ dX5_placeBehind_1 rfl ?_
  refine sm_istore_n X 5 [(3, .int r1), (0, .ref (gad G 58)), (1, .ref (gad G a1)), (2, .int a2)] dX5_placeBehind_4 rfl rfl (by decide) rfl ?_
  refine sm_iconst X 6 (0) dX5_placeBehind_5 rfl rfl ?_
  refine sm_istore X 8 [(4, .int 0), (3, .int r1), (0, .ref (gad G 58)), (1, .ref (gad G a1)), (2, .int a2)] dX5_placeBehind_6 rfl (by decide) rfl ?_
  exact sm_sub [2, 3, 4, 1, 0] rfl (J8 a1 ha1 a2  FU r1 (0 : Int32))
def by_X5_begin_0 : List Nat := [42, 43, 182, 0, 60, 181, 0, 25, 42, 44, 182, 0, 60, 181, 0, 28]
def by_X5_begin_z : List Nat := [177]
def by_X5_begin : List (List Nat) := [by_X5_begin_0]
set_option maxRecDepth 100000 in
theorem byo_X5_begin : cX5_begin.data.toList.map UInt8.toNat = by_X5_begin.flatten ++ by_X5_begin_z := by decide +kernel
theorem byl_X5_begin : by_X5_begin.all (fun r => r.length == 16) = true := by decide +kernel
theorem byr_X5_begin_0 {j v : Nat} (h : by_X5_begin_0[j]? = some v) : RD cX5_begin (0 + j) v := rd_16 byo_X5_begin byl_X5_begin 0 rfl h
theorem byr_X5_begin_1 {j v : Nat} (h : by_X5_begin_z[j]? = some v) : RD cX5_begin (16 + j) v := rd_z byo_X5_begin byl_X5_begin 1 rfl h
theorem dX5_begin_0 : decode cX5_begin 0 = .ok (.aload_n 0, 1) := dk_42 (byr_X5_begin_0 (j := 0) rfl)
theorem dX5_begin_1 : decode cX5_begin 1 = .ok (.aload_n 1, 1) := dk_43 (byr_X5_begin_0 (j := 1) rfl)
theorem dX5_begin_2 : decode cX5_begin 2 = .ok (.invokevirtual 60, 3) := dk_182 (byr_X5_begin_0 (j := 2) rfl) (byr_X5_begin_0 (j := 3) rfl) (byr_X5_begin_0 (j := 4) rfl) (by decide)
theorem dX5_begin_5 : decode cX5_begin 5 = .ok (.putfield 25, 3) := dk_181 (byr_X5_begin_0 (j := 5) rfl) (byr_X5_begin_0 (j := 6) rfl) (byr_X5_begin_0 (j := 7) rfl) (by decide)
theorem dX5_begin_8 : decode cX5_begin 8 = .ok (.aload_n 0, 1) := dk_42 (byr_X5_begin_0 (j := 8) rfl)
theorem dX5_begin_9 : decode cX5_begin 9 = .ok (.aload_n 2, 1) := dk_44 (byr_X5_begin_0 (j := 9) rfl)
theorem dX5_begin_10 : decode cX5_begin 10 = .ok (.invokevirtual 60, 3) := dk_182 (byr_X5_begin_0 (j := 10) rfl) (byr_X5_begin_0 (j := 11) rfl) (byr_X5_begin_0 (j := 12) rfl) (by decide)
theorem dX5_begin_13 : decode cX5_begin 13 = .ok (.putfield 28, 3) := dk_181 (byr_X5_begin_0 (j := 13) rfl) (byr_X5_begin_0 (j := 14) rfl) (byr_X5_begin_0 (j := 15) rfl) (by decide)
theorem dX5_begin_16 : decode cX5_begin 16 = .ok (.return_, 1) := dk_177 (byr_X5_begin_1 (j := 0) rfl)
set_option maxHeartbeats 4000000 in
set_option maxRecDepth 100000 in
theorem c_X5_begin (l : Launch) (G : GT) (σ : Sto) (a1 : Nat) (ha1 : K0 a1 = 6) (a2 : Nat) (ha2 : K0 a2 = 6) (r : Sto) (h : f_X5_begin σ a1 a2 = some r) : MW l G (3) (84) 0 0 yX5_begin cX5_begin 3 (Option.none : Option Jvm.ClassFile.FieldType) [.ref (gad G 58), .ref (gad G a1), .ref (gad G a2)] (wl G σ) (none) (wl G r) := by
  refine mw_of RX5 (fiV G) [(0, .ref (gad G 58)), (1, .ref (gad G a1)), (2, .ref (gad G a2))] (by decide +kernel) rfl (Nat.le_of_ble_eq_true rfl) rfl h rfl (fun p e s m args below meth c X hr hnm => ?_)
  unfold f_X5_begin
  refine sm_aload_n X 1 0 dX5_begin_0 rfl rfl rfl ?_
  refine sm_aload_n X 2 1 dX5_begin_1 rfl rfl rfl ?_
  refine sm_bind (fun r2 h2 => ?_)
  refine sm_callV0 X 5 [] [.ref (gad G 58)] [.int r2, .ref (gad G 58)] (c_X6_shore l G σ a1 ha1 r2 h2) cw_X6_shore q_612 q_613 q_611 ha1 (by decide) rfl rfl rfl rfl rfl (Nat.le_of_ble_eq_true rfl) ⟨Nat.le_of_ble_eq_true rfl, Nat.le_of_ble_eq_true rfl⟩ ⟨Nat.le_refl _, Nat.le_refl _⟩ dX5_begin_2 rfl ?_
  refine sm_puti X 8 .int rfl fd_5_4 (by decide) rfl rfl rfl dX5_begin_5 rfl q_193 (fun σ5 e5 => ?_)
  clear e5
  refine sm_aload_n X 9 0 dX5_begin_8 rfl rfl rfl ?_
  refine sm_aload_n X 10 2 dX5_begin_9 rfl rfl rfl ?_
  refine sm_bind (fun r10 h10 => ?_)
  refine sm_callV0 X 13 [] [.ref (gad G 58)] [.int r10, .ref (gad G 58)] (c_X6_shore l G σ5 a2 ha2 r10 h10) cw_X6_shore q_612 q_613 q_611 ha2 (by decide) rfl rfl rfl rfl rfl (Nat.le_of_ble_eq_true rfl) ⟨Nat.le_of_ble_eq_true rfl, Nat.le_of_ble_eq_true rfl⟩ ⟨Nat.le_refl _, Nat.le_refl _⟩ dX5_begin_10 rfl ?_
  refine sm_puti X 16 .int rfl fd_5_5 (by decide) rfl rfl rfl dX5_begin_13 rfl q_194 (fun σ13 e13 => ?_)
  clear e13
  exact sm_vret X hr dX5_begin_16 rfl
def by_X5_gap_0 : List Nat := [43, 180, 0, 47, 154, 0, 15, 42, 180, 0, 28, 42, 180, 0, 25, 100]
def by_X5_gap_z : List Nat := [167, 0, 12, 42, 180, 0, 25, 42, 180, 0, 28, 100, 172]
def by_X5_gap : List (List Nat) := [by_X5_gap_0]
set_option maxRecDepth 100000 in
theorem byo_X5_gap : cX5_gap.data.toList.map UInt8.toNat = by_X5_gap.flatten ++ by_X5_gap_z := by decide +kernel
theorem byl_X5_gap : by_X5_gap.all (fun r => r.length == 16) = true := by decide +kernel
theorem byr_X5_gap_0 {j v : Nat} (h : by_X5_gap_0[j]? = some v) : RD cX5_gap (0 + j) v := rd_16 byo_X5_gap byl_X5_gap 0 rfl h
theorem byr_X5_gap_1 {j v : Nat} (h : by_X5_gap_z[j]? = some v) : RD cX5_gap (16 + j) v := rd_z byo_X5_gap byl_X5_gap 1 rfl h
theorem dX5_gap_0 : decode cX5_gap 0 = .ok (.aload_n 1, 1) := dk_43 (byr_X5_gap_0 (j := 0) rfl)
theorem dX5_gap_1 : decode cX5_gap 1 = .ok (.getfield 47, 3) := dk_180 (byr_X5_gap_0 (j := 1) rfl) (byr_X5_gap_0 (j := 2) rfl) (byr_X5_gap_0 (j := 3) rfl) (by decide)
theorem dX5_gap_4 : decode cX5_gap 4 = .ok (.ifCond .ne 15, 3) := dk_154 (byr_X5_gap_0 (j := 4) rfl) (byr_X5_gap_0 (j := 5) rfl) (byr_X5_gap_0 (j := 6) rfl) (by decide)
theorem dX5_gap_7 : decode cX5_gap 7 = .ok (.aload_n 0, 1) := dk_42 (byr_X5_gap_0 (j := 7) rfl)
theorem dX5_gap_8 : decode cX5_gap 8 = .ok (.getfield 28, 3) := dk_180 (byr_X5_gap_0 (j := 8) rfl) (byr_X5_gap_0 (j := 9) rfl) (byr_X5_gap_0 (j := 10) rfl) (by decide)
theorem dX5_gap_11 : decode cX5_gap 11 = .ok (.aload_n 0, 1) := dk_42 (byr_X5_gap_0 (j := 11) rfl)
theorem dX5_gap_12 : decode cX5_gap 12 = .ok (.getfield 25, 3) := dk_180 (byr_X5_gap_0 (j := 12) rfl) (byr_X5_gap_0 (j := 13) rfl) (byr_X5_gap_0 (j := 14) rfl) (by decide)
theorem dX5_gap_15 : decode cX5_gap 15 = .ok (.isub, 1) := dk_100 (byr_X5_gap_0 (j := 15) rfl)
theorem dX5_gap_16 : decode cX5_gap 16 = .ok (.goto 12, 3) := dk_167 (byr_X5_gap_1 (j := 0) rfl) (byr_X5_gap_1 (j := 1) rfl) (byr_X5_gap_1 (j := 2) rfl) (by decide)
theorem dX5_gap_19 : decode cX5_gap 19 = .ok (.aload_n 0, 1) := dk_42 (byr_X5_gap_1 (j := 3) rfl)
theorem dX5_gap_20 : decode cX5_gap 20 = .ok (.getfield 25, 3) := dk_180 (byr_X5_gap_1 (j := 4) rfl) (byr_X5_gap_1 (j := 5) rfl) (byr_X5_gap_1 (j := 6) rfl) (by decide)
theorem dX5_gap_23 : decode cX5_gap 23 = .ok (.aload_n 0, 1) := dk_42 (byr_X5_gap_1 (j := 7) rfl)
theorem dX5_gap_24 : decode cX5_gap 24 = .ok (.getfield 28, 3) := dk_180 (byr_X5_gap_1 (j := 8) rfl) (byr_X5_gap_1 (j := 9) rfl) (byr_X5_gap_1 (j := 10) rfl) (by decide)
theorem dX5_gap_27 : decode cX5_gap 27 = .ok (.isub, 1) := dk_100 (byr_X5_gap_1 (j := 11) rfl)
theorem dX5_gap_28 : decode cX5_gap 28 = .ok (.ireturn, 1) := dk_172 (byr_X5_gap_1 (j := 12) rfl)
set_option maxHeartbeats 4000000 in
set_option maxRecDepth 100000 in
theorem c_X5_gap (l : Launch) (G : GT) (σ : Sto) (a1 : Nat) (ha1 : K0 a1 = 6) (r : Int32) (h : f_X5_gap σ a1 = some r) : MW l G (2) (64) 0 0 yX5_gap cX5_gap 2 (Option.some Jvm.ClassFile.FieldType.int) [.ref (gad G 58), .ref (gad G a1)] (wl G σ) (some (.int r)) (wl G σ) := by
  refine mw_of RX5 (fpI G σ) [(0, .ref (gad G 58)), (1, .ref (gad G a1))] (by decide +kernel) rfl (Nat.le_of_ble_eq_true rfl) rfl h rfl (fun p e s m args below meth c X hr hnm => ?_)
  unfold f_X5_gap
  refine sm_aload_n X 1 1 dX5_gap_0 rfl rfl rfl ?_
  refine sm_geti X 4 ha1 fd_6_2 dX5_gap_1 rfl q_66 ?_
  refine sm_if_ne X 7 19 dX5_gap_4 rfl (by decide) (fun h4 => ?_) (fun h4 => ?_)
  · refine sm_aload_n X 8 0 dX5_gap_7 rfl rfl rfl ?_
    refine sm_geti X 11 rfl fd_5_5 dX5_gap_8 rfl q_194 ?_
    refine sm_aload_n X 12 0 dX5_gap_11 rfl rfl rfl ?_
    refine sm_geti X 15 rfl fd_5_4 dX5_gap_12 rfl q_193 ?_
    refine sm_isub X 16 dX5_gap_15 rfl ?_
    refine sm_goto X 28 dX5_gap_16 (by decide) ?_
    exact sm_iret X hr dX5_gap_28 rfl
  · refine sm_aload_n X 20 0 dX5_gap_19 rfl rfl rfl ?_
    refine sm_geti X 23 rfl fd_5_4 dX5_gap_20 rfl q_193 ?_
    refine sm_aload_n X 24 0 dX5_gap_23 rfl rfl rfl ?_
    refine sm_geti X 27 rfl fd_5_5 dX5_gap_24 rfl q_194 ?_
    refine sm_isub X 28 dX5_gap_27 rfl ?_
    exact sm_iret X hr dX5_gap_28 rfl
def by_X5_meets_0 : List Nat := [42, 43, 44, 182, 0, 68, 3, 54, 4, 21, 4, 16, 60, 162, 0, 96]
def by_X5_meets_1 : List Nat := [42, 42, 43, 42, 180, 0, 25, 21, 4, 182, 0, 64, 181, 0, 25, 42]
def by_X5_meets_2 : List Nat := [42, 44, 42, 180, 0, 28, 21, 4, 182, 0, 64, 181, 0, 28, 43, 21]
def by_X5_meets_3 : List Nat := [4, 182, 0, 50, 44, 21, 4, 182, 0, 50, 160, 0, 45, 42, 43, 182]
def by_X5_meets_4 : List Nat := [0, 72, 29, 163, 0, 36, 42, 21, 4, 181, 0, 15, 42, 42, 180, 0]
def by_X5_meets_5 : List Nat := [25, 42, 180, 0, 28, 96, 5, 108, 181, 0, 19, 42, 43, 21, 4, 182]
def by_X5_meets_z : List Nat := [0, 50, 181, 0, 22, 4, 172, 132, 4, 1, 167, 255, 159, 3, 172]
def by_X5_meets : List (List Nat) := [by_X5_meets_0, by_X5_meets_1, by_X5_meets_2, by_X5_meets_3, by_X5_meets_4, by_X5_meets_5]
set_option maxRecDepth 100000 in
theorem byo_X5_meets : cX5_meets.data.toList.map UInt8.toNat = by_X5_meets.flatten ++ by_X5_meets_z := by decide +kernel
theorem byl_X5_meets : by_X5_meets.all (fun r => r.length == 16) = true := by decide +kernel
theorem byr_X5_meets_0 {j v : Nat} (h : by_X5_meets_0[j]? = some v) : RD cX5_meets (0 + j) v := rd_16 byo_X5_meets byl_X5_meets 0 rfl h
theorem byr_X5_meets_1 {j v : Nat} (h : by_X5_meets_1[j]? = some v) : RD cX5_meets (16 + j) v := rd_16 byo_X5_meets byl_X5_meets 1 rfl h
theorem byr_X5_meets_2 {j v : Nat} (h : by_X5_meets_2[j]? = some v) : RD cX5_meets (32 + j) v := rd_16 byo_X5_meets byl_X5_meets 2 rfl h
theorem byr_X5_meets_3 {j v : Nat} (h : by_X5_meets_3[j]? = some v) : RD cX5_meets (48 + j) v := rd_16 byo_X5_meets byl_X5_meets 3 rfl h
theorem byr_X5_meets_4 {j v : Nat} (h : by_X5_meets_4[j]? = some v) : RD cX5_meets (64 + j) v := rd_16 byo_X5_meets byl_X5_meets 4 rfl h
theorem byr_X5_meets_5 {j v : Nat} (h : by_X5_meets_5[j]? = some v) : RD cX5_meets (80 + j) v := rd_16 byo_X5_meets byl_X5_meets 5 rfl h
theorem byr_X5_meets_6 {j v : Nat} (h : by_X5_meets_z[j]? = some v) : RD cX5_meets (96 + j) v := rd_z byo_X5_meets byl_X5_meets 6 rfl h
theorem dX5_meets_0 : decode cX5_meets 0 = .ok (.aload_n 0, 1) := dk_42 (byr_X5_meets_0 (j := 0) rfl)
theorem dX5_meets_1 : decode cX5_meets 1 = .ok (.aload_n 1, 1) := dk_43 (byr_X5_meets_0 (j := 1) rfl)
theorem dX5_meets_2 : decode cX5_meets 2 = .ok (.aload_n 2, 1) := dk_44 (byr_X5_meets_0 (j := 2) rfl)
theorem dX5_meets_3 : decode cX5_meets 3 = .ok (.invokevirtual 68, 3) := dk_182 (byr_X5_meets_0 (j := 3) rfl) (byr_X5_meets_0 (j := 4) rfl) (byr_X5_meets_0 (j := 5) rfl) (by decide)
theorem dX5_meets_6 : decode cX5_meets 6 = .ok (.iconst 0, 1) := dk_3 (byr_X5_meets_0 (j := 6) rfl)
theorem dX5_meets_7 : decode cX5_meets 7 = .ok (.istore 4, 2) := dk_54 (byr_X5_meets_0 (j := 7) rfl) (byr_X5_meets_0 (j := 8) rfl)
theorem dX5_meets_9 : decode cX5_meets 9 = .ok (.iload 4, 2) := dk_21 (byr_X5_meets_0 (j := 9) rfl) (byr_X5_meets_0 (j := 10) rfl)
theorem dX5_meets_11 : decode cX5_meets 11 = .ok (.bipush 60, 2) := dk_16 (byr_X5_meets_0 (j := 11) rfl) (byr_X5_meets_0 (j := 12) rfl) (by decide)
theorem dX5_meets_13 : decode cX5_meets 13 = .ok (.if_icmp .ge 96, 3) := dk_162 (byr_X5_meets_0 (j := 13) rfl) (byr_X5_meets_0 (j := 14) rfl) (byr_X5_meets_0 (j := 15) rfl) (by decide)
theorem dX5_meets_16 : decode cX5_meets 16 = .ok (.aload_n 0, 1) := dk_42 (byr_X5_meets_1 (j := 0) rfl)
theorem dX5_meets_17 : decode cX5_meets 17 = .ok (.aload_n 0, 1) := dk_42 (byr_X5_meets_1 (j := 1) rfl)
theorem dX5_meets_18 : decode cX5_meets 18 = .ok (.aload_n 1, 1) := dk_43 (byr_X5_meets_1 (j := 2) rfl)
theorem dX5_meets_19 : decode cX5_meets 19 = .ok (.aload_n 0, 1) := dk_42 (byr_X5_meets_1 (j := 3) rfl)
theorem dX5_meets_20 : decode cX5_meets 20 = .ok (.getfield 25, 3) := dk_180 (byr_X5_meets_1 (j := 4) rfl) (byr_X5_meets_1 (j := 5) rfl) (byr_X5_meets_1 (j := 6) rfl) (by decide)
theorem dX5_meets_23 : decode cX5_meets 23 = .ok (.iload 4, 2) := dk_21 (byr_X5_meets_1 (j := 7) rfl) (byr_X5_meets_1 (j := 8) rfl)
theorem dX5_meets_25 : decode cX5_meets 25 = .ok (.invokevirtual 64, 3) := dk_182 (byr_X5_meets_1 (j := 9) rfl) (byr_X5_meets_1 (j := 10) rfl) (byr_X5_meets_1 (j := 11) rfl) (by decide)
theorem dX5_meets_28 : decode cX5_meets 28 = .ok (.putfield 25, 3) := dk_181 (byr_X5_meets_1 (j := 12) rfl) (byr_X5_meets_1 (j := 13) rfl) (byr_X5_meets_1 (j := 14) rfl) (by decide)
theorem dX5_meets_31 : decode cX5_meets 31 = .ok (.aload_n 0, 1) := dk_42 (byr_X5_meets_1 (j := 15) rfl)
theorem dX5_meets_32 : decode cX5_meets 32 = .ok (.aload_n 0, 1) := dk_42 (byr_X5_meets_2 (j := 0) rfl)
theorem dX5_meets_33 : decode cX5_meets 33 = .ok (.aload_n 2, 1) := dk_44 (byr_X5_meets_2 (j := 1) rfl)
theorem dX5_meets_34 : decode cX5_meets 34 = .ok (.aload_n 0, 1) := dk_42 (byr_X5_meets_2 (j := 2) rfl)
theorem dX5_meets_35 : decode cX5_meets 35 = .ok (.getfield 28, 3) := dk_180 (byr_X5_meets_2 (j := 3) rfl) (byr_X5_meets_2 (j := 4) rfl) (byr_X5_meets_2 (j := 5) rfl) (by decide)
theorem dX5_meets_38 : decode cX5_meets 38 = .ok (.iload 4, 2) := dk_21 (byr_X5_meets_2 (j := 6) rfl) (byr_X5_meets_2 (j := 7) rfl)
theorem dX5_meets_40 : decode cX5_meets 40 = .ok (.invokevirtual 64, 3) := dk_182 (byr_X5_meets_2 (j := 8) rfl) (byr_X5_meets_2 (j := 9) rfl) (byr_X5_meets_2 (j := 10) rfl) (by decide)
theorem dX5_meets_43 : decode cX5_meets 43 = .ok (.putfield 28, 3) := dk_181 (byr_X5_meets_2 (j := 11) rfl) (byr_X5_meets_2 (j := 12) rfl) (byr_X5_meets_2 (j := 13) rfl) (by decide)
theorem dX5_meets_46 : decode cX5_meets 46 = .ok (.aload_n 1, 1) := dk_43 (byr_X5_meets_2 (j := 14) rfl)
theorem dX5_meets_47 : decode cX5_meets 47 = .ok (.iload 4, 2) := dk_21 (byr_X5_meets_2 (j := 15) rfl) (byr_X5_meets_3 (j := 0) rfl)
theorem dX5_meets_49 : decode cX5_meets 49 = .ok (.invokevirtual 50, 3) := dk_182 (byr_X5_meets_3 (j := 1) rfl) (byr_X5_meets_3 (j := 2) rfl) (byr_X5_meets_3 (j := 3) rfl) (by decide)
theorem dX5_meets_52 : decode cX5_meets 52 = .ok (.aload_n 2, 1) := dk_44 (byr_X5_meets_3 (j := 4) rfl)
theorem dX5_meets_53 : decode cX5_meets 53 = .ok (.iload 4, 2) := dk_21 (byr_X5_meets_3 (j := 5) rfl) (byr_X5_meets_3 (j := 6) rfl)
theorem dX5_meets_55 : decode cX5_meets 55 = .ok (.invokevirtual 50, 3) := dk_182 (byr_X5_meets_3 (j := 7) rfl) (byr_X5_meets_3 (j := 8) rfl) (byr_X5_meets_3 (j := 9) rfl) (by decide)
theorem dX5_meets_58 : decode cX5_meets 58 = .ok (.if_icmp .ne 45, 3) := dk_160 (byr_X5_meets_3 (j := 10) rfl) (byr_X5_meets_3 (j := 11) rfl) (byr_X5_meets_3 (j := 12) rfl) (by decide)
theorem dX5_meets_61 : decode cX5_meets 61 = .ok (.aload_n 0, 1) := dk_42 (byr_X5_meets_3 (j := 13) rfl)
theorem dX5_meets_62 : decode cX5_meets 62 = .ok (.aload_n 1, 1) := dk_43 (byr_X5_meets_3 (j := 14) rfl)
theorem dX5_meets_63 : decode cX5_meets 63 = .ok (.invokevirtual 72, 3) := dk_182 (byr_X5_meets_3 (j := 15) rfl) (byr_X5_meets_4 (j := 0) rfl) (byr_X5_meets_4 (j := 1) rfl) (by decide)
theorem dX5_meets_66 : decode cX5_meets 66 = .ok (.iload_n 3, 1) := dk_29 (byr_X5_meets_4 (j := 2) rfl)
theorem dX5_meets_67 : decode cX5_meets 67 = .ok (.if_icmp .gt 36, 3) := dk_163 (byr_X5_meets_4 (j := 3) rfl) (byr_X5_meets_4 (j := 4) rfl) (byr_X5_meets_4 (j := 5) rfl) (by decide)
theorem dX5_meets_70 : decode cX5_meets 70 = .ok (.aload_n 0, 1) := dk_42 (byr_X5_meets_4 (j := 6) rfl)
theorem dX5_meets_71 : decode cX5_meets 71 = .ok (.iload 4, 2) := dk_21 (byr_X5_meets_4 (j := 7) rfl) (byr_X5_meets_4 (j := 8) rfl)
theorem dX5_meets_73 : decode cX5_meets 73 = .ok (.putfield 15, 3) := dk_181 (byr_X5_meets_4 (j := 9) rfl) (byr_X5_meets_4 (j := 10) rfl) (byr_X5_meets_4 (j := 11) rfl) (by decide)
theorem dX5_meets_76 : decode cX5_meets 76 = .ok (.aload_n 0, 1) := dk_42 (byr_X5_meets_4 (j := 12) rfl)
theorem dX5_meets_77 : decode cX5_meets 77 = .ok (.aload_n 0, 1) := dk_42 (byr_X5_meets_4 (j := 13) rfl)
theorem dX5_meets_78 : decode cX5_meets 78 = .ok (.getfield 25, 3) := dk_180 (byr_X5_meets_4 (j := 14) rfl) (byr_X5_meets_4 (j := 15) rfl) (byr_X5_meets_5 (j := 0) rfl) (by decide)
theorem dX5_meets_81 : decode cX5_meets 81 = .ok (.aload_n 0, 1) := dk_42 (byr_X5_meets_5 (j := 1) rfl)
theorem dX5_meets_82 : decode cX5_meets 82 = .ok (.getfield 28, 3) := dk_180 (byr_X5_meets_5 (j := 2) rfl) (byr_X5_meets_5 (j := 3) rfl) (byr_X5_meets_5 (j := 4) rfl) (by decide)
theorem dX5_meets_85 : decode cX5_meets 85 = .ok (.iadd, 1) := dk_96 (byr_X5_meets_5 (j := 5) rfl)
theorem dX5_meets_86 : decode cX5_meets 86 = .ok (.iconst 2, 1) := dk_5 (byr_X5_meets_5 (j := 6) rfl)
theorem dX5_meets_87 : decode cX5_meets 87 = .ok (.idiv, 1) := dk_108 (byr_X5_meets_5 (j := 7) rfl)
theorem dX5_meets_88 : decode cX5_meets 88 = .ok (.putfield 19, 3) := dk_181 (byr_X5_meets_5 (j := 8) rfl) (byr_X5_meets_5 (j := 9) rfl) (byr_X5_meets_5 (j := 10) rfl) (by decide)
theorem dX5_meets_91 : decode cX5_meets 91 = .ok (.aload_n 0, 1) := dk_42 (byr_X5_meets_5 (j := 11) rfl)
theorem dX5_meets_92 : decode cX5_meets 92 = .ok (.aload_n 1, 1) := dk_43 (byr_X5_meets_5 (j := 12) rfl)
theorem dX5_meets_93 : decode cX5_meets 93 = .ok (.iload 4, 2) := dk_21 (byr_X5_meets_5 (j := 13) rfl) (byr_X5_meets_5 (j := 14) rfl)
theorem dX5_meets_95 : decode cX5_meets 95 = .ok (.invokevirtual 50, 3) := dk_182 (byr_X5_meets_5 (j := 15) rfl) (byr_X5_meets_6 (j := 0) rfl) (byr_X5_meets_6 (j := 1) rfl) (by decide)
theorem dX5_meets_98 : decode cX5_meets 98 = .ok (.putfield 22, 3) := dk_181 (byr_X5_meets_6 (j := 2) rfl) (byr_X5_meets_6 (j := 3) rfl) (byr_X5_meets_6 (j := 4) rfl) (by decide)
theorem dX5_meets_101 : decode cX5_meets 101 = .ok (.iconst 1, 1) := dk_4 (byr_X5_meets_6 (j := 5) rfl)
theorem dX5_meets_102 : decode cX5_meets 102 = .ok (.ireturn, 1) := dk_172 (byr_X5_meets_6 (j := 6) rfl)
theorem dX5_meets_103 : decode cX5_meets 103 = .ok (.iinc 4 1, 3) := dk_132 (byr_X5_meets_6 (j := 7) rfl) (byr_X5_meets_6 (j := 8) rfl) (byr_X5_meets_6 (j := 9) rfl) (by decide)
theorem dX5_meets_106 : decode cX5_meets 106 = .ok (.goto (-97), 3) := dk_167 (byr_X5_meets_6 (j := 10) rfl) (byr_X5_meets_6 (j := 11) rfl) (byr_X5_meets_6 (j := 12) rfl) (by decide)
theorem dX5_meets_109 : decode cX5_meets 109 = .ok (.iconst 0, 1) := dk_3 (byr_X5_meets_6 (j := 13) rfl)
theorem dX5_meets_110 : decode cX5_meets 110 = .ok (.ireturn, 1) := dk_172 (byr_X5_meets_6 (j := 14) rfl)
set_option maxHeartbeats 4000000 in
set_option maxRecDepth 100000 in
theorem c_X5_meets (l : Launch) (G : GT) (σ : Sto) (a1 : Nat) (ha1 : K0 a1 = 6) (a2 : Nat) (ha2 : K0 a2 = 6) (a3 : Int32) (r : (Bool × Sto)) (h : f_X5_meets σ a1 a2 a3 = some r) : MW l G (5) (134) 0 0 yX5_meets cX5_meets 5 (Option.some Jvm.ClassFile.FieldType.boolean) [.ref (gad G 58), .ref (gad G a1), .ref (gad G a2), .int a3] (wl G σ) (some (.int (b2i r.1))) (wl G r.2) := by
  refine mw_of RX5 (fiZ G) [(0, .ref (gad G 58)), (1, .ref (gad G a1)), (2, .ref (gad G a2)), (3, .int a3)] (by decide +kernel) rfl (Nat.le_of_ble_eq_true rfl) rfl h rfl (fun p e s m args below meth c X hr hnm => ?_)
  have J103 : ∀ (k1 : Nat) (hk1 : K0 k1 = 6) (k2 : Nat) (hk2 : K0 k2 = 6) (v3 : Int32) (v4 : Int32) (K9 : Int32 → Sto → Option (Bool × Sto)) (hK9 : ∀ (v4' : Int32) (σ' : Sto), Sm p l e { frames := 5, cells := 0, slots := 0, locals := 134 } s m args below meth c G 5 (Qm below args s G 0 0 (fiZ G)) 0 0 (wl G σ') 9 [(0, .ref (gad G 58)), (1, .ref (gad G k1)), (2, .ref (gad G k2)), (3, .int v3), (4, .int v4')] [] (K9 v4' σ')) (σ : Sto), Sm p l e { frames := 5, cells := 0, slots := 0, locals := 134 } s m args below meth c G 5 (Qm below args s G 0 0 (fiZ G)) 0 0 (wl G σ) 103 [(0, .ref (gad G 58)), (1, .ref (gad G k1)), (2, .ref (gad G k2)), (3, .int v3), (4, .int v4)] [] (f_X5_meets_L103 K9 k1 k2 v3 v4 σ) := by
    intro k1 hk1 k2 hk2 v3 v4 K9 hK9 σ
    rw [f_X5_meets_L103]
    refine sm_iinc X 106 4 (1 : Int32) [(4, .int (v4 + (1 : Int32))), (0, .ref (gad G 58)), (1, .ref (gad G k1)), (2, .ref (gad G k2)), (3, .int v3)] dX5_meets_103 rfl rfl rfl (by decide) rfl ?_
    refine sm_goto X 9 dX5_meets_106 (by decide) ?_
    exact sm_sub [1, 2, 3, 4, 0] rfl (hK9 (v4 + (1 : Int32)) σ)
  have J9 : ∀ (k1 : Nat) (hk1 : K0 k1 = 6) (k2 : Nat) (hk2 : K0 k2 = 6) (v3 : Int32)  (n : Nat) (v4 : Int32) (σ : Sto), Sm p l e { frames := 5, cells := 0, slots := 0, locals := 134 } s m args below meth c G 5 (Qm below args s G 0 0 (fiZ G)) 0 0 (wl G σ) 9 [(0, .ref (gad G 58)), (1, .ref (gad G k1)), (2, .ref (gad G k2)), (3, .int v3), (4, .int v4)] [] (f_X5_meets_L9  k1 k2 v3 n v4 σ) := by
    intro k1 hk1 k2 hk2 v3 n
    induction n with
    | zero => intro v4 σ; rw [f_X5_meets_L9]; exact sm_none
    | succ n ihl =>
      intro v4 σ
      rw [f_X5_meets_L9]
      refine sm_iload X 11 4 dX5_meets_9 rfl rfl ?_
      refine sm_bipush X 13 (60) dX5_meets_11 rfl rfl ?_
      refine sm_icmp_ge X 16 109 dX5_meets_13 rfl (by decide) (fun h13 => ?_) (fun h13 => ?_)
      · refine sm_iconst X 110 (0) dX5_meets_109 rfl rfl ?_
        exact sm_zret X (v := false) hr dX5_meets_110 rfl
      · refine sm_aload_n X 17 0 dX5_meets_16 rfl rfl rfl ?_
        refine sm_aload_n X 18 0 dX5_meets_17 rfl rfl rfl ?_
        refine sm_aload_n X 19 1 dX5_meets_18 rfl rfl rfl ?_
        refine sm_aload_n X 20 0 dX5_meets_19 rfl rfl rfl ?_
        refine sm_geti X 23 rfl fd_5_4 dX5_meets_20 rfl q_193 ?_
        refine sm_iload X 25 4 dX5_meets_23 rfl rfl ?_
        refine sm_bind (fun r25 h25 => ?_)
        refine sm_callV0 X 28 [.ref (gad G k1), .int (σ.1 58 4), .int v4] [.ref (gad G 58)] [.int r25, .ref (gad G 58)] (c_X5_placeNext l G σ k1 hk1 (σ.1 58 4) v4 r25 h25) cw_X5_placeNext q_616 q_617 q_615 rfl (by decide) rfl rfl rfl rfl rfl (Nat.le_of_ble_eq_true rfl) ⟨Nat.le_of_ble_eq_true rfl, Nat.le_of_ble_eq_true rfl⟩ ⟨Nat.le_refl _, Nat.le_refl _⟩ dX5_meets_25 rfl ?_
        refine sm_puti X 31 .int rfl fd_5_4 (by decide) rfl rfl rfl dX5_meets_28 rfl q_193 (fun σ28 e28 => ?_)
        clear e28
        refine sm_aload_n X 32 0 dX5_meets_31 rfl rfl rfl ?_
        refine sm_aload_n X 33 0 dX5_meets_32 rfl rfl rfl ?_
        refine sm_aload_n X 34 2 dX5_meets_33 rfl rfl rfl ?_
        refine sm_aload_n X 35 0 dX5_meets_34 rfl rfl rfl ?_
        refine sm_geti X 38 rfl fd_5_5 dX5_meets_35 rfl q_194 ?_
        refine sm_iload X 40 4 dX5_meets_38 rfl rfl ?_
        refine sm_bind (fun r40 h40 => ?_)
        refine sm_callV0 X 43 [.ref (gad G k2), .int (σ28.1 58 5), .int v4] [.ref (gad G 58)] [.int r40, .ref (gad G 58)] (c_X5_placeNext l G σ28 k2 hk2 (σ28.1 58 5) v4 r40 h40) cw_X5_placeNext q_616 q_617 q_615 rfl (by decide) rfl rfl rfl rfl rfl (Nat.le_of_ble_eq_true rfl) ⟨Nat.le_of_ble_eq_true rfl, Nat.le_of_ble_eq_true rfl⟩ ⟨Nat.le_refl _, Nat.le_refl _⟩ dX5_meets_40 rfl ?_
        refine sm_puti X 46 .int rfl fd_5_5 (by decide) rfl rfl rfl dX5_meets_43 rfl q_194 (fun σ43 e43 => ?_)
        clear e43
        refine sm_aload_n X 47 1 dX5_meets_46 rfl rfl rfl ?_
        refine sm_iload X 49 4 dX5_meets_47 rfl rfl ?_
        refine sm_bind (fun r49 h49 => ?_)
        refine sm_callV0 X 52 [.int v4] [] [.int r49] (c_X6_laneIn l G σ43 k1 hk1 v4 r49 h49) cw_X6_laneIn q_621 q_622 q_620 hk1 (by decide) rfl rfl rfl rfl rfl (Nat.le_of_ble_eq_true rfl) ⟨Nat.le_of_ble_eq_true rfl, Nat.le_of_ble_eq_true rfl⟩ ⟨Nat.le_refl _, Nat.le_refl _⟩ dX5_meets_49 rfl ?_
        refine sm_aload_n X 53 2 dX5_meets_52 rfl rfl rfl ?_
        refine sm_iload X 55 4 dX5_meets_53 rfl rfl ?_
        refine sm_bind (fun r55 h55 => ?_)
        refine sm_callV0 X 58 [.int v4] [.int r49] [.int r55, .int r49] (c_X6_laneIn l G σ43 k2 hk2 v4 r55 h55) cw_X6_laneIn q_621 q_622 q_620 hk2 (by decide) rfl rfl rfl rfl rfl (Nat.le_of_ble_eq_true rfl) ⟨Nat.le_of_ble_eq_true rfl, Nat.le_of_ble_eq_true rfl⟩ ⟨Nat.le_refl _, Nat.le_refl _⟩ dX5_meets_55 rfl ?_
        refine sm_icmp_ne X 61 103 dX5_meets_58 rfl (by decide) (fun h58 => ?_) (fun h58 => ?_)
        · refine sm_aload_n X 62 0 dX5_meets_61 rfl rfl rfl ?_
          refine sm_aload_n X 63 1 dX5_meets_62 rfl rfl rfl ?_
          refine sm_bind (fun r63 h63 => ?_)
          refine sm_callV0 X 66 [.ref (gad G k1)] [] [.int r63] (c_X5_gap l G σ43 k1 hk1 r63 h63) cw_X5_gap q_648 qs_15 q_646 rfl (by decide) rfl rfl rfl rfl rfl (Nat.le_of_ble_eq_true rfl) ⟨Nat.le_of_ble_eq_true rfl, Nat.le_of_ble_eq_true rfl⟩ ⟨Nat.le_refl _, Nat.le_refl _⟩ dX5_meets_63 rfl ?_
          refine sm_iload_n X 67 3 dX5_meets_66 rfl rfl rfl ?_
          refine sm_icmp_gt X 70 103 dX5_meets_67 rfl (by decide) (fun h67 => ?_) (fun h67 => ?_)
          · exact sm_sub [0, 1, 2, 3, 4] rfl (J103 k1 hk1 k2 hk2 v3 v4 (f_X5_meets_L9  k1 k2 v3 n) ihl σ43)
          · refine sm_aload_n X 71 0 dX5_meets_70 rfl rfl rfl ?_
            refine sm_iload X 73 4 dX5_meets_71 rfl rfl ?_
            refine sm_puti X 76 .int rfl fd_5_1 (by decide) rfl rfl rfl dX5_meets_73 rfl q_187 (fun σ73 e73 => ?_)
            clear e73
            refine sm_aload_n X 77 0 dX5_meets_76 rfl rfl rfl ?_
            refine sm_aload_n X 78 0 dX5_meets_77 rfl rfl rfl ?_
            refine sm_geti X 81 rfl fd_5_4 dX5_meets_78 rfl q_193 ?_
            refine sm_aload_n X 82 0 dX5_meets_81 rfl rfl rfl ?_
            refine sm_geti X 85 rfl fd_5_5 dX5_meets_82 rfl q_194 ?_
            refine sm_iadd X 86 dX5_meets_85 rfl ?_
            refine sm_iconst X 87 (2) dX5_meets_86 rfl rfl ?_
            refine sm_idiv X 88 dX5_meets_87 rfl (by first | decide | assumption) ?_
            refine sm_puti X 91 .int rfl fd_5_2 (by decide) rfl rfl rfl dX5_meets_88 rfl q_189 (fun σ88 e88 => ?_)
            clear e88
            refine sm_aload_n X 92 0 dX5_meets_91 rfl rfl rfl ?_
            refine sm_aload_n X 93 1 dX5_meets_92 rfl rfl rfl ?_
            refine sm_iload X 95 4 dX5_meets_93 rfl rfl ?_
            refine sm_bind (fun r95 h95 => ?_)
            refine sm_callV0 X 98 [.int v4] [.ref (gad G 58)] [.int r95, .ref (gad G 58)] (c_X6_laneIn l G σ88 k1 hk1 v4 r95 h95) cw_X6_laneIn q_621 q_622 q_620 hk1 (by decide) rfl rfl rfl rfl rfl (Nat.le_of_ble_eq_true rfl) ⟨Nat.le_of_ble_eq_true rfl, Nat.le_of_ble_eq_true rfl⟩ ⟨Nat.le_refl _, Nat.le_refl _⟩ dX5_meets_95 rfl ?_
            refine sm_puti X 101 .int rfl fd_5_3 (by decide) rfl rfl rfl dX5_meets_98 rfl q_191 (fun σ98 e98 => ?_)
            clear e98
            refine sm_iconst X 102 (1) dX5_meets_101 rfl rfl ?_
            exact sm_zret X (v := true) hr dX5_meets_102 rfl
        · exact sm_sub [0, 1, 2, 3, 4] rfl (J103 k1 hk1 k2 hk2 v3 v4 (f_X5_meets_L9  k1 k2 v3 n) ihl σ43)
  unfold f_X5_meets
  refine sm_aload_n X 1 0 dX5_meets_0 rfl rfl rfl ?_
  refine sm_aload_n X 2 1 dX5_meets_1 rfl rfl rfl ?_
  refine sm_aload_n X 3 2 dX5_meets_2 rfl rfl rfl ?_
  refine sm_bind (fun r3 h3 => ?_)
  refine sm_callV0 X 6 [.ref (gad G a1), .ref (gad G a2)] [] [] (c_X5_begin l G σ a1 ha1 a2 ha2 r3 h3) cw_X5_begin q_644 qs_14 q_642 rfl (by decide) rfl rfl rfl rfl rfl (Nat.le_of_ble_eq_true rfl) ⟨Nat.le_of_ble_eq_true rfl, Nat.le_of_ble_eq_true rfl⟩ ⟨Nat.le_refl _, Nat.le_refl _⟩ dX5_meets_3 rfl ?_
  refine sm_iconst X 7 (0) dX5_meets_6 rfl rfl ?_
  refine sm_istore X 9 [(4, .int 0), (0, .ref (gad G 58)), (1, .ref (gad G a1)), (2, .ref (gad G a2)), (3, .int a3)] dX5_meets_7 rfl (by decide) rfl ?_
  exact sm_sub [1, 2, 3, 4, 0] rfl (J9 a1 ha1 a2 ha2 a3  FU (0 : Int32) r3)
def by_X5_leastGap_0 : List Nat := [17, 4, 176, 62, 42, 43, 44, 182, 0, 68, 3, 54, 4, 21, 4, 16]
def by_X5_leastGap_1 : List Nat := [60, 162, 0, 68, 42, 42, 43, 42, 180, 0, 25, 21, 4, 182, 0, 64]
def by_X5_leastGap_2 : List Nat := [181, 0, 25, 42, 42, 44, 42, 180, 0, 28, 21, 4, 182, 0, 64, 181]
def by_X5_leastGap_3 : List Nat := [0, 28, 43, 21, 4, 182, 0, 50, 44, 21, 4, 182, 0, 50, 160, 0]
def by_X5_leastGap_4 : List Nat := [17, 29, 3, 42, 43, 182, 0, 72, 184, 0, 76, 184, 0, 81, 62, 132]
def by_X5_leastGap_z : List Nat := [4, 1, 167, 255, 187, 29, 172]
def by_X5_leastGap : List (List Nat) := [by_X5_leastGap_0, by_X5_leastGap_1, by_X5_leastGap_2, by_X5_leastGap_3, by_X5_leastGap_4]
set_option maxRecDepth 100000 in
theorem byo_X5_leastGap : cX5_leastGap.data.toList.map UInt8.toNat = by_X5_leastGap.flatten ++ by_X5_leastGap_z := by decide +kernel
theorem byl_X5_leastGap : by_X5_leastGap.all (fun r => r.length == 16) = true := by decide +kernel
theorem byr_X5_leastGap_0 {j v : Nat} (h : by_X5_leastGap_0[j]? = some v) : RD cX5_leastGap (0 + j) v := rd_16 byo_X5_leastGap byl_X5_leastGap 0 rfl h
theorem byr_X5_leastGap_1 {j v : Nat} (h : by_X5_leastGap_1[j]? = some v) : RD cX5_leastGap (16 + j) v := rd_16 byo_X5_leastGap byl_X5_leastGap 1 rfl h
theorem byr_X5_leastGap_2 {j v : Nat} (h : by_X5_leastGap_2[j]? = some v) : RD cX5_leastGap (32 + j) v := rd_16 byo_X5_leastGap byl_X5_leastGap 2 rfl h
theorem byr_X5_leastGap_3 {j v : Nat} (h : by_X5_leastGap_3[j]? = some v) : RD cX5_leastGap (48 + j) v := rd_16 byo_X5_leastGap byl_X5_leastGap 3 rfl h
theorem byr_X5_leastGap_4 {j v : Nat} (h : by_X5_leastGap_4[j]? = some v) : RD cX5_leastGap (64 + j) v := rd_16 byo_X5_leastGap byl_X5_leastGap 4 rfl h
theorem byr_X5_leastGap_5 {j v : Nat} (h : by_X5_leastGap_z[j]? = some v) : RD cX5_leastGap (80 + j) v := rd_z byo_X5_leastGap byl_X5_leastGap 5 rfl h
theorem dX5_leastGap_0 : decode cX5_leastGap 0 = .ok (.sipush 1200, 3) := dk_17 (byr_X5_leastGap_0 (j := 0) rfl) (byr_X5_leastGap_0 (j := 1) rfl) (byr_X5_leastGap_0 (j := 2) rfl) (by decide)
theorem dX5_leastGap_3 : decode cX5_leastGap 3 = .ok (.istore_n 3, 1) := dk_62 (byr_X5_leastGap_0 (j := 3) rfl)
theorem dX5_leastGap_4 : decode cX5_leastGap 4 = .ok (.aload_n 0, 1) := dk_42 (byr_X5_leastGap_0 (j := 4) rfl)
theorem dX5_leastGap_5 : decode cX5_leastGap 5 = .ok (.aload_n 1, 1) := dk_43 (byr_X5_leastGap_0 (j := 5) rfl)
theorem dX5_leastGap_6 : decode cX5_leastGap 6 = .ok (.aload_n 2, 1) := dk_44 (byr_X5_leastGap_0 (j := 6) rfl)
theorem dX5_leastGap_7 : decode cX5_leastGap 7 = .ok (.invokevirtual 68, 3) := dk_182 (byr_X5_leastGap_0 (j := 7) rfl) (byr_X5_leastGap_0 (j := 8) rfl) (byr_X5_leastGap_0 (j := 9) rfl) (by decide)
theorem dX5_leastGap_10 : decode cX5_leastGap 10 = .ok (.iconst 0, 1) := dk_3 (byr_X5_leastGap_0 (j := 10) rfl)
theorem dX5_leastGap_11 : decode cX5_leastGap 11 = .ok (.istore 4, 2) := dk_54 (byr_X5_leastGap_0 (j := 11) rfl) (byr_X5_leastGap_0 (j := 12) rfl)
theorem dX5_leastGap_13 : decode cX5_leastGap 13 = .ok (.iload 4, 2) := dk_21 (byr_X5_leastGap_0 (j := 13) rfl) (byr_X5_leastGap_0 (j := 14) rfl)
theorem dX5_leastGap_15 : decode cX5_leastGap 15 = .ok (.bipush 60, 2) := dk_16 (byr_X5_leastGap_0 (j := 15) rfl) (byr_X5_leastGap_1 (j := 0) rfl) (by decide)
theorem dX5_leastGap_17 : decode cX5_leastGap 17 = .ok (.if_icmp .ge 68, 3) := dk_162 (byr_X5_leastGap_1 (j := 1) rfl) (byr_X5_leastGap_1 (j := 2) rfl) (byr_X5_leastGap_1 (j := 3) rfl) (by decide)
theorem dX5_leastGap_20 : decode cX5_leastGap 20 = .ok (.aload_n 0, 1) := dk_42 (byr_X5_leastGap_1 (j := 4) rfl)
theorem dX5_leastGap_21 : decode cX5_leastGap 21 = .ok (.aload_n 0, 1) := dk_42 (byr_X5_leastGap_1 (j := 5) rfl)
theorem dX5_leastGap_22 : decode cX5_leastGap 22 = .ok (.aload_n 1, 1) := dk_43 (byr_X5_leastGap_1 (j := 6) rfl)
theorem dX5_leastGap_23 : decode cX5_leastGap 23 = .ok (.aload_n 0, 1) := dk_42 (byr_X5_leastGap_1 (j := 7) rfl)
theorem dX5_leastGap_24 : decode cX5_leastGap 24 = .ok (.getfield 25, 3) := dk_180 (byr_X5_leastGap_1 (j := 8) rfl) (byr_X5_leastGap_1 (j := 9) rfl) (byr_X5_leastGap_1 (j := 10) rfl) (by decide)
theorem dX5_leastGap_27 : decode cX5_leastGap 27 = .ok (.iload 4, 2) := dk_21 (byr_X5_leastGap_1 (j := 11) rfl) (byr_X5_leastGap_1 (j := 12) rfl)
theorem dX5_leastGap_29 : decode cX5_leastGap 29 = .ok (.invokevirtual 64, 3) := dk_182 (byr_X5_leastGap_1 (j := 13) rfl) (byr_X5_leastGap_1 (j := 14) rfl) (byr_X5_leastGap_1 (j := 15) rfl) (by decide)
theorem dX5_leastGap_32 : decode cX5_leastGap 32 = .ok (.putfield 25, 3) := dk_181 (byr_X5_leastGap_2 (j := 0) rfl) (byr_X5_leastGap_2 (j := 1) rfl) (byr_X5_leastGap_2 (j := 2) rfl) (by decide)
theorem dX5_leastGap_35 : decode cX5_leastGap 35 = .ok (.aload_n 0, 1) := dk_42 (byr_X5_leastGap_2 (j := 3) rfl)
theorem dX5_leastGap_36 : decode cX5_leastGap 36 = .ok (.aload_n 0, 1) := dk_42 (byr_X5_leastGap_2 (j := 4) rfl)
theorem dX5_leastGap_37 : decode cX5_leastGap 37 = .ok (.aload_n 2, 1) := dk_44 (byr_X5_leastGap_2 (j := 5) rfl)
theorem dX5_leastGap_38 : decode cX5_leastGap 38 = .ok (.aload_n 0, 1) := dk_42 (byr_X5_leastGap_2 (j := 6) rfl)
theorem dX5_leastGap_39 : decode cX5_leastGap 39 = .ok (.getfield 28, 3) := dk_180 (byr_X5_leastGap_2 (j := 7) rfl) (byr_X5_leastGap_2 (j := 8) rfl) (byr_X5_leastGap_2 (j := 9) rfl) (by decide)
theorem dX5_leastGap_42 : decode cX5_leastGap 42 = .ok (.iload 4, 2) := dk_21 (byr_X5_leastGap_2 (j := 10) rfl) (byr_X5_leastGap_2 (j := 11) rfl)
theorem dX5_leastGap_44 : decode cX5_leastGap 44 = .ok (.invokevirtual 64, 3) := dk_182 (byr_X5_leastGap_2 (j := 12) rfl) (byr_X5_leastGap_2 (j := 13) rfl) (byr_X5_leastGap_2 (j := 14) rfl) (by decide)
theorem dX5_leastGap_47 : decode cX5_leastGap 47 = .ok (.putfield 28, 3) := dk_181 (byr_X5_leastGap_2 (j := 15) rfl) (byr_X5_leastGap_3 (j := 0) rfl) (byr_X5_leastGap_3 (j := 1) rfl) (by decide)
theorem dX5_leastGap_50 : decode cX5_leastGap 50 = .ok (.aload_n 1, 1) := dk_43 (byr_X5_leastGap_3 (j := 2) rfl)
theorem dX5_leastGap_51 : decode cX5_leastGap 51 = .ok (.iload 4, 2) := dk_21 (byr_X5_leastGap_3 (j := 3) rfl) (byr_X5_leastGap_3 (j := 4) rfl)
theorem dX5_leastGap_53 : decode cX5_leastGap 53 = .ok (.invokevirtual 50, 3) := dk_182 (byr_X5_leastGap_3 (j := 5) rfl) (byr_X5_leastGap_3 (j := 6) rfl) (byr_X5_leastGap_3 (j := 7) rfl) (by decide)
theorem dX5_leastGap_56 : decode cX5_leastGap 56 = .ok (.aload_n 2, 1) := dk_44 (byr_X5_leastGap_3 (j := 8) rfl)
theorem dX5_leastGap_57 : decode cX5_leastGap 57 = .ok (.iload 4, 2) := dk_21 (byr_X5_leastGap_3 (j := 9) rfl) (byr_X5_leastGap_3 (j := 10) rfl)
theorem dX5_leastGap_59 : decode cX5_leastGap 59 = .ok (.invokevirtual 50, 3) := dk_182 (byr_X5_leastGap_3 (j := 11) rfl) (byr_X5_leastGap_3 (j := 12) rfl) (byr_X5_leastGap_3 (j := 13) rfl) (by decide)
theorem dX5_leastGap_62 : decode cX5_leastGap 62 = .ok (.if_icmp .ne 17, 3) := dk_160 (byr_X5_leastGap_3 (j := 14) rfl) (byr_X5_leastGap_3 (j := 15) rfl) (byr_X5_leastGap_4 (j := 0) rfl) (by decide)
theorem dX5_leastGap_65 : decode cX5_leastGap 65 = .ok (.iload_n 3, 1) := dk_29 (byr_X5_leastGap_4 (j := 1) rfl)
theorem dX5_leastGap_66 : decode cX5_leastGap 66 = .ok (.iconst 0, 1) := dk_3 (byr_X5_leastGap_4 (j := 2) rfl)
theorem dX5_leastGap_67 : decode cX5_leastGap 67 = .ok (.aload_n 0, 1) := dk_42 (byr_X5_leastGap_4 (j := 3) rfl)
theorem dX5_leastGap_68 : decode cX5_leastGap 68 = .ok (.aload_n 1, 1) := dk_43 (byr_X5_leastGap_4 (j := 4) rfl)
theorem dX5_leastGap_69 : decode cX5_leastGap 69 = .ok (.invokevirtual 72, 3) := dk_182 (byr_X5_leastGap_4 (j := 5) rfl) (byr_X5_leastGap_4 (j := 6) rfl) (byr_X5_leastGap_4 (j := 7) rfl) (by decide)
theorem dX5_leastGap_72 : decode cX5_leastGap 72 = .ok (.invokestatic 76, 3) := dk_184 (byr_X5_leastGap_4 (j := 8) rfl) (byr_X5_leastGap_4 (j := 9) rfl) (byr_X5_leastGap_4 (j := 10) rfl) (by decide)
theorem dX5_leastGap_75 : decode cX5_leastGap 75 = .ok (.invokestatic 81, 3) := dk_184 (byr_X5_leastGap_4 (j := 11) rfl) (byr_X5_leastGap_4 (j := 12) rfl) (byr_X5_leastGap_4 (j := 13) rfl) (by decide)
theorem dX5_leastGap_78 : decode cX5_leastGap 78 = .ok (.istore_n 3, 1) := dk_62 (byr_X5_leastGap_4 (j := 14) rfl)
theorem dX5_leastGap_79 : decode cX5_leastGap 79 = .ok (.iinc 4 1, 3) := dk_132 (byr_X5_leastGap_4 (j := 15) rfl) (byr_X5_leastGap_5 (j := 0) rfl) (byr_X5_leastGap_5 (j := 1) rfl) (by decide)
theorem dX5_leastGap_82 : decode cX5_leastGap 82 = .ok (.goto (-69), 3) := dk_167 (byr_X5_leastGap_5 (j := 2) rfl) (byr_X5_leastGap_5 (j := 3) rfl) (byr_X5_leastGap_5 (j := 4) rfl) (by decide)
theorem dX5_leastGap_85 : decode cX5_leastGap 85 = .ok (.iload_n 3, 1) := dk_29 (byr_X5_leastGap_5 (j := 5) rfl)
theorem dX5_leastGap_86 : decode cX5_leastGap 86 = .ok (.ireturn, 1) := dk_172 (byr_X5_leastGap_5 (j := 6) rfl)
set_option maxHeartbeats 4000000 in
set_option maxRecDepth 100000 in
theorem c_X5_leastGap (l : Launch) (G : GT) (σ : Sto) (a1 : Nat) (ha1 : K0 a1 = 6) (a2 : Nat) (ha2 : K0 a2 = 6) (r : (Int32 × Sto)) (h : f_X5_leastGap σ a1 a2 = some r) : MW l G (5) (134) 0 0 yX5_leastGap cX5_leastGap 5 (Option.some Jvm.ClassFile.FieldType.int) [.ref (gad G 58), .ref (gad G a1), .ref (gad G a2)] (wl G σ) (some (.int r.1)) (wl G r.2) := by
  refine mw_of RX5 (fiI G) [(0, .ref (gad G 58)), (1, .ref (gad G a1)), (2, .ref (gad G a2))] (by decide +kernel) rfl (Nat.le_of_ble_eq_true rfl) rfl h rfl (fun p e s m args below meth c X hr hnm => ?_)
  have J79 : ∀ (k1 : Nat) (hk1 : K0 k1 = 6) (k2 : Nat) (hk2 : K0 k2 = 6) (v3 : Int32) (v4 : Int32) (K13 : Int32 → Int32 → Sto → Option (Int32 × Sto)) (hK13 : ∀ (v3' : Int32) (v4' : Int32) (σ' : Sto), Sm p l e { frames := 5, cells := 0, slots := 0, locals := 134 } s m args below meth c G 5 (Qm below args s G 0 0 (fiI G)) 0 0 (wl G σ') 13 [(0, .ref (gad G 58)), (1, .ref (gad G k1)), (2, .ref (gad G k2)), (3, .int v3'), (4, .int v4')] [] (K13 v3' v4' σ')) (σ : Sto), Sm p l e { frames := 5, cells := 0, slots := 0, locals := 134 } s m args below meth c G 5 (Qm below args s G 0 0 (fiI G)) 0 0 (wl G σ) 79 [(0, .ref (gad G 58)), (1, .ref (gad G k1)), (2, .ref (gad G k2)), (3, .int v3), (4, .int v4)] [] (f_X5_leastGap_L79 K13 k1 k2 v3 v4 σ) := by
    intro k1 hk1 k2 hk2 v3 v4 K13 hK13 σ
    rw [f_X5_leastGap_L79]
    refine sm_iinc X 82 4 (1 : Int32) [(4, .int (v4 + (1 : Int32))), (0, .ref (gad G 58)), (1, .ref (gad G k1)), (2, .ref (gad G k2)), (3, .int v3)] dX5_leastGap_79 rfl rfl rfl (by decide) rfl ?_
    refine sm_goto X 13 dX5_leastGap_82 (by decide) ?_
    exact sm_sub [1, 2, 3, 4, 0] rfl (hK13 v3 (v4 + (1 : Int32)) σ)
  have J13 : ∀ (k1 : Nat) (hk1 : K0 k1 = 6) (k2 : Nat) (hk2 : K0 k2 = 6)  (n : Nat) (v3 : Int32) (v4 : Int32) (σ : Sto), Sm p l e { frames := 5, cells := 0, slots := 0, locals := 134 } s m args below meth c G 5 (Qm below args s G 0 0 (fiI G)) 0 0 (wl G σ) 13 [(0, .ref (gad G 58)), (1, .ref (gad G k1)), (2, .ref (gad G k2)), (3, .int v3), (4, .int v4)] [] (f_X5_leastGap_L13  k1 k2 n v3 v4 σ) := by
    intro k1 hk1 k2 hk2 n
    induction n with
    | zero => intro v3 v4 σ; rw [f_X5_leastGap_L13]; exact sm_none
    | succ n ihl =>
      intro v3 v4 σ
      rw [f_X5_leastGap_L13]
      refine sm_iload X 15 4 dX5_leastGap_13 rfl rfl ?_
      refine sm_bipush X 17 (60) dX5_leastGap_15 rfl rfl ?_
      refine sm_icmp_ge X 20 85 dX5_leastGap_17 rfl (by decide) (fun h17 => ?_) (fun h17 => ?_)
      · refine sm_iload_n X 86 3 dX5_leastGap_85 rfl rfl rfl ?_
        exact sm_iret X hr dX5_leastGap_86 rfl
      · refine sm_aload_n X 21 0 dX5_leastGap_20 rfl rfl rfl ?_
        refine sm_aload_n X 22 0 dX5_leastGap_21 rfl rfl rfl ?_
        refine sm_aload_n X 23 1 dX5_leastGap_22 rfl rfl rfl ?_
        refine sm_aload_n X 24 0 dX5_leastGap_23 rfl rfl rfl ?_
        refine sm_geti X 27 rfl fd_5_4 dX5_leastGap_24 rfl q_193 ?_
        refine sm_iload X 29 4 dX5_leastGap_27 rfl rfl ?_
        refine sm_bind (fun r29 h29 => ?_)
        refine sm_callV0 X 32 [.ref (gad G k1), .int (σ.1 58 4), .int v4] [.ref (gad G 58)] [.int r29, .ref (gad G 58)] (c_X5_placeNext l G σ k1 hk1 (σ.1 58 4) v4 r29 h29) cw_X5_placeNext q_616 q_617 q_615 rfl (by decide) rfl rfl rfl rfl rfl (Nat.le_of_ble_eq_true rfl) ⟨Nat.le_of_ble_eq_true rfl, Nat.le_of_ble_eq_true rfl⟩ ⟨Nat.le_refl _, Nat.le_refl _⟩ dX5_leastGap_29 rfl ?_
        refine sm_puti X 35 .int rfl fd_5_4 (by decide) rfl rfl rfl dX5_leastGap_32 rfl q_193 (fun σ32 e32 => ?_)
        clear e32
        refine sm_aload_n X 36 0 dX5_leastGap_35 rfl rfl rfl ?_
        refine sm_aload_n X 37 0 dX5_leastGap_36 rfl rfl rfl ?_
        refine sm_aload_n X 38 2 dX5_leastGap_37 rfl rfl rfl ?_
        refine sm_aload_n X 39 0 dX5_leastGap_38 rfl rfl rfl ?_
        refine sm_geti X 42 rfl fd_5_5 dX5_leastGap_39 rfl q_194 ?_
        refine sm_iload X 44 4 dX5_leastGap_42 rfl rfl ?_
        refine sm_bind (fun r44 h44 => ?_)
        refine sm_callV0 X 47 [.ref (gad G k2), .int (σ32.1 58 5), .int v4] [.ref (gad G 58)] [.int r44, .ref (gad G 58)] (c_X5_placeNext l G σ32 k2 hk2 (σ32.1 58 5) v4 r44 h44) cw_X5_placeNext q_616 q_617 q_615 rfl (by decide) rfl rfl rfl rfl rfl (Nat.le_of_ble_eq_true rfl) ⟨Nat.le_of_ble_eq_true rfl, Nat.le_of_ble_eq_true rfl⟩ ⟨Nat.le_refl _, Nat.le_refl _⟩ dX5_leastGap_44 rfl ?_
        refine sm_puti X 50 .int rfl fd_5_5 (by decide) rfl rfl rfl dX5_leastGap_47 rfl q_194 (fun σ47 e47 => ?_)
        clear e47
        refine sm_aload_n X 51 1 dX5_leastGap_50 rfl rfl rfl ?_
        refine sm_iload X 53 4 dX5_leastGap_51 rfl rfl ?_
        refine sm_bind (fun r53 h53 => ?_)
        refine sm_callV0 X 56 [.int v4] [] [.int r53] (c_X6_laneIn l G σ47 k1 hk1 v4 r53 h53) cw_X6_laneIn q_621 q_622 q_620 hk1 (by decide) rfl rfl rfl rfl rfl (Nat.le_of_ble_eq_true rfl) ⟨Nat.le_of_ble_eq_true rfl, Nat.le_of_ble_eq_true rfl⟩ ⟨Nat.le_refl _, Nat.le_refl _⟩ dX5_leastGap_53 rfl ?_
        refine sm_aload_n X 57 2 dX5_leastGap_56 rfl rfl rfl ?_
        refine sm_iload X 59 4 dX5_leastGap_57 rfl rfl ?_
        refine sm_bind (fun r59 h59 => ?_)
        refine sm_callV0 X 62 [.int v4] [.int r53] [.int r59, .int r53] (c_X6_laneIn l G σ47 k2 hk2 v4 r59 h59) cw_X6_laneIn q_621 q_622 q_620 hk2 (by decide) rfl rfl rfl rfl rfl (Nat.le_of_ble_eq_true rfl) ⟨Nat.le_of_ble_eq_true rfl, Nat.le_of_ble_eq_true rfl⟩ ⟨Nat.le_refl _, Nat.le_refl _⟩ dX5_leastGap_59 rfl ?_
        refine sm_icmp_ne X 65 79 dX5_leastGap_62 rfl (by decide) (fun h62 => ?_) (fun h62 => ?_)
        · refine sm_iload_n X 66 3 dX5_leastGap_65 rfl rfl rfl ?_
          refine sm_iconst X 67 (0) dX5_leastGap_66 rfl rfl ?_
          refine sm_aload_n X 68 0 dX5_leastGap_67 rfl rfl rfl ?_
          refine sm_aload_n X 69 1 dX5_leastGap_68 rfl rfl rfl ?_
          refine sm_bind (fun r69 h69 => ?_)
          refine sm_callV0 X 72 [.ref (gad G k1)] [.int 0, .int v3] [.int r69, .int 0, .int v3] (c_X5_gap l G σ47 k1 hk1 r69 h69) cw_X5_gap q_648 qs_15 q_646 rfl (by decide) rfl rfl rfl rfl rfl (Nat.le_of_ble_eq_true rfl) ⟨Nat.le_of_ble_eq_true rfl, Nat.le_of_ble_eq_true rfl⟩ ⟨Nat.le_refl _, Nat.le_refl _⟩ dX5_leastGap_69 rfl ?_
          refine sm_mmax X 75 dX5_leastGap_72 rfl q_743 q_369 q_370 q_11 ⟨Nat.le_of_ble_eq_true rfl, Nat.le_of_ble_eq_true rfl, Nat.le_refl _, Nat.le_refl _⟩ ?_
          refine sm_mmin X 78 dX5_leastGap_75 rfl q_744 q_366 q_367 q_11 ⟨Nat.le_of_ble_eq_true rfl, Nat.le_of_ble_eq_true rfl, Nat.le_refl _, Nat.le_refl _⟩ ?_
          refine sm_istore_n X 79 [(3, .int (imin v3 (imax (0 : Int32) r69))), (0, .ref (gad G 58)), (1, .ref (gad G k1)), (2, .ref (gad G k2)), (4, .int v4)] dX5_leastGap_78 rfl rfl (by decide) rfl ?_
          exact sm_sub [1, 2, 3, 0, 4] rfl (J79 k1 hk1 k2 hk2 (imin v3 (imax (0 : Int32) r69)) v4 (f_X5_leastGap_L13  k1 k2 n) ihl σ47)
        · exact sm_sub [0, 1, 2, 3, 4] rfl (J79 k1 hk1 k2 hk2 v3 v4 (f_X5_leastGap_L13  k1 k2 n) ihl σ47)
  unfold f_X5_leastGap
  refine sm_sipush X 3 (1200) dX5_leastGap_0 rfl rfl ?_
  refine sm_istore_n X 4 [(3, .int 1200), (0, .ref (gad G 58)), (1, .ref (gad G a1)), (2, .ref (gad G a2))] dX5_leastGap_3 rfl rfl (by decide) rfl ?_
  refine sm_aload_n X 5 1 dX5_leastGap_4 rfl rfl rfl ?_
  refine sm_aload_n X 6 2 dX5_leastGap_5 rfl rfl rfl ?_
  refine sm_aload_n X 7 3 dX5_leastGap_6 rfl rfl rfl ?_
  refine sm_bind (fun r7 h7 => ?_)
  refine sm_callV0 X 10 [.ref (gad G a1), .ref (gad G a2)] [] [] (c_X5_begin l G σ a1 ha1 a2 ha2 r7 h7) cw_X5_begin q_644 qs_14 q_642 rfl (by decide) rfl rfl rfl rfl rfl (Nat.le_of_ble_eq_true rfl) ⟨Nat.le_of_ble_eq_true rfl, Nat.le_of_ble_eq_true rfl⟩ ⟨Nat.le_refl _, Nat.le_refl _⟩ dX5_leastGap_7 rfl ?_
  refine sm_iconst X 11 (0) dX5_leastGap_10 rfl rfl ?_
  refine sm_istore X 13 [(4, .int 0), (3, .int 1200), (0, .ref (gad G 58)), (1, .ref (gad G a1)), (2, .ref (gad G a2))] dX5_leastGap_11 rfl (by decide) rfl ?_
  exact sm_sub [2, 3, 4, 1, 0] rfl (J13 a1 ha1 a2 ha2  FU (1200 : Int32) (0 : Int32) r7)
def by_X6_turnInto_0 : List Nat := [42, 27, 16, 10, 108, 181, 0, 9, 42, 27, 16, 10, 112, 181, 0, 15]
def by_X6_turnInto_z : List Nat := [177]
def by_X6_turnInto : List (List Nat) := [by_X6_turnInto_0]
set_option maxRecDepth 100000 in
theorem byo_X6_turnInto : cX6_turnInto.data.toList.map UInt8.toNat = by_X6_turnInto.flatten ++ by_X6_turnInto_z := by decide +kernel
theorem byl_X6_turnInto : by_X6_turnInto.all (fun r => r.length == 16) = true := by decide +kernel
theorem byr_X6_turnInto_0 {j v : Nat} (h : by_X6_turnInto_0[j]? = some v) : RD cX6_turnInto (0 + j) v := rd_16 byo_X6_turnInto byl_X6_turnInto 0 rfl h
theorem byr_X6_turnInto_1 {j v : Nat} (h : by_X6_turnInto_z[j]? = some v) : RD cX6_turnInto (16 + j) v := rd_z byo_X6_turnInto byl_X6_turnInto 1 rfl h
theorem dX6_turnInto_0 : decode cX6_turnInto 0 = .ok (.aload_n 0, 1) := dk_42 (byr_X6_turnInto_0 (j := 0) rfl)
theorem dX6_turnInto_1 : decode cX6_turnInto 1 = .ok (.iload_n 1, 1) := dk_27 (byr_X6_turnInto_0 (j := 1) rfl)
theorem dX6_turnInto_2 : decode cX6_turnInto 2 = .ok (.bipush 10, 2) := dk_16 (byr_X6_turnInto_0 (j := 2) rfl) (byr_X6_turnInto_0 (j := 3) rfl) (by decide)
theorem dX6_turnInto_4 : decode cX6_turnInto 4 = .ok (.idiv, 1) := dk_108 (byr_X6_turnInto_0 (j := 4) rfl)
theorem dX6_turnInto_5 : decode cX6_turnInto 5 = .ok (.putfield 9, 3) := dk_181 (byr_X6_turnInto_0 (j := 5) rfl) (byr_X6_turnInto_0 (j := 6) rfl) (byr_X6_turnInto_0 (j := 7) rfl) (by decide)
theorem dX6_turnInto_8 : decode cX6_turnInto 8 = .ok (.aload_n 0, 1) := dk_42 (byr_X6_turnInto_0 (j := 8) rfl)
theorem dX6_turnInto_9 : decode cX6_turnInto 9 = .ok (.iload_n 1, 1) := dk_27 (byr_X6_turnInto_0 (j := 9) rfl)
theorem dX6_turnInto_10 : decode cX6_turnInto 10 = .ok (.bipush 10, 2) := dk_16 (byr_X6_turnInto_0 (j := 10) rfl) (byr_X6_turnInto_0 (j := 11) rfl) (by decide)
theorem dX6_turnInto_12 : decode cX6_turnInto 12 = .ok (.irem, 1) := dk_112 (byr_X6_turnInto_0 (j := 12) rfl)
theorem dX6_turnInto_13 : decode cX6_turnInto 13 = .ok (.putfield 15, 3) := dk_181 (byr_X6_turnInto_0 (j := 13) rfl) (byr_X6_turnInto_0 (j := 14) rfl) (byr_X6_turnInto_0 (j := 15) rfl) (by decide)
theorem dX6_turnInto_16 : decode cX6_turnInto 16 = .ok (.return_, 1) := dk_177 (byr_X6_turnInto_1 (j := 0) rfl)
set_option maxHeartbeats 4000000 in
set_option maxRecDepth 100000 in
theorem c_X6_turnInto (l : Launch) (G : GT) (σ : Sto) (k0 : Nat) (hk0 : K0 k0 = 6) (a1 : Int32) (r : Sto) (h : f_X6_turnInto σ k0 a1 = some r) : MW l G (2) (64) 0 0 yX6_turnInto cX6_turnInto 2 (Option.none : Option Jvm.ClassFile.FieldType) [.ref (gad G k0), .int a1] (wl G σ) (none) (wl G r) := by
  refine mw_of RX6 (fiV G) [(0, .ref (gad G k0)), (1, .int a1)] (by decide +kernel) rfl (Nat.le_of_ble_eq_true rfl) rfl h rfl (fun p e s m args below meth c X hr hnm => ?_)
  unfold f_X6_turnInto
  refine sm_aload_n X 1 0 dX6_turnInto_0 rfl rfl rfl ?_
  refine sm_iload_n X 2 1 dX6_turnInto_1 rfl rfl rfl ?_
  refine sm_bipush X 4 (10) dX6_turnInto_2 rfl rfl ?_
  refine sm_idiv X 5 dX6_turnInto_4 rfl (by first | decide | assumption) ?_
  refine sm_puti X 8 .int hk0 fd_6_0 (by decide) rfl rfl rfl dX6_turnInto_5 rfl q_59 (fun σ5 e5 => ?_)
  clear e5
  refine sm_aload_n X 9 0 dX6_turnInto_8 rfl rfl rfl ?_
  refine sm_iload_n X 10 1 dX6_turnInto_9 rfl rfl rfl ?_
  refine sm_bipush X 12 (10) dX6_turnInto_10 rfl rfl ?_
  refine sm_irem X 13 dX6_turnInto_12 rfl (by first | decide | assumption) ?_
  refine sm_puti X 16 .int hk0 fd_6_1 (by decide) rfl rfl rfl dX6_turnInto_13 rfl q_62 (fun σ13 e13 => ?_)
  clear e13
  exact sm_vret X hr dX6_turnInto_16 rfl
def by_X6_keepTo_0 : List Nat := [3, 61, 28, 42, 180, 0, 27, 190, 162, 0, 16, 42, 180, 0, 27, 28]
def by_X6_keepTo_z : List Nat := [27, 79, 132, 2, 1, 167, 255, 237, 177]
def by_X6_keepTo : List (List Nat) := [by_X6_keepTo_0]
set_option maxRecDepth 100000 in
theorem byo_X6_keepTo : cX6_keepTo.data.toList.map UInt8.toNat = by_X6_keepTo.flatten ++ by_X6_keepTo_z := by decide +kernel
theorem byl_X6_keepTo : by_X6_keepTo.all (fun r => r.length == 16) = true := by decide +kernel
theorem byr_X6_keepTo_0 {j v : Nat} (h : by_X6_keepTo_0[j]? = some v) : RD cX6_keepTo (0 + j) v := rd_16 byo_X6_keepTo byl_X6_keepTo 0 rfl h
theorem byr_X6_keepTo_1 {j v : Nat} (h : by_X6_keepTo_z[j]? = some v) : RD cX6_keepTo (16 + j) v := rd_z byo_X6_keepTo byl_X6_keepTo 1 rfl h
theorem dX6_keepTo_0 : decode cX6_keepTo 0 = .ok (.iconst 0, 1) := dk_3 (byr_X6_keepTo_0 (j := 0) rfl)
theorem dX6_keepTo_1 : decode cX6_keepTo 1 = .ok (.istore_n 2, 1) := dk_61 (byr_X6_keepTo_0 (j := 1) rfl)
theorem dX6_keepTo_2 : decode cX6_keepTo 2 = .ok (.iload_n 2, 1) := dk_28 (byr_X6_keepTo_0 (j := 2) rfl)
theorem dX6_keepTo_3 : decode cX6_keepTo 3 = .ok (.aload_n 0, 1) := dk_42 (byr_X6_keepTo_0 (j := 3) rfl)
theorem dX6_keepTo_4 : decode cX6_keepTo 4 = .ok (.getfield 27, 3) := dk_180 (byr_X6_keepTo_0 (j := 4) rfl) (byr_X6_keepTo_0 (j := 5) rfl) (byr_X6_keepTo_0 (j := 6) rfl) (by decide)
theorem dX6_keepTo_7 : decode cX6_keepTo 7 = .ok (.arraylength, 1) := dk_190 (byr_X6_keepTo_0 (j := 7) rfl)
theorem dX6_keepTo_8 : decode cX6_keepTo 8 = .ok (.if_icmp .ge 16, 3) := dk_162 (byr_X6_keepTo_0 (j := 8) rfl) (byr_X6_keepTo_0 (j := 9) rfl) (byr_X6_keepTo_0 (j := 10) rfl) (by decide)
theorem dX6_keepTo_11 : decode cX6_keepTo 11 = .ok (.aload_n 0, 1) := dk_42 (byr_X6_keepTo_0 (j := 11) rfl)
theorem dX6_keepTo_12 : decode cX6_keepTo 12 = .ok (.getfield 27, 3) := dk_180 (byr_X6_keepTo_0 (j := 12) rfl) (byr_X6_keepTo_0 (j := 13) rfl) (byr_X6_keepTo_0 (j := 14) rfl) (by decide)
theorem dX6_keepTo_15 : decode cX6_keepTo 15 = .ok (.iload_n 2, 1) := dk_28 (byr_X6_keepTo_0 (j := 15) rfl)
theorem dX6_keepTo_16 : decode cX6_keepTo 16 = .ok (.iload_n 1, 1) := dk_27 (byr_X6_keepTo_1 (j := 0) rfl)
theorem dX6_keepTo_17 : decode cX6_keepTo 17 = .ok (.iastore, 1) := dk_79 (byr_X6_keepTo_1 (j := 1) rfl)
theorem dX6_keepTo_18 : decode cX6_keepTo 18 = .ok (.iinc 2 1, 3) := dk_132 (byr_X6_keepTo_1 (j := 2) rfl) (byr_X6_keepTo_1 (j := 3) rfl) (byr_X6_keepTo_1 (j := 4) rfl) (by decide)
theorem dX6_keepTo_21 : decode cX6_keepTo 21 = .ok (.goto (-19), 3) := dk_167 (byr_X6_keepTo_1 (j := 5) rfl) (byr_X6_keepTo_1 (j := 6) rfl) (byr_X6_keepTo_1 (j := 7) rfl) (by decide)
theorem dX6_keepTo_24 : decode cX6_keepTo 24 = .ok (.return_, 1) := dk_177 (byr_X6_keepTo_1 (j := 8) rfl)
set_option maxHeartbeats 4000000 in
set_option maxRecDepth 100000 in
theorem c_X6_keepTo (l : Launch) (G : GT) (σ : Sto) (k0 : Nat) (hk0 : K0 k0 = 6) (a1 : Int32) (r : Sto) (h : f_X6_keepTo σ k0 a1 = some r) : MW l G (2) (64) 0 0 yX6_keepTo cX6_keepTo 3 (Option.none : Option Jvm.ClassFile.FieldType) [.ref (gad G k0), .int a1] (wl G σ) (none) (wl G r) := by
  refine mw_of RX6 (fiV G) [(0, .ref (gad G k0)), (1, .int a1)] (by decide +kernel) rfl (Nat.le_of_ble_eq_true rfl) rfl h rfl (fun p e s m args below meth c X hr hnm => ?_)
  have J2 : ∀ (k0 : Nat) (hk0 : K0 k0 = 6) (v1 : Int32)  (n : Nat) (v2 : Int32) (σ : Sto), Sm p l e { frames := 2, cells := 0, slots := 0, locals := 64 } s m args below meth c G 3 (Qm below args s G 0 0 (fiV G)) 0 0 (wl G σ) 2 [(0, .ref (gad G k0)), (1, .int v1), (2, .int v2)] [] (f_X6_keepTo_L2  k0 v1 n v2 σ) := by
    intro k0 hk0 v1 n
    induction n with
    | zero => intro v2 σ; rw [f_X6_keepTo_L2]; exact sm_none
    | succ n ihl =>
      intro v2 σ
      rw [f_X6_keepTo_L2]
      refine sm_iload_n X 3 2 dX6_keepTo_2 rfl rfl rfl ?_
      refine sm_aload_n X 4 0 dX6_keepTo_3 rfl rfl rfl ?_
      refine sm_getf X 7 (A0 k0 5) hk0 fd_6_5 (fr_6_5 hk0).1 dX6_keepTo_4 rfl q_73 ?_
      refine sm_alen X 8 4 (Or.inl ((fr_6_5 hk0).2.1)) (by rw [(fr_6_5 hk0).2.2]; rfl) dX6_keepTo_7 rfl ?_
      refine sm_icmp_ge X 11 24 dX6_keepTo_8 rfl (by decide) (fun h8 => ?_) (fun h8 => ?_)
      · exact sm_vret X hr dX6_keepTo_24 rfl
      · refine sm_aload_n X 12 0 dX6_keepTo_11 rfl rfl rfl ?_
        refine sm_getf X 15 (A0 k0 5) hk0 fd_6_5 (fr_6_5 hk0).1 dX6_keepTo_12 rfl q_73 ?_
        refine sm_iload_n X 16 2 dX6_keepTo_15 rfl rfl rfl ?_
        refine sm_iload_n X 17 1 dX6_keepTo_16 rfl rfl rfl ?_
        refine sm_iast X 18 ((fr_6_5 hk0).2.1) dX6_keepTo_17 rfl (fun σ17 e17 => ?_)
        clear e17
        refine sm_iinc X 21 2 (1 : Int32) [(2, .int (v2 + (1 : Int32))), (0, .ref (gad G k0)), (1, .int v1)] dX6_keepTo_18 rfl rfl rfl (by decide) rfl ?_
        refine sm_goto X 2 dX6_keepTo_21 (by decide) ?_
        exact sm_sub [1, 2, 0] rfl (ihl (v2 + (1 : Int32)) σ17)
  unfold f_X6_keepTo
  refine sm_iconst X 1 (0) dX6_keepTo_0 rfl rfl ?_
  refine sm_istore_n X 2 [(2, .int 0), (0, .ref (gad G k0)), (1, .int a1)] dX6_keepTo_1 rfl rfl (by decide) rfl ?_
  exact sm_sub [1, 2, 0] rfl (J2 k0 hk0 a1  FU (0 : Int32) σ)
def by_X6_begin_0 : List Nat := [42, 27, 182, 0, 31, 42, 28, 181, 0, 18, 42, 16, 10, 181, 0, 21]
def by_X6_begin_z : List Nat := [42, 3, 181, 0, 24, 42, 3, 182, 0, 35, 177]
def by_X6_begin : List (List Nat) := [by_X6_begin_0]
set_option maxRecDepth 100000 in
theorem byo_X6_begin : cX6_begin.data.toList.map UInt8.toNat = by_X6_begin.flatten ++ by_X6_begin_z := by decide +kernel
theorem byl_X6_begin : by_X6_begin.all (fun r => r.length == 16) = true := by decide +kernel
theorem byr_X6_begin_0 {j v : Nat} (h : by_X6_begin_0[j]? = some v) : RD cX6_begin (0 + j) v := rd_16 byo_X6_begin byl_X6_begin 0 rfl h
theorem byr_X6_begin_1 {j v : Nat} (h : by_X6_begin_z[j]? = some v) : RD cX6_begin (16 + j) v := rd_z byo_X6_begin byl_X6_begin 1 rfl h
theorem dX6_begin_0 : decode cX6_begin 0 = .ok (.aload_n 0, 1) := dk_42 (byr_X6_begin_0 (j := 0) rfl)
theorem dX6_begin_1 : decode cX6_begin 1 = .ok (.iload_n 1, 1) := dk_27 (byr_X6_begin_0 (j := 1) rfl)
theorem dX6_begin_2 : decode cX6_begin 2 = .ok (.invokevirtual 31, 3) := dk_182 (byr_X6_begin_0 (j := 2) rfl) (byr_X6_begin_0 (j := 3) rfl) (byr_X6_begin_0 (j := 4) rfl) (by decide)
theorem dX6_begin_5 : decode cX6_begin 5 = .ok (.aload_n 0, 1) := dk_42 (byr_X6_begin_0 (j := 5) rfl)
theorem dX6_begin_6 : decode cX6_begin 6 = .ok (.iload_n 2, 1) := dk_28 (byr_X6_begin_0 (j := 6) rfl)
theorem dX6_begin_7 : decode cX6_begin 7 = .ok (.putfield 18, 3) := dk_181 (byr_X6_begin_0 (j := 7) rfl) (byr_X6_begin_0 (j := 8) rfl) (byr_X6_begin_0 (j := 9) rfl) (by decide)
theorem dX6_begin_10 : decode cX6_begin 10 = .ok (.aload_n 0, 1) := dk_42 (byr_X6_begin_0 (j := 10) rfl)
theorem dX6_begin_11 : decode cX6_begin 11 = .ok (.bipush 10, 2) := dk_16 (byr_X6_begin_0 (j := 11) rfl) (byr_X6_begin_0 (j := 12) rfl) (by decide)
theorem dX6_begin_13 : decode cX6_begin 13 = .ok (.putfield 21, 3) := dk_181 (byr_X6_begin_0 (j := 13) rfl) (byr_X6_begin_0 (j := 14) rfl) (byr_X6_begin_0 (j := 15) rfl) (by decide)
theorem dX6_begin_16 : decode cX6_begin 16 = .ok (.aload_n 0, 1) := dk_42 (byr_X6_begin_1 (j := 0) rfl)
theorem dX6_begin_17 : decode cX6_begin 17 = .ok (.iconst 0, 1) := dk_3 (byr_X6_begin_1 (j := 1) rfl)
theorem dX6_begin_18 : decode cX6_begin 18 = .ok (.putfield 24, 3) := dk_181 (byr_X6_begin_1 (j := 2) rfl) (byr_X6_begin_1 (j := 3) rfl) (byr_X6_begin_1 (j := 4) rfl) (by decide)
theorem dX6_begin_21 : decode cX6_begin 21 = .ok (.aload_n 0, 1) := dk_42 (byr_X6_begin_1 (j := 5) rfl)
theorem dX6_begin_22 : decode cX6_begin 22 = .ok (.iconst 0, 1) := dk_3 (byr_X6_begin_1 (j := 6) rfl)
theorem dX6_begin_23 : decode cX6_begin 23 = .ok (.invokevirtual 35, 3) := dk_182 (byr_X6_begin_1 (j := 7) rfl) (byr_X6_begin_1 (j := 8) rfl) (byr_X6_begin_1 (j := 9) rfl) (by decide)
theorem dX6_begin_26 : decode cX6_begin 26 = .ok (.return_, 1) := dk_177 (byr_X6_begin_1 (j := 10) rfl)
set_option maxHeartbeats 4000000 in
set_option maxRecDepth 100000 in
theorem c_X6_begin (l : Launch) (G : GT) (σ : Sto) (k0 : Nat) (hk0 : K0 k0 = 6) (a1 : Int32) (a2 : Int32) (r : Sto) (h : f_X6_begin σ k0 a1 a2 = some r) : MW l G (3) (86) 0 0 yX6_begin cX6_begin 3 (Option.none : Option Jvm.ClassFile.FieldType) [.ref (gad G k0), .int a1, .int a2] (wl G σ) (none) (wl G r) := by
  refine mw_of RX6 (fiV G) [(0, .ref (gad G k0)), (1, .int a1), (2, .int a2)] (by decide +kernel) rfl (Nat.le_of_ble_eq_true rfl) rfl h rfl (fun p e s m args below meth c X hr hnm => ?_)
  unfold f_X6_begin
  refine sm_aload_n X 1 0 dX6_begin_0 rfl rfl rfl ?_
  refine sm_iload_n X 2 1 dX6_begin_1 rfl rfl rfl ?_
  refine sm_bind (fun r2 h2 => ?_)
  refine sm_callV0 X 5 [.int a1] [] [] (c_X6_turnInto l G σ k0 hk0 a1 r2 h2) cw_X6_turnInto q_384 q_385 q_383 hk0 (by decide) rfl rfl rfl rfl rfl (Nat.le_of_ble_eq_true rfl) ⟨Nat.le_of_ble_eq_true rfl, Nat.le_of_ble_eq_true rfl⟩ ⟨Nat.le_refl _, Nat.le_refl _⟩ dX6_begin_2 rfl ?_
  refine sm_aload_n X 6 0 dX6_begin_5 rfl rfl rfl ?_
  refine sm_iload_n X 7 2 dX6_begin_6 rfl rfl rfl ?_
  refine sm_puti X 10 .int hk0 fd_6_2 (by decide) rfl rfl rfl dX6_begin_7 rfl q_65 (fun σ7 e7 => ?_)
  clear e7
  refine sm_aload_n X 11 0 dX6_begin_10 rfl rfl rfl ?_
  refine sm_bipush X 13 (10) dX6_begin_11 rfl rfl ?_
  refine sm_puti X 16 .int hk0 fd_6_3 (by decide) rfl rfl rfl dX6_begin_13 rfl q_69 (fun σ13 e13 => ?_)
  clear e13
  refine sm_aload_n X 17 0 dX6_begin_16 rfl rfl rfl ?_
  refine sm_iconst X 18 (0) dX6_begin_17 rfl rfl ?_
  refine sm_puti X 21 .int hk0 fd_6_4 (by decide) rfl rfl rfl dX6_begin_18 rfl q_71 (fun σ18 e18 => ?_)
  clear e18
  refine sm_aload_n X 22 0 dX6_begin_21 rfl rfl rfl ?_
  refine sm_iconst X 23 (0) dX6_begin_22 rfl rfl ?_
  refine sm_bind (fun r23 h23 => ?_)
  refine sm_callV0 X 26 [.int 0] [] [] (c_X6_keepTo l G σ18 k0 hk0 (0 : Int32) r23 h23) cw_X6_keepTo q_388 q_389 q_387 hk0 (by decide) rfl rfl rfl rfl rfl (Nat.le_of_ble_eq_true rfl) ⟨Nat.le_of_ble_eq_true rfl, Nat.le_of_ble_eq_true rfl⟩ ⟨Nat.le_refl _, Nat.le_refl _⟩ dX6_begin_23 rfl ?_
  exact sm_vret X hr dX6_begin_26 rfl
def by_X7_bodyOf_0 : List Nat := [26, 61, 3, 62, 29, 16, 7, 162, 0, 63, 28, 3, 16, 6, 184, 0]
def by_X7_bodyOf_1 : List Nat := [44, 154, 0, 53, 28, 7, 104, 27, 96, 54, 4, 21, 4, 3, 178, 0]
def by_X7_bodyOf_2 : List Nat := [48, 190, 4, 100, 184, 0, 44, 154, 0, 19, 178, 0, 48, 21, 4, 46]
def by_X7_bodyOf_3 : List Nat := [153, 0, 10, 178, 0, 48, 21, 4, 46, 172, 178, 0, 51, 28, 46, 61]
def by_X7_bodyOf_z : List Nat := [132, 3, 1, 167, 255, 193, 3, 172]
def by_X7_bodyOf : List (List Nat) := [by_X7_bodyOf_0, by_X7_bodyOf_1, by_X7_bodyOf_2, by_X7_bodyOf_3]
set_option maxRecDepth 100000 in
theorem byo_X7_bodyOf : cX7_bodyOf.data.toList.map UInt8.toNat = by_X7_bodyOf.flatten ++ by_X7_bodyOf_z := by decide +kernel
theorem byl_X7_bodyOf : by_X7_bodyOf.all (fun r => r.length == 16) = true := by decide +kernel
theorem byr_X7_bodyOf_0 {j v : Nat} (h : by_X7_bodyOf_0[j]? = some v) : RD cX7_bodyOf (0 + j) v := rd_16 byo_X7_bodyOf byl_X7_bodyOf 0 rfl h
theorem byr_X7_bodyOf_1 {j v : Nat} (h : by_X7_bodyOf_1[j]? = some v) : RD cX7_bodyOf (16 + j) v := rd_16 byo_X7_bodyOf byl_X7_bodyOf 1 rfl h
theorem byr_X7_bodyOf_2 {j v : Nat} (h : by_X7_bodyOf_2[j]? = some v) : RD cX7_bodyOf (32 + j) v := rd_16 byo_X7_bodyOf byl_X7_bodyOf 2 rfl h
theorem byr_X7_bodyOf_3 {j v : Nat} (h : by_X7_bodyOf_3[j]? = some v) : RD cX7_bodyOf (48 + j) v := rd_16 byo_X7_bodyOf byl_X7_bodyOf 3 rfl h
theorem byr_X7_bodyOf_4 {j v : Nat} (h : by_X7_bodyOf_z[j]? = some v) : RD cX7_bodyOf (64 + j) v := rd_z byo_X7_bodyOf byl_X7_bodyOf 4 rfl h
theorem dX7_bodyOf_0 : decode cX7_bodyOf 0 = .ok (.iload_n 0, 1) := dk_26 (byr_X7_bodyOf_0 (j := 0) rfl)
theorem dX7_bodyOf_1 : decode cX7_bodyOf 1 = .ok (.istore_n 2, 1) := dk_61 (byr_X7_bodyOf_0 (j := 1) rfl)
theorem dX7_bodyOf_2 : decode cX7_bodyOf 2 = .ok (.iconst 0, 1) := dk_3 (byr_X7_bodyOf_0 (j := 2) rfl)
theorem dX7_bodyOf_3 : decode cX7_bodyOf 3 = .ok (.istore_n 3, 1) := dk_62 (byr_X7_bodyOf_0 (j := 3) rfl)
theorem dX7_bodyOf_4 : decode cX7_bodyOf 4 = .ok (.iload_n 3, 1) := dk_29 (byr_X7_bodyOf_0 (j := 4) rfl)
theorem dX7_bodyOf_5 : decode cX7_bodyOf 5 = .ok (.bipush 7, 2) := dk_16 (byr_X7_bodyOf_0 (j := 5) rfl) (byr_X7_bodyOf_0 (j := 6) rfl) (by decide)
theorem dX7_bodyOf_7 : decode cX7_bodyOf 7 = .ok (.if_icmp .ge 63, 3) := dk_162 (byr_X7_bodyOf_0 (j := 7) rfl) (byr_X7_bodyOf_0 (j := 8) rfl) (byr_X7_bodyOf_0 (j := 9) rfl) (by decide)
theorem dX7_bodyOf_10 : decode cX7_bodyOf 10 = .ok (.iload_n 2, 1) := dk_28 (byr_X7_bodyOf_0 (j := 10) rfl)
theorem dX7_bodyOf_11 : decode cX7_bodyOf 11 = .ok (.iconst 0, 1) := dk_3 (byr_X7_bodyOf_0 (j := 11) rfl)
theorem dX7_bodyOf_12 : decode cX7_bodyOf 12 = .ok (.bipush 6, 2) := dk_16 (byr_X7_bodyOf_0 (j := 12) rfl) (byr_X7_bodyOf_0 (j := 13) rfl) (by decide)
theorem dX7_bodyOf_14 : decode cX7_bodyOf 14 = .ok (.invokestatic 44, 3) := dk_184 (byr_X7_bodyOf_0 (j := 14) rfl) (byr_X7_bodyOf_0 (j := 15) rfl) (byr_X7_bodyOf_1 (j := 0) rfl) (by decide)
theorem dX7_bodyOf_17 : decode cX7_bodyOf 17 = .ok (.ifCond .ne 53, 3) := dk_154 (byr_X7_bodyOf_1 (j := 1) rfl) (byr_X7_bodyOf_1 (j := 2) rfl) (byr_X7_bodyOf_1 (j := 3) rfl) (by decide)
theorem dX7_bodyOf_20 : decode cX7_bodyOf 20 = .ok (.iload_n 2, 1) := dk_28 (byr_X7_bodyOf_1 (j := 4) rfl)
theorem dX7_bodyOf_21 : decode cX7_bodyOf 21 = .ok (.iconst 4, 1) := dk_7 (byr_X7_bodyOf_1 (j := 5) rfl)
theorem dX7_bodyOf_22 : decode cX7_bodyOf 22 = .ok (.imul, 1) := dk_104 (byr_X7_bodyOf_1 (j := 6) rfl)
theorem dX7_bodyOf_23 : decode cX7_bodyOf 23 = .ok (.iload_n 1, 1) := dk_27 (byr_X7_bodyOf_1 (j := 7) rfl)
theorem dX7_bodyOf_24 : decode cX7_bodyOf 24 = .ok (.iadd, 1) := dk_96 (byr_X7_bodyOf_1 (j := 8) rfl)
theorem dX7_bodyOf_25 : decode cX7_bodyOf 25 = .ok (.istore 4, 2) := dk_54 (byr_X7_bodyOf_1 (j := 9) rfl) (byr_X7_bodyOf_1 (j := 10) rfl)
theorem dX7_bodyOf_27 : decode cX7_bodyOf 27 = .ok (.iload 4, 2) := dk_21 (byr_X7_bodyOf_1 (j := 11) rfl) (byr_X7_bodyOf_1 (j := 12) rfl)
theorem dX7_bodyOf_29 : decode cX7_bodyOf 29 = .ok (.iconst 0, 1) := dk_3 (byr_X7_bodyOf_1 (j := 13) rfl)
theorem dX7_bodyOf_30 : decode cX7_bodyOf 30 = .ok (.getstatic 48, 3) := dk_178 (byr_X7_bodyOf_1 (j := 14) rfl) (byr_X7_bodyOf_1 (j := 15) rfl) (byr_X7_bodyOf_2 (j := 0) rfl) (by decide)
theorem dX7_bodyOf_33 : decode cX7_bodyOf 33 = .ok (.arraylength, 1) := dk_190 (byr_X7_bodyOf_2 (j := 1) rfl)
theorem dX7_bodyOf_34 : decode cX7_bodyOf 34 = .ok (.iconst 1, 1) := dk_4 (byr_X7_bodyOf_2 (j := 2) rfl)
theorem dX7_bodyOf_35 : decode cX7_bodyOf 35 = .ok (.isub, 1) := dk_100 (byr_X7_bodyOf_2 (j := 3) rfl)
theorem dX7_bodyOf_36 : decode cX7_bodyOf 36 = .ok (.invokestatic 44, 3) := dk_184 (byr_X7_bodyOf_2 (j := 4) rfl) (byr_X7_bodyOf_2 (j := 5) rfl) (byr_X7_bodyOf_2 (j := 6) rfl) (by decide)
theorem dX7_bodyOf_39 : decode cX7_bodyOf 39 = .ok (.ifCond .ne 19, 3) := dk_154 (byr_X7_bodyOf_2 (j := 7) rfl) (byr_X7_bodyOf_2 (j := 8) rfl) (byr_X7_bodyOf_2 (j := 9) rfl) (by decide)
theorem dX7_bodyOf_42 : decode cX7_bodyOf 42 = .ok (.getstatic 48, 3) := dk_178 (byr_X7_bodyOf_2 (j := 10) rfl) (byr_X7_bodyOf_2 (j := 11) rfl) (byr_X7_bodyOf_2 (j := 12) rfl) (by decide)
theorem dX7_bodyOf_45 : decode cX7_bodyOf 45 = .ok (.iload 4, 2) := dk_21 (byr_X7_bodyOf_2 (j := 13) rfl) (byr_X7_bodyOf_2 (j := 14) rfl)
theorem dX7_bodyOf_47 : decode cX7_bodyOf 47 = .ok (.iaload, 1) := dk_46 (byr_X7_bodyOf_2 (j := 15) rfl)
theorem dX7_bodyOf_48 : decode cX7_bodyOf 48 = .ok (.ifCond .eq 10, 3) := dk_153 (byr_X7_bodyOf_3 (j := 0) rfl) (byr_X7_bodyOf_3 (j := 1) rfl) (byr_X7_bodyOf_3 (j := 2) rfl) (by decide)
theorem dX7_bodyOf_51 : decode cX7_bodyOf 51 = .ok (.getstatic 48, 3) := dk_178 (byr_X7_bodyOf_3 (j := 3) rfl) (byr_X7_bodyOf_3 (j := 4) rfl) (byr_X7_bodyOf_3 (j := 5) rfl) (by decide)
theorem dX7_bodyOf_54 : decode cX7_bodyOf 54 = .ok (.iload 4, 2) := dk_21 (byr_X7_bodyOf_3 (j := 6) rfl) (byr_X7_bodyOf_3 (j := 7) rfl)
theorem dX7_bodyOf_56 : decode cX7_bodyOf 56 = .ok (.iaload, 1) := dk_46 (byr_X7_bodyOf_3 (j := 8) rfl)
theorem dX7_bodyOf_57 : decode cX7_bodyOf 57 = .ok (.ireturn, 1) := dk_172 (byr_X7_bodyOf_3 (j := 9) rfl)
theorem dX7_bodyOf_58 : decode cX7_bodyOf 58 = .ok (.getstatic 51, 3) := dk_178 (byr_X7_bodyOf_3 (j := 10) rfl) (byr_X7_bodyOf_3 (j := 11) rfl) (byr_X7_bodyOf_3 (j := 12) rfl) (by decide)
theorem dX7_bodyOf_61 : decode cX7_bodyOf 61 = .ok (.iload_n 2, 1) := dk_28 (byr_X7_bodyOf_3 (j := 13) rfl)
theorem dX7_bodyOf_62 : decode cX7_bodyOf 62 = .ok (.iaload, 1) := dk_46 (byr_X7_bodyOf_3 (j := 14) rfl)
theorem dX7_bodyOf_63 : decode cX7_bodyOf 63 = .ok (.istore_n 2, 1) := dk_61 (byr_X7_bodyOf_3 (j := 15) rfl)
theorem dX7_bodyOf_64 : decode cX7_bodyOf 64 = .ok (.iinc 3 1, 3) := dk_132 (byr_X7_bodyOf_4 (j := 0) rfl) (byr_X7_bodyOf_4 (j := 1) rfl) (byr_X7_bodyOf_4 (j := 2) rfl) (by decide)
theorem dX7_bodyOf_67 : decode cX7_bodyOf 67 = .ok (.goto (-63), 3) := dk_167 (byr_X7_bodyOf_4 (j := 3) rfl) (byr_X7_bodyOf_4 (j := 4) rfl) (byr_X7_bodyOf_4 (j := 5) rfl) (by decide)
theorem dX7_bodyOf_70 : decode cX7_bodyOf 70 = .ok (.iconst 0, 1) := dk_3 (byr_X7_bodyOf_4 (j := 6) rfl)
theorem dX7_bodyOf_71 : decode cX7_bodyOf 71 = .ok (.ireturn, 1) := dk_172 (byr_X7_bodyOf_4 (j := 7) rfl)
set_option maxHeartbeats 4000000 in
set_option maxRecDepth 100000 in
theorem c_X7_bodyOf (l : Launch) (G : GT) (σ : Sto) (a0 : Int32) (a1 : Int32) (r : Int32) (h : f_X7_bodyOf σ a0 a1 = some r) : MW l G (3) (86) 0 0 yX7_bodyOf cX7_bodyOf 5 (Option.some Jvm.ClassFile.FieldType.int) [.int a0, .int a1] (wl G σ) (some (.int r)) (wl G σ) := by
  refine mw_of RX7 (fpI G σ) [(0, .int a0), (1, .int a1)] (by decide +kernel) rfl (Nat.le_of_ble_eq_true rfl) rfl h rfl (fun p e s m args below meth c X hr hnm => ?_)
  have J58 : ∀ (v1 : Int32) (v2 : Int32) (v3 : Int32) (K4 : Int32 → Int32 → Option Int32) (hK4 : ∀ (v2' : Int32) (v3' : Int32), Sm p l e { frames := 3, cells := 0, slots := 0, locals := 86 } s m args below meth c G 5 (Qm below args s G 0 0 (fpI G σ)) 0 0 (wl G σ) 4 [(1, .int v1), (2, .int v2'), (3, .int v3')] [] (K4 v2' v3')) , Sm p l e { frames := 3, cells := 0, slots := 0, locals := 86 } s m args below meth c G 5 (Qm below args s G 0 0 (fpI G σ)) 0 0 (wl G σ) 58 [(1, .int v1), (2, .int v2), (3, .int v3)] [] (f_X7_bodyOf_L58 σ K4 v1 v2 v3) := by
    intro v1 v2 v3 K4 hK4
    rw [f_X7_bodyOf_L58]
    refine sm_getsA X 61 dX7_bodyOf_58 rfl (host := RX8) (Or.inl (List.mem_of_getElem? (i := 15) rfl)) ?_
    refine sm_iload_n X 62 1 dX7_bodyOf_61 rfl rfl rfl ?_
    refine sm_ialdA X 63 dX7_bodyOf_62 rfl (fun r62 e62 => ?_)
    clear e62
    refine sm_istore_n X 64 [(2, .int r62), (1, .int v1), (3, .int v3)] dX7_bodyOf_63 rfl rfl (by decide) rfl ?_
    refine sm_iinc X 67 2 (1 : Int32) [(3, .int (v3 + (1 : Int32))), (2, .int r62), (1, .int v1)] dX7_bodyOf_64 rfl rfl rfl (by decide) rfl ?_
    refine sm_goto X 4 dX7_bodyOf_67 (by decide) ?_
    exact sm_sub [2, 1, 0] rfl (hK4 r62 (v3 + (1 : Int32)))
  have J4 : ∀ (v1 : Int32)  (n : Nat) (v2 : Int32) (v3 : Int32) , Sm p l e { frames := 3, cells := 0, slots := 0, locals := 86 } s m args below meth c G 5 (Qm below args s G 0 0 (fpI G σ)) 0 0 (wl G σ) 4 [(1, .int v1), (2, .int v2), (3, .int v3)] [] (f_X7_bodyOf_L4 σ  v1 n v2 v3) := by
    intro v1 n
    induction n with
    | zero => intro v2 v3; rw [f_X7_bodyOf_L4]; exact sm_none
    | succ n ihl =>
      intro v2 v3
      rw [f_X7_bodyOf_L4]
      refine sm_iload_n X 5 2 dX7_bodyOf_4 rfl rfl rfl ?_
      refine sm_bipush X 7 (7) dX7_bodyOf_5 rfl rfl ?_
      refine sm_icmp_ge X 10 70 dX7_bodyOf_7 rfl (by decide) (fun h7 => ?_) (fun h7 => ?_)
      · refine sm_iconst X 71 (0) dX7_bodyOf_70 rfl rfl ?_
        exact sm_iret X hr dX7_bodyOf_71 rfl
      · refine sm_iload_n X 11 1 dX7_bodyOf_10 rfl rfl rfl ?_
        refine sm_iconst X 12 (0) dX7_bodyOf_11 rfl rfl ?_
        refine sm_bipush X 14 (6) dX7_bodyOf_12 rfl rfl ?_
        refine sm_bind (fun r14 h14 => ?_)
        refine sm_callSN0 X 17 (host := RX8) [.int v2, .int 0, .int 6] [] [.int (b2i r14)] (c_X8_isOutside l G σ v2 (0 : Int32) (6 : Int32) r14 h14) cw_X8_isOutside q_328 (List.mem_of_getElem? (i := 14) rfl) rfl rfl rfl (Nat.le_of_ble_eq_true rfl) ⟨Nat.le_of_ble_eq_true rfl, Nat.le_of_ble_eq_true rfl⟩ ⟨Nat.le_refl _, Nat.le_refl _⟩ dX7_bodyOf_14 rfl ?_
        refine sm_ifz_ne X 20 70 dX7_bodyOf_17 rfl (by decide) (fun h17 => ?_) (fun h17 => ?_)
        · refine sm_iconst X 71 (0) dX7_bodyOf_70 rfl rfl ?_
          exact sm_iret X hr dX7_bodyOf_71 rfl
        · refine sm_iload_n X 21 1 dX7_bodyOf_20 rfl rfl rfl ?_
          refine sm_iconst X 22 (4) dX7_bodyOf_21 rfl rfl ?_
          refine sm_imul X 23 dX7_bodyOf_22 rfl ?_
          refine sm_iload_n X 24 0 dX7_bodyOf_23 rfl rfl rfl ?_
          refine sm_iadd X 25 dX7_bodyOf_24 rfl ?_
          refine sm_istore X 27 [(4, .int ((v2 * (4 : Int32)) + v1)), (1, .int v1), (2, .int v2), (3, .int v3)] dX7_bodyOf_25 rfl (by decide) rfl ?_
          refine sm_iload X 29 0 dX7_bodyOf_27 rfl rfl ?_
          refine sm_iconst X 30 (0) dX7_bodyOf_29 rfl rfl ?_
          refine sm_getsB X 33 dX7_bodyOf_30 rfl (host := RX8) (Or.inr q_781) ?_
          refine sm_alenB X 34 dX7_bodyOf_33 rfl ?_
          refine sm_iconst X 35 (1) dX7_bodyOf_34 rfl rfl ?_
          refine sm_isub X 36 dX7_bodyOf_35 rfl ?_
          refine sm_bind (fun r36 h36 => ?_)
          refine sm_callSN0 X 39 (host := RX8) [.int ((v2 * (4 : Int32)) + v1), .int 0, .int ((28 : Int32) - (1 : Int32))] [] [.int (b2i r36)] (c_X8_isOutside l G σ ((v2 * (4 : Int32)) + v1) (0 : Int32) ((28 : Int32) - (1 : Int32)) r36 h36) cw_X8_isOutside q_328 (List.mem_of_getElem? (i := 14) rfl) rfl rfl rfl (Nat.le_of_ble_eq_true rfl) ⟨Nat.le_of_ble_eq_true rfl, Nat.le_of_ble_eq_true rfl⟩ ⟨Nat.le_refl _, Nat.le_refl _⟩ dX7_bodyOf_36 rfl ?_
          refine sm_ifz_ne X 42 58 dX7_bodyOf_39 rfl (by decide) (fun h39 => ?_) (fun h39 => ?_)
          · exact sm_sub [1, 2, 3] rfl (J58 v1 v2 v3 (f_X7_bodyOf_L4 σ  v1 n) ihl)
          · refine sm_getsB X 45 dX7_bodyOf_42 rfl (host := RX8) (Or.inr q_781) ?_
            refine sm_iload X 47 0 dX7_bodyOf_45 rfl rfl ?_
            refine sm_ialdB X 48 dX7_bodyOf_47 rfl (fun r47 e47 => ?_)
            clear e47
            refine sm_if_eq X 51 58 dX7_bodyOf_48 rfl (by decide) (fun h48 => ?_) (fun h48 => ?_)
            · exact sm_sub [1, 2, 3] rfl (J58 v1 v2 v3 (f_X7_bodyOf_L4 σ  v1 n) ihl)
            · refine sm_getsB X 54 dX7_bodyOf_51 rfl (host := RX8) (Or.inr q_781) ?_
              refine sm_iload X 56 0 dX7_bodyOf_54 rfl rfl ?_
              refine sm_ialdB X 57 dX7_bodyOf_56 rfl (fun r56 e56 => ?_)
              clear e56
              exact sm_iret X hr dX7_bodyOf_57 rfl
  unfold f_X7_bodyOf
  refine sm_iload_n X 1 0 dX7_bodyOf_0 rfl rfl rfl ?_
  refine sm_istore_n X 2 [(2, .int a0), (0, .int a0), (1, .int a1)] dX7_bodyOf_1 rfl rfl (by decide) rfl ?_
  refine sm_iconst X 3 (0) dX7_bodyOf_2 rfl rfl ?_
  refine sm_istore_n X 4 [(3, .int 0), (2, .int a0), (0, .int a0), (1, .int a1)] dX7_bodyOf_3 rfl rfl (by decide) rfl ?_
  exact sm_sub [3, 1, 0] rfl (J4 a1  FU a0 (0 : Int32))
def by_X7_note_0 : List Nat := [42, 180, 0, 15, 42, 180, 0, 9, 190, 162, 0, 23, 42, 180, 0, 9]
def by_X7_note_1 : List Nat := [42, 180, 0, 15, 27, 79, 42, 89, 180, 0, 15, 4, 96, 181, 0, 15]
def by_X7_note_z : List Nat := [177]
def by_X7_note : List (List Nat) := [by_X7_note_0, by_X7_note_1]
set_option maxRecDepth 100000 in
theorem byo_X7_note : cX7_note.data.toList.map UInt8.toNat = by_X7_note.flatten ++ by_X7_note_z := by decide +kernel
theorem byl_X7_note : by_X7_note.all (fun r => r.length == 16) = true := by decide +kernel
theorem byr_X7_note_0 {j v : Nat} (h : by_X7_note_0[j]? = some v) : RD cX7_note (0 + j) v := rd_16 byo_X7_note byl_X7_note 0 rfl h
theorem byr_X7_note_1 {j v : Nat} (h : by_X7_note_1[j]? = some v) : RD cX7_note (16 + j) v := rd_16 byo_X7_note byl_X7_note 1 rfl h
theorem byr_X7_note_2 {j v : Nat} (h : by_X7_note_z[j]? = some v) : RD cX7_note (32 + j) v := rd_z byo_X7_note byl_X7_note 2 rfl h
theorem dX7_note_0 : decode cX7_note 0 = .ok (.aload_n 0, 1) := dk_42 (byr_X7_note_0 (j := 0) rfl)
theorem dX7_note_1 : decode cX7_note 1 = .ok (.getfield 15, 3) := dk_180 (byr_X7_note_0 (j := 1) rfl) (byr_X7_note_0 (j := 2) rfl) (byr_X7_note_0 (j := 3) rfl) (by decide)
theorem dX7_note_4 : decode cX7_note 4 = .ok (.aload_n 0, 1) := dk_42 (byr_X7_note_0 (j := 4) rfl)
theorem dX7_note_5 : decode cX7_note 5 = .ok (.getfield 9, 3) := dk_180 (byr_X7_note_0 (j := 5) rfl) (byr_X7_note_0 (j := 6) rfl) (byr_X7_note_0 (j := 7) rfl) (by decide)
theorem dX7_note_8 : decode cX7_note 8 = .ok (.arraylength, 1) := dk_190 (byr_X7_note_0 (j := 8) rfl)
theorem dX7_note_9 : decode cX7_note 9 = .ok (.if_icmp .ge 23, 3) := dk_162 (byr_X7_note_0 (j := 9) rfl) (byr_X7_note_0 (j := 10) rfl) (byr_X7_note_0 (j := 11) rfl) (by decide)
theorem dX7_note_12 : decode cX7_note 12 = .ok (.aload_n 0, 1) := dk_42 (byr_X7_note_0 (j := 12) rfl)
theorem dX7_note_13 : decode cX7_note 13 = .ok (.getfield 9, 3) := dk_180 (byr_X7_note_0 (j := 13) rfl) (byr_X7_note_0 (j := 14) rfl) (byr_X7_note_0 (j := 15) rfl) (by decide)
theorem dX7_note_16 : decode cX7_note 16 = .ok (.aload_n 0, 1) := dk_42 (byr_X7_note_1 (j := 0) rfl)
theorem dX7_note_17 : decode cX7_note 17 = .ok (.getfield 15, 3) := dk_180 (byr_X7_note_1 (j := 1) rfl) (byr_X7_note_1 (j := 2) rfl) (byr_X7_note_1 (j := 3) rfl) (by decide)
theorem dX7_note_20 : decode cX7_note 20 = .ok (.iload_n 1, 1) := dk_27 (byr_X7_note_1 (j := 4) rfl)
theorem dX7_note_21 : decode cX7_note 21 = .ok (.iastore, 1) := dk_79 (byr_X7_note_1 (j := 5) rfl)
theorem dX7_note_22 : decode cX7_note 22 = .ok (.aload_n 0, 1) := dk_42 (byr_X7_note_1 (j := 6) rfl)
theorem dX7_note_23 : decode cX7_note 23 = .ok (.dup, 1) := dk_89 (byr_X7_note_1 (j := 7) rfl)
theorem dX7_note_24 : decode cX7_note 24 = .ok (.getfield 15, 3) := dk_180 (byr_X7_note_1 (j := 8) rfl) (byr_X7_note_1 (j := 9) rfl) (byr_X7_note_1 (j := 10) rfl) (by decide)
theorem dX7_note_27 : decode cX7_note 27 = .ok (.iconst 1, 1) := dk_4 (byr_X7_note_1 (j := 11) rfl)
theorem dX7_note_28 : decode cX7_note 28 = .ok (.iadd, 1) := dk_96 (byr_X7_note_1 (j := 12) rfl)
theorem dX7_note_29 : decode cX7_note 29 = .ok (.putfield 15, 3) := dk_181 (byr_X7_note_1 (j := 13) rfl) (byr_X7_note_1 (j := 14) rfl) (byr_X7_note_1 (j := 15) rfl) (by decide)
theorem dX7_note_32 : decode cX7_note 32 = .ok (.return_, 1) := dk_177 (byr_X7_note_2 (j := 0) rfl)
set_option maxHeartbeats 4000000 in
set_option maxRecDepth 100000 in
theorem c_X7_note (l : Launch) (G : GT) (σ : Sto) (a1 : Int32) (r : Sto) (h : f_X7_note σ a1 = some r) : MW l G (2) (64) 0 0 yX7_note cX7_note 2 (Option.none : Option Jvm.ClassFile.FieldType) [.ref (gad G 65), .int a1] (wl G σ) (none) (wl G r) := by
  refine mw_of RX7 (fiV G) [(0, .ref (gad G 65)), (1, .int a1)] (by decide +kernel) rfl (Nat.le_of_ble_eq_true rfl) rfl h rfl (fun p e s m args below meth c X hr hnm => ?_)
  unfold f_X7_note
  refine sm_aload_n X 1 0 dX7_note_0 rfl rfl rfl ?_
  refine sm_geti X 4 rfl fd_7_1 dX7_note_1 rfl q_251 ?_
  refine sm_aload_n X 5 0 dX7_note_4 rfl rfl rfl ?_
  refine sm_getf X 8 66 rfl fd_7_0 rfl dX7_note_5 rfl q_249 ?_
  refine sm_alen X 9 40 (Or.inl rfl) rfl dX7_note_8 rfl ?_
  refine sm_icmp_ge X 12 32 dX7_note_9 rfl (by decide) (fun h9 => ?_) (fun h9 => ?_)
  · exact sm_vret X hr dX7_note_32 rfl
  · refine sm_aload_n X 13 0 dX7_note_12 rfl rfl rfl ?_
    refine sm_getf X 16 66 rfl fd_7_0 rfl dX7_note_13 rfl q_249 ?_
    refine sm_aload_n X 17 0 dX7_note_16 rfl rfl rfl ?_
    refine sm_geti X 20 rfl fd_7_1 dX7_note_17 rfl q_251 ?_
    refine sm_iload_n X 21 1 dX7_note_20 rfl rfl rfl ?_
    refine sm_iast X 22 rfl dX7_note_21 rfl (fun σ21 e21 => ?_)
    clear e21
    refine sm_aload_n X 23 0 dX7_note_22 rfl rfl rfl ?_
    refine sm_dup X 24 dX7_note_23 rfl rfl ?_
    refine sm_geti X 27 rfl fd_7_1 dX7_note_24 rfl q_251 ?_
    refine sm_iconst X 28 (1) dX7_note_27 rfl rfl ?_
    refine sm_iadd X 29 dX7_note_28 rfl ?_
    refine sm_puti X 32 .int rfl fd_7_1 (by decide) rfl rfl rfl dX7_note_29 rfl q_251 (fun σ29 e29 => ?_)
    clear e29
    exact sm_vret X hr dX7_note_32 rfl
def by_X7_say_0 : List Nat := [21, 4, 16, 40, 164, 0, 5, 3, 172, 27, 28, 184, 0, 36, 54, 5]
def by_X7_say_1 : List Nat := [42, 21, 5, 182, 0, 40, 21, 4, 4, 96, 54, 6, 21, 5, 171, 0]
def by_X7_say_2 : List Nat := [0, 0, 1, 16, 0, 0, 0, 11, 0, 0, 0, 10, 0, 0, 0, 98]
def by_X7_say_3 : List Nat := [0, 0, 0, 11, 0, 0, 0, 105, 0, 0, 0, 12, 0, 0, 0, 120]
def by_X7_say_4 : List Nat := [0, 0, 0, 13, 0, 0, 0, 127, 0, 0, 0, 20, 0, 0, 0, 153]
def by_X7_say_5 : List Nat := [0, 0, 0, 30, 0, 0, 0, 176, 0, 0, 0, 40, 0, 0, 0, 188]
def by_X7_say_6 : List Nat := [0, 0, 0, 50, 0, 0, 0, 199, 0, 0, 0, 60, 0, 0, 0, 211]
def by_X7_say_7 : List Nat := [0, 0, 0, 70, 0, 0, 0, 234, 0, 0, 0, 71, 0, 0, 0, 249]
def by_X7_say_8 : List Nat := [29, 42, 180, 0, 22, 96, 172, 42, 42, 180, 0, 19, 3, 29, 21, 6]
def by_X7_say_9 : List Nat := [182, 0, 32, 5, 104, 172, 29, 42, 180, 0, 25, 100, 172, 42, 42, 180]
def by_X7_say_10 : List Nat := [0, 19, 4, 29, 21, 6, 182, 0, 32, 42, 42, 180, 0, 19, 5, 29]
def by_X7_say_11 : List Nat := [21, 6, 182, 0, 32, 130, 172, 42, 3, 4, 29, 21, 6, 182, 0, 32]
def by_X7_say_12 : List Nat := [42, 42, 180, 0, 19, 5, 4, 21, 6, 182, 0, 32, 100, 172, 42, 3]
def by_X7_say_13 : List Nat := [3, 29, 21, 6, 182, 0, 32, 6, 104, 172, 42, 3, 5, 29, 21, 6]
def by_X7_say_14 : List Nat := [182, 0, 32, 116, 172, 42, 4, 4, 29, 4, 96, 21, 6, 182, 0, 32]
def by_X7_say_15 : List Nat := [172, 42, 5, 6, 29, 21, 6, 182, 0, 32, 42, 42, 180, 0, 19, 3]
def by_X7_say_16 : List Nat := [5, 21, 6, 182, 0, 32, 100, 172, 42, 6, 5, 29, 21, 6, 182, 0]
def by_X7_say_17 : List Nat := [32, 42, 180, 0, 22, 130, 172, 42, 42, 180, 0, 19, 4, 29, 21, 6]
def by_X7_say_18 : List Nat := [182, 0, 32, 42, 6, 6, 29, 21, 6, 182, 0, 32, 100, 172, 3, 172]
def by_X7_say_z : List Nat := []
def by_X7_say : List (List Nat) := [by_X7_say_0, by_X7_say_1, by_X7_say_2, by_X7_say_3, by_X7_say_4, by_X7_say_5, by_X7_say_6, by_X7_say_7, by_X7_say_8, by_X7_say_9, by_X7_say_10, by_X7_say_11, by_X7_say_12, by_X7_say_13, by_X7_say_14, by_X7_say_15, by_X7_say_16, by_X7_say_17, by_X7_say_18]
set_option maxRecDepth 100000 in
theorem byo_X7_say : cX7_say.data.toList.map UInt8.toNat = by_X7_say.flatten ++ by_X7_say_z := by decide +kernel
theorem byl_X7_say : by_X7_say.all (fun r => r.length == 16) = true := by decide +kernel
theorem byr_X7_say_0 {j v : Nat} (h : by_X7_say_0[j]? = some v) : RD cX7_say (0 + j) v := rd_16 byo_X7_say byl_X7_say 0 rfl h
theorem byr_X7_say_1 {j v : Nat} (h : by_X7_say_1[j]? = some v) : RD cX7_say (16 + j) v := rd_16 byo_X7_say byl_X7_say 1 rfl h
theorem byr_X7_say_2 {j v : Nat} (h : by_X7_say_2[j]? = some v) : RD cX7_say (32 + j) v := rd_16 byo_X7_say byl_X7_say 2 rfl h
theorem byr_X7_say_3 {j v : Nat} (h : by_X7_say_3[j]? = some v) : RD cX7_say (48 + j) v := rd_16 byo_X7_say byl_X7_say 3 rfl h
theorem byr_X7_say_4 {j v : Nat} (h : by_X7_say_4[j]? = some v) : RD cX7_say (64 + j) v := rd_16 byo_X7_say byl_X7_say 4 rfl h
theorem byr_X7_say_5 {j v : Nat} (h : by_X7_say_5[j]? = some v) : RD cX7_say (80 + j) v := rd_16 byo_X7_say byl_X7_say 5 rfl h
theorem byr_X7_say_6 {j v : Nat} (h : by_X7_say_6[j]? = some v) : RD cX7_say (96 + j) v := rd_16 byo_X7_say byl_X7_say 6 rfl h
theorem byr_X7_say_7 {j v : Nat} (h : by_X7_say_7[j]? = some v) : RD cX7_say (112 + j) v := rd_16 byo_X7_say byl_X7_say 7 rfl h
theorem byr_X7_say_8 {j v : Nat} (h : by_X7_say_8[j]? = some v) : RD cX7_say (128 + j) v := rd_16 byo_X7_say byl_X7_say 8 rfl h
theorem byr_X7_say_9 {j v : Nat} (h : by_X7_say_9[j]? = some v) : RD cX7_say (144 + j) v := rd_16 byo_X7_say byl_X7_say 9 rfl h
theorem byr_X7_say_10 {j v : Nat} (h : by_X7_say_10[j]? = some v) : RD cX7_say (160 + j) v := rd_16 byo_X7_say byl_X7_say 10 rfl h
theorem byr_X7_say_11 {j v : Nat} (h : by_X7_say_11[j]? = some v) : RD cX7_say (176 + j) v := rd_16 byo_X7_say byl_X7_say 11 rfl h
theorem byr_X7_say_12 {j v : Nat} (h : by_X7_say_12[j]? = some v) : RD cX7_say (192 + j) v := rd_16 byo_X7_say byl_X7_say 12 rfl h
theorem byr_X7_say_13 {j v : Nat} (h : by_X7_say_13[j]? = some v) : RD cX7_say (208 + j) v := rd_16 byo_X7_say byl_X7_say 13 rfl h
theorem byr_X7_say_14 {j v : Nat} (h : by_X7_say_14[j]? = some v) : RD cX7_say (224 + j) v := rd_16 byo_X7_say byl_X7_say 14 rfl h
theorem byr_X7_say_15 {j v : Nat} (h : by_X7_say_15[j]? = some v) : RD cX7_say (240 + j) v := rd_16 byo_X7_say byl_X7_say 15 rfl h
theorem byr_X7_say_16 {j v : Nat} (h : by_X7_say_16[j]? = some v) : RD cX7_say (256 + j) v := rd_16 byo_X7_say byl_X7_say 16 rfl h
theorem byr_X7_say_17 {j v : Nat} (h : by_X7_say_17[j]? = some v) : RD cX7_say (272 + j) v := rd_16 byo_X7_say byl_X7_say 17 rfl h
theorem byr_X7_say_18 {j v : Nat} (h : by_X7_say_18[j]? = some v) : RD cX7_say (288 + j) v := rd_16 byo_X7_say byl_X7_say 18 rfl h
theorem byr_X7_say_19 {j v : Nat} (h : by_X7_say_z[j]? = some v) : RD cX7_say (304 + j) v := rd_z byo_X7_say byl_X7_say 19 rfl h
theorem dX7_say_0 : decode cX7_say 0 = .ok (.iload 4, 2) := dk_21 (byr_X7_say_0 (j := 0) rfl) (byr_X7_say_0 (j := 1) rfl)
theorem dX7_say_2 : decode cX7_say 2 = .ok (.bipush 40, 2) := dk_16 (byr_X7_say_0 (j := 2) rfl) (byr_X7_say_0 (j := 3) rfl) (by decide)
theorem dX7_say_4 : decode cX7_say 4 = .ok (.if_icmp .le 5, 3) := dk_164 (byr_X7_say_0 (j := 4) rfl) (byr_X7_say_0 (j := 5) rfl) (byr_X7_say_0 (j := 6) rfl) (by decide)
theorem dX7_say_7 : decode cX7_say 7 = .ok (.iconst 0, 1) := dk_3 (byr_X7_say_0 (j := 7) rfl)
theorem dX7_say_8 : decode cX7_say 8 = .ok (.ireturn, 1) := dk_172 (byr_X7_say_0 (j := 8) rfl)
theorem dX7_say_9 : decode cX7_say 9 = .ok (.iload_n 1, 1) := dk_27 (byr_X7_say_0 (j := 9) rfl)
theorem dX7_say_10 : decode cX7_say 10 = .ok (.iload_n 2, 1) := dk_28 (byr_X7_say_0 (j := 10) rfl)
theorem dX7_say_11 : decode cX7_say 11 = .ok (.invokestatic 36, 3) := dk_184 (byr_X7_say_0 (j := 11) rfl) (byr_X7_say_0 (j := 12) rfl) (byr_X7_say_0 (j := 13) rfl) (by decide)
theorem dX7_say_14 : decode cX7_say 14 = .ok (.istore 5, 2) := dk_54 (byr_X7_say_0 (j := 14) rfl) (byr_X7_say_0 (j := 15) rfl)
theorem dX7_say_16 : decode cX7_say 16 = .ok (.aload_n 0, 1) := dk_42 (byr_X7_say_1 (j := 0) rfl)
theorem dX7_say_17 : decode cX7_say 17 = .ok (.iload 5, 2) := dk_21 (byr_X7_say_1 (j := 1) rfl) (byr_X7_say_1 (j := 2) rfl)
theorem dX7_say_19 : decode cX7_say 19 = .ok (.invokevirtual 40, 3) := dk_182 (byr_X7_say_1 (j := 3) rfl) (byr_X7_say_1 (j := 4) rfl) (byr_X7_say_1 (j := 5) rfl) (by decide)
theorem dX7_say_22 : decode cX7_say 22 = .ok (.iload 4, 2) := dk_21 (byr_X7_say_1 (j := 6) rfl) (byr_X7_say_1 (j := 7) rfl)
theorem dX7_say_24 : decode cX7_say 24 = .ok (.iconst 1, 1) := dk_4 (byr_X7_say_1 (j := 8) rfl)
theorem dX7_say_25 : decode cX7_say 25 = .ok (.iadd, 1) := dk_96 (byr_X7_say_1 (j := 9) rfl)
theorem dX7_say_26 : decode cX7_say 26 = .ok (.istore 6, 2) := dk_54 (byr_X7_say_1 (j := 10) rfl) (byr_X7_say_1 (j := 11) rfl)
theorem dX7_say_28 : decode cX7_say 28 = .ok (.iload 5, 2) := dk_21 (byr_X7_say_1 (j := 12) rfl) (byr_X7_say_1 (j := 13) rfl)
set_option maxRecDepth 20000 in
theorem dX7_say_30 : decode cX7_say 30 = .ok (.lookupswitch 272 #[(10, 98), (11, 105), (12, 120), (13, 127), (20, 153), (30, 176), (40, 188), (50, 199), (60, 211), (70, 234), (71, 249)], 98) := by decide +kernel
theorem dX7_say_128 : decode cX7_say 128 = .ok (.iload_n 3, 1) := dk_29 (byr_X7_say_8 (j := 0) rfl)
theorem dX7_say_129 : decode cX7_say 129 = .ok (.aload_n 0, 1) := dk_42 (byr_X7_say_8 (j := 1) rfl)
theorem dX7_say_130 : decode cX7_say 130 = .ok (.getfield 22, 3) := dk_180 (byr_X7_say_8 (j := 2) rfl) (byr_X7_say_8 (j := 3) rfl) (byr_X7_say_8 (j := 4) rfl) (by decide)
theorem dX7_say_133 : decode cX7_say 133 = .ok (.iadd, 1) := dk_96 (byr_X7_say_8 (j := 5) rfl)
theorem dX7_say_134 : decode cX7_say 134 = .ok (.ireturn, 1) := dk_172 (byr_X7_say_8 (j := 6) rfl)
theorem dX7_say_135 : decode cX7_say 135 = .ok (.aload_n 0, 1) := dk_42 (byr_X7_say_8 (j := 7) rfl)
theorem dX7_say_136 : decode cX7_say 136 = .ok (.aload_n 0, 1) := dk_42 (byr_X7_say_8 (j := 8) rfl)
theorem dX7_say_137 : decode cX7_say 137 = .ok (.getfield 19, 3) := dk_180 (byr_X7_say_8 (j := 9) rfl) (byr_X7_say_8 (j := 10) rfl) (byr_X7_say_8 (j := 11) rfl) (by decide)
theorem dX7_say_140 : decode cX7_say 140 = .ok (.iconst 0, 1) := dk_3 (byr_X7_say_8 (j := 12) rfl)
theorem dX7_say_141 : decode cX7_say 141 = .ok (.iload_n 3, 1) := dk_29 (byr_X7_say_8 (j := 13) rfl)
theorem dX7_say_142 : decode cX7_say 142 = .ok (.iload 6, 2) := dk_21 (byr_X7_say_8 (j := 14) rfl) (byr_X7_say_8 (j := 15) rfl)
theorem dX7_say_144 : decode cX7_say 144 = .ok (.invokevirtual 32, 3) := dk_182 (byr_X7_say_9 (j := 0) rfl) (byr_X7_say_9 (j := 1) rfl) (byr_X7_say_9 (j := 2) rfl) (by decide)
theorem dX7_say_147 : decode cX7_say 147 = .ok (.iconst 2, 1) := dk_5 (byr_X7_say_9 (j := 3) rfl)
theorem dX7_say_148 : decode cX7_say 148 = .ok (.imul, 1) := dk_104 (byr_X7_say_9 (j := 4) rfl)
theorem dX7_say_149 : decode cX7_say 149 = .ok (.ireturn, 1) := dk_172 (byr_X7_say_9 (j := 5) rfl)
theorem dX7_say_150 : decode cX7_say 150 = .ok (.iload_n 3, 1) := dk_29 (byr_X7_say_9 (j := 6) rfl)
theorem dX7_say_151 : decode cX7_say 151 = .ok (.aload_n 0, 1) := dk_42 (byr_X7_say_9 (j := 7) rfl)
theorem dX7_say_152 : decode cX7_say 152 = .ok (.getfield 25, 3) := dk_180 (byr_X7_say_9 (j := 8) rfl) (byr_X7_say_9 (j := 9) rfl) (byr_X7_say_9 (j := 10) rfl) (by decide)
theorem dX7_say_155 : decode cX7_say 155 = .ok (.isub, 1) := dk_100 (byr_X7_say_9 (j := 11) rfl)
theorem dX7_say_156 : decode cX7_say 156 = .ok (.ireturn, 1) := dk_172 (byr_X7_say_9 (j := 12) rfl)
theorem dX7_say_157 : decode cX7_say 157 = .ok (.aload_n 0, 1) := dk_42 (byr_X7_say_9 (j := 13) rfl)
theorem dX7_say_158 : decode cX7_say 158 = .ok (.aload_n 0, 1) := dk_42 (byr_X7_say_9 (j := 14) rfl)
theorem dX7_say_159 : decode cX7_say 159 = .ok (.getfield 19, 3) := dk_180 (byr_X7_say_9 (j := 15) rfl) (byr_X7_say_10 (j := 0) rfl) (byr_X7_say_10 (j := 1) rfl) (by decide)
theorem dX7_say_162 : decode cX7_say 162 = .ok (.iconst 1, 1) := dk_4 (byr_X7_say_10 (j := 2) rfl)
theorem dX7_say_163 : decode cX7_say 163 = .ok (.iload_n 3, 1) := dk_29 (byr_X7_say_10 (j := 3) rfl)
theorem dX7_say_164 : decode cX7_say 164 = .ok (.iload 6, 2) := dk_21 (byr_X7_say_10 (j := 4) rfl) (byr_X7_say_10 (j := 5) rfl)
theorem dX7_say_166 : decode cX7_say 166 = .ok (.invokevirtual 32, 3) := dk_182 (byr_X7_say_10 (j := 6) rfl) (byr_X7_say_10 (j := 7) rfl) (byr_X7_say_10 (j := 8) rfl) (by decide)
theorem dX7_say_169 : decode cX7_say 169 = .ok (.aload_n 0, 1) := dk_42 (byr_X7_say_10 (j := 9) rfl)
theorem dX7_say_170 : decode cX7_say 170 = .ok (.aload_n 0, 1) := dk_42 (byr_X7_say_10 (j := 10) rfl)
theorem dX7_say_171 : decode cX7_say 171 = .ok (.getfield 19, 3) := dk_180 (byr_X7_say_10 (j := 11) rfl) (byr_X7_say_10 (j := 12) rfl) (byr_X7_say_10 (j := 13) rfl) (by decide)
theorem dX7_say_174 : decode cX7_say 174 = .ok (.iconst 2, 1) := dk_5 (byr_X7_say_10 (j := 14) rfl)
theorem dX7_say_175 : decode cX7_say 175 = .ok (.iload_n 3, 1) := dk_29 (byr_X7_say_10 (j := 15) rfl)
theorem dX7_say_176 : decode cX7_say 176 = .ok (.iload 6, 2) := dk_21 (byr_X7_say_11 (j := 0) rfl) (byr_X7_say_11 (j := 1) rfl)
theorem dX7_say_178 : decode cX7_say 178 = .ok (.invokevirtual 32, 3) := dk_182 (byr_X7_say_11 (j := 2) rfl) (byr_X7_say_11 (j := 3) rfl) (byr_X7_say_11 (j := 4) rfl) (by decide)
theorem dX7_say_181 : decode cX7_say 181 = .ok (.ixor, 1) := dk_130 (byr_X7_say_11 (j := 5) rfl)
theorem dX7_say_182 : decode cX7_say 182 = .ok (.ireturn, 1) := dk_172 (byr_X7_say_11 (j := 6) rfl)
theorem dX7_say_183 : decode cX7_say 183 = .ok (.aload_n 0, 1) := dk_42 (byr_X7_say_11 (j := 7) rfl)
theorem dX7_say_184 : decode cX7_say 184 = .ok (.iconst 0, 1) := dk_3 (byr_X7_say_11 (j := 8) rfl)
theorem dX7_say_185 : decode cX7_say 185 = .ok (.iconst 1, 1) := dk_4 (byr_X7_say_11 (j := 9) rfl)
theorem dX7_say_186 : decode cX7_say 186 = .ok (.iload_n 3, 1) := dk_29 (byr_X7_say_11 (j := 10) rfl)
theorem dX7_say_187 : decode cX7_say 187 = .ok (.iload 6, 2) := dk_21 (byr_X7_say_11 (j := 11) rfl) (byr_X7_say_11 (j := 12) rfl)
theorem dX7_say_189 : decode cX7_say 189 = .ok (.invokevirtual 32, 3) := dk_182 (byr_X7_say_11 (j := 13) rfl) (byr_X7_say_11 (j := 14) rfl) (byr_X7_say_11 (j := 15) rfl) (by decide)
theorem dX7_say_192 : decode cX7_say 192 = .ok (.aload_n 0, 1) := dk_42 (byr_X7_say_12 (j := 0) rfl)
theorem dX7_say_193 : decode cX7_say 193 = .ok (.aload_n 0, 1) := dk_42 (byr_X7_say_12 (j := 1) rfl)
theorem dX7_say_194 : decode cX7_say 194 = .ok (.getfield 19, 3) := dk_180 (byr_X7_say_12 (j := 2) rfl) (byr_X7_say_12 (j := 3) rfl) (byr_X7_say_12 (j := 4) rfl) (by decide)
theorem dX7_say_197 : decode cX7_say 197 = .ok (.iconst 2, 1) := dk_5 (byr_X7_say_12 (j := 5) rfl)
theorem dX7_say_198 : decode cX7_say 198 = .ok (.iconst 1, 1) := dk_4 (byr_X7_say_12 (j := 6) rfl)
theorem dX7_say_199 : decode cX7_say 199 = .ok (.iload 6, 2) := dk_21 (byr_X7_say_12 (j := 7) rfl) (byr_X7_say_12 (j := 8) rfl)
theorem dX7_say_201 : decode cX7_say 201 = .ok (.invokevirtual 32, 3) := dk_182 (byr_X7_say_12 (j := 9) rfl) (byr_X7_say_12 (j := 10) rfl) (byr_X7_say_12 (j := 11) rfl) (by decide)
theorem dX7_say_204 : decode cX7_say 204 = .ok (.isub, 1) := dk_100 (byr_X7_say_12 (j := 12) rfl)
theorem dX7_say_205 : decode cX7_say 205 = .ok (.ireturn, 1) := dk_172 (byr_X7_say_12 (j := 13) rfl)
theorem dX7_say_206 : decode cX7_say 206 = .ok (.aload_n 0, 1) := dk_42 (byr_X7_say_12 (j := 14) rfl)
theorem dX7_say_207 : decode cX7_say 207 = .ok (.iconst 0, 1) := dk_3 (byr_X7_say_12 (j := 15) rfl)
theorem dX7_say_208 : decode cX7_say 208 = .ok (.iconst 0, 1) := dk_3 (byr_X7_say_13 (j := 0) rfl)
theorem dX7_say_209 : decode cX7_say 209 = .ok (.iload_n 3, 1) := dk_29 (byr_X7_say_13 (j := 1) rfl)
theorem dX7_say_210 : decode cX7_say 210 = .ok (.iload 6, 2) := dk_21 (byr_X7_say_13 (j := 2) rfl) (byr_X7_say_13 (j := 3) rfl)
theorem dX7_say_212 : decode cX7_say 212 = .ok (.invokevirtual 32, 3) := dk_182 (byr_X7_say_13 (j := 4) rfl) (byr_X7_say_13 (j := 5) rfl) (byr_X7_say_13 (j := 6) rfl) (by decide)
theorem dX7_say_215 : decode cX7_say 215 = .ok (.iconst 3, 1) := dk_6 (byr_X7_say_13 (j := 7) rfl)
theorem dX7_say_216 : decode cX7_say 216 = .ok (.imul, 1) := dk_104 (byr_X7_say_13 (j := 8) rfl)
theorem dX7_say_217 : decode cX7_say 217 = .ok (.ireturn, 1) := dk_172 (byr_X7_say_13 (j := 9) rfl)
theorem dX7_say_218 : decode cX7_say 218 = .ok (.aload_n 0, 1) := dk_42 (byr_X7_say_13 (j := 10) rfl)
theorem dX7_say_219 : decode cX7_say 219 = .ok (.iconst 0, 1) := dk_3 (byr_X7_say_13 (j := 11) rfl)
theorem dX7_say_220 : decode cX7_say 220 = .ok (.iconst 2, 1) := dk_5 (byr_X7_say_13 (j := 12) rfl)
theorem dX7_say_221 : decode cX7_say 221 = .ok (.iload_n 3, 1) := dk_29 (byr_X7_say_13 (j := 13) rfl)
theorem dX7_say_222 : decode cX7_say 222 = .ok (.iload 6, 2) := dk_21 (byr_X7_say_13 (j := 14) rfl) (byr_X7_say_13 (j := 15) rfl)
theorem dX7_say_224 : decode cX7_say 224 = .ok (.invokevirtual 32, 3) := dk_182 (byr_X7_say_14 (j := 0) rfl) (byr_X7_say_14 (j := 1) rfl) (byr_X7_say_14 (j := 2) rfl) (by decide)
theorem dX7_say_227 : decode cX7_say 227 = .ok (.ineg, 1) := dk_116 (byr_X7_say_14 (j := 3) rfl)
theorem dX7_say_228 : decode cX7_say 228 = .ok (.ireturn, 1) := dk_172 (byr_X7_say_14 (j := 4) rfl)
theorem dX7_say_229 : decode cX7_say 229 = .ok (.aload_n 0, 1) := dk_42 (byr_X7_say_14 (j := 5) rfl)
theorem dX7_say_230 : decode cX7_say 230 = .ok (.iconst 1, 1) := dk_4 (byr_X7_say_14 (j := 6) rfl)
theorem dX7_say_231 : decode cX7_say 231 = .ok (.iconst 1, 1) := dk_4 (byr_X7_say_14 (j := 7) rfl)
theorem dX7_say_232 : decode cX7_say 232 = .ok (.iload_n 3, 1) := dk_29 (byr_X7_say_14 (j := 8) rfl)
theorem dX7_say_233 : decode cX7_say 233 = .ok (.iconst 1, 1) := dk_4 (byr_X7_say_14 (j := 9) rfl)
theorem dX7_say_234 : decode cX7_say 234 = .ok (.iadd, 1) := dk_96 (byr_X7_say_14 (j := 10) rfl)
theorem dX7_say_235 : decode cX7_say 235 = .ok (.iload 6, 2) := dk_21 (byr_X7_say_14 (j := 11) rfl) (byr_X7_say_14 (j := 12) rfl)
theorem dX7_say_237 : decode cX7_say 237 = .ok (.invokevirtual 32, 3) := dk_182 (byr_X7_say_14 (j := 13) rfl) (byr_X7_say_14 (j := 14) rfl) (byr_X7_say_14 (j := 15) rfl) (by decide)
theorem dX7_say_240 : decode cX7_say 240 = .ok (.ireturn, 1) := dk_172 (byr_X7_say_15 (j := 0) rfl)
theorem dX7_say_241 : decode cX7_say 241 = .ok (.aload_n 0, 1) := dk_42 (byr_X7_say_15 (j := 1) rfl)
theorem dX7_say_242 : decode cX7_say 242 = .ok (.iconst 2, 1) := dk_5 (byr_X7_say_15 (j := 2) rfl)
theorem dX7_say_243 : decode cX7_say 243 = .ok (.iconst 3, 1) := dk_6 (byr_X7_say_15 (j := 3) rfl)
theorem dX7_say_244 : decode cX7_say 244 = .ok (.iload_n 3, 1) := dk_29 (byr_X7_say_15 (j := 4) rfl)
theorem dX7_say_245 : decode cX7_say 245 = .ok (.iload 6, 2) := dk_21 (byr_X7_say_15 (j := 5) rfl) (byr_X7_say_15 (j := 6) rfl)
theorem dX7_say_247 : decode cX7_say 247 = .ok (.invokevirtual 32, 3) := dk_182 (byr_X7_say_15 (j := 7) rfl) (byr_X7_say_15 (j := 8) rfl) (byr_X7_say_15 (j := 9) rfl) (by decide)
theorem dX7_say_250 : decode cX7_say 250 = .ok (.aload_n 0, 1) := dk_42 (byr_X7_say_15 (j := 10) rfl)
theorem dX7_say_251 : decode cX7_say 251 = .ok (.aload_n 0, 1) := dk_42 (byr_X7_say_15 (j := 11) rfl)
theorem dX7_say_252 : decode cX7_say 252 = .ok (.getfield 19, 3) := dk_180 (byr_X7_say_15 (j := 12) rfl) (byr_X7_say_15 (j := 13) rfl) (byr_X7_say_15 (j := 14) rfl) (by decide)
theorem dX7_say_255 : decode cX7_say 255 = .ok (.iconst 0, 1) := dk_3 (byr_X7_say_15 (j := 15) rfl)
theorem dX7_say_256 : decode cX7_say 256 = .ok (.iconst 2, 1) := dk_5 (byr_X7_say_16 (j := 0) rfl)
theorem dX7_say_257 : decode cX7_say 257 = .ok (.iload 6, 2) := dk_21 (byr_X7_say_16 (j := 1) rfl) (byr_X7_say_16 (j := 2) rfl)
theorem dX7_say_259 : decode cX7_say 259 = .ok (.invokevirtual 32, 3) := dk_182 (byr_X7_say_16 (j := 3) rfl) (byr_X7_say_16 (j := 4) rfl) (byr_X7_say_16 (j := 5) rfl) (by decide)
theorem dX7_say_262 : decode cX7_say 262 = .ok (.isub, 1) := dk_100 (byr_X7_say_16 (j := 6) rfl)
theorem dX7_say_263 : decode cX7_say 263 = .ok (.ireturn, 1) := dk_172 (byr_X7_say_16 (j := 7) rfl)
theorem dX7_say_264 : decode cX7_say 264 = .ok (.aload_n 0, 1) := dk_42 (byr_X7_say_16 (j := 8) rfl)
theorem dX7_say_265 : decode cX7_say 265 = .ok (.iconst 3, 1) := dk_6 (byr_X7_say_16 (j := 9) rfl)
theorem dX7_say_266 : decode cX7_say 266 = .ok (.iconst 2, 1) := dk_5 (byr_X7_say_16 (j := 10) rfl)
theorem dX7_say_267 : decode cX7_say 267 = .ok (.iload_n 3, 1) := dk_29 (byr_X7_say_16 (j := 11) rfl)
theorem dX7_say_268 : decode cX7_say 268 = .ok (.iload 6, 2) := dk_21 (byr_X7_say_16 (j := 12) rfl) (byr_X7_say_16 (j := 13) rfl)
theorem dX7_say_270 : decode cX7_say 270 = .ok (.invokevirtual 32, 3) := dk_182 (byr_X7_say_16 (j := 14) rfl) (byr_X7_say_16 (j := 15) rfl) (byr_X7_say_17 (j := 0) rfl) (by decide)
theorem dX7_say_273 : decode cX7_say 273 = .ok (.aload_n 0, 1) := dk_42 (byr_X7_say_17 (j := 1) rfl)
theorem dX7_say_274 : decode cX7_say 274 = .ok (.getfield 22, 3) := dk_180 (byr_X7_say_17 (j := 2) rfl) (byr_X7_say_17 (j := 3) rfl) (byr_X7_say_17 (j := 4) rfl) (by decide)
theorem dX7_say_277 : decode cX7_say 277 = .ok (.ixor, 1) := dk_130 (byr_X7_say_17 (j := 5) rfl)
theorem dX7_say_278 : decode cX7_say 278 = .ok (.ireturn, 1) := dk_172 (byr_X7_say_17 (j := 6) rfl)
theorem dX7_say_279 : decode cX7_say 279 = .ok (.aload_n 0, 1) := dk_42 (byr_X7_say_17 (j := 7) rfl)
theorem dX7_say_280 : decode cX7_say 280 = .ok (.aload_n 0, 1) := dk_42 (byr_X7_say_17 (j := 8) rfl)
theorem dX7_say_281 : decode cX7_say 281 = .ok (.getfield 19, 3) := dk_180 (byr_X7_say_17 (j := 9) rfl) (byr_X7_say_17 (j := 10) rfl) (byr_X7_say_17 (j := 11) rfl) (by decide)
theorem dX7_say_284 : decode cX7_say 284 = .ok (.iconst 1, 1) := dk_4 (byr_X7_say_17 (j := 12) rfl)
theorem dX7_say_285 : decode cX7_say 285 = .ok (.iload_n 3, 1) := dk_29 (byr_X7_say_17 (j := 13) rfl)
theorem dX7_say_286 : decode cX7_say 286 = .ok (.iload 6, 2) := dk_21 (byr_X7_say_17 (j := 14) rfl) (byr_X7_say_17 (j := 15) rfl)
theorem dX7_say_288 : decode cX7_say 288 = .ok (.invokevirtual 32, 3) := dk_182 (byr_X7_say_18 (j := 0) rfl) (byr_X7_say_18 (j := 1) rfl) (byr_X7_say_18 (j := 2) rfl) (by decide)
theorem dX7_say_291 : decode cX7_say 291 = .ok (.aload_n 0, 1) := dk_42 (byr_X7_say_18 (j := 3) rfl)
theorem dX7_say_292 : decode cX7_say 292 = .ok (.iconst 3, 1) := dk_6 (byr_X7_say_18 (j := 4) rfl)
theorem dX7_say_293 : decode cX7_say 293 = .ok (.iconst 3, 1) := dk_6 (byr_X7_say_18 (j := 5) rfl)
theorem dX7_say_294 : decode cX7_say 294 = .ok (.iload_n 3, 1) := dk_29 (byr_X7_say_18 (j := 6) rfl)
theorem dX7_say_295 : decode cX7_say 295 = .ok (.iload 6, 2) := dk_21 (byr_X7_say_18 (j := 7) rfl) (byr_X7_say_18 (j := 8) rfl)
theorem dX7_say_297 : decode cX7_say 297 = .ok (.invokevirtual 32, 3) := dk_182 (byr_X7_say_18 (j := 9) rfl) (byr_X7_say_18 (j := 10) rfl) (byr_X7_say_18 (j := 11) rfl) (by decide)
theorem dX7_say_300 : decode cX7_say 300 = .ok (.isub, 1) := dk_100 (byr_X7_say_18 (j := 12) rfl)
theorem dX7_say_301 : decode cX7_say 301 = .ok (.ireturn, 1) := dk_172 (byr_X7_say_18 (j := 13) rfl)
theorem dX7_say_302 : decode cX7_say 302 = .ok (.iconst 0, 1) := dk_3 (byr_X7_say_18 (j := 14) rfl)
theorem dX7_say_303 : decode cX7_say 303 = .ok (.ireturn, 1) := dk_172 (byr_X7_say_18 (j := 15) rfl)
set_option maxHeartbeats 4000000 in
set_option maxRecDepth 100000 in
theorem cg_X7_say (l : Launch) (G : GT) : ∀ d, (∀ (σ : Sto) (a1 : Int32) (a2 : Int32) (a3 : Int32) (a4 : Int32) (r : (Int32 × Sto)) (_ : g_X7_say d 0 a1 a2 a3 a4 σ = some r), MW l G (5 + d) (174 + 64 * d) 0 0 yX7_say cX7_say 7 (Option.some Jvm.ClassFile.FieldType.int) [.ref (gad G 65), .int a1, .int a2, .int a3, .int a4] (wl G σ) (some (.int r.1)) (wl G r.2)) := by
  intro d
  induction d with
  | zero => exact fun _ _ _ _ _ _ => by intro h; cases h
  | succ d ih =>
    intro σ a1 a2 a3 a4 r h
    rw [g_X7_say] at h
    refine mw_of RX7 (fiI G) [(0, .ref (gad G 65)), (1, .int a1), (2, .int a2), (3, .int a3), (4, .int a4)] (by decide +kernel) rfl (Nat.le_of_ble_eq_true rfl) rfl h rfl (fun p e s m args below meth c X hr hnm => ?_)
    unfold b_X7_say
    refine sm_iload X 2 4 dX7_say_0 rfl rfl ?_
    refine sm_bipush X 4 (40) dX7_say_2 rfl rfl ?_
    refine sm_icmp_le X 7 9 dX7_say_4 rfl (by decide) (fun h4 => ?_) (fun h4 => ?_)
    · refine sm_iload_n X 10 1 dX7_say_9 rfl rfl rfl ?_
      refine sm_iload_n X 11 2 dX7_say_10 rfl rfl rfl ?_
      refine sm_bind (fun r11 h11 => ?_)
      refine sm_callS0 X 14 [.int a1, .int a2] [] [.int r11] (c_X7_bodyOf l G σ a1 a2 r11 h11) cw_X7_bodyOf q_778 q_777 rfl rfl rfl (Nat.le_of_ble_eq_true rfl) ⟨by show _ + 1 ≤ _ + (_ + 1); omega, by show _ ≤ _ + 64 * (_ + 1); omega⟩ ⟨Nat.le_refl _, Nat.le_refl _⟩ dX7_say_11 rfl ?_
      refine sm_istore X 16 [(5, .int r11), (0, .ref (gad G 65)), (1, .int a1), (2, .int a2), (3, .int a3), (4, .int a4)] dX7_say_14 rfl (by decide) rfl ?_
      refine sm_aload_n X 17 1 dX7_say_16 rfl rfl rfl ?_
      refine sm_iload X 19 0 dX7_say_17 rfl rfl ?_
      refine sm_bind (fun r19 h19 => ?_)
      refine sm_callV0 X 22 [.int r11] [] [] (c_X7_note l G σ r11 r19 h19) cw_X7_note q_786 qs_24 q_784 rfl (by decide) rfl rfl rfl rfl rfl (Nat.le_of_ble_eq_true rfl) ⟨by show _ + 1 ≤ _ + (_ + 1); omega, by show _ ≤ _ + 64 * (_ + 1); omega⟩ ⟨Nat.le_refl _, Nat.le_refl _⟩ dX7_say_19 rfl ?_
      refine sm_iload X 24 5 dX7_say_22 rfl rfl ?_
      refine sm_iconst X 25 (1) dX7_say_24 rfl rfl ?_
      refine sm_iadd X 26 dX7_say_25 rfl ?_
      refine sm_istore X 28 [(6, .int (a4 + (1 : Int32))), (5, .int r11), (0, .ref (gad G 65)), (1, .int a1), (2, .int a2), (3, .int a3), (4, .int a4)] dX7_say_26 rfl (by decide) rfl ?_
      refine sm_iload X 30 1 dX7_say_28 rfl rfl ?_
      refine sm_if (fun h30_0 => ?_) (fun h30_0 => ?_)
      · refine sm_lookup X 128 dX7_say_30 (by decide) (by first | (rw [h30_0]; done) | (rw [h30_0]; rfl)) (by decide) ?_
        refine sm_iload_n X 129 5 dX7_say_128 rfl rfl rfl ?_
        refine sm_aload_n X 130 2 dX7_say_129 rfl rfl rfl ?_
        refine sm_geti X 133 rfl fd_7_3 dX7_say_130 rfl q_254 ?_
        refine sm_iadd X 134 dX7_say_133 rfl ?_
        exact sm_iret X hr dX7_say_134 rfl
      refine sm_if (fun h30_1 => ?_) (fun h30_1 => ?_)
      · refine sm_lookup X 135 dX7_say_30 (by decide) (by first | (rw [h30_1]; done) | (rw [h30_1]; rfl)) (by decide) ?_
        refine sm_aload_n X 136 2 dX7_say_135 rfl rfl rfl ?_
        refine sm_aload_n X 137 2 dX7_say_136 rfl rfl rfl ?_
        refine sm_geti X 140 rfl fd_7_2 dX7_say_137 rfl q_253 ?_
        refine sm_iconst X 141 (0) dX7_say_140 rfl rfl ?_
        refine sm_iload_n X 142 5 dX7_say_141 rfl rfl rfl ?_
        refine sm_iload X 144 0 dX7_say_142 rfl rfl ?_
        refine sm_bind (fun r144 h144 => ?_)
        refine sm_callV0 X 147 [.int (r19.1 65 2), .int 0, .int a3, .int (a4 + (1 : Int32))] [] [.int r144.1] (ih r19 (r19.1 65 2) (0 : Int32) a3 (a4 + (1 : Int32)) r144 h144) cw_X7_say q_775 qs_23 q_773 rfl (by decide) rfl rfl rfl rfl rfl (Nat.le_of_ble_eq_true rfl) ⟨by show _ + _ + 1 ≤ _ + (_ + 1); omega, by show _ + (_ + 64 * _) ≤ _ + 64 * (_ + 1); omega⟩ ⟨Nat.le_refl _, Nat.le_refl _⟩ dX7_say_144 rfl ?_
        refine sm_iconst X 148 (2) dX7_say_147 rfl rfl ?_
        refine sm_imul X 149 dX7_say_148 rfl ?_
        exact sm_iret X hr dX7_say_149 rfl
      refine sm_if (fun h30_2 => ?_) (fun h30_2 => ?_)
      · refine sm_lookup X 150 dX7_say_30 (by decide) (by first | (rw [h30_2]; done) | (rw [h30_2]; rfl)) (by decide) ?_
        refine sm_iload_n X 151 5 dX7_say_150 rfl rfl rfl ?_
        refine sm_aload_n X 152 2 dX7_say_151 rfl rfl rfl ?_
        refine sm_geti X 155 rfl fd_7_4 dX7_say_152 rfl q_255 ?_
        refine sm_isub X 156 dX7_say_155 rfl ?_
        exact sm_iret X hr dX7_say_156 rfl
      refine sm_if (fun h30_3 => ?_) (fun h30_3 => ?_)
      · refine sm_lookup X 157 dX7_say_30 (by decide) (by first | (rw [h30_3]; done) | (rw [h30_3]; rfl)) (by decide) ?_
        refine sm_aload_n X 158 2 dX7_say_157 rfl rfl rfl ?_
        refine sm_aload_n X 159 2 dX7_say_158 rfl rfl rfl ?_
        refine sm_geti X 162 rfl fd_7_2 dX7_say_159 rfl q_253 ?_
        refine sm_iconst X 163 (1) dX7_say_162 rfl rfl ?_
        refine sm_iload_n X 164 5 dX7_say_163 rfl rfl rfl ?_
        refine sm_iload X 166 0 dX7_say_164 rfl rfl ?_
        refine sm_bind (fun r166 h166 => ?_)
        refine sm_callV0 X 169 [.int (r19.1 65 2), .int 1, .int a3, .int (a4 + (1 : Int32))] [] [.int r166.1] (ih r19 (r19.1 65 2) (1 : Int32) a3 (a4 + (1 : Int32)) r166 h166) cw_X7_say q_775 qs_23 q_773 rfl (by decide) rfl rfl rfl rfl rfl (Nat.le_of_ble_eq_true rfl) ⟨by show _ + _ + 1 ≤ _ + (_ + 1); omega, by show _ + (_ + 64 * _) ≤ _ + 64 * (_ + 1); omega⟩ ⟨Nat.le_refl _, Nat.le_refl _⟩ dX7_say_166 rfl ?_
        refine sm_aload_n X 170 2 dX7_say_169 rfl rfl rfl ?_
        refine sm_aload_n X 171 2 dX7_say_170 rfl rfl rfl ?_
        refine sm_geti X 174 rfl fd_7_2 dX7_say_171 rfl q_253 ?_
        refine sm_iconst X 175 (2) dX7_say_174 rfl rfl ?_
        refine sm_iload_n X 176 5 dX7_say_175 rfl rfl rfl ?_
        refine sm_iload X 178 0 dX7_say_176 rfl rfl ?_
        refine sm_bind (fun r178 h178 => ?_)
        refine sm_callV0 X 181 [.int (r166.2.1 65 2), .int 2, .int a3, .int (a4 + (1 : Int32))] [.int r166.1] [.int r178.1, .int r166.1] (ih r166.2 (r166.2.1 65 2) (2 : Int32) a3 (a4 + (1 : Int32)) r178 h178) cw_X7_say q_775 qs_23 q_773 rfl (by decide) rfl rfl rfl rfl rfl (Nat.le_of_ble_eq_true rfl) ⟨by show _ + _ + 1 ≤ _ + (_ + 1); omega, by show _ + (_ + 64 * _) ≤ _ + 64 * (_ + 1); omega⟩ ⟨Nat.le_refl _, Nat.le_refl _⟩ dX7_say_178 rfl ?_
        refine sm_ixor X 182 dX7_say_181 rfl ?_
        exact sm_iret X hr dX7_say_182 rfl
      refine sm_if (fun h30_4 => ?_) (fun h30_4 => ?_)
      · refine sm_lookup X 183 dX7_say_30 (by decide) (by first | (rw [h30_4]; done) | (rw [h30_4]; rfl)) (by decide) ?_
        refine sm_aload_n X 184 2 dX7_say_183 rfl rfl rfl ?_
        refine sm_iconst X 185 (0) dX7_say_184 rfl rfl ?_
        refine sm_iconst X 186 (1) dX7_say_185 rfl rfl ?_
        refine sm_iload_n X 187 5 dX7_say_186 rfl rfl rfl ?_
        refine sm_iload X 189 0 dX7_say_187 rfl rfl ?_
        refine sm_bind (fun r189 h189 => ?_)
        refine sm_callV0 X 192 [.int 0, .int 1, .int a3, .int (a4 + (1 : Int32))] [] [.int r189.1] (ih r19 (0 : Int32) (1 : Int32) a3 (a4 + (1 : Int32)) r189 h189) cw_X7_say q_775 qs_23 q_773 rfl (by decide) rfl rfl rfl rfl rfl (Nat.le_of_ble_eq_true rfl) ⟨by show _ + _ + 1 ≤ _ + (_ + 1); omega, by show _ + (_ + 64 * _) ≤ _ + 64 * (_ + 1); omega⟩ ⟨Nat.le_refl _, Nat.le_refl _⟩ dX7_say_189 rfl ?_
        refine sm_aload_n X 193 2 dX7_say_192 rfl rfl rfl ?_
        refine sm_aload_n X 194 2 dX7_say_193 rfl rfl rfl ?_
        refine sm_geti X 197 rfl fd_7_2 dX7_say_194 rfl q_253 ?_
        refine sm_iconst X 198 (2) dX7_say_197 rfl rfl ?_
        refine sm_iconst X 199 (1) dX7_say_198 rfl rfl ?_
        refine sm_iload X 201 0 dX7_say_199 rfl rfl ?_
        refine sm_bind (fun r201 h201 => ?_)
        refine sm_callV0 X 204 [.int (r189.2.1 65 2), .int 2, .int 1, .int (a4 + (1 : Int32))] [.int r189.1] [.int r201.1, .int r189.1] (ih r189.2 (r189.2.1 65 2) (2 : Int32) (1 : Int32) (a4 + (1 : Int32)) r201 h201) cw_X7_say q_775 qs_23 q_773 rfl (by decide) rfl rfl rfl rfl rfl (Nat.le_of_ble_eq_true rfl) ⟨by show _ + _ + 1 ≤ _ + (_ + 1); omega, by show _ + (_ + 64 * _) ≤ _ + 64 * (_ + 1); omega⟩ ⟨Nat.le_refl _, Nat.le_refl _⟩ dX7_say_201 rfl ?_
        refine sm_isub X 205 dX7_say_204 rfl ?_
        exact sm_iret X hr dX7_say_205 rfl
      refine sm_if (fun h30_5 => ?_) (fun h30_5 => ?_)
      · refine sm_lookup X 206 dX7_say_30 (by decide) (by first | (rw [h30_5]; done) | (rw [h30_5]; rfl)) (by decide) ?_
        refine sm_aload_n X 207 2 dX7_say_206 rfl rfl rfl ?_
        refine sm_iconst X 208 (0) dX7_say_207 rfl rfl ?_
        refine sm_iconst X 209 (0) dX7_say_208 rfl rfl ?_
        refine sm_iload_n X 210 5 dX7_say_209 rfl rfl rfl ?_
        refine sm_iload X 212 0 dX7_say_210 rfl rfl ?_
        refine sm_bind (fun r212 h212 => ?_)
        refine sm_callV0 X 215 [.int 0, .int 0, .int a3, .int (a4 + (1 : Int32))] [] [.int r212.1] (ih r19 (0 : Int32) (0 : Int32) a3 (a4 + (1 : Int32)) r212 h212) cw_X7_say q_775 qs_23 q_773 rfl (by decide) rfl rfl rfl rfl rfl (Nat.le_of_ble_eq_true rfl) ⟨by show _ + _ + 1 ≤ _ + (_ + 1); omega, by show _ + (_ + 64 * _) ≤ _ + 64 * (_ + 1); omega⟩ ⟨Nat.le_refl _, Nat.le_refl _⟩ dX7_say_212 rfl ?_
        refine sm_iconst X 216 (3) dX7_say_215 rfl rfl ?_
        refine sm_imul X 217 dX7_say_216 rfl ?_
        exact sm_iret X hr dX7_say_217 rfl
      refine sm_if (fun h30_6 => ?_) (fun h30_6 => ?_)
      · refine sm_lookup X 218 dX7_say_30 (by decide) (by first | (rw [h30_6]; done) | (rw [h30_6]; rfl)) (by decide) ?_
        refine sm_aload_n X 219 2 dX7_say_218 rfl rfl rfl ?_
        refine sm_iconst X 220 (0) dX7_say_219 rfl rfl ?_
        refine sm_iconst X 221 (2) dX7_say_220 rfl rfl ?_
        refine sm_iload_n X 222 5 dX7_say_221 rfl rfl rfl ?_
        refine sm_iload X 224 0 dX7_say_222 rfl rfl ?_
        refine sm_bind (fun r224 h224 => ?_)
        refine sm_callV0 X 227 [.int 0, .int 2, .int a3, .int (a4 + (1 : Int32))] [] [.int r224.1] (ih r19 (0 : Int32) (2 : Int32) a3 (a4 + (1 : Int32)) r224 h224) cw_X7_say q_775 qs_23 q_773 rfl (by decide) rfl rfl rfl rfl rfl (Nat.le_of_ble_eq_true rfl) ⟨by show _ + _ + 1 ≤ _ + (_ + 1); omega, by show _ + (_ + 64 * _) ≤ _ + 64 * (_ + 1); omega⟩ ⟨Nat.le_refl _, Nat.le_refl _⟩ dX7_say_224 rfl ?_
        refine sm_ineg X 228 dX7_say_227 rfl ?_
        exact sm_iret X hr dX7_say_228 rfl
      refine sm_if (fun h30_7 => ?_) (fun h30_7 => ?_)
      · refine sm_lookup X 229 dX7_say_30 (by decide) (by first | (rw [h30_7]; done) | (rw [h30_7]; rfl)) (by decide) ?_
        refine sm_aload_n X 230 2 dX7_say_229 rfl rfl rfl ?_
        refine sm_iconst X 231 (1) dX7_say_230 rfl rfl ?_
        refine sm_iconst X 232 (1) dX7_say_231 rfl rfl ?_
        refine sm_iload_n X 233 5 dX7_say_232 rfl rfl rfl ?_
        refine sm_iconst X 234 (1) dX7_say_233 rfl rfl ?_
        refine sm_iadd X 235 dX7_say_234 rfl ?_
        refine sm_iload X 237 0 dX7_say_235 rfl rfl ?_
        refine sm_bind (fun r237 h237 => ?_)
        refine sm_callV0 X 240 [.int 1, .int 1, .int (a3 + (1 : Int32)), .int (a4 + (1 : Int32))] [] [.int r237.1] (ih r19 (1 : Int32) (1 : Int32) (a3 + (1 : Int32)) (a4 + (1 : Int32)) r237 h237) cw_X7_say q_775 qs_23 q_773 rfl (by decide) rfl rfl rfl rfl rfl (Nat.le_of_ble_eq_true rfl) ⟨by show _ + _ + 1 ≤ _ + (_ + 1); omega, by show _ + (_ + 64 * _) ≤ _ + 64 * (_ + 1); omega⟩ ⟨Nat.le_refl _, Nat.le_refl _⟩ dX7_say_237 rfl ?_
        exact sm_iret X hr dX7_say_240 rfl
      refine sm_if (fun h30_8 => ?_) (fun h30_8 => ?_)
      · refine sm_lookup X 241 dX7_say_30 (by decide) (by first | (rw [h30_8]; done) | (rw [h30_8]; rfl)) (by decide) ?_
        refine sm_aload_n X 242 2 dX7_say_241 rfl rfl rfl ?_
        refine sm_iconst X 243 (2) dX7_say_242 rfl rfl ?_
        refine sm_iconst X 244 (3) dX7_say_243 rfl rfl ?_
        refine sm_iload_n X 245 5 dX7_say_244 rfl rfl rfl ?_
        refine sm_iload X 247 0 dX7_say_245 rfl rfl ?_
        refine sm_bind (fun r247 h247 => ?_)
        refine sm_callV0 X 250 [.int 2, .int 3, .int a3, .int (a4 + (1 : Int32))] [] [.int r247.1] (ih r19 (2 : Int32) (3 : Int32) a3 (a4 + (1 : Int32)) r247 h247) cw_X7_say q_775 qs_23 q_773 rfl (by decide) rfl rfl rfl rfl rfl (Nat.le_of_ble_eq_true rfl) ⟨by show _ + _ + 1 ≤ _ + (_ + 1); omega, by show _ + (_ + 64 * _) ≤ _ + 64 * (_ + 1); omega⟩ ⟨Nat.le_refl _, Nat.le_refl _⟩ dX7_say_247 rfl ?_
        refine sm_aload_n X 251 2 dX7_say_250 rfl rfl rfl ?_
        refine sm_aload_n X 252 2 dX7_say_251 rfl rfl rfl ?_
        refine sm_geti X 255 rfl fd_7_2 dX7_say_252 rfl q_253 ?_
        refine sm_iconst X 256 (0) dX7_say_255 rfl rfl ?_
        refine sm_iconst X 257 (2) dX7_say_256 rfl rfl ?_
        refine sm_iload X 259 0 dX7_say_257 rfl rfl ?_
        refine sm_bind (fun r259 h259 => ?_)
        refine sm_callV0 X 262 [.int (r247.2.1 65 2), .int 0, .int 2, .int (a4 + (1 : Int32))] [.int r247.1] [.int r259.1, .int r247.1] (ih r247.2 (r247.2.1 65 2) (0 : Int32) (2 : Int32) (a4 + (1 : Int32)) r259 h259) cw_X7_say q_775 qs_23 q_773 rfl (by decide) rfl rfl rfl rfl rfl (Nat.le_of_ble_eq_true rfl) ⟨by show _ + _ + 1 ≤ _ + (_ + 1); omega, by show _ + (_ + 64 * _) ≤ _ + 64 * (_ + 1); omega⟩ ⟨Nat.le_refl _, Nat.le_refl _⟩ dX7_say_259 rfl ?_
        refine sm_isub X 263 dX7_say_262 rfl ?_
        exact sm_iret X hr dX7_say_263 rfl
      refine sm_if (fun h30_9 => ?_) (fun h30_9 => ?_)
      · refine sm_lookup X 264 dX7_say_30 (by decide) (by first | (rw [h30_9]; done) | (rw [h30_9]; rfl)) (by decide) ?_
        refine sm_aload_n X 265 2 dX7_say_264 rfl rfl rfl ?_
        refine sm_iconst X 266 (3) dX7_say_265 rfl rfl ?_
        refine sm_iconst X 267 (2) dX7_say_266 rfl rfl ?_
        refine sm_iload_n X 268 5 dX7_say_267 rfl rfl rfl ?_
        refine sm_iload X 270 0 dX7_say_268 rfl rfl ?_
        refine sm_bind (fun r270 h270 => ?_)
        refine sm_callV0 X 273 [.int 3, .int 2, .int a3, .int (a4 + (1 : Int32))] [] [.int r270.1] (ih r19 (3 : Int32) (2 : Int32) a3 (a4 + (1 : Int32)) r270 h270) cw_X7_say q_775 qs_23 q_773 rfl (by decide) rfl rfl rfl rfl rfl (Nat.le_of_ble_eq_true rfl) ⟨by show _ + _ + 1 ≤ _ + (_ + 1); omega, by show _ + (_ + 64 * _) ≤ _ + 64 * (_ + 1); omega⟩ ⟨Nat.le_refl _, Nat.le_refl _⟩ dX7_say_270 rfl ?_
        refine sm_aload_n X 274 2 dX7_say_273 rfl rfl rfl ?_
        refine sm_geti X 277 rfl fd_7_3 dX7_say_274 rfl q_254 ?_
        refine sm_ixor X 278 dX7_say_277 rfl ?_
        exact sm_iret X hr dX7_say_278 rfl
      refine sm_if (fun h30_10 => ?_) (fun h30_10 => ?_)
      · refine sm_lookup X 279 dX7_say_30 (by decide) (by first | (rw [h30_10]; done) | (rw [h30_10]; rfl)) (by decide) ?_
        refine sm_aload_n X 280 2 dX7_say_279 rfl rfl rfl ?_
        refine sm_aload_n X 281 2 dX7_say_280 rfl rfl rfl ?_
        refine sm_geti X 284 rfl fd_7_2 dX7_say_281 rfl q_253 ?_
        refine sm_iconst X 285 (1) dX7_say_284 rfl rfl ?_
        refine sm_iload_n X 286 5 dX7_say_285 rfl rfl rfl ?_
        refine sm_iload X 288 0 dX7_say_286 rfl rfl ?_
        refine sm_bind (fun r288 h288 => ?_)
        refine sm_callV0 X 291 [.int (r19.1 65 2), .int 1, .int a3, .int (a4 + (1 : Int32))] [] [.int r288.1] (ih r19 (r19.1 65 2) (1 : Int32) a3 (a4 + (1 : Int32)) r288 h288) cw_X7_say q_775 qs_23 q_773 rfl (by decide) rfl rfl rfl rfl rfl (Nat.le_of_ble_eq_true rfl) ⟨by show _ + _ + 1 ≤ _ + (_ + 1); omega, by show _ + (_ + 64 * _) ≤ _ + 64 * (_ + 1); omega⟩ ⟨Nat.le_refl _, Nat.le_refl _⟩ dX7_say_288 rfl ?_
        refine sm_aload_n X 292 2 dX7_say_291 rfl rfl rfl ?_
        refine sm_iconst X 293 (3) dX7_say_292 rfl rfl ?_
        refine sm_iconst X 294 (3) dX7_say_293 rfl rfl ?_
        refine sm_iload_n X 295 5 dX7_say_294 rfl rfl rfl ?_
        refine sm_iload X 297 0 dX7_say_295 rfl rfl ?_
        refine sm_bind (fun r297 h297 => ?_)
        refine sm_callV0 X 300 [.int 3, .int 3, .int a3, .int (a4 + (1 : Int32))] [.int r288.1] [.int r297.1, .int r288.1] (ih r288.2 (3 : Int32) (3 : Int32) a3 (a4 + (1 : Int32)) r297 h297) cw_X7_say q_775 qs_23 q_773 rfl (by decide) rfl rfl rfl rfl rfl (Nat.le_of_ble_eq_true rfl) ⟨by show _ + _ + 1 ≤ _ + (_ + 1); omega, by show _ + (_ + 64 * _) ≤ _ + 64 * (_ + 1); omega⟩ ⟨Nat.le_refl _, Nat.le_refl _⟩ dX7_say_297 rfl ?_
        refine sm_isub X 301 dX7_say_300 rfl ?_
        exact sm_iret X hr dX7_say_301 rfl
      have q0 : ¬ (r11).toInt = 10 := ne_toInt h30_0
      have q1 : ¬ (r11).toInt = 11 := ne_toInt h30_1
      have q2 : ¬ (r11).toInt = 12 := ne_toInt h30_2
      have q3 : ¬ (r11).toInt = 13 := ne_toInt h30_3
      have q4 : ¬ (r11).toInt = 20 := ne_toInt h30_4
      have q5 : ¬ (r11).toInt = 30 := ne_toInt h30_5
      have q6 : ¬ (r11).toInt = 40 := ne_toInt h30_6
      have q7 : ¬ (r11).toInt = 50 := ne_toInt h30_7
      have q8 : ¬ (r11).toInt = 60 := ne_toInt h30_8
      have q9 : ¬ (r11).toInt = 70 := ne_toInt h30_9
      have q10 : ¬ (r11).toInt = 71 := ne_toInt h30_10
      refine sm_lookup X (off := 272) 302 dX7_say_30 (by decide) (by simp [Op.lookupswitch.offset, q0, Ne.symm q0, q1, Ne.symm q1, q2, Ne.symm q2, q3, Ne.symm q3, q4, Ne.symm q4, q5, Ne.symm q5, q6, Ne.symm q6, q7, Ne.symm q7, q8, Ne.symm q8, q9, Ne.symm q9, q10, Ne.symm q10]) (by decide) ?_
      refine sm_iconst X 303 (0) dX7_say_302 rfl rfl ?_
      exact sm_iret X hr dX7_say_303 rfl
    · refine sm_iconst X 8 (0) dX7_say_7 rfl rfl ?_
      exact sm_iret X hr dX7_say_8 rfl
set_option maxHeartbeats 4000000 in
set_option maxRecDepth 100000 in
theorem c_X7_say (l : Launch) (G : GT) (σ : Sto) (a1 : Int32) (a2 : Int32) (a3 : Int32) (a4 : Int32) (r : (Int32 × Sto)) (h : g_X7_say 44 0 a1 a2 a3 a4 σ = some r) : MW l G (49) (2990) 0 0 yX7_say cX7_say 7 (Option.some Jvm.ClassFile.FieldType.int) [.ref (gad G 65), .int a1, .int a2, .int a3, .int a4] (wl G σ) (some (.int r.1)) (wl G r.2) := (cg_X7_say l G 44) σ a1 a2 a3 a4 r h
def by_X7_speak_0 : List Nat := [42, 43, 180, 0, 28, 181, 0, 19, 42, 43, 180, 0, 31, 181, 0, 25]
def by_X7_speak_1 : List Nat := [42, 28, 181, 0, 22, 42, 3, 181, 0, 15, 42, 42, 180, 0, 19, 29]
def by_X7_speak_z : List Nat := [21, 4, 3, 182, 0, 32, 172]
def by_X7_speak : List (List Nat) := [by_X7_speak_0, by_X7_speak_1]
set_option maxRecDepth 100000 in
theorem byo_X7_speak : cX7_speak.data.toList.map UInt8.toNat = by_X7_speak.flatten ++ by_X7_speak_z := by decide +kernel
theorem byl_X7_speak : by_X7_speak.all (fun r => r.length == 16) = true := by decide +kernel
theorem byr_X7_speak_0 {j v : Nat} (h : by_X7_speak_0[j]? = some v) : RD cX7_speak (0 + j) v := rd_16 byo_X7_speak byl_X7_speak 0 rfl h
theorem byr_X7_speak_1 {j v : Nat} (h : by_X7_speak_1[j]? = some v) : RD cX7_speak (16 + j) v := rd_16 byo_X7_speak byl_X7_speak 1 rfl h
theorem byr_X7_speak_2 {j v : Nat} (h : by_X7_speak_z[j]? = some v) : RD cX7_speak (32 + j) v := rd_z byo_X7_speak byl_X7_speak 2 rfl h
theorem dX7_speak_0 : decode cX7_speak 0 = .ok (.aload_n 0, 1) := dk_42 (byr_X7_speak_0 (j := 0) rfl)
theorem dX7_speak_1 : decode cX7_speak 1 = .ok (.aload_n 1, 1) := dk_43 (byr_X7_speak_0 (j := 1) rfl)
theorem dX7_speak_2 : decode cX7_speak 2 = .ok (.getfield 28, 3) := dk_180 (byr_X7_speak_0 (j := 2) rfl) (byr_X7_speak_0 (j := 3) rfl) (byr_X7_speak_0 (j := 4) rfl) (by decide)
theorem dX7_speak_5 : decode cX7_speak 5 = .ok (.putfield 19, 3) := dk_181 (byr_X7_speak_0 (j := 5) rfl) (byr_X7_speak_0 (j := 6) rfl) (byr_X7_speak_0 (j := 7) rfl) (by decide)
theorem dX7_speak_8 : decode cX7_speak 8 = .ok (.aload_n 0, 1) := dk_42 (byr_X7_speak_0 (j := 8) rfl)
theorem dX7_speak_9 : decode cX7_speak 9 = .ok (.aload_n 1, 1) := dk_43 (byr_X7_speak_0 (j := 9) rfl)
theorem dX7_speak_10 : decode cX7_speak 10 = .ok (.getfield 31, 3) := dk_180 (byr_X7_speak_0 (j := 10) rfl) (byr_X7_speak_0 (j := 11) rfl) (byr_X7_speak_0 (j := 12) rfl) (by decide)
theorem dX7_speak_13 : decode cX7_speak 13 = .ok (.putfield 25, 3) := dk_181 (byr_X7_speak_0 (j := 13) rfl) (byr_X7_speak_0 (j := 14) rfl) (byr_X7_speak_0 (j := 15) rfl) (by decide)
theorem dX7_speak_16 : decode cX7_speak 16 = .ok (.aload_n 0, 1) := dk_42 (byr_X7_speak_1 (j := 0) rfl)
theorem dX7_speak_17 : decode cX7_speak 17 = .ok (.iload_n 2, 1) := dk_28 (byr_X7_speak_1 (j := 1) rfl)
theorem dX7_speak_18 : decode cX7_speak 18 = .ok (.putfield 22, 3) := dk_181 (byr_X7_speak_1 (j := 2) rfl) (byr_X7_speak_1 (j := 3) rfl) (byr_X7_speak_1 (j := 4) rfl) (by decide)
theorem dX7_speak_21 : decode cX7_speak 21 = .ok (.aload_n 0, 1) := dk_42 (byr_X7_speak_1 (j := 5) rfl)
theorem dX7_speak_22 : decode cX7_speak 22 = .ok (.iconst 0, 1) := dk_3 (byr_X7_speak_1 (j := 6) rfl)
theorem dX7_speak_23 : decode cX7_speak 23 = .ok (.putfield 15, 3) := dk_181 (byr_X7_speak_1 (j := 7) rfl) (byr_X7_speak_1 (j := 8) rfl) (byr_X7_speak_1 (j := 9) rfl) (by decide)
theorem dX7_speak_26 : decode cX7_speak 26 = .ok (.aload_n 0, 1) := dk_42 (byr_X7_speak_1 (j := 10) rfl)
theorem dX7_speak_27 : decode cX7_speak 27 = .ok (.aload_n 0, 1) := dk_42 (byr_X7_speak_1 (j := 11) rfl)
theorem dX7_speak_28 : decode cX7_speak 28 = .ok (.getfield 19, 3) := dk_180 (byr_X7_speak_1 (j := 12) rfl) (byr_X7_speak_1 (j := 13) rfl) (byr_X7_speak_1 (j := 14) rfl) (by decide)
theorem dX7_speak_31 : decode cX7_speak 31 = .ok (.iload_n 3, 1) := dk_29 (byr_X7_speak_1 (j := 15) rfl)
theorem dX7_speak_32 : decode cX7_speak 32 = .ok (.iload 4, 2) := dk_21 (byr_X7_speak_2 (j := 0) rfl) (byr_X7_speak_2 (j := 1) rfl)
theorem dX7_speak_34 : decode cX7_speak 34 = .ok (.iconst 0, 1) := dk_3 (byr_X7_speak_2 (j := 2) rfl)
theorem dX7_speak_35 : decode cX7_speak 35 = .ok (.invokevirtual 32, 3) := dk_182 (byr_X7_speak_2 (j := 3) rfl) (byr_X7_speak_2 (j := 4) rfl) (byr_X7_speak_2 (j := 5) rfl) (by decide)
theorem dX7_speak_38 : decode cX7_speak 38 = .ok (.ireturn, 1) := dk_172 (byr_X7_speak_2 (j := 6) rfl)
set_option maxHeartbeats 4000000 in
set_option maxRecDepth 100000 in
theorem c_X7_speak (l : Launch) (G : GT) (σ : Sto) (a1 : Nat) (ha1 : K0 a1 = 6) (a2 : Int32) (a3 : Int32) (a4 : Int32) (r : (Int32 × Sto)) (h : f_X7_speak σ a1 a2 a3 a4 = some r) : MW l G (50) (3016) 0 0 yX7_speak cX7_speak 5 (Option.some Jvm.ClassFile.FieldType.int) [.ref (gad G 65), .ref (gad G a1), .int a2, .int a3, .int a4] (wl G σ) (some (.int r.1)) (wl G r.2) := by
  refine mw_of RX7 (fiI G) [(0, .ref (gad G 65)), (1, .ref (gad G a1)), (2, .int a2), (3, .int a3), (4, .int a4)] (by decide +kernel) rfl (Nat.le_of_ble_eq_true rfl) rfl h rfl (fun p e s m args below meth c X hr hnm => ?_)
  unfold f_X7_speak
  refine sm_aload_n X 1 0 dX7_speak_0 rfl rfl rfl ?_
  refine sm_aload_n X 2 1 dX7_speak_1 rfl rfl rfl ?_
  refine sm_geti X 5 ha1 fd_6_0 dX7_speak_2 rfl q_60 ?_
  refine sm_puti X 8 .int rfl fd_7_2 (by decide) rfl rfl rfl dX7_speak_5 rfl q_253 (fun σ5 e5 => ?_)
  clear e5
  refine sm_aload_n X 9 0 dX7_speak_8 rfl rfl rfl ?_
  refine sm_aload_n X 10 1 dX7_speak_9 rfl rfl rfl ?_
  refine sm_geti X 13 ha1 fd_6_1 dX7_speak_10 rfl q_63 ?_
  refine sm_puti X 16 .int rfl fd_7_4 (by decide) rfl rfl rfl dX7_speak_13 rfl q_255 (fun σ13 e13 => ?_)
  clear e13
  refine sm_aload_n X 17 0 dX7_speak_16 rfl rfl rfl ?_
  refine sm_iload_n X 18 2 dX7_speak_17 rfl rfl rfl ?_
  refine sm_puti X 21 .int rfl fd_7_3 (by decide) rfl rfl rfl dX7_speak_18 rfl q_254 (fun σ18 e18 => ?_)
  clear e18
  refine sm_aload_n X 22 0 dX7_speak_21 rfl rfl rfl ?_
  refine sm_iconst X 23 (0) dX7_speak_22 rfl rfl ?_
  refine sm_puti X 26 .int rfl fd_7_1 (by decide) rfl rfl rfl dX7_speak_23 rfl q_251 (fun σ23 e23 => ?_)
  clear e23
  refine sm_aload_n X 27 0 dX7_speak_26 rfl rfl rfl ?_
  refine sm_aload_n X 28 0 dX7_speak_27 rfl rfl rfl ?_
  refine sm_geti X 31 rfl fd_7_2 dX7_speak_28 rfl q_253 ?_
  refine sm_iload_n X 32 3 dX7_speak_31 rfl rfl rfl ?_
  refine sm_iload X 34 4 dX7_speak_32 rfl rfl ?_
  refine sm_iconst X 35 (0) dX7_speak_34 rfl rfl ?_
  refine sm_bind (fun r35 h35 => ?_)
  refine sm_callV0 X 38 [.int (σ23.1 65 2), .int a3, .int a4, .int 0] [] [.int r35.1] (c_X7_say l G σ23 (σ23.1 65 2) a3 a4 (0 : Int32) r35 h35) cw_X7_say q_775 qs_23 q_773 rfl (by decide) rfl rfl rfl rfl rfl (Nat.le_of_ble_eq_true rfl) ⟨Nat.le_of_ble_eq_true rfl, Nat.le_of_ble_eq_true rfl⟩ ⟨Nat.le_refl _, Nat.le_refl _⟩ dX7_speak_35 rfl ?_
  exact sm_iret X hr dX7_speak_38 rfl
def by_X8_refuse_0 : List Nat := [27, 4, 8, 184, 0, 72, 154, 0, 13, 42, 180, 0, 53, 27, 92, 46]
def by_X8_refuse_z : List Nat := [4, 96, 79, 19, 1, 49, 27, 100, 172]
def by_X8_refuse : List (List Nat) := [by_X8_refuse_0]
set_option maxRecDepth 100000 in
theorem byo_X8_refuse : cX8_refuse.data.toList.map UInt8.toNat = by_X8_refuse.flatten ++ by_X8_refuse_z := by decide +kernel
theorem byl_X8_refuse : by_X8_refuse.all (fun r => r.length == 16) = true := by decide +kernel
theorem byr_X8_refuse_0 {j v : Nat} (h : by_X8_refuse_0[j]? = some v) : RD cX8_refuse (0 + j) v := rd_16 byo_X8_refuse byl_X8_refuse 0 rfl h
theorem byr_X8_refuse_1 {j v : Nat} (h : by_X8_refuse_z[j]? = some v) : RD cX8_refuse (16 + j) v := rd_z byo_X8_refuse byl_X8_refuse 1 rfl h
theorem dX8_refuse_0 : decode cX8_refuse 0 = .ok (.iload_n 1, 1) := dk_27 (byr_X8_refuse_0 (j := 0) rfl)
theorem dX8_refuse_1 : decode cX8_refuse 1 = .ok (.iconst 1, 1) := dk_4 (byr_X8_refuse_0 (j := 1) rfl)
theorem dX8_refuse_2 : decode cX8_refuse 2 = .ok (.iconst 5, 1) := dk_8 (byr_X8_refuse_0 (j := 2) rfl)
theorem dX8_refuse_3 : decode cX8_refuse 3 = .ok (.invokestatic 72, 3) := dk_184 (byr_X8_refuse_0 (j := 3) rfl) (byr_X8_refuse_0 (j := 4) rfl) (byr_X8_refuse_0 (j := 5) rfl) (by decide)
theorem dX8_refuse_6 : decode cX8_refuse 6 = .ok (.ifCond .ne 13, 3) := dk_154 (byr_X8_refuse_0 (j := 6) rfl) (byr_X8_refuse_0 (j := 7) rfl) (byr_X8_refuse_0 (j := 8) rfl) (by decide)
theorem dX8_refuse_9 : decode cX8_refuse 9 = .ok (.aload_n 0, 1) := dk_42 (byr_X8_refuse_0 (j := 9) rfl)
theorem dX8_refuse_10 : decode cX8_refuse 10 = .ok (.getfield 53, 3) := dk_180 (byr_X8_refuse_0 (j := 10) rfl) (byr_X8_refuse_0 (j := 11) rfl) (byr_X8_refuse_0 (j := 12) rfl) (by decide)
theorem dX8_refuse_13 : decode cX8_refuse 13 = .ok (.iload_n 1, 1) := dk_27 (byr_X8_refuse_0 (j := 13) rfl)
theorem dX8_refuse_14 : decode cX8_refuse 14 = .ok (.dup2, 1) := dk_92 (byr_X8_refuse_0 (j := 14) rfl)
theorem dX8_refuse_15 : decode cX8_refuse 15 = .ok (.iaload, 1) := dk_46 (byr_X8_refuse_0 (j := 15) rfl)
theorem dX8_refuse_16 : decode cX8_refuse 16 = .ok (.iconst 1, 1) := dk_4 (byr_X8_refuse_1 (j := 0) rfl)
theorem dX8_refuse_17 : decode cX8_refuse 17 = .ok (.iadd, 1) := dk_96 (byr_X8_refuse_1 (j := 1) rfl)
theorem dX8_refuse_18 : decode cX8_refuse 18 = .ok (.iastore, 1) := dk_79 (byr_X8_refuse_1 (j := 2) rfl)
theorem dX8_refuse_19 : decode cX8_refuse 19 = .ok (.ldc_w 305, 3) := dk_19 (byr_X8_refuse_1 (j := 3) rfl) (byr_X8_refuse_1 (j := 4) rfl) (byr_X8_refuse_1 (j := 5) rfl) (by decide)
theorem dX8_refuse_22 : decode cX8_refuse 22 = .ok (.iload_n 1, 1) := dk_27 (byr_X8_refuse_1 (j := 6) rfl)
theorem dX8_refuse_23 : decode cX8_refuse 23 = .ok (.isub, 1) := dk_100 (byr_X8_refuse_1 (j := 7) rfl)
theorem dX8_refuse_24 : decode cX8_refuse 24 = .ok (.ireturn, 1) := dk_172 (byr_X8_refuse_1 (j := 8) rfl)
set_option maxHeartbeats 4000000 in
set_option maxRecDepth 100000 in
theorem c_X8_refuse (l : Launch) (G : GT) (σ : Sto) (a1 : Int32) (r : (Int32 × Sto)) (h : f_X8_refuse σ a1 = some r) : MW l G (3) (86) 0 0 yX8_refuse cX8_refuse 2 (Option.some Jvm.ClassFile.FieldType.int) [.ref (gad G 0), .int a1] (wl G σ) (some (.int r.1)) (wl G r.2) := by
  refine mw_of RX8 (fiI G) [(0, .ref (gad G 0)), (1, .int a1)] (by decide +kernel) rfl (Nat.le_of_ble_eq_true rfl) rfl h rfl (fun p e s m args below meth c X hr hnm => ?_)
  unfold f_X8_refuse
  refine sm_iload_n X 1 1 dX8_refuse_0 rfl rfl rfl ?_
  refine sm_iconst X 2 (1) dX8_refuse_1 rfl rfl ?_
  refine sm_iconst X 3 (5) dX8_refuse_2 rfl rfl ?_
  refine sm_bind (fun r3 h3 => ?_)
  refine sm_callS0 X 6 [.int a1, .int 1, .int 5] [] [.int (b2i r3)] (c_X8_isOutside l G σ a1 (1 : Int32) (5 : Int32) r3 h3) cw_X8_isOutside q_328 q_327 rfl rfl rfl (Nat.le_of_ble_eq_true rfl) ⟨Nat.le_of_ble_eq_true rfl, Nat.le_of_ble_eq_true rfl⟩ ⟨Nat.le_refl _, Nat.le_refl _⟩ dX8_refuse_3 rfl ?_
  refine sm_ifz_ne X 9 19 dX8_refuse_6 rfl (by decide) (fun h6 => ?_) (fun h6 => ?_)
  · refine sm_ldcw X 22 (-1000000000) dX8_refuse_19 rfl q_334 ?_
    refine sm_iload_n X 23 1 dX8_refuse_22 rfl rfl rfl ?_
    refine sm_isub X 24 dX8_refuse_23 rfl ?_
    exact sm_iret X hr dX8_refuse_24 rfl
  · refine sm_aload_n X 10 0 dX8_refuse_9 rfl rfl rfl ?_
    refine sm_getf X 13 68 rfl fd_8_7 rfl dX8_refuse_10 rfl q_296 ?_
    refine sm_iload_n X 14 1 dX8_refuse_13 rfl rfl rfl ?_
    refine sm_dup2 X 15 dX8_refuse_14 rfl rfl rfl ?_
    refine sm_iald X 16 rfl dX8_refuse_15 rfl (fun r15 e15 => ?_)
    clear e15
    refine sm_iconst X 17 (1) dX8_refuse_16 rfl rfl ?_
    refine sm_iadd X 18 dX8_refuse_17 rfl ?_
    refine sm_iast X 19 rfl dX8_refuse_18 rfl (fun σ18 e18 => ?_)
    clear e18
    refine sm_ldcw X 22 (-1000000000) dX8_refuse_19 rfl q_334 ?_
    refine sm_iload_n X 23 1 dX8_refuse_22 rfl rfl rfl ?_
    refine sm_isub X 24 dX8_refuse_23 rfl ?_
    exact sm_iret X hr dX8_refuse_24 rfl
def by_X8_current_0 : List Nat := [27, 3, 8, 184, 0, 72, 154, 0, 14, 28, 16, 247, 16, 9, 184, 0]
def by_X8_current_1 : List Nat := [72, 153, 0, 9, 42, 4, 182, 0, 76, 172, 42, 180, 0, 10, 180, 0]
def by_X8_current_2 : List Nat := [80, 27, 46, 62, 42, 180, 0, 10, 180, 0, 80, 27, 28, 79, 29, 172]
def by_X8_current_z : List Nat := []
def by_X8_current : List (List Nat) := [by_X8_current_0, by_X8_current_1, by_X8_current_2]
set_option maxRecDepth 100000 in
theorem byo_X8_current : cX8_current.data.toList.map UInt8.toNat = by_X8_current.flatten ++ by_X8_current_z := by decide +kernel
theorem byl_X8_current : by_X8_current.all (fun r => r.length == 16) = true := by decide +kernel
theorem byr_X8_current_0 {j v : Nat} (h : by_X8_current_0[j]? = some v) : RD cX8_current (0 + j) v := rd_16 byo_X8_current byl_X8_current 0 rfl h
theorem byr_X8_current_1 {j v : Nat} (h : by_X8_current_1[j]? = some v) : RD cX8_current (16 + j) v := rd_16 byo_X8_current byl_X8_current 1 rfl h
theorem byr_X8_current_2 {j v : Nat} (h : by_X8_current_2[j]? = some v) : RD cX8_current (32 + j) v := rd_16 byo_X8_current byl_X8_current 2 rfl h
theorem byr_X8_current_3 {j v : Nat} (h : by_X8_current_z[j]? = some v) : RD cX8_current (48 + j) v := rd_z byo_X8_current byl_X8_current 3 rfl h
theorem dX8_current_0 : decode cX8_current 0 = .ok (.iload_n 1, 1) := dk_27 (byr_X8_current_0 (j := 0) rfl)
theorem dX8_current_1 : decode cX8_current 1 = .ok (.iconst 0, 1) := dk_3 (byr_X8_current_0 (j := 1) rfl)
theorem dX8_current_2 : decode cX8_current 2 = .ok (.iconst 5, 1) := dk_8 (byr_X8_current_0 (j := 2) rfl)
theorem dX8_current_3 : decode cX8_current 3 = .ok (.invokestatic 72, 3) := dk_184 (byr_X8_current_0 (j := 3) rfl) (byr_X8_current_0 (j := 4) rfl) (byr_X8_current_0 (j := 5) rfl) (by decide)
theorem dX8_current_6 : decode cX8_current 6 = .ok (.ifCond .ne 14, 3) := dk_154 (byr_X8_current_0 (j := 6) rfl) (byr_X8_current_0 (j := 7) rfl) (byr_X8_current_0 (j := 8) rfl) (by decide)
theorem dX8_current_9 : decode cX8_current 9 = .ok (.iload_n 2, 1) := dk_28 (byr_X8_current_0 (j := 9) rfl)
theorem dX8_current_10 : decode cX8_current 10 = .ok (.bipush (-9), 2) := dk_16 (byr_X8_current_0 (j := 10) rfl) (byr_X8_current_0 (j := 11) rfl) (by decide)
theorem dX8_current_12 : decode cX8_current 12 = .ok (.bipush 9, 2) := dk_16 (byr_X8_current_0 (j := 12) rfl) (byr_X8_current_0 (j := 13) rfl) (by decide)
theorem dX8_current_14 : decode cX8_current 14 = .ok (.invokestatic 72, 3) := dk_184 (byr_X8_current_0 (j := 14) rfl) (byr_X8_current_0 (j := 15) rfl) (byr_X8_current_1 (j := 0) rfl) (by decide)
theorem dX8_current_17 : decode cX8_current 17 = .ok (.ifCond .eq 9, 3) := dk_153 (byr_X8_current_1 (j := 1) rfl) (byr_X8_current_1 (j := 2) rfl) (byr_X8_current_1 (j := 3) rfl) (by decide)
theorem dX8_current_20 : decode cX8_current 20 = .ok (.aload_n 0, 1) := dk_42 (byr_X8_current_1 (j := 4) rfl)
theorem dX8_current_21 : decode cX8_current 21 = .ok (.iconst 1, 1) := dk_4 (byr_X8_current_1 (j := 5) rfl)
theorem dX8_current_22 : decode cX8_current 22 = .ok (.invokevirtual 76, 3) := dk_182 (byr_X8_current_1 (j := 6) rfl) (byr_X8_current_1 (j := 7) rfl) (byr_X8_current_1 (j := 8) rfl) (by decide)
theorem dX8_current_25 : decode cX8_current 25 = .ok (.ireturn, 1) := dk_172 (byr_X8_current_1 (j := 9) rfl)
theorem dX8_current_26 : decode cX8_current 26 = .ok (.aload_n 0, 1) := dk_42 (byr_X8_current_1 (j := 10) rfl)
theorem dX8_current_27 : decode cX8_current 27 = .ok (.getfield 10, 3) := dk_180 (byr_X8_current_1 (j := 11) rfl) (byr_X8_current_1 (j := 12) rfl) (byr_X8_current_1 (j := 13) rfl) (by decide)
theorem dX8_current_30 : decode cX8_current 30 = .ok (.getfield 80, 3) := dk_180 (byr_X8_current_1 (j := 14) rfl) (byr_X8_current_1 (j := 15) rfl) (byr_X8_current_2 (j := 0) rfl) (by decide)
theorem dX8_current_33 : decode cX8_current 33 = .ok (.iload_n 1, 1) := dk_27 (byr_X8_current_2 (j := 1) rfl)
theorem dX8_current_34 : decode cX8_current 34 = .ok (.iaload, 1) := dk_46 (byr_X8_current_2 (j := 2) rfl)
theorem dX8_current_35 : decode cX8_current 35 = .ok (.istore_n 3, 1) := dk_62 (byr_X8_current_2 (j := 3) rfl)
theorem dX8_current_36 : decode cX8_current 36 = .ok (.aload_n 0, 1) := dk_42 (byr_X8_current_2 (j := 4) rfl)
theorem dX8_current_37 : decode cX8_current 37 = .ok (.getfield 10, 3) := dk_180 (byr_X8_current_2 (j := 5) rfl) (byr_X8_current_2 (j := 6) rfl) (byr_X8_current_2 (j := 7) rfl) (by decide)
theorem dX8_current_40 : decode cX8_current 40 = .ok (.getfield 80, 3) := dk_180 (byr_X8_current_2 (j := 8) rfl) (byr_X8_current_2 (j := 9) rfl) (byr_X8_current_2 (j := 10) rfl) (by decide)
theorem dX8_current_43 : decode cX8_current 43 = .ok (.iload_n 1, 1) := dk_27 (byr_X8_current_2 (j := 11) rfl)
theorem dX8_current_44 : decode cX8_current 44 = .ok (.iload_n 2, 1) := dk_28 (byr_X8_current_2 (j := 12) rfl)
theorem dX8_current_45 : decode cX8_current 45 = .ok (.iastore, 1) := dk_79 (byr_X8_current_2 (j := 13) rfl)
theorem dX8_current_46 : decode cX8_current 46 = .ok (.iload_n 3, 1) := dk_29 (byr_X8_current_2 (j := 14) rfl)
theorem dX8_current_47 : decode cX8_current 47 = .ok (.ireturn, 1) := dk_172 (byr_X8_current_2 (j := 15) rfl)
set_option maxHeartbeats 4000000 in
set_option maxRecDepth 100000 in
theorem c_X8_current (l : Launch) (G : GT) (σ : Sto) (a1 : Int32) (a2 : Int32) (r : (Int32 × Sto)) (h : f_X8_current σ a1 a2 = some r) : MW l G (4) (107) 0 0 yX8_current cX8_current 4 (Option.some Jvm.ClassFile.FieldType.int) [.ref (gad G 0), .int a1, .int a2] (wl G σ) (some (.int r.1)) (wl G r.2) := by
  refine mw_of RX8 (fiI G) [(0, .ref (gad G 0)), (1, .int a1), (2, .int a2)] (by decide +kernel) rfl (Nat.le_of_ble_eq_true rfl) rfl h rfl (fun p e s m args below meth c X hr hnm => ?_)
  unfold f_X8_current
  refine sm_iload_n X 1 1 dX8_current_0 rfl rfl rfl ?_
  refine sm_iconst X 2 (0) dX8_current_1 rfl rfl ?_
  refine sm_iconst X 3 (5) dX8_current_2 rfl rfl ?_
  refine sm_bind (fun r3 h3 => ?_)
  refine sm_callS0 X 6 [.int a1, .int 0, .int 5] [] [.int (b2i r3)] (c_X8_isOutside l G σ a1 (0 : Int32) (5 : Int32) r3 h3) cw_X8_isOutside q_328 q_327 rfl rfl rfl (Nat.le_of_ble_eq_true rfl) ⟨Nat.le_of_ble_eq_true rfl, Nat.le_of_ble_eq_true rfl⟩ ⟨Nat.le_refl _, Nat.le_refl _⟩ dX8_current_3 rfl ?_
  refine sm_ifz_ne X 9 20 dX8_current_6 rfl (by decide) (fun h6 => ?_) (fun h6 => ?_)
  · refine sm_aload_n X 21 0 dX8_current_20 rfl rfl rfl ?_
    refine sm_iconst X 22 (1) dX8_current_21 rfl rfl ?_
    refine sm_bind (fun r22 h22 => ?_)
    refine sm_callV0 X 25 [.int 1] [] [.int r22.1] (c_X8_refuse l G σ (1 : Int32) r22 h22) cw_X8_refuse q_332 qs_0 q_330 rfl (by decide) rfl rfl rfl rfl rfl (Nat.le_of_ble_eq_true rfl) ⟨Nat.le_of_ble_eq_true rfl, Nat.le_of_ble_eq_true rfl⟩ ⟨Nat.le_refl _, Nat.le_refl _⟩ dX8_current_22 rfl ?_
    exact sm_iret X hr dX8_current_25 rfl
  · refine sm_iload_n X 10 2 dX8_current_9 rfl rfl rfl ?_
    refine sm_bipush X 12 (-9) dX8_current_10 rfl rfl ?_
    refine sm_bipush X 14 (9) dX8_current_12 rfl rfl ?_
    refine sm_bind (fun r14 h14 => ?_)
    refine sm_callS0 X 17 [.int a2, .int (-9), .int 9] [] [.int (b2i r14)] (c_X8_isOutside l G σ a2 (-9 : Int32) (9 : Int32) r14 h14) cw_X8_isOutside q_328 q_327 rfl rfl rfl (Nat.le_of_ble_eq_true rfl) ⟨Nat.le_of_ble_eq_true rfl, Nat.le_of_ble_eq_true rfl⟩ ⟨Nat.le_refl _, Nat.le_refl _⟩ dX8_current_14 rfl ?_
    refine sm_ifz_eq X 20 26 dX8_current_17 rfl (by decide) (fun h17 => ?_) (fun h17 => ?_)
    · refine sm_aload_n X 21 0 dX8_current_20 rfl rfl rfl ?_
      refine sm_iconst X 22 (1) dX8_current_21 rfl rfl ?_
      refine sm_bind (fun r22 h22 => ?_)
      refine sm_callV0 X 25 [.int 1] [] [.int r22.1] (c_X8_refuse l G σ (1 : Int32) r22 h22) cw_X8_refuse q_332 qs_0 q_330 rfl (by decide) rfl rfl rfl rfl rfl (Nat.le_of_ble_eq_true rfl) ⟨Nat.le_of_ble_eq_true rfl, Nat.le_of_ble_eq_true rfl⟩ ⟨Nat.le_refl _, Nat.le_refl _⟩ dX8_current_22 rfl ?_
      exact sm_iret X hr dX8_current_25 rfl
    · refine sm_aload_n X 27 0 dX8_current_26 rfl rfl rfl ?_
      refine sm_getf X 30 1 rfl fd_8_0 rfl dX8_current_27 rfl q_289 ?_
      refine sm_getf X 33 2 rfl fd_0_0 rfl dX8_current_30 rfl q_90 ?_
      refine sm_iload_n X 34 1 dX8_current_33 rfl rfl rfl ?_
      refine sm_iald X 35 rfl dX8_current_34 rfl (fun r34 e34 => ?_)
      clear e34
      refine sm_istore_n X 36 [(3, .int r34), (0, .ref (gad G 0)), (1, .int a1), (2, .int a2)] dX8_current_35 rfl rfl (by decide) rfl ?_
      refine sm_aload_n X 37 1 dX8_current_36 rfl rfl rfl ?_
      refine sm_getf X 40 1 rfl fd_8_0 rfl dX8_current_37 rfl q_289 ?_
      refine sm_getf X 43 2 rfl fd_0_0 rfl dX8_current_40 rfl q_90 ?_
      refine sm_iload_n X 44 2 dX8_current_43 rfl rfl rfl ?_
      refine sm_iload_n X 45 3 dX8_current_44 rfl rfl rfl ?_
      refine sm_iast X 46 rfl dX8_current_45 rfl (fun σ45 e45 => ?_)
      clear e45
      refine sm_iload_n X 47 0 dX8_current_46 rfl rfl rfl ?_
      exact sm_iret X hr dX8_current_47 rfl
def by_X8_set_0 : List Nat := [27, 154, 0, 32, 28, 16, 253, 6, 184, 0, 72, 154, 0, 22, 42, 180]
def by_X8_set_1 : List Nat := [0, 10, 180, 0, 83, 62, 42, 180, 0, 10, 28, 181, 0, 83, 167, 0]
def by_X8_set_2 : List Nat := [79, 27, 4, 160, 0, 33, 28, 3, 17, 0, 200, 184, 0, 72, 154, 0]
def by_X8_set_3 : List Nat := [22, 42, 180, 0, 10, 180, 0, 86, 62, 42, 180, 0, 10, 28, 181, 0]
def by_X8_set_4 : List Nat := [86, 167, 0, 44, 27, 5, 160, 0, 33, 28, 3, 17, 4, 176, 184, 0]
def by_X8_set_5 : List Nat := [72, 154, 0, 22, 42, 180, 0, 10, 180, 0, 89, 62, 42, 180, 0, 10]
def by_X8_set_z : List Nat := [28, 181, 0, 89, 167, 0, 9, 42, 4, 182, 0, 76, 62, 29, 172]
def by_X8_set : List (List Nat) := [by_X8_set_0, by_X8_set_1, by_X8_set_2, by_X8_set_3, by_X8_set_4, by_X8_set_5]
set_option maxRecDepth 100000 in
theorem byo_X8_set : cX8_set.data.toList.map UInt8.toNat = by_X8_set.flatten ++ by_X8_set_z := by decide +kernel
theorem byl_X8_set : by_X8_set.all (fun r => r.length == 16) = true := by decide +kernel
theorem byr_X8_set_0 {j v : Nat} (h : by_X8_set_0[j]? = some v) : RD cX8_set (0 + j) v := rd_16 byo_X8_set byl_X8_set 0 rfl h
theorem byr_X8_set_1 {j v : Nat} (h : by_X8_set_1[j]? = some v) : RD cX8_set (16 + j) v := rd_16 byo_X8_set byl_X8_set 1 rfl h
theorem byr_X8_set_2 {j v : Nat} (h : by_X8_set_2[j]? = some v) : RD cX8_set (32 + j) v := rd_16 byo_X8_set byl_X8_set 2 rfl h
theorem byr_X8_set_3 {j v : Nat} (h : by_X8_set_3[j]? = some v) : RD cX8_set (48 + j) v := rd_16 byo_X8_set byl_X8_set 3 rfl h
theorem byr_X8_set_4 {j v : Nat} (h : by_X8_set_4[j]? = some v) : RD cX8_set (64 + j) v := rd_16 byo_X8_set byl_X8_set 4 rfl h
theorem byr_X8_set_5 {j v : Nat} (h : by_X8_set_5[j]? = some v) : RD cX8_set (80 + j) v := rd_16 byo_X8_set byl_X8_set 5 rfl h
theorem byr_X8_set_6 {j v : Nat} (h : by_X8_set_z[j]? = some v) : RD cX8_set (96 + j) v := rd_z byo_X8_set byl_X8_set 6 rfl h
theorem dX8_set_0 : decode cX8_set 0 = .ok (.iload_n 1, 1) := dk_27 (byr_X8_set_0 (j := 0) rfl)
theorem dX8_set_1 : decode cX8_set 1 = .ok (.ifCond .ne 32, 3) := dk_154 (byr_X8_set_0 (j := 1) rfl) (byr_X8_set_0 (j := 2) rfl) (byr_X8_set_0 (j := 3) rfl) (by decide)
theorem dX8_set_4 : decode cX8_set 4 = .ok (.iload_n 2, 1) := dk_28 (byr_X8_set_0 (j := 4) rfl)
theorem dX8_set_5 : decode cX8_set 5 = .ok (.bipush (-3), 2) := dk_16 (byr_X8_set_0 (j := 5) rfl) (byr_X8_set_0 (j := 6) rfl) (by decide)
theorem dX8_set_7 : decode cX8_set 7 = .ok (.iconst 3, 1) := dk_6 (byr_X8_set_0 (j := 7) rfl)
theorem dX8_set_8 : decode cX8_set 8 = .ok (.invokestatic 72, 3) := dk_184 (byr_X8_set_0 (j := 8) rfl) (byr_X8_set_0 (j := 9) rfl) (byr_X8_set_0 (j := 10) rfl) (by decide)
theorem dX8_set_11 : decode cX8_set 11 = .ok (.ifCond .ne 22, 3) := dk_154 (byr_X8_set_0 (j := 11) rfl) (byr_X8_set_0 (j := 12) rfl) (byr_X8_set_0 (j := 13) rfl) (by decide)
theorem dX8_set_14 : decode cX8_set 14 = .ok (.aload_n 0, 1) := dk_42 (byr_X8_set_0 (j := 14) rfl)
theorem dX8_set_15 : decode cX8_set 15 = .ok (.getfield 10, 3) := dk_180 (byr_X8_set_0 (j := 15) rfl) (byr_X8_set_1 (j := 0) rfl) (byr_X8_set_1 (j := 1) rfl) (by decide)
theorem dX8_set_18 : decode cX8_set 18 = .ok (.getfield 83, 3) := dk_180 (byr_X8_set_1 (j := 2) rfl) (byr_X8_set_1 (j := 3) rfl) (byr_X8_set_1 (j := 4) rfl) (by decide)
theorem dX8_set_21 : decode cX8_set 21 = .ok (.istore_n 3, 1) := dk_62 (byr_X8_set_1 (j := 5) rfl)
theorem dX8_set_22 : decode cX8_set 22 = .ok (.aload_n 0, 1) := dk_42 (byr_X8_set_1 (j := 6) rfl)
theorem dX8_set_23 : decode cX8_set 23 = .ok (.getfield 10, 3) := dk_180 (byr_X8_set_1 (j := 7) rfl) (byr_X8_set_1 (j := 8) rfl) (byr_X8_set_1 (j := 9) rfl) (by decide)
theorem dX8_set_26 : decode cX8_set 26 = .ok (.iload_n 2, 1) := dk_28 (byr_X8_set_1 (j := 10) rfl)
theorem dX8_set_27 : decode cX8_set 27 = .ok (.putfield 83, 3) := dk_181 (byr_X8_set_1 (j := 11) rfl) (byr_X8_set_1 (j := 12) rfl) (byr_X8_set_1 (j := 13) rfl) (by decide)
theorem dX8_set_30 : decode cX8_set 30 = .ok (.goto 79, 3) := dk_167 (byr_X8_set_1 (j := 14) rfl) (byr_X8_set_1 (j := 15) rfl) (byr_X8_set_2 (j := 0) rfl) (by decide)
theorem dX8_set_33 : decode cX8_set 33 = .ok (.iload_n 1, 1) := dk_27 (byr_X8_set_2 (j := 1) rfl)
theorem dX8_set_34 : decode cX8_set 34 = .ok (.iconst 1, 1) := dk_4 (byr_X8_set_2 (j := 2) rfl)
theorem dX8_set_35 : decode cX8_set 35 = .ok (.if_icmp .ne 33, 3) := dk_160 (byr_X8_set_2 (j := 3) rfl) (byr_X8_set_2 (j := 4) rfl) (byr_X8_set_2 (j := 5) rfl) (by decide)
theorem dX8_set_38 : decode cX8_set 38 = .ok (.iload_n 2, 1) := dk_28 (byr_X8_set_2 (j := 6) rfl)
theorem dX8_set_39 : decode cX8_set 39 = .ok (.iconst 0, 1) := dk_3 (byr_X8_set_2 (j := 7) rfl)
theorem dX8_set_40 : decode cX8_set 40 = .ok (.sipush 200, 3) := dk_17 (byr_X8_set_2 (j := 8) rfl) (byr_X8_set_2 (j := 9) rfl) (byr_X8_set_2 (j := 10) rfl) (by decide)
theorem dX8_set_43 : decode cX8_set 43 = .ok (.invokestatic 72, 3) := dk_184 (byr_X8_set_2 (j := 11) rfl) (byr_X8_set_2 (j := 12) rfl) (byr_X8_set_2 (j := 13) rfl) (by decide)
theorem dX8_set_46 : decode cX8_set 46 = .ok (.ifCond .ne 22, 3) := dk_154 (byr_X8_set_2 (j := 14) rfl) (byr_X8_set_2 (j := 15) rfl) (byr_X8_set_3 (j := 0) rfl) (by decide)
theorem dX8_set_49 : decode cX8_set 49 = .ok (.aload_n 0, 1) := dk_42 (byr_X8_set_3 (j := 1) rfl)
theorem dX8_set_50 : decode cX8_set 50 = .ok (.getfield 10, 3) := dk_180 (byr_X8_set_3 (j := 2) rfl) (byr_X8_set_3 (j := 3) rfl) (byr_X8_set_3 (j := 4) rfl) (by decide)
theorem dX8_set_53 : decode cX8_set 53 = .ok (.getfield 86, 3) := dk_180 (byr_X8_set_3 (j := 5) rfl) (byr_X8_set_3 (j := 6) rfl) (byr_X8_set_3 (j := 7) rfl) (by decide)
theorem dX8_set_56 : decode cX8_set 56 = .ok (.istore_n 3, 1) := dk_62 (byr_X8_set_3 (j := 8) rfl)
theorem dX8_set_57 : decode cX8_set 57 = .ok (.aload_n 0, 1) := dk_42 (byr_X8_set_3 (j := 9) rfl)
theorem dX8_set_58 : decode cX8_set 58 = .ok (.getfield 10, 3) := dk_180 (byr_X8_set_3 (j := 10) rfl) (byr_X8_set_3 (j := 11) rfl) (byr_X8_set_3 (j := 12) rfl) (by decide)
theorem dX8_set_61 : decode cX8_set 61 = .ok (.iload_n 2, 1) := dk_28 (byr_X8_set_3 (j := 13) rfl)
theorem dX8_set_62 : decode cX8_set 62 = .ok (.putfield 86, 3) := dk_181 (byr_X8_set_3 (j := 14) rfl) (byr_X8_set_3 (j := 15) rfl) (byr_X8_set_4 (j := 0) rfl) (by decide)
theorem dX8_set_65 : decode cX8_set 65 = .ok (.goto 44, 3) := dk_167 (byr_X8_set_4 (j := 1) rfl) (byr_X8_set_4 (j := 2) rfl) (byr_X8_set_4 (j := 3) rfl) (by decide)
theorem dX8_set_68 : decode cX8_set 68 = .ok (.iload_n 1, 1) := dk_27 (byr_X8_set_4 (j := 4) rfl)
theorem dX8_set_69 : decode cX8_set 69 = .ok (.iconst 2, 1) := dk_5 (byr_X8_set_4 (j := 5) rfl)
theorem dX8_set_70 : decode cX8_set 70 = .ok (.if_icmp .ne 33, 3) := dk_160 (byr_X8_set_4 (j := 6) rfl) (byr_X8_set_4 (j := 7) rfl) (byr_X8_set_4 (j := 8) rfl) (by decide)
theorem dX8_set_73 : decode cX8_set 73 = .ok (.iload_n 2, 1) := dk_28 (byr_X8_set_4 (j := 9) rfl)
theorem dX8_set_74 : decode cX8_set 74 = .ok (.iconst 0, 1) := dk_3 (byr_X8_set_4 (j := 10) rfl)
theorem dX8_set_75 : decode cX8_set 75 = .ok (.sipush 1200, 3) := dk_17 (byr_X8_set_4 (j := 11) rfl) (byr_X8_set_4 (j := 12) rfl) (byr_X8_set_4 (j := 13) rfl) (by decide)
theorem dX8_set_78 : decode cX8_set 78 = .ok (.invokestatic 72, 3) := dk_184 (byr_X8_set_4 (j := 14) rfl) (byr_X8_set_4 (j := 15) rfl) (byr_X8_set_5 (j := 0) rfl) (by decide)
theorem dX8_set_81 : decode cX8_set 81 = .ok (.ifCond .ne 22, 3) := dk_154 (byr_X8_set_5 (j := 1) rfl) (byr_X8_set_5 (j := 2) rfl) (byr_X8_set_5 (j := 3) rfl) (by decide)
theorem dX8_set_84 : decode cX8_set 84 = .ok (.aload_n 0, 1) := dk_42 (byr_X8_set_5 (j := 4) rfl)
theorem dX8_set_85 : decode cX8_set 85 = .ok (.getfield 10, 3) := dk_180 (byr_X8_set_5 (j := 5) rfl) (byr_X8_set_5 (j := 6) rfl) (byr_X8_set_5 (j := 7) rfl) (by decide)
theorem dX8_set_88 : decode cX8_set 88 = .ok (.getfield 89, 3) := dk_180 (byr_X8_set_5 (j := 8) rfl) (byr_X8_set_5 (j := 9) rfl) (byr_X8_set_5 (j := 10) rfl) (by decide)
theorem dX8_set_91 : decode cX8_set 91 = .ok (.istore_n 3, 1) := dk_62 (byr_X8_set_5 (j := 11) rfl)
theorem dX8_set_92 : decode cX8_set 92 = .ok (.aload_n 0, 1) := dk_42 (byr_X8_set_5 (j := 12) rfl)
theorem dX8_set_93 : decode cX8_set 93 = .ok (.getfield 10, 3) := dk_180 (byr_X8_set_5 (j := 13) rfl) (byr_X8_set_5 (j := 14) rfl) (byr_X8_set_5 (j := 15) rfl) (by decide)
theorem dX8_set_96 : decode cX8_set 96 = .ok (.iload_n 2, 1) := dk_28 (byr_X8_set_6 (j := 0) rfl)
theorem dX8_set_97 : decode cX8_set 97 = .ok (.putfield 89, 3) := dk_181 (byr_X8_set_6 (j := 1) rfl) (byr_X8_set_6 (j := 2) rfl) (byr_X8_set_6 (j := 3) rfl) (by decide)
theorem dX8_set_100 : decode cX8_set 100 = .ok (.goto 9, 3) := dk_167 (byr_X8_set_6 (j := 4) rfl) (byr_X8_set_6 (j := 5) rfl) (byr_X8_set_6 (j := 6) rfl) (by decide)
theorem dX8_set_103 : decode cX8_set 103 = .ok (.aload_n 0, 1) := dk_42 (byr_X8_set_6 (j := 7) rfl)
theorem dX8_set_104 : decode cX8_set 104 = .ok (.iconst 1, 1) := dk_4 (byr_X8_set_6 (j := 8) rfl)
theorem dX8_set_105 : decode cX8_set 105 = .ok (.invokevirtual 76, 3) := dk_182 (byr_X8_set_6 (j := 9) rfl) (byr_X8_set_6 (j := 10) rfl) (byr_X8_set_6 (j := 11) rfl) (by decide)
theorem dX8_set_108 : decode cX8_set 108 = .ok (.istore_n 3, 1) := dk_62 (byr_X8_set_6 (j := 12) rfl)
theorem dX8_set_109 : decode cX8_set 109 = .ok (.iload_n 3, 1) := dk_29 (byr_X8_set_6 (j := 13) rfl)
theorem dX8_set_110 : decode cX8_set 110 = .ok (.ireturn, 1) := dk_172 (byr_X8_set_6 (j := 14) rfl)
set_option maxHeartbeats 4000000 in
set_option maxRecDepth 100000 in
theorem c_X8_set (l : Launch) (G : GT) (σ : Sto) (a1 : Int32) (a2 : Int32) (r : (Int32 × Sto)) (h : f_X8_set σ a1 a2 = some r) : MW l G (4) (107) 0 0 yX8_set cX8_set 4 (Option.some Jvm.ClassFile.FieldType.int) [.ref (gad G 0), .int a1, .int a2] (wl G σ) (some (.int r.1)) (wl G r.2) := by
  refine mw_of RX8 (fiI G) [(0, .ref (gad G 0)), (1, .int a1), (2, .int a2)] (by decide +kernel) rfl (Nat.le_of_ble_eq_true rfl) rfl h rfl (fun p e s m args below meth c X hr hnm => ?_)
  have J103 : ∀   (σ : Sto), Sm p l e { frames := 4, cells := 0, slots := 0, locals := 107 } s m args below meth c G 4 (Qm below args s G 0 0 (fiI G)) 0 0 (wl G σ) 103 [(0, .ref (gad G 0))] [] (f_X8_set_L103  σ) := by
    intro σ
    rw [f_X8_set_L103]
    refine sm_aload_n X 104 0 dX8_set_103 rfl rfl rfl ?_
    refine sm_iconst X 105 (1) dX8_set_104 rfl rfl ?_
    refine sm_bind (fun r105 h105 => ?_)
    refine sm_callV0 X 108 [.int 1] [] [.int r105.1] (c_X8_refuse l G σ (1 : Int32) r105 h105) cw_X8_refuse q_332 qs_0 q_330 rfl (by decide) rfl rfl rfl rfl rfl (Nat.le_of_ble_eq_true rfl) ⟨Nat.le_of_ble_eq_true rfl, Nat.le_of_ble_eq_true rfl⟩ ⟨Nat.le_refl _, Nat.le_refl _⟩ dX8_set_105 rfl ?_
    refine sm_istore_n X 109 [(3, .int r105.1), (0, .ref (gad G 0))] dX8_set_108 rfl rfl (by decide) rfl ?_
    refine sm_iload_n X 110 0 dX8_set_109 rfl rfl rfl ?_
    exact sm_iret X hr dX8_set_110 rfl
  have J68 : ∀ (v1 : Int32) (v2 : Int32)  (σ : Sto), Sm p l e { frames := 4, cells := 0, slots := 0, locals := 107 } s m args below meth c G 4 (Qm below args s G 0 0 (fiI G)) 0 0 (wl G σ) 68 [(0, .ref (gad G 0)), (1, .int v1), (2, .int v2)] [] (f_X8_set_L68  v1 v2 σ) := by
    intro v1 v2 σ
    rw [f_X8_set_L68]
    refine sm_iload_n X 69 1 dX8_set_68 rfl rfl rfl ?_
    refine sm_iconst X 70 (2) dX8_set_69 rfl rfl ?_
    refine sm_icmp_ne X 73 103 dX8_set_70 rfl (by decide) (fun h70 => ?_) (fun h70 => ?_)
    · refine sm_iload_n X 74 2 dX8_set_73 rfl rfl rfl ?_
      refine sm_iconst X 75 (0) dX8_set_74 rfl rfl ?_
      refine sm_sipush X 78 (1200) dX8_set_75 rfl rfl ?_
      refine sm_bind (fun r78 h78 => ?_)
      refine sm_callS0 X 81 [.int v2, .int 0, .int 1200] [] [.int (b2i r78)] (c_X8_isOutside l G σ v2 (0 : Int32) (1200 : Int32) r78 h78) cw_X8_isOutside q_328 q_327 rfl rfl rfl (Nat.le_of_ble_eq_true rfl) ⟨Nat.le_of_ble_eq_true rfl, Nat.le_of_ble_eq_true rfl⟩ ⟨Nat.le_refl _, Nat.le_refl _⟩ dX8_set_78 rfl ?_
      refine sm_ifz_ne X 84 103 dX8_set_81 rfl (by decide) (fun h81 => ?_) (fun h81 => ?_)
      · exact sm_sub [0] rfl (J103 σ)
      · refine sm_aload_n X 85 0 dX8_set_84 rfl rfl rfl ?_
        refine sm_getf X 88 1 rfl fd_8_0 rfl dX8_set_85 rfl q_289 ?_
        refine sm_geti X 91 rfl fd_0_3 dX8_set_88 rfl q_96 ?_
        refine sm_istore_n X 92 [(3, .int (σ.1 1 3)), (0, .ref (gad G 0)), (1, .int v1), (2, .int v2)] dX8_set_91 rfl rfl (by decide) rfl ?_
        refine sm_aload_n X 93 1 dX8_set_92 rfl rfl rfl ?_
        refine sm_getf X 96 1 rfl fd_8_0 rfl dX8_set_93 rfl q_289 ?_
        refine sm_iload_n X 97 3 dX8_set_96 rfl rfl rfl ?_
        refine sm_puti X 100 .int rfl fd_0_3 (by decide) rfl rfl rfl dX8_set_97 rfl q_96 (fun σ97 e97 => ?_)
        clear e97
        refine sm_goto X 109 dX8_set_100 (by decide) ?_
        refine sm_iload_n X 110 0 dX8_set_109 rfl rfl rfl ?_
        exact sm_iret X hr dX8_set_110 rfl
    · exact sm_sub [0] rfl (J103 σ)
  have J33 : ∀ (v1 : Int32) (v2 : Int32)  (σ : Sto), Sm p l e { frames := 4, cells := 0, slots := 0, locals := 107 } s m args below meth c G 4 (Qm below args s G 0 0 (fiI G)) 0 0 (wl G σ) 33 [(0, .ref (gad G 0)), (1, .int v1), (2, .int v2)] [] (f_X8_set_L33  v1 v2 σ) := by
    intro v1 v2 σ
    rw [f_X8_set_L33]
    refine sm_iload_n X 34 1 dX8_set_33 rfl rfl rfl ?_
    refine sm_iconst X 35 (1) dX8_set_34 rfl rfl ?_
    refine sm_icmp_ne X 38 68 dX8_set_35 rfl (by decide) (fun h35 => ?_) (fun h35 => ?_)
    · refine sm_iload_n X 39 2 dX8_set_38 rfl rfl rfl ?_
      refine sm_iconst X 40 (0) dX8_set_39 rfl rfl ?_
      refine sm_sipush X 43 (200) dX8_set_40 rfl rfl ?_
      refine sm_bind (fun r43 h43 => ?_)
      refine sm_callS0 X 46 [.int v2, .int 0, .int 200] [] [.int (b2i r43)] (c_X8_isOutside l G σ v2 (0 : Int32) (200 : Int32) r43 h43) cw_X8_isOutside q_328 q_327 rfl rfl rfl (Nat.le_of_ble_eq_true rfl) ⟨Nat.le_of_ble_eq_true rfl, Nat.le_of_ble_eq_true rfl⟩ ⟨Nat.le_refl _, Nat.le_refl _⟩ dX8_set_43 rfl ?_
      refine sm_ifz_ne X 49 68 dX8_set_46 rfl (by decide) (fun h46 => ?_) (fun h46 => ?_)
      · exact sm_sub [0, 1, 2] rfl (J68 v1 v2  σ)
      · refine sm_aload_n X 50 0 dX8_set_49 rfl rfl rfl ?_
        refine sm_getf X 53 1 rfl fd_8_0 rfl dX8_set_50 rfl q_289 ?_
        refine sm_geti X 56 rfl fd_0_2 dX8_set_53 rfl q_94 ?_
        refine sm_istore_n X 57 [(3, .int (σ.1 1 2)), (0, .ref (gad G 0)), (1, .int v1), (2, .int v2)] dX8_set_56 rfl rfl (by decide) rfl ?_
        refine sm_aload_n X 58 1 dX8_set_57 rfl rfl rfl ?_
        refine sm_getf X 61 1 rfl fd_8_0 rfl dX8_set_58 rfl q_289 ?_
        refine sm_iload_n X 62 3 dX8_set_61 rfl rfl rfl ?_
        refine sm_puti X 65 .int rfl fd_0_2 (by decide) rfl rfl rfl dX8_set_62 rfl q_94 (fun σ62 e62 => ?_)
        clear e62
        refine sm_goto X 109 dX8_set_65 (by decide) ?_
        refine sm_iload_n X 110 0 dX8_set_109 rfl rfl rfl ?_
        exact sm_iret X hr dX8_set_110 rfl
    · exact sm_sub [0, 1, 2] rfl (J68 v1 v2  σ)
  unfold f_X8_set
  refine sm_iload_n X 1 1 dX8_set_0 rfl rfl rfl ?_
  refine sm_if_ne X 4 33 dX8_set_1 rfl (by decide) (fun h1 => ?_) (fun h1 => ?_)
  · refine sm_iload_n X 5 2 dX8_set_4 rfl rfl rfl ?_
    refine sm_bipush X 7 (-3) dX8_set_5 rfl rfl ?_
    refine sm_iconst X 8 (3) dX8_set_7 rfl rfl ?_
    refine sm_bind (fun r8 h8 => ?_)
    refine sm_callS0 X 11 [.int a2, .int (-3), .int 3] [] [.int (b2i r8)] (c_X8_isOutside l G σ a2 (-3 : Int32) (3 : Int32) r8 h8) cw_X8_isOutside q_328 q_327 rfl rfl rfl (Nat.le_of_ble_eq_true rfl) ⟨Nat.le_of_ble_eq_true rfl, Nat.le_of_ble_eq_true rfl⟩ ⟨Nat.le_refl _, Nat.le_refl _⟩ dX8_set_8 rfl ?_
    refine sm_ifz_ne X 14 33 dX8_set_11 rfl (by decide) (fun h11 => ?_) (fun h11 => ?_)
    · exact sm_sub [0, 1, 2] rfl (J33 a1 a2  σ)
    · refine sm_aload_n X 15 0 dX8_set_14 rfl rfl rfl ?_
      refine sm_getf X 18 1 rfl fd_8_0 rfl dX8_set_15 rfl q_289 ?_
      refine sm_geti X 21 rfl fd_0_1 dX8_set_18 rfl q_92 ?_
      refine sm_istore_n X 22 [(3, .int (σ.1 1 1)), (0, .ref (gad G 0)), (1, .int a1), (2, .int a2)] dX8_set_21 rfl rfl (by decide) rfl ?_
      refine sm_aload_n X 23 1 dX8_set_22 rfl rfl rfl ?_
      refine sm_getf X 26 1 rfl fd_8_0 rfl dX8_set_23 rfl q_289 ?_
      refine sm_iload_n X 27 3 dX8_set_26 rfl rfl rfl ?_
      refine sm_puti X 30 .int rfl fd_0_1 (by decide) rfl rfl rfl dX8_set_27 rfl q_92 (fun σ27 e27 => ?_)
      clear e27
      refine sm_goto X 109 dX8_set_30 (by decide) ?_
      refine sm_iload_n X 110 0 dX8_set_109 rfl rfl rfl ?_
      exact sm_iret X hr dX8_set_110 rfl
  · exact sm_sub [0, 1, 2] rfl (J33 a1 a2  σ)
def by_X8_flow_0 : List Nat := [27, 3, 8, 184, 0, 72, 153, 0, 9, 42, 4, 182, 0, 76, 172, 42]
def by_X8_flow_z : List Nat := [180, 0, 10, 27, 42, 180, 0, 10, 180, 0, 83, 182, 0, 92, 172]
def by_X8_flow : List (List Nat) := [by_X8_flow_0]
set_option maxRecDepth 100000 in
theorem byo_X8_flow : cX8_flow.data.toList.map UInt8.toNat = by_X8_flow.flatten ++ by_X8_flow_z := by decide +kernel
theorem byl_X8_flow : by_X8_flow.all (fun r => r.length == 16) = true := by decide +kernel
theorem byr_X8_flow_0 {j v : Nat} (h : by_X8_flow_0[j]? = some v) : RD cX8_flow (0 + j) v := rd_16 byo_X8_flow byl_X8_flow 0 rfl h
theorem byr_X8_flow_1 {j v : Nat} (h : by_X8_flow_z[j]? = some v) : RD cX8_flow (16 + j) v := rd_z byo_X8_flow byl_X8_flow 1 rfl h
theorem dX8_flow_0 : decode cX8_flow 0 = .ok (.iload_n 1, 1) := dk_27 (byr_X8_flow_0 (j := 0) rfl)
theorem dX8_flow_1 : decode cX8_flow 1 = .ok (.iconst 0, 1) := dk_3 (byr_X8_flow_0 (j := 1) rfl)
theorem dX8_flow_2 : decode cX8_flow 2 = .ok (.iconst 5, 1) := dk_8 (byr_X8_flow_0 (j := 2) rfl)
theorem dX8_flow_3 : decode cX8_flow 3 = .ok (.invokestatic 72, 3) := dk_184 (byr_X8_flow_0 (j := 3) rfl) (byr_X8_flow_0 (j := 4) rfl) (byr_X8_flow_0 (j := 5) rfl) (by decide)
theorem dX8_flow_6 : decode cX8_flow 6 = .ok (.ifCond .eq 9, 3) := dk_153 (byr_X8_flow_0 (j := 6) rfl) (byr_X8_flow_0 (j := 7) rfl) (byr_X8_flow_0 (j := 8) rfl) (by decide)
theorem dX8_flow_9 : decode cX8_flow 9 = .ok (.aload_n 0, 1) := dk_42 (byr_X8_flow_0 (j := 9) rfl)
theorem dX8_flow_10 : decode cX8_flow 10 = .ok (.iconst 1, 1) := dk_4 (byr_X8_flow_0 (j := 10) rfl)
theorem dX8_flow_11 : decode cX8_flow 11 = .ok (.invokevirtual 76, 3) := dk_182 (byr_X8_flow_0 (j := 11) rfl) (byr_X8_flow_0 (j := 12) rfl) (byr_X8_flow_0 (j := 13) rfl) (by decide)
theorem dX8_flow_14 : decode cX8_flow 14 = .ok (.ireturn, 1) := dk_172 (byr_X8_flow_0 (j := 14) rfl)
theorem dX8_flow_15 : decode cX8_flow 15 = .ok (.aload_n 0, 1) := dk_42 (byr_X8_flow_0 (j := 15) rfl)
theorem dX8_flow_16 : decode cX8_flow 16 = .ok (.getfield 10, 3) := dk_180 (byr_X8_flow_1 (j := 0) rfl) (byr_X8_flow_1 (j := 1) rfl) (byr_X8_flow_1 (j := 2) rfl) (by decide)
theorem dX8_flow_19 : decode cX8_flow 19 = .ok (.iload_n 1, 1) := dk_27 (byr_X8_flow_1 (j := 3) rfl)
theorem dX8_flow_20 : decode cX8_flow 20 = .ok (.aload_n 0, 1) := dk_42 (byr_X8_flow_1 (j := 4) rfl)
theorem dX8_flow_21 : decode cX8_flow 21 = .ok (.getfield 10, 3) := dk_180 (byr_X8_flow_1 (j := 5) rfl) (byr_X8_flow_1 (j := 6) rfl) (byr_X8_flow_1 (j := 7) rfl) (by decide)
theorem dX8_flow_24 : decode cX8_flow 24 = .ok (.getfield 83, 3) := dk_180 (byr_X8_flow_1 (j := 8) rfl) (byr_X8_flow_1 (j := 9) rfl) (byr_X8_flow_1 (j := 10) rfl) (by decide)
theorem dX8_flow_27 : decode cX8_flow 27 = .ok (.invokevirtual 92, 3) := dk_182 (byr_X8_flow_1 (j := 11) rfl) (byr_X8_flow_1 (j := 12) rfl) (byr_X8_flow_1 (j := 13) rfl) (by decide)
theorem dX8_flow_30 : decode cX8_flow 30 = .ok (.ireturn, 1) := dk_172 (byr_X8_flow_1 (j := 14) rfl)
set_option maxHeartbeats 4000000 in
set_option maxRecDepth 100000 in
theorem c_X8_flow (l : Launch) (G : GT) (σ : Sto) (a1 : Int32) (r : (Int32 × Sto)) (h : f_X8_flow σ a1 = some r) : MW l G (6) (158) 0 0 yX8_flow cX8_flow 2 (Option.some Jvm.ClassFile.FieldType.int) [.ref (gad G 0), .int a1] (wl G σ) (some (.int r.1)) (wl G r.2) := by
  refine mw_of RX8 (fiI G) [(0, .ref (gad G 0)), (1, .int a1)] (by decide +kernel) rfl (Nat.le_of_ble_eq_true rfl) rfl h rfl (fun p e s m args below meth c X hr hnm => ?_)
  unfold f_X8_flow
  refine sm_iload_n X 1 1 dX8_flow_0 rfl rfl rfl ?_
  refine sm_iconst X 2 (0) dX8_flow_1 rfl rfl ?_
  refine sm_iconst X 3 (5) dX8_flow_2 rfl rfl ?_
  refine sm_bind (fun r3 h3 => ?_)
  refine sm_callS0 X 6 [.int a1, .int 0, .int 5] [] [.int (b2i r3)] (c_X8_isOutside l G σ a1 (0 : Int32) (5 : Int32) r3 h3) cw_X8_isOutside q_328 q_327 rfl rfl rfl (Nat.le_of_ble_eq_true rfl) ⟨Nat.le_of_ble_eq_true rfl, Nat.le_of_ble_eq_true rfl⟩ ⟨Nat.le_refl _, Nat.le_refl _⟩ dX8_flow_3 rfl ?_
  refine sm_ifz_eq X 9 15 dX8_flow_6 rfl (by decide) (fun h6 => ?_) (fun h6 => ?_)
  · refine sm_aload_n X 10 0 dX8_flow_9 rfl rfl rfl ?_
    refine sm_iconst X 11 (1) dX8_flow_10 rfl rfl ?_
    refine sm_bind (fun r11 h11 => ?_)
    refine sm_callV0 X 14 [.int 1] [] [.int r11.1] (c_X8_refuse l G σ (1 : Int32) r11 h11) cw_X8_refuse q_332 qs_0 q_330 rfl (by decide) rfl rfl rfl rfl rfl (Nat.le_of_ble_eq_true rfl) ⟨Nat.le_of_ble_eq_true rfl, Nat.le_of_ble_eq_true rfl⟩ ⟨Nat.le_refl _, Nat.le_refl _⟩ dX8_flow_11 rfl ?_
    exact sm_iret X hr dX8_flow_14 rfl
  · refine sm_aload_n X 16 0 dX8_flow_15 rfl rfl rfl ?_
    refine sm_getf X 19 1 rfl fd_8_0 rfl dX8_flow_16 rfl q_289 ?_
    refine sm_iload_n X 20 1 dX8_flow_19 rfl rfl rfl ?_
    refine sm_aload_n X 21 0 dX8_flow_20 rfl rfl rfl ?_
    refine sm_getf X 24 1 rfl fd_8_0 rfl dX8_flow_21 rfl q_289 ?_
    refine sm_geti X 27 rfl fd_0_1 dX8_flow_24 rfl q_92 ?_
    refine sm_bind (fun r27 h27 => ?_)
    refine sm_callV0 X 30 [.int a1, .int (σ.1 1 1)] [] [.int r27.1] (c_X0_flowOf l G σ 1 rfl a1 (σ.1 1 1) r27 h27) cw_X0_flowOf q_344 q_345 q_343 rfl (by decide) rfl rfl rfl rfl rfl (Nat.le_of_ble_eq_true rfl) ⟨Nat.le_of_ble_eq_true rfl, Nat.le_of_ble_eq_true rfl⟩ ⟨Nat.le_refl _, Nat.le_refl _⟩ dX8_flow_27 rfl ?_
    exact sm_iret X hr dX8_flow_30 rfl
def by_X8_swimmer_0 : List Nat := [27, 3, 16, 69, 184, 0, 72, 154, 0, 12, 28, 3, 4, 184, 0, 72]
def by_X8_swimmer_1 : List Nat := [153, 0, 9, 42, 4, 182, 0, 76, 172, 42, 180, 0, 10, 180, 0, 96]
def by_X8_swimmer_2 : List Nat := [62, 29, 16, 8, 161, 0, 9, 42, 7, 182, 0, 76, 172, 42, 180, 0]
def by_X8_swimmer_3 : List Nat := [10, 29, 4, 96, 181, 0, 96, 42, 180, 0, 10, 29, 182, 0, 99, 58]
def by_X8_swimmer_z : List Nat := [4, 25, 4, 198, 0, 10, 25, 4, 27, 28, 182, 0, 103, 29, 172]
def by_X8_swimmer : List (List Nat) := [by_X8_swimmer_0, by_X8_swimmer_1, by_X8_swimmer_2, by_X8_swimmer_3]
set_option maxRecDepth 100000 in
theorem byo_X8_swimmer : cX8_swimmer.data.toList.map UInt8.toNat = by_X8_swimmer.flatten ++ by_X8_swimmer_z := by decide +kernel
theorem byl_X8_swimmer : by_X8_swimmer.all (fun r => r.length == 16) = true := by decide +kernel
theorem byr_X8_swimmer_0 {j v : Nat} (h : by_X8_swimmer_0[j]? = some v) : RD cX8_swimmer (0 + j) v := rd_16 byo_X8_swimmer byl_X8_swimmer 0 rfl h
theorem byr_X8_swimmer_1 {j v : Nat} (h : by_X8_swimmer_1[j]? = some v) : RD cX8_swimmer (16 + j) v := rd_16 byo_X8_swimmer byl_X8_swimmer 1 rfl h
theorem byr_X8_swimmer_2 {j v : Nat} (h : by_X8_swimmer_2[j]? = some v) : RD cX8_swimmer (32 + j) v := rd_16 byo_X8_swimmer byl_X8_swimmer 2 rfl h
theorem byr_X8_swimmer_3 {j v : Nat} (h : by_X8_swimmer_3[j]? = some v) : RD cX8_swimmer (48 + j) v := rd_16 byo_X8_swimmer byl_X8_swimmer 3 rfl h
theorem byr_X8_swimmer_4 {j v : Nat} (h : by_X8_swimmer_z[j]? = some v) : RD cX8_swimmer (64 + j) v := rd_z byo_X8_swimmer byl_X8_swimmer 4 rfl h
theorem dX8_swimmer_0 : decode cX8_swimmer 0 = .ok (.iload_n 1, 1) := dk_27 (byr_X8_swimmer_0 (j := 0) rfl)
theorem dX8_swimmer_1 : decode cX8_swimmer 1 = .ok (.iconst 0, 1) := dk_3 (byr_X8_swimmer_0 (j := 1) rfl)
theorem dX8_swimmer_2 : decode cX8_swimmer 2 = .ok (.bipush 69, 2) := dk_16 (byr_X8_swimmer_0 (j := 2) rfl) (byr_X8_swimmer_0 (j := 3) rfl) (by decide)
theorem dX8_swimmer_4 : decode cX8_swimmer 4 = .ok (.invokestatic 72, 3) := dk_184 (byr_X8_swimmer_0 (j := 4) rfl) (byr_X8_swimmer_0 (j := 5) rfl) (byr_X8_swimmer_0 (j := 6) rfl) (by decide)
theorem dX8_swimmer_7 : decode cX8_swimmer 7 = .ok (.ifCond .ne 12, 3) := dk_154 (byr_X8_swimmer_0 (j := 7) rfl) (byr_X8_swimmer_0 (j := 8) rfl) (byr_X8_swimmer_0 (j := 9) rfl) (by decide)
theorem dX8_swimmer_10 : decode cX8_swimmer 10 = .ok (.iload_n 2, 1) := dk_28 (byr_X8_swimmer_0 (j := 10) rfl)
theorem dX8_swimmer_11 : decode cX8_swimmer 11 = .ok (.iconst 0, 1) := dk_3 (byr_X8_swimmer_0 (j := 11) rfl)
theorem dX8_swimmer_12 : decode cX8_swimmer 12 = .ok (.iconst 1, 1) := dk_4 (byr_X8_swimmer_0 (j := 12) rfl)
theorem dX8_swimmer_13 : decode cX8_swimmer 13 = .ok (.invokestatic 72, 3) := dk_184 (byr_X8_swimmer_0 (j := 13) rfl) (byr_X8_swimmer_0 (j := 14) rfl) (byr_X8_swimmer_0 (j := 15) rfl) (by decide)
theorem dX8_swimmer_16 : decode cX8_swimmer 16 = .ok (.ifCond .eq 9, 3) := dk_153 (byr_X8_swimmer_1 (j := 0) rfl) (byr_X8_swimmer_1 (j := 1) rfl) (byr_X8_swimmer_1 (j := 2) rfl) (by decide)
theorem dX8_swimmer_19 : decode cX8_swimmer 19 = .ok (.aload_n 0, 1) := dk_42 (byr_X8_swimmer_1 (j := 3) rfl)
theorem dX8_swimmer_20 : decode cX8_swimmer 20 = .ok (.iconst 1, 1) := dk_4 (byr_X8_swimmer_1 (j := 4) rfl)
theorem dX8_swimmer_21 : decode cX8_swimmer 21 = .ok (.invokevirtual 76, 3) := dk_182 (byr_X8_swimmer_1 (j := 5) rfl) (byr_X8_swimmer_1 (j := 6) rfl) (byr_X8_swimmer_1 (j := 7) rfl) (by decide)
theorem dX8_swimmer_24 : decode cX8_swimmer 24 = .ok (.ireturn, 1) := dk_172 (byr_X8_swimmer_1 (j := 8) rfl)
theorem dX8_swimmer_25 : decode cX8_swimmer 25 = .ok (.aload_n 0, 1) := dk_42 (byr_X8_swimmer_1 (j := 9) rfl)
theorem dX8_swimmer_26 : decode cX8_swimmer 26 = .ok (.getfield 10, 3) := dk_180 (byr_X8_swimmer_1 (j := 10) rfl) (byr_X8_swimmer_1 (j := 11) rfl) (byr_X8_swimmer_1 (j := 12) rfl) (by decide)
theorem dX8_swimmer_29 : decode cX8_swimmer 29 = .ok (.getfield 96, 3) := dk_180 (byr_X8_swimmer_1 (j := 13) rfl) (byr_X8_swimmer_1 (j := 14) rfl) (byr_X8_swimmer_1 (j := 15) rfl) (by decide)
theorem dX8_swimmer_32 : decode cX8_swimmer 32 = .ok (.istore_n 3, 1) := dk_62 (byr_X8_swimmer_2 (j := 0) rfl)
theorem dX8_swimmer_33 : decode cX8_swimmer 33 = .ok (.iload_n 3, 1) := dk_29 (byr_X8_swimmer_2 (j := 1) rfl)
theorem dX8_swimmer_34 : decode cX8_swimmer 34 = .ok (.bipush 8, 2) := dk_16 (byr_X8_swimmer_2 (j := 2) rfl) (byr_X8_swimmer_2 (j := 3) rfl) (by decide)
theorem dX8_swimmer_36 : decode cX8_swimmer 36 = .ok (.if_icmp .lt 9, 3) := dk_161 (byr_X8_swimmer_2 (j := 4) rfl) (byr_X8_swimmer_2 (j := 5) rfl) (byr_X8_swimmer_2 (j := 6) rfl) (by decide)
theorem dX8_swimmer_39 : decode cX8_swimmer 39 = .ok (.aload_n 0, 1) := dk_42 (byr_X8_swimmer_2 (j := 7) rfl)
theorem dX8_swimmer_40 : decode cX8_swimmer 40 = .ok (.iconst 4, 1) := dk_7 (byr_X8_swimmer_2 (j := 8) rfl)
theorem dX8_swimmer_41 : decode cX8_swimmer 41 = .ok (.invokevirtual 76, 3) := dk_182 (byr_X8_swimmer_2 (j := 9) rfl) (byr_X8_swimmer_2 (j := 10) rfl) (byr_X8_swimmer_2 (j := 11) rfl) (by decide)
theorem dX8_swimmer_44 : decode cX8_swimmer 44 = .ok (.ireturn, 1) := dk_172 (byr_X8_swimmer_2 (j := 12) rfl)
theorem dX8_swimmer_45 : decode cX8_swimmer 45 = .ok (.aload_n 0, 1) := dk_42 (byr_X8_swimmer_2 (j := 13) rfl)
theorem dX8_swimmer_46 : decode cX8_swimmer 46 = .ok (.getfield 10, 3) := dk_180 (byr_X8_swimmer_2 (j := 14) rfl) (byr_X8_swimmer_2 (j := 15) rfl) (byr_X8_swimmer_3 (j := 0) rfl) (by decide)
theorem dX8_swimmer_49 : decode cX8_swimmer 49 = .ok (.iload_n 3, 1) := dk_29 (byr_X8_swimmer_3 (j := 1) rfl)
theorem dX8_swimmer_50 : decode cX8_swimmer 50 = .ok (.iconst 1, 1) := dk_4 (byr_X8_swimmer_3 (j := 2) rfl)
theorem dX8_swimmer_51 : decode cX8_swimmer 51 = .ok (.iadd, 1) := dk_96 (byr_X8_swimmer_3 (j := 3) rfl)
theorem dX8_swimmer_52 : decode cX8_swimmer 52 = .ok (.putfield 96, 3) := dk_181 (byr_X8_swimmer_3 (j := 4) rfl) (byr_X8_swimmer_3 (j := 5) rfl) (byr_X8_swimmer_3 (j := 6) rfl) (by decide)
theorem dX8_swimmer_55 : decode cX8_swimmer 55 = .ok (.aload_n 0, 1) := dk_42 (byr_X8_swimmer_3 (j := 7) rfl)
theorem dX8_swimmer_56 : decode cX8_swimmer 56 = .ok (.getfield 10, 3) := dk_180 (byr_X8_swimmer_3 (j := 8) rfl) (byr_X8_swimmer_3 (j := 9) rfl) (byr_X8_swimmer_3 (j := 10) rfl) (by decide)
theorem dX8_swimmer_59 : decode cX8_swimmer 59 = .ok (.iload_n 3, 1) := dk_29 (byr_X8_swimmer_3 (j := 11) rfl)
theorem dX8_swimmer_60 : decode cX8_swimmer 60 = .ok (.invokevirtual 99, 3) := dk_182 (byr_X8_swimmer_3 (j := 12) rfl) (byr_X8_swimmer_3 (j := 13) rfl) (byr_X8_swimmer_3 (j := 14) rfl) (by decide)
theorem dX8_swimmer_63 : decode cX8_swimmer 63 = .ok (.astore 4, 2) := dk_58 (byr_X8_swimmer_3 (j := 15) rfl) (byr_X8_swimmer_4 (j := 0) rfl)
theorem dX8_swimmer_65 : decode cX8_swimmer 65 = .ok (.aload 4, 2) := dk_25 (byr_X8_swimmer_4 (j := 1) rfl) (byr_X8_swimmer_4 (j := 2) rfl)
theorem dX8_swimmer_67 : decode cX8_swimmer 67 = .ok (.ifnull 10, 3) := dk_198 (byr_X8_swimmer_4 (j := 3) rfl) (byr_X8_swimmer_4 (j := 4) rfl) (byr_X8_swimmer_4 (j := 5) rfl) (by decide)
theorem dX8_swimmer_70 : decode cX8_swimmer 70 = .ok (.aload 4, 2) := dk_25 (byr_X8_swimmer_4 (j := 6) rfl) (byr_X8_swimmer_4 (j := 7) rfl)
theorem dX8_swimmer_72 : decode cX8_swimmer 72 = .ok (.iload_n 1, 1) := dk_27 (byr_X8_swimmer_4 (j := 8) rfl)
theorem dX8_swimmer_73 : decode cX8_swimmer 73 = .ok (.iload_n 2, 1) := dk_28 (byr_X8_swimmer_4 (j := 9) rfl)
theorem dX8_swimmer_74 : decode cX8_swimmer 74 = .ok (.invokevirtual 103, 3) := dk_182 (byr_X8_swimmer_4 (j := 10) rfl) (byr_X8_swimmer_4 (j := 11) rfl) (byr_X8_swimmer_4 (j := 12) rfl) (by decide)
theorem dX8_swimmer_77 : decode cX8_swimmer 77 = .ok (.iload_n 3, 1) := dk_29 (byr_X8_swimmer_4 (j := 13) rfl)
theorem dX8_swimmer_78 : decode cX8_swimmer 78 = .ok (.ireturn, 1) := dk_172 (byr_X8_swimmer_4 (j := 14) rfl)
set_option maxHeartbeats 4000000 in
set_option maxRecDepth 100000 in
theorem c_X8_swimmer (l : Launch) (G : GT) (σ : Sto) (a1 : Int32) (a2 : Int32) (r : (Int32 × Sto)) (h : f_X8_swimmer σ a1 a2 = some r) : MW l G (4) (108) 0 0 yX8_swimmer cX8_swimmer 5 (Option.some Jvm.ClassFile.FieldType.int) [.ref (gad G 0), .int a1, .int a2] (wl G σ) (some (.int r.1)) (wl G r.2) := by
  refine mw_of RX8 (fiI G) [(0, .ref (gad G 0)), (1, .int a1), (2, .int a2)] (by decide +kernel) rfl (Nat.le_of_ble_eq_true rfl) rfl h rfl (fun p e s m args below meth c X hr hnm => ?_)
  unfold f_X8_swimmer
  refine sm_iload_n X 1 1 dX8_swimmer_0 rfl rfl rfl ?_
  refine sm_iconst X 2 (0) dX8_swimmer_1 rfl rfl ?_
  refine sm_bipush X 4 (69) dX8_swimmer_2 rfl rfl ?_
  refine sm_bind (fun r4 h4 => ?_)
  refine sm_callS0 X 7 [.int a1, .int 0, .int 69] [] [.int (b2i r4)] (c_X8_isOutside l G σ a1 (0 : Int32) (69 : Int32) r4 h4) cw_X8_isOutside q_328 q_327 rfl rfl rfl (Nat.le_of_ble_eq_true rfl) ⟨Nat.le_of_ble_eq_true rfl, Nat.le_of_ble_eq_true rfl⟩ ⟨Nat.le_refl _, Nat.le_refl _⟩ dX8_swimmer_4 rfl ?_
  refine sm_ifz_ne X 10 19 dX8_swimmer_7 rfl (by decide) (fun h7 => ?_) (fun h7 => ?_)
  · refine sm_aload_n X 20 0 dX8_swimmer_19 rfl rfl rfl ?_
    refine sm_iconst X 21 (1) dX8_swimmer_20 rfl rfl ?_
    refine sm_bind (fun r21 h21 => ?_)
    refine sm_callV0 X 24 [.int 1] [] [.int r21.1] (c_X8_refuse l G σ (1 : Int32) r21 h21) cw_X8_refuse q_332 qs_0 q_330 rfl (by decide) rfl rfl rfl rfl rfl (Nat.le_of_ble_eq_true rfl) ⟨Nat.le_of_ble_eq_true rfl, Nat.le_of_ble_eq_true rfl⟩ ⟨Nat.le_refl _, Nat.le_refl _⟩ dX8_swimmer_21 rfl ?_
    exact sm_iret X hr dX8_swimmer_24 rfl
  · refine sm_iload_n X 11 2 dX8_swimmer_10 rfl rfl rfl ?_
    refine sm_iconst X 12 (0) dX8_swimmer_11 rfl rfl ?_
    refine sm_iconst X 13 (1) dX8_swimmer_12 rfl rfl ?_
    refine sm_bind (fun r13 h13 => ?_)
    refine sm_callS0 X 16 [.int a2, .int 0, .int 1] [] [.int (b2i r13)] (c_X8_isOutside l G σ a2 (0 : Int32) (1 : Int32) r13 h13) cw_X8_isOutside q_328 q_327 rfl rfl rfl (Nat.le_of_ble_eq_true rfl) ⟨Nat.le_of_ble_eq_true rfl, Nat.le_of_ble_eq_true rfl⟩ ⟨Nat.le_refl _, Nat.le_refl _⟩ dX8_swimmer_13 rfl ?_
    refine sm_ifz_eq X 19 25 dX8_swimmer_16 rfl (by decide) (fun h16 => ?_) (fun h16 => ?_)
    · refine sm_aload_n X 20 0 dX8_swimmer_19 rfl rfl rfl ?_
      refine sm_iconst X 21 (1) dX8_swimmer_20 rfl rfl ?_
      refine sm_bind (fun r21 h21 => ?_)
      refine sm_callV0 X 24 [.int 1] [] [.int r21.1] (c_X8_refuse l G σ (1 : Int32) r21 h21) cw_X8_refuse q_332 qs_0 q_330 rfl (by decide) rfl rfl rfl rfl rfl (Nat.le_of_ble_eq_true rfl) ⟨Nat.le_of_ble_eq_true rfl, Nat.le_of_ble_eq_true rfl⟩ ⟨Nat.le_refl _, Nat.le_refl _⟩ dX8_swimmer_21 rfl ?_
      exact sm_iret X hr dX8_swimmer_24 rfl
    · refine sm_aload_n X 26 0 dX8_swimmer_25 rfl rfl rfl ?_
      refine sm_getf X 29 1 rfl fd_8_0 rfl dX8_swimmer_26 rfl q_289 ?_
      refine sm_geti X 32 rfl fd_0_8 dX8_swimmer_29 rfl q_105 ?_
      refine sm_istore_n X 33 [(3, .int (σ.1 1 8)), (0, .ref (gad G 0)), (1, .int a1), (2, .int a2)] dX8_swimmer_32 rfl rfl (by decide) rfl ?_
      refine sm_iload_n X 34 0 dX8_swimmer_33 rfl rfl rfl ?_
      refine sm_bipush X 36 (8) dX8_swimmer_34 rfl rfl ?_
      refine sm_icmp_lt X 39 45 dX8_swimmer_36 rfl (by decide) (fun h36 => ?_) (fun h36 => ?_)
      · refine sm_aload_n X 46 1 dX8_swimmer_45 rfl rfl rfl ?_
        refine sm_getf X 49 1 rfl fd_8_0 rfl dX8_swimmer_46 rfl q_289 ?_
        refine sm_iload_n X 50 0 dX8_swimmer_49 rfl rfl rfl ?_
        refine sm_iconst X 51 (1) dX8_swimmer_50 rfl rfl ?_
        refine sm_iadd X 52 dX8_swimmer_51 rfl ?_
        refine sm_puti X 55 .int rfl fd_0_8 (by decide) rfl rfl rfl dX8_swimmer_52 rfl q_105 (fun σ52 e52 => ?_)
        clear e52
        refine sm_aload_n X 56 1 dX8_swimmer_55 rfl rfl rfl ?_
        refine sm_getf X 59 1 rfl fd_8_0 rfl dX8_swimmer_56 rfl q_289 ?_
        refine sm_iload_n X 60 0 dX8_swimmer_59 rfl rfl rfl ?_
        refine sm_bind (fun r60 h60 => ?_)
        refine sm_callV0 X 63 [.int (σ.1 1 8)] [] [va_re (gad G) r60] (c_X0_swimmerAt l G σ52 1 rfl (σ.1 1 8) r60 h60) cw_X0_swimmerAt q_376 q_377 q_375 rfl (by decide) rfl rfl rfl rfl rfl (Nat.le_of_ble_eq_true rfl) ⟨Nat.le_of_ble_eq_true rfl, Nat.le_of_ble_eq_true rfl⟩ ⟨Nat.le_refl _, Nat.le_refl _⟩ dX8_swimmer_60 rfl ?_
        refine sm_astoreq X 65 [(4, va_re (gad G) r60), (3, .int (σ.1 1 8)), (0, .ref (gad G 0)), (1, .int a1), (2, .int a2)] dX8_swimmer_63 rfl (by decide) rfl ?_
        refine sm_aloadq X 67 0 dX8_swimmer_65 rfl rfl ?_
        refine sm_ifnull X 70 77 dX8_swimmer_67 rfl (by decide) (fun hn => ?_) (fun k67 hn => ?_)
        · subst hn
          refine sm_iload_n X 78 1 dX8_swimmer_77 rfl rfl rfl ?_
          exact sm_iret X hr dX8_swimmer_78 rfl
        · subst hn
          refine sm_aload X 72 0 dX8_swimmer_70 rfl rfl ?_
          refine sm_iload_n X 73 3 dX8_swimmer_72 rfl rfl rfl ?_
          refine sm_iload_n X 74 4 dX8_swimmer_73 rfl rfl rfl ?_
          refine sm_guard (fun hk67 => ?_)
          refine sm_bind (fun r74 h74 => ?_)
          refine sm_callV0 X 77 [.int a1, .int a2] [] [] (c_X6_begin l G σ52 k67 hk67 a1 a2 r74 h74) cw_X6_begin q_380 q_381 q_379 hk67 (by decide) rfl rfl rfl rfl rfl (Nat.le_of_ble_eq_true rfl) ⟨Nat.le_of_ble_eq_true rfl, Nat.le_of_ble_eq_true rfl⟩ ⟨Nat.le_refl _, Nat.le_refl _⟩ dX8_swimmer_74 rfl ?_
          refine sm_iload_n X 78 1 dX8_swimmer_77 rfl rfl rfl ?_
          exact sm_iret X hr dX8_swimmer_78 rfl
      · refine sm_aload_n X 40 1 dX8_swimmer_39 rfl rfl rfl ?_
        refine sm_iconst X 41 (4) dX8_swimmer_40 rfl rfl ?_
        refine sm_bind (fun r41 h41 => ?_)
        refine sm_callV0 X 44 [.int 4] [] [.int r41.1] (c_X8_refuse l G σ (4 : Int32) r41 h41) cw_X8_refuse q_332 qs_0 q_330 rfl (by decide) rfl rfl rfl rfl rfl (Nat.le_of_ble_eq_true rfl) ⟨Nat.le_of_ble_eq_true rfl, Nat.le_of_ble_eq_true rfl⟩ ⟨Nat.le_refl _, Nat.le_refl _⟩ dX8_swimmer_41 rfl ?_
        exact sm_iret X hr dX8_swimmer_44 rfl
def by_X8_ofSwimmer_0 : List Nat := [42, 180, 0, 10, 27, 182, 0, 99, 78, 45, 198, 0, 13, 28, 3, 16]
def by_X8_ofSwimmer_1 : List Nat := [8, 184, 0, 72, 153, 0, 9, 42, 4, 182, 0, 76, 172, 28, 170, 0]
def by_X8_ofSwimmer_2 : List Nat := [0, 0, 0, 59, 0, 0, 0, 0, 0, 0, 0, 4, 0, 0, 0, 34]
def by_X8_ofSwimmer_3 : List Nat := [0, 0, 0, 39, 0, 0, 0, 44, 0, 0, 0, 49, 0, 0, 0, 54]
def by_X8_ofSwimmer_4 : List Nat := [45, 180, 0, 107, 172, 45, 180, 0, 110, 172, 45, 180, 0, 113, 172, 45]
def by_X8_ofSwimmer_5 : List Nat := [180, 0, 116, 172, 45, 180, 0, 119, 172, 45, 28, 8, 100, 182, 0, 122]
def by_X8_ofSwimmer_z : List Nat := [172]
def by_X8_ofSwimmer : List (List Nat) := [by_X8_ofSwimmer_0, by_X8_ofSwimmer_1, by_X8_ofSwimmer_2, by_X8_ofSwimmer_3, by_X8_ofSwimmer_4, by_X8_ofSwimmer_5]
set_option maxRecDepth 100000 in
theorem byo_X8_ofSwimmer : cX8_ofSwimmer.data.toList.map UInt8.toNat = by_X8_ofSwimmer.flatten ++ by_X8_ofSwimmer_z := by decide +kernel
theorem byl_X8_ofSwimmer : by_X8_ofSwimmer.all (fun r => r.length == 16) = true := by decide +kernel
theorem byr_X8_ofSwimmer_0 {j v : Nat} (h : by_X8_ofSwimmer_0[j]? = some v) : RD cX8_ofSwimmer (0 + j) v := rd_16 byo_X8_ofSwimmer byl_X8_ofSwimmer 0 rfl h
theorem byr_X8_ofSwimmer_1 {j v : Nat} (h : by_X8_ofSwimmer_1[j]? = some v) : RD cX8_ofSwimmer (16 + j) v := rd_16 byo_X8_ofSwimmer byl_X8_ofSwimmer 1 rfl h
theorem byr_X8_ofSwimmer_2 {j v : Nat} (h : by_X8_ofSwimmer_2[j]? = some v) : RD cX8_ofSwimmer (32 + j) v := rd_16 byo_X8_ofSwimmer byl_X8_ofSwimmer 2 rfl h
theorem byr_X8_ofSwimmer_3 {j v : Nat} (h : by_X8_ofSwimmer_3[j]? = some v) : RD cX8_ofSwimmer (48 + j) v := rd_16 byo_X8_ofSwimmer byl_X8_ofSwimmer 3 rfl h
theorem byr_X8_ofSwimmer_4 {j v : Nat} (h : by_X8_ofSwimmer_4[j]? = some v) : RD cX8_ofSwimmer (64 + j) v := rd_16 byo_X8_ofSwimmer byl_X8_ofSwimmer 4 rfl h
theorem byr_X8_ofSwimmer_5 {j v : Nat} (h : by_X8_ofSwimmer_5[j]? = some v) : RD cX8_ofSwimmer (80 + j) v := rd_16 byo_X8_ofSwimmer byl_X8_ofSwimmer 5 rfl h
theorem byr_X8_ofSwimmer_6 {j v : Nat} (h : by_X8_ofSwimmer_z[j]? = some v) : RD cX8_ofSwimmer (96 + j) v := rd_z byo_X8_ofSwimmer byl_X8_ofSwimmer 6 rfl h
theorem dX8_ofSwimmer_0 : decode cX8_ofSwimmer 0 = .ok (.aload_n 0, 1) := dk_42 (byr_X8_ofSwimmer_0 (j := 0) rfl)
theorem dX8_ofSwimmer_1 : decode cX8_ofSwimmer 1 = .ok (.getfield 10, 3) := dk_180 (byr_X8_ofSwimmer_0 (j := 1) rfl) (byr_X8_ofSwimmer_0 (j := 2) rfl) (byr_X8_ofSwimmer_0 (j := 3) rfl) (by decide)
theorem dX8_ofSwimmer_4 : decode cX8_ofSwimmer 4 = .ok (.iload_n 1, 1) := dk_27 (byr_X8_ofSwimmer_0 (j := 4) rfl)
theorem dX8_ofSwimmer_5 : decode cX8_ofSwimmer 5 = .ok (.invokevirtual 99, 3) := dk_182 (byr_X8_ofSwimmer_0 (j := 5) rfl) (byr_X8_ofSwimmer_0 (j := 6) rfl) (byr_X8_ofSwimmer_0 (j := 7) rfl) (by decide)
theorem dX8_ofSwimmer_8 : decode cX8_ofSwimmer 8 = .ok (.astore_n 3, 1) := dk_78 (byr_X8_ofSwimmer_0 (j := 8) rfl)
theorem dX8_ofSwimmer_9 : decode cX8_ofSwimmer 9 = .ok (.aload_n 3, 1) := dk_45 (byr_X8_ofSwimmer_0 (j := 9) rfl)
theorem dX8_ofSwimmer_10 : decode cX8_ofSwimmer 10 = .ok (.ifnull 13, 3) := dk_198 (byr_X8_ofSwimmer_0 (j := 10) rfl) (byr_X8_ofSwimmer_0 (j := 11) rfl) (byr_X8_ofSwimmer_0 (j := 12) rfl) (by decide)
theorem dX8_ofSwimmer_13 : decode cX8_ofSwimmer 13 = .ok (.iload_n 2, 1) := dk_28 (byr_X8_ofSwimmer_0 (j := 13) rfl)
theorem dX8_ofSwimmer_14 : decode cX8_ofSwimmer 14 = .ok (.iconst 0, 1) := dk_3 (byr_X8_ofSwimmer_0 (j := 14) rfl)
theorem dX8_ofSwimmer_15 : decode cX8_ofSwimmer 15 = .ok (.bipush 8, 2) := dk_16 (byr_X8_ofSwimmer_0 (j := 15) rfl) (byr_X8_ofSwimmer_1 (j := 0) rfl) (by decide)
theorem dX8_ofSwimmer_17 : decode cX8_ofSwimmer 17 = .ok (.invokestatic 72, 3) := dk_184 (byr_X8_ofSwimmer_1 (j := 1) rfl) (byr_X8_ofSwimmer_1 (j := 2) rfl) (byr_X8_ofSwimmer_1 (j := 3) rfl) (by decide)
theorem dX8_ofSwimmer_20 : decode cX8_ofSwimmer 20 = .ok (.ifCond .eq 9, 3) := dk_153 (byr_X8_ofSwimmer_1 (j := 4) rfl) (byr_X8_ofSwimmer_1 (j := 5) rfl) (byr_X8_ofSwimmer_1 (j := 6) rfl) (by decide)
theorem dX8_ofSwimmer_23 : decode cX8_ofSwimmer 23 = .ok (.aload_n 0, 1) := dk_42 (byr_X8_ofSwimmer_1 (j := 7) rfl)
theorem dX8_ofSwimmer_24 : decode cX8_ofSwimmer 24 = .ok (.iconst 1, 1) := dk_4 (byr_X8_ofSwimmer_1 (j := 8) rfl)
theorem dX8_ofSwimmer_25 : decode cX8_ofSwimmer 25 = .ok (.invokevirtual 76, 3) := dk_182 (byr_X8_ofSwimmer_1 (j := 9) rfl) (byr_X8_ofSwimmer_1 (j := 10) rfl) (byr_X8_ofSwimmer_1 (j := 11) rfl) (by decide)
theorem dX8_ofSwimmer_28 : decode cX8_ofSwimmer 28 = .ok (.ireturn, 1) := dk_172 (byr_X8_ofSwimmer_1 (j := 12) rfl)
theorem dX8_ofSwimmer_29 : decode cX8_ofSwimmer 29 = .ok (.iload_n 2, 1) := dk_28 (byr_X8_ofSwimmer_1 (j := 13) rfl)
set_option maxRecDepth 20000 in
theorem dX8_ofSwimmer_30 : decode cX8_ofSwimmer 30 = .ok (.tableswitch 59 0 4 #[34, 39, 44, 49, 54], 34) := by decide +kernel
theorem dX8_ofSwimmer_64 : decode cX8_ofSwimmer 64 = .ok (.aload_n 3, 1) := dk_45 (byr_X8_ofSwimmer_4 (j := 0) rfl)
theorem dX8_ofSwimmer_65 : decode cX8_ofSwimmer 65 = .ok (.getfield 107, 3) := dk_180 (byr_X8_ofSwimmer_4 (j := 1) rfl) (byr_X8_ofSwimmer_4 (j := 2) rfl) (byr_X8_ofSwimmer_4 (j := 3) rfl) (by decide)
theorem dX8_ofSwimmer_68 : decode cX8_ofSwimmer 68 = .ok (.ireturn, 1) := dk_172 (byr_X8_ofSwimmer_4 (j := 4) rfl)
theorem dX8_ofSwimmer_69 : decode cX8_ofSwimmer 69 = .ok (.aload_n 3, 1) := dk_45 (byr_X8_ofSwimmer_4 (j := 5) rfl)
theorem dX8_ofSwimmer_70 : decode cX8_ofSwimmer 70 = .ok (.getfield 110, 3) := dk_180 (byr_X8_ofSwimmer_4 (j := 6) rfl) (byr_X8_ofSwimmer_4 (j := 7) rfl) (byr_X8_ofSwimmer_4 (j := 8) rfl) (by decide)
theorem dX8_ofSwimmer_73 : decode cX8_ofSwimmer 73 = .ok (.ireturn, 1) := dk_172 (byr_X8_ofSwimmer_4 (j := 9) rfl)
theorem dX8_ofSwimmer_74 : decode cX8_ofSwimmer 74 = .ok (.aload_n 3, 1) := dk_45 (byr_X8_ofSwimmer_4 (j := 10) rfl)
theorem dX8_ofSwimmer_75 : decode cX8_ofSwimmer 75 = .ok (.getfield 113, 3) := dk_180 (byr_X8_ofSwimmer_4 (j := 11) rfl) (byr_X8_ofSwimmer_4 (j := 12) rfl) (byr_X8_ofSwimmer_4 (j := 13) rfl) (by decide)
theorem dX8_ofSwimmer_78 : decode cX8_ofSwimmer 78 = .ok (.ireturn, 1) := dk_172 (byr_X8_ofSwimmer_4 (j := 14) rfl)
theorem dX8_ofSwimmer_79 : decode cX8_ofSwimmer 79 = .ok (.aload_n 3, 1) := dk_45 (byr_X8_ofSwimmer_4 (j := 15) rfl)
theorem dX8_ofSwimmer_80 : decode cX8_ofSwimmer 80 = .ok (.getfield 116, 3) := dk_180 (byr_X8_ofSwimmer_5 (j := 0) rfl) (byr_X8_ofSwimmer_5 (j := 1) rfl) (byr_X8_ofSwimmer_5 (j := 2) rfl) (by decide)
theorem dX8_ofSwimmer_83 : decode cX8_ofSwimmer 83 = .ok (.ireturn, 1) := dk_172 (byr_X8_ofSwimmer_5 (j := 3) rfl)
theorem dX8_ofSwimmer_84 : decode cX8_ofSwimmer 84 = .ok (.aload_n 3, 1) := dk_45 (byr_X8_ofSwimmer_5 (j := 4) rfl)
theorem dX8_ofSwimmer_85 : decode cX8_ofSwimmer 85 = .ok (.getfield 119, 3) := dk_180 (byr_X8_ofSwimmer_5 (j := 5) rfl) (byr_X8_ofSwimmer_5 (j := 6) rfl) (byr_X8_ofSwimmer_5 (j := 7) rfl) (by decide)
theorem dX8_ofSwimmer_88 : decode cX8_ofSwimmer 88 = .ok (.ireturn, 1) := dk_172 (byr_X8_ofSwimmer_5 (j := 8) rfl)
theorem dX8_ofSwimmer_89 : decode cX8_ofSwimmer 89 = .ok (.aload_n 3, 1) := dk_45 (byr_X8_ofSwimmer_5 (j := 9) rfl)
theorem dX8_ofSwimmer_90 : decode cX8_ofSwimmer 90 = .ok (.iload_n 2, 1) := dk_28 (byr_X8_ofSwimmer_5 (j := 10) rfl)
theorem dX8_ofSwimmer_91 : decode cX8_ofSwimmer 91 = .ok (.iconst 5, 1) := dk_8 (byr_X8_ofSwimmer_5 (j := 11) rfl)
theorem dX8_ofSwimmer_92 : decode cX8_ofSwimmer 92 = .ok (.isub, 1) := dk_100 (byr_X8_ofSwimmer_5 (j := 12) rfl)
theorem dX8_ofSwimmer_93 : decode cX8_ofSwimmer 93 = .ok (.invokevirtual 122, 3) := dk_182 (byr_X8_ofSwimmer_5 (j := 13) rfl) (byr_X8_ofSwimmer_5 (j := 14) rfl) (byr_X8_ofSwimmer_5 (j := 15) rfl) (by decide)
theorem dX8_ofSwimmer_96 : decode cX8_ofSwimmer 96 = .ok (.ireturn, 1) := dk_172 (byr_X8_ofSwimmer_6 (j := 0) rfl)
set_option maxHeartbeats 4000000 in
set_option maxRecDepth 100000 in
theorem c_X8_ofSwimmer (l : Launch) (G : GT) (σ : Sto) (a1 : Int32) (a2 : Int32) (r : (Int32 × Sto)) (h : f_X8_ofSwimmer σ a1 a2 = some r) : MW l G (4) (107) 0 0 yX8_ofSwimmer cX8_ofSwimmer 4 (Option.some Jvm.ClassFile.FieldType.int) [.ref (gad G 0), .int a1, .int a2] (wl G σ) (some (.int r.1)) (wl G r.2) := by
  refine mw_of RX8 (fiI G) [(0, .ref (gad G 0)), (1, .int a1), (2, .int a2)] (by decide +kernel) rfl (Nat.le_of_ble_eq_true rfl) rfl h rfl (fun p e s m args below meth c X hr hnm => ?_)
  unfold f_X8_ofSwimmer
  refine sm_aload_n X 1 0 dX8_ofSwimmer_0 rfl rfl rfl ?_
  refine sm_getf X 4 1 rfl fd_8_0 rfl dX8_ofSwimmer_1 rfl q_289 ?_
  refine sm_iload_n X 5 1 dX8_ofSwimmer_4 rfl rfl rfl ?_
  refine sm_bind (fun r5 h5 => ?_)
  refine sm_callV0 X 8 [.int a1] [] [va_re (gad G) r5] (c_X0_swimmerAt l G σ 1 rfl a1 r5 h5) cw_X0_swimmerAt q_376 q_377 q_375 rfl (by decide) rfl rfl rfl rfl rfl (Nat.le_of_ble_eq_true rfl) ⟨Nat.le_of_ble_eq_true rfl, Nat.le_of_ble_eq_true rfl⟩ ⟨Nat.le_refl _, Nat.le_refl _⟩ dX8_ofSwimmer_5 rfl ?_
  refine sm_astore_nq X 9 [(3, va_re (gad G) r5), (0, .ref (gad G 0)), (1, .int a1), (2, .int a2)] dX8_ofSwimmer_8 rfl rfl (by decide) rfl ?_
  refine sm_aload_nq X 10 0 dX8_ofSwimmer_9 rfl rfl rfl ?_
  refine sm_ifnull X 13 23 dX8_ofSwimmer_10 rfl (by decide) (fun hn => ?_) (fun k10 hn => ?_)
  · subst hn
    refine sm_aload_n X 24 1 dX8_ofSwimmer_23 rfl rfl rfl ?_
    refine sm_iconst X 25 (1) dX8_ofSwimmer_24 rfl rfl ?_
    refine sm_bind (fun r25 h25 => ?_)
    refine sm_callV0 X 28 [.int 1] [] [.int r25.1] (c_X8_refuse l G σ (1 : Int32) r25 h25) cw_X8_refuse q_332 qs_0 q_330 rfl (by decide) rfl rfl rfl rfl rfl (Nat.le_of_ble_eq_true rfl) ⟨Nat.le_of_ble_eq_true rfl, Nat.le_of_ble_eq_true rfl⟩ ⟨Nat.le_refl _, Nat.le_refl _⟩ dX8_ofSwimmer_25 rfl ?_
    exact sm_iret X hr dX8_ofSwimmer_28 rfl
  · subst hn
    refine sm_iload_n X 14 3 dX8_ofSwimmer_13 rfl rfl rfl ?_
    refine sm_iconst X 15 (0) dX8_ofSwimmer_14 rfl rfl ?_
    refine sm_bipush X 17 (8) dX8_ofSwimmer_15 rfl rfl ?_
    refine sm_bind (fun r17 h17 => ?_)
    refine sm_callS0 X 20 [.int a2, .int 0, .int 8] [] [.int (b2i r17)] (c_X8_isOutside l G σ a2 (0 : Int32) (8 : Int32) r17 h17) cw_X8_isOutside q_328 q_327 rfl rfl rfl (Nat.le_of_ble_eq_true rfl) ⟨Nat.le_of_ble_eq_true rfl, Nat.le_of_ble_eq_true rfl⟩ ⟨Nat.le_refl _, Nat.le_refl _⟩ dX8_ofSwimmer_17 rfl ?_
    refine sm_ifz_eq X 23 29 dX8_ofSwimmer_20 rfl (by decide) (fun h20 => ?_) (fun h20 => ?_)
    · refine sm_aload_n X 24 1 dX8_ofSwimmer_23 rfl rfl rfl ?_
      refine sm_iconst X 25 (1) dX8_ofSwimmer_24 rfl rfl ?_
      refine sm_bind (fun r25 h25 => ?_)
      refine sm_callV0 X 28 [.int 1] [] [.int r25.1] (c_X8_refuse l G σ (1 : Int32) r25 h25) cw_X8_refuse q_332 qs_0 q_330 rfl (by decide) rfl rfl rfl rfl rfl (Nat.le_of_ble_eq_true rfl) ⟨Nat.le_of_ble_eq_true rfl, Nat.le_of_ble_eq_true rfl⟩ ⟨Nat.le_refl _, Nat.le_refl _⟩ dX8_ofSwimmer_25 rfl ?_
      exact sm_iret X hr dX8_ofSwimmer_28 rfl
    · refine sm_iload_n X 30 3 dX8_ofSwimmer_29 rfl rfl rfl ?_
      refine sm_if (fun h30_0 => ?_) (fun h30_0 => ?_)
      · refine sm_table X 64 dX8_ofSwimmer_30 (by rw [h30_0]; decide) (by rw [h30_0]; decide) (by first | (rw [h30_0]; done) | (rw [h30_0]; rfl)) (by decide) ?_
        refine sm_aload_n X 65 0 dX8_ofSwimmer_64 rfl rfl rfl ?_
        refine sm_guard (fun hk10 => ?_)
        refine sm_geti X 68 hk10 fd_6_0 dX8_ofSwimmer_65 rfl q_61 ?_
        exact sm_iret X hr dX8_ofSwimmer_68 rfl
      refine sm_if (fun h30_1 => ?_) (fun h30_1 => ?_)
      · refine sm_table X 69 dX8_ofSwimmer_30 (by rw [h30_1]; decide) (by rw [h30_1]; decide) (by first | (rw [h30_1]; done) | (rw [h30_1]; rfl)) (by decide) ?_
        refine sm_aload_n X 70 0 dX8_ofSwimmer_69 rfl rfl rfl ?_
        refine sm_guard (fun hk10 => ?_)
        refine sm_geti X 73 hk10 fd_6_1 dX8_ofSwimmer_70 rfl q_64 ?_
        exact sm_iret X hr dX8_ofSwimmer_73 rfl
      refine sm_if (fun h30_2 => ?_) (fun h30_2 => ?_)
      · refine sm_table X 74 dX8_ofSwimmer_30 (by rw [h30_2]; decide) (by rw [h30_2]; decide) (by first | (rw [h30_2]; done) | (rw [h30_2]; rfl)) (by decide) ?_
        refine sm_aload_n X 75 0 dX8_ofSwimmer_74 rfl rfl rfl ?_
        refine sm_guard (fun hk10 => ?_)
        refine sm_geti X 78 hk10 fd_6_2 dX8_ofSwimmer_75 rfl q_68 ?_
        exact sm_iret X hr dX8_ofSwimmer_78 rfl
      refine sm_if (fun h30_3 => ?_) (fun h30_3 => ?_)
      · refine sm_table X 79 dX8_ofSwimmer_30 (by rw [h30_3]; decide) (by rw [h30_3]; decide) (by first | (rw [h30_3]; done) | (rw [h30_3]; rfl)) (by decide) ?_
        refine sm_aload_n X 80 0 dX8_ofSwimmer_79 rfl rfl rfl ?_
        refine sm_guard (fun hk10 => ?_)
        refine sm_geti X 83 hk10 fd_6_3 dX8_ofSwimmer_80 rfl q_70 ?_
        exact sm_iret X hr dX8_ofSwimmer_83 rfl
      refine sm_if (fun h30_4 => ?_) (fun h30_4 => ?_)
      · refine sm_table X 84 dX8_ofSwimmer_30 (by rw [h30_4]; decide) (by rw [h30_4]; decide) (by first | (rw [h30_4]; done) | (rw [h30_4]; rfl)) (by decide) ?_
        refine sm_aload_n X 85 0 dX8_ofSwimmer_84 rfl rfl rfl ?_
        refine sm_guard (fun hk10 => ?_)
        refine sm_geti X 88 hk10 fd_6_4 dX8_ofSwimmer_85 rfl q_72 ?_
        exact sm_iret X hr dX8_ofSwimmer_88 rfl
      have q0 : ¬ (a2).toInt = 0 := ne_toInt h30_0
      have q1 : ¬ (a2).toInt = 1 := ne_toInt h30_1
      have q2 : ¬ (a2).toInt = 2 := ne_toInt h30_2
      have q3 : ¬ (a2).toInt = 3 := ne_toInt h30_3
      have q4 : ¬ (a2).toInt = 4 := ne_toInt h30_4
      refine sm_tableD X 89 dX8_ofSwimmer_30 (by omega) (by decide) ?_
      refine sm_aload_n X 90 0 dX8_ofSwimmer_89 rfl rfl rfl ?_
      refine sm_iload_n X 91 3 dX8_ofSwimmer_90 rfl rfl rfl ?_
      refine sm_iconst X 92 (5) dX8_ofSwimmer_91 rfl rfl ?_
      refine sm_isub X 93 dX8_ofSwimmer_92 rfl ?_
      refine sm_guard (fun hk10 => ?_)
      refine sm_bind (fun r93 h93 => ?_)
      refine sm_callV0 X 96 [.int (a2 - (5 : Int32))] [] [.int r93] (c_X6_laneOf l G σ k10 hk10 (a2 - (5 : Int32)) r93 h93) cw_X6_laneOf q_396 q_397 q_395 hk10 (by decide) rfl rfl rfl rfl rfl (Nat.le_of_ble_eq_true rfl) ⟨Nat.le_of_ble_eq_true rfl, Nat.le_of_ble_eq_true rfl⟩ ⟨Nat.le_refl _, Nat.le_refl _⟩ dX8_ofSwimmer_93 rfl ?_
      exact sm_iret X hr dX8_ofSwimmer_96 rfl
def by_X8_train_0 : List Nat := [42, 180, 0, 10, 27, 182, 0, 99, 78, 45, 198, 0, 13, 28, 3, 16]
def by_X8_train_1 : List Nat := [30, 184, 0, 72, 153, 0, 9, 42, 4, 182, 0, 76, 172, 45, 180, 0]
def by_X8_train_z : List Nat := [116, 54, 4, 45, 28, 181, 0, 116, 21, 4, 172]
def by_X8_train : List (List Nat) := [by_X8_train_0, by_X8_train_1]
set_option maxRecDepth 100000 in
theorem byo_X8_train : cX8_train.data.toList.map UInt8.toNat = by_X8_train.flatten ++ by_X8_train_z := by decide +kernel
theorem byl_X8_train : by_X8_train.all (fun r => r.length == 16) = true := by decide +kernel
theorem byr_X8_train_0 {j v : Nat} (h : by_X8_train_0[j]? = some v) : RD cX8_train (0 + j) v := rd_16 byo_X8_train byl_X8_train 0 rfl h
theorem byr_X8_train_1 {j v : Nat} (h : by_X8_train_1[j]? = some v) : RD cX8_train (16 + j) v := rd_16 byo_X8_train byl_X8_train 1 rfl h
theorem byr_X8_train_2 {j v : Nat} (h : by_X8_train_z[j]? = some v) : RD cX8_train (32 + j) v := rd_z byo_X8_train byl_X8_train 2 rfl h
theorem dX8_train_0 : decode cX8_train 0 = .ok (.aload_n 0, 1) := dk_42 (byr_X8_train_0 (j := 0) rfl)
theorem dX8_train_1 : decode cX8_train 1 = .ok (.getfield 10, 3) := dk_180 (byr_X8_train_0 (j := 1) rfl) (byr_X8_train_0 (j := 2) rfl) (byr_X8_train_0 (j := 3) rfl) (by decide)
theorem dX8_train_4 : decode cX8_train 4 = .ok (.iload_n 1, 1) := dk_27 (byr_X8_train_0 (j := 4) rfl)
theorem dX8_train_5 : decode cX8_train 5 = .ok (.invokevirtual 99, 3) := dk_182 (byr_X8_train_0 (j := 5) rfl) (byr_X8_train_0 (j := 6) rfl) (byr_X8_train_0 (j := 7) rfl) (by decide)
theorem dX8_train_8 : decode cX8_train 8 = .ok (.astore_n 3, 1) := dk_78 (byr_X8_train_0 (j := 8) rfl)
theorem dX8_train_9 : decode cX8_train 9 = .ok (.aload_n 3, 1) := dk_45 (byr_X8_train_0 (j := 9) rfl)
theorem dX8_train_10 : decode cX8_train 10 = .ok (.ifnull 13, 3) := dk_198 (byr_X8_train_0 (j := 10) rfl) (byr_X8_train_0 (j := 11) rfl) (byr_X8_train_0 (j := 12) rfl) (by decide)
theorem dX8_train_13 : decode cX8_train 13 = .ok (.iload_n 2, 1) := dk_28 (byr_X8_train_0 (j := 13) rfl)
theorem dX8_train_14 : decode cX8_train 14 = .ok (.iconst 0, 1) := dk_3 (byr_X8_train_0 (j := 14) rfl)
theorem dX8_train_15 : decode cX8_train 15 = .ok (.bipush 30, 2) := dk_16 (byr_X8_train_0 (j := 15) rfl) (byr_X8_train_1 (j := 0) rfl) (by decide)
theorem dX8_train_17 : decode cX8_train 17 = .ok (.invokestatic 72, 3) := dk_184 (byr_X8_train_1 (j := 1) rfl) (byr_X8_train_1 (j := 2) rfl) (byr_X8_train_1 (j := 3) rfl) (by decide)
theorem dX8_train_20 : decode cX8_train 20 = .ok (.ifCond .eq 9, 3) := dk_153 (byr_X8_train_1 (j := 4) rfl) (byr_X8_train_1 (j := 5) rfl) (byr_X8_train_1 (j := 6) rfl) (by decide)
theorem dX8_train_23 : decode cX8_train 23 = .ok (.aload_n 0, 1) := dk_42 (byr_X8_train_1 (j := 7) rfl)
theorem dX8_train_24 : decode cX8_train 24 = .ok (.iconst 1, 1) := dk_4 (byr_X8_train_1 (j := 8) rfl)
theorem dX8_train_25 : decode cX8_train 25 = .ok (.invokevirtual 76, 3) := dk_182 (byr_X8_train_1 (j := 9) rfl) (byr_X8_train_1 (j := 10) rfl) (byr_X8_train_1 (j := 11) rfl) (by decide)
theorem dX8_train_28 : decode cX8_train 28 = .ok (.ireturn, 1) := dk_172 (byr_X8_train_1 (j := 12) rfl)
theorem dX8_train_29 : decode cX8_train 29 = .ok (.aload_n 3, 1) := dk_45 (byr_X8_train_1 (j := 13) rfl)
theorem dX8_train_30 : decode cX8_train 30 = .ok (.getfield 116, 3) := dk_180 (byr_X8_train_1 (j := 14) rfl) (byr_X8_train_1 (j := 15) rfl) (byr_X8_train_2 (j := 0) rfl) (by decide)
theorem dX8_train_33 : decode cX8_train 33 = .ok (.istore 4, 2) := dk_54 (byr_X8_train_2 (j := 1) rfl) (byr_X8_train_2 (j := 2) rfl)
theorem dX8_train_35 : decode cX8_train 35 = .ok (.aload_n 3, 1) := dk_45 (byr_X8_train_2 (j := 3) rfl)
theorem dX8_train_36 : decode cX8_train 36 = .ok (.iload_n 2, 1) := dk_28 (byr_X8_train_2 (j := 4) rfl)
theorem dX8_train_37 : decode cX8_train 37 = .ok (.putfield 116, 3) := dk_181 (byr_X8_train_2 (j := 5) rfl) (byr_X8_train_2 (j := 6) rfl) (byr_X8_train_2 (j := 7) rfl) (by decide)
theorem dX8_train_40 : decode cX8_train 40 = .ok (.iload 4, 2) := dk_21 (byr_X8_train_2 (j := 8) rfl) (byr_X8_train_2 (j := 9) rfl)
theorem dX8_train_42 : decode cX8_train 42 = .ok (.ireturn, 1) := dk_172 (byr_X8_train_2 (j := 10) rfl)
set_option maxHeartbeats 4000000 in
set_option maxRecDepth 100000 in
theorem c_X8_train (l : Launch) (G : GT) (σ : Sto) (a1 : Int32) (a2 : Int32) (r : (Int32 × Sto)) (h : f_X8_train σ a1 a2 = some r) : MW l G (4) (107) 0 0 yX8_train cX8_train 5 (Option.some Jvm.ClassFile.FieldType.int) [.ref (gad G 0), .int a1, .int a2] (wl G σ) (some (.int r.1)) (wl G r.2) := by
  refine mw_of RX8 (fiI G) [(0, .ref (gad G 0)), (1, .int a1), (2, .int a2)] (by decide +kernel) rfl (Nat.le_of_ble_eq_true rfl) rfl h rfl (fun p e s m args below meth c X hr hnm => ?_)
  unfold f_X8_train
  refine sm_aload_n X 1 0 dX8_train_0 rfl rfl rfl ?_
  refine sm_getf X 4 1 rfl fd_8_0 rfl dX8_train_1 rfl q_289 ?_
  refine sm_iload_n X 5 1 dX8_train_4 rfl rfl rfl ?_
  refine sm_bind (fun r5 h5 => ?_)
  refine sm_callV0 X 8 [.int a1] [] [va_re (gad G) r5] (c_X0_swimmerAt l G σ 1 rfl a1 r5 h5) cw_X0_swimmerAt q_376 q_377 q_375 rfl (by decide) rfl rfl rfl rfl rfl (Nat.le_of_ble_eq_true rfl) ⟨Nat.le_of_ble_eq_true rfl, Nat.le_of_ble_eq_true rfl⟩ ⟨Nat.le_refl _, Nat.le_refl _⟩ dX8_train_5 rfl ?_
  refine sm_astore_nq X 9 [(3, va_re (gad G) r5), (0, .ref (gad G 0)), (1, .int a1), (2, .int a2)] dX8_train_8 rfl rfl (by decide) rfl ?_
  refine sm_aload_nq X 10 0 dX8_train_9 rfl rfl rfl ?_
  refine sm_ifnull X 13 23 dX8_train_10 rfl (by decide) (fun hn => ?_) (fun k10 hn => ?_)
  · subst hn
    refine sm_aload_n X 24 1 dX8_train_23 rfl rfl rfl ?_
    refine sm_iconst X 25 (1) dX8_train_24 rfl rfl ?_
    refine sm_bind (fun r25 h25 => ?_)
    refine sm_callV0 X 28 [.int 1] [] [.int r25.1] (c_X8_refuse l G σ (1 : Int32) r25 h25) cw_X8_refuse q_332 qs_0 q_330 rfl (by decide) rfl rfl rfl rfl rfl (Nat.le_of_ble_eq_true rfl) ⟨Nat.le_of_ble_eq_true rfl, Nat.le_of_ble_eq_true rfl⟩ ⟨Nat.le_refl _, Nat.le_refl _⟩ dX8_train_25 rfl ?_
    exact sm_iret X hr dX8_train_28 rfl
  · subst hn
    refine sm_iload_n X 14 3 dX8_train_13 rfl rfl rfl ?_
    refine sm_iconst X 15 (0) dX8_train_14 rfl rfl ?_
    refine sm_bipush X 17 (30) dX8_train_15 rfl rfl ?_
    refine sm_bind (fun r17 h17 => ?_)
    refine sm_callS0 X 20 [.int a2, .int 0, .int 30] [] [.int (b2i r17)] (c_X8_isOutside l G σ a2 (0 : Int32) (30 : Int32) r17 h17) cw_X8_isOutside q_328 q_327 rfl rfl rfl (Nat.le_of_ble_eq_true rfl) ⟨Nat.le_of_ble_eq_true rfl, Nat.le_of_ble_eq_true rfl⟩ ⟨Nat.le_refl _, Nat.le_refl _⟩ dX8_train_17 rfl ?_
    refine sm_ifz_eq X 23 29 dX8_train_20 rfl (by decide) (fun h20 => ?_) (fun h20 => ?_)
    · refine sm_aload_n X 24 1 dX8_train_23 rfl rfl rfl ?_
      refine sm_iconst X 25 (1) dX8_train_24 rfl rfl ?_
      refine sm_bind (fun r25 h25 => ?_)
      refine sm_callV0 X 28 [.int 1] [] [.int r25.1] (c_X8_refuse l G σ (1 : Int32) r25 h25) cw_X8_refuse q_332 qs_0 q_330 rfl (by decide) rfl rfl rfl rfl rfl (Nat.le_of_ble_eq_true rfl) ⟨Nat.le_of_ble_eq_true rfl, Nat.le_of_ble_eq_true rfl⟩ ⟨Nat.le_refl _, Nat.le_refl _⟩ dX8_train_25 rfl ?_
      exact sm_iret X hr dX8_train_28 rfl
    · refine sm_aload_n X 30 0 dX8_train_29 rfl rfl rfl ?_
      refine sm_guard (fun hk10 => ?_)
      refine sm_geti X 33 hk10 fd_6_3 dX8_train_30 rfl q_70 ?_
      refine sm_istore X 35 [(4, .int (σ.1 k10 3)), (3, .ref (gad G k10)), (0, .ref (gad G 0)), (1, .int a1), (2, .int a2)] dX8_train_33 rfl (by decide) rfl ?_
      refine sm_aload_n X 36 1 dX8_train_35 rfl rfl rfl ?_
      refine sm_iload_n X 37 4 dX8_train_36 rfl rfl rfl ?_
      refine sm_puti X 40 .int hk10 fd_6_3 (by decide) rfl rfl rfl dX8_train_37 rfl q_70 (fun σ37 e37 => ?_)
      clear e37
      refine sm_iload X 42 0 dX8_train_40 rfl rfl ?_
      exact sm_iret X hr dX8_train_42 rfl
def by_X8_plan_0 : List Nat := [42, 180, 0, 10, 27, 182, 0, 99, 58, 4, 25, 4, 198, 0, 21, 28]
def by_X8_plan_1 : List Nat := [3, 6, 184, 0, 72, 154, 0, 12, 29, 3, 8, 184, 0, 72, 153, 0]
def by_X8_plan_2 : List Nat := [9, 42, 4, 182, 0, 76, 172, 25, 4, 180, 0, 125, 28, 46, 54, 5]
def by_X8_plan_z : List Nat := [25, 4, 180, 0, 125, 28, 29, 79, 21, 5, 172]
def by_X8_plan : List (List Nat) := [by_X8_plan_0, by_X8_plan_1, by_X8_plan_2]
set_option maxRecDepth 100000 in
theorem byo_X8_plan : cX8_plan.data.toList.map UInt8.toNat = by_X8_plan.flatten ++ by_X8_plan_z := by decide +kernel
theorem byl_X8_plan : by_X8_plan.all (fun r => r.length == 16) = true := by decide +kernel
theorem byr_X8_plan_0 {j v : Nat} (h : by_X8_plan_0[j]? = some v) : RD cX8_plan (0 + j) v := rd_16 byo_X8_plan byl_X8_plan 0 rfl h
theorem byr_X8_plan_1 {j v : Nat} (h : by_X8_plan_1[j]? = some v) : RD cX8_plan (16 + j) v := rd_16 byo_X8_plan byl_X8_plan 1 rfl h
theorem byr_X8_plan_2 {j v : Nat} (h : by_X8_plan_2[j]? = some v) : RD cX8_plan (32 + j) v := rd_16 byo_X8_plan byl_X8_plan 2 rfl h
theorem byr_X8_plan_3 {j v : Nat} (h : by_X8_plan_z[j]? = some v) : RD cX8_plan (48 + j) v := rd_z byo_X8_plan byl_X8_plan 3 rfl h
theorem dX8_plan_0 : decode cX8_plan 0 = .ok (.aload_n 0, 1) := dk_42 (byr_X8_plan_0 (j := 0) rfl)
theorem dX8_plan_1 : decode cX8_plan 1 = .ok (.getfield 10, 3) := dk_180 (byr_X8_plan_0 (j := 1) rfl) (byr_X8_plan_0 (j := 2) rfl) (byr_X8_plan_0 (j := 3) rfl) (by decide)
theorem dX8_plan_4 : decode cX8_plan 4 = .ok (.iload_n 1, 1) := dk_27 (byr_X8_plan_0 (j := 4) rfl)
theorem dX8_plan_5 : decode cX8_plan 5 = .ok (.invokevirtual 99, 3) := dk_182 (byr_X8_plan_0 (j := 5) rfl) (byr_X8_plan_0 (j := 6) rfl) (byr_X8_plan_0 (j := 7) rfl) (by decide)
theorem dX8_plan_8 : decode cX8_plan 8 = .ok (.astore 4, 2) := dk_58 (byr_X8_plan_0 (j := 8) rfl) (byr_X8_plan_0 (j := 9) rfl)
theorem dX8_plan_10 : decode cX8_plan 10 = .ok (.aload 4, 2) := dk_25 (byr_X8_plan_0 (j := 10) rfl) (byr_X8_plan_0 (j := 11) rfl)
theorem dX8_plan_12 : decode cX8_plan 12 = .ok (.ifnull 21, 3) := dk_198 (byr_X8_plan_0 (j := 12) rfl) (byr_X8_plan_0 (j := 13) rfl) (byr_X8_plan_0 (j := 14) rfl) (by decide)
theorem dX8_plan_15 : decode cX8_plan 15 = .ok (.iload_n 2, 1) := dk_28 (byr_X8_plan_0 (j := 15) rfl)
theorem dX8_plan_16 : decode cX8_plan 16 = .ok (.iconst 0, 1) := dk_3 (byr_X8_plan_1 (j := 0) rfl)
theorem dX8_plan_17 : decode cX8_plan 17 = .ok (.iconst 3, 1) := dk_6 (byr_X8_plan_1 (j := 1) rfl)
theorem dX8_plan_18 : decode cX8_plan 18 = .ok (.invokestatic 72, 3) := dk_184 (byr_X8_plan_1 (j := 2) rfl) (byr_X8_plan_1 (j := 3) rfl) (byr_X8_plan_1 (j := 4) rfl) (by decide)
theorem dX8_plan_21 : decode cX8_plan 21 = .ok (.ifCond .ne 12, 3) := dk_154 (byr_X8_plan_1 (j := 5) rfl) (byr_X8_plan_1 (j := 6) rfl) (byr_X8_plan_1 (j := 7) rfl) (by decide)
theorem dX8_plan_24 : decode cX8_plan 24 = .ok (.iload_n 3, 1) := dk_29 (byr_X8_plan_1 (j := 8) rfl)
theorem dX8_plan_25 : decode cX8_plan 25 = .ok (.iconst 0, 1) := dk_3 (byr_X8_plan_1 (j := 9) rfl)
theorem dX8_plan_26 : decode cX8_plan 26 = .ok (.iconst 5, 1) := dk_8 (byr_X8_plan_1 (j := 10) rfl)
theorem dX8_plan_27 : decode cX8_plan 27 = .ok (.invokestatic 72, 3) := dk_184 (byr_X8_plan_1 (j := 11) rfl) (byr_X8_plan_1 (j := 12) rfl) (byr_X8_plan_1 (j := 13) rfl) (by decide)
theorem dX8_plan_30 : decode cX8_plan 30 = .ok (.ifCond .eq 9, 3) := dk_153 (byr_X8_plan_1 (j := 14) rfl) (byr_X8_plan_1 (j := 15) rfl) (byr_X8_plan_2 (j := 0) rfl) (by decide)
theorem dX8_plan_33 : decode cX8_plan 33 = .ok (.aload_n 0, 1) := dk_42 (byr_X8_plan_2 (j := 1) rfl)
theorem dX8_plan_34 : decode cX8_plan 34 = .ok (.iconst 1, 1) := dk_4 (byr_X8_plan_2 (j := 2) rfl)
theorem dX8_plan_35 : decode cX8_plan 35 = .ok (.invokevirtual 76, 3) := dk_182 (byr_X8_plan_2 (j := 3) rfl) (byr_X8_plan_2 (j := 4) rfl) (byr_X8_plan_2 (j := 5) rfl) (by decide)
theorem dX8_plan_38 : decode cX8_plan 38 = .ok (.ireturn, 1) := dk_172 (byr_X8_plan_2 (j := 6) rfl)
theorem dX8_plan_39 : decode cX8_plan 39 = .ok (.aload 4, 2) := dk_25 (byr_X8_plan_2 (j := 7) rfl) (byr_X8_plan_2 (j := 8) rfl)
theorem dX8_plan_41 : decode cX8_plan 41 = .ok (.getfield 125, 3) := dk_180 (byr_X8_plan_2 (j := 9) rfl) (byr_X8_plan_2 (j := 10) rfl) (byr_X8_plan_2 (j := 11) rfl) (by decide)
theorem dX8_plan_44 : decode cX8_plan 44 = .ok (.iload_n 2, 1) := dk_28 (byr_X8_plan_2 (j := 12) rfl)
theorem dX8_plan_45 : decode cX8_plan 45 = .ok (.iaload, 1) := dk_46 (byr_X8_plan_2 (j := 13) rfl)
theorem dX8_plan_46 : decode cX8_plan 46 = .ok (.istore 5, 2) := dk_54 (byr_X8_plan_2 (j := 14) rfl) (byr_X8_plan_2 (j := 15) rfl)
theorem dX8_plan_48 : decode cX8_plan 48 = .ok (.aload 4, 2) := dk_25 (byr_X8_plan_3 (j := 0) rfl) (byr_X8_plan_3 (j := 1) rfl)
theorem dX8_plan_50 : decode cX8_plan 50 = .ok (.getfield 125, 3) := dk_180 (byr_X8_plan_3 (j := 2) rfl) (byr_X8_plan_3 (j := 3) rfl) (byr_X8_plan_3 (j := 4) rfl) (by decide)
theorem dX8_plan_53 : decode cX8_plan 53 = .ok (.iload_n 2, 1) := dk_28 (byr_X8_plan_3 (j := 5) rfl)
theorem dX8_plan_54 : decode cX8_plan 54 = .ok (.iload_n 3, 1) := dk_29 (byr_X8_plan_3 (j := 6) rfl)
theorem dX8_plan_55 : decode cX8_plan 55 = .ok (.iastore, 1) := dk_79 (byr_X8_plan_3 (j := 7) rfl)
theorem dX8_plan_56 : decode cX8_plan 56 = .ok (.iload 5, 2) := dk_21 (byr_X8_plan_3 (j := 8) rfl) (byr_X8_plan_3 (j := 9) rfl)
theorem dX8_plan_58 : decode cX8_plan 58 = .ok (.ireturn, 1) := dk_172 (byr_X8_plan_3 (j := 10) rfl)
set_option maxHeartbeats 4000000 in
set_option maxRecDepth 100000 in
theorem c_X8_plan (l : Launch) (G : GT) (σ : Sto) (a1 : Int32) (a2 : Int32) (a3 : Int32) (r : (Int32 × Sto)) (h : f_X8_plan σ a1 a2 a3 = some r) : MW l G (4) (107) 0 0 yX8_plan cX8_plan 6 (Option.some Jvm.ClassFile.FieldType.int) [.ref (gad G 0), .int a1, .int a2, .int a3] (wl G σ) (some (.int r.1)) (wl G r.2) := by
  refine mw_of RX8 (fiI G) [(0, .ref (gad G 0)), (1, .int a1), (2, .int a2), (3, .int a3)] (by decide +kernel) rfl (Nat.le_of_ble_eq_true rfl) rfl h rfl (fun p e s m args below meth c X hr hnm => ?_)
  unfold f_X8_plan
  refine sm_aload_n X 1 0 dX8_plan_0 rfl rfl rfl ?_
  refine sm_getf X 4 1 rfl fd_8_0 rfl dX8_plan_1 rfl q_289 ?_
  refine sm_iload_n X 5 1 dX8_plan_4 rfl rfl rfl ?_
  refine sm_bind (fun r5 h5 => ?_)
  refine sm_callV0 X 8 [.int a1] [] [va_re (gad G) r5] (c_X0_swimmerAt l G σ 1 rfl a1 r5 h5) cw_X0_swimmerAt q_376 q_377 q_375 rfl (by decide) rfl rfl rfl rfl rfl (Nat.le_of_ble_eq_true rfl) ⟨Nat.le_of_ble_eq_true rfl, Nat.le_of_ble_eq_true rfl⟩ ⟨Nat.le_refl _, Nat.le_refl _⟩ dX8_plan_5 rfl ?_
  refine sm_astoreq X 10 [(4, va_re (gad G) r5), (0, .ref (gad G 0)), (1, .int a1), (2, .int a2), (3, .int a3)] dX8_plan_8 rfl (by decide) rfl ?_
  refine sm_aloadq X 12 0 dX8_plan_10 rfl rfl ?_
  refine sm_ifnull X 15 33 dX8_plan_12 rfl (by decide) (fun hn => ?_) (fun k12 hn => ?_)
  · subst hn
    refine sm_aload_n X 34 1 dX8_plan_33 rfl rfl rfl ?_
    refine sm_iconst X 35 (1) dX8_plan_34 rfl rfl ?_
    refine sm_bind (fun r35 h35 => ?_)
    refine sm_callV0 X 38 [.int 1] [] [.int r35.1] (c_X8_refuse l G σ (1 : Int32) r35 h35) cw_X8_refuse q_332 qs_0 q_330 rfl (by decide) rfl rfl rfl rfl rfl (Nat.le_of_ble_eq_true rfl) ⟨Nat.le_of_ble_eq_true rfl, Nat.le_of_ble_eq_true rfl⟩ ⟨Nat.le_refl _, Nat.le_refl _⟩ dX8_plan_35 rfl ?_
    exact sm_iret X hr dX8_plan_38 rfl
  · subst hn
    refine sm_iload_n X 16 3 dX8_plan_15 rfl rfl rfl ?_
    refine sm_iconst X 17 (0) dX8_plan_16 rfl rfl ?_
    refine sm_iconst X 18 (3) dX8_plan_17 rfl rfl ?_
    refine sm_bind (fun r18 h18 => ?_)
    refine sm_callS0 X 21 [.int a2, .int 0, .int 3] [] [.int (b2i r18)] (c_X8_isOutside l G σ a2 (0 : Int32) (3 : Int32) r18 h18) cw_X8_isOutside q_328 q_327 rfl rfl rfl (Nat.le_of_ble_eq_true rfl) ⟨Nat.le_of_ble_eq_true rfl, Nat.le_of_ble_eq_true rfl⟩ ⟨Nat.le_refl _, Nat.le_refl _⟩ dX8_plan_18 rfl ?_
    refine sm_ifz_ne X 24 33 dX8_plan_21 rfl (by decide) (fun h21 => ?_) (fun h21 => ?_)
    · refine sm_aload_n X 34 1 dX8_plan_33 rfl rfl rfl ?_
      refine sm_iconst X 35 (1) dX8_plan_34 rfl rfl ?_
      refine sm_bind (fun r35 h35 => ?_)
      refine sm_callV0 X 38 [.int 1] [] [.int r35.1] (c_X8_refuse l G σ (1 : Int32) r35 h35) cw_X8_refuse q_332 qs_0 q_330 rfl (by decide) rfl rfl rfl rfl rfl (Nat.le_of_ble_eq_true rfl) ⟨Nat.le_of_ble_eq_true rfl, Nat.le_of_ble_eq_true rfl⟩ ⟨Nat.le_refl _, Nat.le_refl _⟩ dX8_plan_35 rfl ?_
      exact sm_iret X hr dX8_plan_38 rfl
    · refine sm_iload_n X 25 4 dX8_plan_24 rfl rfl rfl ?_
      refine sm_iconst X 26 (0) dX8_plan_25 rfl rfl ?_
      refine sm_iconst X 27 (5) dX8_plan_26 rfl rfl ?_
      refine sm_bind (fun r27 h27 => ?_)
      refine sm_callS0 X 30 [.int a3, .int 0, .int 5] [] [.int (b2i r27)] (c_X8_isOutside l G σ a3 (0 : Int32) (5 : Int32) r27 h27) cw_X8_isOutside q_328 q_327 rfl rfl rfl (Nat.le_of_ble_eq_true rfl) ⟨Nat.le_of_ble_eq_true rfl, Nat.le_of_ble_eq_true rfl⟩ ⟨Nat.le_refl _, Nat.le_refl _⟩ dX8_plan_27 rfl ?_
      refine sm_ifz_eq X 33 39 dX8_plan_30 rfl (by decide) (fun h30 => ?_) (fun h30 => ?_)
      · refine sm_aload_n X 34 1 dX8_plan_33 rfl rfl rfl ?_
        refine sm_iconst X 35 (1) dX8_plan_34 rfl rfl ?_
        refine sm_bind (fun r35 h35 => ?_)
        refine sm_callV0 X 38 [.int 1] [] [.int r35.1] (c_X8_refuse l G σ (1 : Int32) r35 h35) cw_X8_refuse q_332 qs_0 q_330 rfl (by decide) rfl rfl rfl rfl rfl (Nat.le_of_ble_eq_true rfl) ⟨Nat.le_of_ble_eq_true rfl, Nat.le_of_ble_eq_true rfl⟩ ⟨Nat.le_refl _, Nat.le_refl _⟩ dX8_plan_35 rfl ?_
        exact sm_iret X hr dX8_plan_38 rfl
      · refine sm_aload X 41 0 dX8_plan_39 rfl rfl ?_
        refine sm_guard (fun hk12 => ?_)
        refine sm_getf X 44 (A0 k12 5) hk12 fd_6_5 (fr_6_5 hk12).1 dX8_plan_41 rfl q_75 ?_
        refine sm_iload_n X 45 3 dX8_plan_44 rfl rfl rfl ?_
        refine sm_iald X 46 ((fr_6_5 hk12).2.1) dX8_plan_45 rfl (fun r45 e45 => ?_)
        clear e45
        refine sm_istore X 48 [(5, .int r45), (4, .ref (gad G k12)), (0, .ref (gad G 0)), (1, .int a1), (2, .int a2), (3, .int a3)] dX8_plan_46 rfl (by decide) rfl ?_
        refine sm_aload X 50 1 dX8_plan_48 rfl rfl ?_
        refine sm_getf X 53 (A0 k12 5) hk12 fd_6_5 (fr_6_5 hk12).1 dX8_plan_50 rfl q_75 ?_
        refine sm_iload_n X 54 4 dX8_plan_53 rfl rfl rfl ?_
        refine sm_iload_n X 55 5 dX8_plan_54 rfl rfl rfl ?_
        refine sm_iast X 56 ((fr_6_5 hk12).2.1) dX8_plan_55 rfl (fun σ55 e55 => ?_)
        clear e55
        refine sm_iload X 58 0 dX8_plan_56 rfl rfl ?_
        exact sm_iret X hr dX8_plan_58 rfl
def by_X8_become_0 : List Nat := [42, 180, 0, 10, 27, 182, 0, 99, 78, 45, 198, 0, 13, 28, 3, 16]
def by_X8_become_1 : List Nat := [69, 184, 0, 72, 153, 0, 9, 42, 4, 182, 0, 76, 172, 45, 180, 0]
def by_X8_become_z : List Nat := [107, 54, 4, 45, 28, 182, 0, 128, 21, 4, 172]
def by_X8_become : List (List Nat) := [by_X8_become_0, by_X8_become_1]
set_option maxRecDepth 100000 in
theorem byo_X8_become : cX8_become.data.toList.map UInt8.toNat = by_X8_become.flatten ++ by_X8_become_z := by decide +kernel
theorem byl_X8_become : by_X8_become.all (fun r => r.length == 16) = true := by decide +kernel
theorem byr_X8_become_0 {j v : Nat} (h : by_X8_become_0[j]? = some v) : RD cX8_become (0 + j) v := rd_16 byo_X8_become byl_X8_become 0 rfl h
theorem byr_X8_become_1 {j v : Nat} (h : by_X8_become_1[j]? = some v) : RD cX8_become (16 + j) v := rd_16 byo_X8_become byl_X8_become 1 rfl h
theorem byr_X8_become_2 {j v : Nat} (h : by_X8_become_z[j]? = some v) : RD cX8_become (32 + j) v := rd_z byo_X8_become byl_X8_become 2 rfl h
theorem dX8_become_0 : decode cX8_become 0 = .ok (.aload_n 0, 1) := dk_42 (byr_X8_become_0 (j := 0) rfl)
theorem dX8_become_1 : decode cX8_become 1 = .ok (.getfield 10, 3) := dk_180 (byr_X8_become_0 (j := 1) rfl) (byr_X8_become_0 (j := 2) rfl) (byr_X8_become_0 (j := 3) rfl) (by decide)
theorem dX8_become_4 : decode cX8_become 4 = .ok (.iload_n 1, 1) := dk_27 (byr_X8_become_0 (j := 4) rfl)
theorem dX8_become_5 : decode cX8_become 5 = .ok (.invokevirtual 99, 3) := dk_182 (byr_X8_become_0 (j := 5) rfl) (byr_X8_become_0 (j := 6) rfl) (byr_X8_become_0 (j := 7) rfl) (by decide)
theorem dX8_become_8 : decode cX8_become 8 = .ok (.astore_n 3, 1) := dk_78 (byr_X8_become_0 (j := 8) rfl)
theorem dX8_become_9 : decode cX8_become 9 = .ok (.aload_n 3, 1) := dk_45 (byr_X8_become_0 (j := 9) rfl)
theorem dX8_become_10 : decode cX8_become 10 = .ok (.ifnull 13, 3) := dk_198 (byr_X8_become_0 (j := 10) rfl) (byr_X8_become_0 (j := 11) rfl) (byr_X8_become_0 (j := 12) rfl) (by decide)
theorem dX8_become_13 : decode cX8_become 13 = .ok (.iload_n 2, 1) := dk_28 (byr_X8_become_0 (j := 13) rfl)
theorem dX8_become_14 : decode cX8_become 14 = .ok (.iconst 0, 1) := dk_3 (byr_X8_become_0 (j := 14) rfl)
theorem dX8_become_15 : decode cX8_become 15 = .ok (.bipush 69, 2) := dk_16 (byr_X8_become_0 (j := 15) rfl) (byr_X8_become_1 (j := 0) rfl) (by decide)
theorem dX8_become_17 : decode cX8_become 17 = .ok (.invokestatic 72, 3) := dk_184 (byr_X8_become_1 (j := 1) rfl) (byr_X8_become_1 (j := 2) rfl) (byr_X8_become_1 (j := 3) rfl) (by decide)
theorem dX8_become_20 : decode cX8_become 20 = .ok (.ifCond .eq 9, 3) := dk_153 (byr_X8_become_1 (j := 4) rfl) (byr_X8_become_1 (j := 5) rfl) (byr_X8_become_1 (j := 6) rfl) (by decide)
theorem dX8_become_23 : decode cX8_become 23 = .ok (.aload_n 0, 1) := dk_42 (byr_X8_become_1 (j := 7) rfl)
theorem dX8_become_24 : decode cX8_become 24 = .ok (.iconst 1, 1) := dk_4 (byr_X8_become_1 (j := 8) rfl)
theorem dX8_become_25 : decode cX8_become 25 = .ok (.invokevirtual 76, 3) := dk_182 (byr_X8_become_1 (j := 9) rfl) (byr_X8_become_1 (j := 10) rfl) (byr_X8_become_1 (j := 11) rfl) (by decide)
theorem dX8_become_28 : decode cX8_become 28 = .ok (.ireturn, 1) := dk_172 (byr_X8_become_1 (j := 12) rfl)
theorem dX8_become_29 : decode cX8_become 29 = .ok (.aload_n 3, 1) := dk_45 (byr_X8_become_1 (j := 13) rfl)
theorem dX8_become_30 : decode cX8_become 30 = .ok (.getfield 107, 3) := dk_180 (byr_X8_become_1 (j := 14) rfl) (byr_X8_become_1 (j := 15) rfl) (byr_X8_become_2 (j := 0) rfl) (by decide)
theorem dX8_become_33 : decode cX8_become 33 = .ok (.istore 4, 2) := dk_54 (byr_X8_become_2 (j := 1) rfl) (byr_X8_become_2 (j := 2) rfl)
theorem dX8_become_35 : decode cX8_become 35 = .ok (.aload_n 3, 1) := dk_45 (byr_X8_become_2 (j := 3) rfl)
theorem dX8_become_36 : decode cX8_become 36 = .ok (.iload_n 2, 1) := dk_28 (byr_X8_become_2 (j := 4) rfl)
theorem dX8_become_37 : decode cX8_become 37 = .ok (.invokevirtual 128, 3) := dk_182 (byr_X8_become_2 (j := 5) rfl) (byr_X8_become_2 (j := 6) rfl) (byr_X8_become_2 (j := 7) rfl) (by decide)
theorem dX8_become_40 : decode cX8_become 40 = .ok (.iload 4, 2) := dk_21 (byr_X8_become_2 (j := 8) rfl) (byr_X8_become_2 (j := 9) rfl)
theorem dX8_become_42 : decode cX8_become 42 = .ok (.ireturn, 1) := dk_172 (byr_X8_become_2 (j := 10) rfl)
set_option maxHeartbeats 4000000 in
set_option maxRecDepth 100000 in
theorem c_X8_become (l : Launch) (G : GT) (σ : Sto) (a1 : Int32) (a2 : Int32) (r : (Int32 × Sto)) (h : f_X8_become σ a1 a2 = some r) : MW l G (4) (107) 0 0 yX8_become cX8_become 5 (Option.some Jvm.ClassFile.FieldType.int) [.ref (gad G 0), .int a1, .int a2] (wl G σ) (some (.int r.1)) (wl G r.2) := by
  refine mw_of RX8 (fiI G) [(0, .ref (gad G 0)), (1, .int a1), (2, .int a2)] (by decide +kernel) rfl (Nat.le_of_ble_eq_true rfl) rfl h rfl (fun p e s m args below meth c X hr hnm => ?_)
  unfold f_X8_become
  refine sm_aload_n X 1 0 dX8_become_0 rfl rfl rfl ?_
  refine sm_getf X 4 1 rfl fd_8_0 rfl dX8_become_1 rfl q_289 ?_
  refine sm_iload_n X 5 1 dX8_become_4 rfl rfl rfl ?_
  refine sm_bind (fun r5 h5 => ?_)
  refine sm_callV0 X 8 [.int a1] [] [va_re (gad G) r5] (c_X0_swimmerAt l G σ 1 rfl a1 r5 h5) cw_X0_swimmerAt q_376 q_377 q_375 rfl (by decide) rfl rfl rfl rfl rfl (Nat.le_of_ble_eq_true rfl) ⟨Nat.le_of_ble_eq_true rfl, Nat.le_of_ble_eq_true rfl⟩ ⟨Nat.le_refl _, Nat.le_refl _⟩ dX8_become_5 rfl ?_
  refine sm_astore_nq X 9 [(3, va_re (gad G) r5), (0, .ref (gad G 0)), (1, .int a1), (2, .int a2)] dX8_become_8 rfl rfl (by decide) rfl ?_
  refine sm_aload_nq X 10 0 dX8_become_9 rfl rfl rfl ?_
  refine sm_ifnull X 13 23 dX8_become_10 rfl (by decide) (fun hn => ?_) (fun k10 hn => ?_)
  · subst hn
    refine sm_aload_n X 24 1 dX8_become_23 rfl rfl rfl ?_
    refine sm_iconst X 25 (1) dX8_become_24 rfl rfl ?_
    refine sm_bind (fun r25 h25 => ?_)
    refine sm_callV0 X 28 [.int 1] [] [.int r25.1] (c_X8_refuse l G σ (1 : Int32) r25 h25) cw_X8_refuse q_332 qs_0 q_330 rfl (by decide) rfl rfl rfl rfl rfl (Nat.le_of_ble_eq_true rfl) ⟨Nat.le_of_ble_eq_true rfl, Nat.le_of_ble_eq_true rfl⟩ ⟨Nat.le_refl _, Nat.le_refl _⟩ dX8_become_25 rfl ?_
    exact sm_iret X hr dX8_become_28 rfl
  · subst hn
    refine sm_iload_n X 14 3 dX8_become_13 rfl rfl rfl ?_
    refine sm_iconst X 15 (0) dX8_become_14 rfl rfl ?_
    refine sm_bipush X 17 (69) dX8_become_15 rfl rfl ?_
    refine sm_bind (fun r17 h17 => ?_)
    refine sm_callS0 X 20 [.int a2, .int 0, .int 69] [] [.int (b2i r17)] (c_X8_isOutside l G σ a2 (0 : Int32) (69 : Int32) r17 h17) cw_X8_isOutside q_328 q_327 rfl rfl rfl (Nat.le_of_ble_eq_true rfl) ⟨Nat.le_of_ble_eq_true rfl, Nat.le_of_ble_eq_true rfl⟩ ⟨Nat.le_refl _, Nat.le_refl _⟩ dX8_become_17 rfl ?_
    refine sm_ifz_eq X 23 29 dX8_become_20 rfl (by decide) (fun h20 => ?_) (fun h20 => ?_)
    · refine sm_aload_n X 24 1 dX8_become_23 rfl rfl rfl ?_
      refine sm_iconst X 25 (1) dX8_become_24 rfl rfl ?_
      refine sm_bind (fun r25 h25 => ?_)
      refine sm_callV0 X 28 [.int 1] [] [.int r25.1] (c_X8_refuse l G σ (1 : Int32) r25 h25) cw_X8_refuse q_332 qs_0 q_330 rfl (by decide) rfl rfl rfl rfl rfl (Nat.le_of_ble_eq_true rfl) ⟨Nat.le_of_ble_eq_true rfl, Nat.le_of_ble_eq_true rfl⟩ ⟨Nat.le_refl _, Nat.le_refl _⟩ dX8_become_25 rfl ?_
      exact sm_iret X hr dX8_become_28 rfl
    · refine sm_aload_n X 30 0 dX8_become_29 rfl rfl rfl ?_
      refine sm_guard (fun hk10 => ?_)
      refine sm_geti X 33 hk10 fd_6_0 dX8_become_30 rfl q_61 ?_
      refine sm_istore X 35 [(4, .int (σ.1 k10 0)), (3, .ref (gad G k10)), (0, .ref (gad G 0)), (1, .int a1), (2, .int a2)] dX8_become_33 rfl (by decide) rfl ?_
      refine sm_aload_n X 36 1 dX8_become_35 rfl rfl rfl ?_
      refine sm_iload_n X 37 4 dX8_become_36 rfl rfl rfl ?_
      refine sm_bind (fun r37 h37 => ?_)
      refine sm_callV0 X 40 [.int a2] [] [] (c_X6_turnInto l G σ k10 hk10 a2 r37 h37) cw_X6_turnInto q_384 q_385 q_411 hk10 (by decide) rfl rfl rfl rfl rfl (Nat.le_of_ble_eq_true rfl) ⟨Nat.le_of_ble_eq_true rfl, Nat.le_of_ble_eq_true rfl⟩ ⟨Nat.le_refl _, Nat.le_refl _⟩ dX8_become_37 rfl ?_
      refine sm_iload X 42 0 dX8_become_40 rfl rfl ?_
      exact sm_iret X hr dX8_become_42 rfl
def by_X8_isUnder_0 : List Nat := [26, 61, 3, 62, 29, 16, 7, 162, 0, 32, 28, 3, 16, 6, 184, 0]
def by_X8_isUnder_1 : List Nat := [72, 154, 0, 22, 28, 27, 160, 0, 5, 4, 172, 178, 1, 64, 28, 46]
def by_X8_isUnder_z : List Nat := [61, 132, 3, 1, 167, 255, 224, 3, 172]
def by_X8_isUnder : List (List Nat) := [by_X8_isUnder_0, by_X8_isUnder_1]
set_option maxRecDepth 100000 in
theorem byo_X8_isUnder : cX8_isUnder.data.toList.map UInt8.toNat = by_X8_isUnder.flatten ++ by_X8_isUnder_z := by decide +kernel
theorem byl_X8_isUnder : by_X8_isUnder.all (fun r => r.length == 16) = true := by decide +kernel
theorem byr_X8_isUnder_0 {j v : Nat} (h : by_X8_isUnder_0[j]? = some v) : RD cX8_isUnder (0 + j) v := rd_16 byo_X8_isUnder byl_X8_isUnder 0 rfl h
theorem byr_X8_isUnder_1 {j v : Nat} (h : by_X8_isUnder_1[j]? = some v) : RD cX8_isUnder (16 + j) v := rd_16 byo_X8_isUnder byl_X8_isUnder 1 rfl h
theorem byr_X8_isUnder_2 {j v : Nat} (h : by_X8_isUnder_z[j]? = some v) : RD cX8_isUnder (32 + j) v := rd_z byo_X8_isUnder byl_X8_isUnder 2 rfl h
theorem dX8_isUnder_0 : decode cX8_isUnder 0 = .ok (.iload_n 0, 1) := dk_26 (byr_X8_isUnder_0 (j := 0) rfl)
theorem dX8_isUnder_1 : decode cX8_isUnder 1 = .ok (.istore_n 2, 1) := dk_61 (byr_X8_isUnder_0 (j := 1) rfl)
theorem dX8_isUnder_2 : decode cX8_isUnder 2 = .ok (.iconst 0, 1) := dk_3 (byr_X8_isUnder_0 (j := 2) rfl)
theorem dX8_isUnder_3 : decode cX8_isUnder 3 = .ok (.istore_n 3, 1) := dk_62 (byr_X8_isUnder_0 (j := 3) rfl)
theorem dX8_isUnder_4 : decode cX8_isUnder 4 = .ok (.iload_n 3, 1) := dk_29 (byr_X8_isUnder_0 (j := 4) rfl)
theorem dX8_isUnder_5 : decode cX8_isUnder 5 = .ok (.bipush 7, 2) := dk_16 (byr_X8_isUnder_0 (j := 5) rfl) (byr_X8_isUnder_0 (j := 6) rfl) (by decide)
theorem dX8_isUnder_7 : decode cX8_isUnder 7 = .ok (.if_icmp .ge 32, 3) := dk_162 (byr_X8_isUnder_0 (j := 7) rfl) (byr_X8_isUnder_0 (j := 8) rfl) (byr_X8_isUnder_0 (j := 9) rfl) (by decide)
theorem dX8_isUnder_10 : decode cX8_isUnder 10 = .ok (.iload_n 2, 1) := dk_28 (byr_X8_isUnder_0 (j := 10) rfl)
theorem dX8_isUnder_11 : decode cX8_isUnder 11 = .ok (.iconst 0, 1) := dk_3 (byr_X8_isUnder_0 (j := 11) rfl)
theorem dX8_isUnder_12 : decode cX8_isUnder 12 = .ok (.bipush 6, 2) := dk_16 (byr_X8_isUnder_0 (j := 12) rfl) (byr_X8_isUnder_0 (j := 13) rfl) (by decide)
theorem dX8_isUnder_14 : decode cX8_isUnder 14 = .ok (.invokestatic 72, 3) := dk_184 (byr_X8_isUnder_0 (j := 14) rfl) (byr_X8_isUnder_0 (j := 15) rfl) (byr_X8_isUnder_1 (j := 0) rfl) (by decide)
theorem dX8_isUnder_17 : decode cX8_isUnder 17 = .ok (.ifCond .ne 22, 3) := dk_154 (byr_X8_isUnder_1 (j := 1) rfl) (byr_X8_isUnder_1 (j := 2) rfl) (byr_X8_isUnder_1 (j := 3) rfl) (by decide)
theorem dX8_isUnder_20 : decode cX8_isUnder 20 = .ok (.iload_n 2, 1) := dk_28 (byr_X8_isUnder_1 (j := 4) rfl)
theorem dX8_isUnder_21 : decode cX8_isUnder 21 = .ok (.iload_n 1, 1) := dk_27 (byr_X8_isUnder_1 (j := 5) rfl)
theorem dX8_isUnder_22 : decode cX8_isUnder 22 = .ok (.if_icmp .ne 5, 3) := dk_160 (byr_X8_isUnder_1 (j := 6) rfl) (byr_X8_isUnder_1 (j := 7) rfl) (byr_X8_isUnder_1 (j := 8) rfl) (by decide)
theorem dX8_isUnder_25 : decode cX8_isUnder 25 = .ok (.iconst 1, 1) := dk_4 (byr_X8_isUnder_1 (j := 9) rfl)
theorem dX8_isUnder_26 : decode cX8_isUnder 26 = .ok (.ireturn, 1) := dk_172 (byr_X8_isUnder_1 (j := 10) rfl)
theorem dX8_isUnder_27 : decode cX8_isUnder 27 = .ok (.getstatic 320, 3) := dk_178 (byr_X8_isUnder_1 (j := 11) rfl) (byr_X8_isUnder_1 (j := 12) rfl) (byr_X8_isUnder_1 (j := 13) rfl) (by decide)
theorem dX8_isUnder_30 : decode cX8_isUnder 30 = .ok (.iload_n 2, 1) := dk_28 (byr_X8_isUnder_1 (j := 14) rfl)
theorem dX8_isUnder_31 : decode cX8_isUnder 31 = .ok (.iaload, 1) := dk_46 (byr_X8_isUnder_1 (j := 15) rfl)
theorem dX8_isUnder_32 : decode cX8_isUnder 32 = .ok (.istore_n 2, 1) := dk_61 (byr_X8_isUnder_2 (j := 0) rfl)
theorem dX8_isUnder_33 : decode cX8_isUnder 33 = .ok (.iinc 3 1, 3) := dk_132 (byr_X8_isUnder_2 (j := 1) rfl) (byr_X8_isUnder_2 (j := 2) rfl) (byr_X8_isUnder_2 (j := 3) rfl) (by decide)
theorem dX8_isUnder_36 : decode cX8_isUnder 36 = .ok (.goto (-32), 3) := dk_167 (byr_X8_isUnder_2 (j := 4) rfl) (byr_X8_isUnder_2 (j := 5) rfl) (byr_X8_isUnder_2 (j := 6) rfl) (by decide)
theorem dX8_isUnder_39 : decode cX8_isUnder 39 = .ok (.iconst 0, 1) := dk_3 (byr_X8_isUnder_2 (j := 7) rfl)
theorem dX8_isUnder_40 : decode cX8_isUnder 40 = .ok (.ireturn, 1) := dk_172 (byr_X8_isUnder_2 (j := 8) rfl)
set_option maxHeartbeats 4000000 in
set_option maxRecDepth 100000 in
theorem c_X8_isUnder (l : Launch) (G : GT) (σ : Sto) (a0 : Int32) (a1 : Int32) (r : Bool) (h : f_X8_isUnder σ a0 a1 = some r) : MW l G (3) (86) 0 0 yX8_isUnder cX8_isUnder 4 (Option.some Jvm.ClassFile.FieldType.boolean) [.int a0, .int a1] (wl G σ) (some (.int (b2i r))) (wl G σ) := by
  refine mw_of RX8 (fpZ G σ) [(0, .int a0), (1, .int a1)] (by decide +kernel) rfl (Nat.le_of_ble_eq_true rfl) rfl h rfl (fun p e s m args below meth c X hr hnm => ?_)
  have J4 : ∀ (v1 : Int32)  (n : Nat) (v2 : Int32) (v3 : Int32) , Sm p l e { frames := 3, cells := 0, slots := 0, locals := 86 } s m args below meth c G 4 (Qm below args s G 0 0 (fpZ G σ)) 0 0 (wl G σ) 4 [(1, .int v1), (2, .int v2), (3, .int v3)] [] (f_X8_isUnder_L4 σ  v1 n v2 v3) := by
    intro v1 n
    induction n with
    | zero => intro v2 v3; rw [f_X8_isUnder_L4]; exact sm_none
    | succ n ihl =>
      intro v2 v3
      rw [f_X8_isUnder_L4]
      refine sm_iload_n X 5 2 dX8_isUnder_4 rfl rfl rfl ?_
      refine sm_bipush X 7 (7) dX8_isUnder_5 rfl rfl ?_
      refine sm_icmp_ge X 10 39 dX8_isUnder_7 rfl (by decide) (fun h7 => ?_) (fun h7 => ?_)
      · refine sm_iconst X 40 (0) dX8_isUnder_39 rfl rfl ?_
        exact sm_zret X (v := false) hr dX8_isUnder_40 rfl
      · refine sm_iload_n X 11 1 dX8_isUnder_10 rfl rfl rfl ?_
        refine sm_iconst X 12 (0) dX8_isUnder_11 rfl rfl ?_
        refine sm_bipush X 14 (6) dX8_isUnder_12 rfl rfl ?_
        refine sm_bind (fun r14 h14 => ?_)
        refine sm_callS0 X 17 [.int v2, .int 0, .int 6] [] [.int (b2i r14)] (c_X8_isOutside l G σ v2 (0 : Int32) (6 : Int32) r14 h14) cw_X8_isOutside q_328 q_327 rfl rfl rfl (Nat.le_of_ble_eq_true rfl) ⟨Nat.le_of_ble_eq_true rfl, Nat.le_of_ble_eq_true rfl⟩ ⟨Nat.le_refl _, Nat.le_refl _⟩ dX8_isUnder_14 rfl ?_
        refine sm_ifz_ne X 20 39 dX8_isUnder_17 rfl (by decide) (fun h17 => ?_) (fun h17 => ?_)
        · refine sm_iconst X 40 (0) dX8_isUnder_39 rfl rfl ?_
          exact sm_zret X (v := false) hr dX8_isUnder_40 rfl
        · refine sm_iload_n X 21 1 dX8_isUnder_20 rfl rfl rfl ?_
          refine sm_iload_n X 22 0 dX8_isUnder_21 rfl rfl rfl ?_
          refine sm_icmp_ne X 25 27 dX8_isUnder_22 rfl (by decide) (fun h22 => ?_) (fun h22 => ?_)
          · refine sm_iconst X 26 (1) dX8_isUnder_25 rfl rfl ?_
            exact sm_zret X (v := true) hr dX8_isUnder_26 rfl
          · refine sm_getsA X 30 dX8_isUnder_27 rfl (host := RX8) (Or.inr q_419) ?_
            refine sm_iload_n X 31 1 dX8_isUnder_30 rfl rfl rfl ?_
            refine sm_ialdA X 32 dX8_isUnder_31 rfl (fun r31 e31 => ?_)
            clear e31
            refine sm_istore_n X 33 [(2, .int r31), (1, .int v1), (3, .int v3)] dX8_isUnder_32 rfl rfl (by decide) rfl ?_
            refine sm_iinc X 36 2 (1 : Int32) [(3, .int (v3 + (1 : Int32))), (2, .int r31), (1, .int v1)] dX8_isUnder_33 rfl rfl rfl (by decide) rfl ?_
            refine sm_goto X 4 dX8_isUnder_36 (by decide) ?_
            exact sm_sub [2, 1, 0] rfl (ihl r31 (v3 + (1 : Int32)))
  unfold f_X8_isUnder
  refine sm_iload_n X 1 0 dX8_isUnder_0 rfl rfl rfl ?_
  refine sm_istore_n X 2 [(2, .int a0), (0, .int a0), (1, .int a1)] dX8_isUnder_1 rfl rfl (by decide) rfl ?_
  refine sm_iconst X 3 (0) dX8_isUnder_2 rfl rfl ?_
  refine sm_istore_n X 4 [(3, .int 0), (2, .int a0), (0, .int a0), (1, .int a1)] dX8_isUnder_3 rfl rfl (by decide) rfl ?_
  exact sm_sub [3, 1, 0] rfl (J4 a1  FU a0 (0 : Int32))
def by_X8_as_0 : List Nat := [42, 180, 0, 10, 27, 182, 0, 99, 78, 45, 198, 0, 13, 28, 3, 16]
def by_X8_as_1 : List Nat := [6, 184, 0, 72, 153, 0, 9, 42, 4, 182, 0, 76, 172, 45, 180, 0]
def by_X8_as_2 : List Nat := [107, 28, 184, 0, 132, 153, 0, 10, 45, 180, 0, 110, 167, 0, 8, 42]
def by_X8_as_z : List Nat := [8, 182, 0, 76, 172]
def by_X8_as : List (List Nat) := [by_X8_as_0, by_X8_as_1, by_X8_as_2]
set_option maxRecDepth 100000 in
theorem byo_X8_as : cX8_as.data.toList.map UInt8.toNat = by_X8_as.flatten ++ by_X8_as_z := by decide +kernel
theorem byl_X8_as : by_X8_as.all (fun r => r.length == 16) = true := by decide +kernel
theorem byr_X8_as_0 {j v : Nat} (h : by_X8_as_0[j]? = some v) : RD cX8_as (0 + j) v := rd_16 byo_X8_as byl_X8_as 0 rfl h
theorem byr_X8_as_1 {j v : Nat} (h : by_X8_as_1[j]? = some v) : RD cX8_as (16 + j) v := rd_16 byo_X8_as byl_X8_as 1 rfl h
theorem byr_X8_as_2 {j v : Nat} (h : by_X8_as_2[j]? = some v) : RD cX8_as (32 + j) v := rd_16 byo_X8_as byl_X8_as 2 rfl h
theorem byr_X8_as_3 {j v : Nat} (h : by_X8_as_z[j]? = some v) : RD cX8_as (48 + j) v := rd_z byo_X8_as byl_X8_as 3 rfl h
theorem dX8_as_0 : decode cX8_as 0 = .ok (.aload_n 0, 1) := dk_42 (byr_X8_as_0 (j := 0) rfl)
theorem dX8_as_1 : decode cX8_as 1 = .ok (.getfield 10, 3) := dk_180 (byr_X8_as_0 (j := 1) rfl) (byr_X8_as_0 (j := 2) rfl) (byr_X8_as_0 (j := 3) rfl) (by decide)
theorem dX8_as_4 : decode cX8_as 4 = .ok (.iload_n 1, 1) := dk_27 (byr_X8_as_0 (j := 4) rfl)
theorem dX8_as_5 : decode cX8_as 5 = .ok (.invokevirtual 99, 3) := dk_182 (byr_X8_as_0 (j := 5) rfl) (byr_X8_as_0 (j := 6) rfl) (byr_X8_as_0 (j := 7) rfl) (by decide)
theorem dX8_as_8 : decode cX8_as 8 = .ok (.astore_n 3, 1) := dk_78 (byr_X8_as_0 (j := 8) rfl)
theorem dX8_as_9 : decode cX8_as 9 = .ok (.aload_n 3, 1) := dk_45 (byr_X8_as_0 (j := 9) rfl)
theorem dX8_as_10 : decode cX8_as 10 = .ok (.ifnull 13, 3) := dk_198 (byr_X8_as_0 (j := 10) rfl) (byr_X8_as_0 (j := 11) rfl) (byr_X8_as_0 (j := 12) rfl) (by decide)
theorem dX8_as_13 : decode cX8_as 13 = .ok (.iload_n 2, 1) := dk_28 (byr_X8_as_0 (j := 13) rfl)
theorem dX8_as_14 : decode cX8_as 14 = .ok (.iconst 0, 1) := dk_3 (byr_X8_as_0 (j := 14) rfl)
theorem dX8_as_15 : decode cX8_as 15 = .ok (.bipush 6, 2) := dk_16 (byr_X8_as_0 (j := 15) rfl) (byr_X8_as_1 (j := 0) rfl) (by decide)
theorem dX8_as_17 : decode cX8_as 17 = .ok (.invokestatic 72, 3) := dk_184 (byr_X8_as_1 (j := 1) rfl) (byr_X8_as_1 (j := 2) rfl) (byr_X8_as_1 (j := 3) rfl) (by decide)
theorem dX8_as_20 : decode cX8_as 20 = .ok (.ifCond .eq 9, 3) := dk_153 (byr_X8_as_1 (j := 4) rfl) (byr_X8_as_1 (j := 5) rfl) (byr_X8_as_1 (j := 6) rfl) (by decide)
theorem dX8_as_23 : decode cX8_as 23 = .ok (.aload_n 0, 1) := dk_42 (byr_X8_as_1 (j := 7) rfl)
theorem dX8_as_24 : decode cX8_as 24 = .ok (.iconst 1, 1) := dk_4 (byr_X8_as_1 (j := 8) rfl)
theorem dX8_as_25 : decode cX8_as 25 = .ok (.invokevirtual 76, 3) := dk_182 (byr_X8_as_1 (j := 9) rfl) (byr_X8_as_1 (j := 10) rfl) (byr_X8_as_1 (j := 11) rfl) (by decide)
theorem dX8_as_28 : decode cX8_as 28 = .ok (.ireturn, 1) := dk_172 (byr_X8_as_1 (j := 12) rfl)
theorem dX8_as_29 : decode cX8_as 29 = .ok (.aload_n 3, 1) := dk_45 (byr_X8_as_1 (j := 13) rfl)
theorem dX8_as_30 : decode cX8_as 30 = .ok (.getfield 107, 3) := dk_180 (byr_X8_as_1 (j := 14) rfl) (byr_X8_as_1 (j := 15) rfl) (byr_X8_as_2 (j := 0) rfl) (by decide)
theorem dX8_as_33 : decode cX8_as 33 = .ok (.iload_n 2, 1) := dk_28 (byr_X8_as_2 (j := 1) rfl)
theorem dX8_as_34 : decode cX8_as 34 = .ok (.invokestatic 132, 3) := dk_184 (byr_X8_as_2 (j := 2) rfl) (byr_X8_as_2 (j := 3) rfl) (byr_X8_as_2 (j := 4) rfl) (by decide)
theorem dX8_as_37 : decode cX8_as 37 = .ok (.ifCond .eq 10, 3) := dk_153 (byr_X8_as_2 (j := 5) rfl) (byr_X8_as_2 (j := 6) rfl) (byr_X8_as_2 (j := 7) rfl) (by decide)
theorem dX8_as_40 : decode cX8_as 40 = .ok (.aload_n 3, 1) := dk_45 (byr_X8_as_2 (j := 8) rfl)
theorem dX8_as_41 : decode cX8_as 41 = .ok (.getfield 110, 3) := dk_180 (byr_X8_as_2 (j := 9) rfl) (byr_X8_as_2 (j := 10) rfl) (byr_X8_as_2 (j := 11) rfl) (by decide)
theorem dX8_as_44 : decode cX8_as 44 = .ok (.goto 8, 3) := dk_167 (byr_X8_as_2 (j := 12) rfl) (byr_X8_as_2 (j := 13) rfl) (byr_X8_as_2 (j := 14) rfl) (by decide)
theorem dX8_as_47 : decode cX8_as 47 = .ok (.aload_n 0, 1) := dk_42 (byr_X8_as_2 (j := 15) rfl)
theorem dX8_as_48 : decode cX8_as 48 = .ok (.iconst 5, 1) := dk_8 (byr_X8_as_3 (j := 0) rfl)
theorem dX8_as_49 : decode cX8_as 49 = .ok (.invokevirtual 76, 3) := dk_182 (byr_X8_as_3 (j := 1) rfl) (byr_X8_as_3 (j := 2) rfl) (byr_X8_as_3 (j := 3) rfl) (by decide)
theorem dX8_as_52 : decode cX8_as 52 = .ok (.ireturn, 1) := dk_172 (byr_X8_as_3 (j := 4) rfl)
set_option maxHeartbeats 4000000 in
set_option maxRecDepth 100000 in
theorem c_X8_as (l : Launch) (G : GT) (σ : Sto) (a1 : Int32) (a2 : Int32) (r : (Int32 × Sto)) (h : f_X8_as σ a1 a2 = some r) : MW l G (4) (109) 0 0 yX8_as cX8_as 4 (Option.some Jvm.ClassFile.FieldType.int) [.ref (gad G 0), .int a1, .int a2] (wl G σ) (some (.int r.1)) (wl G r.2) := by
  refine mw_of RX8 (fiI G) [(0, .ref (gad G 0)), (1, .int a1), (2, .int a2)] (by decide +kernel) rfl (Nat.le_of_ble_eq_true rfl) rfl h rfl (fun p e s m args below meth c X hr hnm => ?_)
  unfold f_X8_as
  refine sm_aload_n X 1 0 dX8_as_0 rfl rfl rfl ?_
  refine sm_getf X 4 1 rfl fd_8_0 rfl dX8_as_1 rfl q_289 ?_
  refine sm_iload_n X 5 1 dX8_as_4 rfl rfl rfl ?_
  refine sm_bind (fun r5 h5 => ?_)
  refine sm_callV0 X 8 [.int a1] [] [va_re (gad G) r5] (c_X0_swimmerAt l G σ 1 rfl a1 r5 h5) cw_X0_swimmerAt q_376 q_377 q_375 rfl (by decide) rfl rfl rfl rfl rfl (Nat.le_of_ble_eq_true rfl) ⟨Nat.le_of_ble_eq_true rfl, Nat.le_of_ble_eq_true rfl⟩ ⟨Nat.le_refl _, Nat.le_refl _⟩ dX8_as_5 rfl ?_
  refine sm_astore_nq X 9 [(3, va_re (gad G) r5), (0, .ref (gad G 0)), (1, .int a1), (2, .int a2)] dX8_as_8 rfl rfl (by decide) rfl ?_
  refine sm_aload_nq X 10 0 dX8_as_9 rfl rfl rfl ?_
  refine sm_ifnull X 13 23 dX8_as_10 rfl (by decide) (fun hn => ?_) (fun k10 hn => ?_)
  · subst hn
    refine sm_aload_n X 24 1 dX8_as_23 rfl rfl rfl ?_
    refine sm_iconst X 25 (1) dX8_as_24 rfl rfl ?_
    refine sm_bind (fun r25 h25 => ?_)
    refine sm_callV0 X 28 [.int 1] [] [.int r25.1] (c_X8_refuse l G σ (1 : Int32) r25 h25) cw_X8_refuse q_332 qs_0 q_330 rfl (by decide) rfl rfl rfl rfl rfl (Nat.le_of_ble_eq_true rfl) ⟨Nat.le_of_ble_eq_true rfl, Nat.le_of_ble_eq_true rfl⟩ ⟨Nat.le_refl _, Nat.le_refl _⟩ dX8_as_25 rfl ?_
    exact sm_iret X hr dX8_as_28 rfl
  · subst hn
    refine sm_iload_n X 14 3 dX8_as_13 rfl rfl rfl ?_
    refine sm_iconst X 15 (0) dX8_as_14 rfl rfl ?_
    refine sm_bipush X 17 (6) dX8_as_15 rfl rfl ?_
    refine sm_bind (fun r17 h17 => ?_)
    refine sm_callS0 X 20 [.int a2, .int 0, .int 6] [] [.int (b2i r17)] (c_X8_isOutside l G σ a2 (0 : Int32) (6 : Int32) r17 h17) cw_X8_isOutside q_328 q_327 rfl rfl rfl (Nat.le_of_ble_eq_true rfl) ⟨Nat.le_of_ble_eq_true rfl, Nat.le_of_ble_eq_true rfl⟩ ⟨Nat.le_refl _, Nat.le_refl _⟩ dX8_as_17 rfl ?_
    refine sm_ifz_eq X 23 29 dX8_as_20 rfl (by decide) (fun h20 => ?_) (fun h20 => ?_)
    · refine sm_aload_n X 24 1 dX8_as_23 rfl rfl rfl ?_
      refine sm_iconst X 25 (1) dX8_as_24 rfl rfl ?_
      refine sm_bind (fun r25 h25 => ?_)
      refine sm_callV0 X 28 [.int 1] [] [.int r25.1] (c_X8_refuse l G σ (1 : Int32) r25 h25) cw_X8_refuse q_332 qs_0 q_330 rfl (by decide) rfl rfl rfl rfl rfl (Nat.le_of_ble_eq_true rfl) ⟨Nat.le_of_ble_eq_true rfl, Nat.le_of_ble_eq_true rfl⟩ ⟨Nat.le_refl _, Nat.le_refl _⟩ dX8_as_25 rfl ?_
      exact sm_iret X hr dX8_as_28 rfl
    · refine sm_aload_n X 30 0 dX8_as_29 rfl rfl rfl ?_
      refine sm_guard (fun hk10 => ?_)
      refine sm_geti X 33 hk10 fd_6_0 dX8_as_30 rfl q_61 ?_
      refine sm_iload_n X 34 3 dX8_as_33 rfl rfl rfl ?_
      refine sm_bind (fun r34 h34 => ?_)
      refine sm_callS0 X 37 [.int (σ.1 k10 0), .int a2] [] [.int (b2i r34)] (c_X8_isUnder l G σ (σ.1 k10 0) a2 r34 h34) cw_X8_isUnder q_417 q_416 rfl rfl rfl (Nat.le_of_ble_eq_true rfl) ⟨Nat.le_of_ble_eq_true rfl, Nat.le_of_ble_eq_true rfl⟩ ⟨Nat.le_refl _, Nat.le_refl _⟩ dX8_as_34 rfl ?_
      refine sm_ifz_eq X 40 47 dX8_as_37 rfl (by decide) (fun h37 => ?_) (fun h37 => ?_)
      · refine sm_aload_n X 41 0 dX8_as_40 rfl rfl rfl ?_
        refine sm_geti X 44 hk10 fd_6_1 dX8_as_41 rfl q_64 ?_
        refine sm_goto X 52 dX8_as_44 (by decide) ?_
        exact sm_iret X hr dX8_as_52 rfl
      · refine sm_aload_n X 48 1 dX8_as_47 rfl rfl rfl ?_
        refine sm_iconst X 49 (5) dX8_as_48 rfl rfl ?_
        refine sm_bind (fun r49 h49 => ?_)
        refine sm_callV0 X 52 [.int 5] [] [.int r49.1] (c_X8_refuse l G σ (5 : Int32) r49 h49) cw_X8_refuse q_332 qs_0 q_330 rfl (by decide) rfl rfl rfl rfl rfl (Nat.le_of_ble_eq_true rfl) ⟨Nat.le_of_ble_eq_true rfl, Nat.le_of_ble_eq_true rfl⟩ ⟨Nat.le_refl _, Nat.le_refl _⟩ dX8_as_49 rfl ?_
        exact sm_iret X hr dX8_as_52 rfl
def by_X8_pace_0 : List Nat := [42, 180, 0, 10, 27, 182, 0, 99, 78, 45, 198, 0, 13, 28, 3, 16]
def by_X8_pace_1 : List Nat := [59, 184, 0, 72, 153, 0, 9, 42, 4, 182, 0, 76, 172, 45, 28, 182]
def by_X8_pace_z : List Nat := [0, 136, 172]
def by_X8_pace : List (List Nat) := [by_X8_pace_0, by_X8_pace_1]
set_option maxRecDepth 100000 in
theorem byo_X8_pace : cX8_pace.data.toList.map UInt8.toNat = by_X8_pace.flatten ++ by_X8_pace_z := by decide +kernel
theorem byl_X8_pace : by_X8_pace.all (fun r => r.length == 16) = true := by decide +kernel
theorem byr_X8_pace_0 {j v : Nat} (h : by_X8_pace_0[j]? = some v) : RD cX8_pace (0 + j) v := rd_16 byo_X8_pace byl_X8_pace 0 rfl h
theorem byr_X8_pace_1 {j v : Nat} (h : by_X8_pace_1[j]? = some v) : RD cX8_pace (16 + j) v := rd_16 byo_X8_pace byl_X8_pace 1 rfl h
theorem byr_X8_pace_2 {j v : Nat} (h : by_X8_pace_z[j]? = some v) : RD cX8_pace (32 + j) v := rd_z byo_X8_pace byl_X8_pace 2 rfl h
theorem dX8_pace_0 : decode cX8_pace 0 = .ok (.aload_n 0, 1) := dk_42 (byr_X8_pace_0 (j := 0) rfl)
theorem dX8_pace_1 : decode cX8_pace 1 = .ok (.getfield 10, 3) := dk_180 (byr_X8_pace_0 (j := 1) rfl) (byr_X8_pace_0 (j := 2) rfl) (byr_X8_pace_0 (j := 3) rfl) (by decide)
theorem dX8_pace_4 : decode cX8_pace 4 = .ok (.iload_n 1, 1) := dk_27 (byr_X8_pace_0 (j := 4) rfl)
theorem dX8_pace_5 : decode cX8_pace 5 = .ok (.invokevirtual 99, 3) := dk_182 (byr_X8_pace_0 (j := 5) rfl) (byr_X8_pace_0 (j := 6) rfl) (byr_X8_pace_0 (j := 7) rfl) (by decide)
theorem dX8_pace_8 : decode cX8_pace 8 = .ok (.astore_n 3, 1) := dk_78 (byr_X8_pace_0 (j := 8) rfl)
theorem dX8_pace_9 : decode cX8_pace 9 = .ok (.aload_n 3, 1) := dk_45 (byr_X8_pace_0 (j := 9) rfl)
theorem dX8_pace_10 : decode cX8_pace 10 = .ok (.ifnull 13, 3) := dk_198 (byr_X8_pace_0 (j := 10) rfl) (byr_X8_pace_0 (j := 11) rfl) (byr_X8_pace_0 (j := 12) rfl) (by decide)
theorem dX8_pace_13 : decode cX8_pace 13 = .ok (.iload_n 2, 1) := dk_28 (byr_X8_pace_0 (j := 13) rfl)
theorem dX8_pace_14 : decode cX8_pace 14 = .ok (.iconst 0, 1) := dk_3 (byr_X8_pace_0 (j := 14) rfl)
theorem dX8_pace_15 : decode cX8_pace 15 = .ok (.bipush 59, 2) := dk_16 (byr_X8_pace_0 (j := 15) rfl) (byr_X8_pace_1 (j := 0) rfl) (by decide)
theorem dX8_pace_17 : decode cX8_pace 17 = .ok (.invokestatic 72, 3) := dk_184 (byr_X8_pace_1 (j := 1) rfl) (byr_X8_pace_1 (j := 2) rfl) (byr_X8_pace_1 (j := 3) rfl) (by decide)
theorem dX8_pace_20 : decode cX8_pace 20 = .ok (.ifCond .eq 9, 3) := dk_153 (byr_X8_pace_1 (j := 4) rfl) (byr_X8_pace_1 (j := 5) rfl) (byr_X8_pace_1 (j := 6) rfl) (by decide)
theorem dX8_pace_23 : decode cX8_pace 23 = .ok (.aload_n 0, 1) := dk_42 (byr_X8_pace_1 (j := 7) rfl)
theorem dX8_pace_24 : decode cX8_pace 24 = .ok (.iconst 1, 1) := dk_4 (byr_X8_pace_1 (j := 8) rfl)
theorem dX8_pace_25 : decode cX8_pace 25 = .ok (.invokevirtual 76, 3) := dk_182 (byr_X8_pace_1 (j := 9) rfl) (byr_X8_pace_1 (j := 10) rfl) (byr_X8_pace_1 (j := 11) rfl) (by decide)
theorem dX8_pace_28 : decode cX8_pace 28 = .ok (.ireturn, 1) := dk_172 (byr_X8_pace_1 (j := 12) rfl)
theorem dX8_pace_29 : decode cX8_pace 29 = .ok (.aload_n 3, 1) := dk_45 (byr_X8_pace_1 (j := 13) rfl)
theorem dX8_pace_30 : decode cX8_pace 30 = .ok (.iload_n 2, 1) := dk_28 (byr_X8_pace_1 (j := 14) rfl)
theorem dX8_pace_31 : decode cX8_pace 31 = .ok (.invokevirtual 136, 3) := dk_182 (byr_X8_pace_1 (j := 15) rfl) (byr_X8_pace_2 (j := 0) rfl) (byr_X8_pace_2 (j := 1) rfl) (by decide)
theorem dX8_pace_34 : decode cX8_pace 34 = .ok (.ireturn, 1) := dk_172 (byr_X8_pace_2 (j := 2) rfl)
set_option maxHeartbeats 4000000 in
set_option maxRecDepth 100000 in
theorem c_X8_pace (l : Launch) (G : GT) (σ : Sto) (a1 : Int32) (a2 : Int32) (r : (Int32 × Sto)) (h : f_X8_pace σ a1 a2 = some r) : MW l G (4) (109) 0 0 yX8_pace cX8_pace 4 (Option.some Jvm.ClassFile.FieldType.int) [.ref (gad G 0), .int a1, .int a2] (wl G σ) (some (.int r.1)) (wl G r.2) := by
  refine mw_of RX8 (fiI G) [(0, .ref (gad G 0)), (1, .int a1), (2, .int a2)] (by decide +kernel) rfl (Nat.le_of_ble_eq_true rfl) rfl h rfl (fun p e s m args below meth c X hr hnm => ?_)
  unfold f_X8_pace
  refine sm_aload_n X 1 0 dX8_pace_0 rfl rfl rfl ?_
  refine sm_getf X 4 1 rfl fd_8_0 rfl dX8_pace_1 rfl q_289 ?_
  refine sm_iload_n X 5 1 dX8_pace_4 rfl rfl rfl ?_
  refine sm_bind (fun r5 h5 => ?_)
  refine sm_callV0 X 8 [.int a1] [] [va_re (gad G) r5] (c_X0_swimmerAt l G σ 1 rfl a1 r5 h5) cw_X0_swimmerAt q_376 q_377 q_375 rfl (by decide) rfl rfl rfl rfl rfl (Nat.le_of_ble_eq_true rfl) ⟨Nat.le_of_ble_eq_true rfl, Nat.le_of_ble_eq_true rfl⟩ ⟨Nat.le_refl _, Nat.le_refl _⟩ dX8_pace_5 rfl ?_
  refine sm_astore_nq X 9 [(3, va_re (gad G) r5), (0, .ref (gad G 0)), (1, .int a1), (2, .int a2)] dX8_pace_8 rfl rfl (by decide) rfl ?_
  refine sm_aload_nq X 10 0 dX8_pace_9 rfl rfl rfl ?_
  refine sm_ifnull X 13 23 dX8_pace_10 rfl (by decide) (fun hn => ?_) (fun k10 hn => ?_)
  · subst hn
    refine sm_aload_n X 24 1 dX8_pace_23 rfl rfl rfl ?_
    refine sm_iconst X 25 (1) dX8_pace_24 rfl rfl ?_
    refine sm_bind (fun r25 h25 => ?_)
    refine sm_callV0 X 28 [.int 1] [] [.int r25.1] (c_X8_refuse l G σ (1 : Int32) r25 h25) cw_X8_refuse q_332 qs_0 q_330 rfl (by decide) rfl rfl rfl rfl rfl (Nat.le_of_ble_eq_true rfl) ⟨Nat.le_of_ble_eq_true rfl, Nat.le_of_ble_eq_true rfl⟩ ⟨Nat.le_refl _, Nat.le_refl _⟩ dX8_pace_25 rfl ?_
    exact sm_iret X hr dX8_pace_28 rfl
  · subst hn
    refine sm_iload_n X 14 3 dX8_pace_13 rfl rfl rfl ?_
    refine sm_iconst X 15 (0) dX8_pace_14 rfl rfl ?_
    refine sm_bipush X 17 (59) dX8_pace_15 rfl rfl ?_
    refine sm_bind (fun r17 h17 => ?_)
    refine sm_callS0 X 20 [.int a2, .int 0, .int 59] [] [.int (b2i r17)] (c_X8_isOutside l G σ a2 (0 : Int32) (59 : Int32) r17 h17) cw_X8_isOutside q_328 q_327 rfl rfl rfl (Nat.le_of_ble_eq_true rfl) ⟨Nat.le_of_ble_eq_true rfl, Nat.le_of_ble_eq_true rfl⟩ ⟨Nat.le_refl _, Nat.le_refl _⟩ dX8_pace_17 rfl ?_
    refine sm_ifz_eq X 23 29 dX8_pace_20 rfl (by decide) (fun h20 => ?_) (fun h20 => ?_)
    · refine sm_aload_n X 24 1 dX8_pace_23 rfl rfl rfl ?_
      refine sm_iconst X 25 (1) dX8_pace_24 rfl rfl ?_
      refine sm_bind (fun r25 h25 => ?_)
      refine sm_callV0 X 28 [.int 1] [] [.int r25.1] (c_X8_refuse l G σ (1 : Int32) r25 h25) cw_X8_refuse q_332 qs_0 q_330 rfl (by decide) rfl rfl rfl rfl rfl (Nat.le_of_ble_eq_true rfl) ⟨Nat.le_of_ble_eq_true rfl, Nat.le_of_ble_eq_true rfl⟩ ⟨Nat.le_refl _, Nat.le_refl _⟩ dX8_pace_25 rfl ?_
      exact sm_iret X hr dX8_pace_28 rfl
    · refine sm_aload_n X 30 0 dX8_pace_29 rfl rfl rfl ?_
      refine sm_iload_n X 31 3 dX8_pace_30 rfl rfl rfl ?_
      refine sm_guard (fun hk10 => ?_)
      refine sm_bind (fun r31 h31 => ?_)
      refine sm_callV0 X 34 [.int a2] [] [.int r31] (c_X6_paceIn l G σ k10 hk10 a2 r31 h31) cw_X6_paceIn q_426 q_427 q_425 hk10 (by decide) rfl rfl rfl rfl rfl (Nat.le_of_ble_eq_true rfl) ⟨Nat.le_of_ble_eq_true rfl, Nat.le_of_ble_eq_true rfl⟩ ⟨Nat.le_refl _, Nat.le_refl _⟩ dX8_pace_31 rfl ?_
      exact sm_iret X hr dX8_pace_34 rfl
def by_X8_feed_0 : List Nat := [29, 4, 16, 8, 184, 0, 72, 153, 0, 9, 42, 4, 182, 0, 76, 172]
def by_X8_feed_1 : List Nat := [42, 180, 0, 10, 180, 0, 139, 29, 96, 16, 50, 164, 0, 9, 42, 7]
def by_X8_feed_2 : List Nat := [182, 0, 76, 172, 42, 180, 0, 10, 31, 29, 182, 0, 142, 42, 180, 0]
def by_X8_feed_z : List Nat := [10, 180, 0, 139, 172]
def by_X8_feed : List (List Nat) := [by_X8_feed_0, by_X8_feed_1, by_X8_feed_2]
set_option maxRecDepth 100000 in
theorem byo_X8_feed : cX8_feed.data.toList.map UInt8.toNat = by_X8_feed.flatten ++ by_X8_feed_z := by decide +kernel
theorem byl_X8_feed : by_X8_feed.all (fun r => r.length == 16) = true := by decide +kernel
theorem byr_X8_feed_0 {j v : Nat} (h : by_X8_feed_0[j]? = some v) : RD cX8_feed (0 + j) v := rd_16 byo_X8_feed byl_X8_feed 0 rfl h
theorem byr_X8_feed_1 {j v : Nat} (h : by_X8_feed_1[j]? = some v) : RD cX8_feed (16 + j) v := rd_16 byo_X8_feed byl_X8_feed 1 rfl h
theorem byr_X8_feed_2 {j v : Nat} (h : by_X8_feed_2[j]? = some v) : RD cX8_feed (32 + j) v := rd_16 byo_X8_feed byl_X8_feed 2 rfl h
theorem byr_X8_feed_3 {j v : Nat} (h : by_X8_feed_z[j]? = some v) : RD cX8_feed (48 + j) v := rd_z byo_X8_feed byl_X8_feed 3 rfl h
theorem dX8_feed_0 : decode cX8_feed 0 = .ok (.iload_n 3, 1) := dk_29 (byr_X8_feed_0 (j := 0) rfl)
theorem dX8_feed_1 : decode cX8_feed 1 = .ok (.iconst 1, 1) := dk_4 (byr_X8_feed_0 (j := 1) rfl)
theorem dX8_feed_2 : decode cX8_feed 2 = .ok (.bipush 8, 2) := dk_16 (byr_X8_feed_0 (j := 2) rfl) (byr_X8_feed_0 (j := 3) rfl) (by decide)
theorem dX8_feed_4 : decode cX8_feed 4 = .ok (.invokestatic 72, 3) := dk_184 (byr_X8_feed_0 (j := 4) rfl) (byr_X8_feed_0 (j := 5) rfl) (byr_X8_feed_0 (j := 6) rfl) (by decide)
theorem dX8_feed_7 : decode cX8_feed 7 = .ok (.ifCond .eq 9, 3) := dk_153 (byr_X8_feed_0 (j := 7) rfl) (byr_X8_feed_0 (j := 8) rfl) (byr_X8_feed_0 (j := 9) rfl) (by decide)
theorem dX8_feed_10 : decode cX8_feed 10 = .ok (.aload_n 0, 1) := dk_42 (byr_X8_feed_0 (j := 10) rfl)
theorem dX8_feed_11 : decode cX8_feed 11 = .ok (.iconst 1, 1) := dk_4 (byr_X8_feed_0 (j := 11) rfl)
theorem dX8_feed_12 : decode cX8_feed 12 = .ok (.invokevirtual 76, 3) := dk_182 (byr_X8_feed_0 (j := 12) rfl) (byr_X8_feed_0 (j := 13) rfl) (byr_X8_feed_0 (j := 14) rfl) (by decide)
theorem dX8_feed_15 : decode cX8_feed 15 = .ok (.ireturn, 1) := dk_172 (byr_X8_feed_0 (j := 15) rfl)
theorem dX8_feed_16 : decode cX8_feed 16 = .ok (.aload_n 0, 1) := dk_42 (byr_X8_feed_1 (j := 0) rfl)
theorem dX8_feed_17 : decode cX8_feed 17 = .ok (.getfield 10, 3) := dk_180 (byr_X8_feed_1 (j := 1) rfl) (byr_X8_feed_1 (j := 2) rfl) (byr_X8_feed_1 (j := 3) rfl) (by decide)
theorem dX8_feed_20 : decode cX8_feed 20 = .ok (.getfield 139, 3) := dk_180 (byr_X8_feed_1 (j := 4) rfl) (byr_X8_feed_1 (j := 5) rfl) (byr_X8_feed_1 (j := 6) rfl) (by decide)
theorem dX8_feed_23 : decode cX8_feed 23 = .ok (.iload_n 3, 1) := dk_29 (byr_X8_feed_1 (j := 7) rfl)
theorem dX8_feed_24 : decode cX8_feed 24 = .ok (.iadd, 1) := dk_96 (byr_X8_feed_1 (j := 8) rfl)
theorem dX8_feed_25 : decode cX8_feed 25 = .ok (.bipush 50, 2) := dk_16 (byr_X8_feed_1 (j := 9) rfl) (byr_X8_feed_1 (j := 10) rfl) (by decide)
theorem dX8_feed_27 : decode cX8_feed 27 = .ok (.if_icmp .le 9, 3) := dk_164 (byr_X8_feed_1 (j := 11) rfl) (byr_X8_feed_1 (j := 12) rfl) (byr_X8_feed_1 (j := 13) rfl) (by decide)
theorem dX8_feed_30 : decode cX8_feed 30 = .ok (.aload_n 0, 1) := dk_42 (byr_X8_feed_1 (j := 14) rfl)
theorem dX8_feed_31 : decode cX8_feed 31 = .ok (.iconst 4, 1) := dk_7 (byr_X8_feed_1 (j := 15) rfl)
theorem dX8_feed_32 : decode cX8_feed 32 = .ok (.invokevirtual 76, 3) := dk_182 (byr_X8_feed_2 (j := 0) rfl) (byr_X8_feed_2 (j := 1) rfl) (byr_X8_feed_2 (j := 2) rfl) (by decide)
theorem dX8_feed_35 : decode cX8_feed 35 = .ok (.ireturn, 1) := dk_172 (byr_X8_feed_2 (j := 3) rfl)
theorem dX8_feed_36 : decode cX8_feed 36 = .ok (.aload_n 0, 1) := dk_42 (byr_X8_feed_2 (j := 4) rfl)
theorem dX8_feed_37 : decode cX8_feed 37 = .ok (.getfield 10, 3) := dk_180 (byr_X8_feed_2 (j := 5) rfl) (byr_X8_feed_2 (j := 6) rfl) (byr_X8_feed_2 (j := 7) rfl) (by decide)
theorem dX8_feed_40 : decode cX8_feed 40 = .ok (.lload_n 1, 1) := dk_31 (byr_X8_feed_2 (j := 8) rfl)
theorem dX8_feed_41 : decode cX8_feed 41 = .ok (.iload_n 3, 1) := dk_29 (byr_X8_feed_2 (j := 9) rfl)
theorem dX8_feed_42 : decode cX8_feed 42 = .ok (.invokevirtual 142, 3) := dk_182 (byr_X8_feed_2 (j := 10) rfl) (byr_X8_feed_2 (j := 11) rfl) (byr_X8_feed_2 (j := 12) rfl) (by decide)
theorem dX8_feed_45 : decode cX8_feed 45 = .ok (.aload_n 0, 1) := dk_42 (byr_X8_feed_2 (j := 13) rfl)
theorem dX8_feed_46 : decode cX8_feed 46 = .ok (.getfield 10, 3) := dk_180 (byr_X8_feed_2 (j := 14) rfl) (byr_X8_feed_2 (j := 15) rfl) (byr_X8_feed_3 (j := 0) rfl) (by decide)
theorem dX8_feed_49 : decode cX8_feed 49 = .ok (.getfield 139, 3) := dk_180 (byr_X8_feed_3 (j := 1) rfl) (byr_X8_feed_3 (j := 2) rfl) (byr_X8_feed_3 (j := 3) rfl) (by decide)
theorem dX8_feed_52 : decode cX8_feed 52 = .ok (.ireturn, 1) := dk_172 (byr_X8_feed_3 (j := 4) rfl)
set_option maxHeartbeats 4000000 in
set_option maxRecDepth 100000 in
theorem c_X8_feed (l : Launch) (G : GT) (σ : Sto) (a1 : Int64) (a3 : Int32) (r : (Int32 × Sto)) (h : f_X8_feed σ a1 a3 = some r) : MW l G (4) (107) 0 0 yX8_feed cX8_feed 4 (Option.some Jvm.ClassFile.FieldType.int) [.ref (gad G 0), .long a1, .int a3] (wl G σ) (some (.int r.1)) (wl G r.2) := by
  refine mw_of RX8 (fiI G) [(0, .ref (gad G 0)), (1, .long a1), (3, .int a3)] (by decide +kernel) rfl (Nat.le_of_ble_eq_true rfl) rfl h rfl (fun p e s m args below meth c X hr hnm => ?_)
  unfold f_X8_feed
  refine sm_iload_n X 1 2 dX8_feed_0 rfl rfl rfl ?_
  refine sm_iconst X 2 (1) dX8_feed_1 rfl rfl ?_
  refine sm_bipush X 4 (8) dX8_feed_2 rfl rfl ?_
  refine sm_bind (fun r4 h4 => ?_)
  refine sm_callS0 X 7 [.int a3, .int 1, .int 8] [] [.int (b2i r4)] (c_X8_isOutside l G σ a3 (1 : Int32) (8 : Int32) r4 h4) cw_X8_isOutside q_328 q_327 rfl rfl rfl (Nat.le_of_ble_eq_true rfl) ⟨Nat.le_of_ble_eq_true rfl, Nat.le_of_ble_eq_true rfl⟩ ⟨Nat.le_refl _, Nat.le_refl _⟩ dX8_feed_4 rfl ?_
  refine sm_ifz_eq X 10 16 dX8_feed_7 rfl (by decide) (fun h7 => ?_) (fun h7 => ?_)
  · refine sm_aload_n X 11 0 dX8_feed_10 rfl rfl rfl ?_
    refine sm_iconst X 12 (1) dX8_feed_11 rfl rfl ?_
    refine sm_bind (fun r12 h12 => ?_)
    refine sm_callV0 X 15 [.int 1] [] [.int r12.1] (c_X8_refuse l G σ (1 : Int32) r12 h12) cw_X8_refuse q_332 qs_0 q_330 rfl (by decide) rfl rfl rfl rfl rfl (Nat.le_of_ble_eq_true rfl) ⟨Nat.le_of_ble_eq_true rfl, Nat.le_of_ble_eq_true rfl⟩ ⟨Nat.le_refl _, Nat.le_refl _⟩ dX8_feed_12 rfl ?_
    exact sm_iret X hr dX8_feed_15 rfl
  · refine sm_aload_n X 17 0 dX8_feed_16 rfl rfl rfl ?_
    refine sm_getf X 20 1 rfl fd_8_0 rfl dX8_feed_17 rfl q_289 ?_
    refine sm_geti X 23 rfl fd_0_12 dX8_feed_20 rfl q_111 ?_
    refine sm_iload_n X 24 2 dX8_feed_23 rfl rfl rfl ?_
    refine sm_iadd X 25 dX8_feed_24 rfl ?_
    refine sm_bipush X 27 (50) dX8_feed_25 rfl rfl ?_
    refine sm_icmp_le X 30 36 dX8_feed_27 rfl (by decide) (fun h27 => ?_) (fun h27 => ?_)
    · refine sm_aload_n X 37 0 dX8_feed_36 rfl rfl rfl ?_
      refine sm_getf X 40 1 rfl fd_8_0 rfl dX8_feed_37 rfl q_289 ?_
      refine sm_lload_n X 41 1 dX8_feed_40 rfl rfl rfl ?_
      refine sm_iload_n X 42 2 dX8_feed_41 rfl rfl rfl ?_
      refine sm_bind (fun r42 h42 => ?_)
      refine sm_callV0 X 45 [.long a1, .int a3] [] [] (c_X0_addToTape l G σ 1 rfl a1 a3 r42 h42) cw_X0_addToTape q_438 q_439 q_437 rfl (by decide) rfl rfl rfl rfl rfl (Nat.le_of_ble_eq_true rfl) ⟨Nat.le_of_ble_eq_true rfl, Nat.le_of_ble_eq_true rfl⟩ ⟨Nat.le_refl _, Nat.le_refl _⟩ dX8_feed_42 rfl ?_
      refine sm_aload_n X 46 0 dX8_feed_45 rfl rfl rfl ?_
      refine sm_getf X 49 1 rfl fd_8_0 rfl dX8_feed_46 rfl q_289 ?_
      refine sm_geti X 52 rfl fd_0_12 dX8_feed_49 rfl q_111 ?_
      exact sm_iret X hr dX8_feed_52 rfl
    · refine sm_aload_n X 31 0 dX8_feed_30 rfl rfl rfl ?_
      refine sm_iconst X 32 (4) dX8_feed_31 rfl rfl ?_
      refine sm_bind (fun r32 h32 => ?_)
      refine sm_callV0 X 35 [.int 4] [] [.int r32.1] (c_X8_refuse l G σ (4 : Int32) r32 h32) cw_X8_refuse q_332 qs_0 q_330 rfl (by decide) rfl rfl rfl rfl rfl (Nat.le_of_ble_eq_true rfl) ⟨Nat.le_of_ble_eq_true rfl, Nat.le_of_ble_eq_true rfl⟩ ⟨Nat.le_refl _, Nat.le_refl _⟩ dX8_feed_32 rfl ?_
      exact sm_iret X hr dX8_feed_35 rfl
def by_X8_text_0 : List Nat := [42, 180, 0, 10, 27, 182, 0, 146, 77, 44, 199, 0, 9, 42, 4, 182]
def by_X8_text_1 : List Nat := [0, 76, 172, 42, 180, 0, 22, 42, 180, 0, 10, 180, 0, 150, 42, 180]
def by_X8_text_2 : List Nat := [0, 10, 180, 0, 139, 27, 182, 0, 153, 62, 42, 180, 0, 10, 3, 181]
def by_X8_text_3 : List Nat := [0, 139, 29, 155, 0, 8, 16, 246, 29, 100, 172, 44, 42, 180, 0, 22]
def by_X8_text_z : List Nat := [182, 0, 157, 4, 172]
def by_X8_text : List (List Nat) := [by_X8_text_0, by_X8_text_1, by_X8_text_2, by_X8_text_3]
set_option maxRecDepth 100000 in
theorem byo_X8_text : cX8_text.data.toList.map UInt8.toNat = by_X8_text.flatten ++ by_X8_text_z := by decide +kernel
theorem byl_X8_text : by_X8_text.all (fun r => r.length == 16) = true := by decide +kernel
theorem byr_X8_text_0 {j v : Nat} (h : by_X8_text_0[j]? = some v) : RD cX8_text (0 + j) v := rd_16 byo_X8_text byl_X8_text 0 rfl h
theorem byr_X8_text_1 {j v : Nat} (h : by_X8_text_1[j]? = some v) : RD cX8_text (16 + j) v := rd_16 byo_X8_text byl_X8_text 1 rfl h
theorem byr_X8_text_2 {j v : Nat} (h : by_X8_text_2[j]? = some v) : RD cX8_text (32 + j) v := rd_16 byo_X8_text byl_X8_text 2 rfl h
theorem byr_X8_text_3 {j v : Nat} (h : by_X8_text_3[j]? = some v) : RD cX8_text (48 + j) v := rd_16 byo_X8_text byl_X8_text 3 rfl h
theorem byr_X8_text_4 {j v : Nat} (h : by_X8_text_z[j]? = some v) : RD cX8_text (64 + j) v := rd_z byo_X8_text byl_X8_text 4 rfl h
theorem dX8_text_0 : decode cX8_text 0 = .ok (.aload_n 0, 1) := dk_42 (byr_X8_text_0 (j := 0) rfl)
theorem dX8_text_1 : decode cX8_text 1 = .ok (.getfield 10, 3) := dk_180 (byr_X8_text_0 (j := 1) rfl) (byr_X8_text_0 (j := 2) rfl) (byr_X8_text_0 (j := 3) rfl) (by decide)
theorem dX8_text_4 : decode cX8_text 4 = .ok (.iload_n 1, 1) := dk_27 (byr_X8_text_0 (j := 4) rfl)
theorem dX8_text_5 : decode cX8_text 5 = .ok (.invokevirtual 146, 3) := dk_182 (byr_X8_text_0 (j := 5) rfl) (byr_X8_text_0 (j := 6) rfl) (byr_X8_text_0 (j := 7) rfl) (by decide)
theorem dX8_text_8 : decode cX8_text 8 = .ok (.astore_n 2, 1) := dk_77 (byr_X8_text_0 (j := 8) rfl)
theorem dX8_text_9 : decode cX8_text 9 = .ok (.aload_n 2, 1) := dk_44 (byr_X8_text_0 (j := 9) rfl)
theorem dX8_text_10 : decode cX8_text 10 = .ok (.ifnonnull 9, 3) := dk_199 (byr_X8_text_0 (j := 10) rfl) (byr_X8_text_0 (j := 11) rfl) (byr_X8_text_0 (j := 12) rfl) (by decide)
theorem dX8_text_13 : decode cX8_text 13 = .ok (.aload_n 0, 1) := dk_42 (byr_X8_text_0 (j := 13) rfl)
theorem dX8_text_14 : decode cX8_text 14 = .ok (.iconst 1, 1) := dk_4 (byr_X8_text_0 (j := 14) rfl)
theorem dX8_text_15 : decode cX8_text 15 = .ok (.invokevirtual 76, 3) := dk_182 (byr_X8_text_0 (j := 15) rfl) (byr_X8_text_1 (j := 0) rfl) (byr_X8_text_1 (j := 1) rfl) (by decide)
theorem dX8_text_18 : decode cX8_text 18 = .ok (.ireturn, 1) := dk_172 (byr_X8_text_1 (j := 2) rfl)
theorem dX8_text_19 : decode cX8_text 19 = .ok (.aload_n 0, 1) := dk_42 (byr_X8_text_1 (j := 3) rfl)
theorem dX8_text_20 : decode cX8_text 20 = .ok (.getfield 22, 3) := dk_180 (byr_X8_text_1 (j := 4) rfl) (byr_X8_text_1 (j := 5) rfl) (byr_X8_text_1 (j := 6) rfl) (by decide)
theorem dX8_text_23 : decode cX8_text 23 = .ok (.aload_n 0, 1) := dk_42 (byr_X8_text_1 (j := 7) rfl)
theorem dX8_text_24 : decode cX8_text 24 = .ok (.getfield 10, 3) := dk_180 (byr_X8_text_1 (j := 8) rfl) (byr_X8_text_1 (j := 9) rfl) (byr_X8_text_1 (j := 10) rfl) (by decide)
theorem dX8_text_27 : decode cX8_text 27 = .ok (.getfield 150, 3) := dk_180 (byr_X8_text_1 (j := 11) rfl) (byr_X8_text_1 (j := 12) rfl) (byr_X8_text_1 (j := 13) rfl) (by decide)
theorem dX8_text_30 : decode cX8_text 30 = .ok (.aload_n 0, 1) := dk_42 (byr_X8_text_1 (j := 14) rfl)
theorem dX8_text_31 : decode cX8_text 31 = .ok (.getfield 10, 3) := dk_180 (byr_X8_text_1 (j := 15) rfl) (byr_X8_text_2 (j := 0) rfl) (byr_X8_text_2 (j := 1) rfl) (by decide)
theorem dX8_text_34 : decode cX8_text 34 = .ok (.getfield 139, 3) := dk_180 (byr_X8_text_2 (j := 2) rfl) (byr_X8_text_2 (j := 3) rfl) (byr_X8_text_2 (j := 4) rfl) (by decide)
theorem dX8_text_37 : decode cX8_text 37 = .ok (.iload_n 1, 1) := dk_27 (byr_X8_text_2 (j := 5) rfl)
theorem dX8_text_38 : decode cX8_text 38 = .ok (.invokevirtual 153, 3) := dk_182 (byr_X8_text_2 (j := 6) rfl) (byr_X8_text_2 (j := 7) rfl) (byr_X8_text_2 (j := 8) rfl) (by decide)
theorem dX8_text_41 : decode cX8_text 41 = .ok (.istore_n 3, 1) := dk_62 (byr_X8_text_2 (j := 9) rfl)
theorem dX8_text_42 : decode cX8_text 42 = .ok (.aload_n 0, 1) := dk_42 (byr_X8_text_2 (j := 10) rfl)
theorem dX8_text_43 : decode cX8_text 43 = .ok (.getfield 10, 3) := dk_180 (byr_X8_text_2 (j := 11) rfl) (byr_X8_text_2 (j := 12) rfl) (byr_X8_text_2 (j := 13) rfl) (by decide)
theorem dX8_text_46 : decode cX8_text 46 = .ok (.iconst 0, 1) := dk_3 (byr_X8_text_2 (j := 14) rfl)
theorem dX8_text_47 : decode cX8_text 47 = .ok (.putfield 139, 3) := dk_181 (byr_X8_text_2 (j := 15) rfl) (byr_X8_text_3 (j := 0) rfl) (byr_X8_text_3 (j := 1) rfl) (by decide)
theorem dX8_text_50 : decode cX8_text 50 = .ok (.iload_n 3, 1) := dk_29 (byr_X8_text_3 (j := 2) rfl)
theorem dX8_text_51 : decode cX8_text 51 = .ok (.ifCond .lt 8, 3) := dk_155 (byr_X8_text_3 (j := 3) rfl) (byr_X8_text_3 (j := 4) rfl) (byr_X8_text_3 (j := 5) rfl) (by decide)
theorem dX8_text_54 : decode cX8_text 54 = .ok (.bipush (-10), 2) := dk_16 (byr_X8_text_3 (j := 6) rfl) (byr_X8_text_3 (j := 7) rfl) (by decide)
theorem dX8_text_56 : decode cX8_text 56 = .ok (.iload_n 3, 1) := dk_29 (byr_X8_text_3 (j := 8) rfl)
theorem dX8_text_57 : decode cX8_text 57 = .ok (.isub, 1) := dk_100 (byr_X8_text_3 (j := 9) rfl)
theorem dX8_text_58 : decode cX8_text 58 = .ok (.ireturn, 1) := dk_172 (byr_X8_text_3 (j := 10) rfl)
theorem dX8_text_59 : decode cX8_text 59 = .ok (.aload_n 2, 1) := dk_44 (byr_X8_text_3 (j := 11) rfl)
theorem dX8_text_60 : decode cX8_text 60 = .ok (.aload_n 0, 1) := dk_42 (byr_X8_text_3 (j := 12) rfl)
theorem dX8_text_61 : decode cX8_text 61 = .ok (.getfield 22, 3) := dk_180 (byr_X8_text_3 (j := 13) rfl) (byr_X8_text_3 (j := 14) rfl) (byr_X8_text_3 (j := 15) rfl) (by decide)
theorem dX8_text_64 : decode cX8_text 64 = .ok (.invokevirtual 157, 3) := dk_182 (byr_X8_text_4 (j := 0) rfl) (byr_X8_text_4 (j := 1) rfl) (byr_X8_text_4 (j := 2) rfl) (by decide)
theorem dX8_text_67 : decode cX8_text 67 = .ok (.iconst 1, 1) := dk_4 (byr_X8_text_4 (j := 3) rfl)
theorem dX8_text_68 : decode cX8_text 68 = .ok (.ireturn, 1) := dk_172 (byr_X8_text_4 (j := 4) rfl)
set_option maxHeartbeats 4000000 in
set_option maxRecDepth 100000 in
theorem c_X8_text (l : Launch) (G : GT) (σ : Sto) (a1 : Int32) (r : (Int32 × Sto)) (h : f_X8_text σ a1 = some r) : MW l G (76) (4625) 0 0 yX8_text cX8_text 4 (Option.some Jvm.ClassFile.FieldType.int) [.ref (gad G 0), .int a1] (wl G σ) (some (.int r.1)) (wl G r.2) := by
  refine mw_of RX8 (fiI G) [(0, .ref (gad G 0)), (1, .int a1)] (by decide +kernel) rfl (Nat.le_of_ble_eq_true rfl) rfl h rfl (fun p e s m args below meth c X hr hnm => ?_)
  unfold f_X8_text
  refine sm_aload_n X 1 0 dX8_text_0 rfl rfl rfl ?_
  refine sm_getf X 4 1 rfl fd_8_0 rfl dX8_text_1 rfl q_289 ?_
  refine sm_iload_n X 5 1 dX8_text_4 rfl rfl rfl ?_
  refine sm_bind (fun r5 h5 => ?_)
  refine sm_callV0 X 8 [.int a1] [] [va_re (gad G) r5] (c_X0_lawOf l G σ 1 rfl a1 r5 h5) cw_X0_lawOf q_446 q_447 q_445 rfl (by decide) rfl rfl rfl rfl rfl (Nat.le_of_ble_eq_true rfl) ⟨Nat.le_of_ble_eq_true rfl, Nat.le_of_ble_eq_true rfl⟩ ⟨Nat.le_refl _, Nat.le_refl _⟩ dX8_text_5 rfl ?_
  refine sm_astore_nq X 9 [(2, va_re (gad G) r5), (0, .ref (gad G 0)), (1, .int a1)] dX8_text_8 rfl rfl (by decide) rfl ?_
  refine sm_aload_nq X 10 0 dX8_text_9 rfl rfl rfl ?_
  refine sm_ifnonnull X 13 19 dX8_text_10 rfl (by decide) (fun hn => ?_) (fun k10 hn => ?_)
  · subst hn
    refine sm_aload_n X 14 1 dX8_text_13 rfl rfl rfl ?_
    refine sm_iconst X 15 (1) dX8_text_14 rfl rfl ?_
    refine sm_bind (fun r15 h15 => ?_)
    refine sm_callV0 X 18 [.int 1] [] [.int r15.1] (c_X8_refuse l G σ (1 : Int32) r15 h15) cw_X8_refuse q_332 qs_0 q_330 rfl (by decide) rfl rfl rfl rfl rfl (Nat.le_of_ble_eq_true rfl) ⟨Nat.le_of_ble_eq_true rfl, Nat.le_of_ble_eq_true rfl⟩ ⟨Nat.le_refl _, Nat.le_refl _⟩ dX8_text_15 rfl ?_
    exact sm_iret X hr dX8_text_18 rfl
  · subst hn
    refine sm_aload_n X 20 1 dX8_text_19 rfl rfl rfl ?_
    refine sm_getf X 23 55 rfl fd_8_2 rfl dX8_text_20 rfl q_291 ?_
    refine sm_aload_n X 24 1 dX8_text_23 rfl rfl rfl ?_
    refine sm_getf X 27 1 rfl fd_8_0 rfl dX8_text_24 rfl q_289 ?_
    refine sm_getf X 30 10 rfl fd_0_11 rfl dX8_text_27 rfl q_109 ?_
    refine sm_aload_n X 31 1 dX8_text_30 rfl rfl rfl ?_
    refine sm_getf X 34 1 rfl fd_8_0 rfl dX8_text_31 rfl q_289 ?_
    refine sm_geti X 37 rfl fd_0_12 dX8_text_34 rfl q_111 ?_
    refine sm_iload_n X 38 2 dX8_text_37 rfl rfl rfl ?_
    refine sm_bind (fun r38 h38 => ?_)
    refine sm_callV0 X 41 [.ref (gad G 10), .int (σ.1 1 12), .int a1] [] [.int r38.1] (c_X3_read l G σ 10 rfl (σ.1 1 12) a1 r38 h38) cw_X3_read q_450 q_451 q_449 rfl (by decide) rfl rfl rfl rfl rfl (Nat.le_of_ble_eq_true rfl) ⟨Nat.le_of_ble_eq_true rfl, Nat.le_of_ble_eq_true rfl⟩ ⟨Nat.le_refl _, Nat.le_refl _⟩ dX8_text_38 rfl ?_
    refine sm_istore_n X 42 [(3, .int r38.1), (2, .ref (gad G k10)), (0, .ref (gad G 0)), (1, .int a1)] dX8_text_41 rfl rfl (by decide) rfl ?_
    refine sm_aload_n X 43 2 dX8_text_42 rfl rfl rfl ?_
    refine sm_getf X 46 1 rfl fd_8_0 rfl dX8_text_43 rfl q_289 ?_
    refine sm_iconst X 47 (0) dX8_text_46 rfl rfl ?_
    refine sm_puti X 50 .int rfl fd_0_12 (by decide) rfl rfl rfl dX8_text_47 rfl q_111 (fun σ47 e47 => ?_)
    clear e47
    refine sm_iload_n X 51 0 dX8_text_50 rfl rfl rfl ?_
    refine sm_if_lt X 54 59 dX8_text_51 rfl (by decide) (fun h51 => ?_) (fun h51 => ?_)
    · refine sm_aload_n X 60 1 dX8_text_59 rfl rfl rfl ?_
      refine sm_aload_n X 61 2 dX8_text_60 rfl rfl rfl ?_
      refine sm_getf X 64 55 rfl fd_8_2 rfl dX8_text_61 rfl q_291 ?_
      refine sm_guard (fun hk10 => ?_)
      refine sm_bind (fun r64 h64 => ?_)
      refine sm_callV0 X 67 [.ref (gad G 55)] [] [] (c_X1_take l G σ47 k10 hk10 r64 h64) cw_X1_take q_589 q_590 q_588 hk10 (by decide) rfl rfl rfl rfl rfl (Nat.le_of_ble_eq_true rfl) ⟨Nat.le_of_ble_eq_true rfl, Nat.le_of_ble_eq_true rfl⟩ ⟨Nat.le_refl _, Nat.le_refl _⟩ dX8_text_64 rfl ?_
      refine sm_iconst X 68 (1) dX8_text_67 rfl rfl ?_
      exact sm_iret X hr dX8_text_68 rfl
    · refine sm_bipush X 56 (-10) dX8_text_54 rfl rfl ?_
      refine sm_iload_n X 57 0 dX8_text_56 rfl rfl rfl ?_
      refine sm_isub X 58 dX8_text_57 rfl ?_
      exact sm_iret X hr dX8_text_58 rfl
def by_X8_law_0 : List Nat := [42, 180, 0, 10, 27, 182, 0, 146, 58, 5, 25, 5, 199, 0, 11, 42]
def by_X8_law_1 : List Nat := [4, 182, 0, 76, 167, 0, 12, 25, 5, 28, 29, 21, 4, 182, 0, 163]
def by_X8_law_z : List Nat := [172]
def by_X8_law : List (List Nat) := [by_X8_law_0, by_X8_law_1]
set_option maxRecDepth 100000 in
theorem byo_X8_law : cX8_law.data.toList.map UInt8.toNat = by_X8_law.flatten ++ by_X8_law_z := by decide +kernel
theorem byl_X8_law : by_X8_law.all (fun r => r.length == 16) = true := by decide +kernel
theorem byr_X8_law_0 {j v : Nat} (h : by_X8_law_0[j]? = some v) : RD cX8_law (0 + j) v := rd_16 byo_X8_law byl_X8_law 0 rfl h
theorem byr_X8_law_1 {j v : Nat} (h : by_X8_law_1[j]? = some v) : RD cX8_law (16 + j) v := rd_16 byo_X8_law byl_X8_law 1 rfl h
theorem byr_X8_law_2 {j v : Nat} (h : by_X8_law_z[j]? = some v) : RD cX8_law (32 + j) v := rd_z byo_X8_law byl_X8_law 2 rfl h
theorem dX8_law_0 : decode cX8_law 0 = .ok (.aload_n 0, 1) := dk_42 (byr_X8_law_0 (j := 0) rfl)
theorem dX8_law_1 : decode cX8_law 1 = .ok (.getfield 10, 3) := dk_180 (byr_X8_law_0 (j := 1) rfl) (byr_X8_law_0 (j := 2) rfl) (byr_X8_law_0 (j := 3) rfl) (by decide)
theorem dX8_law_4 : decode cX8_law 4 = .ok (.iload_n 1, 1) := dk_27 (byr_X8_law_0 (j := 4) rfl)
theorem dX8_law_5 : decode cX8_law 5 = .ok (.invokevirtual 146, 3) := dk_182 (byr_X8_law_0 (j := 5) rfl) (byr_X8_law_0 (j := 6) rfl) (byr_X8_law_0 (j := 7) rfl) (by decide)
theorem dX8_law_8 : decode cX8_law 8 = .ok (.astore 5, 2) := dk_58 (byr_X8_law_0 (j := 8) rfl) (byr_X8_law_0 (j := 9) rfl)
theorem dX8_law_10 : decode cX8_law 10 = .ok (.aload 5, 2) := dk_25 (byr_X8_law_0 (j := 10) rfl) (byr_X8_law_0 (j := 11) rfl)
theorem dX8_law_12 : decode cX8_law 12 = .ok (.ifnonnull 11, 3) := dk_199 (byr_X8_law_0 (j := 12) rfl) (byr_X8_law_0 (j := 13) rfl) (byr_X8_law_0 (j := 14) rfl) (by decide)
theorem dX8_law_15 : decode cX8_law 15 = .ok (.aload_n 0, 1) := dk_42 (byr_X8_law_0 (j := 15) rfl)
theorem dX8_law_16 : decode cX8_law 16 = .ok (.iconst 1, 1) := dk_4 (byr_X8_law_1 (j := 0) rfl)
theorem dX8_law_17 : decode cX8_law 17 = .ok (.invokevirtual 76, 3) := dk_182 (byr_X8_law_1 (j := 1) rfl) (byr_X8_law_1 (j := 2) rfl) (byr_X8_law_1 (j := 3) rfl) (by decide)
theorem dX8_law_20 : decode cX8_law 20 = .ok (.goto 12, 3) := dk_167 (byr_X8_law_1 (j := 4) rfl) (byr_X8_law_1 (j := 5) rfl) (byr_X8_law_1 (j := 6) rfl) (by decide)
theorem dX8_law_23 : decode cX8_law 23 = .ok (.aload 5, 2) := dk_25 (byr_X8_law_1 (j := 7) rfl) (byr_X8_law_1 (j := 8) rfl)
theorem dX8_law_25 : decode cX8_law 25 = .ok (.iload_n 2, 1) := dk_28 (byr_X8_law_1 (j := 9) rfl)
theorem dX8_law_26 : decode cX8_law 26 = .ok (.iload_n 3, 1) := dk_29 (byr_X8_law_1 (j := 10) rfl)
theorem dX8_law_27 : decode cX8_law 27 = .ok (.iload 4, 2) := dk_21 (byr_X8_law_1 (j := 11) rfl) (byr_X8_law_1 (j := 12) rfl)
theorem dX8_law_29 : decode cX8_law 29 = .ok (.invokevirtual 163, 3) := dk_182 (byr_X8_law_1 (j := 13) rfl) (byr_X8_law_1 (j := 14) rfl) (byr_X8_law_1 (j := 15) rfl) (by decide)
theorem dX8_law_32 : decode cX8_law 32 = .ok (.ireturn, 1) := dk_172 (byr_X8_law_2 (j := 0) rfl)
set_option maxHeartbeats 4000000 in
set_option maxRecDepth 100000 in
theorem c_X8_law (l : Launch) (G : GT) (σ : Sto) (a1 : Int32) (a2 : Int32) (a3 : Int32) (a4 : Int32) (r : (Int32 × Sto)) (h : f_X8_law σ a1 a2 a3 a4 = some r) : MW l G (5) (136) 0 0 yX8_law cX8_law 6 (Option.some Jvm.ClassFile.FieldType.int) [.ref (gad G 0), .int a1, .int a2, .int a3, .int a4] (wl G σ) (some (.int r.1)) (wl G r.2) := by
  refine mw_of RX8 (fiI G) [(0, .ref (gad G 0)), (1, .int a1), (2, .int a2), (3, .int a3), (4, .int a4)] (by decide +kernel) rfl (Nat.le_of_ble_eq_true rfl) rfl h rfl (fun p e s m args below meth c X hr hnm => ?_)
  unfold f_X8_law
  refine sm_aload_n X 1 0 dX8_law_0 rfl rfl rfl ?_
  refine sm_getf X 4 1 rfl fd_8_0 rfl dX8_law_1 rfl q_289 ?_
  refine sm_iload_n X 5 1 dX8_law_4 rfl rfl rfl ?_
  refine sm_bind (fun r5 h5 => ?_)
  refine sm_callV0 X 8 [.int a1] [] [va_re (gad G) r5] (c_X0_lawOf l G σ 1 rfl a1 r5 h5) cw_X0_lawOf q_446 q_447 q_445 rfl (by decide) rfl rfl rfl rfl rfl (Nat.le_of_ble_eq_true rfl) ⟨Nat.le_of_ble_eq_true rfl, Nat.le_of_ble_eq_true rfl⟩ ⟨Nat.le_refl _, Nat.le_refl _⟩ dX8_law_5 rfl ?_
  refine sm_astoreq X 10 [(5, va_re (gad G) r5), (0, .ref (gad G 0)), (1, .int a1), (2, .int a2), (3, .int a3), (4, .int a4)] dX8_law_8 rfl (by decide) rfl ?_
  refine sm_aloadq X 12 0 dX8_law_10 rfl rfl ?_
  refine sm_ifnonnull X 15 23 dX8_law_12 rfl (by decide) (fun hn => ?_) (fun k12 hn => ?_)
  · subst hn
    refine sm_aload_n X 16 1 dX8_law_15 rfl rfl rfl ?_
    refine sm_iconst X 17 (1) dX8_law_16 rfl rfl ?_
    refine sm_bind (fun r17 h17 => ?_)
    refine sm_callV0 X 20 [.int 1] [] [.int r17.1] (c_X8_refuse l G σ (1 : Int32) r17 h17) cw_X8_refuse q_332 qs_0 q_330 rfl (by decide) rfl rfl rfl rfl rfl (Nat.le_of_ble_eq_true rfl) ⟨Nat.le_of_ble_eq_true rfl, Nat.le_of_ble_eq_true rfl⟩ ⟨Nat.le_refl _, Nat.le_refl _⟩ dX8_law_17 rfl ?_
    refine sm_goto X 32 dX8_law_20 (by decide) ?_
    exact sm_iret X hr dX8_law_32 rfl
  · subst hn
    refine sm_aload X 25 0 dX8_law_23 rfl rfl ?_
    refine sm_iload_n X 26 3 dX8_law_25 rfl rfl rfl ?_
    refine sm_iload_n X 27 4 dX8_law_26 rfl rfl rfl ?_
    refine sm_iload X 29 5 dX8_law_27 rfl rfl ?_
    refine sm_guard (fun hk12 => ?_)
    refine sm_bind (fun r29 h29 => ?_)
    refine sm_callV0 X 32 [.int a2, .int a3, .int a4] [] [.int r29.1] (c_X1_give l G σ k12 hk12 a2 a3 a4 r29 h29) cw_X1_give q_349 q_350 q_597 hk12 (by decide) rfl rfl rfl rfl rfl (Nat.le_of_ble_eq_true rfl) ⟨Nat.le_of_ble_eq_true rfl, Nat.le_of_ble_eq_true rfl⟩ ⟨Nat.le_refl _, Nat.le_refl _⟩ dX8_law_29 rfl ?_
    exact sm_iret X hr dX8_law_32 rfl
def by_X8_where_0 : List Nat := [42, 180, 0, 10, 27, 182, 0, 99, 78, 45, 198, 0, 13, 28, 3, 16]
def by_X8_where_1 : List Nat := [60, 184, 0, 72, 153, 0, 9, 42, 4, 182, 0, 76, 172, 42, 180, 0]
def by_X8_where_2 : List Nat := [29, 42, 180, 0, 10, 42, 180, 0, 10, 180, 0, 83, 182, 0, 167, 42]
def by_X8_where_z : List Nat := [180, 0, 29, 45, 28, 182, 0, 171, 172]
def by_X8_where : List (List Nat) := [by_X8_where_0, by_X8_where_1, by_X8_where_2]
set_option maxRecDepth 100000 in
theorem byo_X8_where : cX8_where.data.toList.map UInt8.toNat = by_X8_where.flatten ++ by_X8_where_z := by decide +kernel
theorem byl_X8_where : by_X8_where.all (fun r => r.length == 16) = true := by decide +kernel
theorem byr_X8_where_0 {j v : Nat} (h : by_X8_where_0[j]? = some v) : RD cX8_where (0 + j) v := rd_16 byo_X8_where byl_X8_where 0 rfl h
theorem byr_X8_where_1 {j v : Nat} (h : by_X8_where_1[j]? = some v) : RD cX8_where (16 + j) v := rd_16 byo_X8_where byl_X8_where 1 rfl h
theorem byr_X8_where_2 {j v : Nat} (h : by_X8_where_2[j]? = some v) : RD cX8_where (32 + j) v := rd_16 byo_X8_where byl_X8_where 2 rfl h
theorem byr_X8_where_3 {j v : Nat} (h : by_X8_where_z[j]? = some v) : RD cX8_where (48 + j) v := rd_z byo_X8_where byl_X8_where 3 rfl h
theorem dX8_where_0 : decode cX8_where 0 = .ok (.aload_n 0, 1) := dk_42 (byr_X8_where_0 (j := 0) rfl)
theorem dX8_where_1 : decode cX8_where 1 = .ok (.getfield 10, 3) := dk_180 (byr_X8_where_0 (j := 1) rfl) (byr_X8_where_0 (j := 2) rfl) (byr_X8_where_0 (j := 3) rfl) (by decide)
theorem dX8_where_4 : decode cX8_where 4 = .ok (.iload_n 1, 1) := dk_27 (byr_X8_where_0 (j := 4) rfl)
theorem dX8_where_5 : decode cX8_where 5 = .ok (.invokevirtual 99, 3) := dk_182 (byr_X8_where_0 (j := 5) rfl) (byr_X8_where_0 (j := 6) rfl) (byr_X8_where_0 (j := 7) rfl) (by decide)
theorem dX8_where_8 : decode cX8_where 8 = .ok (.astore_n 3, 1) := dk_78 (byr_X8_where_0 (j := 8) rfl)
theorem dX8_where_9 : decode cX8_where 9 = .ok (.aload_n 3, 1) := dk_45 (byr_X8_where_0 (j := 9) rfl)
theorem dX8_where_10 : decode cX8_where 10 = .ok (.ifnull 13, 3) := dk_198 (byr_X8_where_0 (j := 10) rfl) (byr_X8_where_0 (j := 11) rfl) (byr_X8_where_0 (j := 12) rfl) (by decide)
theorem dX8_where_13 : decode cX8_where 13 = .ok (.iload_n 2, 1) := dk_28 (byr_X8_where_0 (j := 13) rfl)
theorem dX8_where_14 : decode cX8_where 14 = .ok (.iconst 0, 1) := dk_3 (byr_X8_where_0 (j := 14) rfl)
theorem dX8_where_15 : decode cX8_where 15 = .ok (.bipush 60, 2) := dk_16 (byr_X8_where_0 (j := 15) rfl) (byr_X8_where_1 (j := 0) rfl) (by decide)
theorem dX8_where_17 : decode cX8_where 17 = .ok (.invokestatic 72, 3) := dk_184 (byr_X8_where_1 (j := 1) rfl) (byr_X8_where_1 (j := 2) rfl) (byr_X8_where_1 (j := 3) rfl) (by decide)
theorem dX8_where_20 : decode cX8_where 20 = .ok (.ifCond .eq 9, 3) := dk_153 (byr_X8_where_1 (j := 4) rfl) (byr_X8_where_1 (j := 5) rfl) (byr_X8_where_1 (j := 6) rfl) (by decide)
theorem dX8_where_23 : decode cX8_where 23 = .ok (.aload_n 0, 1) := dk_42 (byr_X8_where_1 (j := 7) rfl)
theorem dX8_where_24 : decode cX8_where 24 = .ok (.iconst 1, 1) := dk_4 (byr_X8_where_1 (j := 8) rfl)
theorem dX8_where_25 : decode cX8_where 25 = .ok (.invokevirtual 76, 3) := dk_182 (byr_X8_where_1 (j := 9) rfl) (byr_X8_where_1 (j := 10) rfl) (byr_X8_where_1 (j := 11) rfl) (by decide)
theorem dX8_where_28 : decode cX8_where 28 = .ok (.ireturn, 1) := dk_172 (byr_X8_where_1 (j := 12) rfl)
theorem dX8_where_29 : decode cX8_where 29 = .ok (.aload_n 0, 1) := dk_42 (byr_X8_where_1 (j := 13) rfl)
theorem dX8_where_30 : decode cX8_where 30 = .ok (.getfield 29, 3) := dk_180 (byr_X8_where_1 (j := 14) rfl) (byr_X8_where_1 (j := 15) rfl) (byr_X8_where_2 (j := 0) rfl) (by decide)
theorem dX8_where_33 : decode cX8_where 33 = .ok (.aload_n 0, 1) := dk_42 (byr_X8_where_2 (j := 1) rfl)
theorem dX8_where_34 : decode cX8_where 34 = .ok (.getfield 10, 3) := dk_180 (byr_X8_where_2 (j := 2) rfl) (byr_X8_where_2 (j := 3) rfl) (byr_X8_where_2 (j := 4) rfl) (by decide)
theorem dX8_where_37 : decode cX8_where 37 = .ok (.aload_n 0, 1) := dk_42 (byr_X8_where_2 (j := 5) rfl)
theorem dX8_where_38 : decode cX8_where 38 = .ok (.getfield 10, 3) := dk_180 (byr_X8_where_2 (j := 6) rfl) (byr_X8_where_2 (j := 7) rfl) (byr_X8_where_2 (j := 8) rfl) (by decide)
theorem dX8_where_41 : decode cX8_where 41 = .ok (.getfield 83, 3) := dk_180 (byr_X8_where_2 (j := 9) rfl) (byr_X8_where_2 (j := 10) rfl) (byr_X8_where_2 (j := 11) rfl) (by decide)
theorem dX8_where_44 : decode cX8_where 44 = .ok (.invokevirtual 167, 3) := dk_182 (byr_X8_where_2 (j := 12) rfl) (byr_X8_where_2 (j := 13) rfl) (byr_X8_where_2 (j := 14) rfl) (by decide)
theorem dX8_where_47 : decode cX8_where 47 = .ok (.aload_n 0, 1) := dk_42 (byr_X8_where_2 (j := 15) rfl)
theorem dX8_where_48 : decode cX8_where 48 = .ok (.getfield 29, 3) := dk_180 (byr_X8_where_3 (j := 0) rfl) (byr_X8_where_3 (j := 1) rfl) (byr_X8_where_3 (j := 2) rfl) (by decide)
theorem dX8_where_51 : decode cX8_where 51 = .ok (.aload_n 3, 1) := dk_45 (byr_X8_where_3 (j := 3) rfl)
theorem dX8_where_52 : decode cX8_where 52 = .ok (.iload_n 2, 1) := dk_28 (byr_X8_where_3 (j := 4) rfl)
theorem dX8_where_53 : decode cX8_where 53 = .ok (.invokevirtual 171, 3) := dk_182 (byr_X8_where_3 (j := 5) rfl) (byr_X8_where_3 (j := 6) rfl) (byr_X8_where_3 (j := 7) rfl) (by decide)
theorem dX8_where_56 : decode cX8_where 56 = .ok (.ireturn, 1) := dk_172 (byr_X8_where_3 (j := 8) rfl)
set_option maxHeartbeats 4000000 in
set_option maxRecDepth 100000 in
theorem c_X8_where (l : Launch) (G : GT) (σ : Sto) (a1 : Int32) (a2 : Int32) (r : (Int32 × Sto)) (h : f_X8_where σ a1 a2 = some r) : MW l G (7) (181) 0 0 yX8_where cX8_where 4 (Option.some Jvm.ClassFile.FieldType.int) [.ref (gad G 0), .int a1, .int a2] (wl G σ) (some (.int r.1)) (wl G r.2) := by
  refine mw_of RX8 (fiI G) [(0, .ref (gad G 0)), (1, .int a1), (2, .int a2)] (by decide +kernel) rfl (Nat.le_of_ble_eq_true rfl) rfl h rfl (fun p e s m args below meth c X hr hnm => ?_)
  unfold f_X8_where
  refine sm_aload_n X 1 0 dX8_where_0 rfl rfl rfl ?_
  refine sm_getf X 4 1 rfl fd_8_0 rfl dX8_where_1 rfl q_289 ?_
  refine sm_iload_n X 5 1 dX8_where_4 rfl rfl rfl ?_
  refine sm_bind (fun r5 h5 => ?_)
  refine sm_callV0 X 8 [.int a1] [] [va_re (gad G) r5] (c_X0_swimmerAt l G σ 1 rfl a1 r5 h5) cw_X0_swimmerAt q_376 q_377 q_375 rfl (by decide) rfl rfl rfl rfl rfl (Nat.le_of_ble_eq_true rfl) ⟨Nat.le_of_ble_eq_true rfl, Nat.le_of_ble_eq_true rfl⟩ ⟨Nat.le_refl _, Nat.le_refl _⟩ dX8_where_5 rfl ?_
  refine sm_astore_nq X 9 [(3, va_re (gad G) r5), (0, .ref (gad G 0)), (1, .int a1), (2, .int a2)] dX8_where_8 rfl rfl (by decide) rfl ?_
  refine sm_aload_nq X 10 0 dX8_where_9 rfl rfl rfl ?_
  refine sm_ifnull X 13 23 dX8_where_10 rfl (by decide) (fun hn => ?_) (fun k10 hn => ?_)
  · subst hn
    refine sm_aload_n X 24 1 dX8_where_23 rfl rfl rfl ?_
    refine sm_iconst X 25 (1) dX8_where_24 rfl rfl ?_
    refine sm_bind (fun r25 h25 => ?_)
    refine sm_callV0 X 28 [.int 1] [] [.int r25.1] (c_X8_refuse l G σ (1 : Int32) r25 h25) cw_X8_refuse q_332 qs_0 q_330 rfl (by decide) rfl rfl rfl rfl rfl (Nat.le_of_ble_eq_true rfl) ⟨Nat.le_of_ble_eq_true rfl, Nat.le_of_ble_eq_true rfl⟩ ⟨Nat.le_refl _, Nat.le_refl _⟩ dX8_where_25 rfl ?_
    exact sm_iret X hr dX8_where_28 rfl
  · subst hn
    refine sm_iload_n X 14 3 dX8_where_13 rfl rfl rfl ?_
    refine sm_iconst X 15 (0) dX8_where_14 rfl rfl ?_
    refine sm_bipush X 17 (60) dX8_where_15 rfl rfl ?_
    refine sm_bind (fun r17 h17 => ?_)
    refine sm_callS0 X 20 [.int a2, .int 0, .int 60] [] [.int (b2i r17)] (c_X8_isOutside l G σ a2 (0 : Int32) (60 : Int32) r17 h17) cw_X8_isOutside q_328 q_327 rfl rfl rfl (Nat.le_of_ble_eq_true rfl) ⟨Nat.le_of_ble_eq_true rfl, Nat.le_of_ble_eq_true rfl⟩ ⟨Nat.le_refl _, Nat.le_refl _⟩ dX8_where_17 rfl ?_
    refine sm_ifz_eq X 23 29 dX8_where_20 rfl (by decide) (fun h20 => ?_) (fun h20 => ?_)
    · refine sm_aload_n X 24 1 dX8_where_23 rfl rfl rfl ?_
      refine sm_iconst X 25 (1) dX8_where_24 rfl rfl ?_
      refine sm_bind (fun r25 h25 => ?_)
      refine sm_callV0 X 28 [.int 1] [] [.int r25.1] (c_X8_refuse l G σ (1 : Int32) r25 h25) cw_X8_refuse q_332 qs_0 q_330 rfl (by decide) rfl rfl rfl rfl rfl (Nat.le_of_ble_eq_true rfl) ⟨Nat.le_of_ble_eq_true rfl, Nat.le_of_ble_eq_true rfl⟩ ⟨Nat.le_refl _, Nat.le_refl _⟩ dX8_where_25 rfl ?_
      exact sm_iret X hr dX8_where_28 rfl
    · refine sm_aload_n X 30 1 dX8_where_29 rfl rfl rfl ?_
      refine sm_getf X 33 58 rfl fd_8_3 rfl dX8_where_30 rfl q_292 ?_
      refine sm_aload_n X 34 1 dX8_where_33 rfl rfl rfl ?_
      refine sm_getf X 37 1 rfl fd_8_0 rfl dX8_where_34 rfl q_289 ?_
      refine sm_aload_n X 38 1 dX8_where_37 rfl rfl rfl ?_
      refine sm_getf X 41 1 rfl fd_8_0 rfl dX8_where_38 rfl q_289 ?_
      refine sm_geti X 44 rfl fd_0_1 dX8_where_41 rfl q_92 ?_
      refine sm_bind (fun r44 h44 => ?_)
      refine sm_callV0 X 47 [.ref (gad G 1), .int (σ.1 1 1)] [] [] (c_X5_feel l G σ 1 rfl (σ.1 1 1) r44 h44) cw_X5_feel q_603 q_604 q_602 rfl (by decide) rfl rfl rfl rfl rfl (Nat.le_of_ble_eq_true rfl) ⟨Nat.le_of_ble_eq_true rfl, Nat.le_of_ble_eq_true rfl⟩ ⟨Nat.le_refl _, Nat.le_refl _⟩ dX8_where_44 rfl ?_
      refine sm_aload_n X 48 1 dX8_where_47 rfl rfl rfl ?_
      refine sm_getf X 51 58 rfl fd_8_3 rfl dX8_where_48 rfl q_292 ?_
      refine sm_aload_n X 52 0 dX8_where_51 rfl rfl rfl ?_
      refine sm_iload_n X 53 3 dX8_where_52 rfl rfl rfl ?_
      refine sm_guard (fun hk10 => ?_)
      refine sm_bind (fun r53 h53 => ?_)
      refine sm_callV0 X 56 [.ref (gad G k10), .int a2] [] [.int r53] (c_X5_placeBehind l G r44 k10 hk10 a2 r53 h53) cw_X5_placeBehind q_608 q_609 q_607 rfl (by decide) rfl rfl rfl rfl rfl (Nat.le_of_ble_eq_true rfl) ⟨Nat.le_of_ble_eq_true rfl, Nat.le_of_ble_eq_true rfl⟩ ⟨Nat.le_refl _, Nat.le_refl _⟩ dX8_where_53 rfl ?_
      exact sm_iret X hr dX8_where_56 rfl
def by_X8_areUnlike_0 : List Nat := [42, 198, 0, 22, 43, 198, 0, 18, 42, 180, 0, 113, 43, 180, 0, 113]
def by_X8_areUnlike_z : List Nat := [159, 0, 7, 4, 167, 0, 4, 3, 172]
def by_X8_areUnlike : List (List Nat) := [by_X8_areUnlike_0]
set_option maxRecDepth 100000 in
theorem byo_X8_areUnlike : cX8_areUnlike.data.toList.map UInt8.toNat = by_X8_areUnlike.flatten ++ by_X8_areUnlike_z := by decide +kernel
theorem byl_X8_areUnlike : by_X8_areUnlike.all (fun r => r.length == 16) = true := by decide +kernel
theorem byr_X8_areUnlike_0 {j v : Nat} (h : by_X8_areUnlike_0[j]? = some v) : RD cX8_areUnlike (0 + j) v := rd_16 byo_X8_areUnlike byl_X8_areUnlike 0 rfl h
theorem byr_X8_areUnlike_1 {j v : Nat} (h : by_X8_areUnlike_z[j]? = some v) : RD cX8_areUnlike (16 + j) v := rd_z byo_X8_areUnlike byl_X8_areUnlike 1 rfl h
theorem dX8_areUnlike_0 : decode cX8_areUnlike 0 = .ok (.aload_n 0, 1) := dk_42 (byr_X8_areUnlike_0 (j := 0) rfl)
theorem dX8_areUnlike_1 : decode cX8_areUnlike 1 = .ok (.ifnull 22, 3) := dk_198 (byr_X8_areUnlike_0 (j := 1) rfl) (byr_X8_areUnlike_0 (j := 2) rfl) (byr_X8_areUnlike_0 (j := 3) rfl) (by decide)
theorem dX8_areUnlike_4 : decode cX8_areUnlike 4 = .ok (.aload_n 1, 1) := dk_43 (byr_X8_areUnlike_0 (j := 4) rfl)
theorem dX8_areUnlike_5 : decode cX8_areUnlike 5 = .ok (.ifnull 18, 3) := dk_198 (byr_X8_areUnlike_0 (j := 5) rfl) (byr_X8_areUnlike_0 (j := 6) rfl) (byr_X8_areUnlike_0 (j := 7) rfl) (by decide)
theorem dX8_areUnlike_8 : decode cX8_areUnlike 8 = .ok (.aload_n 0, 1) := dk_42 (byr_X8_areUnlike_0 (j := 8) rfl)
theorem dX8_areUnlike_9 : decode cX8_areUnlike 9 = .ok (.getfield 113, 3) := dk_180 (byr_X8_areUnlike_0 (j := 9) rfl) (byr_X8_areUnlike_0 (j := 10) rfl) (byr_X8_areUnlike_0 (j := 11) rfl) (by decide)
theorem dX8_areUnlike_12 : decode cX8_areUnlike 12 = .ok (.aload_n 1, 1) := dk_43 (byr_X8_areUnlike_0 (j := 12) rfl)
theorem dX8_areUnlike_13 : decode cX8_areUnlike 13 = .ok (.getfield 113, 3) := dk_180 (byr_X8_areUnlike_0 (j := 13) rfl) (byr_X8_areUnlike_0 (j := 14) rfl) (byr_X8_areUnlike_0 (j := 15) rfl) (by decide)
theorem dX8_areUnlike_16 : decode cX8_areUnlike 16 = .ok (.if_icmp .eq 7, 3) := dk_159 (byr_X8_areUnlike_1 (j := 0) rfl) (byr_X8_areUnlike_1 (j := 1) rfl) (byr_X8_areUnlike_1 (j := 2) rfl) (by decide)
theorem dX8_areUnlike_19 : decode cX8_areUnlike 19 = .ok (.iconst 1, 1) := dk_4 (byr_X8_areUnlike_1 (j := 3) rfl)
theorem dX8_areUnlike_20 : decode cX8_areUnlike 20 = .ok (.goto 4, 3) := dk_167 (byr_X8_areUnlike_1 (j := 4) rfl) (byr_X8_areUnlike_1 (j := 5) rfl) (byr_X8_areUnlike_1 (j := 6) rfl) (by decide)
theorem dX8_areUnlike_23 : decode cX8_areUnlike 23 = .ok (.iconst 0, 1) := dk_3 (byr_X8_areUnlike_1 (j := 7) rfl)
theorem dX8_areUnlike_24 : decode cX8_areUnlike 24 = .ok (.ireturn, 1) := dk_172 (byr_X8_areUnlike_1 (j := 8) rfl)
set_option maxHeartbeats 4000000 in
set_option maxRecDepth 100000 in
theorem c_X8_areUnlike (l : Launch) (G : GT) (σ : Sto) (a0 : Option Nat) (a1 : Option Nat) (r : Bool) (h : f_X8_areUnlike σ a0 a1 = some r) : MW l G (2) (64) 0 0 yX8_areUnlike cX8_areUnlike 2 (Option.some Jvm.ClassFile.FieldType.boolean) [va_re (gad G) a0, va_re (gad G) a1] (wl G σ) (some (.int (b2i r))) (wl G σ) := by
  refine mw_of RX8 (fpZ G σ) [(0, va_re (gad G) a0), (1, va_re (gad G) a1)] (by decide +kernel) rfl (by cases a0 <;> cases a1 <;> exact Nat.le_of_ble_eq_true rfl) (by cases a0 <;> cases a1 <;> rfl) h rfl (fun p e s m args below meth c X hr hnm => ?_)
  unfold f_X8_areUnlike
  refine sm_aload_nq X 1 0 dX8_areUnlike_0 rfl rfl rfl ?_
  refine sm_ifnull X 4 23 dX8_areUnlike_1 rfl (by decide) (fun hn => ?_) (fun k1 hn => ?_)
  · subst hn
    refine sm_iconst X 24 (0) dX8_areUnlike_23 rfl rfl ?_
    exact sm_zret X (v := false) hr dX8_areUnlike_24 rfl
  · subst hn
    refine sm_aload_nq X 5 1 dX8_areUnlike_4 rfl rfl rfl ?_
    refine sm_ifnull X 8 23 dX8_areUnlike_5 rfl (by decide) (fun hn => ?_) (fun k5 hn => ?_)
    · subst hn
      refine sm_iconst X 24 (0) dX8_areUnlike_23 rfl rfl ?_
      exact sm_zret X (v := false) hr dX8_areUnlike_24 rfl
    · subst hn
      refine sm_aload_n X 9 0 dX8_areUnlike_8 rfl rfl rfl ?_
      refine sm_guard (fun hk1 => ?_)
      refine sm_geti X 12 hk1 fd_6_2 dX8_areUnlike_9 rfl q_68 ?_
      refine sm_aload_n X 13 1 dX8_areUnlike_12 rfl rfl rfl ?_
      refine sm_guard (fun hk5 => ?_)
      refine sm_geti X 16 hk5 fd_6_2 dX8_areUnlike_13 rfl q_68 ?_
      refine sm_icmp_eq X 19 23 dX8_areUnlike_16 rfl (by decide) (fun h16 => ?_) (fun h16 => ?_)
      · refine sm_iconst X 24 (0) dX8_areUnlike_23 rfl rfl ?_
        exact sm_zret X (v := false) hr dX8_areUnlike_24 rfl
      · refine sm_iconst X 20 (1) dX8_areUnlike_19 rfl rfl ?_
        refine sm_goto X 24 dX8_areUnlike_20 (by decide) ?_
        exact sm_zret X (v := true) hr dX8_areUnlike_24 rfl
def by_X8_meet_0 : List Nat := [42, 180, 0, 10, 27, 182, 0, 99, 58, 4, 42, 180, 0, 10, 28, 182]
def by_X8_meet_1 : List Nat := [0, 99, 58, 5, 25, 4, 25, 5, 184, 0, 175, 153, 0, 12, 29, 3]
def by_X8_meet_2 : List Nat := [5, 184, 0, 72, 153, 0, 9, 42, 4, 182, 0, 76, 172, 42, 180, 0]
def by_X8_meet_3 : List Nat := [29, 42, 180, 0, 10, 42, 180, 0, 10, 180, 0, 83, 182, 0, 167, 42]
def by_X8_meet_4 : List Nat := [180, 0, 29, 25, 4, 25, 5, 42, 180, 0, 10, 180, 0, 86, 182, 0]
def by_X8_meet_5 : List Nat := [179, 154, 0, 9, 42, 5, 182, 0, 76, 172, 29, 171, 0, 0, 0, 41]
def by_X8_meet_6 : List Nat := [0, 0, 0, 2, 0, 0, 0, 0, 0, 0, 0, 25, 0, 0, 0, 1]
def by_X8_meet_7 : List Nat := [0, 0, 0, 33, 42, 180, 0, 29, 180, 0, 183, 172, 42, 180, 0, 29]
def by_X8_meet_z : List Nat := [180, 0, 186, 172, 42, 180, 0, 29, 180, 0, 189, 172]
def by_X8_meet : List (List Nat) := [by_X8_meet_0, by_X8_meet_1, by_X8_meet_2, by_X8_meet_3, by_X8_meet_4, by_X8_meet_5, by_X8_meet_6, by_X8_meet_7]
set_option maxRecDepth 100000 in
theorem byo_X8_meet : cX8_meet.data.toList.map UInt8.toNat = by_X8_meet.flatten ++ by_X8_meet_z := by decide +kernel
theorem byl_X8_meet : by_X8_meet.all (fun r => r.length == 16) = true := by decide +kernel
theorem byr_X8_meet_0 {j v : Nat} (h : by_X8_meet_0[j]? = some v) : RD cX8_meet (0 + j) v := rd_16 byo_X8_meet byl_X8_meet 0 rfl h
theorem byr_X8_meet_1 {j v : Nat} (h : by_X8_meet_1[j]? = some v) : RD cX8_meet (16 + j) v := rd_16 byo_X8_meet byl_X8_meet 1 rfl h
theorem byr_X8_meet_2 {j v : Nat} (h : by_X8_meet_2[j]? = some v) : RD cX8_meet (32 + j) v := rd_16 byo_X8_meet byl_X8_meet 2 rfl h
theorem byr_X8_meet_3 {j v : Nat} (h : by_X8_meet_3[j]? = some v) : RD cX8_meet (48 + j) v := rd_16 byo_X8_meet byl_X8_meet 3 rfl h
theorem byr_X8_meet_4 {j v : Nat} (h : by_X8_meet_4[j]? = some v) : RD cX8_meet (64 + j) v := rd_16 byo_X8_meet byl_X8_meet 4 rfl h
theorem byr_X8_meet_5 {j v : Nat} (h : by_X8_meet_5[j]? = some v) : RD cX8_meet (80 + j) v := rd_16 byo_X8_meet byl_X8_meet 5 rfl h
theorem byr_X8_meet_6 {j v : Nat} (h : by_X8_meet_6[j]? = some v) : RD cX8_meet (96 + j) v := rd_16 byo_X8_meet byl_X8_meet 6 rfl h
theorem byr_X8_meet_7 {j v : Nat} (h : by_X8_meet_7[j]? = some v) : RD cX8_meet (112 + j) v := rd_16 byo_X8_meet byl_X8_meet 7 rfl h
theorem byr_X8_meet_8 {j v : Nat} (h : by_X8_meet_z[j]? = some v) : RD cX8_meet (128 + j) v := rd_z byo_X8_meet byl_X8_meet 8 rfl h
theorem dX8_meet_0 : decode cX8_meet 0 = .ok (.aload_n 0, 1) := dk_42 (byr_X8_meet_0 (j := 0) rfl)
theorem dX8_meet_1 : decode cX8_meet 1 = .ok (.getfield 10, 3) := dk_180 (byr_X8_meet_0 (j := 1) rfl) (byr_X8_meet_0 (j := 2) rfl) (byr_X8_meet_0 (j := 3) rfl) (by decide)
theorem dX8_meet_4 : decode cX8_meet 4 = .ok (.iload_n 1, 1) := dk_27 (byr_X8_meet_0 (j := 4) rfl)
theorem dX8_meet_5 : decode cX8_meet 5 = .ok (.invokevirtual 99, 3) := dk_182 (byr_X8_meet_0 (j := 5) rfl) (byr_X8_meet_0 (j := 6) rfl) (byr_X8_meet_0 (j := 7) rfl) (by decide)
theorem dX8_meet_8 : decode cX8_meet 8 = .ok (.astore 4, 2) := dk_58 (byr_X8_meet_0 (j := 8) rfl) (byr_X8_meet_0 (j := 9) rfl)
theorem dX8_meet_10 : decode cX8_meet 10 = .ok (.aload_n 0, 1) := dk_42 (byr_X8_meet_0 (j := 10) rfl)
theorem dX8_meet_11 : decode cX8_meet 11 = .ok (.getfield 10, 3) := dk_180 (byr_X8_meet_0 (j := 11) rfl) (byr_X8_meet_0 (j := 12) rfl) (byr_X8_meet_0 (j := 13) rfl) (by decide)
theorem dX8_meet_14 : decode cX8_meet 14 = .ok (.iload_n 2, 1) := dk_28 (byr_X8_meet_0 (j := 14) rfl)
theorem dX8_meet_15 : decode cX8_meet 15 = .ok (.invokevirtual 99, 3) := dk_182 (byr_X8_meet_0 (j := 15) rfl) (byr_X8_meet_1 (j := 0) rfl) (byr_X8_meet_1 (j := 1) rfl) (by decide)
theorem dX8_meet_18 : decode cX8_meet 18 = .ok (.astore 5, 2) := dk_58 (byr_X8_meet_1 (j := 2) rfl) (byr_X8_meet_1 (j := 3) rfl)
theorem dX8_meet_20 : decode cX8_meet 20 = .ok (.aload 4, 2) := dk_25 (byr_X8_meet_1 (j := 4) rfl) (byr_X8_meet_1 (j := 5) rfl)
theorem dX8_meet_22 : decode cX8_meet 22 = .ok (.aload 5, 2) := dk_25 (byr_X8_meet_1 (j := 6) rfl) (byr_X8_meet_1 (j := 7) rfl)
theorem dX8_meet_24 : decode cX8_meet 24 = .ok (.invokestatic 175, 3) := dk_184 (byr_X8_meet_1 (j := 8) rfl) (byr_X8_meet_1 (j := 9) rfl) (byr_X8_meet_1 (j := 10) rfl) (by decide)
theorem dX8_meet_27 : decode cX8_meet 27 = .ok (.ifCond .eq 12, 3) := dk_153 (byr_X8_meet_1 (j := 11) rfl) (byr_X8_meet_1 (j := 12) rfl) (byr_X8_meet_1 (j := 13) rfl) (by decide)
theorem dX8_meet_30 : decode cX8_meet 30 = .ok (.iload_n 3, 1) := dk_29 (byr_X8_meet_1 (j := 14) rfl)
theorem dX8_meet_31 : decode cX8_meet 31 = .ok (.iconst 0, 1) := dk_3 (byr_X8_meet_1 (j := 15) rfl)
theorem dX8_meet_32 : decode cX8_meet 32 = .ok (.iconst 2, 1) := dk_5 (byr_X8_meet_2 (j := 0) rfl)
theorem dX8_meet_33 : decode cX8_meet 33 = .ok (.invokestatic 72, 3) := dk_184 (byr_X8_meet_2 (j := 1) rfl) (byr_X8_meet_2 (j := 2) rfl) (byr_X8_meet_2 (j := 3) rfl) (by decide)
theorem dX8_meet_36 : decode cX8_meet 36 = .ok (.ifCond .eq 9, 3) := dk_153 (byr_X8_meet_2 (j := 4) rfl) (byr_X8_meet_2 (j := 5) rfl) (byr_X8_meet_2 (j := 6) rfl) (by decide)
theorem dX8_meet_39 : decode cX8_meet 39 = .ok (.aload_n 0, 1) := dk_42 (byr_X8_meet_2 (j := 7) rfl)
theorem dX8_meet_40 : decode cX8_meet 40 = .ok (.iconst 1, 1) := dk_4 (byr_X8_meet_2 (j := 8) rfl)
theorem dX8_meet_41 : decode cX8_meet 41 = .ok (.invokevirtual 76, 3) := dk_182 (byr_X8_meet_2 (j := 9) rfl) (byr_X8_meet_2 (j := 10) rfl) (byr_X8_meet_2 (j := 11) rfl) (by decide)
theorem dX8_meet_44 : decode cX8_meet 44 = .ok (.ireturn, 1) := dk_172 (byr_X8_meet_2 (j := 12) rfl)
theorem dX8_meet_45 : decode cX8_meet 45 = .ok (.aload_n 0, 1) := dk_42 (byr_X8_meet_2 (j := 13) rfl)
theorem dX8_meet_46 : decode cX8_meet 46 = .ok (.getfield 29, 3) := dk_180 (byr_X8_meet_2 (j := 14) rfl) (byr_X8_meet_2 (j := 15) rfl) (byr_X8_meet_3 (j := 0) rfl) (by decide)
theorem dX8_meet_49 : decode cX8_meet 49 = .ok (.aload_n 0, 1) := dk_42 (byr_X8_meet_3 (j := 1) rfl)
theorem dX8_meet_50 : decode cX8_meet 50 = .ok (.getfield 10, 3) := dk_180 (byr_X8_meet_3 (j := 2) rfl) (byr_X8_meet_3 (j := 3) rfl) (byr_X8_meet_3 (j := 4) rfl) (by decide)
theorem dX8_meet_53 : decode cX8_meet 53 = .ok (.aload_n 0, 1) := dk_42 (byr_X8_meet_3 (j := 5) rfl)
theorem dX8_meet_54 : decode cX8_meet 54 = .ok (.getfield 10, 3) := dk_180 (byr_X8_meet_3 (j := 6) rfl) (byr_X8_meet_3 (j := 7) rfl) (byr_X8_meet_3 (j := 8) rfl) (by decide)
theorem dX8_meet_57 : decode cX8_meet 57 = .ok (.getfield 83, 3) := dk_180 (byr_X8_meet_3 (j := 9) rfl) (byr_X8_meet_3 (j := 10) rfl) (byr_X8_meet_3 (j := 11) rfl) (by decide)
theorem dX8_meet_60 : decode cX8_meet 60 = .ok (.invokevirtual 167, 3) := dk_182 (byr_X8_meet_3 (j := 12) rfl) (byr_X8_meet_3 (j := 13) rfl) (byr_X8_meet_3 (j := 14) rfl) (by decide)
theorem dX8_meet_63 : decode cX8_meet 63 = .ok (.aload_n 0, 1) := dk_42 (byr_X8_meet_3 (j := 15) rfl)
theorem dX8_meet_64 : decode cX8_meet 64 = .ok (.getfield 29, 3) := dk_180 (byr_X8_meet_4 (j := 0) rfl) (byr_X8_meet_4 (j := 1) rfl) (byr_X8_meet_4 (j := 2) rfl) (by decide)
theorem dX8_meet_67 : decode cX8_meet 67 = .ok (.aload 4, 2) := dk_25 (byr_X8_meet_4 (j := 3) rfl) (byr_X8_meet_4 (j := 4) rfl)
theorem dX8_meet_69 : decode cX8_meet 69 = .ok (.aload 5, 2) := dk_25 (byr_X8_meet_4 (j := 5) rfl) (byr_X8_meet_4 (j := 6) rfl)
theorem dX8_meet_71 : decode cX8_meet 71 = .ok (.aload_n 0, 1) := dk_42 (byr_X8_meet_4 (j := 7) rfl)
theorem dX8_meet_72 : decode cX8_meet 72 = .ok (.getfield 10, 3) := dk_180 (byr_X8_meet_4 (j := 8) rfl) (byr_X8_meet_4 (j := 9) rfl) (byr_X8_meet_4 (j := 10) rfl) (by decide)
theorem dX8_meet_75 : decode cX8_meet 75 = .ok (.getfield 86, 3) := dk_180 (byr_X8_meet_4 (j := 11) rfl) (byr_X8_meet_4 (j := 12) rfl) (byr_X8_meet_4 (j := 13) rfl) (by decide)
theorem dX8_meet_78 : decode cX8_meet 78 = .ok (.invokevirtual 179, 3) := dk_182 (byr_X8_meet_4 (j := 14) rfl) (byr_X8_meet_4 (j := 15) rfl) (byr_X8_meet_5 (j := 0) rfl) (by decide)
theorem dX8_meet_81 : decode cX8_meet 81 = .ok (.ifCond .ne 9, 3) := dk_154 (byr_X8_meet_5 (j := 1) rfl) (byr_X8_meet_5 (j := 2) rfl) (byr_X8_meet_5 (j := 3) rfl) (by decide)
theorem dX8_meet_84 : decode cX8_meet 84 = .ok (.aload_n 0, 1) := dk_42 (byr_X8_meet_5 (j := 4) rfl)
theorem dX8_meet_85 : decode cX8_meet 85 = .ok (.iconst 2, 1) := dk_5 (byr_X8_meet_5 (j := 5) rfl)
theorem dX8_meet_86 : decode cX8_meet 86 = .ok (.invokevirtual 76, 3) := dk_182 (byr_X8_meet_5 (j := 6) rfl) (byr_X8_meet_5 (j := 7) rfl) (byr_X8_meet_5 (j := 8) rfl) (by decide)
theorem dX8_meet_89 : decode cX8_meet 89 = .ok (.ireturn, 1) := dk_172 (byr_X8_meet_5 (j := 9) rfl)
theorem dX8_meet_90 : decode cX8_meet 90 = .ok (.iload_n 3, 1) := dk_29 (byr_X8_meet_5 (j := 10) rfl)
set_option maxRecDepth 20000 in
theorem dX8_meet_91 : decode cX8_meet 91 = .ok (.lookupswitch 41 #[(0, 25), (1, 33)], 25) := by decide +kernel
theorem dX8_meet_116 : decode cX8_meet 116 = .ok (.aload_n 0, 1) := dk_42 (byr_X8_meet_7 (j := 4) rfl)
theorem dX8_meet_117 : decode cX8_meet 117 = .ok (.getfield 29, 3) := dk_180 (byr_X8_meet_7 (j := 5) rfl) (byr_X8_meet_7 (j := 6) rfl) (byr_X8_meet_7 (j := 7) rfl) (by decide)
theorem dX8_meet_120 : decode cX8_meet 120 = .ok (.getfield 183, 3) := dk_180 (byr_X8_meet_7 (j := 8) rfl) (byr_X8_meet_7 (j := 9) rfl) (byr_X8_meet_7 (j := 10) rfl) (by decide)
theorem dX8_meet_123 : decode cX8_meet 123 = .ok (.ireturn, 1) := dk_172 (byr_X8_meet_7 (j := 11) rfl)
theorem dX8_meet_124 : decode cX8_meet 124 = .ok (.aload_n 0, 1) := dk_42 (byr_X8_meet_7 (j := 12) rfl)
theorem dX8_meet_125 : decode cX8_meet 125 = .ok (.getfield 29, 3) := dk_180 (byr_X8_meet_7 (j := 13) rfl) (byr_X8_meet_7 (j := 14) rfl) (byr_X8_meet_7 (j := 15) rfl) (by decide)
theorem dX8_meet_128 : decode cX8_meet 128 = .ok (.getfield 186, 3) := dk_180 (byr_X8_meet_8 (j := 0) rfl) (byr_X8_meet_8 (j := 1) rfl) (byr_X8_meet_8 (j := 2) rfl) (by decide)
theorem dX8_meet_131 : decode cX8_meet 131 = .ok (.ireturn, 1) := dk_172 (byr_X8_meet_8 (j := 3) rfl)
theorem dX8_meet_132 : decode cX8_meet 132 = .ok (.aload_n 0, 1) := dk_42 (byr_X8_meet_8 (j := 4) rfl)
theorem dX8_meet_133 : decode cX8_meet 133 = .ok (.getfield 29, 3) := dk_180 (byr_X8_meet_8 (j := 5) rfl) (byr_X8_meet_8 (j := 6) rfl) (byr_X8_meet_8 (j := 7) rfl) (by decide)
theorem dX8_meet_136 : decode cX8_meet 136 = .ok (.getfield 189, 3) := dk_180 (byr_X8_meet_8 (j := 8) rfl) (byr_X8_meet_8 (j := 9) rfl) (byr_X8_meet_8 (j := 10) rfl) (by decide)
theorem dX8_meet_139 : decode cX8_meet 139 = .ok (.ireturn, 1) := dk_172 (byr_X8_meet_8 (j := 11) rfl)
set_option maxHeartbeats 4000000 in
set_option maxRecDepth 100000 in
theorem c_X8_meet (l : Launch) (G : GT) (σ : Sto) (a1 : Int32) (a2 : Int32) (a3 : Int32) (r : (Int32 × Sto)) (h : f_X8_meet σ a1 a2 a3 = some r) : MW l G (7) (181) 0 0 yX8_meet cX8_meet 6 (Option.some Jvm.ClassFile.FieldType.int) [.ref (gad G 0), .int a1, .int a2, .int a3] (wl G σ) (some (.int r.1)) (wl G r.2) := by
  refine mw_of RX8 (fiI G) [(0, .ref (gad G 0)), (1, .int a1), (2, .int a2), (3, .int a3)] (by decide +kernel) rfl (Nat.le_of_ble_eq_true rfl) rfl h rfl (fun p e s m args below meth c X hr hnm => ?_)
  unfold f_X8_meet
  refine sm_aload_n X 1 0 dX8_meet_0 rfl rfl rfl ?_
  refine sm_getf X 4 1 rfl fd_8_0 rfl dX8_meet_1 rfl q_289 ?_
  refine sm_iload_n X 5 1 dX8_meet_4 rfl rfl rfl ?_
  refine sm_bind (fun r5 h5 => ?_)
  refine sm_callV0 X 8 [.int a1] [] [va_re (gad G) r5] (c_X0_swimmerAt l G σ 1 rfl a1 r5 h5) cw_X0_swimmerAt q_376 q_377 q_375 rfl (by decide) rfl rfl rfl rfl rfl (Nat.le_of_ble_eq_true rfl) ⟨Nat.le_of_ble_eq_true rfl, Nat.le_of_ble_eq_true rfl⟩ ⟨Nat.le_refl _, Nat.le_refl _⟩ dX8_meet_5 rfl ?_
  refine sm_astoreq X 10 [(4, va_re (gad G) r5), (0, .ref (gad G 0)), (1, .int a1), (2, .int a2), (3, .int a3)] dX8_meet_8 rfl (by decide) rfl ?_
  refine sm_aload_n X 11 1 dX8_meet_10 rfl rfl rfl ?_
  refine sm_getf X 14 1 rfl fd_8_0 rfl dX8_meet_11 rfl q_289 ?_
  refine sm_iload_n X 15 3 dX8_meet_14 rfl rfl rfl ?_
  refine sm_bind (fun r15 h15 => ?_)
  refine sm_callV0 X 18 [.int a2] [] [va_re (gad G) r15] (c_X0_swimmerAt l G σ 1 rfl a2 r15 h15) cw_X0_swimmerAt q_376 q_377 q_375 rfl (by decide) rfl rfl rfl rfl rfl (Nat.le_of_ble_eq_true rfl) ⟨Nat.le_of_ble_eq_true rfl, Nat.le_of_ble_eq_true rfl⟩ ⟨Nat.le_refl _, Nat.le_refl _⟩ dX8_meet_15 rfl ?_
  refine sm_astoreq X 20 [(5, va_re (gad G) r15), (4, va_re (gad G) r5), (0, .ref (gad G 0)), (1, .int a1), (2, .int a2), (3, .int a3)] dX8_meet_18 rfl (by decide) (by cases r5 <;> rfl) ?_
  refine sm_aloadq X 22 1 dX8_meet_20 rfl rfl ?_
  refine sm_aloadq X 24 0 dX8_meet_22 rfl rfl ?_
  refine sm_bind (fun r24 h24 => ?_)
  refine sm_callS0 X 27 [va_re (gad G) r5, va_re (gad G) r15] [] [.int (b2i r24)] (c_X8_areUnlike l G σ r5 r15 r24 h24) cw_X8_areUnlike q_636 q_635 rfl rfl rfl (Nat.le_of_ble_eq_true rfl) ⟨Nat.le_of_ble_eq_true rfl, Nat.le_of_ble_eq_true rfl⟩ ⟨Nat.le_refl _, Nat.le_refl _⟩ dX8_meet_24 rfl ?_
  refine sm_ifz_eq X 30 39 dX8_meet_27 rfl (by decide) (fun h27 => ?_) (fun h27 => ?_)
  · refine sm_iload_n X 31 5 dX8_meet_30 rfl rfl rfl ?_
    refine sm_iconst X 32 (0) dX8_meet_31 rfl rfl ?_
    refine sm_iconst X 33 (2) dX8_meet_32 rfl rfl ?_
    refine sm_bind (fun r33 h33 => ?_)
    refine sm_callS0 X 36 [.int a3, .int 0, .int 2] [] [.int (b2i r33)] (c_X8_isOutside l G σ a3 (0 : Int32) (2 : Int32) r33 h33) cw_X8_isOutside q_328 q_327 rfl rfl rfl (Nat.le_of_ble_eq_true rfl) ⟨Nat.le_of_ble_eq_true rfl, Nat.le_of_ble_eq_true rfl⟩ ⟨Nat.le_refl _, Nat.le_refl _⟩ dX8_meet_33 rfl ?_
    refine sm_ifz_eq X 39 45 dX8_meet_36 rfl (by decide) (fun h36 => ?_) (fun h36 => ?_)
    · refine sm_aload_n X 40 2 dX8_meet_39 rfl rfl rfl ?_
      refine sm_iconst X 41 (1) dX8_meet_40 rfl rfl ?_
      refine sm_bind (fun r41 h41 => ?_)
      refine sm_callV0 X 44 [.int 1] [] [.int r41.1] (c_X8_refuse l G σ (1 : Int32) r41 h41) cw_X8_refuse q_332 qs_0 q_330 rfl (by decide) rfl rfl rfl rfl rfl (Nat.le_of_ble_eq_true rfl) ⟨Nat.le_of_ble_eq_true rfl, Nat.le_of_ble_eq_true rfl⟩ ⟨Nat.le_refl _, Nat.le_refl _⟩ dX8_meet_41 rfl ?_
      exact sm_iret X hr dX8_meet_44 rfl
    · refine sm_aload_n X 46 2 dX8_meet_45 rfl rfl rfl ?_
      refine sm_getf X 49 58 rfl fd_8_3 rfl dX8_meet_46 rfl q_292 ?_
      refine sm_aload_n X 50 2 dX8_meet_49 rfl rfl rfl ?_
      refine sm_getf X 53 1 rfl fd_8_0 rfl dX8_meet_50 rfl q_289 ?_
      refine sm_aload_n X 54 2 dX8_meet_53 rfl rfl rfl ?_
      refine sm_getf X 57 1 rfl fd_8_0 rfl dX8_meet_54 rfl q_289 ?_
      refine sm_geti X 60 rfl fd_0_1 dX8_meet_57 rfl q_92 ?_
      refine sm_bind (fun r60 h60 => ?_)
      refine sm_callV0 X 63 [.ref (gad G 1), .int (σ.1 1 1)] [] [] (c_X5_feel l G σ 1 rfl (σ.1 1 1) r60 h60) cw_X5_feel q_603 q_604 q_602 rfl (by decide) rfl rfl rfl rfl rfl (Nat.le_of_ble_eq_true rfl) ⟨Nat.le_of_ble_eq_true rfl, Nat.le_of_ble_eq_true rfl⟩ ⟨Nat.le_refl _, Nat.le_refl _⟩ dX8_meet_60 rfl ?_
      refine sm_aload_n X 64 2 dX8_meet_63 rfl rfl rfl ?_
      refine sm_getf X 67 58 rfl fd_8_3 rfl dX8_meet_64 rfl q_292 ?_
      refine sm_aloadq X 69 1 dX8_meet_67 rfl rfl ?_
      refine sm_aloadq X 71 0 dX8_meet_69 rfl rfl ?_
      refine sm_aload_n X 72 2 dX8_meet_71 rfl rfl rfl ?_
      refine sm_getf X 75 1 rfl fd_8_0 rfl dX8_meet_72 rfl q_289 ?_
      refine sm_geti X 78 rfl fd_0_2 dX8_meet_75 rfl q_94 ?_
      refine sm_deref (fun k78 h hk78 => ?_)
      subst h
      refine sm_deref (fun k78' h hk78' => ?_)
      subst h
      refine sm_bind (fun r78 h78 => ?_)
      refine sm_callV0 X 81 [.ref (gad G k78), .ref (gad G k78'), .int (r60.1 1 2)] [] [.int (b2i r78.1)] (c_X5_meets l G r60 k78 hk78 k78' hk78' (r60.1 1 2) r78 h78) cw_X5_meets q_639 q_640 q_638 rfl (by decide) rfl rfl rfl rfl rfl (Nat.le_of_ble_eq_true rfl) ⟨Nat.le_of_ble_eq_true rfl, Nat.le_of_ble_eq_true rfl⟩ ⟨Nat.le_refl _, Nat.le_refl _⟩ dX8_meet_78 rfl ?_
      refine sm_ifz_ne X 84 90 dX8_meet_81 rfl (by decide) (fun h81 => ?_) (fun h81 => ?_)
      · refine sm_iload_n X 91 5 dX8_meet_90 rfl rfl rfl ?_
        refine sm_if (fun h91_0 => ?_) (fun h91_0 => ?_)
        · refine sm_lookup X 116 dX8_meet_91 (by decide) (by first | (rw [h91_0]; done) | (rw [h91_0]; rfl)) (by decide) ?_
          refine sm_aload_n X 117 2 dX8_meet_116 rfl rfl rfl ?_
          refine sm_getf X 120 58 rfl fd_8_3 rfl dX8_meet_117 rfl q_292 ?_
          refine sm_geti X 123 rfl fd_5_1 dX8_meet_120 rfl q_188 ?_
          exact sm_iret X hr dX8_meet_123 rfl
        refine sm_if (fun h91_1 => ?_) (fun h91_1 => ?_)
        · refine sm_lookup X 124 dX8_meet_91 (by decide) (by first | (rw [h91_1]; done) | (rw [h91_1]; rfl)) (by decide) ?_
          refine sm_aload_n X 125 2 dX8_meet_124 rfl rfl rfl ?_
          refine sm_getf X 128 58 rfl fd_8_3 rfl dX8_meet_125 rfl q_292 ?_
          refine sm_geti X 131 rfl fd_5_2 dX8_meet_128 rfl q_190 ?_
          exact sm_iret X hr dX8_meet_131 rfl
        have q0 : ¬ (a3).toInt = 0 := ne_toInt h91_0
        have q1 : ¬ (a3).toInt = 1 := ne_toInt h91_1
        refine sm_lookup X (off := 41) 132 dX8_meet_91 (by decide) (by simp [Op.lookupswitch.offset, q0, Ne.symm q0, q1, Ne.symm q1]) (by decide) ?_
        refine sm_aload_n X 133 2 dX8_meet_132 rfl rfl rfl ?_
        refine sm_getf X 136 58 rfl fd_8_3 rfl dX8_meet_133 rfl q_292 ?_
        refine sm_geti X 139 rfl fd_5_3 dX8_meet_136 rfl q_192 ?_
        exact sm_iret X hr dX8_meet_139 rfl
      · refine sm_aload_n X 85 2 dX8_meet_84 rfl rfl rfl ?_
        refine sm_iconst X 86 (2) dX8_meet_85 rfl rfl ?_
        refine sm_bind (fun r86 h86 => ?_)
        refine sm_callV0 X 89 [.int 2] [] [.int r86.1] (c_X8_refuse l G r78.2 (2 : Int32) r86 h86) cw_X8_refuse q_332 qs_0 q_330 rfl (by decide) rfl rfl rfl rfl rfl (Nat.le_of_ble_eq_true rfl) ⟨Nat.le_of_ble_eq_true rfl, Nat.le_of_ble_eq_true rfl⟩ ⟨Nat.le_refl _, Nat.le_refl _⟩ dX8_meet_86 rfl ?_
        exact sm_iret X hr dX8_meet_89 rfl
  · refine sm_aload_n X 40 2 dX8_meet_39 rfl rfl rfl ?_
    refine sm_iconst X 41 (1) dX8_meet_40 rfl rfl ?_
    refine sm_bind (fun r41 h41 => ?_)
    refine sm_callV0 X 44 [.int 1] [] [.int r41.1] (c_X8_refuse l G σ (1 : Int32) r41 h41) cw_X8_refuse q_332 qs_0 q_330 rfl (by decide) rfl rfl rfl rfl rfl (Nat.le_of_ble_eq_true rfl) ⟨Nat.le_of_ble_eq_true rfl, Nat.le_of_ble_eq_true rfl⟩ ⟨Nat.le_refl _, Nat.le_refl _⟩ dX8_meet_41 rfl ?_
    exact sm_iret X hr dX8_meet_44 rfl
