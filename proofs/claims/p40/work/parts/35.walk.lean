def by_X9_training_0 : List Nat := [42, 27, 28, 182, 0, 207, 153, 0, 15, 29, 133, 9, 20, 0, 159, 184]
def by_X9_training_1 : List Nat := [0, 49, 154, 0, 9, 42, 4, 182, 0, 126, 172, 42, 27, 6, 182, 0]
def by_X9_training_2 : List Nat := [172, 54, 4, 42, 27, 5, 182, 0, 172, 54, 5, 2, 54, 6, 16, 30]
def by_X9_training_3 : List Nat := [54, 7, 21, 7, 155, 0, 48, 42, 27, 6, 21, 7, 182, 0, 166, 42]
def by_X9_training_4 : List Nat := [27, 28, 182, 0, 213, 153, 0, 21, 21, 5, 29, 42, 180, 0, 204, 184]
def by_X9_training_5 : List Nat := [0, 242, 154, 0, 8, 21, 7, 167, 0, 5, 21, 6, 54, 6, 132, 7]
def by_X9_training_6 : List Nat := [255, 167, 255, 209, 42, 27, 6, 21, 4, 182, 0, 166, 21, 6, 156, 0]
def by_X9_training_z : List Nat := [11, 42, 5, 182, 0, 126, 167, 0, 5, 21, 6, 172]
def by_X9_training : List (List Nat) := [by_X9_training_0, by_X9_training_1, by_X9_training_2, by_X9_training_3, by_X9_training_4, by_X9_training_5, by_X9_training_6]
set_option maxRecDepth 100000 in
theorem byo_X9_training : cX9_training.data.toList.map UInt8.toNat = by_X9_training.flatten ++ by_X9_training_z := by decide +kernel
theorem byl_X9_training : by_X9_training.all (fun r => r.length == 16) = true := by decide +kernel
theorem byr_X9_training_0 {j v : Nat} (h : by_X9_training_0[j]? = some v) : RD cX9_training (0 + j) v := rd_16 byo_X9_training byl_X9_training 0 rfl h
theorem byr_X9_training_1 {j v : Nat} (h : by_X9_training_1[j]? = some v) : RD cX9_training (16 + j) v := rd_16 byo_X9_training byl_X9_training 1 rfl h
theorem byr_X9_training_2 {j v : Nat} (h : by_X9_training_2[j]? = some v) : RD cX9_training (32 + j) v := rd_16 byo_X9_training byl_X9_training 2 rfl h
theorem byr_X9_training_3 {j v : Nat} (h : by_X9_training_3[j]? = some v) : RD cX9_training (48 + j) v := rd_16 byo_X9_training byl_X9_training 3 rfl h
theorem byr_X9_training_4 {j v : Nat} (h : by_X9_training_4[j]? = some v) : RD cX9_training (64 + j) v := rd_16 byo_X9_training byl_X9_training 4 rfl h
theorem byr_X9_training_5 {j v : Nat} (h : by_X9_training_5[j]? = some v) : RD cX9_training (80 + j) v := rd_16 byo_X9_training byl_X9_training 5 rfl h
theorem byr_X9_training_6 {j v : Nat} (h : by_X9_training_6[j]? = some v) : RD cX9_training (96 + j) v := rd_16 byo_X9_training byl_X9_training 6 rfl h
theorem byr_X9_training_7 {j v : Nat} (h : by_X9_training_z[j]? = some v) : RD cX9_training (112 + j) v := rd_z byo_X9_training byl_X9_training 7 rfl h
theorem dX9_training_0 : decode cX9_training 0 = .ok (.aload_n 0, 1) := dk_42 (byr_X9_training_0 (j := 0) rfl)
theorem dX9_training_1 : decode cX9_training 1 = .ok (.iload_n 1, 1) := dk_27 (byr_X9_training_0 (j := 1) rfl)
theorem dX9_training_2 : decode cX9_training 2 = .ok (.iload_n 2, 1) := dk_28 (byr_X9_training_0 (j := 2) rfl)
theorem dX9_training_3 : decode cX9_training 3 = .ok (.invokevirtual 207, 3) := dk_182 (byr_X9_training_0 (j := 3) rfl) (byr_X9_training_0 (j := 4) rfl) (byr_X9_training_0 (j := 5) rfl) (by decide)
theorem dX9_training_6 : decode cX9_training 6 = .ok (.ifCond .eq 15, 3) := dk_153 (byr_X9_training_0 (j := 6) rfl) (byr_X9_training_0 (j := 7) rfl) (byr_X9_training_0 (j := 8) rfl) (by decide)
theorem dX9_training_9 : decode cX9_training 9 = .ok (.iload_n 3, 1) := dk_29 (byr_X9_training_0 (j := 9) rfl)
theorem dX9_training_10 : decode cX9_training 10 = .ok (.i2l, 1) := dk_133 (byr_X9_training_0 (j := 10) rfl)
theorem dX9_training_11 : decode cX9_training 11 = .ok (.lconst 0, 1) := dk_9 (byr_X9_training_0 (j := 11) rfl)
theorem dX9_training_12 : decode cX9_training 12 = .ok (.ldc2_w 159, 3) := dk_20 (byr_X9_training_0 (j := 12) rfl) (byr_X9_training_0 (j := 13) rfl) (byr_X9_training_0 (j := 14) rfl) (by decide)
theorem dX9_training_15 : decode cX9_training 15 = .ok (.invokestatic 49, 3) := dk_184 (byr_X9_training_0 (j := 15) rfl) (byr_X9_training_1 (j := 0) rfl) (byr_X9_training_1 (j := 1) rfl) (by decide)
theorem dX9_training_18 : decode cX9_training 18 = .ok (.ifCond .ne 9, 3) := dk_154 (byr_X9_training_1 (j := 2) rfl) (byr_X9_training_1 (j := 3) rfl) (byr_X9_training_1 (j := 4) rfl) (by decide)
theorem dX9_training_21 : decode cX9_training 21 = .ok (.aload_n 0, 1) := dk_42 (byr_X9_training_1 (j := 5) rfl)
theorem dX9_training_22 : decode cX9_training 22 = .ok (.iconst 1, 1) := dk_4 (byr_X9_training_1 (j := 6) rfl)
theorem dX9_training_23 : decode cX9_training 23 = .ok (.invokevirtual 126, 3) := dk_182 (byr_X9_training_1 (j := 7) rfl) (byr_X9_training_1 (j := 8) rfl) (byr_X9_training_1 (j := 9) rfl) (by decide)
theorem dX9_training_26 : decode cX9_training 26 = .ok (.ireturn, 1) := dk_172 (byr_X9_training_1 (j := 10) rfl)
theorem dX9_training_27 : decode cX9_training 27 = .ok (.aload_n 0, 1) := dk_42 (byr_X9_training_1 (j := 11) rfl)
theorem dX9_training_28 : decode cX9_training 28 = .ok (.iload_n 1, 1) := dk_27 (byr_X9_training_1 (j := 12) rfl)
theorem dX9_training_29 : decode cX9_training 29 = .ok (.iconst 3, 1) := dk_6 (byr_X9_training_1 (j := 13) rfl)
theorem dX9_training_30 : decode cX9_training 30 = .ok (.invokevirtual 172, 3) := dk_182 (byr_X9_training_1 (j := 14) rfl) (byr_X9_training_1 (j := 15) rfl) (byr_X9_training_2 (j := 0) rfl) (by decide)
theorem dX9_training_33 : decode cX9_training 33 = .ok (.istore 4, 2) := dk_54 (byr_X9_training_2 (j := 1) rfl) (byr_X9_training_2 (j := 2) rfl)
theorem dX9_training_35 : decode cX9_training 35 = .ok (.aload_n 0, 1) := dk_42 (byr_X9_training_2 (j := 3) rfl)
theorem dX9_training_36 : decode cX9_training 36 = .ok (.iload_n 1, 1) := dk_27 (byr_X9_training_2 (j := 4) rfl)
theorem dX9_training_37 : decode cX9_training 37 = .ok (.iconst 2, 1) := dk_5 (byr_X9_training_2 (j := 5) rfl)
theorem dX9_training_38 : decode cX9_training 38 = .ok (.invokevirtual 172, 3) := dk_182 (byr_X9_training_2 (j := 6) rfl) (byr_X9_training_2 (j := 7) rfl) (byr_X9_training_2 (j := 8) rfl) (by decide)
theorem dX9_training_41 : decode cX9_training 41 = .ok (.istore 5, 2) := dk_54 (byr_X9_training_2 (j := 9) rfl) (byr_X9_training_2 (j := 10) rfl)
theorem dX9_training_43 : decode cX9_training 43 = .ok (.iconst (-1), 1) := dk_2 (byr_X9_training_2 (j := 11) rfl)
theorem dX9_training_44 : decode cX9_training 44 = .ok (.istore 6, 2) := dk_54 (byr_X9_training_2 (j := 12) rfl) (byr_X9_training_2 (j := 13) rfl)
theorem dX9_training_46 : decode cX9_training 46 = .ok (.bipush 30, 2) := dk_16 (byr_X9_training_2 (j := 14) rfl) (byr_X9_training_2 (j := 15) rfl) (by decide)
theorem dX9_training_48 : decode cX9_training 48 = .ok (.istore 7, 2) := dk_54 (byr_X9_training_3 (j := 0) rfl) (byr_X9_training_3 (j := 1) rfl)
theorem dX9_training_50 : decode cX9_training 50 = .ok (.iload 7, 2) := dk_21 (byr_X9_training_3 (j := 2) rfl) (byr_X9_training_3 (j := 3) rfl)
theorem dX9_training_52 : decode cX9_training 52 = .ok (.ifCond .lt 48, 3) := dk_155 (byr_X9_training_3 (j := 4) rfl) (byr_X9_training_3 (j := 5) rfl) (byr_X9_training_3 (j := 6) rfl) (by decide)
theorem dX9_training_55 : decode cX9_training 55 = .ok (.aload_n 0, 1) := dk_42 (byr_X9_training_3 (j := 7) rfl)
theorem dX9_training_56 : decode cX9_training 56 = .ok (.iload_n 1, 1) := dk_27 (byr_X9_training_3 (j := 8) rfl)
theorem dX9_training_57 : decode cX9_training 57 = .ok (.iconst 3, 1) := dk_6 (byr_X9_training_3 (j := 9) rfl)
theorem dX9_training_58 : decode cX9_training 58 = .ok (.iload 7, 2) := dk_21 (byr_X9_training_3 (j := 10) rfl) (byr_X9_training_3 (j := 11) rfl)
theorem dX9_training_60 : decode cX9_training 60 = .ok (.invokevirtual 166, 3) := dk_182 (byr_X9_training_3 (j := 12) rfl) (byr_X9_training_3 (j := 13) rfl) (byr_X9_training_3 (j := 14) rfl) (by decide)
theorem dX9_training_63 : decode cX9_training 63 = .ok (.aload_n 0, 1) := dk_42 (byr_X9_training_3 (j := 15) rfl)
theorem dX9_training_64 : decode cX9_training 64 = .ok (.iload_n 1, 1) := dk_27 (byr_X9_training_4 (j := 0) rfl)
theorem dX9_training_65 : decode cX9_training 65 = .ok (.iload_n 2, 1) := dk_28 (byr_X9_training_4 (j := 1) rfl)
theorem dX9_training_66 : decode cX9_training 66 = .ok (.invokevirtual 213, 3) := dk_182 (byr_X9_training_4 (j := 2) rfl) (byr_X9_training_4 (j := 3) rfl) (byr_X9_training_4 (j := 4) rfl) (by decide)
theorem dX9_training_69 : decode cX9_training 69 = .ok (.ifCond .eq 21, 3) := dk_153 (byr_X9_training_4 (j := 5) rfl) (byr_X9_training_4 (j := 6) rfl) (byr_X9_training_4 (j := 7) rfl) (by decide)
theorem dX9_training_72 : decode cX9_training 72 = .ok (.iload 5, 2) := dk_21 (byr_X9_training_4 (j := 8) rfl) (byr_X9_training_4 (j := 9) rfl)
theorem dX9_training_74 : decode cX9_training 74 = .ok (.iload_n 3, 1) := dk_29 (byr_X9_training_4 (j := 10) rfl)
theorem dX9_training_75 : decode cX9_training 75 = .ok (.aload_n 0, 1) := dk_42 (byr_X9_training_4 (j := 11) rfl)
theorem dX9_training_76 : decode cX9_training 76 = .ok (.getfield 204, 3) := dk_180 (byr_X9_training_4 (j := 12) rfl) (byr_X9_training_4 (j := 13) rfl) (byr_X9_training_4 (j := 14) rfl) (by decide)
theorem dX9_training_79 : decode cX9_training 79 = .ok (.invokestatic 242, 3) := dk_184 (byr_X9_training_4 (j := 15) rfl) (byr_X9_training_5 (j := 0) rfl) (byr_X9_training_5 (j := 1) rfl) (by decide)
theorem dX9_training_82 : decode cX9_training 82 = .ok (.ifCond .ne 8, 3) := dk_154 (byr_X9_training_5 (j := 2) rfl) (byr_X9_training_5 (j := 3) rfl) (byr_X9_training_5 (j := 4) rfl) (by decide)
theorem dX9_training_85 : decode cX9_training 85 = .ok (.iload 7, 2) := dk_21 (byr_X9_training_5 (j := 5) rfl) (byr_X9_training_5 (j := 6) rfl)
theorem dX9_training_87 : decode cX9_training 87 = .ok (.goto 5, 3) := dk_167 (byr_X9_training_5 (j := 7) rfl) (byr_X9_training_5 (j := 8) rfl) (byr_X9_training_5 (j := 9) rfl) (by decide)
theorem dX9_training_90 : decode cX9_training 90 = .ok (.iload 6, 2) := dk_21 (byr_X9_training_5 (j := 10) rfl) (byr_X9_training_5 (j := 11) rfl)
theorem dX9_training_92 : decode cX9_training 92 = .ok (.istore 6, 2) := dk_54 (byr_X9_training_5 (j := 12) rfl) (byr_X9_training_5 (j := 13) rfl)
theorem dX9_training_94 : decode cX9_training 94 = .ok (.iinc 7 (-1), 3) := dk_132 (byr_X9_training_5 (j := 14) rfl) (byr_X9_training_5 (j := 15) rfl) (byr_X9_training_6 (j := 0) rfl) (by decide)
theorem dX9_training_97 : decode cX9_training 97 = .ok (.goto (-47), 3) := dk_167 (byr_X9_training_6 (j := 1) rfl) (byr_X9_training_6 (j := 2) rfl) (byr_X9_training_6 (j := 3) rfl) (by decide)
theorem dX9_training_100 : decode cX9_training 100 = .ok (.aload_n 0, 1) := dk_42 (byr_X9_training_6 (j := 4) rfl)
theorem dX9_training_101 : decode cX9_training 101 = .ok (.iload_n 1, 1) := dk_27 (byr_X9_training_6 (j := 5) rfl)
theorem dX9_training_102 : decode cX9_training 102 = .ok (.iconst 3, 1) := dk_6 (byr_X9_training_6 (j := 6) rfl)
theorem dX9_training_103 : decode cX9_training 103 = .ok (.iload 4, 2) := dk_21 (byr_X9_training_6 (j := 7) rfl) (byr_X9_training_6 (j := 8) rfl)
theorem dX9_training_105 : decode cX9_training 105 = .ok (.invokevirtual 166, 3) := dk_182 (byr_X9_training_6 (j := 9) rfl) (byr_X9_training_6 (j := 10) rfl) (byr_X9_training_6 (j := 11) rfl) (by decide)
theorem dX9_training_108 : decode cX9_training 108 = .ok (.iload 6, 2) := dk_21 (byr_X9_training_6 (j := 12) rfl) (byr_X9_training_6 (j := 13) rfl)
theorem dX9_training_110 : decode cX9_training 110 = .ok (.ifCond .ge 11, 3) := dk_156 (byr_X9_training_6 (j := 14) rfl) (byr_X9_training_6 (j := 15) rfl) (byr_X9_training_7 (j := 0) rfl) (by decide)
theorem dX9_training_113 : decode cX9_training 113 = .ok (.aload_n 0, 1) := dk_42 (byr_X9_training_7 (j := 1) rfl)
theorem dX9_training_114 : decode cX9_training 114 = .ok (.iconst 2, 1) := dk_5 (byr_X9_training_7 (j := 2) rfl)
theorem dX9_training_115 : decode cX9_training 115 = .ok (.invokevirtual 126, 3) := dk_182 (byr_X9_training_7 (j := 3) rfl) (byr_X9_training_7 (j := 4) rfl) (byr_X9_training_7 (j := 5) rfl) (by decide)
theorem dX9_training_118 : decode cX9_training 118 = .ok (.goto 5, 3) := dk_167 (byr_X9_training_7 (j := 6) rfl) (byr_X9_training_7 (j := 7) rfl) (byr_X9_training_7 (j := 8) rfl) (by decide)
theorem dX9_training_121 : decode cX9_training 121 = .ok (.iload 6, 2) := dk_21 (byr_X9_training_7 (j := 9) rfl) (byr_X9_training_7 (j := 10) rfl)
theorem dX9_training_123 : decode cX9_training 123 = .ok (.ireturn, 1) := dk_172 (byr_X9_training_7 (j := 11) rfl)
set_option maxHeartbeats 4000000 in
set_option maxRecDepth 100000 in
theorem c_X9_training (l : Launch) (G : GT) (σ : Sto) (a1 : Int32) (a2 : Int32) (a3 : Int32) (r : (Int32 × Sto)) (h : f_X9_training σ a1 a2 a3 = some r) : MW l G (8) (208) 0 0 yX9_training cX9_training 8 (Option.some Jvm.ClassFile.FieldType.int) [.ref (gad G 81), .int a1, .int a2, .int a3] (wl G σ) (some (.int r.1)) (wl G r.2) := by
  refine mw_of RX9 (fiI G) [(0, .ref (gad G 81)), (1, .int a1), (2, .int a2), (3, .int a3)] (by decide +kernel) rfl (Nat.le_of_ble_eq_true rfl) rfl h rfl (fun p e s m args below meth c X hr hnm => ?_)
  have J92 : ∀ (v1 : Int32) (v2 : Int32) (v3 : Int32) (v4 : Int32) (v5 : Int32) (v7 : Int32) (vs0 : Int32) (K50 : Int32 → Int32 → Sto → Option (Int32 × Sto)) (hK50 : ∀ (v6' : Int32) (v7' : Int32) (σ' : Sto), Sm p l e { frames := 8, cells := 0, slots := 0, locals := 208 } s m args below meth c G 8 (Qm below args s G 0 0 (fiI G)) 0 0 (wl G σ') 50 [(0, .ref (gad G 81)), (1, .int v1), (2, .int v2), (3, .int v3), (4, .int v4), (5, .int v5), (6, .int v6'), (7, .int v7')] [] (K50 v6' v7' σ')) (σ : Sto), Sm p l e { frames := 8, cells := 0, slots := 0, locals := 208 } s m args below meth c G 8 (Qm below args s G 0 0 (fiI G)) 0 0 (wl G σ) 92 [(0, .ref (gad G 81)), (1, .int v1), (2, .int v2), (3, .int v3), (4, .int v4), (5, .int v5), (7, .int v7)] [.int vs0] (f_X9_training_L92 K50 v1 v2 v3 v4 v5 v7 vs0 σ) := by
    intro v1 v2 v3 v4 v5 v7 vs0 K50 hK50 σ
    rw [f_X9_training_L92]
    refine sm_istore X 94 [(6, .int vs0), (0, .ref (gad G 81)), (1, .int v1), (2, .int v2), (3, .int v3), (4, .int v4), (5, .int v5), (7, .int v7)] dX9_training_92 rfl (by decide) rfl ?_
    refine sm_iinc X 97 7 (-1 : Int32) [(7, .int (v7 + (-1 : Int32))), (6, .int vs0), (0, .ref (gad G 81)), (1, .int v1), (2, .int v2), (3, .int v3), (4, .int v4), (5, .int v5)] dX9_training_94 rfl rfl rfl (by decide) rfl ?_
    refine sm_goto X 50 dX9_training_97 (by decide) ?_
    exact sm_sub [2, 3, 4, 5, 6, 7, 1, 0] rfl (hK50 vs0 (v7 + (-1 : Int32)) σ)
  have J90 : ∀ (v1 : Int32) (v2 : Int32) (v3 : Int32) (v4 : Int32) (v5 : Int32) (v6 : Int32) (v7 : Int32) (K50 : Int32 → Int32 → Sto → Option (Int32 × Sto)) (hK50 : ∀ (v6' : Int32) (v7' : Int32) (σ' : Sto), Sm p l e { frames := 8, cells := 0, slots := 0, locals := 208 } s m args below meth c G 8 (Qm below args s G 0 0 (fiI G)) 0 0 (wl G σ') 50 [(0, .ref (gad G 81)), (1, .int v1), (2, .int v2), (3, .int v3), (4, .int v4), (5, .int v5), (6, .int v6'), (7, .int v7')] [] (K50 v6' v7' σ')) (σ : Sto), Sm p l e { frames := 8, cells := 0, slots := 0, locals := 208 } s m args below meth c G 8 (Qm below args s G 0 0 (fiI G)) 0 0 (wl G σ) 90 [(0, .ref (gad G 81)), (1, .int v1), (2, .int v2), (3, .int v3), (4, .int v4), (5, .int v5), (6, .int v6), (7, .int v7)] [] (f_X9_training_L90 K50 v1 v2 v3 v4 v5 v6 v7 σ) := by
    intro v1 v2 v3 v4 v5 v6 v7 K50 hK50 σ
    rw [f_X9_training_L90]
    refine sm_iload X 92 6 dX9_training_90 rfl rfl ?_
    exact sm_sub [0, 1, 2, 3, 4, 5, 7] rfl (J92 v1 v2 v3 v4 v5 v7 v6 K50 hK50 σ)
  have J50 : ∀ (v1 : Int32) (v2 : Int32) (v3 : Int32) (v4 : Int32) (v5 : Int32)  (n : Nat) (v6 : Int32) (v7 : Int32) (σ : Sto), Sm p l e { frames := 8, cells := 0, slots := 0, locals := 208 } s m args below meth c G 8 (Qm below args s G 0 0 (fiI G)) 0 0 (wl G σ) 50 [(0, .ref (gad G 81)), (1, .int v1), (2, .int v2), (3, .int v3), (4, .int v4), (5, .int v5), (6, .int v6), (7, .int v7)] [] (f_X9_training_L50  v1 v2 v3 v4 v5 n v6 v7 σ) := by
    intro v1 v2 v3 v4 v5 n
    induction n with
    | zero => intro v6 v7 σ; rw [f_X9_training_L50]; exact sm_none
    | succ n ihl =>
      intro v6 v7 σ
      rw [f_X9_training_L50]
      refine sm_iload X 52 7 dX9_training_50 rfl rfl ?_
      refine sm_if_lt X 55 100 dX9_training_52 rfl (by decide) (fun h52 => ?_) (fun h52 => ?_)
      · refine sm_aload_n X 101 0 dX9_training_100 rfl rfl rfl ?_
        refine sm_iload_n X 102 1 dX9_training_101 rfl rfl rfl ?_
        refine sm_iconst X 103 (3) dX9_training_102 rfl rfl ?_
        refine sm_iload X 105 4 dX9_training_103 rfl rfl ?_
        refine sm_bind (fun r105 h105 => ?_)
        refine sm_callV0 X 108 [.int v1, .int 3, .int v4] [] [] (c_X9_becomes l G σ v1 (3 : Int32) v4 r105 h105) cw_X9_becomes q_1078 qs_43 q_1076 rfl (by decide) rfl rfl rfl rfl rfl (Nat.le_of_ble_eq_true rfl) ⟨Nat.le_of_ble_eq_true rfl, Nat.le_of_ble_eq_true rfl⟩ ⟨Nat.le_refl _, Nat.le_refl _⟩ dX9_training_105 rfl ?_
        refine sm_iload X 110 6 dX9_training_108 rfl rfl ?_
        refine sm_if_ge X 113 121 dX9_training_110 rfl (by decide) (fun h110 => ?_) (fun h110 => ?_)
        · refine sm_iload X 123 6 dX9_training_121 rfl rfl ?_
          exact sm_iret X hr dX9_training_123 rfl
        · refine sm_aload_n X 114 0 dX9_training_113 rfl rfl rfl ?_
          refine sm_iconst X 115 (2) dX9_training_114 rfl rfl ?_
          refine sm_bind (fun r115 h115 => ?_)
          refine sm_callV0 X 118 [.int 2] [] [.int r115.1] (c_X9_finds l G r105 (2 : Int32) r115 h115) cw_X9_finds q_965 qs_26 q_963 rfl (by decide) rfl rfl rfl rfl rfl (Nat.le_of_ble_eq_true rfl) ⟨Nat.le_of_ble_eq_true rfl, Nat.le_of_ble_eq_true rfl⟩ ⟨Nat.le_refl _, Nat.le_refl _⟩ dX9_training_115 rfl ?_
          refine sm_goto X 123 dX9_training_118 (by decide) ?_
          exact sm_iret X hr dX9_training_123 rfl
      · refine sm_aload_n X 56 0 dX9_training_55 rfl rfl rfl ?_
        refine sm_iload_n X 57 1 dX9_training_56 rfl rfl rfl ?_
        refine sm_iconst X 58 (3) dX9_training_57 rfl rfl ?_
        refine sm_iload X 60 7 dX9_training_58 rfl rfl ?_
        refine sm_bind (fun r60 h60 => ?_)
        refine sm_callV0 X 63 [.int v1, .int 3, .int v7] [] [] (c_X9_becomes l G σ v1 (3 : Int32) v7 r60 h60) cw_X9_becomes q_1078 qs_43 q_1076 rfl (by decide) rfl rfl rfl rfl rfl (Nat.le_of_ble_eq_true rfl) ⟨Nat.le_of_ble_eq_true rfl, Nat.le_of_ble_eq_true rfl⟩ ⟨Nat.le_refl _, Nat.le_refl _⟩ dX9_training_60 rfl ?_
        refine sm_aload_n X 64 0 dX9_training_63 rfl rfl rfl ?_
        refine sm_iload_n X 65 1 dX9_training_64 rfl rfl rfl ?_
        refine sm_iload_n X 66 2 dX9_training_65 rfl rfl rfl ?_
        refine sm_bind (fun r66 h66 => ?_)
        refine sm_callV0 X 69 [.int v1, .int v2] [] [.int (b2i r66.1)] (c_X9_swim l G r60 v1 v2 r66 h66) cw_X9_swim q_1152 qs_50 q_1150 rfl (by decide) rfl rfl rfl rfl rfl (Nat.le_of_ble_eq_true rfl) ⟨Nat.le_of_ble_eq_true rfl, Nat.le_of_ble_eq_true rfl⟩ ⟨Nat.le_refl _, Nat.le_refl _⟩ dX9_training_66 rfl ?_
        refine sm_ifz_eq X 72 90 dX9_training_69 rfl (by decide) (fun h69 => ?_) (fun h69 => ?_)
        · refine sm_iload X 74 5 dX9_training_72 rfl rfl ?_
          refine sm_iload_n X 75 3 dX9_training_74 rfl rfl rfl ?_
          refine sm_aload_n X 76 0 dX9_training_75 rfl rfl rfl ?_
          refine sm_geti X 79 rfl fd_9_16 dX9_training_76 rfl q_898 ?_
          refine sm_bind (fun r79 h79 => ?_)
          refine sm_callS0 X 82 [.int v5, .int v3, .int (r66.2.1 81 16)] [] [.int (b2i r79)] (c_X9_isBetter l G r66.2 v5 v3 (r66.2.1 81 16) r79 h79) cw_X9_isBetter q_1192 q_1191 rfl rfl rfl (Nat.le_of_ble_eq_true rfl) ⟨Nat.le_of_ble_eq_true rfl, Nat.le_of_ble_eq_true rfl⟩ ⟨Nat.le_refl _, Nat.le_refl _⟩ dX9_training_79 rfl ?_
          refine sm_ifz_ne X 85 90 dX9_training_82 rfl (by decide) (fun h82 => ?_) (fun h82 => ?_)
          · exact sm_sub [0, 1, 2, 3, 4, 5, 6, 7] rfl (J90 v1 v2 v3 v4 v5 v6 v7 (f_X9_training_L50  v1 v2 v3 v4 v5 n) ihl r66.2)
          · refine sm_iload X 87 7 dX9_training_85 rfl rfl ?_
            refine sm_goto X 92 dX9_training_87 (by decide) ?_
            exact sm_sub [0, 1, 2, 3, 4, 5, 7] rfl (J92 v1 v2 v3 v4 v5 v7 v7 (f_X9_training_L50  v1 v2 v3 v4 v5 n) ihl r66.2)
        · exact sm_sub [0, 1, 2, 3, 4, 5, 6, 7] rfl (J90 v1 v2 v3 v4 v5 v6 v7 (f_X9_training_L50  v1 v2 v3 v4 v5 n) ihl r66.2)
  unfold f_X9_training
  refine sm_aload_n X 1 0 dX9_training_0 rfl rfl rfl ?_
  refine sm_iload_n X 2 1 dX9_training_1 rfl rfl rfl ?_
  refine sm_iload_n X 3 2 dX9_training_2 rfl rfl rfl ?_
  refine sm_bind (fun r3 h3 => ?_)
  refine sm_callV0 X 6 [.int a1, .int a2] [] [.int (b2i r3)] (c_X9_areUnlike l G σ a1 a2 r3 h3) cw_X9_areUnlike q_1147 qs_49 q_1145 rfl (by decide) rfl rfl rfl rfl rfl (Nat.le_of_ble_eq_true rfl) ⟨Nat.le_of_ble_eq_true rfl, Nat.le_of_ble_eq_true rfl⟩ ⟨Nat.le_refl _, Nat.le_refl _⟩ dX9_training_3 rfl ?_
  refine sm_ifz_eq X 9 21 dX9_training_6 rfl (by decide) (fun h6 => ?_) (fun h6 => ?_)
  · refine sm_iload_n X 10 3 dX9_training_9 rfl rfl rfl ?_
    refine sm_i2l X 11 dX9_training_10 rfl ?_
    refine sm_lconst X 12 (0) dX9_training_11 rfl rfl ?_
    refine sm_ldc2 X 15 (1200) dX9_training_12 rfl q_1062 ?_
    refine sm_bind (fun r15 h15 => ?_)
    refine sm_callS0 X 18 [.long (Int32.toInt64 a3), .long (0 : Int64), .long (1200 : Int64)] [] [.int (b2i r15)] (c_X9_in l G σ (Int32.toInt64 a3) (0 : Int64) (1200 : Int64) r15 h15) cw_X9_in q_961 q_960 rfl rfl rfl (Nat.le_of_ble_eq_true rfl) ⟨Nat.le_of_ble_eq_true rfl, Nat.le_of_ble_eq_true rfl⟩ ⟨Nat.le_refl _, Nat.le_refl _⟩ dX9_training_15 rfl ?_
    refine sm_ifz_ne X 21 27 dX9_training_18 rfl (by decide) (fun h18 => ?_) (fun h18 => ?_)
    · refine sm_aload_n X 28 0 dX9_training_27 rfl rfl rfl ?_
      refine sm_iload_n X 29 1 dX9_training_28 rfl rfl rfl ?_
      refine sm_iconst X 30 (3) dX9_training_29 rfl rfl ?_
      refine sm_bind (fun r30 h30 => ?_)
      refine sm_callV0 X 33 [.int a1, .int 3] [] [.int r30] (c_X9_of l G σ a1 (3 : Int32) r30 h30) cw_X9_of q_1090 qs_45 q_1088 rfl (by decide) rfl rfl rfl rfl rfl (Nat.le_of_ble_eq_true rfl) ⟨Nat.le_of_ble_eq_true rfl, Nat.le_of_ble_eq_true rfl⟩ ⟨Nat.le_refl _, Nat.le_refl _⟩ dX9_training_30 rfl ?_
      refine sm_istore X 35 [(4, .int r30), (0, .ref (gad G 81)), (1, .int a1), (2, .int a2), (3, .int a3)] dX9_training_33 rfl (by decide) rfl ?_
      refine sm_aload_n X 36 1 dX9_training_35 rfl rfl rfl ?_
      refine sm_iload_n X 37 2 dX9_training_36 rfl rfl rfl ?_
      refine sm_iconst X 38 (2) dX9_training_37 rfl rfl ?_
      refine sm_bind (fun r38 h38 => ?_)
      refine sm_callV0 X 41 [.int a1, .int 2] [] [.int r38] (c_X9_of l G σ a1 (2 : Int32) r38 h38) cw_X9_of q_1090 qs_45 q_1088 rfl (by decide) rfl rfl rfl rfl rfl (Nat.le_of_ble_eq_true rfl) ⟨Nat.le_of_ble_eq_true rfl, Nat.le_of_ble_eq_true rfl⟩ ⟨Nat.le_refl _, Nat.le_refl _⟩ dX9_training_38 rfl ?_
      refine sm_istore X 43 [(5, .int r38), (4, .int r30), (0, .ref (gad G 81)), (1, .int a1), (2, .int a2), (3, .int a3)] dX9_training_41 rfl (by decide) rfl ?_
      refine sm_iconst X 44 (-1) dX9_training_43 rfl rfl ?_
      refine sm_istore X 46 [(6, .int (-1)), (5, .int r38), (4, .int r30), (0, .ref (gad G 81)), (1, .int a1), (2, .int a2), (3, .int a3)] dX9_training_44 rfl (by decide) rfl ?_
      refine sm_bipush X 48 (30) dX9_training_46 rfl rfl ?_
      refine sm_istore X 50 [(7, .int 30), (6, .int (-1)), (5, .int r38), (4, .int r30), (0, .ref (gad G 81)), (1, .int a1), (2, .int a2), (3, .int a3)] dX9_training_48 rfl (by decide) rfl ?_
      exact sm_sub [4, 5, 6, 7, 3, 2, 1, 0] rfl (J50 a1 a2 a3 r30 r38  FU (-1 : Int32) (30 : Int32) σ)
    · refine sm_aload_n X 22 0 dX9_training_21 rfl rfl rfl ?_
      refine sm_iconst X 23 (1) dX9_training_22 rfl rfl ?_
      refine sm_bind (fun r23 h23 => ?_)
      refine sm_callV0 X 26 [.int 1] [] [.int r23.1] (c_X9_finds l G σ (1 : Int32) r23 h23) cw_X9_finds q_965 qs_26 q_963 rfl (by decide) rfl rfl rfl rfl rfl (Nat.le_of_ble_eq_true rfl) ⟨Nat.le_of_ble_eq_true rfl, Nat.le_of_ble_eq_true rfl⟩ ⟨Nat.le_refl _, Nat.le_refl _⟩ dX9_training_23 rfl ?_
      exact sm_iret X hr dX9_training_26 rfl
  · refine sm_aload_n X 22 0 dX9_training_21 rfl rfl rfl ?_
    refine sm_iconst X 23 (1) dX9_training_22 rfl rfl ?_
    refine sm_bind (fun r23 h23 => ?_)
    refine sm_callV0 X 26 [.int 1] [] [.int r23.1] (c_X9_finds l G σ (1 : Int32) r23 h23) cw_X9_finds q_965 qs_26 q_963 rfl (by decide) rfl rfl rfl rfl rfl (Nat.le_of_ble_eq_true rfl) ⟨Nat.le_of_ble_eq_true rfl, Nat.le_of_ble_eq_true rfl⟩ ⟨Nat.le_refl _, Nat.le_refl _⟩ dX9_training_23 rfl ?_
    exact sm_iret X hr dX9_training_26 rfl
def by_X9_changeSides_0 : List Nat := [42, 27, 5, 4, 42, 27, 5, 182, 0, 172, 100, 182, 0, 166, 42, 28]
def by_X9_changeSides_z : List Nat := [5, 4, 42, 28, 5, 182, 0, 172, 100, 182, 0, 166, 177]
def by_X9_changeSides : List (List Nat) := [by_X9_changeSides_0]
set_option maxRecDepth 100000 in
theorem byo_X9_changeSides : cX9_changeSides.data.toList.map UInt8.toNat = by_X9_changeSides.flatten ++ by_X9_changeSides_z := by decide +kernel
theorem byl_X9_changeSides : by_X9_changeSides.all (fun r => r.length == 16) = true := by decide +kernel
theorem byr_X9_changeSides_0 {j v : Nat} (h : by_X9_changeSides_0[j]? = some v) : RD cX9_changeSides (0 + j) v := rd_16 byo_X9_changeSides byl_X9_changeSides 0 rfl h
theorem byr_X9_changeSides_1 {j v : Nat} (h : by_X9_changeSides_z[j]? = some v) : RD cX9_changeSides (16 + j) v := rd_z byo_X9_changeSides byl_X9_changeSides 1 rfl h
theorem dX9_changeSides_0 : decode cX9_changeSides 0 = .ok (.aload_n 0, 1) := dk_42 (byr_X9_changeSides_0 (j := 0) rfl)
theorem dX9_changeSides_1 : decode cX9_changeSides 1 = .ok (.iload_n 1, 1) := dk_27 (byr_X9_changeSides_0 (j := 1) rfl)
theorem dX9_changeSides_2 : decode cX9_changeSides 2 = .ok (.iconst 2, 1) := dk_5 (byr_X9_changeSides_0 (j := 2) rfl)
theorem dX9_changeSides_3 : decode cX9_changeSides 3 = .ok (.iconst 1, 1) := dk_4 (byr_X9_changeSides_0 (j := 3) rfl)
theorem dX9_changeSides_4 : decode cX9_changeSides 4 = .ok (.aload_n 0, 1) := dk_42 (byr_X9_changeSides_0 (j := 4) rfl)
theorem dX9_changeSides_5 : decode cX9_changeSides 5 = .ok (.iload_n 1, 1) := dk_27 (byr_X9_changeSides_0 (j := 5) rfl)
theorem dX9_changeSides_6 : decode cX9_changeSides 6 = .ok (.iconst 2, 1) := dk_5 (byr_X9_changeSides_0 (j := 6) rfl)
theorem dX9_changeSides_7 : decode cX9_changeSides 7 = .ok (.invokevirtual 172, 3) := dk_182 (byr_X9_changeSides_0 (j := 7) rfl) (byr_X9_changeSides_0 (j := 8) rfl) (byr_X9_changeSides_0 (j := 9) rfl) (by decide)
theorem dX9_changeSides_10 : decode cX9_changeSides 10 = .ok (.isub, 1) := dk_100 (byr_X9_changeSides_0 (j := 10) rfl)
theorem dX9_changeSides_11 : decode cX9_changeSides 11 = .ok (.invokevirtual 166, 3) := dk_182 (byr_X9_changeSides_0 (j := 11) rfl) (byr_X9_changeSides_0 (j := 12) rfl) (byr_X9_changeSides_0 (j := 13) rfl) (by decide)
theorem dX9_changeSides_14 : decode cX9_changeSides 14 = .ok (.aload_n 0, 1) := dk_42 (byr_X9_changeSides_0 (j := 14) rfl)
theorem dX9_changeSides_15 : decode cX9_changeSides 15 = .ok (.iload_n 2, 1) := dk_28 (byr_X9_changeSides_0 (j := 15) rfl)
theorem dX9_changeSides_16 : decode cX9_changeSides 16 = .ok (.iconst 2, 1) := dk_5 (byr_X9_changeSides_1 (j := 0) rfl)
theorem dX9_changeSides_17 : decode cX9_changeSides 17 = .ok (.iconst 1, 1) := dk_4 (byr_X9_changeSides_1 (j := 1) rfl)
theorem dX9_changeSides_18 : decode cX9_changeSides 18 = .ok (.aload_n 0, 1) := dk_42 (byr_X9_changeSides_1 (j := 2) rfl)
theorem dX9_changeSides_19 : decode cX9_changeSides 19 = .ok (.iload_n 2, 1) := dk_28 (byr_X9_changeSides_1 (j := 3) rfl)
theorem dX9_changeSides_20 : decode cX9_changeSides 20 = .ok (.iconst 2, 1) := dk_5 (byr_X9_changeSides_1 (j := 4) rfl)
theorem dX9_changeSides_21 : decode cX9_changeSides 21 = .ok (.invokevirtual 172, 3) := dk_182 (byr_X9_changeSides_1 (j := 5) rfl) (byr_X9_changeSides_1 (j := 6) rfl) (byr_X9_changeSides_1 (j := 7) rfl) (by decide)
theorem dX9_changeSides_24 : decode cX9_changeSides 24 = .ok (.isub, 1) := dk_100 (byr_X9_changeSides_1 (j := 8) rfl)
theorem dX9_changeSides_25 : decode cX9_changeSides 25 = .ok (.invokevirtual 166, 3) := dk_182 (byr_X9_changeSides_1 (j := 9) rfl) (byr_X9_changeSides_1 (j := 10) rfl) (byr_X9_changeSides_1 (j := 11) rfl) (by decide)
theorem dX9_changeSides_28 : decode cX9_changeSides 28 = .ok (.return_, 1) := dk_177 (byr_X9_changeSides_1 (j := 12) rfl)
set_option maxHeartbeats 4000000 in
set_option maxRecDepth 100000 in
theorem c_X9_changeSides (l : Launch) (G : GT) (σ : Sto) (a1 : Int32) (a2 : Int32) (r : Sto) (h : f_X9_changeSides σ a1 a2 = some r) : MW l G (3) (87) 0 0 yX9_changeSides cX9_changeSides 3 (Option.none : Option Jvm.ClassFile.FieldType) [.ref (gad G 81), .int a1, .int a2] (wl G σ) (none) (wl G r) := by
  refine mw_of RX9 (fiV G) [(0, .ref (gad G 81)), (1, .int a1), (2, .int a2)] (by decide +kernel) rfl (Nat.le_of_ble_eq_true rfl) rfl h rfl (fun p e s m args below meth c X hr hnm => ?_)
  unfold f_X9_changeSides
  refine sm_aload_n X 1 0 dX9_changeSides_0 rfl rfl rfl ?_
  refine sm_iload_n X 2 1 dX9_changeSides_1 rfl rfl rfl ?_
  refine sm_iconst X 3 (2) dX9_changeSides_2 rfl rfl ?_
  refine sm_iconst X 4 (1) dX9_changeSides_3 rfl rfl ?_
  refine sm_aload_n X 5 0 dX9_changeSides_4 rfl rfl rfl ?_
  refine sm_iload_n X 6 1 dX9_changeSides_5 rfl rfl rfl ?_
  refine sm_iconst X 7 (2) dX9_changeSides_6 rfl rfl ?_
  refine sm_bind (fun r7 h7 => ?_)
  refine sm_callV0 X 10 [.int a1, .int 2] [.int 1, .int 2, .int a1, .ref (gad G 81)] [.int r7, .int 1, .int 2, .int a1, .ref (gad G 81)] (c_X9_of l G σ a1 (2 : Int32) r7 h7) cw_X9_of q_1090 qs_45 q_1088 rfl (by decide) rfl rfl rfl rfl rfl (Nat.le_of_ble_eq_true rfl) ⟨Nat.le_of_ble_eq_true rfl, Nat.le_of_ble_eq_true rfl⟩ ⟨Nat.le_refl _, Nat.le_refl _⟩ dX9_changeSides_7 rfl ?_
  refine sm_isub X 11 dX9_changeSides_10 rfl ?_
  refine sm_bind (fun r11 h11 => ?_)
  refine sm_callV0 X 14 [.int a1, .int 2, .int ((1 : Int32) - r7)] [] [] (c_X9_becomes l G σ a1 (2 : Int32) ((1 : Int32) - r7) r11 h11) cw_X9_becomes q_1078 qs_43 q_1076 rfl (by decide) rfl rfl rfl rfl rfl (Nat.le_of_ble_eq_true rfl) ⟨Nat.le_of_ble_eq_true rfl, Nat.le_of_ble_eq_true rfl⟩ ⟨Nat.le_refl _, Nat.le_refl _⟩ dX9_changeSides_11 rfl ?_
  refine sm_aload_n X 15 0 dX9_changeSides_14 rfl rfl rfl ?_
  refine sm_iload_n X 16 2 dX9_changeSides_15 rfl rfl rfl ?_
  refine sm_iconst X 17 (2) dX9_changeSides_16 rfl rfl ?_
  refine sm_iconst X 18 (1) dX9_changeSides_17 rfl rfl ?_
  refine sm_aload_n X 19 0 dX9_changeSides_18 rfl rfl rfl ?_
  refine sm_iload_n X 20 2 dX9_changeSides_19 rfl rfl rfl ?_
  refine sm_iconst X 21 (2) dX9_changeSides_20 rfl rfl ?_
  refine sm_bind (fun r21 h21 => ?_)
  refine sm_callV0 X 24 [.int a2, .int 2] [.int 1, .int 2, .int a2, .ref (gad G 81)] [.int r21, .int 1, .int 2, .int a2, .ref (gad G 81)] (c_X9_of l G r11 a2 (2 : Int32) r21 h21) cw_X9_of q_1090 qs_45 q_1088 rfl (by decide) rfl rfl rfl rfl rfl (Nat.le_of_ble_eq_true rfl) ⟨Nat.le_of_ble_eq_true rfl, Nat.le_of_ble_eq_true rfl⟩ ⟨Nat.le_refl _, Nat.le_refl _⟩ dX9_changeSides_21 rfl ?_
  refine sm_isub X 25 dX9_changeSides_24 rfl ?_
  refine sm_bind (fun r25 h25 => ?_)
  refine sm_callV0 X 28 [.int a2, .int 2, .int ((1 : Int32) - r21)] [] [] (c_X9_becomes l G r11 a2 (2 : Int32) ((1 : Int32) - r21) r25 h25) cw_X9_becomes q_1078 qs_43 q_1076 rfl (by decide) rfl rfl rfl rfl rfl (Nat.le_of_ble_eq_true rfl) ⟨Nat.le_of_ble_eq_true rfl, Nat.le_of_ble_eq_true rfl⟩ ⟨Nat.le_refl _, Nat.le_refl _⟩ dX9_changeSides_25 rfl ?_
  exact sm_vret X hr dX9_changeSides_28 rfl
def by_X9_fair_0 : List Nat := [42, 27, 28, 182, 0, 207, 154, 0, 9, 42, 4, 182, 0, 126, 172, 42]
def by_X9_fair_1 : List Nat := [27, 28, 182, 0, 213, 62, 42, 180, 0, 204, 54, 4, 42, 27, 28, 182]
def by_X9_fair_2 : List Nat := [0, 249, 42, 27, 28, 182, 0, 213, 54, 5, 42, 27, 28, 182, 0, 249]
def by_X9_fair_3 : List Nat := [29, 153, 0, 22, 21, 5, 153, 0, 17, 21, 4, 42, 180, 0, 204, 96]
def by_X9_fair_z : List Nat := [17, 4, 176, 100, 167, 0, 8, 42, 5, 182, 0, 126, 172]
def by_X9_fair : List (List Nat) := [by_X9_fair_0, by_X9_fair_1, by_X9_fair_2, by_X9_fair_3]
set_option maxRecDepth 100000 in
theorem byo_X9_fair : cX9_fair.data.toList.map UInt8.toNat = by_X9_fair.flatten ++ by_X9_fair_z := by decide +kernel
theorem byl_X9_fair : by_X9_fair.all (fun r => r.length == 16) = true := by decide +kernel
theorem byr_X9_fair_0 {j v : Nat} (h : by_X9_fair_0[j]? = some v) : RD cX9_fair (0 + j) v := rd_16 byo_X9_fair byl_X9_fair 0 rfl h
theorem byr_X9_fair_1 {j v : Nat} (h : by_X9_fair_1[j]? = some v) : RD cX9_fair (16 + j) v := rd_16 byo_X9_fair byl_X9_fair 1 rfl h
theorem byr_X9_fair_2 {j v : Nat} (h : by_X9_fair_2[j]? = some v) : RD cX9_fair (32 + j) v := rd_16 byo_X9_fair byl_X9_fair 2 rfl h
theorem byr_X9_fair_3 {j v : Nat} (h : by_X9_fair_3[j]? = some v) : RD cX9_fair (48 + j) v := rd_16 byo_X9_fair byl_X9_fair 3 rfl h
theorem byr_X9_fair_4 {j v : Nat} (h : by_X9_fair_z[j]? = some v) : RD cX9_fair (64 + j) v := rd_z byo_X9_fair byl_X9_fair 4 rfl h
theorem dX9_fair_0 : decode cX9_fair 0 = .ok (.aload_n 0, 1) := dk_42 (byr_X9_fair_0 (j := 0) rfl)
theorem dX9_fair_1 : decode cX9_fair 1 = .ok (.iload_n 1, 1) := dk_27 (byr_X9_fair_0 (j := 1) rfl)
theorem dX9_fair_2 : decode cX9_fair 2 = .ok (.iload_n 2, 1) := dk_28 (byr_X9_fair_0 (j := 2) rfl)
theorem dX9_fair_3 : decode cX9_fair 3 = .ok (.invokevirtual 207, 3) := dk_182 (byr_X9_fair_0 (j := 3) rfl) (byr_X9_fair_0 (j := 4) rfl) (byr_X9_fair_0 (j := 5) rfl) (by decide)
theorem dX9_fair_6 : decode cX9_fair 6 = .ok (.ifCond .ne 9, 3) := dk_154 (byr_X9_fair_0 (j := 6) rfl) (byr_X9_fair_0 (j := 7) rfl) (byr_X9_fair_0 (j := 8) rfl) (by decide)
theorem dX9_fair_9 : decode cX9_fair 9 = .ok (.aload_n 0, 1) := dk_42 (byr_X9_fair_0 (j := 9) rfl)
theorem dX9_fair_10 : decode cX9_fair 10 = .ok (.iconst 1, 1) := dk_4 (byr_X9_fair_0 (j := 10) rfl)
theorem dX9_fair_11 : decode cX9_fair 11 = .ok (.invokevirtual 126, 3) := dk_182 (byr_X9_fair_0 (j := 11) rfl) (byr_X9_fair_0 (j := 12) rfl) (byr_X9_fair_0 (j := 13) rfl) (by decide)
theorem dX9_fair_14 : decode cX9_fair 14 = .ok (.ireturn, 1) := dk_172 (byr_X9_fair_0 (j := 14) rfl)
theorem dX9_fair_15 : decode cX9_fair 15 = .ok (.aload_n 0, 1) := dk_42 (byr_X9_fair_0 (j := 15) rfl)
theorem dX9_fair_16 : decode cX9_fair 16 = .ok (.iload_n 1, 1) := dk_27 (byr_X9_fair_1 (j := 0) rfl)
theorem dX9_fair_17 : decode cX9_fair 17 = .ok (.iload_n 2, 1) := dk_28 (byr_X9_fair_1 (j := 1) rfl)
theorem dX9_fair_18 : decode cX9_fair 18 = .ok (.invokevirtual 213, 3) := dk_182 (byr_X9_fair_1 (j := 2) rfl) (byr_X9_fair_1 (j := 3) rfl) (byr_X9_fair_1 (j := 4) rfl) (by decide)
theorem dX9_fair_21 : decode cX9_fair 21 = .ok (.istore_n 3, 1) := dk_62 (byr_X9_fair_1 (j := 5) rfl)
theorem dX9_fair_22 : decode cX9_fair 22 = .ok (.aload_n 0, 1) := dk_42 (byr_X9_fair_1 (j := 6) rfl)
theorem dX9_fair_23 : decode cX9_fair 23 = .ok (.getfield 204, 3) := dk_180 (byr_X9_fair_1 (j := 7) rfl) (byr_X9_fair_1 (j := 8) rfl) (byr_X9_fair_1 (j := 9) rfl) (by decide)
theorem dX9_fair_26 : decode cX9_fair 26 = .ok (.istore 4, 2) := dk_54 (byr_X9_fair_1 (j := 10) rfl) (byr_X9_fair_1 (j := 11) rfl)
theorem dX9_fair_28 : decode cX9_fair 28 = .ok (.aload_n 0, 1) := dk_42 (byr_X9_fair_1 (j := 12) rfl)
theorem dX9_fair_29 : decode cX9_fair 29 = .ok (.iload_n 1, 1) := dk_27 (byr_X9_fair_1 (j := 13) rfl)
theorem dX9_fair_30 : decode cX9_fair 30 = .ok (.iload_n 2, 1) := dk_28 (byr_X9_fair_1 (j := 14) rfl)
theorem dX9_fair_31 : decode cX9_fair 31 = .ok (.invokevirtual 249, 3) := dk_182 (byr_X9_fair_1 (j := 15) rfl) (byr_X9_fair_2 (j := 0) rfl) (byr_X9_fair_2 (j := 1) rfl) (by decide)
theorem dX9_fair_34 : decode cX9_fair 34 = .ok (.aload_n 0, 1) := dk_42 (byr_X9_fair_2 (j := 2) rfl)
theorem dX9_fair_35 : decode cX9_fair 35 = .ok (.iload_n 1, 1) := dk_27 (byr_X9_fair_2 (j := 3) rfl)
theorem dX9_fair_36 : decode cX9_fair 36 = .ok (.iload_n 2, 1) := dk_28 (byr_X9_fair_2 (j := 4) rfl)
theorem dX9_fair_37 : decode cX9_fair 37 = .ok (.invokevirtual 213, 3) := dk_182 (byr_X9_fair_2 (j := 5) rfl) (byr_X9_fair_2 (j := 6) rfl) (byr_X9_fair_2 (j := 7) rfl) (by decide)
theorem dX9_fair_40 : decode cX9_fair 40 = .ok (.istore 5, 2) := dk_54 (byr_X9_fair_2 (j := 8) rfl) (byr_X9_fair_2 (j := 9) rfl)
theorem dX9_fair_42 : decode cX9_fair 42 = .ok (.aload_n 0, 1) := dk_42 (byr_X9_fair_2 (j := 10) rfl)
theorem dX9_fair_43 : decode cX9_fair 43 = .ok (.iload_n 1, 1) := dk_27 (byr_X9_fair_2 (j := 11) rfl)
theorem dX9_fair_44 : decode cX9_fair 44 = .ok (.iload_n 2, 1) := dk_28 (byr_X9_fair_2 (j := 12) rfl)
theorem dX9_fair_45 : decode cX9_fair 45 = .ok (.invokevirtual 249, 3) := dk_182 (byr_X9_fair_2 (j := 13) rfl) (byr_X9_fair_2 (j := 14) rfl) (byr_X9_fair_2 (j := 15) rfl) (by decide)
theorem dX9_fair_48 : decode cX9_fair 48 = .ok (.iload_n 3, 1) := dk_29 (byr_X9_fair_3 (j := 0) rfl)
theorem dX9_fair_49 : decode cX9_fair 49 = .ok (.ifCond .eq 22, 3) := dk_153 (byr_X9_fair_3 (j := 1) rfl) (byr_X9_fair_3 (j := 2) rfl) (byr_X9_fair_3 (j := 3) rfl) (by decide)
theorem dX9_fair_52 : decode cX9_fair 52 = .ok (.iload 5, 2) := dk_21 (byr_X9_fair_3 (j := 4) rfl) (byr_X9_fair_3 (j := 5) rfl)
theorem dX9_fair_54 : decode cX9_fair 54 = .ok (.ifCond .eq 17, 3) := dk_153 (byr_X9_fair_3 (j := 6) rfl) (byr_X9_fair_3 (j := 7) rfl) (byr_X9_fair_3 (j := 8) rfl) (by decide)
theorem dX9_fair_57 : decode cX9_fair 57 = .ok (.iload 4, 2) := dk_21 (byr_X9_fair_3 (j := 9) rfl) (byr_X9_fair_3 (j := 10) rfl)
theorem dX9_fair_59 : decode cX9_fair 59 = .ok (.aload_n 0, 1) := dk_42 (byr_X9_fair_3 (j := 11) rfl)
theorem dX9_fair_60 : decode cX9_fair 60 = .ok (.getfield 204, 3) := dk_180 (byr_X9_fair_3 (j := 12) rfl) (byr_X9_fair_3 (j := 13) rfl) (byr_X9_fair_3 (j := 14) rfl) (by decide)
theorem dX9_fair_63 : decode cX9_fair 63 = .ok (.iadd, 1) := dk_96 (byr_X9_fair_3 (j := 15) rfl)
theorem dX9_fair_64 : decode cX9_fair 64 = .ok (.sipush 1200, 3) := dk_17 (byr_X9_fair_4 (j := 0) rfl) (byr_X9_fair_4 (j := 1) rfl) (byr_X9_fair_4 (j := 2) rfl) (by decide)
theorem dX9_fair_67 : decode cX9_fair 67 = .ok (.isub, 1) := dk_100 (byr_X9_fair_4 (j := 3) rfl)
theorem dX9_fair_68 : decode cX9_fair 68 = .ok (.goto 8, 3) := dk_167 (byr_X9_fair_4 (j := 4) rfl) (byr_X9_fair_4 (j := 5) rfl) (byr_X9_fair_4 (j := 6) rfl) (by decide)
theorem dX9_fair_71 : decode cX9_fair 71 = .ok (.aload_n 0, 1) := dk_42 (byr_X9_fair_4 (j := 7) rfl)
theorem dX9_fair_72 : decode cX9_fair 72 = .ok (.iconst 2, 1) := dk_5 (byr_X9_fair_4 (j := 8) rfl)
theorem dX9_fair_73 : decode cX9_fair 73 = .ok (.invokevirtual 126, 3) := dk_182 (byr_X9_fair_4 (j := 9) rfl) (byr_X9_fair_4 (j := 10) rfl) (byr_X9_fair_4 (j := 11) rfl) (by decide)
theorem dX9_fair_76 : decode cX9_fair 76 = .ok (.ireturn, 1) := dk_172 (byr_X9_fair_4 (j := 12) rfl)
set_option maxHeartbeats 4000000 in
set_option maxRecDepth 100000 in
theorem c_X9_fair (l : Launch) (G : GT) (σ : Sto) (a1 : Int32) (a2 : Int32) (r : (Int32 × Sto)) (h : f_X9_fair σ a1 a2 = some r) : MW l G (8) (208) 0 0 yX9_fair cX9_fair 6 (Option.some Jvm.ClassFile.FieldType.int) [.ref (gad G 81), .int a1, .int a2] (wl G σ) (some (.int r.1)) (wl G r.2) := by
  refine mw_of RX9 (fiI G) [(0, .ref (gad G 81)), (1, .int a1), (2, .int a2)] (by decide +kernel) rfl (Nat.le_of_ble_eq_true rfl) rfl h rfl (fun p e s m args below meth c X hr hnm => ?_)
  unfold f_X9_fair
  refine sm_aload_n X 1 0 dX9_fair_0 rfl rfl rfl ?_
  refine sm_iload_n X 2 1 dX9_fair_1 rfl rfl rfl ?_
  refine sm_iload_n X 3 2 dX9_fair_2 rfl rfl rfl ?_
  refine sm_bind (fun r3 h3 => ?_)
  refine sm_callV0 X 6 [.int a1, .int a2] [] [.int (b2i r3)] (c_X9_areUnlike l G σ a1 a2 r3 h3) cw_X9_areUnlike q_1147 qs_49 q_1145 rfl (by decide) rfl rfl rfl rfl rfl (Nat.le_of_ble_eq_true rfl) ⟨Nat.le_of_ble_eq_true rfl, Nat.le_of_ble_eq_true rfl⟩ ⟨Nat.le_refl _, Nat.le_refl _⟩ dX9_fair_3 rfl ?_
  refine sm_ifz_ne X 9 15 dX9_fair_6 rfl (by decide) (fun h6 => ?_) (fun h6 => ?_)
  · refine sm_aload_n X 16 0 dX9_fair_15 rfl rfl rfl ?_
    refine sm_iload_n X 17 1 dX9_fair_16 rfl rfl rfl ?_
    refine sm_iload_n X 18 2 dX9_fair_17 rfl rfl rfl ?_
    refine sm_bind (fun r18 h18 => ?_)
    refine sm_callV0 X 21 [.int a1, .int a2] [] [.int (b2i r18.1)] (c_X9_swim l G σ a1 a2 r18 h18) cw_X9_swim q_1152 qs_50 q_1150 rfl (by decide) rfl rfl rfl rfl rfl (Nat.le_of_ble_eq_true rfl) ⟨Nat.le_of_ble_eq_true rfl, Nat.le_of_ble_eq_true rfl⟩ ⟨Nat.le_refl _, Nat.le_refl _⟩ dX9_fair_18 rfl ?_
    refine sm_istore_n X 22 [(3, .int (b2i r18.1)), (0, .ref (gad G 81)), (1, .int a1), (2, .int a2)] dX9_fair_21 rfl rfl (by decide) rfl ?_
    refine sm_aload_n X 23 1 dX9_fair_22 rfl rfl rfl ?_
    refine sm_geti X 26 rfl fd_9_16 dX9_fair_23 rfl q_898 ?_
    refine sm_istore X 28 [(4, .int (r18.2.1 81 16)), (3, .int (b2i r18.1)), (0, .ref (gad G 81)), (1, .int a1), (2, .int a2)] dX9_fair_26 rfl (by decide) rfl ?_
    refine sm_aload_n X 29 2 dX9_fair_28 rfl rfl rfl ?_
    refine sm_iload_n X 30 3 dX9_fair_29 rfl rfl rfl ?_
    refine sm_iload_n X 31 4 dX9_fair_30 rfl rfl rfl ?_
    refine sm_bind (fun r31 h31 => ?_)
    refine sm_callV0 X 34 [.int a1, .int a2] [] [] (c_X9_changeSides l G r18.2 a1 a2 r31 h31) cw_X9_changeSides q_1228 qs_56 q_1226 rfl (by decide) rfl rfl rfl rfl rfl (Nat.le_of_ble_eq_true rfl) ⟨Nat.le_of_ble_eq_true rfl, Nat.le_of_ble_eq_true rfl⟩ ⟨Nat.le_refl _, Nat.le_refl _⟩ dX9_fair_31 rfl ?_
    refine sm_aload_n X 35 2 dX9_fair_34 rfl rfl rfl ?_
    refine sm_iload_n X 36 3 dX9_fair_35 rfl rfl rfl ?_
    refine sm_iload_n X 37 4 dX9_fair_36 rfl rfl rfl ?_
    refine sm_bind (fun r37 h37 => ?_)
    refine sm_callV0 X 40 [.int a1, .int a2] [] [.int (b2i r37.1)] (c_X9_swim l G r31 a1 a2 r37 h37) cw_X9_swim q_1152 qs_50 q_1150 rfl (by decide) rfl rfl rfl rfl rfl (Nat.le_of_ble_eq_true rfl) ⟨Nat.le_of_ble_eq_true rfl, Nat.le_of_ble_eq_true rfl⟩ ⟨Nat.le_refl _, Nat.le_refl _⟩ dX9_fair_37 rfl ?_
    refine sm_istore X 42 [(5, .int (b2i r37.1)), (4, .int (r18.2.1 81 16)), (3, .int (b2i r18.1)), (0, .ref (gad G 81)), (1, .int a1), (2, .int a2)] dX9_fair_40 rfl (by decide) rfl ?_
    refine sm_aload_n X 43 3 dX9_fair_42 rfl rfl rfl ?_
    refine sm_iload_n X 44 4 dX9_fair_43 rfl rfl rfl ?_
    refine sm_iload_n X 45 5 dX9_fair_44 rfl rfl rfl ?_
    refine sm_bind (fun r45 h45 => ?_)
    refine sm_callV0 X 48 [.int a1, .int a2] [] [] (c_X9_changeSides l G r37.2 a1 a2 r45 h45) cw_X9_changeSides q_1228 qs_56 q_1226 rfl (by decide) rfl rfl rfl rfl rfl (Nat.le_of_ble_eq_true rfl) ⟨Nat.le_of_ble_eq_true rfl, Nat.le_of_ble_eq_true rfl⟩ ⟨Nat.le_refl _, Nat.le_refl _⟩ dX9_fair_45 rfl ?_
    refine sm_iload_n X 49 2 dX9_fair_48 rfl rfl rfl ?_
    refine sm_ifz_eq X 52 71 dX9_fair_49 rfl (by decide) (fun h49 => ?_) (fun h49 => ?_)
    · refine sm_iload X 54 0 dX9_fair_52 rfl rfl ?_
      refine sm_ifz_eq X 57 71 dX9_fair_54 rfl (by decide) (fun h54 => ?_) (fun h54 => ?_)
      · refine sm_iload X 59 1 dX9_fair_57 rfl rfl ?_
        refine sm_aload_n X 60 3 dX9_fair_59 rfl rfl rfl ?_
        refine sm_geti X 63 rfl fd_9_16 dX9_fair_60 rfl q_898 ?_
        refine sm_iadd X 64 dX9_fair_63 rfl ?_
        refine sm_sipush X 67 (1200) dX9_fair_64 rfl rfl ?_
        refine sm_isub X 68 dX9_fair_67 rfl ?_
        refine sm_goto X 76 dX9_fair_68 (by decide) ?_
        exact sm_iret X hr dX9_fair_76 rfl
      · refine sm_aload_n X 72 3 dX9_fair_71 rfl rfl rfl ?_
        refine sm_iconst X 73 (2) dX9_fair_72 rfl rfl ?_
        refine sm_bind (fun r73 h73 => ?_)
        refine sm_callV0 X 76 [.int 2] [] [.int r73.1] (c_X9_finds l G r45 (2 : Int32) r73 h73) cw_X9_finds q_965 qs_26 q_963 rfl (by decide) rfl rfl rfl rfl rfl (Nat.le_of_ble_eq_true rfl) ⟨Nat.le_of_ble_eq_true rfl, Nat.le_of_ble_eq_true rfl⟩ ⟨Nat.le_refl _, Nat.le_refl _⟩ dX9_fair_73 rfl ?_
        exact sm_iret X hr dX9_fair_76 rfl
    · refine sm_aload_n X 72 3 dX9_fair_71 rfl rfl rfl ?_
      refine sm_iconst X 73 (2) dX9_fair_72 rfl rfl ?_
      refine sm_bind (fun r73 h73 => ?_)
      refine sm_callV0 X 76 [.int 2] [] [.int r73.1] (c_X9_finds l G r45 (2 : Int32) r73 h73) cw_X9_finds q_965 qs_26 q_963 rfl (by decide) rfl rfl rfl rfl rfl (Nat.le_of_ble_eq_true rfl) ⟨Nat.le_of_ble_eq_true rfl, Nat.le_of_ble_eq_true rfl⟩ ⟨Nat.le_refl _, Nat.le_refl _⟩ dX9_fair_73 rfl ?_
      exact sm_iret X hr dX9_fair_76 rfl
  · refine sm_aload_n X 10 0 dX9_fair_9 rfl rfl rfl ?_
    refine sm_iconst X 11 (1) dX9_fair_10 rfl rfl ?_
    refine sm_bind (fun r11 h11 => ?_)
    refine sm_callV0 X 14 [.int 1] [] [.int r11.1] (c_X9_finds l G σ (1 : Int32) r11 h11) cw_X9_finds q_965 qs_26 q_963 rfl (by decide) rfl rfl rfl rfl rfl (Nat.le_of_ble_eq_true rfl) ⟨Nat.le_of_ble_eq_true rfl, Nat.le_of_ble_eq_true rfl⟩ ⟨Nat.le_refl _, Nat.le_refl _⟩ dX9_fair_11 rfl ?_
    exact sm_iret X hr dX9_fair_14 rfl
def by_X9_seed_0 : List Nat := [42, 180, 0, 7, 16, 13, 46, 61, 42, 180, 0, 7, 16, 13, 27, 79]
def by_X9_seed_z : List Nat := [28, 172]
def by_X9_seed : List (List Nat) := [by_X9_seed_0]
set_option maxRecDepth 100000 in
theorem byo_X9_seed : cX9_seed.data.toList.map UInt8.toNat = by_X9_seed.flatten ++ by_X9_seed_z := by decide +kernel
theorem byl_X9_seed : by_X9_seed.all (fun r => r.length == 16) = true := by decide +kernel
theorem byr_X9_seed_0 {j v : Nat} (h : by_X9_seed_0[j]? = some v) : RD cX9_seed (0 + j) v := rd_16 byo_X9_seed byl_X9_seed 0 rfl h
theorem byr_X9_seed_1 {j v : Nat} (h : by_X9_seed_z[j]? = some v) : RD cX9_seed (16 + j) v := rd_z byo_X9_seed byl_X9_seed 1 rfl h
theorem dX9_seed_0 : decode cX9_seed 0 = .ok (.aload_n 0, 1) := dk_42 (byr_X9_seed_0 (j := 0) rfl)
theorem dX9_seed_1 : decode cX9_seed 1 = .ok (.getfield 7, 3) := dk_180 (byr_X9_seed_0 (j := 1) rfl) (byr_X9_seed_0 (j := 2) rfl) (byr_X9_seed_0 (j := 3) rfl) (by decide)
theorem dX9_seed_4 : decode cX9_seed 4 = .ok (.bipush 13, 2) := dk_16 (byr_X9_seed_0 (j := 4) rfl) (byr_X9_seed_0 (j := 5) rfl) (by decide)
theorem dX9_seed_6 : decode cX9_seed 6 = .ok (.iaload, 1) := dk_46 (byr_X9_seed_0 (j := 6) rfl)
theorem dX9_seed_7 : decode cX9_seed 7 = .ok (.istore_n 2, 1) := dk_61 (byr_X9_seed_0 (j := 7) rfl)
theorem dX9_seed_8 : decode cX9_seed 8 = .ok (.aload_n 0, 1) := dk_42 (byr_X9_seed_0 (j := 8) rfl)
theorem dX9_seed_9 : decode cX9_seed 9 = .ok (.getfield 7, 3) := dk_180 (byr_X9_seed_0 (j := 9) rfl) (byr_X9_seed_0 (j := 10) rfl) (byr_X9_seed_0 (j := 11) rfl) (by decide)
theorem dX9_seed_12 : decode cX9_seed 12 = .ok (.bipush 13, 2) := dk_16 (byr_X9_seed_0 (j := 12) rfl) (byr_X9_seed_0 (j := 13) rfl) (by decide)
theorem dX9_seed_14 : decode cX9_seed 14 = .ok (.iload_n 1, 1) := dk_27 (byr_X9_seed_0 (j := 14) rfl)
theorem dX9_seed_15 : decode cX9_seed 15 = .ok (.iastore, 1) := dk_79 (byr_X9_seed_0 (j := 15) rfl)
theorem dX9_seed_16 : decode cX9_seed 16 = .ok (.iload_n 2, 1) := dk_28 (byr_X9_seed_1 (j := 0) rfl)
theorem dX9_seed_17 : decode cX9_seed 17 = .ok (.ireturn, 1) := dk_172 (byr_X9_seed_1 (j := 1) rfl)
set_option maxHeartbeats 4000000 in
set_option maxRecDepth 100000 in
theorem c_X9_seed (l : Launch) (G : GT) (σ : Sto) (a1 : Int32) (r : (Int32 × Sto)) (h : f_X9_seed σ a1 = some r) : MW l G (2) (64) 0 0 yX9_seed cX9_seed 3 (Option.some Jvm.ClassFile.FieldType.int) [.ref (gad G 81), .int a1] (wl G σ) (some (.int r.1)) (wl G r.2) := by
  refine mw_of RX9 (fiI G) [(0, .ref (gad G 81)), (1, .int a1)] (by decide +kernel) rfl (Nat.le_of_ble_eq_true rfl) rfl h rfl (fun p e s m args below meth c X hr hnm => ?_)
  unfold f_X9_seed
  refine sm_aload_n X 1 0 dX9_seed_0 rfl rfl rfl ?_
  refine sm_getf X 4 82 rfl fd_9_0 rfl dX9_seed_1 rfl q_882 ?_
  refine sm_bipush X 6 (13) dX9_seed_4 rfl rfl ?_
  refine sm_iald X 7 rfl dX9_seed_6 rfl (fun r6 e6 => ?_)
  clear e6
  refine sm_istore_n X 8 [(2, .int r6), (0, .ref (gad G 81)), (1, .int a1)] dX9_seed_7 rfl rfl (by decide) rfl ?_
  refine sm_aload_n X 9 1 dX9_seed_8 rfl rfl rfl ?_
  refine sm_getf X 12 82 rfl fd_9_0 rfl dX9_seed_9 rfl q_882 ?_
  refine sm_bipush X 14 (13) dX9_seed_12 rfl rfl ?_
  refine sm_iload_n X 15 2 dX9_seed_14 rfl rfl rfl ?_
  refine sm_iast X 16 rfl dX9_seed_15 rfl (fun σ15 e15 => ?_)
  clear e15
  refine sm_iload_n X 17 0 dX9_seed_16 rfl rfl rfl ?_
  exact sm_iret X hr dX9_seed_17 rfl
def by_X9_ran_0 : List Nat := [42, 180, 0, 252, 16, 40, 162, 0, 23, 42, 180, 0, 31, 42, 180, 0]
def by_X9_ran_z : List Nat := [252, 27, 79, 42, 89, 180, 0, 252, 4, 96, 181, 0, 252, 177]
def by_X9_ran : List (List Nat) := [by_X9_ran_0]
set_option maxRecDepth 100000 in
theorem byo_X9_ran : cX9_ran.data.toList.map UInt8.toNat = by_X9_ran.flatten ++ by_X9_ran_z := by decide +kernel
theorem byl_X9_ran : by_X9_ran.all (fun r => r.length == 16) = true := by decide +kernel
theorem byr_X9_ran_0 {j v : Nat} (h : by_X9_ran_0[j]? = some v) : RD cX9_ran (0 + j) v := rd_16 byo_X9_ran byl_X9_ran 0 rfl h
theorem byr_X9_ran_1 {j v : Nat} (h : by_X9_ran_z[j]? = some v) : RD cX9_ran (16 + j) v := rd_z byo_X9_ran byl_X9_ran 1 rfl h
theorem dX9_ran_0 : decode cX9_ran 0 = .ok (.aload_n 0, 1) := dk_42 (byr_X9_ran_0 (j := 0) rfl)
theorem dX9_ran_1 : decode cX9_ran 1 = .ok (.getfield 252, 3) := dk_180 (byr_X9_ran_0 (j := 1) rfl) (byr_X9_ran_0 (j := 2) rfl) (byr_X9_ran_0 (j := 3) rfl) (by decide)
theorem dX9_ran_4 : decode cX9_ran 4 = .ok (.bipush 40, 2) := dk_16 (byr_X9_ran_0 (j := 4) rfl) (byr_X9_ran_0 (j := 5) rfl) (by decide)
theorem dX9_ran_6 : decode cX9_ran 6 = .ok (.if_icmp .ge 23, 3) := dk_162 (byr_X9_ran_0 (j := 6) rfl) (byr_X9_ran_0 (j := 7) rfl) (byr_X9_ran_0 (j := 8) rfl) (by decide)
theorem dX9_ran_9 : decode cX9_ran 9 = .ok (.aload_n 0, 1) := dk_42 (byr_X9_ran_0 (j := 9) rfl)
theorem dX9_ran_10 : decode cX9_ran 10 = .ok (.getfield 31, 3) := dk_180 (byr_X9_ran_0 (j := 10) rfl) (byr_X9_ran_0 (j := 11) rfl) (byr_X9_ran_0 (j := 12) rfl) (by decide)
theorem dX9_ran_13 : decode cX9_ran 13 = .ok (.aload_n 0, 1) := dk_42 (byr_X9_ran_0 (j := 13) rfl)
theorem dX9_ran_14 : decode cX9_ran 14 = .ok (.getfield 252, 3) := dk_180 (byr_X9_ran_0 (j := 14) rfl) (byr_X9_ran_0 (j := 15) rfl) (byr_X9_ran_1 (j := 0) rfl) (by decide)
theorem dX9_ran_17 : decode cX9_ran 17 = .ok (.iload_n 1, 1) := dk_27 (byr_X9_ran_1 (j := 1) rfl)
theorem dX9_ran_18 : decode cX9_ran 18 = .ok (.iastore, 1) := dk_79 (byr_X9_ran_1 (j := 2) rfl)
theorem dX9_ran_19 : decode cX9_ran 19 = .ok (.aload_n 0, 1) := dk_42 (byr_X9_ran_1 (j := 3) rfl)
theorem dX9_ran_20 : decode cX9_ran 20 = .ok (.dup, 1) := dk_89 (byr_X9_ran_1 (j := 4) rfl)
theorem dX9_ran_21 : decode cX9_ran 21 = .ok (.getfield 252, 3) := dk_180 (byr_X9_ran_1 (j := 5) rfl) (byr_X9_ran_1 (j := 6) rfl) (byr_X9_ran_1 (j := 7) rfl) (by decide)
theorem dX9_ran_24 : decode cX9_ran 24 = .ok (.iconst 1, 1) := dk_4 (byr_X9_ran_1 (j := 8) rfl)
theorem dX9_ran_25 : decode cX9_ran 25 = .ok (.iadd, 1) := dk_96 (byr_X9_ran_1 (j := 9) rfl)
theorem dX9_ran_26 : decode cX9_ran 26 = .ok (.putfield 252, 3) := dk_181 (byr_X9_ran_1 (j := 10) rfl) (byr_X9_ran_1 (j := 11) rfl) (byr_X9_ran_1 (j := 12) rfl) (by decide)
theorem dX9_ran_29 : decode cX9_ran 29 = .ok (.return_, 1) := dk_177 (byr_X9_ran_1 (j := 13) rfl)
set_option maxHeartbeats 4000000 in
set_option maxRecDepth 100000 in
theorem c_X9_ran (l : Launch) (G : GT) (σ : Sto) (a1 : Int32) (r : Sto) (h : f_X9_ran σ a1 = some r) : MW l G (2) (64) 0 0 yX9_ran cX9_ran 2 (Option.none : Option Jvm.ClassFile.FieldType) [.ref (gad G 81), .int a1] (wl G σ) (none) (wl G r) := by
  refine mw_of RX9 (fiV G) [(0, .ref (gad G 81)), (1, .int a1)] (by decide +kernel) rfl (Nat.le_of_ble_eq_true rfl) rfl h rfl (fun p e s m args below meth c X hr hnm => ?_)
  unfold f_X9_ran
  refine sm_aload_n X 1 0 dX9_ran_0 rfl rfl rfl ?_
  refine sm_geti X 4 rfl fd_9_18 dX9_ran_1 rfl q_900 ?_
  refine sm_bipush X 6 (40) dX9_ran_4 rfl rfl ?_
  refine sm_icmp_ge X 9 29 dX9_ran_6 rfl (by decide) (fun h6 => ?_) (fun h6 => ?_)
  · exact sm_vret X hr dX9_ran_29 rfl
  · refine sm_aload_n X 10 0 dX9_ran_9 rfl rfl rfl ?_
    refine sm_getf X 13 89 rfl fd_9_17 rfl dX9_ran_10 rfl q_899 ?_
    refine sm_aload_n X 14 0 dX9_ran_13 rfl rfl rfl ?_
    refine sm_geti X 17 rfl fd_9_18 dX9_ran_14 rfl q_900 ?_
    refine sm_iload_n X 18 1 dX9_ran_17 rfl rfl rfl ?_
    refine sm_iast X 19 rfl dX9_ran_18 rfl (fun σ18 e18 => ?_)
    clear e18
    refine sm_aload_n X 20 0 dX9_ran_19 rfl rfl rfl ?_
    refine sm_dup X 21 dX9_ran_20 rfl rfl ?_
    refine sm_geti X 24 rfl fd_9_18 dX9_ran_21 rfl q_900 ?_
    refine sm_iconst X 25 (1) dX9_ran_24 rfl rfl ?_
    refine sm_iadd X 26 dX9_ran_25 rfl ?_
    refine sm_puti X 29 .int rfl fd_9_18 (by decide) rfl rfl rfl dX9_ran_26 rfl q_900 (fun σ26 e26 => ?_)
    clear e26
    exact sm_vret X hr dX9_ran_29 rfl
def by_X9_own_z : List Nat := [42, 42, 180, 0, 255, 3, 182, 0, 172, 172]
def by_X9_own : List (List Nat) := []
set_option maxRecDepth 100000 in
theorem byo_X9_own : cX9_own.data.toList.map UInt8.toNat = by_X9_own.flatten ++ by_X9_own_z := by decide +kernel
theorem byl_X9_own : by_X9_own.all (fun r => r.length == 16) = true := by decide +kernel
theorem byr_X9_own_0 {j v : Nat} (h : by_X9_own_z[j]? = some v) : RD cX9_own (0 + j) v := rd_z byo_X9_own byl_X9_own 0 rfl h
theorem dX9_own_0 : decode cX9_own 0 = .ok (.aload_n 0, 1) := dk_42 (byr_X9_own_0 (j := 0) rfl)
theorem dX9_own_1 : decode cX9_own 1 = .ok (.aload_n 0, 1) := dk_42 (byr_X9_own_0 (j := 1) rfl)
theorem dX9_own_2 : decode cX9_own 2 = .ok (.getfield 255, 3) := dk_180 (byr_X9_own_0 (j := 2) rfl) (byr_X9_own_0 (j := 3) rfl) (byr_X9_own_0 (j := 4) rfl) (by decide)
theorem dX9_own_5 : decode cX9_own 5 = .ok (.iconst 0, 1) := dk_3 (byr_X9_own_0 (j := 5) rfl)
theorem dX9_own_6 : decode cX9_own 6 = .ok (.invokevirtual 172, 3) := dk_182 (byr_X9_own_0 (j := 6) rfl) (byr_X9_own_0 (j := 7) rfl) (byr_X9_own_0 (j := 8) rfl) (by decide)
theorem dX9_own_9 : decode cX9_own 9 = .ok (.ireturn, 1) := dk_172 (byr_X9_own_0 (j := 9) rfl)
set_option maxHeartbeats 4000000 in
set_option maxRecDepth 100000 in
theorem c_X9_own (l : Launch) (G : GT) (σ : Sto)  (r : Int32) (h : f_X9_own σ  = some r) : MW l G (3) (86) 0 0 yX9_own cX9_own 1 (Option.some Jvm.ClassFile.FieldType.int) [.ref (gad G 81)] (wl G σ) (some (.int r)) (wl G σ) := by
  refine mw_of RX9 (fpI G σ) [(0, .ref (gad G 81))] (by decide +kernel) rfl (Nat.le_of_ble_eq_true rfl) rfl h rfl (fun p e s m args below meth c X hr hnm => ?_)
  unfold f_X9_own
  refine sm_aload_n X 1 0 dX9_own_0 rfl rfl rfl ?_
  refine sm_aload_n X 2 0 dX9_own_1 rfl rfl rfl ?_
  refine sm_geti X 5 rfl fd_9_19 dX9_own_2 rfl q_901 ?_
  refine sm_iconst X 6 (0) dX9_own_5 rfl rfl ?_
  refine sm_bind (fun r6 h6 => ?_)
  refine sm_callV0 X 9 [.int (σ.1 81 19), .int 0] [] [.int r6] (c_X9_of l G σ (σ.1 81 19) (0 : Int32) r6 h6) cw_X9_of q_1090 qs_45 q_1088 rfl (by decide) rfl rfl rfl rfl rfl (Nat.le_of_ble_eq_true rfl) ⟨Nat.le_of_ble_eq_true rfl, Nat.le_of_ble_eq_true rfl⟩ ⟨Nat.le_refl _, Nat.le_refl _⟩ dX9_own_6 rfl ?_
  exact sm_iret X hr dX9_own_9 rfl
def by_X9_swims_0 : List Nat := [27, 171, 0, 0, 0, 0, 0, 58, 0, 0, 0, 2, 0, 0, 0, 0]
def by_X9_swims_1 : List Nat := [0, 0, 0, 27, 0, 0, 0, 2, 0, 0, 0, 40, 42, 16, 10, 182]
def by_X9_swims_2 : List Nat := [1, 2, 28, 42, 180, 0, 255, 96, 172, 42, 16, 30, 182, 1, 2, 42]
def by_X9_swims_3 : List Nat := [5, 184, 0, 179, 28, 182, 1, 5, 6, 104, 172, 42, 27, 184, 0, 179]
def by_X9_swims_z : List Nat := [28, 182, 1, 5, 172]
def by_X9_swims : List (List Nat) := [by_X9_swims_0, by_X9_swims_1, by_X9_swims_2, by_X9_swims_3]
set_option maxRecDepth 100000 in
theorem byo_X9_swims : cX9_swims.data.toList.map UInt8.toNat = by_X9_swims.flatten ++ by_X9_swims_z := by decide +kernel
theorem byl_X9_swims : by_X9_swims.all (fun r => r.length == 16) = true := by decide +kernel
theorem byr_X9_swims_0 {j v : Nat} (h : by_X9_swims_0[j]? = some v) : RD cX9_swims (0 + j) v := rd_16 byo_X9_swims byl_X9_swims 0 rfl h
theorem byr_X9_swims_1 {j v : Nat} (h : by_X9_swims_1[j]? = some v) : RD cX9_swims (16 + j) v := rd_16 byo_X9_swims byl_X9_swims 1 rfl h
theorem byr_X9_swims_2 {j v : Nat} (h : by_X9_swims_2[j]? = some v) : RD cX9_swims (32 + j) v := rd_16 byo_X9_swims byl_X9_swims 2 rfl h
theorem byr_X9_swims_3 {j v : Nat} (h : by_X9_swims_3[j]? = some v) : RD cX9_swims (48 + j) v := rd_16 byo_X9_swims byl_X9_swims 3 rfl h
theorem byr_X9_swims_4 {j v : Nat} (h : by_X9_swims_z[j]? = some v) : RD cX9_swims (64 + j) v := rd_z byo_X9_swims byl_X9_swims 4 rfl h
theorem dX9_swims_0 : decode cX9_swims 0 = .ok (.iload_n 1, 1) := dk_27 (byr_X9_swims_0 (j := 0) rfl)
set_option maxRecDepth 20000 in
theorem dX9_swims_1 : decode cX9_swims 1 = .ok (.lookupswitch 58 #[(0, 27), (2, 40)], 27) := by decide +kernel
theorem dX9_swims_28 : decode cX9_swims 28 = .ok (.aload_n 0, 1) := dk_42 (byr_X9_swims_1 (j := 12) rfl)
theorem dX9_swims_29 : decode cX9_swims 29 = .ok (.bipush 10, 2) := dk_16 (byr_X9_swims_1 (j := 13) rfl) (byr_X9_swims_1 (j := 14) rfl) (by decide)
theorem dX9_swims_31 : decode cX9_swims 31 = .ok (.invokevirtual 258, 3) := dk_182 (byr_X9_swims_1 (j := 15) rfl) (byr_X9_swims_2 (j := 0) rfl) (byr_X9_swims_2 (j := 1) rfl) (by decide)
theorem dX9_swims_34 : decode cX9_swims 34 = .ok (.iload_n 2, 1) := dk_28 (byr_X9_swims_2 (j := 2) rfl)
theorem dX9_swims_35 : decode cX9_swims 35 = .ok (.aload_n 0, 1) := dk_42 (byr_X9_swims_2 (j := 3) rfl)
theorem dX9_swims_36 : decode cX9_swims 36 = .ok (.getfield 255, 3) := dk_180 (byr_X9_swims_2 (j := 4) rfl) (byr_X9_swims_2 (j := 5) rfl) (byr_X9_swims_2 (j := 6) rfl) (by decide)
theorem dX9_swims_39 : decode cX9_swims 39 = .ok (.iadd, 1) := dk_96 (byr_X9_swims_2 (j := 7) rfl)
theorem dX9_swims_40 : decode cX9_swims 40 = .ok (.ireturn, 1) := dk_172 (byr_X9_swims_2 (j := 8) rfl)
theorem dX9_swims_41 : decode cX9_swims 41 = .ok (.aload_n 0, 1) := dk_42 (byr_X9_swims_2 (j := 9) rfl)
theorem dX9_swims_42 : decode cX9_swims 42 = .ok (.bipush 30, 2) := dk_16 (byr_X9_swims_2 (j := 10) rfl) (byr_X9_swims_2 (j := 11) rfl) (by decide)
theorem dX9_swims_44 : decode cX9_swims 44 = .ok (.invokevirtual 258, 3) := dk_182 (byr_X9_swims_2 (j := 12) rfl) (byr_X9_swims_2 (j := 13) rfl) (byr_X9_swims_2 (j := 14) rfl) (by decide)
theorem dX9_swims_47 : decode cX9_swims 47 = .ok (.aload_n 0, 1) := dk_42 (byr_X9_swims_2 (j := 15) rfl)
theorem dX9_swims_48 : decode cX9_swims 48 = .ok (.iconst 2, 1) := dk_5 (byr_X9_swims_3 (j := 0) rfl)
theorem dX9_swims_49 : decode cX9_swims 49 = .ok (.invokestatic 179, 3) := dk_184 (byr_X9_swims_3 (j := 1) rfl) (byr_X9_swims_3 (j := 2) rfl) (byr_X9_swims_3 (j := 3) rfl) (by decide)
theorem dX9_swims_52 : decode cX9_swims 52 = .ok (.iload_n 2, 1) := dk_28 (byr_X9_swims_3 (j := 4) rfl)
theorem dX9_swims_53 : decode cX9_swims 53 = .ok (.invokevirtual 261, 3) := dk_182 (byr_X9_swims_3 (j := 5) rfl) (byr_X9_swims_3 (j := 6) rfl) (byr_X9_swims_3 (j := 7) rfl) (by decide)
theorem dX9_swims_56 : decode cX9_swims 56 = .ok (.iconst 3, 1) := dk_6 (byr_X9_swims_3 (j := 8) rfl)
theorem dX9_swims_57 : decode cX9_swims 57 = .ok (.imul, 1) := dk_104 (byr_X9_swims_3 (j := 9) rfl)
theorem dX9_swims_58 : decode cX9_swims 58 = .ok (.ireturn, 1) := dk_172 (byr_X9_swims_3 (j := 10) rfl)
theorem dX9_swims_59 : decode cX9_swims 59 = .ok (.aload_n 0, 1) := dk_42 (byr_X9_swims_3 (j := 11) rfl)
theorem dX9_swims_60 : decode cX9_swims 60 = .ok (.iload_n 1, 1) := dk_27 (byr_X9_swims_3 (j := 12) rfl)
theorem dX9_swims_61 : decode cX9_swims 61 = .ok (.invokestatic 179, 3) := dk_184 (byr_X9_swims_3 (j := 13) rfl) (byr_X9_swims_3 (j := 14) rfl) (byr_X9_swims_3 (j := 15) rfl) (by decide)
theorem dX9_swims_64 : decode cX9_swims 64 = .ok (.iload_n 2, 1) := dk_28 (byr_X9_swims_4 (j := 0) rfl)
theorem dX9_swims_65 : decode cX9_swims 65 = .ok (.invokevirtual 261, 3) := dk_182 (byr_X9_swims_4 (j := 1) rfl) (byr_X9_swims_4 (j := 2) rfl) (byr_X9_swims_4 (j := 3) rfl) (by decide)
theorem dX9_swims_68 : decode cX9_swims 68 = .ok (.ireturn, 1) := dk_172 (byr_X9_swims_4 (j := 4) rfl)
set_option maxHeartbeats 4000000 in
set_option maxRecDepth 100000 in
theorem cg_X9_swims (l : Launch) (G : GT) : ∀ d, (∀ (σ : Sto) (a1 : Int32) (a2 : Int32) (r : (Int32 × Sto)) (_ : g_X9_swims d 0 a1 a2 σ = some r), MW l G (4 + d) (149 + 64 * d) 0 0 yX9_swims cX9_swims 3 (Option.some Jvm.ClassFile.FieldType.int) [.ref (gad G 81), .int a1, .int a2] (wl G σ) (some (.int r.1)) (wl G r.2)) := by
  intro d
  induction d with
  | zero => exact fun _ _ _ _ => by intro h; cases h
  | succ d ih =>
    intro σ a1 a2 r h
    rw [g_X9_swims] at h
    refine mw_of RX9 (fiI G) [(0, .ref (gad G 81)), (1, .int a1), (2, .int a2)] (by decide +kernel) rfl (Nat.le_of_ble_eq_true rfl) rfl h rfl (fun p e s m args below meth c X hr hnm => ?_)
    unfold b_X9_swims
    refine sm_iload_n X 1 1 dX9_swims_0 rfl rfl rfl ?_
    refine sm_if (fun h1_0 => ?_) (fun h1_0 => ?_)
    · refine sm_lookup X 28 dX9_swims_1 (by decide) (by first | (rw [h1_0]; done) | (rw [h1_0]; rfl)) (by decide) ?_
      refine sm_aload_n X 29 0 dX9_swims_28 rfl rfl rfl ?_
      refine sm_bipush X 31 (10) dX9_swims_29 rfl rfl ?_
      refine sm_bind (fun r31 h31 => ?_)
      refine sm_callV0 X 34 [.int 10] [] [] (c_X9_ran l G σ (10 : Int32) r31 h31) cw_X9_ran q_1248 qs_59 q_1246 rfl (by decide) rfl rfl rfl rfl rfl (Nat.le_of_ble_eq_true rfl) ⟨by show _ + 1 ≤ _ + (_ + 1); omega, by show _ ≤ _ + 64 * (_ + 1); omega⟩ ⟨Nat.le_refl _, Nat.le_refl _⟩ dX9_swims_31 rfl ?_
      refine sm_iload_n X 35 2 dX9_swims_34 rfl rfl rfl ?_
      refine sm_aload_n X 36 0 dX9_swims_35 rfl rfl rfl ?_
      refine sm_geti X 39 rfl fd_9_19 dX9_swims_36 rfl q_901 ?_
      refine sm_iadd X 40 dX9_swims_39 rfl ?_
      exact sm_iret X hr dX9_swims_40 rfl
    refine sm_if (fun h1_1 => ?_) (fun h1_1 => ?_)
    · refine sm_lookup X 41 dX9_swims_1 (by decide) (by first | (rw [h1_1]; done) | (rw [h1_1]; rfl)) (by decide) ?_
      refine sm_aload_n X 42 0 dX9_swims_41 rfl rfl rfl ?_
      refine sm_bipush X 44 (30) dX9_swims_42 rfl rfl ?_
      refine sm_bind (fun r44 h44 => ?_)
      refine sm_callV0 X 47 [.int 30] [] [] (c_X9_ran l G σ (30 : Int32) r44 h44) cw_X9_ran q_1248 qs_59 q_1246 rfl (by decide) rfl rfl rfl rfl rfl (Nat.le_of_ble_eq_true rfl) ⟨by show _ + 1 ≤ _ + (_ + 1); omega, by show _ ≤ _ + 64 * (_ + 1); omega⟩ ⟨Nat.le_refl _, Nat.le_refl _⟩ dX9_swims_44 rfl ?_
      refine sm_aload_n X 48 0 dX9_swims_47 rfl rfl rfl ?_
      refine sm_iconst X 49 (2) dX9_swims_48 rfl rfl ?_
      refine sm_bind (fun r49 h49 => ?_)
      refine sm_callS0 X 52 [.int 2] [.ref (gad G 81)] [.int r49, .ref (gad G 81)] (c_X9_above l G r44 (2 : Int32) r49 h49) cw_X9_above q_1111 q_1110 rfl rfl rfl (Nat.le_of_ble_eq_true rfl) ⟨by show _ + 1 ≤ _ + (_ + 1); omega, by show _ ≤ _ + 64 * (_ + 1); omega⟩ ⟨Nat.le_refl _, Nat.le_refl _⟩ dX9_swims_49 rfl ?_
      refine sm_iload_n X 53 2 dX9_swims_52 rfl rfl rfl ?_
      refine sm_bind (fun r53 h53 => ?_)
      refine sm_callV0 X 56 [.int r49, .int a2] [] [.int r53.1] (ih r44 r49 a2 r53 h53) cw_X9_swims q_1244 qs_58 q_1242 rfl (by decide) rfl rfl rfl rfl rfl (Nat.le_of_ble_eq_true rfl) ⟨by show _ + _ + 1 ≤ _ + (_ + 1); omega, by show _ + (_ + 64 * _) ≤ _ + 64 * (_ + 1); omega⟩ ⟨Nat.le_refl _, Nat.le_refl _⟩ dX9_swims_53 rfl ?_
      refine sm_iconst X 57 (3) dX9_swims_56 rfl rfl ?_
      refine sm_imul X 58 dX9_swims_57 rfl ?_
      exact sm_iret X hr dX9_swims_58 rfl
    have q0 : ¬ (a1).toInt = 0 := ne_toInt h1_0
    have q1 : ¬ (a1).toInt = 2 := ne_toInt h1_1
    refine sm_lookup X (off := 58) 59 dX9_swims_1 (by decide) (by simp [Op.lookupswitch.offset, q0, Ne.symm q0, q1, Ne.symm q1]) (by decide) ?_
    refine sm_aload_n X 60 0 dX9_swims_59 rfl rfl rfl ?_
    refine sm_iload_n X 61 1 dX9_swims_60 rfl rfl rfl ?_
    refine sm_bind (fun r61 h61 => ?_)
    refine sm_callS0 X 64 [.int a1] [.ref (gad G 81)] [.int r61, .ref (gad G 81)] (c_X9_above l G σ a1 r61 h61) cw_X9_above q_1111 q_1110 rfl rfl rfl (Nat.le_of_ble_eq_true rfl) ⟨by show _ + 1 ≤ _ + (_ + 1); omega, by show _ ≤ _ + 64 * (_ + 1); omega⟩ ⟨Nat.le_refl _, Nat.le_refl _⟩ dX9_swims_61 rfl ?_
    refine sm_iload_n X 65 2 dX9_swims_64 rfl rfl rfl ?_
    refine sm_bind (fun r65 h65 => ?_)
    refine sm_callV0 X 68 [.int r61, .int a2] [] [.int r65.1] (ih σ r61 a2 r65 h65) cw_X9_swims q_1244 qs_58 q_1242 rfl (by decide) rfl rfl rfl rfl rfl (Nat.le_of_ble_eq_true rfl) ⟨by show _ + _ + 1 ≤ _ + (_ + 1); omega, by show _ + (_ + 64 * _) ≤ _ + 64 * (_ + 1); omega⟩ ⟨Nat.le_refl _, Nat.le_refl _⟩ dX9_swims_65 rfl ?_
    exact sm_iret X hr dX9_swims_68 rfl
set_option maxHeartbeats 4000000 in
set_option maxRecDepth 100000 in
theorem c_X9_swims (l : Launch) (G : GT) (σ : Sto) (a1 : Int32) (a2 : Int32) (r : (Int32 × Sto)) (h : g_X9_swims 8 0 a1 a2 σ = some r) : MW l G (12) (661) 0 0 yX9_swims cX9_swims 3 (Option.some Jvm.ClassFile.FieldType.int) [.ref (gad G 81), .int a1, .int a2] (wl G σ) (some (.int r.1)) (wl G r.2) := (cg_X9_swims l G 8) σ a1 a2 r h
def by_X9_tires_0 : List Nat := [27, 171, 0, 0, 0, 0, 0, 92, 0, 0, 0, 3, 0, 0, 0, 0]
def by_X9_tires_1 : List Nat := [0, 0, 0, 35, 0, 0, 0, 3, 0, 0, 0, 53, 0, 0, 0, 6]
def by_X9_tires_2 : List Nat := [0, 0, 0, 70, 42, 16, 12, 182, 1, 2, 28, 42, 42, 180, 0, 255]
def by_X9_tires_3 : List Nat := [4, 182, 0, 172, 100, 172, 42, 16, 40, 182, 1, 2, 42, 6, 184, 0]
def by_X9_tires_4 : List Nat := [179, 28, 182, 1, 14, 116, 172, 42, 16, 70, 182, 1, 2, 42, 16, 6]
def by_X9_tires_5 : List Nat := [184, 0, 179, 28, 182, 1, 14, 42, 180, 0, 255, 130, 172, 42, 27, 184]
def by_X9_tires_z : List Nat := [0, 179, 28, 182, 1, 14, 172]
def by_X9_tires : List (List Nat) := [by_X9_tires_0, by_X9_tires_1, by_X9_tires_2, by_X9_tires_3, by_X9_tires_4, by_X9_tires_5]
set_option maxRecDepth 100000 in
theorem byo_X9_tires : cX9_tires.data.toList.map UInt8.toNat = by_X9_tires.flatten ++ by_X9_tires_z := by decide +kernel
theorem byl_X9_tires : by_X9_tires.all (fun r => r.length == 16) = true := by decide +kernel
theorem byr_X9_tires_0 {j v : Nat} (h : by_X9_tires_0[j]? = some v) : RD cX9_tires (0 + j) v := rd_16 byo_X9_tires byl_X9_tires 0 rfl h
theorem byr_X9_tires_1 {j v : Nat} (h : by_X9_tires_1[j]? = some v) : RD cX9_tires (16 + j) v := rd_16 byo_X9_tires byl_X9_tires 1 rfl h
theorem byr_X9_tires_2 {j v : Nat} (h : by_X9_tires_2[j]? = some v) : RD cX9_tires (32 + j) v := rd_16 byo_X9_tires byl_X9_tires 2 rfl h
theorem byr_X9_tires_3 {j v : Nat} (h : by_X9_tires_3[j]? = some v) : RD cX9_tires (48 + j) v := rd_16 byo_X9_tires byl_X9_tires 3 rfl h
theorem byr_X9_tires_4 {j v : Nat} (h : by_X9_tires_4[j]? = some v) : RD cX9_tires (64 + j) v := rd_16 byo_X9_tires byl_X9_tires 4 rfl h
theorem byr_X9_tires_5 {j v : Nat} (h : by_X9_tires_5[j]? = some v) : RD cX9_tires (80 + j) v := rd_16 byo_X9_tires byl_X9_tires 5 rfl h
theorem byr_X9_tires_6 {j v : Nat} (h : by_X9_tires_z[j]? = some v) : RD cX9_tires (96 + j) v := rd_z byo_X9_tires byl_X9_tires 6 rfl h
theorem dX9_tires_0 : decode cX9_tires 0 = .ok (.iload_n 1, 1) := dk_27 (byr_X9_tires_0 (j := 0) rfl)
set_option maxRecDepth 20000 in
theorem dX9_tires_1 : decode cX9_tires 1 = .ok (.lookupswitch 92 #[(0, 35), (3, 53), (6, 70)], 35) := by decide +kernel
theorem dX9_tires_36 : decode cX9_tires 36 = .ok (.aload_n 0, 1) := dk_42 (byr_X9_tires_2 (j := 4) rfl)
theorem dX9_tires_37 : decode cX9_tires 37 = .ok (.bipush 12, 2) := dk_16 (byr_X9_tires_2 (j := 5) rfl) (byr_X9_tires_2 (j := 6) rfl) (by decide)
theorem dX9_tires_39 : decode cX9_tires 39 = .ok (.invokevirtual 258, 3) := dk_182 (byr_X9_tires_2 (j := 7) rfl) (byr_X9_tires_2 (j := 8) rfl) (byr_X9_tires_2 (j := 9) rfl) (by decide)
theorem dX9_tires_42 : decode cX9_tires 42 = .ok (.iload_n 2, 1) := dk_28 (byr_X9_tires_2 (j := 10) rfl)
theorem dX9_tires_43 : decode cX9_tires 43 = .ok (.aload_n 0, 1) := dk_42 (byr_X9_tires_2 (j := 11) rfl)
theorem dX9_tires_44 : decode cX9_tires 44 = .ok (.aload_n 0, 1) := dk_42 (byr_X9_tires_2 (j := 12) rfl)
theorem dX9_tires_45 : decode cX9_tires 45 = .ok (.getfield 255, 3) := dk_180 (byr_X9_tires_2 (j := 13) rfl) (byr_X9_tires_2 (j := 14) rfl) (byr_X9_tires_2 (j := 15) rfl) (by decide)
theorem dX9_tires_48 : decode cX9_tires 48 = .ok (.iconst 1, 1) := dk_4 (byr_X9_tires_3 (j := 0) rfl)
theorem dX9_tires_49 : decode cX9_tires 49 = .ok (.invokevirtual 172, 3) := dk_182 (byr_X9_tires_3 (j := 1) rfl) (byr_X9_tires_3 (j := 2) rfl) (byr_X9_tires_3 (j := 3) rfl) (by decide)
theorem dX9_tires_52 : decode cX9_tires 52 = .ok (.isub, 1) := dk_100 (byr_X9_tires_3 (j := 4) rfl)
theorem dX9_tires_53 : decode cX9_tires 53 = .ok (.ireturn, 1) := dk_172 (byr_X9_tires_3 (j := 5) rfl)
theorem dX9_tires_54 : decode cX9_tires 54 = .ok (.aload_n 0, 1) := dk_42 (byr_X9_tires_3 (j := 6) rfl)
theorem dX9_tires_55 : decode cX9_tires 55 = .ok (.bipush 40, 2) := dk_16 (byr_X9_tires_3 (j := 7) rfl) (byr_X9_tires_3 (j := 8) rfl) (by decide)
theorem dX9_tires_57 : decode cX9_tires 57 = .ok (.invokevirtual 258, 3) := dk_182 (byr_X9_tires_3 (j := 9) rfl) (byr_X9_tires_3 (j := 10) rfl) (byr_X9_tires_3 (j := 11) rfl) (by decide)
theorem dX9_tires_60 : decode cX9_tires 60 = .ok (.aload_n 0, 1) := dk_42 (byr_X9_tires_3 (j := 12) rfl)
theorem dX9_tires_61 : decode cX9_tires 61 = .ok (.iconst 3, 1) := dk_6 (byr_X9_tires_3 (j := 13) rfl)
theorem dX9_tires_62 : decode cX9_tires 62 = .ok (.invokestatic 179, 3) := dk_184 (byr_X9_tires_3 (j := 14) rfl) (byr_X9_tires_3 (j := 15) rfl) (byr_X9_tires_4 (j := 0) rfl) (by decide)
theorem dX9_tires_65 : decode cX9_tires 65 = .ok (.iload_n 2, 1) := dk_28 (byr_X9_tires_4 (j := 1) rfl)
theorem dX9_tires_66 : decode cX9_tires 66 = .ok (.invokevirtual 270, 3) := dk_182 (byr_X9_tires_4 (j := 2) rfl) (byr_X9_tires_4 (j := 3) rfl) (byr_X9_tires_4 (j := 4) rfl) (by decide)
theorem dX9_tires_69 : decode cX9_tires 69 = .ok (.ineg, 1) := dk_116 (byr_X9_tires_4 (j := 5) rfl)
theorem dX9_tires_70 : decode cX9_tires 70 = .ok (.ireturn, 1) := dk_172 (byr_X9_tires_4 (j := 6) rfl)
theorem dX9_tires_71 : decode cX9_tires 71 = .ok (.aload_n 0, 1) := dk_42 (byr_X9_tires_4 (j := 7) rfl)
theorem dX9_tires_72 : decode cX9_tires 72 = .ok (.bipush 70, 2) := dk_16 (byr_X9_tires_4 (j := 8) rfl) (byr_X9_tires_4 (j := 9) rfl) (by decide)
theorem dX9_tires_74 : decode cX9_tires 74 = .ok (.invokevirtual 258, 3) := dk_182 (byr_X9_tires_4 (j := 10) rfl) (byr_X9_tires_4 (j := 11) rfl) (byr_X9_tires_4 (j := 12) rfl) (by decide)
theorem dX9_tires_77 : decode cX9_tires 77 = .ok (.aload_n 0, 1) := dk_42 (byr_X9_tires_4 (j := 13) rfl)
theorem dX9_tires_78 : decode cX9_tires 78 = .ok (.bipush 6, 2) := dk_16 (byr_X9_tires_4 (j := 14) rfl) (byr_X9_tires_4 (j := 15) rfl) (by decide)
theorem dX9_tires_80 : decode cX9_tires 80 = .ok (.invokestatic 179, 3) := dk_184 (byr_X9_tires_5 (j := 0) rfl) (byr_X9_tires_5 (j := 1) rfl) (byr_X9_tires_5 (j := 2) rfl) (by decide)
theorem dX9_tires_83 : decode cX9_tires 83 = .ok (.iload_n 2, 1) := dk_28 (byr_X9_tires_5 (j := 3) rfl)
theorem dX9_tires_84 : decode cX9_tires 84 = .ok (.invokevirtual 270, 3) := dk_182 (byr_X9_tires_5 (j := 4) rfl) (byr_X9_tires_5 (j := 5) rfl) (byr_X9_tires_5 (j := 6) rfl) (by decide)
theorem dX9_tires_87 : decode cX9_tires 87 = .ok (.aload_n 0, 1) := dk_42 (byr_X9_tires_5 (j := 7) rfl)
theorem dX9_tires_88 : decode cX9_tires 88 = .ok (.getfield 255, 3) := dk_180 (byr_X9_tires_5 (j := 8) rfl) (byr_X9_tires_5 (j := 9) rfl) (byr_X9_tires_5 (j := 10) rfl) (by decide)
theorem dX9_tires_91 : decode cX9_tires 91 = .ok (.ixor, 1) := dk_130 (byr_X9_tires_5 (j := 11) rfl)
theorem dX9_tires_92 : decode cX9_tires 92 = .ok (.ireturn, 1) := dk_172 (byr_X9_tires_5 (j := 12) rfl)
theorem dX9_tires_93 : decode cX9_tires 93 = .ok (.aload_n 0, 1) := dk_42 (byr_X9_tires_5 (j := 13) rfl)
theorem dX9_tires_94 : decode cX9_tires 94 = .ok (.iload_n 1, 1) := dk_27 (byr_X9_tires_5 (j := 14) rfl)
theorem dX9_tires_95 : decode cX9_tires 95 = .ok (.invokestatic 179, 3) := dk_184 (byr_X9_tires_5 (j := 15) rfl) (byr_X9_tires_6 (j := 0) rfl) (byr_X9_tires_6 (j := 1) rfl) (by decide)
theorem dX9_tires_98 : decode cX9_tires 98 = .ok (.iload_n 2, 1) := dk_28 (byr_X9_tires_6 (j := 2) rfl)
theorem dX9_tires_99 : decode cX9_tires 99 = .ok (.invokevirtual 270, 3) := dk_182 (byr_X9_tires_6 (j := 3) rfl) (byr_X9_tires_6 (j := 4) rfl) (byr_X9_tires_6 (j := 5) rfl) (by decide)
theorem dX9_tires_102 : decode cX9_tires 102 = .ok (.ireturn, 1) := dk_172 (byr_X9_tires_6 (j := 6) rfl)
set_option maxHeartbeats 4000000 in
set_option maxRecDepth 100000 in
theorem cg_X9_tires (l : Launch) (G : GT) : ∀ d, (∀ (σ : Sto) (a1 : Int32) (a2 : Int32) (r : (Int32 × Sto)) (_ : g_X9_tires d 0 a1 a2 σ = some r), MW l G (4 + d) (150 + 64 * d) 0 0 yX9_tires cX9_tires 3 (Option.some Jvm.ClassFile.FieldType.int) [.ref (gad G 81), .int a1, .int a2] (wl G σ) (some (.int r.1)) (wl G r.2)) := by
  intro d
  induction d with
  | zero => exact fun _ _ _ _ => by intro h; cases h
  | succ d ih =>
    intro σ a1 a2 r h
    rw [g_X9_tires] at h
    refine mw_of RX9 (fiI G) [(0, .ref (gad G 81)), (1, .int a1), (2, .int a2)] (by decide +kernel) rfl (Nat.le_of_ble_eq_true rfl) rfl h rfl (fun p e s m args below meth c X hr hnm => ?_)
    unfold b_X9_tires
    refine sm_iload_n X 1 1 dX9_tires_0 rfl rfl rfl ?_
    refine sm_if (fun h1_0 => ?_) (fun h1_0 => ?_)
    · refine sm_lookup X 36 dX9_tires_1 (by decide) (by first | (rw [h1_0]; done) | (rw [h1_0]; rfl)) (by decide) ?_
      refine sm_aload_n X 37 0 dX9_tires_36 rfl rfl rfl ?_
      refine sm_bipush X 39 (12) dX9_tires_37 rfl rfl ?_
      refine sm_bind (fun r39 h39 => ?_)
      refine sm_callV0 X 42 [.int 12] [] [] (c_X9_ran l G σ (12 : Int32) r39 h39) cw_X9_ran q_1248 qs_59 q_1246 rfl (by decide) rfl rfl rfl rfl rfl (Nat.le_of_ble_eq_true rfl) ⟨by show _ + 1 ≤ _ + (_ + 1); omega, by show _ ≤ _ + 64 * (_ + 1); omega⟩ ⟨Nat.le_refl _, Nat.le_refl _⟩ dX9_tires_39 rfl ?_
      refine sm_iload_n X 43 2 dX9_tires_42 rfl rfl rfl ?_
      refine sm_aload_n X 44 0 dX9_tires_43 rfl rfl rfl ?_
      refine sm_aload_n X 45 0 dX9_tires_44 rfl rfl rfl ?_
      refine sm_geti X 48 rfl fd_9_19 dX9_tires_45 rfl q_901 ?_
      refine sm_iconst X 49 (1) dX9_tires_48 rfl rfl ?_
      refine sm_bind (fun r49 h49 => ?_)
      refine sm_callV0 X 52 [.int (r39.1 81 19), .int 1] [.int a2] [.int r49, .int a2] (c_X9_of l G r39 (r39.1 81 19) (1 : Int32) r49 h49) cw_X9_of q_1090 qs_45 q_1088 rfl (by decide) rfl rfl rfl rfl rfl (Nat.le_of_ble_eq_true rfl) ⟨by show _ + 1 ≤ _ + (_ + 1); omega, by show _ ≤ _ + 64 * (_ + 1); omega⟩ ⟨Nat.le_refl _, Nat.le_refl _⟩ dX9_tires_49 rfl ?_
      refine sm_isub X 53 dX9_tires_52 rfl ?_
      exact sm_iret X hr dX9_tires_53 rfl
    refine sm_if (fun h1_1 => ?_) (fun h1_1 => ?_)
    · refine sm_lookup X 54 dX9_tires_1 (by decide) (by first | (rw [h1_1]; done) | (rw [h1_1]; rfl)) (by decide) ?_
      refine sm_aload_n X 55 0 dX9_tires_54 rfl rfl rfl ?_
      refine sm_bipush X 57 (40) dX9_tires_55 rfl rfl ?_
      refine sm_bind (fun r57 h57 => ?_)
      refine sm_callV0 X 60 [.int 40] [] [] (c_X9_ran l G σ (40 : Int32) r57 h57) cw_X9_ran q_1248 qs_59 q_1246 rfl (by decide) rfl rfl rfl rfl rfl (Nat.le_of_ble_eq_true rfl) ⟨by show _ + 1 ≤ _ + (_ + 1); omega, by show _ ≤ _ + 64 * (_ + 1); omega⟩ ⟨Nat.le_refl _, Nat.le_refl _⟩ dX9_tires_57 rfl ?_
      refine sm_aload_n X 61 0 dX9_tires_60 rfl rfl rfl ?_
      refine sm_iconst X 62 (3) dX9_tires_61 rfl rfl ?_
      refine sm_bind (fun r62 h62 => ?_)
      refine sm_callS0 X 65 [.int 3] [.ref (gad G 81)] [.int r62, .ref (gad G 81)] (c_X9_above l G r57 (3 : Int32) r62 h62) cw_X9_above q_1111 q_1110 rfl rfl rfl (Nat.le_of_ble_eq_true rfl) ⟨by show _ + 1 ≤ _ + (_ + 1); omega, by show _ ≤ _ + 64 * (_ + 1); omega⟩ ⟨Nat.le_refl _, Nat.le_refl _⟩ dX9_tires_62 rfl ?_
      refine sm_iload_n X 66 2 dX9_tires_65 rfl rfl rfl ?_
      refine sm_bind (fun r66 h66 => ?_)
      refine sm_callV0 X 69 [.int r62, .int a2] [] [.int r66.1] (ih r57 r62 a2 r66 h66) cw_X9_tires q_1256 qs_61 q_1254 rfl (by decide) rfl rfl rfl rfl rfl (Nat.le_of_ble_eq_true rfl) ⟨by show _ + _ + 1 ≤ _ + (_ + 1); omega, by show _ + (_ + 64 * _) ≤ _ + 64 * (_ + 1); omega⟩ ⟨Nat.le_refl _, Nat.le_refl _⟩ dX9_tires_66 rfl ?_
      refine sm_ineg X 70 dX9_tires_69 rfl ?_
      exact sm_iret X hr dX9_tires_70 rfl
    refine sm_if (fun h1_2 => ?_) (fun h1_2 => ?_)
    · refine sm_lookup X 71 dX9_tires_1 (by decide) (by first | (rw [h1_2]; done) | (rw [h1_2]; rfl)) (by decide) ?_
      refine sm_aload_n X 72 0 dX9_tires_71 rfl rfl rfl ?_
      refine sm_bipush X 74 (70) dX9_tires_72 rfl rfl ?_
      refine sm_bind (fun r74 h74 => ?_)
      refine sm_callV0 X 77 [.int 70] [] [] (c_X9_ran l G σ (70 : Int32) r74 h74) cw_X9_ran q_1248 qs_59 q_1246 rfl (by decide) rfl rfl rfl rfl rfl (Nat.le_of_ble_eq_true rfl) ⟨by show _ + 1 ≤ _ + (_ + 1); omega, by show _ ≤ _ + 64 * (_ + 1); omega⟩ ⟨Nat.le_refl _, Nat.le_refl _⟩ dX9_tires_74 rfl ?_
      refine sm_aload_n X 78 0 dX9_tires_77 rfl rfl rfl ?_
      refine sm_bipush X 80 (6) dX9_tires_78 rfl rfl ?_
      refine sm_bind (fun r80 h80 => ?_)
      refine sm_callS0 X 83 [.int 6] [.ref (gad G 81)] [.int r80, .ref (gad G 81)] (c_X9_above l G r74 (6 : Int32) r80 h80) cw_X9_above q_1111 q_1110 rfl rfl rfl (Nat.le_of_ble_eq_true rfl) ⟨by show _ + 1 ≤ _ + (_ + 1); omega, by show _ ≤ _ + 64 * (_ + 1); omega⟩ ⟨Nat.le_refl _, Nat.le_refl _⟩ dX9_tires_80 rfl ?_
      refine sm_iload_n X 84 2 dX9_tires_83 rfl rfl rfl ?_
      refine sm_bind (fun r84 h84 => ?_)
      refine sm_callV0 X 87 [.int r80, .int a2] [] [.int r84.1] (ih r74 r80 a2 r84 h84) cw_X9_tires q_1256 qs_61 q_1254 rfl (by decide) rfl rfl rfl rfl rfl (Nat.le_of_ble_eq_true rfl) ⟨by show _ + _ + 1 ≤ _ + (_ + 1); omega, by show _ + (_ + 64 * _) ≤ _ + 64 * (_ + 1); omega⟩ ⟨Nat.le_refl _, Nat.le_refl _⟩ dX9_tires_84 rfl ?_
      refine sm_aload_n X 88 0 dX9_tires_87 rfl rfl rfl ?_
      refine sm_geti X 91 rfl fd_9_19 dX9_tires_88 rfl q_901 ?_
      refine sm_ixor X 92 dX9_tires_91 rfl ?_
      exact sm_iret X hr dX9_tires_92 rfl
    have q0 : ¬ (a1).toInt = 0 := ne_toInt h1_0
    have q1 : ¬ (a1).toInt = 3 := ne_toInt h1_1
    have q2 : ¬ (a1).toInt = 6 := ne_toInt h1_2
    refine sm_lookup X (off := 92) 93 dX9_tires_1 (by decide) (by simp [Op.lookupswitch.offset, q0, Ne.symm q0, q1, Ne.symm q1, q2, Ne.symm q2]) (by decide) ?_
    refine sm_aload_n X 94 0 dX9_tires_93 rfl rfl rfl ?_
    refine sm_iload_n X 95 1 dX9_tires_94 rfl rfl rfl ?_
    refine sm_bind (fun r95 h95 => ?_)
    refine sm_callS0 X 98 [.int a1] [.ref (gad G 81)] [.int r95, .ref (gad G 81)] (c_X9_above l G σ a1 r95 h95) cw_X9_above q_1111 q_1110 rfl rfl rfl (Nat.le_of_ble_eq_true rfl) ⟨by show _ + 1 ≤ _ + (_ + 1); omega, by show _ ≤ _ + 64 * (_ + 1); omega⟩ ⟨Nat.le_refl _, Nat.le_refl _⟩ dX9_tires_95 rfl ?_
    refine sm_iload_n X 99 2 dX9_tires_98 rfl rfl rfl ?_
    refine sm_bind (fun r99 h99 => ?_)
    refine sm_callV0 X 102 [.int r95, .int a2] [] [.int r99.1] (ih σ r95 a2 r99 h99) cw_X9_tires q_1256 qs_61 q_1254 rfl (by decide) rfl rfl rfl rfl rfl (Nat.le_of_ble_eq_true rfl) ⟨by show _ + _ + 1 ≤ _ + (_ + 1); omega, by show _ + (_ + 64 * _) ≤ _ + 64 * (_ + 1); omega⟩ ⟨Nat.le_refl _, Nat.le_refl _⟩ dX9_tires_99 rfl ?_
    exact sm_iret X hr dX9_tires_102 rfl
set_option maxHeartbeats 4000000 in
set_option maxRecDepth 100000 in
theorem c_X9_tires (l : Launch) (G : GT) (σ : Sto) (a1 : Int32) (a2 : Int32) (r : (Int32 × Sto)) (h : g_X9_tires 8 0 a1 a2 σ = some r) : MW l G (12) (662) 0 0 yX9_tires cX9_tires 3 (Option.some Jvm.ClassFile.FieldType.int) [.ref (gad G 81), .int a1, .int a2] (wl G σ) (some (.int r.1)) (wl G r.2) := (cg_X9_tires l G 8) σ a1 a2 r h
def by_X9_breathes_0 : List Nat := [27, 170, 0, 0, 0, 0, 0, 99, 0, 0, 0, 0, 0, 0, 0, 4]
def by_X9_breathes_1 : List Nat := [0, 0, 0, 35, 0, 0, 0, 53, 0, 0, 0, 99, 0, 0, 0, 99]
def by_X9_breathes_2 : List Nat := [0, 0, 0, 81, 42, 16, 11, 182, 1, 2, 42, 42, 182, 1, 8, 28]
def by_X9_breathes_3 : List Nat := [182, 1, 5, 5, 104, 172, 42, 16, 20, 182, 1, 2, 42, 4, 184, 0]
def by_X9_breathes_4 : List Nat := [179, 28, 182, 1, 11, 62, 29, 42, 42, 182, 1, 8, 4, 182, 1, 14]
def by_X9_breathes_5 : List Nat := [100, 172, 42, 16, 50, 182, 1, 2, 42, 7, 184, 0, 179, 28, 4, 96]
def by_X9_breathes_z : List Nat := [182, 1, 11, 172, 42, 27, 184, 0, 179, 28, 182, 1, 11, 172]
def by_X9_breathes : List (List Nat) := [by_X9_breathes_0, by_X9_breathes_1, by_X9_breathes_2, by_X9_breathes_3, by_X9_breathes_4, by_X9_breathes_5]
set_option maxRecDepth 100000 in
theorem byo_X9_breathes : cX9_breathes.data.toList.map UInt8.toNat = by_X9_breathes.flatten ++ by_X9_breathes_z := by decide +kernel
theorem byl_X9_breathes : by_X9_breathes.all (fun r => r.length == 16) = true := by decide +kernel
theorem byr_X9_breathes_0 {j v : Nat} (h : by_X9_breathes_0[j]? = some v) : RD cX9_breathes (0 + j) v := rd_16 byo_X9_breathes byl_X9_breathes 0 rfl h
theorem byr_X9_breathes_1 {j v : Nat} (h : by_X9_breathes_1[j]? = some v) : RD cX9_breathes (16 + j) v := rd_16 byo_X9_breathes byl_X9_breathes 1 rfl h
theorem byr_X9_breathes_2 {j v : Nat} (h : by_X9_breathes_2[j]? = some v) : RD cX9_breathes (32 + j) v := rd_16 byo_X9_breathes byl_X9_breathes 2 rfl h
theorem byr_X9_breathes_3 {j v : Nat} (h : by_X9_breathes_3[j]? = some v) : RD cX9_breathes (48 + j) v := rd_16 byo_X9_breathes byl_X9_breathes 3 rfl h
theorem byr_X9_breathes_4 {j v : Nat} (h : by_X9_breathes_4[j]? = some v) : RD cX9_breathes (64 + j) v := rd_16 byo_X9_breathes byl_X9_breathes 4 rfl h
theorem byr_X9_breathes_5 {j v : Nat} (h : by_X9_breathes_5[j]? = some v) : RD cX9_breathes (80 + j) v := rd_16 byo_X9_breathes byl_X9_breathes 5 rfl h
theorem byr_X9_breathes_6 {j v : Nat} (h : by_X9_breathes_z[j]? = some v) : RD cX9_breathes (96 + j) v := rd_z byo_X9_breathes byl_X9_breathes 6 rfl h
theorem dX9_breathes_0 : decode cX9_breathes 0 = .ok (.iload_n 1, 1) := dk_27 (byr_X9_breathes_0 (j := 0) rfl)
set_option maxRecDepth 20000 in
theorem dX9_breathes_1 : decode cX9_breathes 1 = .ok (.tableswitch 99 0 4 #[35, 53, 99, 99, 81], 35) := by decide +kernel
theorem dX9_breathes_36 : decode cX9_breathes 36 = .ok (.aload_n 0, 1) := dk_42 (byr_X9_breathes_2 (j := 4) rfl)
theorem dX9_breathes_37 : decode cX9_breathes 37 = .ok (.bipush 11, 2) := dk_16 (byr_X9_breathes_2 (j := 5) rfl) (byr_X9_breathes_2 (j := 6) rfl) (by decide)
theorem dX9_breathes_39 : decode cX9_breathes 39 = .ok (.invokevirtual 258, 3) := dk_182 (byr_X9_breathes_2 (j := 7) rfl) (byr_X9_breathes_2 (j := 8) rfl) (byr_X9_breathes_2 (j := 9) rfl) (by decide)
theorem dX9_breathes_42 : decode cX9_breathes 42 = .ok (.aload_n 0, 1) := dk_42 (byr_X9_breathes_2 (j := 10) rfl)
theorem dX9_breathes_43 : decode cX9_breathes 43 = .ok (.aload_n 0, 1) := dk_42 (byr_X9_breathes_2 (j := 11) rfl)
theorem dX9_breathes_44 : decode cX9_breathes 44 = .ok (.invokevirtual 264, 3) := dk_182 (byr_X9_breathes_2 (j := 12) rfl) (byr_X9_breathes_2 (j := 13) rfl) (byr_X9_breathes_2 (j := 14) rfl) (by decide)
theorem dX9_breathes_47 : decode cX9_breathes 47 = .ok (.iload_n 2, 1) := dk_28 (byr_X9_breathes_2 (j := 15) rfl)
theorem dX9_breathes_48 : decode cX9_breathes 48 = .ok (.invokevirtual 261, 3) := dk_182 (byr_X9_breathes_3 (j := 0) rfl) (byr_X9_breathes_3 (j := 1) rfl) (byr_X9_breathes_3 (j := 2) rfl) (by decide)
theorem dX9_breathes_51 : decode cX9_breathes 51 = .ok (.iconst 2, 1) := dk_5 (byr_X9_breathes_3 (j := 3) rfl)
theorem dX9_breathes_52 : decode cX9_breathes 52 = .ok (.imul, 1) := dk_104 (byr_X9_breathes_3 (j := 4) rfl)
theorem dX9_breathes_53 : decode cX9_breathes 53 = .ok (.ireturn, 1) := dk_172 (byr_X9_breathes_3 (j := 5) rfl)
theorem dX9_breathes_54 : decode cX9_breathes 54 = .ok (.aload_n 0, 1) := dk_42 (byr_X9_breathes_3 (j := 6) rfl)
theorem dX9_breathes_55 : decode cX9_breathes 55 = .ok (.bipush 20, 2) := dk_16 (byr_X9_breathes_3 (j := 7) rfl) (byr_X9_breathes_3 (j := 8) rfl) (by decide)
theorem dX9_breathes_57 : decode cX9_breathes 57 = .ok (.invokevirtual 258, 3) := dk_182 (byr_X9_breathes_3 (j := 9) rfl) (byr_X9_breathes_3 (j := 10) rfl) (byr_X9_breathes_3 (j := 11) rfl) (by decide)
theorem dX9_breathes_60 : decode cX9_breathes 60 = .ok (.aload_n 0, 1) := dk_42 (byr_X9_breathes_3 (j := 12) rfl)
theorem dX9_breathes_61 : decode cX9_breathes 61 = .ok (.iconst 1, 1) := dk_4 (byr_X9_breathes_3 (j := 13) rfl)
theorem dX9_breathes_62 : decode cX9_breathes 62 = .ok (.invokestatic 179, 3) := dk_184 (byr_X9_breathes_3 (j := 14) rfl) (byr_X9_breathes_3 (j := 15) rfl) (byr_X9_breathes_4 (j := 0) rfl) (by decide)
theorem dX9_breathes_65 : decode cX9_breathes 65 = .ok (.iload_n 2, 1) := dk_28 (byr_X9_breathes_4 (j := 1) rfl)
theorem dX9_breathes_66 : decode cX9_breathes 66 = .ok (.invokevirtual 267, 3) := dk_182 (byr_X9_breathes_4 (j := 2) rfl) (byr_X9_breathes_4 (j := 3) rfl) (byr_X9_breathes_4 (j := 4) rfl) (by decide)
theorem dX9_breathes_69 : decode cX9_breathes 69 = .ok (.istore_n 3, 1) := dk_62 (byr_X9_breathes_4 (j := 5) rfl)
theorem dX9_breathes_70 : decode cX9_breathes 70 = .ok (.iload_n 3, 1) := dk_29 (byr_X9_breathes_4 (j := 6) rfl)
theorem dX9_breathes_71 : decode cX9_breathes 71 = .ok (.aload_n 0, 1) := dk_42 (byr_X9_breathes_4 (j := 7) rfl)
theorem dX9_breathes_72 : decode cX9_breathes 72 = .ok (.aload_n 0, 1) := dk_42 (byr_X9_breathes_4 (j := 8) rfl)
theorem dX9_breathes_73 : decode cX9_breathes 73 = .ok (.invokevirtual 264, 3) := dk_182 (byr_X9_breathes_4 (j := 9) rfl) (byr_X9_breathes_4 (j := 10) rfl) (byr_X9_breathes_4 (j := 11) rfl) (by decide)
theorem dX9_breathes_76 : decode cX9_breathes 76 = .ok (.iconst 1, 1) := dk_4 (byr_X9_breathes_4 (j := 12) rfl)
theorem dX9_breathes_77 : decode cX9_breathes 77 = .ok (.invokevirtual 270, 3) := dk_182 (byr_X9_breathes_4 (j := 13) rfl) (byr_X9_breathes_4 (j := 14) rfl) (byr_X9_breathes_4 (j := 15) rfl) (by decide)
theorem dX9_breathes_80 : decode cX9_breathes 80 = .ok (.isub, 1) := dk_100 (byr_X9_breathes_5 (j := 0) rfl)
theorem dX9_breathes_81 : decode cX9_breathes 81 = .ok (.ireturn, 1) := dk_172 (byr_X9_breathes_5 (j := 1) rfl)
theorem dX9_breathes_82 : decode cX9_breathes 82 = .ok (.aload_n 0, 1) := dk_42 (byr_X9_breathes_5 (j := 2) rfl)
theorem dX9_breathes_83 : decode cX9_breathes 83 = .ok (.bipush 50, 2) := dk_16 (byr_X9_breathes_5 (j := 3) rfl) (byr_X9_breathes_5 (j := 4) rfl) (by decide)
theorem dX9_breathes_85 : decode cX9_breathes 85 = .ok (.invokevirtual 258, 3) := dk_182 (byr_X9_breathes_5 (j := 5) rfl) (byr_X9_breathes_5 (j := 6) rfl) (byr_X9_breathes_5 (j := 7) rfl) (by decide)
theorem dX9_breathes_88 : decode cX9_breathes 88 = .ok (.aload_n 0, 1) := dk_42 (byr_X9_breathes_5 (j := 8) rfl)
theorem dX9_breathes_89 : decode cX9_breathes 89 = .ok (.iconst 4, 1) := dk_7 (byr_X9_breathes_5 (j := 9) rfl)
theorem dX9_breathes_90 : decode cX9_breathes 90 = .ok (.invokestatic 179, 3) := dk_184 (byr_X9_breathes_5 (j := 10) rfl) (byr_X9_breathes_5 (j := 11) rfl) (byr_X9_breathes_5 (j := 12) rfl) (by decide)
theorem dX9_breathes_93 : decode cX9_breathes 93 = .ok (.iload_n 2, 1) := dk_28 (byr_X9_breathes_5 (j := 13) rfl)
theorem dX9_breathes_94 : decode cX9_breathes 94 = .ok (.iconst 1, 1) := dk_4 (byr_X9_breathes_5 (j := 14) rfl)
theorem dX9_breathes_95 : decode cX9_breathes 95 = .ok (.iadd, 1) := dk_96 (byr_X9_breathes_5 (j := 15) rfl)
theorem dX9_breathes_96 : decode cX9_breathes 96 = .ok (.invokevirtual 267, 3) := dk_182 (byr_X9_breathes_6 (j := 0) rfl) (byr_X9_breathes_6 (j := 1) rfl) (byr_X9_breathes_6 (j := 2) rfl) (by decide)
theorem dX9_breathes_99 : decode cX9_breathes 99 = .ok (.ireturn, 1) := dk_172 (byr_X9_breathes_6 (j := 3) rfl)
theorem dX9_breathes_100 : decode cX9_breathes 100 = .ok (.aload_n 0, 1) := dk_42 (byr_X9_breathes_6 (j := 4) rfl)
theorem dX9_breathes_101 : decode cX9_breathes 101 = .ok (.iload_n 1, 1) := dk_27 (byr_X9_breathes_6 (j := 5) rfl)
theorem dX9_breathes_102 : decode cX9_breathes 102 = .ok (.invokestatic 179, 3) := dk_184 (byr_X9_breathes_6 (j := 6) rfl) (byr_X9_breathes_6 (j := 7) rfl) (byr_X9_breathes_6 (j := 8) rfl) (by decide)
theorem dX9_breathes_105 : decode cX9_breathes 105 = .ok (.iload_n 2, 1) := dk_28 (byr_X9_breathes_6 (j := 9) rfl)
theorem dX9_breathes_106 : decode cX9_breathes 106 = .ok (.invokevirtual 267, 3) := dk_182 (byr_X9_breathes_6 (j := 10) rfl) (byr_X9_breathes_6 (j := 11) rfl) (byr_X9_breathes_6 (j := 12) rfl) (by decide)
theorem dX9_breathes_109 : decode cX9_breathes 109 = .ok (.ireturn, 1) := dk_172 (byr_X9_breathes_6 (j := 13) rfl)
set_option maxHeartbeats 4000000 in
set_option maxRecDepth 100000 in
theorem cg_X9_breathes (l : Launch) (G : GT) : ∀ d, (∀ (σ : Sto) (a1 : Int32) (a2 : Int32) (r : (Int32 × Sto)) (_ : g_X9_breathes d 0 a1 a2 σ = some r), MW l G (14 + d) (748 + 64 * d) 0 0 yX9_breathes cX9_breathes 4 (Option.some Jvm.ClassFile.FieldType.int) [.ref (gad G 81), .int a1, .int a2] (wl G σ) (some (.int r.1)) (wl G r.2)) := by
  intro d
  induction d with
  | zero => exact fun _ _ _ _ => by intro h; cases h
  | succ d ih =>
    intro σ a1 a2 r h
    rw [g_X9_breathes] at h
    refine mw_of RX9 (fiI G) [(0, .ref (gad G 81)), (1, .int a1), (2, .int a2)] (by decide +kernel) rfl (Nat.le_of_ble_eq_true rfl) rfl h rfl (fun p e s m args below meth c X hr hnm => ?_)
    unfold b_X9_breathes
    refine sm_iload_n X 1 1 dX9_breathes_0 rfl rfl rfl ?_
    refine sm_if (fun h1_0 => ?_) (fun h1_0 => ?_)
    · refine sm_table X 36 dX9_breathes_1 (by rw [h1_0]; decide) (by rw [h1_0]; decide) (by first | (rw [h1_0]; done) | (rw [h1_0]; rfl)) (by decide) ?_
      refine sm_aload_n X 37 0 dX9_breathes_36 rfl rfl rfl ?_
      refine sm_bipush X 39 (11) dX9_breathes_37 rfl rfl ?_
      refine sm_bind (fun r39 h39 => ?_)
      refine sm_callV0 X 42 [.int 11] [] [] (c_X9_ran l G σ (11 : Int32) r39 h39) cw_X9_ran q_1248 qs_59 q_1246 rfl (by decide) rfl rfl rfl rfl rfl (Nat.le_of_ble_eq_true rfl) ⟨by show _ + 1 ≤ _ + (_ + 1); omega, by show _ ≤ _ + 64 * (_ + 1); omega⟩ ⟨Nat.le_refl _, Nat.le_refl _⟩ dX9_breathes_39 rfl ?_
      refine sm_aload_n X 43 0 dX9_breathes_42 rfl rfl rfl ?_
      refine sm_aload_n X 44 0 dX9_breathes_43 rfl rfl rfl ?_
      refine sm_bind (fun r44 h44 => ?_)
      refine sm_callV0 X 47 [] [.ref (gad G 81)] [.int r44, .ref (gad G 81)] (c_X9_own l G r39  r44 h44) cw_X9_own q_1240 qs_57 q_1238 rfl (by decide) rfl rfl rfl rfl rfl (Nat.le_of_ble_eq_true rfl) ⟨by show _ + 1 ≤ _ + (_ + 1); omega, by show _ ≤ _ + 64 * (_ + 1); omega⟩ ⟨Nat.le_refl _, Nat.le_refl _⟩ dX9_breathes_44 rfl ?_
      refine sm_iload_n X 48 2 dX9_breathes_47 rfl rfl rfl ?_
      refine sm_bind (fun r48 h48 => ?_)
      refine sm_callV0 X 51 [.int r44, .int a2] [] [.int r48.1] (c_X9_swims l G r39 r44 a2 r48 h48) cw_X9_swims q_1244 qs_58 q_1242 rfl (by decide) rfl rfl rfl rfl rfl (Nat.le_of_ble_eq_true rfl) ⟨by show _ + 1 ≤ _ + (_ + 1); omega, by show _ ≤ _ + 64 * (_ + 1); omega⟩ ⟨Nat.le_refl _, Nat.le_refl _⟩ dX9_breathes_48 rfl ?_
      refine sm_iconst X 52 (2) dX9_breathes_51 rfl rfl ?_
      refine sm_imul X 53 dX9_breathes_52 rfl ?_
      exact sm_iret X hr dX9_breathes_53 rfl
    refine sm_if (fun h1_1 => ?_) (fun h1_1 => ?_)
    · refine sm_table X 54 dX9_breathes_1 (by rw [h1_1]; decide) (by rw [h1_1]; decide) (by first | (rw [h1_1]; done) | (rw [h1_1]; rfl)) (by decide) ?_
      refine sm_aload_n X 55 0 dX9_breathes_54 rfl rfl rfl ?_
      refine sm_bipush X 57 (20) dX9_breathes_55 rfl rfl ?_
      refine sm_bind (fun r57 h57 => ?_)
      refine sm_callV0 X 60 [.int 20] [] [] (c_X9_ran l G σ (20 : Int32) r57 h57) cw_X9_ran q_1248 qs_59 q_1246 rfl (by decide) rfl rfl rfl rfl rfl (Nat.le_of_ble_eq_true rfl) ⟨by show _ + 1 ≤ _ + (_ + 1); omega, by show _ ≤ _ + 64 * (_ + 1); omega⟩ ⟨Nat.le_refl _, Nat.le_refl _⟩ dX9_breathes_57 rfl ?_
      refine sm_aload_n X 61 0 dX9_breathes_60 rfl rfl rfl ?_
      refine sm_iconst X 62 (1) dX9_breathes_61 rfl rfl ?_
      refine sm_bind (fun r62 h62 => ?_)
      refine sm_callS0 X 65 [.int 1] [.ref (gad G 81)] [.int r62, .ref (gad G 81)] (c_X9_above l G r57 (1 : Int32) r62 h62) cw_X9_above q_1111 q_1110 rfl rfl rfl (Nat.le_of_ble_eq_true rfl) ⟨by show _ + 1 ≤ _ + (_ + 1); omega, by show _ ≤ _ + 64 * (_ + 1); omega⟩ ⟨Nat.le_refl _, Nat.le_refl _⟩ dX9_breathes_62 rfl ?_
      refine sm_iload_n X 66 2 dX9_breathes_65 rfl rfl rfl ?_
      refine sm_bind (fun r66 h66 => ?_)
      refine sm_callV0 X 69 [.int r62, .int a2] [] [.int r66.1] (ih r57 r62 a2 r66 h66) cw_X9_breathes q_1252 qs_60 q_1250 rfl (by decide) rfl rfl rfl rfl rfl (Nat.le_of_ble_eq_true rfl) ⟨by show _ + _ + 1 ≤ _ + (_ + 1); omega, by show _ + (_ + 64 * _) ≤ _ + 64 * (_ + 1); omega⟩ ⟨Nat.le_refl _, Nat.le_refl _⟩ dX9_breathes_66 rfl ?_
      refine sm_istore_n X 70 [(3, .int r66.1), (0, .ref (gad G 81)), (1, .int a1), (2, .int a2)] dX9_breathes_69 rfl rfl (by decide) rfl ?_
      refine sm_iload_n X 71 0 dX9_breathes_70 rfl rfl rfl ?_
      refine sm_aload_n X 72 1 dX9_breathes_71 rfl rfl rfl ?_
      refine sm_aload_n X 73 1 dX9_breathes_72 rfl rfl rfl ?_
      refine sm_bind (fun r73 h73 => ?_)
      refine sm_callV0 X 76 [] [.ref (gad G 81), .int r66.1] [.int r73, .ref (gad G 81), .int r66.1] (c_X9_own l G r66.2  r73 h73) cw_X9_own q_1240 qs_57 q_1238 rfl (by decide) rfl rfl rfl rfl rfl (Nat.le_of_ble_eq_true rfl) ⟨by show _ + 1 ≤ _ + (_ + 1); omega, by show _ ≤ _ + 64 * (_ + 1); omega⟩ ⟨Nat.le_refl _, Nat.le_refl _⟩ dX9_breathes_73 rfl ?_
      refine sm_iconst X 77 (1) dX9_breathes_76 rfl rfl ?_
      refine sm_bind (fun r77 h77 => ?_)
      refine sm_callV0 X 80 [.int r73, .int 1] [.int r66.1] [.int r77.1, .int r66.1] (c_X9_tires l G r66.2 r73 (1 : Int32) r77 h77) cw_X9_tires q_1256 qs_61 q_1254 rfl (by decide) rfl rfl rfl rfl rfl (Nat.le_of_ble_eq_true rfl) ⟨by show _ + 1 ≤ _ + (_ + 1); omega, by show _ ≤ _ + 64 * (_ + 1); omega⟩ ⟨Nat.le_refl _, Nat.le_refl _⟩ dX9_breathes_77 rfl ?_
      refine sm_isub X 81 dX9_breathes_80 rfl ?_
      exact sm_iret X hr dX9_breathes_81 rfl
    refine sm_if (fun h1_2 => ?_) (fun h1_2 => ?_)
    · refine sm_table X 100 dX9_breathes_1 (by rw [h1_2]; decide) (by rw [h1_2]; decide) (by first | (rw [h1_2]; done) | (rw [h1_2]; rfl)) (by decide) ?_
      refine sm_aload_n X 101 0 dX9_breathes_100 rfl rfl rfl ?_
      refine sm_iload_n X 102 1 dX9_breathes_101 rfl rfl rfl ?_
      refine sm_bind (fun r102 h102 => ?_)
      refine sm_callS0 X 105 [.int a1] [.ref (gad G 81)] [.int r102, .ref (gad G 81)] (c_X9_above l G σ a1 r102 h102) cw_X9_above q_1111 q_1110 rfl rfl rfl (Nat.le_of_ble_eq_true rfl) ⟨by show _ + 1 ≤ _ + (_ + 1); omega, by show _ ≤ _ + 64 * (_ + 1); omega⟩ ⟨Nat.le_refl _, Nat.le_refl _⟩ dX9_breathes_102 rfl ?_
      refine sm_iload_n X 106 2 dX9_breathes_105 rfl rfl rfl ?_
      refine sm_bind (fun r106 h106 => ?_)
      refine sm_callV0 X 109 [.int r102, .int a2] [] [.int r106.1] (ih σ r102 a2 r106 h106) cw_X9_breathes q_1252 qs_60 q_1250 rfl (by decide) rfl rfl rfl rfl rfl (Nat.le_of_ble_eq_true rfl) ⟨by show _ + _ + 1 ≤ _ + (_ + 1); omega, by show _ + (_ + 64 * _) ≤ _ + 64 * (_ + 1); omega⟩ ⟨Nat.le_refl _, Nat.le_refl _⟩ dX9_breathes_106 rfl ?_
      exact sm_iret X hr dX9_breathes_109 rfl
    refine sm_if (fun h1_3 => ?_) (fun h1_3 => ?_)
    · refine sm_table X 100 dX9_breathes_1 (by rw [h1_3]; decide) (by rw [h1_3]; decide) (by first | (rw [h1_3]; done) | (rw [h1_3]; rfl)) (by decide) ?_
      refine sm_aload_n X 101 0 dX9_breathes_100 rfl rfl rfl ?_
      refine sm_iload_n X 102 1 dX9_breathes_101 rfl rfl rfl ?_
      refine sm_bind (fun r102 h102 => ?_)
      refine sm_callS0 X 105 [.int a1] [.ref (gad G 81)] [.int r102, .ref (gad G 81)] (c_X9_above l G σ a1 r102 h102) cw_X9_above q_1111 q_1110 rfl rfl rfl (Nat.le_of_ble_eq_true rfl) ⟨by show _ + 1 ≤ _ + (_ + 1); omega, by show _ ≤ _ + 64 * (_ + 1); omega⟩ ⟨Nat.le_refl _, Nat.le_refl _⟩ dX9_breathes_102 rfl ?_
      refine sm_iload_n X 106 2 dX9_breathes_105 rfl rfl rfl ?_
      refine sm_bind (fun r106 h106 => ?_)
      refine sm_callV0 X 109 [.int r102, .int a2] [] [.int r106.1] (ih σ r102 a2 r106 h106) cw_X9_breathes q_1252 qs_60 q_1250 rfl (by decide) rfl rfl rfl rfl rfl (Nat.le_of_ble_eq_true rfl) ⟨by show _ + _ + 1 ≤ _ + (_ + 1); omega, by show _ + (_ + 64 * _) ≤ _ + 64 * (_ + 1); omega⟩ ⟨Nat.le_refl _, Nat.le_refl _⟩ dX9_breathes_106 rfl ?_
      exact sm_iret X hr dX9_breathes_109 rfl
    refine sm_if (fun h1_4 => ?_) (fun h1_4 => ?_)
    · refine sm_table X 82 dX9_breathes_1 (by rw [h1_4]; decide) (by rw [h1_4]; decide) (by first | (rw [h1_4]; done) | (rw [h1_4]; rfl)) (by decide) ?_
      refine sm_aload_n X 83 0 dX9_breathes_82 rfl rfl rfl ?_
      refine sm_bipush X 85 (50) dX9_breathes_83 rfl rfl ?_
      refine sm_bind (fun r85 h85 => ?_)
      refine sm_callV0 X 88 [.int 50] [] [] (c_X9_ran l G σ (50 : Int32) r85 h85) cw_X9_ran q_1248 qs_59 q_1246 rfl (by decide) rfl rfl rfl rfl rfl (Nat.le_of_ble_eq_true rfl) ⟨by show _ + 1 ≤ _ + (_ + 1); omega, by show _ ≤ _ + 64 * (_ + 1); omega⟩ ⟨Nat.le_refl _, Nat.le_refl _⟩ dX9_breathes_85 rfl ?_
      refine sm_aload_n X 89 0 dX9_breathes_88 rfl rfl rfl ?_
      refine sm_iconst X 90 (4) dX9_breathes_89 rfl rfl ?_
      refine sm_bind (fun r90 h90 => ?_)
      refine sm_callS0 X 93 [.int 4] [.ref (gad G 81)] [.int r90, .ref (gad G 81)] (c_X9_above l G r85 (4 : Int32) r90 h90) cw_X9_above q_1111 q_1110 rfl rfl rfl (Nat.le_of_ble_eq_true rfl) ⟨by show _ + 1 ≤ _ + (_ + 1); omega, by show _ ≤ _ + 64 * (_ + 1); omega⟩ ⟨Nat.le_refl _, Nat.le_refl _⟩ dX9_breathes_90 rfl ?_
      refine sm_iload_n X 94 2 dX9_breathes_93 rfl rfl rfl ?_
      refine sm_iconst X 95 (1) dX9_breathes_94 rfl rfl ?_
      refine sm_iadd X 96 dX9_breathes_95 rfl ?_
      refine sm_bind (fun r96 h96 => ?_)
      refine sm_callV0 X 99 [.int r90, .int (a2 + (1 : Int32))] [] [.int r96.1] (ih r85 r90 (a2 + (1 : Int32)) r96 h96) cw_X9_breathes q_1252 qs_60 q_1250 rfl (by decide) rfl rfl rfl rfl rfl (Nat.le_of_ble_eq_true rfl) ⟨by show _ + _ + 1 ≤ _ + (_ + 1); omega, by show _ + (_ + 64 * _) ≤ _ + 64 * (_ + 1); omega⟩ ⟨Nat.le_refl _, Nat.le_refl _⟩ dX9_breathes_96 rfl ?_
      exact sm_iret X hr dX9_breathes_99 rfl
    have q0 : ¬ (a1).toInt = 0 := ne_toInt h1_0
    have q1 : ¬ (a1).toInt = 1 := ne_toInt h1_1
    have q2 : ¬ (a1).toInt = 2 := ne_toInt h1_2
    have q3 : ¬ (a1).toInt = 3 := ne_toInt h1_3
    have q4 : ¬ (a1).toInt = 4 := ne_toInt h1_4
    refine sm_tableD X 100 dX9_breathes_1 (by omega) (by decide) ?_
    refine sm_aload_n X 101 0 dX9_breathes_100 rfl rfl rfl ?_
    refine sm_iload_n X 102 1 dX9_breathes_101 rfl rfl rfl ?_
    refine sm_bind (fun r102 h102 => ?_)
    refine sm_callS0 X 105 [.int a1] [.ref (gad G 81)] [.int r102, .ref (gad G 81)] (c_X9_above l G σ a1 r102 h102) cw_X9_above q_1111 q_1110 rfl rfl rfl (Nat.le_of_ble_eq_true rfl) ⟨by show _ + 1 ≤ _ + (_ + 1); omega, by show _ ≤ _ + 64 * (_ + 1); omega⟩ ⟨Nat.le_refl _, Nat.le_refl _⟩ dX9_breathes_102 rfl ?_
    refine sm_iload_n X 106 2 dX9_breathes_105 rfl rfl rfl ?_
    refine sm_bind (fun r106 h106 => ?_)
    refine sm_callV0 X 109 [.int r102, .int a2] [] [.int r106.1] (ih σ r102 a2 r106 h106) cw_X9_breathes q_1252 qs_60 q_1250 rfl (by decide) rfl rfl rfl rfl rfl (Nat.le_of_ble_eq_true rfl) ⟨by show _ + _ + 1 ≤ _ + (_ + 1); omega, by show _ + (_ + 64 * _) ≤ _ + 64 * (_ + 1); omega⟩ ⟨Nat.le_refl _, Nat.le_refl _⟩ dX9_breathes_106 rfl ?_
    exact sm_iret X hr dX9_breathes_109 rfl
set_option maxHeartbeats 4000000 in
set_option maxRecDepth 100000 in
theorem c_X9_breathes (l : Launch) (G : GT) (σ : Sto) (a1 : Int32) (a2 : Int32) (r : (Int32 × Sto)) (h : g_X9_breathes 8 0 a1 a2 σ = some r) : MW l G (22) (1260) 0 0 yX9_breathes cX9_breathes 4 (Option.some Jvm.ClassFile.FieldType.int) [.ref (gad G 81), .int a1, .int a2] (wl G σ) (some (.int r.1)) (wl G r.2) := (cg_X9_breathes l G 8) σ a1 a2 r h
def by_X9_tells_0 : List Nat := [27, 171, 0, 0, 0, 0, 0, 120, 0, 0, 0, 3, 0, 0, 0, 0]
def by_X9_tells_1 : List Nat := [0, 0, 0, 35, 0, 0, 0, 5, 0, 0, 0, 63, 0, 0, 0, 6]
def by_X9_tells_2 : List Nat := [0, 0, 0, 91, 42, 16, 13, 182, 1, 2, 42, 42, 182, 1, 8, 28]
def by_X9_tells_3 : List Nat := [182, 1, 11, 62, 29, 42, 42, 182, 1, 8, 28, 182, 1, 14, 130, 172]
def by_X9_tells_4 : List Nat := [42, 16, 60, 182, 1, 2, 42, 8, 184, 0, 179, 28, 182, 1, 17, 62]
def by_X9_tells_5 : List Nat := [29, 42, 42, 182, 1, 8, 5, 182, 1, 5, 100, 172, 42, 16, 71, 182]
def by_X9_tells_6 : List Nat := [1, 2, 42, 42, 182, 1, 8, 28, 182, 1, 11, 62, 29, 42, 16, 6]
def by_X9_tells_7 : List Nat := [184, 0, 179, 28, 182, 1, 17, 100, 172, 42, 27, 184, 0, 179, 28, 182]
def by_X9_tells_z : List Nat := [1, 17, 172]
def by_X9_tells : List (List Nat) := [by_X9_tells_0, by_X9_tells_1, by_X9_tells_2, by_X9_tells_3, by_X9_tells_4, by_X9_tells_5, by_X9_tells_6, by_X9_tells_7]
set_option maxRecDepth 100000 in
theorem byo_X9_tells : cX9_tells.data.toList.map UInt8.toNat = by_X9_tells.flatten ++ by_X9_tells_z := by decide +kernel
theorem byl_X9_tells : by_X9_tells.all (fun r => r.length == 16) = true := by decide +kernel
theorem byr_X9_tells_0 {j v : Nat} (h : by_X9_tells_0[j]? = some v) : RD cX9_tells (0 + j) v := rd_16 byo_X9_tells byl_X9_tells 0 rfl h
theorem byr_X9_tells_1 {j v : Nat} (h : by_X9_tells_1[j]? = some v) : RD cX9_tells (16 + j) v := rd_16 byo_X9_tells byl_X9_tells 1 rfl h
theorem byr_X9_tells_2 {j v : Nat} (h : by_X9_tells_2[j]? = some v) : RD cX9_tells (32 + j) v := rd_16 byo_X9_tells byl_X9_tells 2 rfl h
theorem byr_X9_tells_3 {j v : Nat} (h : by_X9_tells_3[j]? = some v) : RD cX9_tells (48 + j) v := rd_16 byo_X9_tells byl_X9_tells 3 rfl h
theorem byr_X9_tells_4 {j v : Nat} (h : by_X9_tells_4[j]? = some v) : RD cX9_tells (64 + j) v := rd_16 byo_X9_tells byl_X9_tells 4 rfl h
theorem byr_X9_tells_5 {j v : Nat} (h : by_X9_tells_5[j]? = some v) : RD cX9_tells (80 + j) v := rd_16 byo_X9_tells byl_X9_tells 5 rfl h
theorem byr_X9_tells_6 {j v : Nat} (h : by_X9_tells_6[j]? = some v) : RD cX9_tells (96 + j) v := rd_16 byo_X9_tells byl_X9_tells 6 rfl h
theorem byr_X9_tells_7 {j v : Nat} (h : by_X9_tells_7[j]? = some v) : RD cX9_tells (112 + j) v := rd_16 byo_X9_tells byl_X9_tells 7 rfl h
theorem byr_X9_tells_8 {j v : Nat} (h : by_X9_tells_z[j]? = some v) : RD cX9_tells (128 + j) v := rd_z byo_X9_tells byl_X9_tells 8 rfl h
theorem dX9_tells_0 : decode cX9_tells 0 = .ok (.iload_n 1, 1) := dk_27 (byr_X9_tells_0 (j := 0) rfl)
set_option maxRecDepth 20000 in
theorem dX9_tells_1 : decode cX9_tells 1 = .ok (.lookupswitch 120 #[(0, 35), (5, 63), (6, 91)], 35) := by decide +kernel
theorem dX9_tells_36 : decode cX9_tells 36 = .ok (.aload_n 0, 1) := dk_42 (byr_X9_tells_2 (j := 4) rfl)
theorem dX9_tells_37 : decode cX9_tells 37 = .ok (.bipush 13, 2) := dk_16 (byr_X9_tells_2 (j := 5) rfl) (byr_X9_tells_2 (j := 6) rfl) (by decide)
theorem dX9_tells_39 : decode cX9_tells 39 = .ok (.invokevirtual 258, 3) := dk_182 (byr_X9_tells_2 (j := 7) rfl) (byr_X9_tells_2 (j := 8) rfl) (byr_X9_tells_2 (j := 9) rfl) (by decide)
theorem dX9_tells_42 : decode cX9_tells 42 = .ok (.aload_n 0, 1) := dk_42 (byr_X9_tells_2 (j := 10) rfl)
theorem dX9_tells_43 : decode cX9_tells 43 = .ok (.aload_n 0, 1) := dk_42 (byr_X9_tells_2 (j := 11) rfl)
theorem dX9_tells_44 : decode cX9_tells 44 = .ok (.invokevirtual 264, 3) := dk_182 (byr_X9_tells_2 (j := 12) rfl) (byr_X9_tells_2 (j := 13) rfl) (byr_X9_tells_2 (j := 14) rfl) (by decide)
theorem dX9_tells_47 : decode cX9_tells 47 = .ok (.iload_n 2, 1) := dk_28 (byr_X9_tells_2 (j := 15) rfl)
theorem dX9_tells_48 : decode cX9_tells 48 = .ok (.invokevirtual 267, 3) := dk_182 (byr_X9_tells_3 (j := 0) rfl) (byr_X9_tells_3 (j := 1) rfl) (byr_X9_tells_3 (j := 2) rfl) (by decide)
theorem dX9_tells_51 : decode cX9_tells 51 = .ok (.istore_n 3, 1) := dk_62 (byr_X9_tells_3 (j := 3) rfl)
theorem dX9_tells_52 : decode cX9_tells 52 = .ok (.iload_n 3, 1) := dk_29 (byr_X9_tells_3 (j := 4) rfl)
theorem dX9_tells_53 : decode cX9_tells 53 = .ok (.aload_n 0, 1) := dk_42 (byr_X9_tells_3 (j := 5) rfl)
theorem dX9_tells_54 : decode cX9_tells 54 = .ok (.aload_n 0, 1) := dk_42 (byr_X9_tells_3 (j := 6) rfl)
theorem dX9_tells_55 : decode cX9_tells 55 = .ok (.invokevirtual 264, 3) := dk_182 (byr_X9_tells_3 (j := 7) rfl) (byr_X9_tells_3 (j := 8) rfl) (byr_X9_tells_3 (j := 9) rfl) (by decide)
theorem dX9_tells_58 : decode cX9_tells 58 = .ok (.iload_n 2, 1) := dk_28 (byr_X9_tells_3 (j := 10) rfl)
theorem dX9_tells_59 : decode cX9_tells 59 = .ok (.invokevirtual 270, 3) := dk_182 (byr_X9_tells_3 (j := 11) rfl) (byr_X9_tells_3 (j := 12) rfl) (byr_X9_tells_3 (j := 13) rfl) (by decide)
theorem dX9_tells_62 : decode cX9_tells 62 = .ok (.ixor, 1) := dk_130 (byr_X9_tells_3 (j := 14) rfl)
theorem dX9_tells_63 : decode cX9_tells 63 = .ok (.ireturn, 1) := dk_172 (byr_X9_tells_3 (j := 15) rfl)
theorem dX9_tells_64 : decode cX9_tells 64 = .ok (.aload_n 0, 1) := dk_42 (byr_X9_tells_4 (j := 0) rfl)
theorem dX9_tells_65 : decode cX9_tells 65 = .ok (.bipush 60, 2) := dk_16 (byr_X9_tells_4 (j := 1) rfl) (byr_X9_tells_4 (j := 2) rfl) (by decide)
theorem dX9_tells_67 : decode cX9_tells 67 = .ok (.invokevirtual 258, 3) := dk_182 (byr_X9_tells_4 (j := 3) rfl) (byr_X9_tells_4 (j := 4) rfl) (byr_X9_tells_4 (j := 5) rfl) (by decide)
theorem dX9_tells_70 : decode cX9_tells 70 = .ok (.aload_n 0, 1) := dk_42 (byr_X9_tells_4 (j := 6) rfl)
theorem dX9_tells_71 : decode cX9_tells 71 = .ok (.iconst 5, 1) := dk_8 (byr_X9_tells_4 (j := 7) rfl)
theorem dX9_tells_72 : decode cX9_tells 72 = .ok (.invokestatic 179, 3) := dk_184 (byr_X9_tells_4 (j := 8) rfl) (byr_X9_tells_4 (j := 9) rfl) (byr_X9_tells_4 (j := 10) rfl) (by decide)
theorem dX9_tells_75 : decode cX9_tells 75 = .ok (.iload_n 2, 1) := dk_28 (byr_X9_tells_4 (j := 11) rfl)
theorem dX9_tells_76 : decode cX9_tells 76 = .ok (.invokevirtual 273, 3) := dk_182 (byr_X9_tells_4 (j := 12) rfl) (byr_X9_tells_4 (j := 13) rfl) (byr_X9_tells_4 (j := 14) rfl) (by decide)
theorem dX9_tells_79 : decode cX9_tells 79 = .ok (.istore_n 3, 1) := dk_62 (byr_X9_tells_4 (j := 15) rfl)
theorem dX9_tells_80 : decode cX9_tells 80 = .ok (.iload_n 3, 1) := dk_29 (byr_X9_tells_5 (j := 0) rfl)
theorem dX9_tells_81 : decode cX9_tells 81 = .ok (.aload_n 0, 1) := dk_42 (byr_X9_tells_5 (j := 1) rfl)
theorem dX9_tells_82 : decode cX9_tells 82 = .ok (.aload_n 0, 1) := dk_42 (byr_X9_tells_5 (j := 2) rfl)
theorem dX9_tells_83 : decode cX9_tells 83 = .ok (.invokevirtual 264, 3) := dk_182 (byr_X9_tells_5 (j := 3) rfl) (byr_X9_tells_5 (j := 4) rfl) (byr_X9_tells_5 (j := 5) rfl) (by decide)
theorem dX9_tells_86 : decode cX9_tells 86 = .ok (.iconst 2, 1) := dk_5 (byr_X9_tells_5 (j := 6) rfl)
theorem dX9_tells_87 : decode cX9_tells 87 = .ok (.invokevirtual 261, 3) := dk_182 (byr_X9_tells_5 (j := 7) rfl) (byr_X9_tells_5 (j := 8) rfl) (byr_X9_tells_5 (j := 9) rfl) (by decide)
theorem dX9_tells_90 : decode cX9_tells 90 = .ok (.isub, 1) := dk_100 (byr_X9_tells_5 (j := 10) rfl)
theorem dX9_tells_91 : decode cX9_tells 91 = .ok (.ireturn, 1) := dk_172 (byr_X9_tells_5 (j := 11) rfl)
theorem dX9_tells_92 : decode cX9_tells 92 = .ok (.aload_n 0, 1) := dk_42 (byr_X9_tells_5 (j := 12) rfl)
theorem dX9_tells_93 : decode cX9_tells 93 = .ok (.bipush 71, 2) := dk_16 (byr_X9_tells_5 (j := 13) rfl) (byr_X9_tells_5 (j := 14) rfl) (by decide)
theorem dX9_tells_95 : decode cX9_tells 95 = .ok (.invokevirtual 258, 3) := dk_182 (byr_X9_tells_5 (j := 15) rfl) (byr_X9_tells_6 (j := 0) rfl) (byr_X9_tells_6 (j := 1) rfl) (by decide)
theorem dX9_tells_98 : decode cX9_tells 98 = .ok (.aload_n 0, 1) := dk_42 (byr_X9_tells_6 (j := 2) rfl)
theorem dX9_tells_99 : decode cX9_tells 99 = .ok (.aload_n 0, 1) := dk_42 (byr_X9_tells_6 (j := 3) rfl)
theorem dX9_tells_100 : decode cX9_tells 100 = .ok (.invokevirtual 264, 3) := dk_182 (byr_X9_tells_6 (j := 4) rfl) (byr_X9_tells_6 (j := 5) rfl) (byr_X9_tells_6 (j := 6) rfl) (by decide)
theorem dX9_tells_103 : decode cX9_tells 103 = .ok (.iload_n 2, 1) := dk_28 (byr_X9_tells_6 (j := 7) rfl)
theorem dX9_tells_104 : decode cX9_tells 104 = .ok (.invokevirtual 267, 3) := dk_182 (byr_X9_tells_6 (j := 8) rfl) (byr_X9_tells_6 (j := 9) rfl) (byr_X9_tells_6 (j := 10) rfl) (by decide)
theorem dX9_tells_107 : decode cX9_tells 107 = .ok (.istore_n 3, 1) := dk_62 (byr_X9_tells_6 (j := 11) rfl)
theorem dX9_tells_108 : decode cX9_tells 108 = .ok (.iload_n 3, 1) := dk_29 (byr_X9_tells_6 (j := 12) rfl)
theorem dX9_tells_109 : decode cX9_tells 109 = .ok (.aload_n 0, 1) := dk_42 (byr_X9_tells_6 (j := 13) rfl)
theorem dX9_tells_110 : decode cX9_tells 110 = .ok (.bipush 6, 2) := dk_16 (byr_X9_tells_6 (j := 14) rfl) (byr_X9_tells_6 (j := 15) rfl) (by decide)
theorem dX9_tells_112 : decode cX9_tells 112 = .ok (.invokestatic 179, 3) := dk_184 (byr_X9_tells_7 (j := 0) rfl) (byr_X9_tells_7 (j := 1) rfl) (byr_X9_tells_7 (j := 2) rfl) (by decide)
theorem dX9_tells_115 : decode cX9_tells 115 = .ok (.iload_n 2, 1) := dk_28 (byr_X9_tells_7 (j := 3) rfl)
theorem dX9_tells_116 : decode cX9_tells 116 = .ok (.invokevirtual 273, 3) := dk_182 (byr_X9_tells_7 (j := 4) rfl) (byr_X9_tells_7 (j := 5) rfl) (byr_X9_tells_7 (j := 6) rfl) (by decide)
theorem dX9_tells_119 : decode cX9_tells 119 = .ok (.isub, 1) := dk_100 (byr_X9_tells_7 (j := 7) rfl)
theorem dX9_tells_120 : decode cX9_tells 120 = .ok (.ireturn, 1) := dk_172 (byr_X9_tells_7 (j := 8) rfl)
theorem dX9_tells_121 : decode cX9_tells 121 = .ok (.aload_n 0, 1) := dk_42 (byr_X9_tells_7 (j := 9) rfl)
theorem dX9_tells_122 : decode cX9_tells 122 = .ok (.iload_n 1, 1) := dk_27 (byr_X9_tells_7 (j := 10) rfl)
theorem dX9_tells_123 : decode cX9_tells 123 = .ok (.invokestatic 179, 3) := dk_184 (byr_X9_tells_7 (j := 11) rfl) (byr_X9_tells_7 (j := 12) rfl) (byr_X9_tells_7 (j := 13) rfl) (by decide)
theorem dX9_tells_126 : decode cX9_tells 126 = .ok (.iload_n 2, 1) := dk_28 (byr_X9_tells_7 (j := 14) rfl)
theorem dX9_tells_127 : decode cX9_tells 127 = .ok (.invokevirtual 273, 3) := dk_182 (byr_X9_tells_7 (j := 15) rfl) (byr_X9_tells_8 (j := 0) rfl) (byr_X9_tells_8 (j := 1) rfl) (by decide)
theorem dX9_tells_130 : decode cX9_tells 130 = .ok (.ireturn, 1) := dk_172 (byr_X9_tells_8 (j := 2) rfl)
set_option maxHeartbeats 4000000 in
set_option maxRecDepth 100000 in
theorem cg_X9_tells (l : Launch) (G : GT) : ∀ d, (∀ (σ : Sto) (a1 : Int32) (a2 : Int32) (r : (Int32 × Sto)) (_ : g_X9_tells d 0 a1 a2 σ = some r), MW l G (24 + d) (1347 + 64 * d) 0 0 yX9_tells cX9_tells 4 (Option.some Jvm.ClassFile.FieldType.int) [.ref (gad G 81), .int a1, .int a2] (wl G σ) (some (.int r.1)) (wl G r.2)) := by
  intro d
  induction d with
  | zero => exact fun _ _ _ _ => by intro h; cases h
  | succ d ih =>
    intro σ a1 a2 r h
    rw [g_X9_tells] at h
    refine mw_of RX9 (fiI G) [(0, .ref (gad G 81)), (1, .int a1), (2, .int a2)] (by decide +kernel) rfl (Nat.le_of_ble_eq_true rfl) rfl h rfl (fun p e s m args below meth c X hr hnm => ?_)
    unfold b_X9_tells
    refine sm_iload_n X 1 1 dX9_tells_0 rfl rfl rfl ?_
    refine sm_if (fun h1_0 => ?_) (fun h1_0 => ?_)
    · refine sm_lookup X 36 dX9_tells_1 (by decide) (by first | (rw [h1_0]; done) | (rw [h1_0]; rfl)) (by decide) ?_
      refine sm_aload_n X 37 0 dX9_tells_36 rfl rfl rfl ?_
      refine sm_bipush X 39 (13) dX9_tells_37 rfl rfl ?_
      refine sm_bind (fun r39 h39 => ?_)
      refine sm_callV0 X 42 [.int 13] [] [] (c_X9_ran l G σ (13 : Int32) r39 h39) cw_X9_ran q_1248 qs_59 q_1246 rfl (by decide) rfl rfl rfl rfl rfl (Nat.le_of_ble_eq_true rfl) ⟨by show _ + 1 ≤ _ + (_ + 1); omega, by show _ ≤ _ + 64 * (_ + 1); omega⟩ ⟨Nat.le_refl _, Nat.le_refl _⟩ dX9_tells_39 rfl ?_
      refine sm_aload_n X 43 0 dX9_tells_42 rfl rfl rfl ?_
      refine sm_aload_n X 44 0 dX9_tells_43 rfl rfl rfl ?_
      refine sm_bind (fun r44 h44 => ?_)
      refine sm_callV0 X 47 [] [.ref (gad G 81)] [.int r44, .ref (gad G 81)] (c_X9_own l G r39  r44 h44) cw_X9_own q_1240 qs_57 q_1238 rfl (by decide) rfl rfl rfl rfl rfl (Nat.le_of_ble_eq_true rfl) ⟨by show _ + 1 ≤ _ + (_ + 1); omega, by show _ ≤ _ + 64 * (_ + 1); omega⟩ ⟨Nat.le_refl _, Nat.le_refl _⟩ dX9_tells_44 rfl ?_
      refine sm_iload_n X 48 2 dX9_tells_47 rfl rfl rfl ?_
      refine sm_bind (fun r48 h48 => ?_)
      refine sm_callV0 X 51 [.int r44, .int a2] [] [.int r48.1] (c_X9_breathes l G r39 r44 a2 r48 h48) cw_X9_breathes q_1252 qs_60 q_1250 rfl (by decide) rfl rfl rfl rfl rfl (Nat.le_of_ble_eq_true rfl) ⟨by show _ + 1 ≤ _ + (_ + 1); omega, by show _ ≤ _ + 64 * (_ + 1); omega⟩ ⟨Nat.le_refl _, Nat.le_refl _⟩ dX9_tells_48 rfl ?_
      refine sm_istore_n X 52 [(3, .int r48.1), (0, .ref (gad G 81)), (1, .int a1), (2, .int a2)] dX9_tells_51 rfl rfl (by decide) rfl ?_
      refine sm_iload_n X 53 0 dX9_tells_52 rfl rfl rfl ?_
      refine sm_aload_n X 54 1 dX9_tells_53 rfl rfl rfl ?_
      refine sm_aload_n X 55 1 dX9_tells_54 rfl rfl rfl ?_
      refine sm_bind (fun r55 h55 => ?_)
      refine sm_callV0 X 58 [] [.ref (gad G 81), .int r48.1] [.int r55, .ref (gad G 81), .int r48.1] (c_X9_own l G r48.2  r55 h55) cw_X9_own q_1240 qs_57 q_1238 rfl (by decide) rfl rfl rfl rfl rfl (Nat.le_of_ble_eq_true rfl) ⟨by show _ + 1 ≤ _ + (_ + 1); omega, by show _ ≤ _ + 64 * (_ + 1); omega⟩ ⟨Nat.le_refl _, Nat.le_refl _⟩ dX9_tells_55 rfl ?_
      refine sm_iload_n X 59 3 dX9_tells_58 rfl rfl rfl ?_
      refine sm_bind (fun r59 h59 => ?_)
      refine sm_callV0 X 62 [.int r55, .int a2] [.int r48.1] [.int r59.1, .int r48.1] (c_X9_tires l G r48.2 r55 a2 r59 h59) cw_X9_tires q_1256 qs_61 q_1254 rfl (by decide) rfl rfl rfl rfl rfl (Nat.le_of_ble_eq_true rfl) ⟨by show _ + 1 ≤ _ + (_ + 1); omega, by show _ ≤ _ + 64 * (_ + 1); omega⟩ ⟨Nat.le_refl _, Nat.le_refl _⟩ dX9_tells_59 rfl ?_
      refine sm_ixor X 63 dX9_tells_62 rfl ?_
      exact sm_iret X hr dX9_tells_63 rfl
    refine sm_if (fun h1_1 => ?_) (fun h1_1 => ?_)
    · refine sm_lookup X 64 dX9_tells_1 (by decide) (by first | (rw [h1_1]; done) | (rw [h1_1]; rfl)) (by decide) ?_
      refine sm_aload_n X 65 0 dX9_tells_64 rfl rfl rfl ?_
      refine sm_bipush X 67 (60) dX9_tells_65 rfl rfl ?_
      refine sm_bind (fun r67 h67 => ?_)
      refine sm_callV0 X 70 [.int 60] [] [] (c_X9_ran l G σ (60 : Int32) r67 h67) cw_X9_ran q_1248 qs_59 q_1246 rfl (by decide) rfl rfl rfl rfl rfl (Nat.le_of_ble_eq_true rfl) ⟨by show _ + 1 ≤ _ + (_ + 1); omega, by show _ ≤ _ + 64 * (_ + 1); omega⟩ ⟨Nat.le_refl _, Nat.le_refl _⟩ dX9_tells_67 rfl ?_
      refine sm_aload_n X 71 0 dX9_tells_70 rfl rfl rfl ?_
      refine sm_iconst X 72 (5) dX9_tells_71 rfl rfl ?_
      refine sm_bind (fun r72 h72 => ?_)
      refine sm_callS0 X 75 [.int 5] [.ref (gad G 81)] [.int r72, .ref (gad G 81)] (c_X9_above l G r67 (5 : Int32) r72 h72) cw_X9_above q_1111 q_1110 rfl rfl rfl (Nat.le_of_ble_eq_true rfl) ⟨by show _ + 1 ≤ _ + (_ + 1); omega, by show _ ≤ _ + 64 * (_ + 1); omega⟩ ⟨Nat.le_refl _, Nat.le_refl _⟩ dX9_tells_72 rfl ?_
      refine sm_iload_n X 76 2 dX9_tells_75 rfl rfl rfl ?_
      refine sm_bind (fun r76 h76 => ?_)
      refine sm_callV0 X 79 [.int r72, .int a2] [] [.int r76.1] (ih r67 r72 a2 r76 h76) cw_X9_tells q_1260 qs_62 q_1258 rfl (by decide) rfl rfl rfl rfl rfl (Nat.le_of_ble_eq_true rfl) ⟨by show _ + _ + 1 ≤ _ + (_ + 1); omega, by show _ + (_ + 64 * _) ≤ _ + 64 * (_ + 1); omega⟩ ⟨Nat.le_refl _, Nat.le_refl _⟩ dX9_tells_76 rfl ?_
      refine sm_istore_n X 80 [(3, .int r76.1), (0, .ref (gad G 81)), (1, .int a1), (2, .int a2)] dX9_tells_79 rfl rfl (by decide) rfl ?_
      refine sm_iload_n X 81 0 dX9_tells_80 rfl rfl rfl ?_
      refine sm_aload_n X 82 1 dX9_tells_81 rfl rfl rfl ?_
      refine sm_aload_n X 83 1 dX9_tells_82 rfl rfl rfl ?_
      refine sm_bind (fun r83 h83 => ?_)
      refine sm_callV0 X 86 [] [.ref (gad G 81), .int r76.1] [.int r83, .ref (gad G 81), .int r76.1] (c_X9_own l G r76.2  r83 h83) cw_X9_own q_1240 qs_57 q_1238 rfl (by decide) rfl rfl rfl rfl rfl (Nat.le_of_ble_eq_true rfl) ⟨by show _ + 1 ≤ _ + (_ + 1); omega, by show _ ≤ _ + 64 * (_ + 1); omega⟩ ⟨Nat.le_refl _, Nat.le_refl _⟩ dX9_tells_83 rfl ?_
      refine sm_iconst X 87 (2) dX9_tells_86 rfl rfl ?_
      refine sm_bind (fun r87 h87 => ?_)
      refine sm_callV0 X 90 [.int r83, .int 2] [.int r76.1] [.int r87.1, .int r76.1] (c_X9_swims l G r76.2 r83 (2 : Int32) r87 h87) cw_X9_swims q_1244 qs_58 q_1242 rfl (by decide) rfl rfl rfl rfl rfl (Nat.le_of_ble_eq_true rfl) ⟨by show _ + 1 ≤ _ + (_ + 1); omega, by show _ ≤ _ + 64 * (_ + 1); omega⟩ ⟨Nat.le_refl _, Nat.le_refl _⟩ dX9_tells_87 rfl ?_
      refine sm_isub X 91 dX9_tells_90 rfl ?_
      exact sm_iret X hr dX9_tells_91 rfl
    refine sm_if (fun h1_2 => ?_) (fun h1_2 => ?_)
    · refine sm_lookup X 92 dX9_tells_1 (by decide) (by first | (rw [h1_2]; done) | (rw [h1_2]; rfl)) (by decide) ?_
      refine sm_aload_n X 93 0 dX9_tells_92 rfl rfl rfl ?_
      refine sm_bipush X 95 (71) dX9_tells_93 rfl rfl ?_
      refine sm_bind (fun r95 h95 => ?_)
      refine sm_callV0 X 98 [.int 71] [] [] (c_X9_ran l G σ (71 : Int32) r95 h95) cw_X9_ran q_1248 qs_59 q_1246 rfl (by decide) rfl rfl rfl rfl rfl (Nat.le_of_ble_eq_true rfl) ⟨by show _ + 1 ≤ _ + (_ + 1); omega, by show _ ≤ _ + 64 * (_ + 1); omega⟩ ⟨Nat.le_refl _, Nat.le_refl _⟩ dX9_tells_95 rfl ?_
      refine sm_aload_n X 99 0 dX9_tells_98 rfl rfl rfl ?_
      refine sm_aload_n X 100 0 dX9_tells_99 rfl rfl rfl ?_
      refine sm_bind (fun r100 h100 => ?_)
      refine sm_callV0 X 103 [] [.ref (gad G 81)] [.int r100, .ref (gad G 81)] (c_X9_own l G r95  r100 h100) cw_X9_own q_1240 qs_57 q_1238 rfl (by decide) rfl rfl rfl rfl rfl (Nat.le_of_ble_eq_true rfl) ⟨by show _ + 1 ≤ _ + (_ + 1); omega, by show _ ≤ _ + 64 * (_ + 1); omega⟩ ⟨Nat.le_refl _, Nat.le_refl _⟩ dX9_tells_100 rfl ?_
      refine sm_iload_n X 104 2 dX9_tells_103 rfl rfl rfl ?_
      refine sm_bind (fun r104 h104 => ?_)
      refine sm_callV0 X 107 [.int r100, .int a2] [] [.int r104.1] (c_X9_breathes l G r95 r100 a2 r104 h104) cw_X9_breathes q_1252 qs_60 q_1250 rfl (by decide) rfl rfl rfl rfl rfl (Nat.le_of_ble_eq_true rfl) ⟨by show _ + 1 ≤ _ + (_ + 1); omega, by show _ ≤ _ + 64 * (_ + 1); omega⟩ ⟨Nat.le_refl _, Nat.le_refl _⟩ dX9_tells_104 rfl ?_
      refine sm_istore_n X 108 [(3, .int r104.1), (0, .ref (gad G 81)), (1, .int a1), (2, .int a2)] dX9_tells_107 rfl rfl (by decide) rfl ?_
      refine sm_iload_n X 109 0 dX9_tells_108 rfl rfl rfl ?_
      refine sm_aload_n X 110 1 dX9_tells_109 rfl rfl rfl ?_
      refine sm_bipush X 112 (6) dX9_tells_110 rfl rfl ?_
      refine sm_bind (fun r112 h112 => ?_)
      refine sm_callS0 X 115 [.int 6] [.ref (gad G 81), .int r104.1] [.int r112, .ref (gad G 81), .int r104.1] (c_X9_above l G r104.2 (6 : Int32) r112 h112) cw_X9_above q_1111 q_1110 rfl rfl rfl (Nat.le_of_ble_eq_true rfl) ⟨by show _ + 1 ≤ _ + (_ + 1); omega, by show _ ≤ _ + 64 * (_ + 1); omega⟩ ⟨Nat.le_refl _, Nat.le_refl _⟩ dX9_tells_112 rfl ?_
      refine sm_iload_n X 116 3 dX9_tells_115 rfl rfl rfl ?_
      refine sm_bind (fun r116 h116 => ?_)
      refine sm_callV0 X 119 [.int r112, .int a2] [.int r104.1] [.int r116.1, .int r104.1] (ih r104.2 r112 a2 r116 h116) cw_X9_tells q_1260 qs_62 q_1258 rfl (by decide) rfl rfl rfl rfl rfl (Nat.le_of_ble_eq_true rfl) ⟨by show _ + _ + 1 ≤ _ + (_ + 1); omega, by show _ + (_ + 64 * _) ≤ _ + 64 * (_ + 1); omega⟩ ⟨Nat.le_refl _, Nat.le_refl _⟩ dX9_tells_116 rfl ?_
      refine sm_isub X 120 dX9_tells_119 rfl ?_
      exact sm_iret X hr dX9_tells_120 rfl
    have q0 : ¬ (a1).toInt = 0 := ne_toInt h1_0
    have q1 : ¬ (a1).toInt = 5 := ne_toInt h1_1
    have q2 : ¬ (a1).toInt = 6 := ne_toInt h1_2
    refine sm_lookup X (off := 120) 121 dX9_tells_1 (by decide) (by simp [Op.lookupswitch.offset, q0, Ne.symm q0, q1, Ne.symm q1, q2, Ne.symm q2]) (by decide) ?_
    refine sm_aload_n X 122 0 dX9_tells_121 rfl rfl rfl ?_
    refine sm_iload_n X 123 1 dX9_tells_122 rfl rfl rfl ?_
    refine sm_bind (fun r123 h123 => ?_)
    refine sm_callS0 X 126 [.int a1] [.ref (gad G 81)] [.int r123, .ref (gad G 81)] (c_X9_above l G σ a1 r123 h123) cw_X9_above q_1111 q_1110 rfl rfl rfl (Nat.le_of_ble_eq_true rfl) ⟨by show _ + 1 ≤ _ + (_ + 1); omega, by show _ ≤ _ + 64 * (_ + 1); omega⟩ ⟨Nat.le_refl _, Nat.le_refl _⟩ dX9_tells_123 rfl ?_
    refine sm_iload_n X 127 2 dX9_tells_126 rfl rfl rfl ?_
    refine sm_bind (fun r127 h127 => ?_)
    refine sm_callV0 X 130 [.int r123, .int a2] [] [.int r127.1] (ih σ r123 a2 r127 h127) cw_X9_tells q_1260 qs_62 q_1258 rfl (by decide) rfl rfl rfl rfl rfl (Nat.le_of_ble_eq_true rfl) ⟨by show _ + _ + 1 ≤ _ + (_ + 1); omega, by show _ + (_ + 64 * _) ≤ _ + 64 * (_ + 1); omega⟩ ⟨Nat.le_refl _, Nat.le_refl _⟩ dX9_tells_127 rfl ?_
    exact sm_iret X hr dX9_tells_130 rfl
set_option maxHeartbeats 4000000 in
set_option maxRecDepth 100000 in
theorem c_X9_tells (l : Launch) (G : GT) (σ : Sto) (a1 : Int32) (a2 : Int32) (r : (Int32 × Sto)) (h : g_X9_tells 8 0 a1 a2 σ = some r) : MW l G (32) (1859) 0 0 yX9_tells cX9_tells 4 (Option.some Jvm.ClassFile.FieldType.int) [.ref (gad G 81), .int a1, .int a2] (wl G σ) (some (.int r.1)) (wl G r.2) := (cg_X9_tells l G 8) σ a1 a2 r h
def by_X9_voice_0 : List Nat := [42, 27, 182, 0, 169, 153, 0, 15, 28, 133, 9, 20, 0, 155, 184, 0]
def by_X9_voice_1 : List Nat := [49, 154, 0, 9, 42, 4, 182, 0, 126, 172, 42, 3, 181, 0, 252, 42]
def by_X9_voice_2 : List Nat := [27, 181, 0, 255, 42, 182, 1, 8, 54, 4, 28, 154, 0, 13, 42, 21]
def by_X9_voice_3 : List Nat := [4, 29, 182, 1, 5, 167, 0, 40, 28, 4, 160, 0, 13, 42, 21, 4]
def by_X9_voice_4 : List Nat := [29, 182, 1, 11, 167, 0, 25, 28, 5, 160, 0, 13, 42, 21, 4, 29]
def by_X9_voice_z : List Nat := [182, 1, 14, 167, 0, 10, 42, 21, 4, 29, 182, 1, 17, 172]
def by_X9_voice : List (List Nat) := [by_X9_voice_0, by_X9_voice_1, by_X9_voice_2, by_X9_voice_3, by_X9_voice_4]
set_option maxRecDepth 100000 in
theorem byo_X9_voice : cX9_voice.data.toList.map UInt8.toNat = by_X9_voice.flatten ++ by_X9_voice_z := by decide +kernel
theorem byl_X9_voice : by_X9_voice.all (fun r => r.length == 16) = true := by decide +kernel
theorem byr_X9_voice_0 {j v : Nat} (h : by_X9_voice_0[j]? = some v) : RD cX9_voice (0 + j) v := rd_16 byo_X9_voice byl_X9_voice 0 rfl h
theorem byr_X9_voice_1 {j v : Nat} (h : by_X9_voice_1[j]? = some v) : RD cX9_voice (16 + j) v := rd_16 byo_X9_voice byl_X9_voice 1 rfl h
theorem byr_X9_voice_2 {j v : Nat} (h : by_X9_voice_2[j]? = some v) : RD cX9_voice (32 + j) v := rd_16 byo_X9_voice byl_X9_voice 2 rfl h
theorem byr_X9_voice_3 {j v : Nat} (h : by_X9_voice_3[j]? = some v) : RD cX9_voice (48 + j) v := rd_16 byo_X9_voice byl_X9_voice 3 rfl h
theorem byr_X9_voice_4 {j v : Nat} (h : by_X9_voice_4[j]? = some v) : RD cX9_voice (64 + j) v := rd_16 byo_X9_voice byl_X9_voice 4 rfl h
theorem byr_X9_voice_5 {j v : Nat} (h : by_X9_voice_z[j]? = some v) : RD cX9_voice (80 + j) v := rd_z byo_X9_voice byl_X9_voice 5 rfl h
theorem dX9_voice_0 : decode cX9_voice 0 = .ok (.aload_n 0, 1) := dk_42 (byr_X9_voice_0 (j := 0) rfl)
theorem dX9_voice_1 : decode cX9_voice 1 = .ok (.iload_n 1, 1) := dk_27 (byr_X9_voice_0 (j := 1) rfl)
theorem dX9_voice_2 : decode cX9_voice 2 = .ok (.invokevirtual 169, 3) := dk_182 (byr_X9_voice_0 (j := 2) rfl) (byr_X9_voice_0 (j := 3) rfl) (byr_X9_voice_0 (j := 4) rfl) (by decide)
theorem dX9_voice_5 : decode cX9_voice 5 = .ok (.ifCond .eq 15, 3) := dk_153 (byr_X9_voice_0 (j := 5) rfl) (byr_X9_voice_0 (j := 6) rfl) (byr_X9_voice_0 (j := 7) rfl) (by decide)
theorem dX9_voice_8 : decode cX9_voice 8 = .ok (.iload_n 2, 1) := dk_28 (byr_X9_voice_0 (j := 8) rfl)
theorem dX9_voice_9 : decode cX9_voice 9 = .ok (.i2l, 1) := dk_133 (byr_X9_voice_0 (j := 9) rfl)
theorem dX9_voice_10 : decode cX9_voice 10 = .ok (.lconst 0, 1) := dk_9 (byr_X9_voice_0 (j := 10) rfl)
theorem dX9_voice_11 : decode cX9_voice 11 = .ok (.ldc2_w 155, 3) := dk_20 (byr_X9_voice_0 (j := 11) rfl) (byr_X9_voice_0 (j := 12) rfl) (byr_X9_voice_0 (j := 13) rfl) (by decide)
theorem dX9_voice_14 : decode cX9_voice 14 = .ok (.invokestatic 49, 3) := dk_184 (byr_X9_voice_0 (j := 14) rfl) (byr_X9_voice_0 (j := 15) rfl) (byr_X9_voice_1 (j := 0) rfl) (by decide)
theorem dX9_voice_17 : decode cX9_voice 17 = .ok (.ifCond .ne 9, 3) := dk_154 (byr_X9_voice_1 (j := 1) rfl) (byr_X9_voice_1 (j := 2) rfl) (byr_X9_voice_1 (j := 3) rfl) (by decide)
theorem dX9_voice_20 : decode cX9_voice 20 = .ok (.aload_n 0, 1) := dk_42 (byr_X9_voice_1 (j := 4) rfl)
theorem dX9_voice_21 : decode cX9_voice 21 = .ok (.iconst 1, 1) := dk_4 (byr_X9_voice_1 (j := 5) rfl)
theorem dX9_voice_22 : decode cX9_voice 22 = .ok (.invokevirtual 126, 3) := dk_182 (byr_X9_voice_1 (j := 6) rfl) (byr_X9_voice_1 (j := 7) rfl) (byr_X9_voice_1 (j := 8) rfl) (by decide)
theorem dX9_voice_25 : decode cX9_voice 25 = .ok (.ireturn, 1) := dk_172 (byr_X9_voice_1 (j := 9) rfl)
theorem dX9_voice_26 : decode cX9_voice 26 = .ok (.aload_n 0, 1) := dk_42 (byr_X9_voice_1 (j := 10) rfl)
theorem dX9_voice_27 : decode cX9_voice 27 = .ok (.iconst 0, 1) := dk_3 (byr_X9_voice_1 (j := 11) rfl)
theorem dX9_voice_28 : decode cX9_voice 28 = .ok (.putfield 252, 3) := dk_181 (byr_X9_voice_1 (j := 12) rfl) (byr_X9_voice_1 (j := 13) rfl) (byr_X9_voice_1 (j := 14) rfl) (by decide)
theorem dX9_voice_31 : decode cX9_voice 31 = .ok (.aload_n 0, 1) := dk_42 (byr_X9_voice_1 (j := 15) rfl)
theorem dX9_voice_32 : decode cX9_voice 32 = .ok (.iload_n 1, 1) := dk_27 (byr_X9_voice_2 (j := 0) rfl)
theorem dX9_voice_33 : decode cX9_voice 33 = .ok (.putfield 255, 3) := dk_181 (byr_X9_voice_2 (j := 1) rfl) (byr_X9_voice_2 (j := 2) rfl) (byr_X9_voice_2 (j := 3) rfl) (by decide)
theorem dX9_voice_36 : decode cX9_voice 36 = .ok (.aload_n 0, 1) := dk_42 (byr_X9_voice_2 (j := 4) rfl)
theorem dX9_voice_37 : decode cX9_voice 37 = .ok (.invokevirtual 264, 3) := dk_182 (byr_X9_voice_2 (j := 5) rfl) (byr_X9_voice_2 (j := 6) rfl) (byr_X9_voice_2 (j := 7) rfl) (by decide)
theorem dX9_voice_40 : decode cX9_voice 40 = .ok (.istore 4, 2) := dk_54 (byr_X9_voice_2 (j := 8) rfl) (byr_X9_voice_2 (j := 9) rfl)
theorem dX9_voice_42 : decode cX9_voice 42 = .ok (.iload_n 2, 1) := dk_28 (byr_X9_voice_2 (j := 10) rfl)
theorem dX9_voice_43 : decode cX9_voice 43 = .ok (.ifCond .ne 13, 3) := dk_154 (byr_X9_voice_2 (j := 11) rfl) (byr_X9_voice_2 (j := 12) rfl) (byr_X9_voice_2 (j := 13) rfl) (by decide)
theorem dX9_voice_46 : decode cX9_voice 46 = .ok (.aload_n 0, 1) := dk_42 (byr_X9_voice_2 (j := 14) rfl)
theorem dX9_voice_47 : decode cX9_voice 47 = .ok (.iload 4, 2) := dk_21 (byr_X9_voice_2 (j := 15) rfl) (byr_X9_voice_3 (j := 0) rfl)
theorem dX9_voice_49 : decode cX9_voice 49 = .ok (.iload_n 3, 1) := dk_29 (byr_X9_voice_3 (j := 1) rfl)
theorem dX9_voice_50 : decode cX9_voice 50 = .ok (.invokevirtual 261, 3) := dk_182 (byr_X9_voice_3 (j := 2) rfl) (byr_X9_voice_3 (j := 3) rfl) (byr_X9_voice_3 (j := 4) rfl) (by decide)
theorem dX9_voice_53 : decode cX9_voice 53 = .ok (.goto 40, 3) := dk_167 (byr_X9_voice_3 (j := 5) rfl) (byr_X9_voice_3 (j := 6) rfl) (byr_X9_voice_3 (j := 7) rfl) (by decide)
theorem dX9_voice_56 : decode cX9_voice 56 = .ok (.iload_n 2, 1) := dk_28 (byr_X9_voice_3 (j := 8) rfl)
theorem dX9_voice_57 : decode cX9_voice 57 = .ok (.iconst 1, 1) := dk_4 (byr_X9_voice_3 (j := 9) rfl)
theorem dX9_voice_58 : decode cX9_voice 58 = .ok (.if_icmp .ne 13, 3) := dk_160 (byr_X9_voice_3 (j := 10) rfl) (byr_X9_voice_3 (j := 11) rfl) (byr_X9_voice_3 (j := 12) rfl) (by decide)
theorem dX9_voice_61 : decode cX9_voice 61 = .ok (.aload_n 0, 1) := dk_42 (byr_X9_voice_3 (j := 13) rfl)
theorem dX9_voice_62 : decode cX9_voice 62 = .ok (.iload 4, 2) := dk_21 (byr_X9_voice_3 (j := 14) rfl) (byr_X9_voice_3 (j := 15) rfl)
theorem dX9_voice_64 : decode cX9_voice 64 = .ok (.iload_n 3, 1) := dk_29 (byr_X9_voice_4 (j := 0) rfl)
theorem dX9_voice_65 : decode cX9_voice 65 = .ok (.invokevirtual 267, 3) := dk_182 (byr_X9_voice_4 (j := 1) rfl) (byr_X9_voice_4 (j := 2) rfl) (byr_X9_voice_4 (j := 3) rfl) (by decide)
theorem dX9_voice_68 : decode cX9_voice 68 = .ok (.goto 25, 3) := dk_167 (byr_X9_voice_4 (j := 4) rfl) (byr_X9_voice_4 (j := 5) rfl) (byr_X9_voice_4 (j := 6) rfl) (by decide)
theorem dX9_voice_71 : decode cX9_voice 71 = .ok (.iload_n 2, 1) := dk_28 (byr_X9_voice_4 (j := 7) rfl)
theorem dX9_voice_72 : decode cX9_voice 72 = .ok (.iconst 2, 1) := dk_5 (byr_X9_voice_4 (j := 8) rfl)
theorem dX9_voice_73 : decode cX9_voice 73 = .ok (.if_icmp .ne 13, 3) := dk_160 (byr_X9_voice_4 (j := 9) rfl) (byr_X9_voice_4 (j := 10) rfl) (byr_X9_voice_4 (j := 11) rfl) (by decide)
theorem dX9_voice_76 : decode cX9_voice 76 = .ok (.aload_n 0, 1) := dk_42 (byr_X9_voice_4 (j := 12) rfl)
theorem dX9_voice_77 : decode cX9_voice 77 = .ok (.iload 4, 2) := dk_21 (byr_X9_voice_4 (j := 13) rfl) (byr_X9_voice_4 (j := 14) rfl)
theorem dX9_voice_79 : decode cX9_voice 79 = .ok (.iload_n 3, 1) := dk_29 (byr_X9_voice_4 (j := 15) rfl)
theorem dX9_voice_80 : decode cX9_voice 80 = .ok (.invokevirtual 270, 3) := dk_182 (byr_X9_voice_5 (j := 0) rfl) (byr_X9_voice_5 (j := 1) rfl) (byr_X9_voice_5 (j := 2) rfl) (by decide)
theorem dX9_voice_83 : decode cX9_voice 83 = .ok (.goto 10, 3) := dk_167 (byr_X9_voice_5 (j := 3) rfl) (byr_X9_voice_5 (j := 4) rfl) (byr_X9_voice_5 (j := 5) rfl) (by decide)
theorem dX9_voice_86 : decode cX9_voice 86 = .ok (.aload_n 0, 1) := dk_42 (byr_X9_voice_5 (j := 6) rfl)
theorem dX9_voice_87 : decode cX9_voice 87 = .ok (.iload 4, 2) := dk_21 (byr_X9_voice_5 (j := 7) rfl) (byr_X9_voice_5 (j := 8) rfl)
theorem dX9_voice_89 : decode cX9_voice 89 = .ok (.iload_n 3, 1) := dk_29 (byr_X9_voice_5 (j := 9) rfl)
theorem dX9_voice_90 : decode cX9_voice 90 = .ok (.invokevirtual 273, 3) := dk_182 (byr_X9_voice_5 (j := 10) rfl) (byr_X9_voice_5 (j := 11) rfl) (byr_X9_voice_5 (j := 12) rfl) (by decide)
theorem dX9_voice_93 : decode cX9_voice 93 = .ok (.ireturn, 1) := dk_172 (byr_X9_voice_5 (j := 13) rfl)
set_option maxHeartbeats 4000000 in
set_option maxRecDepth 100000 in
theorem c_X9_voice (l : Launch) (G : GT) (σ : Sto) (a1 : Int32) (a2 : Int32) (a3 : Int32) (r : (Int32 × Sto)) (h : f_X9_voice σ a1 a2 a3 = some r) : MW l G (33) (1882) 0 0 yX9_voice cX9_voice 5 (Option.some Jvm.ClassFile.FieldType.int) [.ref (gad G 81), .int a1, .int a2, .int a3] (wl G σ) (some (.int r.1)) (wl G r.2) := by
  refine mw_of RX9 (fiI G) [(0, .ref (gad G 81)), (1, .int a1), (2, .int a2), (3, .int a3)] (by decide +kernel) rfl (Nat.le_of_ble_eq_true rfl) rfl h rfl (fun p e s m args below meth c X hr hnm => ?_)
  unfold f_X9_voice
  refine sm_aload_n X 1 0 dX9_voice_0 rfl rfl rfl ?_
  refine sm_iload_n X 2 1 dX9_voice_1 rfl rfl rfl ?_
  refine sm_bind (fun r2 h2 => ?_)
  refine sm_callV0 X 5 [.int a1] [] [.int (b2i r2)] (c_X9_isSwimmer l G σ a1 r2 h2) cw_X9_isSwimmer q_1086 qs_44 q_1084 rfl (by decide) rfl rfl rfl rfl rfl (Nat.le_of_ble_eq_true rfl) ⟨Nat.le_of_ble_eq_true rfl, Nat.le_of_ble_eq_true rfl⟩ ⟨Nat.le_refl _, Nat.le_refl _⟩ dX9_voice_2 rfl ?_
  refine sm_ifz_eq X 8 20 dX9_voice_5 rfl (by decide) (fun h5 => ?_) (fun h5 => ?_)
  · refine sm_iload_n X 9 2 dX9_voice_8 rfl rfl rfl ?_
    refine sm_i2l X 10 dX9_voice_9 rfl ?_
    refine sm_lconst X 11 (0) dX9_voice_10 rfl rfl ?_
    refine sm_ldc2 X 14 (3) dX9_voice_11 rfl q_1060 ?_
    refine sm_bind (fun r14 h14 => ?_)
    refine sm_callS0 X 17 [.long (Int32.toInt64 a2), .long (0 : Int64), .long (3 : Int64)] [] [.int (b2i r14)] (c_X9_in l G σ (Int32.toInt64 a2) (0 : Int64) (3 : Int64) r14 h14) cw_X9_in q_961 q_960 rfl rfl rfl (Nat.le_of_ble_eq_true rfl) ⟨Nat.le_of_ble_eq_true rfl, Nat.le_of_ble_eq_true rfl⟩ ⟨Nat.le_refl _, Nat.le_refl _⟩ dX9_voice_14 rfl ?_
    refine sm_ifz_ne X 20 26 dX9_voice_17 rfl (by decide) (fun h17 => ?_) (fun h17 => ?_)
    · refine sm_aload_n X 27 0 dX9_voice_26 rfl rfl rfl ?_
      refine sm_iconst X 28 (0) dX9_voice_27 rfl rfl ?_
      refine sm_puti X 31 .int rfl fd_9_18 (by decide) rfl rfl rfl dX9_voice_28 rfl q_900 (fun σ28 e28 => ?_)
      clear e28
      refine sm_aload_n X 32 0 dX9_voice_31 rfl rfl rfl ?_
      refine sm_iload_n X 33 1 dX9_voice_32 rfl rfl rfl ?_
      refine sm_puti X 36 .int rfl fd_9_19 (by decide) rfl rfl rfl dX9_voice_33 rfl q_901 (fun σ33 e33 => ?_)
      clear e33
      refine sm_aload_n X 37 0 dX9_voice_36 rfl rfl rfl ?_
      refine sm_bind (fun r37 h37 => ?_)
      refine sm_callV0 X 40 [] [] [.int r37] (c_X9_own l G σ33  r37 h37) cw_X9_own q_1240 qs_57 q_1238 rfl (by decide) rfl rfl rfl rfl rfl (Nat.le_of_ble_eq_true rfl) ⟨Nat.le_of_ble_eq_true rfl, Nat.le_of_ble_eq_true rfl⟩ ⟨Nat.le_refl _, Nat.le_refl _⟩ dX9_voice_37 rfl ?_
      refine sm_istore X 42 [(4, .int r37), (0, .ref (gad G 81)), (1, .int a1), (2, .int a2), (3, .int a3)] dX9_voice_40 rfl (by decide) rfl ?_
      refine sm_iload_n X 43 3 dX9_voice_42 rfl rfl rfl ?_
      refine sm_if_ne X 46 56 dX9_voice_43 rfl (by decide) (fun h43 => ?_) (fun h43 => ?_)
      · refine sm_aload_n X 47 1 dX9_voice_46 rfl rfl rfl ?_
        refine sm_iload X 49 0 dX9_voice_47 rfl rfl ?_
        refine sm_iload_n X 50 4 dX9_voice_49 rfl rfl rfl ?_
        refine sm_bind (fun r50 h50 => ?_)
        refine sm_callV0 X 53 [.int r37, .int a3] [] [.int r50.1] (c_X9_swims l G σ33 r37 a3 r50 h50) cw_X9_swims q_1244 qs_58 q_1242 rfl (by decide) rfl rfl rfl rfl rfl (Nat.le_of_ble_eq_true rfl) ⟨Nat.le_of_ble_eq_true rfl, Nat.le_of_ble_eq_true rfl⟩ ⟨Nat.le_refl _, Nat.le_refl _⟩ dX9_voice_50 rfl ?_
        refine sm_goto X 93 dX9_voice_53 (by decide) ?_
        exact sm_iret X hr dX9_voice_93 rfl
      · refine sm_iload_n X 57 3 dX9_voice_56 rfl rfl rfl ?_
        refine sm_iconst X 58 (1) dX9_voice_57 rfl rfl ?_
        refine sm_icmp_ne X 61 71 dX9_voice_58 rfl (by decide) (fun h58 => ?_) (fun h58 => ?_)
        · refine sm_aload_n X 62 1 dX9_voice_61 rfl rfl rfl ?_
          refine sm_iload X 64 0 dX9_voice_62 rfl rfl ?_
          refine sm_iload_n X 65 4 dX9_voice_64 rfl rfl rfl ?_
          refine sm_bind (fun r65 h65 => ?_)
          refine sm_callV0 X 68 [.int r37, .int a3] [] [.int r65.1] (c_X9_breathes l G σ33 r37 a3 r65 h65) cw_X9_breathes q_1252 qs_60 q_1250 rfl (by decide) rfl rfl rfl rfl rfl (Nat.le_of_ble_eq_true rfl) ⟨Nat.le_of_ble_eq_true rfl, Nat.le_of_ble_eq_true rfl⟩ ⟨Nat.le_refl _, Nat.le_refl _⟩ dX9_voice_65 rfl ?_
          refine sm_goto X 93 dX9_voice_68 (by decide) ?_
          exact sm_iret X hr dX9_voice_93 rfl
        · refine sm_iload_n X 72 3 dX9_voice_71 rfl rfl rfl ?_
          refine sm_iconst X 73 (2) dX9_voice_72 rfl rfl ?_
          refine sm_icmp_ne X 76 86 dX9_voice_73 rfl (by decide) (fun h73 => ?_) (fun h73 => ?_)
          · refine sm_aload_n X 77 1 dX9_voice_76 rfl rfl rfl ?_
            refine sm_iload X 79 0 dX9_voice_77 rfl rfl ?_
            refine sm_iload_n X 80 4 dX9_voice_79 rfl rfl rfl ?_
            refine sm_bind (fun r80 h80 => ?_)
            refine sm_callV0 X 83 [.int r37, .int a3] [] [.int r80.1] (c_X9_tires l G σ33 r37 a3 r80 h80) cw_X9_tires q_1256 qs_61 q_1254 rfl (by decide) rfl rfl rfl rfl rfl (Nat.le_of_ble_eq_true rfl) ⟨Nat.le_of_ble_eq_true rfl, Nat.le_of_ble_eq_true rfl⟩ ⟨Nat.le_refl _, Nat.le_refl _⟩ dX9_voice_80 rfl ?_
            refine sm_goto X 93 dX9_voice_83 (by decide) ?_
            exact sm_iret X hr dX9_voice_93 rfl
          · refine sm_aload_n X 87 1 dX9_voice_86 rfl rfl rfl ?_
            refine sm_iload X 89 0 dX9_voice_87 rfl rfl ?_
            refine sm_iload_n X 90 4 dX9_voice_89 rfl rfl rfl ?_
            refine sm_bind (fun r90 h90 => ?_)
            refine sm_callV0 X 93 [.int r37, .int a3] [] [.int r90.1] (c_X9_tells l G σ33 r37 a3 r90 h90) cw_X9_tells q_1260 qs_62 q_1258 rfl (by decide) rfl rfl rfl rfl rfl (Nat.le_of_ble_eq_true rfl) ⟨Nat.le_of_ble_eq_true rfl, Nat.le_of_ble_eq_true rfl⟩ ⟨Nat.le_refl _, Nat.le_refl _⟩ dX9_voice_90 rfl ?_
            exact sm_iret X hr dX9_voice_93 rfl
    · refine sm_aload_n X 21 0 dX9_voice_20 rfl rfl rfl ?_
      refine sm_iconst X 22 (1) dX9_voice_21 rfl rfl ?_
      refine sm_bind (fun r22 h22 => ?_)
      refine sm_callV0 X 25 [.int 1] [] [.int r22.1] (c_X9_finds l G σ (1 : Int32) r22 h22) cw_X9_finds q_965 qs_26 q_963 rfl (by decide) rfl rfl rfl rfl rfl (Nat.le_of_ble_eq_true rfl) ⟨Nat.le_of_ble_eq_true rfl, Nat.le_of_ble_eq_true rfl⟩ ⟨Nat.le_refl _, Nat.le_refl _⟩ dX9_voice_22 rfl ?_
      exact sm_iret X hr dX9_voice_25 rfl
  · refine sm_aload_n X 21 0 dX9_voice_20 rfl rfl rfl ?_
    refine sm_iconst X 22 (1) dX9_voice_21 rfl rfl ?_
    refine sm_bind (fun r22 h22 => ?_)
    refine sm_callV0 X 25 [.int 1] [] [.int r22.1] (c_X9_finds l G σ (1 : Int32) r22 h22) cw_X9_finds q_965 qs_26 q_963 rfl (by decide) rfl rfl rfl rfl rfl (Nat.le_of_ble_eq_true rfl) ⟨Nat.le_of_ble_eq_true rfl, Nat.le_of_ble_eq_true rfl⟩ ⟨Nat.le_refl _, Nat.le_refl _⟩ dX9_voice_22 rfl ?_
    exact sm_iret X hr dX9_voice_25 rfl
def by_X9_trace_0 : List Nat := [27, 133, 9, 42, 180, 0, 252, 4, 100, 133, 184, 0, 49, 153, 0, 12]
def by_X9_trace_z : List Nat := [42, 180, 0, 31, 27, 46, 167, 0, 8, 42, 5, 182, 0, 126, 172]
def by_X9_trace : List (List Nat) := [by_X9_trace_0]
set_option maxRecDepth 100000 in
theorem byo_X9_trace : cX9_trace.data.toList.map UInt8.toNat = by_X9_trace.flatten ++ by_X9_trace_z := by decide +kernel
theorem byl_X9_trace : by_X9_trace.all (fun r => r.length == 16) = true := by decide +kernel
theorem byr_X9_trace_0 {j v : Nat} (h : by_X9_trace_0[j]? = some v) : RD cX9_trace (0 + j) v := rd_16 byo_X9_trace byl_X9_trace 0 rfl h
theorem byr_X9_trace_1 {j v : Nat} (h : by_X9_trace_z[j]? = some v) : RD cX9_trace (16 + j) v := rd_z byo_X9_trace byl_X9_trace 1 rfl h
theorem dX9_trace_0 : decode cX9_trace 0 = .ok (.iload_n 1, 1) := dk_27 (byr_X9_trace_0 (j := 0) rfl)
theorem dX9_trace_1 : decode cX9_trace 1 = .ok (.i2l, 1) := dk_133 (byr_X9_trace_0 (j := 1) rfl)
theorem dX9_trace_2 : decode cX9_trace 2 = .ok (.lconst 0, 1) := dk_9 (byr_X9_trace_0 (j := 2) rfl)
theorem dX9_trace_3 : decode cX9_trace 3 = .ok (.aload_n 0, 1) := dk_42 (byr_X9_trace_0 (j := 3) rfl)
theorem dX9_trace_4 : decode cX9_trace 4 = .ok (.getfield 252, 3) := dk_180 (byr_X9_trace_0 (j := 4) rfl) (byr_X9_trace_0 (j := 5) rfl) (byr_X9_trace_0 (j := 6) rfl) (by decide)
theorem dX9_trace_7 : decode cX9_trace 7 = .ok (.iconst 1, 1) := dk_4 (byr_X9_trace_0 (j := 7) rfl)
theorem dX9_trace_8 : decode cX9_trace 8 = .ok (.isub, 1) := dk_100 (byr_X9_trace_0 (j := 8) rfl)
theorem dX9_trace_9 : decode cX9_trace 9 = .ok (.i2l, 1) := dk_133 (byr_X9_trace_0 (j := 9) rfl)
theorem dX9_trace_10 : decode cX9_trace 10 = .ok (.invokestatic 49, 3) := dk_184 (byr_X9_trace_0 (j := 10) rfl) (byr_X9_trace_0 (j := 11) rfl) (byr_X9_trace_0 (j := 12) rfl) (by decide)
theorem dX9_trace_13 : decode cX9_trace 13 = .ok (.ifCond .eq 12, 3) := dk_153 (byr_X9_trace_0 (j := 13) rfl) (byr_X9_trace_0 (j := 14) rfl) (byr_X9_trace_0 (j := 15) rfl) (by decide)
theorem dX9_trace_16 : decode cX9_trace 16 = .ok (.aload_n 0, 1) := dk_42 (byr_X9_trace_1 (j := 0) rfl)
theorem dX9_trace_17 : decode cX9_trace 17 = .ok (.getfield 31, 3) := dk_180 (byr_X9_trace_1 (j := 1) rfl) (byr_X9_trace_1 (j := 2) rfl) (byr_X9_trace_1 (j := 3) rfl) (by decide)
theorem dX9_trace_20 : decode cX9_trace 20 = .ok (.iload_n 1, 1) := dk_27 (byr_X9_trace_1 (j := 4) rfl)
theorem dX9_trace_21 : decode cX9_trace 21 = .ok (.iaload, 1) := dk_46 (byr_X9_trace_1 (j := 5) rfl)
theorem dX9_trace_22 : decode cX9_trace 22 = .ok (.goto 8, 3) := dk_167 (byr_X9_trace_1 (j := 6) rfl) (byr_X9_trace_1 (j := 7) rfl) (byr_X9_trace_1 (j := 8) rfl) (by decide)
theorem dX9_trace_25 : decode cX9_trace 25 = .ok (.aload_n 0, 1) := dk_42 (byr_X9_trace_1 (j := 9) rfl)
theorem dX9_trace_26 : decode cX9_trace 26 = .ok (.iconst 2, 1) := dk_5 (byr_X9_trace_1 (j := 10) rfl)
theorem dX9_trace_27 : decode cX9_trace 27 = .ok (.invokevirtual 126, 3) := dk_182 (byr_X9_trace_1 (j := 11) rfl) (byr_X9_trace_1 (j := 12) rfl) (byr_X9_trace_1 (j := 13) rfl) (by decide)
theorem dX9_trace_30 : decode cX9_trace 30 = .ok (.ireturn, 1) := dk_172 (byr_X9_trace_1 (j := 14) rfl)
set_option maxHeartbeats 4000000 in
set_option maxRecDepth 100000 in
theorem c_X9_trace (l : Launch) (G : GT) (σ : Sto) (a1 : Int32) (r : (Int32 × Sto)) (h : f_X9_trace σ a1 = some r) : MW l G (3) (89) 0 0 yX9_trace cX9_trace 2 (Option.some Jvm.ClassFile.FieldType.int) [.ref (gad G 81), .int a1] (wl G σ) (some (.int r.1)) (wl G r.2) := by
  refine mw_of RX9 (fiI G) [(0, .ref (gad G 81)), (1, .int a1)] (by decide +kernel) rfl (Nat.le_of_ble_eq_true rfl) rfl h rfl (fun p e s m args below meth c X hr hnm => ?_)
  unfold f_X9_trace
  refine sm_iload_n X 1 1 dX9_trace_0 rfl rfl rfl ?_
  refine sm_i2l X 2 dX9_trace_1 rfl ?_
  refine sm_lconst X 3 (0) dX9_trace_2 rfl rfl ?_
  refine sm_aload_n X 4 0 dX9_trace_3 rfl rfl rfl ?_
  refine sm_geti X 7 rfl fd_9_18 dX9_trace_4 rfl q_900 ?_
  refine sm_iconst X 8 (1) dX9_trace_7 rfl rfl ?_
  refine sm_isub X 9 dX9_trace_8 rfl ?_
  refine sm_i2l X 10 dX9_trace_9 rfl ?_
  refine sm_bind (fun r10 h10 => ?_)
  refine sm_callS0 X 13 [.long (Int32.toInt64 a1), .long (0 : Int64), .long (Int32.toInt64 ((σ.1 81 18) - (1 : Int32)))] [] [.int (b2i r10)] (c_X9_in l G σ (Int32.toInt64 a1) (0 : Int64) (Int32.toInt64 ((σ.1 81 18) - (1 : Int32))) r10 h10) cw_X9_in q_961 q_960 rfl rfl rfl (Nat.le_of_ble_eq_true rfl) ⟨Nat.le_of_ble_eq_true rfl, Nat.le_of_ble_eq_true rfl⟩ ⟨Nat.le_refl _, Nat.le_refl _⟩ dX9_trace_10 rfl ?_
  refine sm_ifz_eq X 16 25 dX9_trace_13 rfl (by decide) (fun h13 => ?_) (fun h13 => ?_)
  · refine sm_aload_n X 17 0 dX9_trace_16 rfl rfl rfl ?_
    refine sm_getf X 20 89 rfl fd_9_17 rfl dX9_trace_17 rfl q_899 ?_
    refine sm_iload_n X 21 1 dX9_trace_20 rfl rfl rfl ?_
    refine sm_iald X 22 rfl dX9_trace_21 rfl (fun r21 e21 => ?_)
    clear e21
    refine sm_goto X 30 dX9_trace_22 (by decide) ?_
    exact sm_iret X hr dX9_trace_30 rfl
  · refine sm_aload_n X 26 0 dX9_trace_25 rfl rfl rfl ?_
    refine sm_iconst X 27 (2) dX9_trace_26 rfl rfl ?_
    refine sm_bind (fun r27 h27 => ?_)
    refine sm_callV0 X 30 [.int 2] [] [.int r27.1] (c_X9_finds l G σ (2 : Int32) r27 h27) cw_X9_finds q_965 qs_26 q_963 rfl (by decide) rfl rfl rfl rfl rfl (Nat.le_of_ble_eq_true rfl) ⟨Nat.le_of_ble_eq_true rfl, Nat.le_of_ble_eq_true rfl⟩ ⟨Nat.le_refl _, Nat.le_refl _⟩ dX9_trace_27 rfl ?_
    exact sm_iret X hr dX9_trace_30 rfl
def by_X9_isSheet_z : List Nat := [26, 133, 9, 20, 0, 155, 184, 0, 49, 172]
def by_X9_isSheet : List (List Nat) := []
set_option maxRecDepth 100000 in
theorem byo_X9_isSheet : cX9_isSheet.data.toList.map UInt8.toNat = by_X9_isSheet.flatten ++ by_X9_isSheet_z := by decide +kernel
theorem byl_X9_isSheet : by_X9_isSheet.all (fun r => r.length == 16) = true := by decide +kernel
theorem byr_X9_isSheet_0 {j v : Nat} (h : by_X9_isSheet_z[j]? = some v) : RD cX9_isSheet (0 + j) v := rd_z byo_X9_isSheet byl_X9_isSheet 0 rfl h
theorem dX9_isSheet_0 : decode cX9_isSheet 0 = .ok (.iload_n 0, 1) := dk_26 (byr_X9_isSheet_0 (j := 0) rfl)
theorem dX9_isSheet_1 : decode cX9_isSheet 1 = .ok (.i2l, 1) := dk_133 (byr_X9_isSheet_0 (j := 1) rfl)
theorem dX9_isSheet_2 : decode cX9_isSheet 2 = .ok (.lconst 0, 1) := dk_9 (byr_X9_isSheet_0 (j := 2) rfl)
theorem dX9_isSheet_3 : decode cX9_isSheet 3 = .ok (.ldc2_w 155, 3) := dk_20 (byr_X9_isSheet_0 (j := 3) rfl) (byr_X9_isSheet_0 (j := 4) rfl) (byr_X9_isSheet_0 (j := 5) rfl) (by decide)
theorem dX9_isSheet_6 : decode cX9_isSheet 6 = .ok (.invokestatic 49, 3) := dk_184 (byr_X9_isSheet_0 (j := 6) rfl) (byr_X9_isSheet_0 (j := 7) rfl) (byr_X9_isSheet_0 (j := 8) rfl) (by decide)
theorem dX9_isSheet_9 : decode cX9_isSheet 9 = .ok (.ireturn, 1) := dk_172 (byr_X9_isSheet_0 (j := 9) rfl)
set_option maxHeartbeats 4000000 in
set_option maxRecDepth 100000 in
theorem c_X9_isSheet (l : Launch) (G : GT) (σ : Sto) (a0 : Int32) (r : Bool) (h : f_X9_isSheet a0 = some r) : MW l G (3) (89) 0 0 yX9_isSheet cX9_isSheet 1 (Option.some Jvm.ClassFile.FieldType.boolean) [.int a0] (wl G σ) (some (.int (b2i r))) (wl G σ) := by
  refine mw_of RX9 (fpZ G σ) [(0, .int a0)] (by decide +kernel) rfl (Nat.le_of_ble_eq_true rfl) rfl h rfl (fun p e s m args below meth c X hr hnm => ?_)
  unfold f_X9_isSheet
  refine sm_iload_n X 1 0 dX9_isSheet_0 rfl rfl rfl ?_
  refine sm_i2l X 2 dX9_isSheet_1 rfl ?_
  refine sm_lconst X 3 (0) dX9_isSheet_2 rfl rfl ?_
  refine sm_ldc2 X 6 (3) dX9_isSheet_3 rfl q_1060 ?_
  refine sm_bind (fun r6 h6 => ?_)
  refine sm_callS0 X 9 [.long (Int32.toInt64 a0), .long (0 : Int64), .long (3 : Int64)] [] [.int (b2i r6)] (c_X9_in l G σ (Int32.toInt64 a0) (0 : Int64) (3 : Int64) r6 h6) cw_X9_in q_961 q_960 rfl rfl rfl (Nat.le_of_ble_eq_true rfl) ⟨Nat.le_of_ble_eq_true rfl, Nat.le_of_ble_eq_true rfl⟩ ⟨Nat.le_refl _, Nat.le_refl _⟩ dX9_isSheet_6 rfl ?_
  exact sm_zret X (v := r6) hr dX9_isSheet_9 rfl
def by_X9_sheet_0 : List Nat := [27, 184, 1, 20, 153, 0, 25, 28, 153, 0, 27, 28, 16, 8, 159, 0]
def by_X9_sheet_1 : List Nat := [21, 28, 16, 16, 159, 0, 15, 28, 16, 32, 159, 0, 9, 42, 4, 182]
def by_X9_sheet_2 : List Nat := [0, 126, 172, 28, 153, 0, 13, 29, 156, 0, 9, 42, 6, 182, 0, 126]
def by_X9_sheet_3 : List Nat := [172, 28, 153, 0, 15, 29, 16, 40, 164, 0, 9, 42, 4, 182, 0, 126]
def by_X9_sheet_4 : List Nat := [172, 42, 180, 0, 34, 27, 28, 79, 42, 180, 0, 37, 27, 28, 154, 0]
def by_X9_sheet_5 : List Nat := [7, 3, 167, 0, 4, 29, 79, 3, 54, 4, 21, 4, 16, 40, 162, 0]
def by_X9_sheet_6 : List Nat := [22, 42, 180, 0, 40, 16, 40, 27, 104, 21, 4, 96, 3, 79, 132, 4]
def by_X9_sheet_z : List Nat := [1, 167, 255, 233, 4, 172]
def by_X9_sheet : List (List Nat) := [by_X9_sheet_0, by_X9_sheet_1, by_X9_sheet_2, by_X9_sheet_3, by_X9_sheet_4, by_X9_sheet_5, by_X9_sheet_6]
set_option maxRecDepth 100000 in
theorem byo_X9_sheet : cX9_sheet.data.toList.map UInt8.toNat = by_X9_sheet.flatten ++ by_X9_sheet_z := by decide +kernel
theorem byl_X9_sheet : by_X9_sheet.all (fun r => r.length == 16) = true := by decide +kernel
theorem byr_X9_sheet_0 {j v : Nat} (h : by_X9_sheet_0[j]? = some v) : RD cX9_sheet (0 + j) v := rd_16 byo_X9_sheet byl_X9_sheet 0 rfl h
theorem byr_X9_sheet_1 {j v : Nat} (h : by_X9_sheet_1[j]? = some v) : RD cX9_sheet (16 + j) v := rd_16 byo_X9_sheet byl_X9_sheet 1 rfl h
theorem byr_X9_sheet_2 {j v : Nat} (h : by_X9_sheet_2[j]? = some v) : RD cX9_sheet (32 + j) v := rd_16 byo_X9_sheet byl_X9_sheet 2 rfl h
theorem byr_X9_sheet_3 {j v : Nat} (h : by_X9_sheet_3[j]? = some v) : RD cX9_sheet (48 + j) v := rd_16 byo_X9_sheet byl_X9_sheet 3 rfl h
theorem byr_X9_sheet_4 {j v : Nat} (h : by_X9_sheet_4[j]? = some v) : RD cX9_sheet (64 + j) v := rd_16 byo_X9_sheet byl_X9_sheet 4 rfl h
theorem byr_X9_sheet_5 {j v : Nat} (h : by_X9_sheet_5[j]? = some v) : RD cX9_sheet (80 + j) v := rd_16 byo_X9_sheet byl_X9_sheet 5 rfl h
theorem byr_X9_sheet_6 {j v : Nat} (h : by_X9_sheet_6[j]? = some v) : RD cX9_sheet (96 + j) v := rd_16 byo_X9_sheet byl_X9_sheet 6 rfl h
theorem byr_X9_sheet_7 {j v : Nat} (h : by_X9_sheet_z[j]? = some v) : RD cX9_sheet (112 + j) v := rd_z byo_X9_sheet byl_X9_sheet 7 rfl h
theorem dX9_sheet_0 : decode cX9_sheet 0 = .ok (.iload_n 1, 1) := dk_27 (byr_X9_sheet_0 (j := 0) rfl)
theorem dX9_sheet_1 : decode cX9_sheet 1 = .ok (.invokestatic 276, 3) := dk_184 (byr_X9_sheet_0 (j := 1) rfl) (byr_X9_sheet_0 (j := 2) rfl) (byr_X9_sheet_0 (j := 3) rfl) (by decide)
theorem dX9_sheet_4 : decode cX9_sheet 4 = .ok (.ifCond .eq 25, 3) := dk_153 (byr_X9_sheet_0 (j := 4) rfl) (byr_X9_sheet_0 (j := 5) rfl) (byr_X9_sheet_0 (j := 6) rfl) (by decide)
theorem dX9_sheet_7 : decode cX9_sheet 7 = .ok (.iload_n 2, 1) := dk_28 (byr_X9_sheet_0 (j := 7) rfl)
theorem dX9_sheet_8 : decode cX9_sheet 8 = .ok (.ifCond .eq 27, 3) := dk_153 (byr_X9_sheet_0 (j := 8) rfl) (byr_X9_sheet_0 (j := 9) rfl) (byr_X9_sheet_0 (j := 10) rfl) (by decide)
theorem dX9_sheet_11 : decode cX9_sheet 11 = .ok (.iload_n 2, 1) := dk_28 (byr_X9_sheet_0 (j := 11) rfl)
theorem dX9_sheet_12 : decode cX9_sheet 12 = .ok (.bipush 8, 2) := dk_16 (byr_X9_sheet_0 (j := 12) rfl) (byr_X9_sheet_0 (j := 13) rfl) (by decide)
theorem dX9_sheet_14 : decode cX9_sheet 14 = .ok (.if_icmp .eq 21, 3) := dk_159 (byr_X9_sheet_0 (j := 14) rfl) (byr_X9_sheet_0 (j := 15) rfl) (byr_X9_sheet_1 (j := 0) rfl) (by decide)
theorem dX9_sheet_17 : decode cX9_sheet 17 = .ok (.iload_n 2, 1) := dk_28 (byr_X9_sheet_1 (j := 1) rfl)
theorem dX9_sheet_18 : decode cX9_sheet 18 = .ok (.bipush 16, 2) := dk_16 (byr_X9_sheet_1 (j := 2) rfl) (byr_X9_sheet_1 (j := 3) rfl) (by decide)
theorem dX9_sheet_20 : decode cX9_sheet 20 = .ok (.if_icmp .eq 15, 3) := dk_159 (byr_X9_sheet_1 (j := 4) rfl) (byr_X9_sheet_1 (j := 5) rfl) (byr_X9_sheet_1 (j := 6) rfl) (by decide)
theorem dX9_sheet_23 : decode cX9_sheet 23 = .ok (.iload_n 2, 1) := dk_28 (byr_X9_sheet_1 (j := 7) rfl)
theorem dX9_sheet_24 : decode cX9_sheet 24 = .ok (.bipush 32, 2) := dk_16 (byr_X9_sheet_1 (j := 8) rfl) (byr_X9_sheet_1 (j := 9) rfl) (by decide)
theorem dX9_sheet_26 : decode cX9_sheet 26 = .ok (.if_icmp .eq 9, 3) := dk_159 (byr_X9_sheet_1 (j := 10) rfl) (byr_X9_sheet_1 (j := 11) rfl) (byr_X9_sheet_1 (j := 12) rfl) (by decide)
theorem dX9_sheet_29 : decode cX9_sheet 29 = .ok (.aload_n 0, 1) := dk_42 (byr_X9_sheet_1 (j := 13) rfl)
theorem dX9_sheet_30 : decode cX9_sheet 30 = .ok (.iconst 1, 1) := dk_4 (byr_X9_sheet_1 (j := 14) rfl)
theorem dX9_sheet_31 : decode cX9_sheet 31 = .ok (.invokevirtual 126, 3) := dk_182 (byr_X9_sheet_1 (j := 15) rfl) (byr_X9_sheet_2 (j := 0) rfl) (byr_X9_sheet_2 (j := 1) rfl) (by decide)
theorem dX9_sheet_34 : decode cX9_sheet 34 = .ok (.ireturn, 1) := dk_172 (byr_X9_sheet_2 (j := 2) rfl)
theorem dX9_sheet_35 : decode cX9_sheet 35 = .ok (.iload_n 2, 1) := dk_28 (byr_X9_sheet_2 (j := 3) rfl)
theorem dX9_sheet_36 : decode cX9_sheet 36 = .ok (.ifCond .eq 13, 3) := dk_153 (byr_X9_sheet_2 (j := 4) rfl) (byr_X9_sheet_2 (j := 5) rfl) (byr_X9_sheet_2 (j := 6) rfl) (by decide)
theorem dX9_sheet_39 : decode cX9_sheet 39 = .ok (.iload_n 3, 1) := dk_29 (byr_X9_sheet_2 (j := 7) rfl)
theorem dX9_sheet_40 : decode cX9_sheet 40 = .ok (.ifCond .ge 9, 3) := dk_156 (byr_X9_sheet_2 (j := 8) rfl) (byr_X9_sheet_2 (j := 9) rfl) (byr_X9_sheet_2 (j := 10) rfl) (by decide)
theorem dX9_sheet_43 : decode cX9_sheet 43 = .ok (.aload_n 0, 1) := dk_42 (byr_X9_sheet_2 (j := 11) rfl)
theorem dX9_sheet_44 : decode cX9_sheet 44 = .ok (.iconst 3, 1) := dk_6 (byr_X9_sheet_2 (j := 12) rfl)
theorem dX9_sheet_45 : decode cX9_sheet 45 = .ok (.invokevirtual 126, 3) := dk_182 (byr_X9_sheet_2 (j := 13) rfl) (byr_X9_sheet_2 (j := 14) rfl) (byr_X9_sheet_2 (j := 15) rfl) (by decide)
theorem dX9_sheet_48 : decode cX9_sheet 48 = .ok (.ireturn, 1) := dk_172 (byr_X9_sheet_3 (j := 0) rfl)
theorem dX9_sheet_49 : decode cX9_sheet 49 = .ok (.iload_n 2, 1) := dk_28 (byr_X9_sheet_3 (j := 1) rfl)
theorem dX9_sheet_50 : decode cX9_sheet 50 = .ok (.ifCond .eq 15, 3) := dk_153 (byr_X9_sheet_3 (j := 2) rfl) (byr_X9_sheet_3 (j := 3) rfl) (byr_X9_sheet_3 (j := 4) rfl) (by decide)
theorem dX9_sheet_53 : decode cX9_sheet 53 = .ok (.iload_n 3, 1) := dk_29 (byr_X9_sheet_3 (j := 5) rfl)
theorem dX9_sheet_54 : decode cX9_sheet 54 = .ok (.bipush 40, 2) := dk_16 (byr_X9_sheet_3 (j := 6) rfl) (byr_X9_sheet_3 (j := 7) rfl) (by decide)
theorem dX9_sheet_56 : decode cX9_sheet 56 = .ok (.if_icmp .le 9, 3) := dk_164 (byr_X9_sheet_3 (j := 8) rfl) (byr_X9_sheet_3 (j := 9) rfl) (byr_X9_sheet_3 (j := 10) rfl) (by decide)
theorem dX9_sheet_59 : decode cX9_sheet 59 = .ok (.aload_n 0, 1) := dk_42 (byr_X9_sheet_3 (j := 11) rfl)
theorem dX9_sheet_60 : decode cX9_sheet 60 = .ok (.iconst 1, 1) := dk_4 (byr_X9_sheet_3 (j := 12) rfl)
theorem dX9_sheet_61 : decode cX9_sheet 61 = .ok (.invokevirtual 126, 3) := dk_182 (byr_X9_sheet_3 (j := 13) rfl) (byr_X9_sheet_3 (j := 14) rfl) (byr_X9_sheet_3 (j := 15) rfl) (by decide)
theorem dX9_sheet_64 : decode cX9_sheet 64 = .ok (.ireturn, 1) := dk_172 (byr_X9_sheet_4 (j := 0) rfl)
theorem dX9_sheet_65 : decode cX9_sheet 65 = .ok (.aload_n 0, 1) := dk_42 (byr_X9_sheet_4 (j := 1) rfl)
theorem dX9_sheet_66 : decode cX9_sheet 66 = .ok (.getfield 34, 3) := dk_180 (byr_X9_sheet_4 (j := 2) rfl) (byr_X9_sheet_4 (j := 3) rfl) (byr_X9_sheet_4 (j := 4) rfl) (by decide)
theorem dX9_sheet_69 : decode cX9_sheet 69 = .ok (.iload_n 1, 1) := dk_27 (byr_X9_sheet_4 (j := 5) rfl)
theorem dX9_sheet_70 : decode cX9_sheet 70 = .ok (.iload_n 2, 1) := dk_28 (byr_X9_sheet_4 (j := 6) rfl)
theorem dX9_sheet_71 : decode cX9_sheet 71 = .ok (.iastore, 1) := dk_79 (byr_X9_sheet_4 (j := 7) rfl)
theorem dX9_sheet_72 : decode cX9_sheet 72 = .ok (.aload_n 0, 1) := dk_42 (byr_X9_sheet_4 (j := 8) rfl)
theorem dX9_sheet_73 : decode cX9_sheet 73 = .ok (.getfield 37, 3) := dk_180 (byr_X9_sheet_4 (j := 9) rfl) (byr_X9_sheet_4 (j := 10) rfl) (byr_X9_sheet_4 (j := 11) rfl) (by decide)
theorem dX9_sheet_76 : decode cX9_sheet 76 = .ok (.iload_n 1, 1) := dk_27 (byr_X9_sheet_4 (j := 12) rfl)
theorem dX9_sheet_77 : decode cX9_sheet 77 = .ok (.iload_n 2, 1) := dk_28 (byr_X9_sheet_4 (j := 13) rfl)
theorem dX9_sheet_78 : decode cX9_sheet 78 = .ok (.ifCond .ne 7, 3) := dk_154 (byr_X9_sheet_4 (j := 14) rfl) (byr_X9_sheet_4 (j := 15) rfl) (byr_X9_sheet_5 (j := 0) rfl) (by decide)
theorem dX9_sheet_81 : decode cX9_sheet 81 = .ok (.iconst 0, 1) := dk_3 (byr_X9_sheet_5 (j := 1) rfl)
theorem dX9_sheet_82 : decode cX9_sheet 82 = .ok (.goto 4, 3) := dk_167 (byr_X9_sheet_5 (j := 2) rfl) (byr_X9_sheet_5 (j := 3) rfl) (byr_X9_sheet_5 (j := 4) rfl) (by decide)
theorem dX9_sheet_85 : decode cX9_sheet 85 = .ok (.iload_n 3, 1) := dk_29 (byr_X9_sheet_5 (j := 5) rfl)
theorem dX9_sheet_86 : decode cX9_sheet 86 = .ok (.iastore, 1) := dk_79 (byr_X9_sheet_5 (j := 6) rfl)
theorem dX9_sheet_87 : decode cX9_sheet 87 = .ok (.iconst 0, 1) := dk_3 (byr_X9_sheet_5 (j := 7) rfl)
theorem dX9_sheet_88 : decode cX9_sheet 88 = .ok (.istore 4, 2) := dk_54 (byr_X9_sheet_5 (j := 8) rfl) (byr_X9_sheet_5 (j := 9) rfl)
theorem dX9_sheet_90 : decode cX9_sheet 90 = .ok (.iload 4, 2) := dk_21 (byr_X9_sheet_5 (j := 10) rfl) (byr_X9_sheet_5 (j := 11) rfl)
theorem dX9_sheet_92 : decode cX9_sheet 92 = .ok (.bipush 40, 2) := dk_16 (byr_X9_sheet_5 (j := 12) rfl) (byr_X9_sheet_5 (j := 13) rfl) (by decide)
theorem dX9_sheet_94 : decode cX9_sheet 94 = .ok (.if_icmp .ge 22, 3) := dk_162 (byr_X9_sheet_5 (j := 14) rfl) (byr_X9_sheet_5 (j := 15) rfl) (byr_X9_sheet_6 (j := 0) rfl) (by decide)
theorem dX9_sheet_97 : decode cX9_sheet 97 = .ok (.aload_n 0, 1) := dk_42 (byr_X9_sheet_6 (j := 1) rfl)
theorem dX9_sheet_98 : decode cX9_sheet 98 = .ok (.getfield 40, 3) := dk_180 (byr_X9_sheet_6 (j := 2) rfl) (byr_X9_sheet_6 (j := 3) rfl) (byr_X9_sheet_6 (j := 4) rfl) (by decide)
theorem dX9_sheet_101 : decode cX9_sheet 101 = .ok (.bipush 40, 2) := dk_16 (byr_X9_sheet_6 (j := 5) rfl) (byr_X9_sheet_6 (j := 6) rfl) (by decide)
theorem dX9_sheet_103 : decode cX9_sheet 103 = .ok (.iload_n 1, 1) := dk_27 (byr_X9_sheet_6 (j := 7) rfl)
theorem dX9_sheet_104 : decode cX9_sheet 104 = .ok (.imul, 1) := dk_104 (byr_X9_sheet_6 (j := 8) rfl)
theorem dX9_sheet_105 : decode cX9_sheet 105 = .ok (.iload 4, 2) := dk_21 (byr_X9_sheet_6 (j := 9) rfl) (byr_X9_sheet_6 (j := 10) rfl)
theorem dX9_sheet_107 : decode cX9_sheet 107 = .ok (.iadd, 1) := dk_96 (byr_X9_sheet_6 (j := 11) rfl)
theorem dX9_sheet_108 : decode cX9_sheet 108 = .ok (.iconst 0, 1) := dk_3 (byr_X9_sheet_6 (j := 12) rfl)
theorem dX9_sheet_109 : decode cX9_sheet 109 = .ok (.iastore, 1) := dk_79 (byr_X9_sheet_6 (j := 13) rfl)
theorem dX9_sheet_110 : decode cX9_sheet 110 = .ok (.iinc 4 1, 3) := dk_132 (byr_X9_sheet_6 (j := 14) rfl) (byr_X9_sheet_6 (j := 15) rfl) (byr_X9_sheet_7 (j := 0) rfl) (by decide)
theorem dX9_sheet_113 : decode cX9_sheet 113 = .ok (.goto (-23), 3) := dk_167 (byr_X9_sheet_7 (j := 1) rfl) (byr_X9_sheet_7 (j := 2) rfl) (byr_X9_sheet_7 (j := 3) rfl) (by decide)
theorem dX9_sheet_116 : decode cX9_sheet 116 = .ok (.iconst 1, 1) := dk_4 (byr_X9_sheet_7 (j := 4) rfl)
theorem dX9_sheet_117 : decode cX9_sheet 117 = .ok (.ireturn, 1) := dk_172 (byr_X9_sheet_7 (j := 5) rfl)
set_option maxHeartbeats 4000000 in
set_option maxRecDepth 100000 in
theorem c_X9_sheet (l : Launch) (G : GT) (σ : Sto) (a1 : Int32) (a2 : Int32) (a3 : Int32) (r : (Int32 × Sto)) (h : f_X9_sheet σ a1 a2 a3 = some r) : MW l G (4) (109) 0 0 yX9_sheet cX9_sheet 5 (Option.some Jvm.ClassFile.FieldType.int) [.ref (gad G 81), .int a1, .int a2, .int a3] (wl G σ) (some (.int r.1)) (wl G r.2) := by
  refine mw_of RX9 (fiI G) [(0, .ref (gad G 81)), (1, .int a1), (2, .int a2), (3, .int a3)] (by decide +kernel) rfl (Nat.le_of_ble_eq_true rfl) rfl h rfl (fun p e s m args below meth c X hr hnm => ?_)
  have J90 : ∀ (v1 : Int32)  (n : Nat) (v4 : Int32) (σ : Sto), Sm p l e { frames := 4, cells := 0, slots := 0, locals := 109 } s m args below meth c G 5 (Qm below args s G 0 0 (fiI G)) 0 0 (wl G σ) 90 [(0, .ref (gad G 81)), (1, .int v1), (4, .int v4)] [] (f_X9_sheet_L90  v1 n v4 σ) := by
    intro v1 n
    induction n with
    | zero => intro v4 σ; rw [f_X9_sheet_L90]; exact sm_none
    | succ n ihl =>
      intro v4 σ
      rw [f_X9_sheet_L90]
      refine sm_iload X 92 2 dX9_sheet_90 rfl rfl ?_
      refine sm_bipush X 94 (40) dX9_sheet_92 rfl rfl ?_
      refine sm_icmp_ge X 97 116 dX9_sheet_94 rfl (by decide) (fun h94 => ?_) (fun h94 => ?_)
      · refine sm_iconst X 117 (1) dX9_sheet_116 rfl rfl ?_
        exact sm_iret X hr dX9_sheet_117 rfl
      · refine sm_aload_n X 98 0 dX9_sheet_97 rfl rfl rfl ?_
        refine sm_getf X 101 92 rfl fd_9_22 rfl dX9_sheet_98 rfl q_904 ?_
        refine sm_bipush X 103 (40) dX9_sheet_101 rfl rfl ?_
        refine sm_iload_n X 104 1 dX9_sheet_103 rfl rfl rfl ?_
        refine sm_imul X 105 dX9_sheet_104 rfl ?_
        refine sm_iload X 107 2 dX9_sheet_105 rfl rfl ?_
        refine sm_iadd X 108 dX9_sheet_107 rfl ?_
        refine sm_iconst X 109 (0) dX9_sheet_108 rfl rfl ?_
        refine sm_iast X 110 rfl dX9_sheet_109 rfl (fun σ109 e109 => ?_)
        clear e109
        refine sm_iinc X 113 2 (1 : Int32) [(4, .int (v4 + (1 : Int32))), (0, .ref (gad G 81)), (1, .int v1)] dX9_sheet_110 rfl rfl rfl (by decide) rfl ?_
        refine sm_goto X 90 dX9_sheet_113 (by decide) ?_
        exact sm_sub [1, 2, 0] rfl (ihl (v4 + (1 : Int32)) σ109)
  have J86 : ∀ (v1 : Int32) (vs0 : Int32) (vs1 : Int32)  (σ : Sto), Sm p l e { frames := 4, cells := 0, slots := 0, locals := 109 } s m args below meth c G 5 (Qm below args s G 0 0 (fiI G)) 0 0 (wl G σ) 86 [(0, .ref (gad G 81)), (1, .int v1)] [.int vs0, .int vs1, .ref (gad G 91)] (f_X9_sheet_L86  v1 vs0 vs1 σ) := by
    intro v1 vs0 vs1 σ
    rw [f_X9_sheet_L86]
    refine sm_iast X 87 rfl dX9_sheet_86 rfl (fun σ86 e86 => ?_)
    clear e86
    refine sm_iconst X 88 (0) dX9_sheet_87 rfl rfl ?_
    refine sm_istore X 90 [(4, .int 0), (0, .ref (gad G 81)), (1, .int v1)] dX9_sheet_88 rfl (by decide) rfl ?_
    exact sm_sub [1, 2, 0] rfl (J90 v1  FU (0 : Int32) σ86)
  have J65 : ∀ (v1 : Int32) (v2 : Int32) (v3 : Int32)  (σ : Sto), Sm p l e { frames := 4, cells := 0, slots := 0, locals := 109 } s m args below meth c G 5 (Qm below args s G 0 0 (fiI G)) 0 0 (wl G σ) 65 [(0, .ref (gad G 81)), (1, .int v1), (2, .int v2), (3, .int v3)] [] (f_X9_sheet_L65  v1 v2 v3 σ) := by
    intro v1 v2 v3 σ
    rw [f_X9_sheet_L65]
    refine sm_aload_n X 66 0 dX9_sheet_65 rfl rfl rfl ?_
    refine sm_getf X 69 90 rfl fd_9_20 rfl dX9_sheet_66 rfl q_902 ?_
    refine sm_iload_n X 70 1 dX9_sheet_69 rfl rfl rfl ?_
    refine sm_iload_n X 71 2 dX9_sheet_70 rfl rfl rfl ?_
    refine sm_iast X 72 rfl dX9_sheet_71 rfl (fun σ71 e71 => ?_)
    clear e71
    refine sm_aload_n X 73 0 dX9_sheet_72 rfl rfl rfl ?_
    refine sm_getf X 76 91 rfl fd_9_21 rfl dX9_sheet_73 rfl q_903 ?_
    refine sm_iload_n X 77 1 dX9_sheet_76 rfl rfl rfl ?_
    refine sm_iload_n X 78 2 dX9_sheet_77 rfl rfl rfl ?_
    refine sm_if_ne X 81 85 dX9_sheet_78 rfl (by decide) (fun h78 => ?_) (fun h78 => ?_)
    · refine sm_iconst X 82 (0) dX9_sheet_81 rfl rfl ?_
      refine sm_goto X 86 dX9_sheet_82 (by decide) ?_
      exact sm_sub [0, 1] rfl (J86 v1 (0 : Int32) v1  σ71)
    · refine sm_iload_n X 86 3 dX9_sheet_85 rfl rfl rfl ?_
      exact sm_sub [0, 1] rfl (J86 v1 v3 v1  σ71)
  have J49 : ∀ (v1 : Int32) (v2 : Int32) (v3 : Int32)  (σ : Sto), Sm p l e { frames := 4, cells := 0, slots := 0, locals := 109 } s m args below meth c G 5 (Qm below args s G 0 0 (fiI G)) 0 0 (wl G σ) 49 [(0, .ref (gad G 81)), (1, .int v1), (2, .int v2), (3, .int v3)] [] (f_X9_sheet_L49  v1 v2 v3 σ) := by
    intro v1 v2 v3 σ
    rw [f_X9_sheet_L49]
    refine sm_iload_n X 50 2 dX9_sheet_49 rfl rfl rfl ?_
    refine sm_if_eq X 53 65 dX9_sheet_50 rfl (by decide) (fun h50 => ?_) (fun h50 => ?_)
    · exact sm_sub [0, 1, 2, 3] rfl (J65 v1 v2 v3  σ)
    · refine sm_iload_n X 54 3 dX9_sheet_53 rfl rfl rfl ?_
      refine sm_bipush X 56 (40) dX9_sheet_54 rfl rfl ?_
      refine sm_icmp_le X 59 65 dX9_sheet_56 rfl (by decide) (fun h56 => ?_) (fun h56 => ?_)
      · exact sm_sub [0, 1, 2, 3] rfl (J65 v1 v2 v3  σ)
      · refine sm_aload_n X 60 0 dX9_sheet_59 rfl rfl rfl ?_
        refine sm_iconst X 61 (1) dX9_sheet_60 rfl rfl ?_
        refine sm_bind (fun r61 h61 => ?_)
        refine sm_callV0 X 64 [.int 1] [] [.int r61.1] (c_X9_finds l G σ (1 : Int32) r61 h61) cw_X9_finds q_965 qs_26 q_963 rfl (by decide) rfl rfl rfl rfl rfl (Nat.le_of_ble_eq_true rfl) ⟨Nat.le_of_ble_eq_true rfl, Nat.le_of_ble_eq_true rfl⟩ ⟨Nat.le_refl _, Nat.le_refl _⟩ dX9_sheet_61 rfl ?_
        exact sm_iret X hr dX9_sheet_64 rfl
  have J35 : ∀ (v1 : Int32) (v2 : Int32) (v3 : Int32)  (σ : Sto), Sm p l e { frames := 4, cells := 0, slots := 0, locals := 109 } s m args below meth c G 5 (Qm below args s G 0 0 (fiI G)) 0 0 (wl G σ) 35 [(0, .ref (gad G 81)), (1, .int v1), (2, .int v2), (3, .int v3)] [] (f_X9_sheet_L35  v1 v2 v3 σ) := by
    intro v1 v2 v3 σ
    rw [f_X9_sheet_L35]
    refine sm_iload_n X 36 2 dX9_sheet_35 rfl rfl rfl ?_
    refine sm_if_eq X 39 49 dX9_sheet_36 rfl (by decide) (fun h36 => ?_) (fun h36 => ?_)
    · exact sm_sub [0, 1, 2, 3] rfl (J49 v1 v2 v3  σ)
    · refine sm_iload_n X 40 3 dX9_sheet_39 rfl rfl rfl ?_
      refine sm_if_ge X 43 49 dX9_sheet_40 rfl (by decide) (fun h40 => ?_) (fun h40 => ?_)
      · exact sm_sub [0, 1, 2, 3] rfl (J49 v1 v2 v3  σ)
      · refine sm_aload_n X 44 0 dX9_sheet_43 rfl rfl rfl ?_
        refine sm_iconst X 45 (3) dX9_sheet_44 rfl rfl ?_
        refine sm_bind (fun r45 h45 => ?_)
        refine sm_callV0 X 48 [.int 3] [] [.int r45.1] (c_X9_finds l G σ (3 : Int32) r45 h45) cw_X9_finds q_965 qs_26 q_963 rfl (by decide) rfl rfl rfl rfl rfl (Nat.le_of_ble_eq_true rfl) ⟨Nat.le_of_ble_eq_true rfl, Nat.le_of_ble_eq_true rfl⟩ ⟨Nat.le_refl _, Nat.le_refl _⟩ dX9_sheet_45 rfl ?_
        exact sm_iret X hr dX9_sheet_48 rfl
  unfold f_X9_sheet
  refine sm_iload_n X 1 1 dX9_sheet_0 rfl rfl rfl ?_
  refine sm_bind (fun r1 h1 => ?_)
  refine sm_callS0 X 4 [.int a1] [] [.int (b2i r1)] (c_X9_isSheet l G σ a1 r1 h1) cw_X9_isSheet q_1271 q_1270 rfl rfl rfl (Nat.le_of_ble_eq_true rfl) ⟨Nat.le_of_ble_eq_true rfl, Nat.le_of_ble_eq_true rfl⟩ ⟨Nat.le_refl _, Nat.le_refl _⟩ dX9_sheet_1 rfl ?_
  refine sm_ifz_eq X 7 29 dX9_sheet_4 rfl (by decide) (fun h4 => ?_) (fun h4 => ?_)
  · refine sm_iload_n X 8 2 dX9_sheet_7 rfl rfl rfl ?_
    refine sm_if_eq X 11 35 dX9_sheet_8 rfl (by decide) (fun h8 => ?_) (fun h8 => ?_)
    · exact sm_sub [0, 1, 2, 3] rfl (J35 a1 a2 a3  σ)
    · refine sm_iload_n X 12 2 dX9_sheet_11 rfl rfl rfl ?_
      refine sm_bipush X 14 (8) dX9_sheet_12 rfl rfl ?_
      refine sm_icmp_eq X 17 35 dX9_sheet_14 rfl (by decide) (fun h14 => ?_) (fun h14 => ?_)
      · exact sm_sub [0, 1, 2, 3] rfl (J35 a1 a2 a3  σ)
      · refine sm_iload_n X 18 2 dX9_sheet_17 rfl rfl rfl ?_
        refine sm_bipush X 20 (16) dX9_sheet_18 rfl rfl ?_
        refine sm_icmp_eq X 23 35 dX9_sheet_20 rfl (by decide) (fun h20 => ?_) (fun h20 => ?_)
        · exact sm_sub [0, 1, 2, 3] rfl (J35 a1 a2 a3  σ)
        · refine sm_iload_n X 24 2 dX9_sheet_23 rfl rfl rfl ?_
          refine sm_bipush X 26 (32) dX9_sheet_24 rfl rfl ?_
          refine sm_icmp_eq X 29 35 dX9_sheet_26 rfl (by decide) (fun h26 => ?_) (fun h26 => ?_)
          · exact sm_sub [0, 1, 2, 3] rfl (J35 a1 a2 a3  σ)
          · refine sm_aload_n X 30 0 dX9_sheet_29 rfl rfl rfl ?_
            refine sm_iconst X 31 (1) dX9_sheet_30 rfl rfl ?_
            refine sm_bind (fun r31 h31 => ?_)
            refine sm_callV0 X 34 [.int 1] [] [.int r31.1] (c_X9_finds l G σ (1 : Int32) r31 h31) cw_X9_finds q_965 qs_26 q_963 rfl (by decide) rfl rfl rfl rfl rfl (Nat.le_of_ble_eq_true rfl) ⟨Nat.le_of_ble_eq_true rfl, Nat.le_of_ble_eq_true rfl⟩ ⟨Nat.le_refl _, Nat.le_refl _⟩ dX9_sheet_31 rfl ?_
            exact sm_iret X hr dX9_sheet_34 rfl
  · refine sm_aload_n X 30 0 dX9_sheet_29 rfl rfl rfl ?_
    refine sm_iconst X 31 (1) dX9_sheet_30 rfl rfl ?_
    refine sm_bind (fun r31 h31 => ?_)
    refine sm_callV0 X 34 [.int 1] [] [.int r31.1] (c_X9_finds l G σ (1 : Int32) r31 h31) cw_X9_finds q_965 qs_26 q_963 rfl (by decide) rfl rfl rfl rfl rfl (Nat.le_of_ble_eq_true rfl) ⟨Nat.le_of_ble_eq_true rfl, Nat.le_of_ble_eq_true rfl⟩ ⟨Nat.le_refl _, Nat.le_refl _⟩ dX9_sheet_31 rfl ?_
    exact sm_iret X hr dX9_sheet_34 rfl
def by_X9_put_0 : List Nat := [27, 184, 1, 20, 154, 0, 9, 42, 4, 182, 0, 126, 172, 42, 180, 0]
def by_X9_put_1 : List Nat := [34, 27, 46, 154, 0, 9, 42, 5, 182, 0, 126, 172, 28, 133, 9, 42]
def by_X9_put_2 : List Nat := [180, 0, 37, 27, 46, 4, 100, 133, 184, 0, 49, 154, 0, 9, 42, 4]
def by_X9_put_3 : List Nat := [182, 0, 126, 172, 42, 180, 0, 40, 16, 40, 27, 104, 28, 96, 42, 180]
def by_X9_put_4 : List Nat := [0, 34, 27, 46, 16, 8, 160, 0, 8, 29, 145, 167, 0, 20, 42, 180]
def by_X9_put_5 : List Nat := [0, 34, 27, 46, 16, 16, 160, 0, 8, 29, 147, 167, 0, 4, 29, 79]
def by_X9_put_z : List Nat := [4, 172]
def by_X9_put : List (List Nat) := [by_X9_put_0, by_X9_put_1, by_X9_put_2, by_X9_put_3, by_X9_put_4, by_X9_put_5]
set_option maxRecDepth 100000 in
theorem byo_X9_put : cX9_put.data.toList.map UInt8.toNat = by_X9_put.flatten ++ by_X9_put_z := by decide +kernel
theorem byl_X9_put : by_X9_put.all (fun r => r.length == 16) = true := by decide +kernel
theorem byr_X9_put_0 {j v : Nat} (h : by_X9_put_0[j]? = some v) : RD cX9_put (0 + j) v := rd_16 byo_X9_put byl_X9_put 0 rfl h
theorem byr_X9_put_1 {j v : Nat} (h : by_X9_put_1[j]? = some v) : RD cX9_put (16 + j) v := rd_16 byo_X9_put byl_X9_put 1 rfl h
theorem byr_X9_put_2 {j v : Nat} (h : by_X9_put_2[j]? = some v) : RD cX9_put (32 + j) v := rd_16 byo_X9_put byl_X9_put 2 rfl h
theorem byr_X9_put_3 {j v : Nat} (h : by_X9_put_3[j]? = some v) : RD cX9_put (48 + j) v := rd_16 byo_X9_put byl_X9_put 3 rfl h
theorem byr_X9_put_4 {j v : Nat} (h : by_X9_put_4[j]? = some v) : RD cX9_put (64 + j) v := rd_16 byo_X9_put byl_X9_put 4 rfl h
theorem byr_X9_put_5 {j v : Nat} (h : by_X9_put_5[j]? = some v) : RD cX9_put (80 + j) v := rd_16 byo_X9_put byl_X9_put 5 rfl h
theorem byr_X9_put_6 {j v : Nat} (h : by_X9_put_z[j]? = some v) : RD cX9_put (96 + j) v := rd_z byo_X9_put byl_X9_put 6 rfl h
theorem dX9_put_0 : decode cX9_put 0 = .ok (.iload_n 1, 1) := dk_27 (byr_X9_put_0 (j := 0) rfl)
theorem dX9_put_1 : decode cX9_put 1 = .ok (.invokestatic 276, 3) := dk_184 (byr_X9_put_0 (j := 1) rfl) (byr_X9_put_0 (j := 2) rfl) (byr_X9_put_0 (j := 3) rfl) (by decide)
theorem dX9_put_4 : decode cX9_put 4 = .ok (.ifCond .ne 9, 3) := dk_154 (byr_X9_put_0 (j := 4) rfl) (byr_X9_put_0 (j := 5) rfl) (byr_X9_put_0 (j := 6) rfl) (by decide)
theorem dX9_put_7 : decode cX9_put 7 = .ok (.aload_n 0, 1) := dk_42 (byr_X9_put_0 (j := 7) rfl)
theorem dX9_put_8 : decode cX9_put 8 = .ok (.iconst 1, 1) := dk_4 (byr_X9_put_0 (j := 8) rfl)
theorem dX9_put_9 : decode cX9_put 9 = .ok (.invokevirtual 126, 3) := dk_182 (byr_X9_put_0 (j := 9) rfl) (byr_X9_put_0 (j := 10) rfl) (byr_X9_put_0 (j := 11) rfl) (by decide)
theorem dX9_put_12 : decode cX9_put 12 = .ok (.ireturn, 1) := dk_172 (byr_X9_put_0 (j := 12) rfl)
theorem dX9_put_13 : decode cX9_put 13 = .ok (.aload_n 0, 1) := dk_42 (byr_X9_put_0 (j := 13) rfl)
theorem dX9_put_14 : decode cX9_put 14 = .ok (.getfield 34, 3) := dk_180 (byr_X9_put_0 (j := 14) rfl) (byr_X9_put_0 (j := 15) rfl) (byr_X9_put_1 (j := 0) rfl) (by decide)
theorem dX9_put_17 : decode cX9_put 17 = .ok (.iload_n 1, 1) := dk_27 (byr_X9_put_1 (j := 1) rfl)
theorem dX9_put_18 : decode cX9_put 18 = .ok (.iaload, 1) := dk_46 (byr_X9_put_1 (j := 2) rfl)
theorem dX9_put_19 : decode cX9_put 19 = .ok (.ifCond .ne 9, 3) := dk_154 (byr_X9_put_1 (j := 3) rfl) (byr_X9_put_1 (j := 4) rfl) (byr_X9_put_1 (j := 5) rfl) (by decide)
theorem dX9_put_22 : decode cX9_put 22 = .ok (.aload_n 0, 1) := dk_42 (byr_X9_put_1 (j := 6) rfl)
theorem dX9_put_23 : decode cX9_put 23 = .ok (.iconst 2, 1) := dk_5 (byr_X9_put_1 (j := 7) rfl)
theorem dX9_put_24 : decode cX9_put 24 = .ok (.invokevirtual 126, 3) := dk_182 (byr_X9_put_1 (j := 8) rfl) (byr_X9_put_1 (j := 9) rfl) (byr_X9_put_1 (j := 10) rfl) (by decide)
theorem dX9_put_27 : decode cX9_put 27 = .ok (.ireturn, 1) := dk_172 (byr_X9_put_1 (j := 11) rfl)
theorem dX9_put_28 : decode cX9_put 28 = .ok (.iload_n 2, 1) := dk_28 (byr_X9_put_1 (j := 12) rfl)
theorem dX9_put_29 : decode cX9_put 29 = .ok (.i2l, 1) := dk_133 (byr_X9_put_1 (j := 13) rfl)
theorem dX9_put_30 : decode cX9_put 30 = .ok (.lconst 0, 1) := dk_9 (byr_X9_put_1 (j := 14) rfl)
theorem dX9_put_31 : decode cX9_put 31 = .ok (.aload_n 0, 1) := dk_42 (byr_X9_put_1 (j := 15) rfl)
theorem dX9_put_32 : decode cX9_put 32 = .ok (.getfield 37, 3) := dk_180 (byr_X9_put_2 (j := 0) rfl) (byr_X9_put_2 (j := 1) rfl) (byr_X9_put_2 (j := 2) rfl) (by decide)
theorem dX9_put_35 : decode cX9_put 35 = .ok (.iload_n 1, 1) := dk_27 (byr_X9_put_2 (j := 3) rfl)
theorem dX9_put_36 : decode cX9_put 36 = .ok (.iaload, 1) := dk_46 (byr_X9_put_2 (j := 4) rfl)
theorem dX9_put_37 : decode cX9_put 37 = .ok (.iconst 1, 1) := dk_4 (byr_X9_put_2 (j := 5) rfl)
theorem dX9_put_38 : decode cX9_put 38 = .ok (.isub, 1) := dk_100 (byr_X9_put_2 (j := 6) rfl)
theorem dX9_put_39 : decode cX9_put 39 = .ok (.i2l, 1) := dk_133 (byr_X9_put_2 (j := 7) rfl)
theorem dX9_put_40 : decode cX9_put 40 = .ok (.invokestatic 49, 3) := dk_184 (byr_X9_put_2 (j := 8) rfl) (byr_X9_put_2 (j := 9) rfl) (byr_X9_put_2 (j := 10) rfl) (by decide)
theorem dX9_put_43 : decode cX9_put 43 = .ok (.ifCond .ne 9, 3) := dk_154 (byr_X9_put_2 (j := 11) rfl) (byr_X9_put_2 (j := 12) rfl) (byr_X9_put_2 (j := 13) rfl) (by decide)
theorem dX9_put_46 : decode cX9_put 46 = .ok (.aload_n 0, 1) := dk_42 (byr_X9_put_2 (j := 14) rfl)
theorem dX9_put_47 : decode cX9_put 47 = .ok (.iconst 1, 1) := dk_4 (byr_X9_put_2 (j := 15) rfl)
theorem dX9_put_48 : decode cX9_put 48 = .ok (.invokevirtual 126, 3) := dk_182 (byr_X9_put_3 (j := 0) rfl) (byr_X9_put_3 (j := 1) rfl) (byr_X9_put_3 (j := 2) rfl) (by decide)
theorem dX9_put_51 : decode cX9_put 51 = .ok (.ireturn, 1) := dk_172 (byr_X9_put_3 (j := 3) rfl)
theorem dX9_put_52 : decode cX9_put 52 = .ok (.aload_n 0, 1) := dk_42 (byr_X9_put_3 (j := 4) rfl)
theorem dX9_put_53 : decode cX9_put 53 = .ok (.getfield 40, 3) := dk_180 (byr_X9_put_3 (j := 5) rfl) (byr_X9_put_3 (j := 6) rfl) (byr_X9_put_3 (j := 7) rfl) (by decide)
theorem dX9_put_56 : decode cX9_put 56 = .ok (.bipush 40, 2) := dk_16 (byr_X9_put_3 (j := 8) rfl) (byr_X9_put_3 (j := 9) rfl) (by decide)
theorem dX9_put_58 : decode cX9_put 58 = .ok (.iload_n 1, 1) := dk_27 (byr_X9_put_3 (j := 10) rfl)
theorem dX9_put_59 : decode cX9_put 59 = .ok (.imul, 1) := dk_104 (byr_X9_put_3 (j := 11) rfl)
theorem dX9_put_60 : decode cX9_put 60 = .ok (.iload_n 2, 1) := dk_28 (byr_X9_put_3 (j := 12) rfl)
theorem dX9_put_61 : decode cX9_put 61 = .ok (.iadd, 1) := dk_96 (byr_X9_put_3 (j := 13) rfl)
theorem dX9_put_62 : decode cX9_put 62 = .ok (.aload_n 0, 1) := dk_42 (byr_X9_put_3 (j := 14) rfl)
theorem dX9_put_63 : decode cX9_put 63 = .ok (.getfield 34, 3) := dk_180 (byr_X9_put_3 (j := 15) rfl) (byr_X9_put_4 (j := 0) rfl) (byr_X9_put_4 (j := 1) rfl) (by decide)
theorem dX9_put_66 : decode cX9_put 66 = .ok (.iload_n 1, 1) := dk_27 (byr_X9_put_4 (j := 2) rfl)
theorem dX9_put_67 : decode cX9_put 67 = .ok (.iaload, 1) := dk_46 (byr_X9_put_4 (j := 3) rfl)
theorem dX9_put_68 : decode cX9_put 68 = .ok (.bipush 8, 2) := dk_16 (byr_X9_put_4 (j := 4) rfl) (byr_X9_put_4 (j := 5) rfl) (by decide)
theorem dX9_put_70 : decode cX9_put 70 = .ok (.if_icmp .ne 8, 3) := dk_160 (byr_X9_put_4 (j := 6) rfl) (byr_X9_put_4 (j := 7) rfl) (byr_X9_put_4 (j := 8) rfl) (by decide)
theorem dX9_put_73 : decode cX9_put 73 = .ok (.iload_n 3, 1) := dk_29 (byr_X9_put_4 (j := 9) rfl)
theorem dX9_put_74 : decode cX9_put 74 = .ok (.i2b, 1) := dk_145 (byr_X9_put_4 (j := 10) rfl)
theorem dX9_put_75 : decode cX9_put 75 = .ok (.goto 20, 3) := dk_167 (byr_X9_put_4 (j := 11) rfl) (byr_X9_put_4 (j := 12) rfl) (byr_X9_put_4 (j := 13) rfl) (by decide)
theorem dX9_put_78 : decode cX9_put 78 = .ok (.aload_n 0, 1) := dk_42 (byr_X9_put_4 (j := 14) rfl)
theorem dX9_put_79 : decode cX9_put 79 = .ok (.getfield 34, 3) := dk_180 (byr_X9_put_4 (j := 15) rfl) (byr_X9_put_5 (j := 0) rfl) (byr_X9_put_5 (j := 1) rfl) (by decide)
theorem dX9_put_82 : decode cX9_put 82 = .ok (.iload_n 1, 1) := dk_27 (byr_X9_put_5 (j := 2) rfl)
theorem dX9_put_83 : decode cX9_put 83 = .ok (.iaload, 1) := dk_46 (byr_X9_put_5 (j := 3) rfl)
theorem dX9_put_84 : decode cX9_put 84 = .ok (.bipush 16, 2) := dk_16 (byr_X9_put_5 (j := 4) rfl) (byr_X9_put_5 (j := 5) rfl) (by decide)
theorem dX9_put_86 : decode cX9_put 86 = .ok (.if_icmp .ne 8, 3) := dk_160 (byr_X9_put_5 (j := 6) rfl) (byr_X9_put_5 (j := 7) rfl) (byr_X9_put_5 (j := 8) rfl) (by decide)
theorem dX9_put_89 : decode cX9_put 89 = .ok (.iload_n 3, 1) := dk_29 (byr_X9_put_5 (j := 9) rfl)
theorem dX9_put_90 : decode cX9_put 90 = .ok (.i2s, 1) := dk_147 (byr_X9_put_5 (j := 10) rfl)
theorem dX9_put_91 : decode cX9_put 91 = .ok (.goto 4, 3) := dk_167 (byr_X9_put_5 (j := 11) rfl) (byr_X9_put_5 (j := 12) rfl) (byr_X9_put_5 (j := 13) rfl) (by decide)
theorem dX9_put_94 : decode cX9_put 94 = .ok (.iload_n 3, 1) := dk_29 (byr_X9_put_5 (j := 14) rfl)
theorem dX9_put_95 : decode cX9_put 95 = .ok (.iastore, 1) := dk_79 (byr_X9_put_5 (j := 15) rfl)
theorem dX9_put_96 : decode cX9_put 96 = .ok (.iconst 1, 1) := dk_4 (byr_X9_put_6 (j := 0) rfl)
theorem dX9_put_97 : decode cX9_put 97 = .ok (.ireturn, 1) := dk_172 (byr_X9_put_6 (j := 1) rfl)
set_option maxHeartbeats 4000000 in
set_option maxRecDepth 100000 in
theorem c_X9_put (l : Launch) (G : GT) (σ : Sto) (a1 : Int32) (a2 : Int32) (a3 : Int32) (r : (Int32 × Sto)) (h : f_X9_put σ a1 a2 a3 = some r) : MW l G (4) (109) 0 0 yX9_put cX9_put 4 (Option.some Jvm.ClassFile.FieldType.int) [.ref (gad G 81), .int a1, .int a2, .int a3] (wl G σ) (some (.int r.1)) (wl G r.2) := by
  refine mw_of RX9 (fiI G) [(0, .ref (gad G 81)), (1, .int a1), (2, .int a2), (3, .int a3)] (by decide +kernel) rfl (Nat.le_of_ble_eq_true rfl) rfl h rfl (fun p e s m args below meth c X hr hnm => ?_)
  have J95 : ∀ (vs0 : Int32) (vs1 : Int32)  (σ : Sto), Sm p l e { frames := 4, cells := 0, slots := 0, locals := 109 } s m args below meth c G 4 (Qm below args s G 0 0 (fiI G)) 0 0 (wl G σ) 95 [] [.int vs0, .int vs1, .ref (gad G 92)] (f_X9_put_L95  vs0 vs1 σ) := by
    intro vs0 vs1 σ
    rw [f_X9_put_L95]
    refine sm_iast X 96 rfl dX9_put_95 rfl (fun σ95 e95 => ?_)
    clear e95
    refine sm_iconst X 97 (1) dX9_put_96 rfl rfl ?_
    exact sm_iret X hr dX9_put_97 rfl
  unfold f_X9_put
  refine sm_iload_n X 1 1 dX9_put_0 rfl rfl rfl ?_
  refine sm_bind (fun r1 h1 => ?_)
  refine sm_callS0 X 4 [.int a1] [] [.int (b2i r1)] (c_X9_isSheet l G σ a1 r1 h1) cw_X9_isSheet q_1271 q_1270 rfl rfl rfl (Nat.le_of_ble_eq_true rfl) ⟨Nat.le_of_ble_eq_true rfl, Nat.le_of_ble_eq_true rfl⟩ ⟨Nat.le_refl _, Nat.le_refl _⟩ dX9_put_1 rfl ?_
  refine sm_ifz_ne X 7 13 dX9_put_4 rfl (by decide) (fun h4 => ?_) (fun h4 => ?_)
  · refine sm_aload_n X 14 0 dX9_put_13 rfl rfl rfl ?_
    refine sm_getf X 17 90 rfl fd_9_20 rfl dX9_put_14 rfl q_902 ?_
    refine sm_iload_n X 18 1 dX9_put_17 rfl rfl rfl ?_
    refine sm_iald X 19 rfl dX9_put_18 rfl (fun r18 e18 => ?_)
    clear e18
    refine sm_if_ne X 22 28 dX9_put_19 rfl (by decide) (fun h19 => ?_) (fun h19 => ?_)
    · refine sm_aload_n X 23 0 dX9_put_22 rfl rfl rfl ?_
      refine sm_iconst X 24 (2) dX9_put_23 rfl rfl ?_
      refine sm_bind (fun r24 h24 => ?_)
      refine sm_callV0 X 27 [.int 2] [] [.int r24.1] (c_X9_finds l G σ (2 : Int32) r24 h24) cw_X9_finds q_965 qs_26 q_963 rfl (by decide) rfl rfl rfl rfl rfl (Nat.le_of_ble_eq_true rfl) ⟨Nat.le_of_ble_eq_true rfl, Nat.le_of_ble_eq_true rfl⟩ ⟨Nat.le_refl _, Nat.le_refl _⟩ dX9_put_24 rfl ?_
      exact sm_iret X hr dX9_put_27 rfl
    · refine sm_iload_n X 29 2 dX9_put_28 rfl rfl rfl ?_
      refine sm_i2l X 30 dX9_put_29 rfl ?_
      refine sm_lconst X 31 (0) dX9_put_30 rfl rfl ?_
      refine sm_aload_n X 32 0 dX9_put_31 rfl rfl rfl ?_
      refine sm_getf X 35 91 rfl fd_9_21 rfl dX9_put_32 rfl q_903 ?_
      refine sm_iload_n X 36 1 dX9_put_35 rfl rfl rfl ?_
      refine sm_iald X 37 rfl dX9_put_36 rfl (fun r36 e36 => ?_)
      clear e36
      refine sm_iconst X 38 (1) dX9_put_37 rfl rfl ?_
      refine sm_isub X 39 dX9_put_38 rfl ?_
      refine sm_i2l X 40 dX9_put_39 rfl ?_
      refine sm_bind (fun r40 h40 => ?_)
      refine sm_callS0 X 43 [.long (Int32.toInt64 a2), .long (0 : Int64), .long (Int32.toInt64 (r36 - (1 : Int32)))] [] [.int (b2i r40)] (c_X9_in l G σ (Int32.toInt64 a2) (0 : Int64) (Int32.toInt64 (r36 - (1 : Int32))) r40 h40) cw_X9_in q_961 q_960 rfl rfl rfl (Nat.le_of_ble_eq_true rfl) ⟨Nat.le_of_ble_eq_true rfl, Nat.le_of_ble_eq_true rfl⟩ ⟨Nat.le_refl _, Nat.le_refl _⟩ dX9_put_40 rfl ?_
      refine sm_ifz_ne X 46 52 dX9_put_43 rfl (by decide) (fun h43 => ?_) (fun h43 => ?_)
      · refine sm_aload_n X 53 0 dX9_put_52 rfl rfl rfl ?_
        refine sm_getf X 56 92 rfl fd_9_22 rfl dX9_put_53 rfl q_904 ?_
        refine sm_bipush X 58 (40) dX9_put_56 rfl rfl ?_
        refine sm_iload_n X 59 1 dX9_put_58 rfl rfl rfl ?_
        refine sm_imul X 60 dX9_put_59 rfl ?_
        refine sm_iload_n X 61 2 dX9_put_60 rfl rfl rfl ?_
        refine sm_iadd X 62 dX9_put_61 rfl ?_
        refine sm_aload_n X 63 0 dX9_put_62 rfl rfl rfl ?_
        refine sm_getf X 66 90 rfl fd_9_20 rfl dX9_put_63 rfl q_902 ?_
        refine sm_iload_n X 67 1 dX9_put_66 rfl rfl rfl ?_
        refine sm_iald X 68 rfl dX9_put_67 rfl (fun r67 e67 => ?_)
        clear e67
        refine sm_bipush X 70 (8) dX9_put_68 rfl rfl ?_
        refine sm_icmp_ne X 73 78 dX9_put_70 rfl (by decide) (fun h70 => ?_) (fun h70 => ?_)
        · refine sm_iload_n X 74 3 dX9_put_73 rfl rfl rfl ?_
          refine sm_i2b X 75 dX9_put_74 rfl ?_
          refine sm_goto X 95 dX9_put_75 (by decide) ?_
          exact sm_sub [] rfl (J95 (i2b a3) (((40 : Int32) * a1) + a2)  σ)
        · refine sm_aload_n X 79 0 dX9_put_78 rfl rfl rfl ?_
          refine sm_getf X 82 90 rfl fd_9_20 rfl dX9_put_79 rfl q_902 ?_
          refine sm_iload_n X 83 1 dX9_put_82 rfl rfl rfl ?_
          refine sm_iald X 84 rfl dX9_put_83 rfl (fun r83 e83 => ?_)
          clear e83
          refine sm_bipush X 86 (16) dX9_put_84 rfl rfl ?_
          refine sm_icmp_ne X 89 94 dX9_put_86 rfl (by decide) (fun h86 => ?_) (fun h86 => ?_)
          · refine sm_iload_n X 90 3 dX9_put_89 rfl rfl rfl ?_
            refine sm_i2s X 91 dX9_put_90 rfl ?_
            refine sm_goto X 95 dX9_put_91 (by decide) ?_
            exact sm_sub [] rfl (J95 (i2s a3) (((40 : Int32) * a1) + a2)  σ)
          · refine sm_iload_n X 95 3 dX9_put_94 rfl rfl rfl ?_
            exact sm_sub [] rfl (J95 a3 (((40 : Int32) * a1) + a2)  σ)
      · refine sm_aload_n X 47 0 dX9_put_46 rfl rfl rfl ?_
        refine sm_iconst X 48 (1) dX9_put_47 rfl rfl ?_
        refine sm_bind (fun r48 h48 => ?_)
        refine sm_callV0 X 51 [.int 1] [] [.int r48.1] (c_X9_finds l G σ (1 : Int32) r48 h48) cw_X9_finds q_965 qs_26 q_963 rfl (by decide) rfl rfl rfl rfl rfl (Nat.le_of_ble_eq_true rfl) ⟨Nat.le_of_ble_eq_true rfl, Nat.le_of_ble_eq_true rfl⟩ ⟨Nat.le_refl _, Nat.le_refl _⟩ dX9_put_48 rfl ?_
        exact sm_iret X hr dX9_put_51 rfl
  · refine sm_aload_n X 8 0 dX9_put_7 rfl rfl rfl ?_
    refine sm_iconst X 9 (1) dX9_put_8 rfl rfl ?_
    refine sm_bind (fun r9 h9 => ?_)
    refine sm_callV0 X 12 [.int 1] [] [.int r9.1] (c_X9_finds l G σ (1 : Int32) r9 h9) cw_X9_finds q_965 qs_26 q_963 rfl (by decide) rfl rfl rfl rfl rfl (Nat.le_of_ble_eq_true rfl) ⟨Nat.le_of_ble_eq_true rfl, Nat.le_of_ble_eq_true rfl⟩ ⟨Nat.le_refl _, Nat.le_refl _⟩ dX9_put_9 rfl ?_
    exact sm_iret X hr dX9_put_12 rfl
def by_X9_move_0 : List Nat := [27, 184, 1, 20, 153, 0, 10, 29, 184, 1, 20, 154, 0, 9, 42, 4]
def by_X9_move_1 : List Nat := [182, 0, 126, 172, 42, 180, 0, 34, 27, 46, 153, 0, 12, 42, 180, 0]
def by_X9_move_2 : List Nat := [34, 29, 46, 154, 0, 9, 42, 5, 182, 0, 126, 172, 42, 180, 0, 34]
def by_X9_move_3 : List Nat := [27, 46, 42, 180, 0, 34, 29, 46, 159, 0, 9, 42, 8, 182, 0, 126]
def by_X9_move_4 : List Nat := [172, 21, 5, 155, 0, 39, 28, 155, 0, 35, 21, 4, 155, 0, 30, 21]
def by_X9_move_5 : List Nat := [5, 42, 180, 0, 37, 27, 46, 28, 100, 163, 0, 17, 21, 5, 42, 180]
def by_X9_move_6 : List Nat := [0, 37, 29, 46, 21, 4, 100, 164, 0, 9, 42, 4, 182, 0, 126, 172]
def by_X9_move_7 : List Nat := [3, 54, 6, 21, 6, 21, 5, 162, 0, 30, 42, 180, 0, 43, 21, 6]
def by_X9_move_8 : List Nat := [42, 180, 0, 40, 16, 40, 27, 104, 28, 96, 21, 6, 96, 46, 79, 132]
def by_X9_move_9 : List Nat := [6, 1, 167, 255, 225, 3, 54, 6, 21, 6, 21, 5, 162, 0, 31, 42]
def by_X9_move_10 : List Nat := [180, 0, 40, 16, 40, 29, 104, 21, 4, 96, 21, 6, 96, 42, 180, 0]
def by_X9_move_z : List Nat := [43, 21, 6, 46, 79, 132, 6, 1, 167, 255, 224, 21, 5, 172]
def by_X9_move : List (List Nat) := [by_X9_move_0, by_X9_move_1, by_X9_move_2, by_X9_move_3, by_X9_move_4, by_X9_move_5, by_X9_move_6, by_X9_move_7, by_X9_move_8, by_X9_move_9, by_X9_move_10]
set_option maxRecDepth 100000 in
theorem byo_X9_move : cX9_move.data.toList.map UInt8.toNat = by_X9_move.flatten ++ by_X9_move_z := by decide +kernel
theorem byl_X9_move : by_X9_move.all (fun r => r.length == 16) = true := by decide +kernel
theorem byr_X9_move_0 {j v : Nat} (h : by_X9_move_0[j]? = some v) : RD cX9_move (0 + j) v := rd_16 byo_X9_move byl_X9_move 0 rfl h
theorem byr_X9_move_1 {j v : Nat} (h : by_X9_move_1[j]? = some v) : RD cX9_move (16 + j) v := rd_16 byo_X9_move byl_X9_move 1 rfl h
theorem byr_X9_move_2 {j v : Nat} (h : by_X9_move_2[j]? = some v) : RD cX9_move (32 + j) v := rd_16 byo_X9_move byl_X9_move 2 rfl h
theorem byr_X9_move_3 {j v : Nat} (h : by_X9_move_3[j]? = some v) : RD cX9_move (48 + j) v := rd_16 byo_X9_move byl_X9_move 3 rfl h
theorem byr_X9_move_4 {j v : Nat} (h : by_X9_move_4[j]? = some v) : RD cX9_move (64 + j) v := rd_16 byo_X9_move byl_X9_move 4 rfl h
theorem byr_X9_move_5 {j v : Nat} (h : by_X9_move_5[j]? = some v) : RD cX9_move (80 + j) v := rd_16 byo_X9_move byl_X9_move 5 rfl h
theorem byr_X9_move_6 {j v : Nat} (h : by_X9_move_6[j]? = some v) : RD cX9_move (96 + j) v := rd_16 byo_X9_move byl_X9_move 6 rfl h
theorem byr_X9_move_7 {j v : Nat} (h : by_X9_move_7[j]? = some v) : RD cX9_move (112 + j) v := rd_16 byo_X9_move byl_X9_move 7 rfl h
theorem byr_X9_move_8 {j v : Nat} (h : by_X9_move_8[j]? = some v) : RD cX9_move (128 + j) v := rd_16 byo_X9_move byl_X9_move 8 rfl h
theorem byr_X9_move_9 {j v : Nat} (h : by_X9_move_9[j]? = some v) : RD cX9_move (144 + j) v := rd_16 byo_X9_move byl_X9_move 9 rfl h
theorem byr_X9_move_10 {j v : Nat} (h : by_X9_move_10[j]? = some v) : RD cX9_move (160 + j) v := rd_16 byo_X9_move byl_X9_move 10 rfl h
theorem byr_X9_move_11 {j v : Nat} (h : by_X9_move_z[j]? = some v) : RD cX9_move (176 + j) v := rd_z byo_X9_move byl_X9_move 11 rfl h
theorem dX9_move_0 : decode cX9_move 0 = .ok (.iload_n 1, 1) := dk_27 (byr_X9_move_0 (j := 0) rfl)
theorem dX9_move_1 : decode cX9_move 1 = .ok (.invokestatic 276, 3) := dk_184 (byr_X9_move_0 (j := 1) rfl) (byr_X9_move_0 (j := 2) rfl) (byr_X9_move_0 (j := 3) rfl) (by decide)
theorem dX9_move_4 : decode cX9_move 4 = .ok (.ifCond .eq 10, 3) := dk_153 (byr_X9_move_0 (j := 4) rfl) (byr_X9_move_0 (j := 5) rfl) (byr_X9_move_0 (j := 6) rfl) (by decide)
theorem dX9_move_7 : decode cX9_move 7 = .ok (.iload_n 3, 1) := dk_29 (byr_X9_move_0 (j := 7) rfl)
theorem dX9_move_8 : decode cX9_move 8 = .ok (.invokestatic 276, 3) := dk_184 (byr_X9_move_0 (j := 8) rfl) (byr_X9_move_0 (j := 9) rfl) (byr_X9_move_0 (j := 10) rfl) (by decide)
theorem dX9_move_11 : decode cX9_move 11 = .ok (.ifCond .ne 9, 3) := dk_154 (byr_X9_move_0 (j := 11) rfl) (byr_X9_move_0 (j := 12) rfl) (byr_X9_move_0 (j := 13) rfl) (by decide)
theorem dX9_move_14 : decode cX9_move 14 = .ok (.aload_n 0, 1) := dk_42 (byr_X9_move_0 (j := 14) rfl)
theorem dX9_move_15 : decode cX9_move 15 = .ok (.iconst 1, 1) := dk_4 (byr_X9_move_0 (j := 15) rfl)
theorem dX9_move_16 : decode cX9_move 16 = .ok (.invokevirtual 126, 3) := dk_182 (byr_X9_move_1 (j := 0) rfl) (byr_X9_move_1 (j := 1) rfl) (byr_X9_move_1 (j := 2) rfl) (by decide)
theorem dX9_move_19 : decode cX9_move 19 = .ok (.ireturn, 1) := dk_172 (byr_X9_move_1 (j := 3) rfl)
theorem dX9_move_20 : decode cX9_move 20 = .ok (.aload_n 0, 1) := dk_42 (byr_X9_move_1 (j := 4) rfl)
theorem dX9_move_21 : decode cX9_move 21 = .ok (.getfield 34, 3) := dk_180 (byr_X9_move_1 (j := 5) rfl) (byr_X9_move_1 (j := 6) rfl) (byr_X9_move_1 (j := 7) rfl) (by decide)
theorem dX9_move_24 : decode cX9_move 24 = .ok (.iload_n 1, 1) := dk_27 (byr_X9_move_1 (j := 8) rfl)
theorem dX9_move_25 : decode cX9_move 25 = .ok (.iaload, 1) := dk_46 (byr_X9_move_1 (j := 9) rfl)
theorem dX9_move_26 : decode cX9_move 26 = .ok (.ifCond .eq 12, 3) := dk_153 (byr_X9_move_1 (j := 10) rfl) (byr_X9_move_1 (j := 11) rfl) (byr_X9_move_1 (j := 12) rfl) (by decide)
theorem dX9_move_29 : decode cX9_move 29 = .ok (.aload_n 0, 1) := dk_42 (byr_X9_move_1 (j := 13) rfl)
theorem dX9_move_30 : decode cX9_move 30 = .ok (.getfield 34, 3) := dk_180 (byr_X9_move_1 (j := 14) rfl) (byr_X9_move_1 (j := 15) rfl) (byr_X9_move_2 (j := 0) rfl) (by decide)
theorem dX9_move_33 : decode cX9_move 33 = .ok (.iload_n 3, 1) := dk_29 (byr_X9_move_2 (j := 1) rfl)
theorem dX9_move_34 : decode cX9_move 34 = .ok (.iaload, 1) := dk_46 (byr_X9_move_2 (j := 2) rfl)
theorem dX9_move_35 : decode cX9_move 35 = .ok (.ifCond .ne 9, 3) := dk_154 (byr_X9_move_2 (j := 3) rfl) (byr_X9_move_2 (j := 4) rfl) (byr_X9_move_2 (j := 5) rfl) (by decide)
theorem dX9_move_38 : decode cX9_move 38 = .ok (.aload_n 0, 1) := dk_42 (byr_X9_move_2 (j := 6) rfl)
theorem dX9_move_39 : decode cX9_move 39 = .ok (.iconst 2, 1) := dk_5 (byr_X9_move_2 (j := 7) rfl)
theorem dX9_move_40 : decode cX9_move 40 = .ok (.invokevirtual 126, 3) := dk_182 (byr_X9_move_2 (j := 8) rfl) (byr_X9_move_2 (j := 9) rfl) (byr_X9_move_2 (j := 10) rfl) (by decide)
theorem dX9_move_43 : decode cX9_move 43 = .ok (.ireturn, 1) := dk_172 (byr_X9_move_2 (j := 11) rfl)
theorem dX9_move_44 : decode cX9_move 44 = .ok (.aload_n 0, 1) := dk_42 (byr_X9_move_2 (j := 12) rfl)
theorem dX9_move_45 : decode cX9_move 45 = .ok (.getfield 34, 3) := dk_180 (byr_X9_move_2 (j := 13) rfl) (byr_X9_move_2 (j := 14) rfl) (byr_X9_move_2 (j := 15) rfl) (by decide)
theorem dX9_move_48 : decode cX9_move 48 = .ok (.iload_n 1, 1) := dk_27 (byr_X9_move_3 (j := 0) rfl)
theorem dX9_move_49 : decode cX9_move 49 = .ok (.iaload, 1) := dk_46 (byr_X9_move_3 (j := 1) rfl)
theorem dX9_move_50 : decode cX9_move 50 = .ok (.aload_n 0, 1) := dk_42 (byr_X9_move_3 (j := 2) rfl)
theorem dX9_move_51 : decode cX9_move 51 = .ok (.getfield 34, 3) := dk_180 (byr_X9_move_3 (j := 3) rfl) (byr_X9_move_3 (j := 4) rfl) (byr_X9_move_3 (j := 5) rfl) (by decide)
theorem dX9_move_54 : decode cX9_move 54 = .ok (.iload_n 3, 1) := dk_29 (byr_X9_move_3 (j := 6) rfl)
theorem dX9_move_55 : decode cX9_move 55 = .ok (.iaload, 1) := dk_46 (byr_X9_move_3 (j := 7) rfl)
theorem dX9_move_56 : decode cX9_move 56 = .ok (.if_icmp .eq 9, 3) := dk_159 (byr_X9_move_3 (j := 8) rfl) (byr_X9_move_3 (j := 9) rfl) (byr_X9_move_3 (j := 10) rfl) (by decide)
theorem dX9_move_59 : decode cX9_move 59 = .ok (.aload_n 0, 1) := dk_42 (byr_X9_move_3 (j := 11) rfl)
theorem dX9_move_60 : decode cX9_move 60 = .ok (.iconst 5, 1) := dk_8 (byr_X9_move_3 (j := 12) rfl)
theorem dX9_move_61 : decode cX9_move 61 = .ok (.invokevirtual 126, 3) := dk_182 (byr_X9_move_3 (j := 13) rfl) (byr_X9_move_3 (j := 14) rfl) (byr_X9_move_3 (j := 15) rfl) (by decide)
theorem dX9_move_64 : decode cX9_move 64 = .ok (.ireturn, 1) := dk_172 (byr_X9_move_4 (j := 0) rfl)
theorem dX9_move_65 : decode cX9_move 65 = .ok (.iload 5, 2) := dk_21 (byr_X9_move_4 (j := 1) rfl) (byr_X9_move_4 (j := 2) rfl)
theorem dX9_move_67 : decode cX9_move 67 = .ok (.ifCond .lt 39, 3) := dk_155 (byr_X9_move_4 (j := 3) rfl) (byr_X9_move_4 (j := 4) rfl) (byr_X9_move_4 (j := 5) rfl) (by decide)
theorem dX9_move_70 : decode cX9_move 70 = .ok (.iload_n 2, 1) := dk_28 (byr_X9_move_4 (j := 6) rfl)
theorem dX9_move_71 : decode cX9_move 71 = .ok (.ifCond .lt 35, 3) := dk_155 (byr_X9_move_4 (j := 7) rfl) (byr_X9_move_4 (j := 8) rfl) (byr_X9_move_4 (j := 9) rfl) (by decide)
theorem dX9_move_74 : decode cX9_move 74 = .ok (.iload 4, 2) := dk_21 (byr_X9_move_4 (j := 10) rfl) (byr_X9_move_4 (j := 11) rfl)
theorem dX9_move_76 : decode cX9_move 76 = .ok (.ifCond .lt 30, 3) := dk_155 (byr_X9_move_4 (j := 12) rfl) (byr_X9_move_4 (j := 13) rfl) (byr_X9_move_4 (j := 14) rfl) (by decide)
theorem dX9_move_79 : decode cX9_move 79 = .ok (.iload 5, 2) := dk_21 (byr_X9_move_4 (j := 15) rfl) (byr_X9_move_5 (j := 0) rfl)
theorem dX9_move_81 : decode cX9_move 81 = .ok (.aload_n 0, 1) := dk_42 (byr_X9_move_5 (j := 1) rfl)
theorem dX9_move_82 : decode cX9_move 82 = .ok (.getfield 37, 3) := dk_180 (byr_X9_move_5 (j := 2) rfl) (byr_X9_move_5 (j := 3) rfl) (byr_X9_move_5 (j := 4) rfl) (by decide)
theorem dX9_move_85 : decode cX9_move 85 = .ok (.iload_n 1, 1) := dk_27 (byr_X9_move_5 (j := 5) rfl)
theorem dX9_move_86 : decode cX9_move 86 = .ok (.iaload, 1) := dk_46 (byr_X9_move_5 (j := 6) rfl)
theorem dX9_move_87 : decode cX9_move 87 = .ok (.iload_n 2, 1) := dk_28 (byr_X9_move_5 (j := 7) rfl)
theorem dX9_move_88 : decode cX9_move 88 = .ok (.isub, 1) := dk_100 (byr_X9_move_5 (j := 8) rfl)
theorem dX9_move_89 : decode cX9_move 89 = .ok (.if_icmp .gt 17, 3) := dk_163 (byr_X9_move_5 (j := 9) rfl) (byr_X9_move_5 (j := 10) rfl) (byr_X9_move_5 (j := 11) rfl) (by decide)
theorem dX9_move_92 : decode cX9_move 92 = .ok (.iload 5, 2) := dk_21 (byr_X9_move_5 (j := 12) rfl) (byr_X9_move_5 (j := 13) rfl)
theorem dX9_move_94 : decode cX9_move 94 = .ok (.aload_n 0, 1) := dk_42 (byr_X9_move_5 (j := 14) rfl)
theorem dX9_move_95 : decode cX9_move 95 = .ok (.getfield 37, 3) := dk_180 (byr_X9_move_5 (j := 15) rfl) (byr_X9_move_6 (j := 0) rfl) (byr_X9_move_6 (j := 1) rfl) (by decide)
theorem dX9_move_98 : decode cX9_move 98 = .ok (.iload_n 3, 1) := dk_29 (byr_X9_move_6 (j := 2) rfl)
theorem dX9_move_99 : decode cX9_move 99 = .ok (.iaload, 1) := dk_46 (byr_X9_move_6 (j := 3) rfl)
theorem dX9_move_100 : decode cX9_move 100 = .ok (.iload 4, 2) := dk_21 (byr_X9_move_6 (j := 4) rfl) (byr_X9_move_6 (j := 5) rfl)
theorem dX9_move_102 : decode cX9_move 102 = .ok (.isub, 1) := dk_100 (byr_X9_move_6 (j := 6) rfl)
theorem dX9_move_103 : decode cX9_move 103 = .ok (.if_icmp .le 9, 3) := dk_164 (byr_X9_move_6 (j := 7) rfl) (byr_X9_move_6 (j := 8) rfl) (byr_X9_move_6 (j := 9) rfl) (by decide)
theorem dX9_move_106 : decode cX9_move 106 = .ok (.aload_n 0, 1) := dk_42 (byr_X9_move_6 (j := 10) rfl)
theorem dX9_move_107 : decode cX9_move 107 = .ok (.iconst 1, 1) := dk_4 (byr_X9_move_6 (j := 11) rfl)
theorem dX9_move_108 : decode cX9_move 108 = .ok (.invokevirtual 126, 3) := dk_182 (byr_X9_move_6 (j := 12) rfl) (byr_X9_move_6 (j := 13) rfl) (byr_X9_move_6 (j := 14) rfl) (by decide)
theorem dX9_move_111 : decode cX9_move 111 = .ok (.ireturn, 1) := dk_172 (byr_X9_move_6 (j := 15) rfl)
theorem dX9_move_112 : decode cX9_move 112 = .ok (.iconst 0, 1) := dk_3 (byr_X9_move_7 (j := 0) rfl)
theorem dX9_move_113 : decode cX9_move 113 = .ok (.istore 6, 2) := dk_54 (byr_X9_move_7 (j := 1) rfl) (byr_X9_move_7 (j := 2) rfl)
theorem dX9_move_115 : decode cX9_move 115 = .ok (.iload 6, 2) := dk_21 (byr_X9_move_7 (j := 3) rfl) (byr_X9_move_7 (j := 4) rfl)
theorem dX9_move_117 : decode cX9_move 117 = .ok (.iload 5, 2) := dk_21 (byr_X9_move_7 (j := 5) rfl) (byr_X9_move_7 (j := 6) rfl)
theorem dX9_move_119 : decode cX9_move 119 = .ok (.if_icmp .ge 30, 3) := dk_162 (byr_X9_move_7 (j := 7) rfl) (byr_X9_move_7 (j := 8) rfl) (byr_X9_move_7 (j := 9) rfl) (by decide)
theorem dX9_move_122 : decode cX9_move 122 = .ok (.aload_n 0, 1) := dk_42 (byr_X9_move_7 (j := 10) rfl)
theorem dX9_move_123 : decode cX9_move 123 = .ok (.getfield 43, 3) := dk_180 (byr_X9_move_7 (j := 11) rfl) (byr_X9_move_7 (j := 12) rfl) (byr_X9_move_7 (j := 13) rfl) (by decide)
theorem dX9_move_126 : decode cX9_move 126 = .ok (.iload 6, 2) := dk_21 (byr_X9_move_7 (j := 14) rfl) (byr_X9_move_7 (j := 15) rfl)
theorem dX9_move_128 : decode cX9_move 128 = .ok (.aload_n 0, 1) := dk_42 (byr_X9_move_8 (j := 0) rfl)
theorem dX9_move_129 : decode cX9_move 129 = .ok (.getfield 40, 3) := dk_180 (byr_X9_move_8 (j := 1) rfl) (byr_X9_move_8 (j := 2) rfl) (byr_X9_move_8 (j := 3) rfl) (by decide)
theorem dX9_move_132 : decode cX9_move 132 = .ok (.bipush 40, 2) := dk_16 (byr_X9_move_8 (j := 4) rfl) (byr_X9_move_8 (j := 5) rfl) (by decide)
theorem dX9_move_134 : decode cX9_move 134 = .ok (.iload_n 1, 1) := dk_27 (byr_X9_move_8 (j := 6) rfl)
theorem dX9_move_135 : decode cX9_move 135 = .ok (.imul, 1) := dk_104 (byr_X9_move_8 (j := 7) rfl)
theorem dX9_move_136 : decode cX9_move 136 = .ok (.iload_n 2, 1) := dk_28 (byr_X9_move_8 (j := 8) rfl)
theorem dX9_move_137 : decode cX9_move 137 = .ok (.iadd, 1) := dk_96 (byr_X9_move_8 (j := 9) rfl)
theorem dX9_move_138 : decode cX9_move 138 = .ok (.iload 6, 2) := dk_21 (byr_X9_move_8 (j := 10) rfl) (byr_X9_move_8 (j := 11) rfl)
theorem dX9_move_140 : decode cX9_move 140 = .ok (.iadd, 1) := dk_96 (byr_X9_move_8 (j := 12) rfl)
theorem dX9_move_141 : decode cX9_move 141 = .ok (.iaload, 1) := dk_46 (byr_X9_move_8 (j := 13) rfl)
theorem dX9_move_142 : decode cX9_move 142 = .ok (.iastore, 1) := dk_79 (byr_X9_move_8 (j := 14) rfl)
theorem dX9_move_143 : decode cX9_move 143 = .ok (.iinc 6 1, 3) := dk_132 (byr_X9_move_8 (j := 15) rfl) (byr_X9_move_9 (j := 0) rfl) (byr_X9_move_9 (j := 1) rfl) (by decide)
theorem dX9_move_146 : decode cX9_move 146 = .ok (.goto (-31), 3) := dk_167 (byr_X9_move_9 (j := 2) rfl) (byr_X9_move_9 (j := 3) rfl) (byr_X9_move_9 (j := 4) rfl) (by decide)
theorem dX9_move_149 : decode cX9_move 149 = .ok (.iconst 0, 1) := dk_3 (byr_X9_move_9 (j := 5) rfl)
theorem dX9_move_150 : decode cX9_move 150 = .ok (.istore 6, 2) := dk_54 (byr_X9_move_9 (j := 6) rfl) (byr_X9_move_9 (j := 7) rfl)
theorem dX9_move_152 : decode cX9_move 152 = .ok (.iload 6, 2) := dk_21 (byr_X9_move_9 (j := 8) rfl) (byr_X9_move_9 (j := 9) rfl)
theorem dX9_move_154 : decode cX9_move 154 = .ok (.iload 5, 2) := dk_21 (byr_X9_move_9 (j := 10) rfl) (byr_X9_move_9 (j := 11) rfl)
theorem dX9_move_156 : decode cX9_move 156 = .ok (.if_icmp .ge 31, 3) := dk_162 (byr_X9_move_9 (j := 12) rfl) (byr_X9_move_9 (j := 13) rfl) (byr_X9_move_9 (j := 14) rfl) (by decide)
theorem dX9_move_159 : decode cX9_move 159 = .ok (.aload_n 0, 1) := dk_42 (byr_X9_move_9 (j := 15) rfl)
theorem dX9_move_160 : decode cX9_move 160 = .ok (.getfield 40, 3) := dk_180 (byr_X9_move_10 (j := 0) rfl) (byr_X9_move_10 (j := 1) rfl) (byr_X9_move_10 (j := 2) rfl) (by decide)
theorem dX9_move_163 : decode cX9_move 163 = .ok (.bipush 40, 2) := dk_16 (byr_X9_move_10 (j := 3) rfl) (byr_X9_move_10 (j := 4) rfl) (by decide)
theorem dX9_move_165 : decode cX9_move 165 = .ok (.iload_n 3, 1) := dk_29 (byr_X9_move_10 (j := 5) rfl)
theorem dX9_move_166 : decode cX9_move 166 = .ok (.imul, 1) := dk_104 (byr_X9_move_10 (j := 6) rfl)
theorem dX9_move_167 : decode cX9_move 167 = .ok (.iload 4, 2) := dk_21 (byr_X9_move_10 (j := 7) rfl) (byr_X9_move_10 (j := 8) rfl)
theorem dX9_move_169 : decode cX9_move 169 = .ok (.iadd, 1) := dk_96 (byr_X9_move_10 (j := 9) rfl)
theorem dX9_move_170 : decode cX9_move 170 = .ok (.iload 6, 2) := dk_21 (byr_X9_move_10 (j := 10) rfl) (byr_X9_move_10 (j := 11) rfl)
theorem dX9_move_172 : decode cX9_move 172 = .ok (.iadd, 1) := dk_96 (byr_X9_move_10 (j := 12) rfl)
theorem dX9_move_173 : decode cX9_move 173 = .ok (.aload_n 0, 1) := dk_42 (byr_X9_move_10 (j := 13) rfl)
theorem dX9_move_174 : decode cX9_move 174 = .ok (.getfield 43, 3) := dk_180 (byr_X9_move_10 (j := 14) rfl) (byr_X9_move_10 (j := 15) rfl) (byr_X9_move_11 (j := 0) rfl) (by decide)
theorem dX9_move_177 : decode cX9_move 177 = .ok (.iload 6, 2) := dk_21 (byr_X9_move_11 (j := 1) rfl) (byr_X9_move_11 (j := 2) rfl)
theorem dX9_move_179 : decode cX9_move 179 = .ok (.iaload, 1) := dk_46 (byr_X9_move_11 (j := 3) rfl)
theorem dX9_move_180 : decode cX9_move 180 = .ok (.iastore, 1) := dk_79 (byr_X9_move_11 (j := 4) rfl)
theorem dX9_move_181 : decode cX9_move 181 = .ok (.iinc 6 1, 3) := dk_132 (byr_X9_move_11 (j := 5) rfl) (byr_X9_move_11 (j := 6) rfl) (byr_X9_move_11 (j := 7) rfl) (by decide)
theorem dX9_move_184 : decode cX9_move 184 = .ok (.goto (-32), 3) := dk_167 (byr_X9_move_11 (j := 8) rfl) (byr_X9_move_11 (j := 9) rfl) (byr_X9_move_11 (j := 10) rfl) (by decide)
theorem dX9_move_187 : decode cX9_move 187 = .ok (.iload 5, 2) := dk_21 (byr_X9_move_11 (j := 11) rfl) (byr_X9_move_11 (j := 12) rfl)
theorem dX9_move_189 : decode cX9_move 189 = .ok (.ireturn, 1) := dk_172 (byr_X9_move_11 (j := 13) rfl)
set_option maxHeartbeats 4000000 in
set_option maxRecDepth 100000 in
theorem c_X9_move (l : Launch) (G : GT) (σ : Sto) (a1 : Int32) (a2 : Int32) (a3 : Int32) (a4 : Int32) (a5 : Int32) (r : (Int32 × Sto)) (h : f_X9_move σ a1 a2 a3 a4 a5 = some r) : MW l G (4) (109) 0 0 yX9_move cX9_move 7 (Option.some Jvm.ClassFile.FieldType.int) [.ref (gad G 81), .int a1, .int a2, .int a3, .int a4, .int a5] (wl G σ) (some (.int r.1)) (wl G r.2) := by
  refine mw_of RX9 (fiI G) [(0, .ref (gad G 81)), (1, .int a1), (2, .int a2), (3, .int a3), (4, .int a4), (5, .int a5)] (by decide +kernel) rfl (Nat.le_of_ble_eq_true rfl) rfl h rfl (fun p e s m args below meth c X hr hnm => ?_)
  have J152 : ∀ (v3 : Int32) (v4 : Int32) (v5 : Int32)  (n : Nat) (v6 : Int32) (σ : Sto), Sm p l e { frames := 4, cells := 0, slots := 0, locals := 109 } s m args below meth c G 7 (Qm below args s G 0 0 (fiI G)) 0 0 (wl G σ) 152 [(0, .ref (gad G 81)), (3, .int v3), (4, .int v4), (5, .int v5), (6, .int v6)] [] (f_X9_move_L152  v3 v4 v5 n v6 σ) := by
    intro v3 v4 v5 n
    induction n with
    | zero => intro v6 σ; rw [f_X9_move_L152]; exact sm_none
    | succ n ihl =>
      intro v6 σ
      rw [f_X9_move_L152]
      refine sm_iload X 154 4 dX9_move_152 rfl rfl ?_
      refine sm_iload X 156 3 dX9_move_154 rfl rfl ?_
      refine sm_icmp_ge X 159 187 dX9_move_156 rfl (by decide) (fun h156 => ?_) (fun h156 => ?_)
      · refine sm_iload X 189 3 dX9_move_187 rfl rfl ?_
        exact sm_iret X hr dX9_move_189 rfl
      · refine sm_aload_n X 160 0 dX9_move_159 rfl rfl rfl ?_
        refine sm_getf X 163 92 rfl fd_9_22 rfl dX9_move_160 rfl q_904 ?_
        refine sm_bipush X 165 (40) dX9_move_163 rfl rfl ?_
        refine sm_iload_n X 166 1 dX9_move_165 rfl rfl rfl ?_
        refine sm_imul X 167 dX9_move_166 rfl ?_
        refine sm_iload X 169 2 dX9_move_167 rfl rfl ?_
        refine sm_iadd X 170 dX9_move_169 rfl ?_
        refine sm_iload X 172 4 dX9_move_170 rfl rfl ?_
        refine sm_iadd X 173 dX9_move_172 rfl ?_
        refine sm_aload_n X 174 0 dX9_move_173 rfl rfl rfl ?_
        refine sm_getf X 177 93 rfl fd_9_23 rfl dX9_move_174 rfl q_905 ?_
        refine sm_iload X 179 4 dX9_move_177 rfl rfl ?_
        refine sm_iald X 180 rfl dX9_move_179 rfl (fun r179 e179 => ?_)
        clear e179
        refine sm_iast X 181 rfl dX9_move_180 rfl (fun σ180 e180 => ?_)
        clear e180
        refine sm_iinc X 184 4 (1 : Int32) [(6, .int (v6 + (1 : Int32))), (0, .ref (gad G 81)), (3, .int v3), (4, .int v4), (5, .int v5)] dX9_move_181 rfl rfl rfl (by decide) rfl ?_
        refine sm_goto X 152 dX9_move_184 (by decide) ?_
        exact sm_sub [1, 2, 3, 4, 0] rfl (ihl (v6 + (1 : Int32)) σ180)
  have J115 : ∀ (v1 : Int32) (v2 : Int32) (v3 : Int32) (v4 : Int32) (v5 : Int32)  (n : Nat) (v6 : Int32) (σ : Sto), Sm p l e { frames := 4, cells := 0, slots := 0, locals := 109 } s m args below meth c G 7 (Qm below args s G 0 0 (fiI G)) 0 0 (wl G σ) 115 [(0, .ref (gad G 81)), (1, .int v1), (2, .int v2), (3, .int v3), (4, .int v4), (5, .int v5), (6, .int v6)] [] (f_X9_move_L115  v1 v2 v3 v4 v5 n v6 σ) := by
    intro v1 v2 v3 v4 v5 n
    induction n with
    | zero => intro v6 σ; rw [f_X9_move_L115]; exact sm_none
    | succ n ihl =>
      intro v6 σ
      rw [f_X9_move_L115]
      refine sm_iload X 117 6 dX9_move_115 rfl rfl ?_
      refine sm_iload X 119 5 dX9_move_117 rfl rfl ?_
      refine sm_icmp_ge X 122 149 dX9_move_119 rfl (by decide) (fun h119 => ?_) (fun h119 => ?_)
      · refine sm_iconst X 150 (0) dX9_move_149 rfl rfl ?_
        refine sm_istore X 152 [(6, .int 0), (0, .ref (gad G 81)), (1, .int v1), (2, .int v2), (3, .int v3), (4, .int v4), (5, .int v5)] dX9_move_150 rfl (by decide) rfl ?_
        exact sm_sub [1, 4, 5, 6, 0] rfl (J152 v3 v4 v5  FU (0 : Int32) σ)
      · refine sm_aload_n X 123 0 dX9_move_122 rfl rfl rfl ?_
        refine sm_getf X 126 93 rfl fd_9_23 rfl dX9_move_123 rfl q_905 ?_
        refine sm_iload X 128 6 dX9_move_126 rfl rfl ?_
        refine sm_aload_n X 129 0 dX9_move_128 rfl rfl rfl ?_
        refine sm_getf X 132 92 rfl fd_9_22 rfl dX9_move_129 rfl q_904 ?_
        refine sm_bipush X 134 (40) dX9_move_132 rfl rfl ?_
        refine sm_iload_n X 135 1 dX9_move_134 rfl rfl rfl ?_
        refine sm_imul X 136 dX9_move_135 rfl ?_
        refine sm_iload_n X 137 2 dX9_move_136 rfl rfl rfl ?_
        refine sm_iadd X 138 dX9_move_137 rfl ?_
        refine sm_iload X 140 6 dX9_move_138 rfl rfl ?_
        refine sm_iadd X 141 dX9_move_140 rfl ?_
        refine sm_iald X 142 rfl dX9_move_141 rfl (fun r141 e141 => ?_)
        clear e141
        refine sm_iast X 143 rfl dX9_move_142 rfl (fun σ142 e142 => ?_)
        clear e142
        refine sm_iinc X 146 6 (1 : Int32) [(6, .int (v6 + (1 : Int32))), (0, .ref (gad G 81)), (1, .int v1), (2, .int v2), (3, .int v3), (4, .int v4), (5, .int v5)] dX9_move_143 rfl rfl rfl (by decide) rfl ?_
        refine sm_goto X 115 dX9_move_146 (by decide) ?_
        exact sm_sub [1, 2, 3, 4, 5, 6, 0] rfl (ihl (v6 + (1 : Int32)) σ142)
  unfold f_X9_move
  refine sm_iload_n X 1 1 dX9_move_0 rfl rfl rfl ?_
  refine sm_bind (fun r1 h1 => ?_)
  refine sm_callS0 X 4 [.int a1] [] [.int (b2i r1)] (c_X9_isSheet l G σ a1 r1 h1) cw_X9_isSheet q_1271 q_1270 rfl rfl rfl (Nat.le_of_ble_eq_true rfl) ⟨Nat.le_of_ble_eq_true rfl, Nat.le_of_ble_eq_true rfl⟩ ⟨Nat.le_refl _, Nat.le_refl _⟩ dX9_move_1 rfl ?_
  refine sm_ifz_eq X 7 14 dX9_move_4 rfl (by decide) (fun h4 => ?_) (fun h4 => ?_)
  · refine sm_iload_n X 8 3 dX9_move_7 rfl rfl rfl ?_
    refine sm_bind (fun r8 h8 => ?_)
    refine sm_callS0 X 11 [.int a3] [] [.int (b2i r8)] (c_X9_isSheet l G σ a3 r8 h8) cw_X9_isSheet q_1271 q_1270 rfl rfl rfl (Nat.le_of_ble_eq_true rfl) ⟨Nat.le_of_ble_eq_true rfl, Nat.le_of_ble_eq_true rfl⟩ ⟨Nat.le_refl _, Nat.le_refl _⟩ dX9_move_8 rfl ?_
    refine sm_ifz_ne X 14 20 dX9_move_11 rfl (by decide) (fun h11 => ?_) (fun h11 => ?_)
    · refine sm_aload_n X 21 0 dX9_move_20 rfl rfl rfl ?_
      refine sm_getf X 24 90 rfl fd_9_20 rfl dX9_move_21 rfl q_902 ?_
      refine sm_iload_n X 25 1 dX9_move_24 rfl rfl rfl ?_
      refine sm_iald X 26 rfl dX9_move_25 rfl (fun r25 e25 => ?_)
      clear e25
      refine sm_if_eq X 29 38 dX9_move_26 rfl (by decide) (fun h26 => ?_) (fun h26 => ?_)
      · refine sm_aload_n X 39 0 dX9_move_38 rfl rfl rfl ?_
        refine sm_iconst X 40 (2) dX9_move_39 rfl rfl ?_
        refine sm_bind (fun r40 h40 => ?_)
        refine sm_callV0 X 43 [.int 2] [] [.int r40.1] (c_X9_finds l G σ (2 : Int32) r40 h40) cw_X9_finds q_965 qs_26 q_963 rfl (by decide) rfl rfl rfl rfl rfl (Nat.le_of_ble_eq_true rfl) ⟨Nat.le_of_ble_eq_true rfl, Nat.le_of_ble_eq_true rfl⟩ ⟨Nat.le_refl _, Nat.le_refl _⟩ dX9_move_40 rfl ?_
        exact sm_iret X hr dX9_move_43 rfl
      · refine sm_aload_n X 30 0 dX9_move_29 rfl rfl rfl ?_
        refine sm_getf X 33 90 rfl fd_9_20 rfl dX9_move_30 rfl q_902 ?_
        refine sm_iload_n X 34 3 dX9_move_33 rfl rfl rfl ?_
        refine sm_iald X 35 rfl dX9_move_34 rfl (fun r34 e34 => ?_)
        clear e34
        refine sm_if_ne X 38 44 dX9_move_35 rfl (by decide) (fun h35 => ?_) (fun h35 => ?_)
        · refine sm_aload_n X 39 0 dX9_move_38 rfl rfl rfl ?_
          refine sm_iconst X 40 (2) dX9_move_39 rfl rfl ?_
          refine sm_bind (fun r40 h40 => ?_)
          refine sm_callV0 X 43 [.int 2] [] [.int r40.1] (c_X9_finds l G σ (2 : Int32) r40 h40) cw_X9_finds q_965 qs_26 q_963 rfl (by decide) rfl rfl rfl rfl rfl (Nat.le_of_ble_eq_true rfl) ⟨Nat.le_of_ble_eq_true rfl, Nat.le_of_ble_eq_true rfl⟩ ⟨Nat.le_refl _, Nat.le_refl _⟩ dX9_move_40 rfl ?_
          exact sm_iret X hr dX9_move_43 rfl
        · refine sm_aload_n X 45 0 dX9_move_44 rfl rfl rfl ?_
          refine sm_getf X 48 90 rfl fd_9_20 rfl dX9_move_45 rfl q_902 ?_
          refine sm_iload_n X 49 1 dX9_move_48 rfl rfl rfl ?_
          refine sm_iald X 50 rfl dX9_move_49 rfl (fun r49 e49 => ?_)
          clear e49
          refine sm_aload_n X 51 0 dX9_move_50 rfl rfl rfl ?_
          refine sm_getf X 54 90 rfl fd_9_20 rfl dX9_move_51 rfl q_902 ?_
          refine sm_iload_n X 55 3 dX9_move_54 rfl rfl rfl ?_
          refine sm_iald X 56 rfl dX9_move_55 rfl (fun r55 e55 => ?_)
          clear e55
          refine sm_icmp_eq X 59 65 dX9_move_56 rfl (by decide) (fun h56 => ?_) (fun h56 => ?_)
          · refine sm_iload X 67 5 dX9_move_65 rfl rfl ?_
            refine sm_if_lt X 70 106 dX9_move_67 rfl (by decide) (fun h67 => ?_) (fun h67 => ?_)
            · refine sm_aload_n X 107 0 dX9_move_106 rfl rfl rfl ?_
              refine sm_iconst X 108 (1) dX9_move_107 rfl rfl ?_
              refine sm_bind (fun r108 h108 => ?_)
              refine sm_callV0 X 111 [.int 1] [] [.int r108.1] (c_X9_finds l G σ (1 : Int32) r108 h108) cw_X9_finds q_965 qs_26 q_963 rfl (by decide) rfl rfl rfl rfl rfl (Nat.le_of_ble_eq_true rfl) ⟨Nat.le_of_ble_eq_true rfl, Nat.le_of_ble_eq_true rfl⟩ ⟨Nat.le_refl _, Nat.le_refl _⟩ dX9_move_108 rfl ?_
              exact sm_iret X hr dX9_move_111 rfl
            · refine sm_iload_n X 71 2 dX9_move_70 rfl rfl rfl ?_
              refine sm_if_lt X 74 106 dX9_move_71 rfl (by decide) (fun h71 => ?_) (fun h71 => ?_)
              · refine sm_aload_n X 107 0 dX9_move_106 rfl rfl rfl ?_
                refine sm_iconst X 108 (1) dX9_move_107 rfl rfl ?_
                refine sm_bind (fun r108 h108 => ?_)
                refine sm_callV0 X 111 [.int 1] [] [.int r108.1] (c_X9_finds l G σ (1 : Int32) r108 h108) cw_X9_finds q_965 qs_26 q_963 rfl (by decide) rfl rfl rfl rfl rfl (Nat.le_of_ble_eq_true rfl) ⟨Nat.le_of_ble_eq_true rfl, Nat.le_of_ble_eq_true rfl⟩ ⟨Nat.le_refl _, Nat.le_refl _⟩ dX9_move_108 rfl ?_
                exact sm_iret X hr dX9_move_111 rfl
              · refine sm_iload X 76 4 dX9_move_74 rfl rfl ?_
                refine sm_if_lt X 79 106 dX9_move_76 rfl (by decide) (fun h76 => ?_) (fun h76 => ?_)
                · refine sm_aload_n X 107 0 dX9_move_106 rfl rfl rfl ?_
                  refine sm_iconst X 108 (1) dX9_move_107 rfl rfl ?_
                  refine sm_bind (fun r108 h108 => ?_)
                  refine sm_callV0 X 111 [.int 1] [] [.int r108.1] (c_X9_finds l G σ (1 : Int32) r108 h108) cw_X9_finds q_965 qs_26 q_963 rfl (by decide) rfl rfl rfl rfl rfl (Nat.le_of_ble_eq_true rfl) ⟨Nat.le_of_ble_eq_true rfl, Nat.le_of_ble_eq_true rfl⟩ ⟨Nat.le_refl _, Nat.le_refl _⟩ dX9_move_108 rfl ?_
                  exact sm_iret X hr dX9_move_111 rfl
                · refine sm_iload X 81 5 dX9_move_79 rfl rfl ?_
                  refine sm_aload_n X 82 0 dX9_move_81 rfl rfl rfl ?_
                  refine sm_getf X 85 91 rfl fd_9_21 rfl dX9_move_82 rfl q_903 ?_
                  refine sm_iload_n X 86 1 dX9_move_85 rfl rfl rfl ?_
                  refine sm_iald X 87 rfl dX9_move_86 rfl (fun r86 e86 => ?_)
                  clear e86
                  refine sm_iload_n X 88 2 dX9_move_87 rfl rfl rfl ?_
                  refine sm_isub X 89 dX9_move_88 rfl ?_
                  refine sm_icmp_gt X 92 106 dX9_move_89 rfl (by decide) (fun h89 => ?_) (fun h89 => ?_)
                  · refine sm_aload_n X 107 0 dX9_move_106 rfl rfl rfl ?_
                    refine sm_iconst X 108 (1) dX9_move_107 rfl rfl ?_
                    refine sm_bind (fun r108 h108 => ?_)
                    refine sm_callV0 X 111 [.int 1] [] [.int r108.1] (c_X9_finds l G σ (1 : Int32) r108 h108) cw_X9_finds q_965 qs_26 q_963 rfl (by decide) rfl rfl rfl rfl rfl (Nat.le_of_ble_eq_true rfl) ⟨Nat.le_of_ble_eq_true rfl, Nat.le_of_ble_eq_true rfl⟩ ⟨Nat.le_refl _, Nat.le_refl _⟩ dX9_move_108 rfl ?_
                    exact sm_iret X hr dX9_move_111 rfl
                  · refine sm_iload X 94 5 dX9_move_92 rfl rfl ?_
                    refine sm_aload_n X 95 0 dX9_move_94 rfl rfl rfl ?_
                    refine sm_getf X 98 91 rfl fd_9_21 rfl dX9_move_95 rfl q_903 ?_
                    refine sm_iload_n X 99 3 dX9_move_98 rfl rfl rfl ?_
                    refine sm_iald X 100 rfl dX9_move_99 rfl (fun r99 e99 => ?_)
                    clear e99
                    refine sm_iload X 102 4 dX9_move_100 rfl rfl ?_
                    refine sm_isub X 103 dX9_move_102 rfl ?_
                    refine sm_icmp_le X 106 112 dX9_move_103 rfl (by decide) (fun h103 => ?_) (fun h103 => ?_)
                    · refine sm_iconst X 113 (0) dX9_move_112 rfl rfl ?_
                      refine sm_istore X 115 [(6, .int 0), (0, .ref (gad G 81)), (1, .int a1), (2, .int a2), (3, .int a3), (4, .int a4), (5, .int a5)] dX9_move_113 rfl (by decide) rfl ?_
                      exact sm_sub [1, 2, 3, 4, 5, 6, 0] rfl (J115 a1 a2 a3 a4 a5  FU (0 : Int32) σ)
                    · refine sm_aload_n X 107 0 dX9_move_106 rfl rfl rfl ?_
                      refine sm_iconst X 108 (1) dX9_move_107 rfl rfl ?_
                      refine sm_bind (fun r108 h108 => ?_)
                      refine sm_callV0 X 111 [.int 1] [] [.int r108.1] (c_X9_finds l G σ (1 : Int32) r108 h108) cw_X9_finds q_965 qs_26 q_963 rfl (by decide) rfl rfl rfl rfl rfl (Nat.le_of_ble_eq_true rfl) ⟨Nat.le_of_ble_eq_true rfl, Nat.le_of_ble_eq_true rfl⟩ ⟨Nat.le_refl _, Nat.le_refl _⟩ dX9_move_108 rfl ?_
                      exact sm_iret X hr dX9_move_111 rfl
          · refine sm_aload_n X 60 0 dX9_move_59 rfl rfl rfl ?_
            refine sm_iconst X 61 (5) dX9_move_60 rfl rfl ?_
            refine sm_bind (fun r61 h61 => ?_)
            refine sm_callV0 X 64 [.int 5] [] [.int r61.1] (c_X9_finds l G σ (5 : Int32) r61 h61) cw_X9_finds q_965 qs_26 q_963 rfl (by decide) rfl rfl rfl rfl rfl (Nat.le_of_ble_eq_true rfl) ⟨Nat.le_of_ble_eq_true rfl, Nat.le_of_ble_eq_true rfl⟩ ⟨Nat.le_refl _, Nat.le_refl _⟩ dX9_move_61 rfl ?_
            exact sm_iret X hr dX9_move_64 rfl
    · refine sm_aload_n X 15 0 dX9_move_14 rfl rfl rfl ?_
      refine sm_iconst X 16 (1) dX9_move_15 rfl rfl ?_
      refine sm_bind (fun r16 h16 => ?_)
      refine sm_callV0 X 19 [.int 1] [] [.int r16.1] (c_X9_finds l G σ (1 : Int32) r16 h16) cw_X9_finds q_965 qs_26 q_963 rfl (by decide) rfl rfl rfl rfl rfl (Nat.le_of_ble_eq_true rfl) ⟨Nat.le_of_ble_eq_true rfl, Nat.le_of_ble_eq_true rfl⟩ ⟨Nat.le_refl _, Nat.le_refl _⟩ dX9_move_16 rfl ?_
      exact sm_iret X hr dX9_move_19 rfl
  · refine sm_aload_n X 15 0 dX9_move_14 rfl rfl rfl ?_
    refine sm_iconst X 16 (1) dX9_move_15 rfl rfl ?_
    refine sm_bind (fun r16 h16 => ?_)
    refine sm_callV0 X 19 [.int 1] [] [.int r16.1] (c_X9_finds l G σ (1 : Int32) r16 h16) cw_X9_finds q_965 qs_26 q_963 rfl (by decide) rfl rfl rfl rfl rfl (Nat.le_of_ble_eq_true rfl) ⟨Nat.le_of_ble_eq_true rfl, Nat.le_of_ble_eq_true rfl⟩ ⟨Nat.le_refl _, Nat.le_refl _⟩ dX9_move_16 rfl ?_
    exact sm_iret X hr dX9_move_19 rfl
def by_X9_years_0 : List Nat := [27, 184, 1, 20, 154, 0, 9, 42, 4, 182, 0, 126, 172, 42, 180, 0]
def by_X9_years_1 : List Nat := [34, 27, 46, 154, 0, 9, 42, 5, 182, 0, 126, 172, 3, 61, 16, 40]
def by_X9_years_2 : List Nat := [27, 104, 62, 5, 28, 104, 5, 96, 42, 180, 0, 37, 27, 46, 163, 0]
def by_X9_years_3 : List Nat := [64, 42, 180, 0, 7, 16, 11, 46, 17, 39, 15, 162, 0, 51, 42, 42]
def by_X9_years_4 : List Nat := [180, 0, 40, 29, 46, 42, 180, 0, 40, 29, 4, 96, 46, 182, 0, 207]
def by_X9_years_5 : List Nat := [153, 0, 30, 42, 42, 180, 0, 40, 29, 46, 42, 180, 0, 40, 29, 4]
def by_X9_years_6 : List Nat := [96, 46, 182, 0, 221, 132, 2, 1, 132, 3, 2, 167, 255, 184, 28, 172]
def by_X9_years_z : List Nat := []
def by_X9_years : List (List Nat) := [by_X9_years_0, by_X9_years_1, by_X9_years_2, by_X9_years_3, by_X9_years_4, by_X9_years_5, by_X9_years_6]
set_option maxRecDepth 100000 in
theorem byo_X9_years : cX9_years.data.toList.map UInt8.toNat = by_X9_years.flatten ++ by_X9_years_z := by decide +kernel
theorem byl_X9_years : by_X9_years.all (fun r => r.length == 16) = true := by decide +kernel
theorem byr_X9_years_0 {j v : Nat} (h : by_X9_years_0[j]? = some v) : RD cX9_years (0 + j) v := rd_16 byo_X9_years byl_X9_years 0 rfl h
theorem byr_X9_years_1 {j v : Nat} (h : by_X9_years_1[j]? = some v) : RD cX9_years (16 + j) v := rd_16 byo_X9_years byl_X9_years 1 rfl h
theorem byr_X9_years_2 {j v : Nat} (h : by_X9_years_2[j]? = some v) : RD cX9_years (32 + j) v := rd_16 byo_X9_years byl_X9_years 2 rfl h
theorem byr_X9_years_3 {j v : Nat} (h : by_X9_years_3[j]? = some v) : RD cX9_years (48 + j) v := rd_16 byo_X9_years byl_X9_years 3 rfl h
theorem byr_X9_years_4 {j v : Nat} (h : by_X9_years_4[j]? = some v) : RD cX9_years (64 + j) v := rd_16 byo_X9_years byl_X9_years 4 rfl h
theorem byr_X9_years_5 {j v : Nat} (h : by_X9_years_5[j]? = some v) : RD cX9_years (80 + j) v := rd_16 byo_X9_years byl_X9_years 5 rfl h
theorem byr_X9_years_6 {j v : Nat} (h : by_X9_years_6[j]? = some v) : RD cX9_years (96 + j) v := rd_16 byo_X9_years byl_X9_years 6 rfl h
theorem byr_X9_years_7 {j v : Nat} (h : by_X9_years_z[j]? = some v) : RD cX9_years (112 + j) v := rd_z byo_X9_years byl_X9_years 7 rfl h
theorem dX9_years_0 : decode cX9_years 0 = .ok (.iload_n 1, 1) := dk_27 (byr_X9_years_0 (j := 0) rfl)
theorem dX9_years_1 : decode cX9_years 1 = .ok (.invokestatic 276, 3) := dk_184 (byr_X9_years_0 (j := 1) rfl) (byr_X9_years_0 (j := 2) rfl) (byr_X9_years_0 (j := 3) rfl) (by decide)
theorem dX9_years_4 : decode cX9_years 4 = .ok (.ifCond .ne 9, 3) := dk_154 (byr_X9_years_0 (j := 4) rfl) (byr_X9_years_0 (j := 5) rfl) (byr_X9_years_0 (j := 6) rfl) (by decide)
theorem dX9_years_7 : decode cX9_years 7 = .ok (.aload_n 0, 1) := dk_42 (byr_X9_years_0 (j := 7) rfl)
theorem dX9_years_8 : decode cX9_years 8 = .ok (.iconst 1, 1) := dk_4 (byr_X9_years_0 (j := 8) rfl)
theorem dX9_years_9 : decode cX9_years 9 = .ok (.invokevirtual 126, 3) := dk_182 (byr_X9_years_0 (j := 9) rfl) (byr_X9_years_0 (j := 10) rfl) (byr_X9_years_0 (j := 11) rfl) (by decide)
theorem dX9_years_12 : decode cX9_years 12 = .ok (.ireturn, 1) := dk_172 (byr_X9_years_0 (j := 12) rfl)
theorem dX9_years_13 : decode cX9_years 13 = .ok (.aload_n 0, 1) := dk_42 (byr_X9_years_0 (j := 13) rfl)
theorem dX9_years_14 : decode cX9_years 14 = .ok (.getfield 34, 3) := dk_180 (byr_X9_years_0 (j := 14) rfl) (byr_X9_years_0 (j := 15) rfl) (byr_X9_years_1 (j := 0) rfl) (by decide)
theorem dX9_years_17 : decode cX9_years 17 = .ok (.iload_n 1, 1) := dk_27 (byr_X9_years_1 (j := 1) rfl)
theorem dX9_years_18 : decode cX9_years 18 = .ok (.iaload, 1) := dk_46 (byr_X9_years_1 (j := 2) rfl)
theorem dX9_years_19 : decode cX9_years 19 = .ok (.ifCond .ne 9, 3) := dk_154 (byr_X9_years_1 (j := 3) rfl) (byr_X9_years_1 (j := 4) rfl) (byr_X9_years_1 (j := 5) rfl) (by decide)
theorem dX9_years_22 : decode cX9_years 22 = .ok (.aload_n 0, 1) := dk_42 (byr_X9_years_1 (j := 6) rfl)
theorem dX9_years_23 : decode cX9_years 23 = .ok (.iconst 2, 1) := dk_5 (byr_X9_years_1 (j := 7) rfl)
theorem dX9_years_24 : decode cX9_years 24 = .ok (.invokevirtual 126, 3) := dk_182 (byr_X9_years_1 (j := 8) rfl) (byr_X9_years_1 (j := 9) rfl) (byr_X9_years_1 (j := 10) rfl) (by decide)
theorem dX9_years_27 : decode cX9_years 27 = .ok (.ireturn, 1) := dk_172 (byr_X9_years_1 (j := 11) rfl)
theorem dX9_years_28 : decode cX9_years 28 = .ok (.iconst 0, 1) := dk_3 (byr_X9_years_1 (j := 12) rfl)
theorem dX9_years_29 : decode cX9_years 29 = .ok (.istore_n 2, 1) := dk_61 (byr_X9_years_1 (j := 13) rfl)
theorem dX9_years_30 : decode cX9_years 30 = .ok (.bipush 40, 2) := dk_16 (byr_X9_years_1 (j := 14) rfl) (byr_X9_years_1 (j := 15) rfl) (by decide)
theorem dX9_years_32 : decode cX9_years 32 = .ok (.iload_n 1, 1) := dk_27 (byr_X9_years_2 (j := 0) rfl)
theorem dX9_years_33 : decode cX9_years 33 = .ok (.imul, 1) := dk_104 (byr_X9_years_2 (j := 1) rfl)
theorem dX9_years_34 : decode cX9_years 34 = .ok (.istore_n 3, 1) := dk_62 (byr_X9_years_2 (j := 2) rfl)
theorem dX9_years_35 : decode cX9_years 35 = .ok (.iconst 2, 1) := dk_5 (byr_X9_years_2 (j := 3) rfl)
theorem dX9_years_36 : decode cX9_years 36 = .ok (.iload_n 2, 1) := dk_28 (byr_X9_years_2 (j := 4) rfl)
theorem dX9_years_37 : decode cX9_years 37 = .ok (.imul, 1) := dk_104 (byr_X9_years_2 (j := 5) rfl)
theorem dX9_years_38 : decode cX9_years 38 = .ok (.iconst 2, 1) := dk_5 (byr_X9_years_2 (j := 6) rfl)
theorem dX9_years_39 : decode cX9_years 39 = .ok (.iadd, 1) := dk_96 (byr_X9_years_2 (j := 7) rfl)
theorem dX9_years_40 : decode cX9_years 40 = .ok (.aload_n 0, 1) := dk_42 (byr_X9_years_2 (j := 8) rfl)
theorem dX9_years_41 : decode cX9_years 41 = .ok (.getfield 37, 3) := dk_180 (byr_X9_years_2 (j := 9) rfl) (byr_X9_years_2 (j := 10) rfl) (byr_X9_years_2 (j := 11) rfl) (by decide)
theorem dX9_years_44 : decode cX9_years 44 = .ok (.iload_n 1, 1) := dk_27 (byr_X9_years_2 (j := 12) rfl)
theorem dX9_years_45 : decode cX9_years 45 = .ok (.iaload, 1) := dk_46 (byr_X9_years_2 (j := 13) rfl)
theorem dX9_years_46 : decode cX9_years 46 = .ok (.if_icmp .gt 64, 3) := dk_163 (byr_X9_years_2 (j := 14) rfl) (byr_X9_years_2 (j := 15) rfl) (byr_X9_years_3 (j := 0) rfl) (by decide)
theorem dX9_years_49 : decode cX9_years 49 = .ok (.aload_n 0, 1) := dk_42 (byr_X9_years_3 (j := 1) rfl)
theorem dX9_years_50 : decode cX9_years 50 = .ok (.getfield 7, 3) := dk_180 (byr_X9_years_3 (j := 2) rfl) (byr_X9_years_3 (j := 3) rfl) (byr_X9_years_3 (j := 4) rfl) (by decide)
theorem dX9_years_53 : decode cX9_years 53 = .ok (.bipush 11, 2) := dk_16 (byr_X9_years_3 (j := 5) rfl) (byr_X9_years_3 (j := 6) rfl) (by decide)
theorem dX9_years_55 : decode cX9_years 55 = .ok (.iaload, 1) := dk_46 (byr_X9_years_3 (j := 7) rfl)
theorem dX9_years_56 : decode cX9_years 56 = .ok (.sipush 9999, 3) := dk_17 (byr_X9_years_3 (j := 8) rfl) (byr_X9_years_3 (j := 9) rfl) (byr_X9_years_3 (j := 10) rfl) (by decide)
theorem dX9_years_59 : decode cX9_years 59 = .ok (.if_icmp .ge 51, 3) := dk_162 (byr_X9_years_3 (j := 11) rfl) (byr_X9_years_3 (j := 12) rfl) (byr_X9_years_3 (j := 13) rfl) (by decide)
theorem dX9_years_62 : decode cX9_years 62 = .ok (.aload_n 0, 1) := dk_42 (byr_X9_years_3 (j := 14) rfl)
theorem dX9_years_63 : decode cX9_years 63 = .ok (.aload_n 0, 1) := dk_42 (byr_X9_years_3 (j := 15) rfl)
theorem dX9_years_64 : decode cX9_years 64 = .ok (.getfield 40, 3) := dk_180 (byr_X9_years_4 (j := 0) rfl) (byr_X9_years_4 (j := 1) rfl) (byr_X9_years_4 (j := 2) rfl) (by decide)
theorem dX9_years_67 : decode cX9_years 67 = .ok (.iload_n 3, 1) := dk_29 (byr_X9_years_4 (j := 3) rfl)
theorem dX9_years_68 : decode cX9_years 68 = .ok (.iaload, 1) := dk_46 (byr_X9_years_4 (j := 4) rfl)
theorem dX9_years_69 : decode cX9_years 69 = .ok (.aload_n 0, 1) := dk_42 (byr_X9_years_4 (j := 5) rfl)
theorem dX9_years_70 : decode cX9_years 70 = .ok (.getfield 40, 3) := dk_180 (byr_X9_years_4 (j := 6) rfl) (byr_X9_years_4 (j := 7) rfl) (byr_X9_years_4 (j := 8) rfl) (by decide)
theorem dX9_years_73 : decode cX9_years 73 = .ok (.iload_n 3, 1) := dk_29 (byr_X9_years_4 (j := 9) rfl)
theorem dX9_years_74 : decode cX9_years 74 = .ok (.iconst 1, 1) := dk_4 (byr_X9_years_4 (j := 10) rfl)
theorem dX9_years_75 : decode cX9_years 75 = .ok (.iadd, 1) := dk_96 (byr_X9_years_4 (j := 11) rfl)
theorem dX9_years_76 : decode cX9_years 76 = .ok (.iaload, 1) := dk_46 (byr_X9_years_4 (j := 12) rfl)
theorem dX9_years_77 : decode cX9_years 77 = .ok (.invokevirtual 207, 3) := dk_182 (byr_X9_years_4 (j := 13) rfl) (byr_X9_years_4 (j := 14) rfl) (byr_X9_years_4 (j := 15) rfl) (by decide)
theorem dX9_years_80 : decode cX9_years 80 = .ok (.ifCond .eq 30, 3) := dk_153 (byr_X9_years_5 (j := 0) rfl) (byr_X9_years_5 (j := 1) rfl) (byr_X9_years_5 (j := 2) rfl) (by decide)
theorem dX9_years_83 : decode cX9_years 83 = .ok (.aload_n 0, 1) := dk_42 (byr_X9_years_5 (j := 3) rfl)
theorem dX9_years_84 : decode cX9_years 84 = .ok (.aload_n 0, 1) := dk_42 (byr_X9_years_5 (j := 4) rfl)
theorem dX9_years_85 : decode cX9_years 85 = .ok (.getfield 40, 3) := dk_180 (byr_X9_years_5 (j := 5) rfl) (byr_X9_years_5 (j := 6) rfl) (byr_X9_years_5 (j := 7) rfl) (by decide)
theorem dX9_years_88 : decode cX9_years 88 = .ok (.iload_n 3, 1) := dk_29 (byr_X9_years_5 (j := 8) rfl)
theorem dX9_years_89 : decode cX9_years 89 = .ok (.iaload, 1) := dk_46 (byr_X9_years_5 (j := 9) rfl)
theorem dX9_years_90 : decode cX9_years 90 = .ok (.aload_n 0, 1) := dk_42 (byr_X9_years_5 (j := 10) rfl)
theorem dX9_years_91 : decode cX9_years 91 = .ok (.getfield 40, 3) := dk_180 (byr_X9_years_5 (j := 11) rfl) (byr_X9_years_5 (j := 12) rfl) (byr_X9_years_5 (j := 13) rfl) (by decide)
theorem dX9_years_94 : decode cX9_years 94 = .ok (.iload_n 3, 1) := dk_29 (byr_X9_years_5 (j := 14) rfl)
theorem dX9_years_95 : decode cX9_years 95 = .ok (.iconst 1, 1) := dk_4 (byr_X9_years_5 (j := 15) rfl)
theorem dX9_years_96 : decode cX9_years 96 = .ok (.iadd, 1) := dk_96 (byr_X9_years_6 (j := 0) rfl)
theorem dX9_years_97 : decode cX9_years 97 = .ok (.iaload, 1) := dk_46 (byr_X9_years_6 (j := 1) rfl)
theorem dX9_years_98 : decode cX9_years 98 = .ok (.invokevirtual 221, 3) := dk_182 (byr_X9_years_6 (j := 2) rfl) (byr_X9_years_6 (j := 3) rfl) (byr_X9_years_6 (j := 4) rfl) (by decide)
theorem dX9_years_101 : decode cX9_years 101 = .ok (.iinc 2 1, 3) := dk_132 (byr_X9_years_6 (j := 5) rfl) (byr_X9_years_6 (j := 6) rfl) (byr_X9_years_6 (j := 7) rfl) (by decide)
theorem dX9_years_104 : decode cX9_years 104 = .ok (.iinc 3 2, 3) := dk_132 (byr_X9_years_6 (j := 8) rfl) (byr_X9_years_6 (j := 9) rfl) (byr_X9_years_6 (j := 10) rfl) (by decide)
theorem dX9_years_107 : decode cX9_years 107 = .ok (.goto (-72), 3) := dk_167 (byr_X9_years_6 (j := 11) rfl) (byr_X9_years_6 (j := 12) rfl) (byr_X9_years_6 (j := 13) rfl) (by decide)
theorem dX9_years_110 : decode cX9_years 110 = .ok (.iload_n 2, 1) := dk_28 (byr_X9_years_6 (j := 14) rfl)
theorem dX9_years_111 : decode cX9_years 111 = .ok (.ireturn, 1) := dk_172 (byr_X9_years_6 (j := 15) rfl)
set_option maxHeartbeats 4000000 in
set_option maxRecDepth 100000 in
theorem c_X9_years (l : Launch) (G : GT) (σ : Sto) (a1 : Int32) (r : (Int32 × Sto)) (h : f_X9_years σ a1 = some r) : MW l G (9) (231) 0 0 yX9_years cX9_years 4 (Option.some Jvm.ClassFile.FieldType.int) [.ref (gad G 81), .int a1] (wl G σ) (some (.int r.1)) (wl G r.2) := by
  refine mw_of RX9 (fiI G) [(0, .ref (gad G 81)), (1, .int a1)] (by decide +kernel) rfl (Nat.le_of_ble_eq_true rfl) rfl h rfl (fun p e s m args below meth c X hr hnm => ?_)
  have J35 : ∀ (v1 : Int32)  (n : Nat) (v2 : Int32) (v3 : Int32) (σ : Sto), Sm p l e { frames := 9, cells := 0, slots := 0, locals := 231 } s m args below meth c G 4 (Qm below args s G 0 0 (fiI G)) 0 0 (wl G σ) 35 [(0, .ref (gad G 81)), (1, .int v1), (2, .int v2), (3, .int v3)] [] (f_X9_years_L35  v1 n v2 v3 σ) := by
    intro v1 n
    induction n with
    | zero => intro v2 v3 σ; rw [f_X9_years_L35]; exact sm_none
    | succ n ihl =>
      intro v2 v3 σ
      rw [f_X9_years_L35]
      refine sm_iconst X 36 (2) dX9_years_35 rfl rfl ?_
      refine sm_iload_n X 37 2 dX9_years_36 rfl rfl rfl ?_
      refine sm_imul X 38 dX9_years_37 rfl ?_
      refine sm_iconst X 39 (2) dX9_years_38 rfl rfl ?_
      refine sm_iadd X 40 dX9_years_39 rfl ?_
      refine sm_aload_n X 41 0 dX9_years_40 rfl rfl rfl ?_
      refine sm_getf X 44 91 rfl fd_9_21 rfl dX9_years_41 rfl q_903 ?_
      refine sm_iload_n X 45 1 dX9_years_44 rfl rfl rfl ?_
      refine sm_iald X 46 rfl dX9_years_45 rfl (fun r45 e45 => ?_)
      clear e45
      refine sm_icmp_gt X 49 110 dX9_years_46 rfl (by decide) (fun h46 => ?_) (fun h46 => ?_)
      · refine sm_iload_n X 111 2 dX9_years_110 rfl rfl rfl ?_
        exact sm_iret X hr dX9_years_111 rfl
      · refine sm_aload_n X 50 0 dX9_years_49 rfl rfl rfl ?_
        refine sm_getf X 53 82 rfl fd_9_0 rfl dX9_years_50 rfl q_882 ?_
        refine sm_bipush X 55 (11) dX9_years_53 rfl rfl ?_
        refine sm_iald X 56 rfl dX9_years_55 rfl (fun r55 e55 => ?_)
        clear e55
        refine sm_sipush X 59 (9999) dX9_years_56 rfl rfl ?_
        refine sm_icmp_ge X 62 110 dX9_years_59 rfl (by decide) (fun h59 => ?_) (fun h59 => ?_)
        · refine sm_iload_n X 111 2 dX9_years_110 rfl rfl rfl ?_
          exact sm_iret X hr dX9_years_111 rfl
        · refine sm_aload_n X 63 0 dX9_years_62 rfl rfl rfl ?_
          refine sm_aload_n X 64 0 dX9_years_63 rfl rfl rfl ?_
          refine sm_getf X 67 92 rfl fd_9_22 rfl dX9_years_64 rfl q_904 ?_
          refine sm_iload_n X 68 3 dX9_years_67 rfl rfl rfl ?_
          refine sm_iald X 69 rfl dX9_years_68 rfl (fun r68 e68 => ?_)
          clear e68
          refine sm_aload_n X 70 0 dX9_years_69 rfl rfl rfl ?_
          refine sm_getf X 73 92 rfl fd_9_22 rfl dX9_years_70 rfl q_904 ?_
          refine sm_iload_n X 74 3 dX9_years_73 rfl rfl rfl ?_
          refine sm_iconst X 75 (1) dX9_years_74 rfl rfl ?_
          refine sm_iadd X 76 dX9_years_75 rfl ?_
          refine sm_iald X 77 rfl dX9_years_76 rfl (fun r76 e76 => ?_)
          clear e76
          refine sm_bind (fun r77 h77 => ?_)
          refine sm_callV0 X 80 [.int r68, .int r76] [] [.int (b2i r77)] (c_X9_areUnlike l G σ r68 r76 r77 h77) cw_X9_areUnlike q_1147 qs_49 q_1145 rfl (by decide) rfl rfl rfl rfl rfl (Nat.le_of_ble_eq_true rfl) ⟨Nat.le_of_ble_eq_true rfl, Nat.le_of_ble_eq_true rfl⟩ ⟨Nat.le_refl _, Nat.le_refl _⟩ dX9_years_77 rfl ?_
          refine sm_ifz_eq X 83 110 dX9_years_80 rfl (by decide) (fun h80 => ?_) (fun h80 => ?_)
          · refine sm_aload_n X 84 0 dX9_years_83 rfl rfl rfl ?_
            refine sm_aload_n X 85 0 dX9_years_84 rfl rfl rfl ?_
            refine sm_getf X 88 92 rfl fd_9_22 rfl dX9_years_85 rfl q_904 ?_
            refine sm_iload_n X 89 3 dX9_years_88 rfl rfl rfl ?_
            refine sm_iald X 90 rfl dX9_years_89 rfl (fun r89 e89 => ?_)
            clear e89
            refine sm_aload_n X 91 0 dX9_years_90 rfl rfl rfl ?_
            refine sm_getf X 94 92 rfl fd_9_22 rfl dX9_years_91 rfl q_904 ?_
            refine sm_iload_n X 95 3 dX9_years_94 rfl rfl rfl ?_
            refine sm_iconst X 96 (1) dX9_years_95 rfl rfl ?_
            refine sm_iadd X 97 dX9_years_96 rfl ?_
            refine sm_iald X 98 rfl dX9_years_97 rfl (fun r97 e97 => ?_)
            clear e97
            refine sm_bind (fun r98 h98 => ?_)
            refine sm_callV0 X 101 [.int r89, .int r97] [] [] (c_X9_goesBy l G σ r89 r97 r98 h98) cw_X9_goesBy q_1169 qs_53 q_1167 rfl (by decide) rfl rfl rfl rfl rfl (Nat.le_of_ble_eq_true rfl) ⟨Nat.le_of_ble_eq_true rfl, Nat.le_of_ble_eq_true rfl⟩ ⟨Nat.le_refl _, Nat.le_refl _⟩ dX9_years_98 rfl ?_
            refine sm_iinc X 104 2 (1 : Int32) [(2, .int (v2 + (1 : Int32))), (0, .ref (gad G 81)), (1, .int v1), (3, .int v3)] dX9_years_101 rfl rfl rfl (by decide) rfl ?_
            refine sm_iinc X 107 3 (2 : Int32) [(3, .int (v3 + (2 : Int32))), (2, .int (v2 + (1 : Int32))), (0, .ref (gad G 81)), (1, .int v1)] dX9_years_104 rfl rfl rfl (by decide) rfl ?_
            refine sm_goto X 35 dX9_years_107 (by decide) ?_
            exact sm_sub [2, 3, 1, 0] rfl (ihl (v2 + (1 : Int32)) (v3 + (2 : Int32)) r98)
          · refine sm_iload_n X 111 2 dX9_years_110 rfl rfl rfl ?_
            exact sm_iret X hr dX9_years_111 rfl
  unfold f_X9_years
  refine sm_iload_n X 1 1 dX9_years_0 rfl rfl rfl ?_
  refine sm_bind (fun r1 h1 => ?_)
  refine sm_callS0 X 4 [.int a1] [] [.int (b2i r1)] (c_X9_isSheet l G σ a1 r1 h1) cw_X9_isSheet q_1271 q_1270 rfl rfl rfl (Nat.le_of_ble_eq_true rfl) ⟨Nat.le_of_ble_eq_true rfl, Nat.le_of_ble_eq_true rfl⟩ ⟨Nat.le_refl _, Nat.le_refl _⟩ dX9_years_1 rfl ?_
  refine sm_ifz_ne X 7 13 dX9_years_4 rfl (by decide) (fun h4 => ?_) (fun h4 => ?_)
  · refine sm_aload_n X 14 0 dX9_years_13 rfl rfl rfl ?_
    refine sm_getf X 17 90 rfl fd_9_20 rfl dX9_years_14 rfl q_902 ?_
    refine sm_iload_n X 18 1 dX9_years_17 rfl rfl rfl ?_
    refine sm_iald X 19 rfl dX9_years_18 rfl (fun r18 e18 => ?_)
    clear e18
    refine sm_if_ne X 22 28 dX9_years_19 rfl (by decide) (fun h19 => ?_) (fun h19 => ?_)
    · refine sm_aload_n X 23 0 dX9_years_22 rfl rfl rfl ?_
      refine sm_iconst X 24 (2) dX9_years_23 rfl rfl ?_
      refine sm_bind (fun r24 h24 => ?_)
      refine sm_callV0 X 27 [.int 2] [] [.int r24.1] (c_X9_finds l G σ (2 : Int32) r24 h24) cw_X9_finds q_965 qs_26 q_963 rfl (by decide) rfl rfl rfl rfl rfl (Nat.le_of_ble_eq_true rfl) ⟨Nat.le_of_ble_eq_true rfl, Nat.le_of_ble_eq_true rfl⟩ ⟨Nat.le_refl _, Nat.le_refl _⟩ dX9_years_24 rfl ?_
      exact sm_iret X hr dX9_years_27 rfl
    · refine sm_iconst X 29 (0) dX9_years_28 rfl rfl ?_
      refine sm_istore_n X 30 [(2, .int 0), (0, .ref (gad G 81)), (1, .int a1)] dX9_years_29 rfl rfl (by decide) rfl ?_
      refine sm_bipush X 32 (40) dX9_years_30 rfl rfl ?_
      refine sm_iload_n X 33 2 dX9_years_32 rfl rfl rfl ?_
      refine sm_imul X 34 dX9_years_33 rfl ?_
      refine sm_istore_n X 35 [(3, .int ((40 : Int32) * a1)), (2, .int 0), (0, .ref (gad G 81)), (1, .int a1)] dX9_years_34 rfl rfl (by decide) rfl ?_
      exact sm_sub [2, 3, 1, 0] rfl (J35 a1  FU (0 : Int32) ((40 : Int32) * a1) σ)
  · refine sm_aload_n X 8 0 dX9_years_7 rfl rfl rfl ?_
    refine sm_iconst X 9 (1) dX9_years_8 rfl rfl ?_
    refine sm_bind (fun r9 h9 => ?_)
    refine sm_callV0 X 12 [.int 1] [] [.int r9.1] (c_X9_finds l G σ (1 : Int32) r9 h9) cw_X9_finds q_965 qs_26 q_963 rfl (by decide) rfl rfl rfl rfl rfl (Nat.le_of_ble_eq_true rfl) ⟨Nat.le_of_ble_eq_true rfl, Nat.le_of_ble_eq_true rfl⟩ ⟨Nat.le_refl _, Nat.le_refl _⟩ dX9_years_9 rfl ?_
    exact sm_iret X hr dX9_years_12 rfl
def by_X9_judge_0 : List Nat := [27, 184, 1, 20, 153, 0, 11, 42, 28, 182, 0, 169, 154, 0, 9, 42]
def by_X9_judge_1 : List Nat := [4, 182, 0, 126, 172, 42, 180, 0, 34, 27, 46, 154, 0, 9, 42, 5]
def by_X9_judge_2 : List Nat := [182, 0, 126, 172, 42, 28, 5, 182, 0, 172, 154, 0, 7, 3, 167, 0]
def by_X9_judge_3 : List Nat := [6, 17, 4, 176, 62, 3, 54, 4, 21, 4, 42, 180, 0, 37, 27, 46]
def by_X9_judge_4 : List Nat := [162, 0, 34, 42, 180, 0, 40, 16, 40, 27, 104, 21, 4, 96, 46, 29]
def by_X9_judge_5 : List Nat := [160, 0, 18, 42, 28, 29, 21, 4, 182, 0, 198, 62, 132, 4, 1, 167]
def by_X9_judge_z : List Nat := [255, 217, 21, 4, 172]
def by_X9_judge : List (List Nat) := [by_X9_judge_0, by_X9_judge_1, by_X9_judge_2, by_X9_judge_3, by_X9_judge_4, by_X9_judge_5]
set_option maxRecDepth 100000 in
theorem byo_X9_judge : cX9_judge.data.toList.map UInt8.toNat = by_X9_judge.flatten ++ by_X9_judge_z := by decide +kernel
theorem byl_X9_judge : by_X9_judge.all (fun r => r.length == 16) = true := by decide +kernel
theorem byr_X9_judge_0 {j v : Nat} (h : by_X9_judge_0[j]? = some v) : RD cX9_judge (0 + j) v := rd_16 byo_X9_judge byl_X9_judge 0 rfl h
theorem byr_X9_judge_1 {j v : Nat} (h : by_X9_judge_1[j]? = some v) : RD cX9_judge (16 + j) v := rd_16 byo_X9_judge byl_X9_judge 1 rfl h
theorem byr_X9_judge_2 {j v : Nat} (h : by_X9_judge_2[j]? = some v) : RD cX9_judge (32 + j) v := rd_16 byo_X9_judge byl_X9_judge 2 rfl h
theorem byr_X9_judge_3 {j v : Nat} (h : by_X9_judge_3[j]? = some v) : RD cX9_judge (48 + j) v := rd_16 byo_X9_judge byl_X9_judge 3 rfl h
theorem byr_X9_judge_4 {j v : Nat} (h : by_X9_judge_4[j]? = some v) : RD cX9_judge (64 + j) v := rd_16 byo_X9_judge byl_X9_judge 4 rfl h
theorem byr_X9_judge_5 {j v : Nat} (h : by_X9_judge_5[j]? = some v) : RD cX9_judge (80 + j) v := rd_16 byo_X9_judge byl_X9_judge 5 rfl h
theorem byr_X9_judge_6 {j v : Nat} (h : by_X9_judge_z[j]? = some v) : RD cX9_judge (96 + j) v := rd_z byo_X9_judge byl_X9_judge 6 rfl h
theorem dX9_judge_0 : decode cX9_judge 0 = .ok (.iload_n 1, 1) := dk_27 (byr_X9_judge_0 (j := 0) rfl)
theorem dX9_judge_1 : decode cX9_judge 1 = .ok (.invokestatic 276, 3) := dk_184 (byr_X9_judge_0 (j := 1) rfl) (byr_X9_judge_0 (j := 2) rfl) (byr_X9_judge_0 (j := 3) rfl) (by decide)
theorem dX9_judge_4 : decode cX9_judge 4 = .ok (.ifCond .eq 11, 3) := dk_153 (byr_X9_judge_0 (j := 4) rfl) (byr_X9_judge_0 (j := 5) rfl) (byr_X9_judge_0 (j := 6) rfl) (by decide)
theorem dX9_judge_7 : decode cX9_judge 7 = .ok (.aload_n 0, 1) := dk_42 (byr_X9_judge_0 (j := 7) rfl)
theorem dX9_judge_8 : decode cX9_judge 8 = .ok (.iload_n 2, 1) := dk_28 (byr_X9_judge_0 (j := 8) rfl)
theorem dX9_judge_9 : decode cX9_judge 9 = .ok (.invokevirtual 169, 3) := dk_182 (byr_X9_judge_0 (j := 9) rfl) (byr_X9_judge_0 (j := 10) rfl) (byr_X9_judge_0 (j := 11) rfl) (by decide)
theorem dX9_judge_12 : decode cX9_judge 12 = .ok (.ifCond .ne 9, 3) := dk_154 (byr_X9_judge_0 (j := 12) rfl) (byr_X9_judge_0 (j := 13) rfl) (byr_X9_judge_0 (j := 14) rfl) (by decide)
theorem dX9_judge_15 : decode cX9_judge 15 = .ok (.aload_n 0, 1) := dk_42 (byr_X9_judge_0 (j := 15) rfl)
theorem dX9_judge_16 : decode cX9_judge 16 = .ok (.iconst 1, 1) := dk_4 (byr_X9_judge_1 (j := 0) rfl)
theorem dX9_judge_17 : decode cX9_judge 17 = .ok (.invokevirtual 126, 3) := dk_182 (byr_X9_judge_1 (j := 1) rfl) (byr_X9_judge_1 (j := 2) rfl) (byr_X9_judge_1 (j := 3) rfl) (by decide)
theorem dX9_judge_20 : decode cX9_judge 20 = .ok (.ireturn, 1) := dk_172 (byr_X9_judge_1 (j := 4) rfl)
theorem dX9_judge_21 : decode cX9_judge 21 = .ok (.aload_n 0, 1) := dk_42 (byr_X9_judge_1 (j := 5) rfl)
theorem dX9_judge_22 : decode cX9_judge 22 = .ok (.getfield 34, 3) := dk_180 (byr_X9_judge_1 (j := 6) rfl) (byr_X9_judge_1 (j := 7) rfl) (byr_X9_judge_1 (j := 8) rfl) (by decide)
theorem dX9_judge_25 : decode cX9_judge 25 = .ok (.iload_n 1, 1) := dk_27 (byr_X9_judge_1 (j := 9) rfl)
theorem dX9_judge_26 : decode cX9_judge 26 = .ok (.iaload, 1) := dk_46 (byr_X9_judge_1 (j := 10) rfl)
theorem dX9_judge_27 : decode cX9_judge 27 = .ok (.ifCond .ne 9, 3) := dk_154 (byr_X9_judge_1 (j := 11) rfl) (byr_X9_judge_1 (j := 12) rfl) (byr_X9_judge_1 (j := 13) rfl) (by decide)
theorem dX9_judge_30 : decode cX9_judge 30 = .ok (.aload_n 0, 1) := dk_42 (byr_X9_judge_1 (j := 14) rfl)
theorem dX9_judge_31 : decode cX9_judge 31 = .ok (.iconst 2, 1) := dk_5 (byr_X9_judge_1 (j := 15) rfl)
theorem dX9_judge_32 : decode cX9_judge 32 = .ok (.invokevirtual 126, 3) := dk_182 (byr_X9_judge_2 (j := 0) rfl) (byr_X9_judge_2 (j := 1) rfl) (byr_X9_judge_2 (j := 2) rfl) (by decide)
theorem dX9_judge_35 : decode cX9_judge 35 = .ok (.ireturn, 1) := dk_172 (byr_X9_judge_2 (j := 3) rfl)
theorem dX9_judge_36 : decode cX9_judge 36 = .ok (.aload_n 0, 1) := dk_42 (byr_X9_judge_2 (j := 4) rfl)
theorem dX9_judge_37 : decode cX9_judge 37 = .ok (.iload_n 2, 1) := dk_28 (byr_X9_judge_2 (j := 5) rfl)
theorem dX9_judge_38 : decode cX9_judge 38 = .ok (.iconst 2, 1) := dk_5 (byr_X9_judge_2 (j := 6) rfl)
theorem dX9_judge_39 : decode cX9_judge 39 = .ok (.invokevirtual 172, 3) := dk_182 (byr_X9_judge_2 (j := 7) rfl) (byr_X9_judge_2 (j := 8) rfl) (byr_X9_judge_2 (j := 9) rfl) (by decide)
theorem dX9_judge_42 : decode cX9_judge 42 = .ok (.ifCond .ne 7, 3) := dk_154 (byr_X9_judge_2 (j := 10) rfl) (byr_X9_judge_2 (j := 11) rfl) (byr_X9_judge_2 (j := 12) rfl) (by decide)
theorem dX9_judge_45 : decode cX9_judge 45 = .ok (.iconst 0, 1) := dk_3 (byr_X9_judge_2 (j := 13) rfl)
theorem dX9_judge_46 : decode cX9_judge 46 = .ok (.goto 6, 3) := dk_167 (byr_X9_judge_2 (j := 14) rfl) (byr_X9_judge_2 (j := 15) rfl) (byr_X9_judge_3 (j := 0) rfl) (by decide)
theorem dX9_judge_49 : decode cX9_judge 49 = .ok (.sipush 1200, 3) := dk_17 (byr_X9_judge_3 (j := 1) rfl) (byr_X9_judge_3 (j := 2) rfl) (byr_X9_judge_3 (j := 3) rfl) (by decide)
theorem dX9_judge_52 : decode cX9_judge 52 = .ok (.istore_n 3, 1) := dk_62 (byr_X9_judge_3 (j := 4) rfl)
theorem dX9_judge_53 : decode cX9_judge 53 = .ok (.iconst 0, 1) := dk_3 (byr_X9_judge_3 (j := 5) rfl)
theorem dX9_judge_54 : decode cX9_judge 54 = .ok (.istore 4, 2) := dk_54 (byr_X9_judge_3 (j := 6) rfl) (byr_X9_judge_3 (j := 7) rfl)
theorem dX9_judge_56 : decode cX9_judge 56 = .ok (.iload 4, 2) := dk_21 (byr_X9_judge_3 (j := 8) rfl) (byr_X9_judge_3 (j := 9) rfl)
theorem dX9_judge_58 : decode cX9_judge 58 = .ok (.aload_n 0, 1) := dk_42 (byr_X9_judge_3 (j := 10) rfl)
theorem dX9_judge_59 : decode cX9_judge 59 = .ok (.getfield 37, 3) := dk_180 (byr_X9_judge_3 (j := 11) rfl) (byr_X9_judge_3 (j := 12) rfl) (byr_X9_judge_3 (j := 13) rfl) (by decide)
theorem dX9_judge_62 : decode cX9_judge 62 = .ok (.iload_n 1, 1) := dk_27 (byr_X9_judge_3 (j := 14) rfl)
theorem dX9_judge_63 : decode cX9_judge 63 = .ok (.iaload, 1) := dk_46 (byr_X9_judge_3 (j := 15) rfl)
theorem dX9_judge_64 : decode cX9_judge 64 = .ok (.if_icmp .ge 34, 3) := dk_162 (byr_X9_judge_4 (j := 0) rfl) (byr_X9_judge_4 (j := 1) rfl) (byr_X9_judge_4 (j := 2) rfl) (by decide)
theorem dX9_judge_67 : decode cX9_judge 67 = .ok (.aload_n 0, 1) := dk_42 (byr_X9_judge_4 (j := 3) rfl)
theorem dX9_judge_68 : decode cX9_judge 68 = .ok (.getfield 40, 3) := dk_180 (byr_X9_judge_4 (j := 4) rfl) (byr_X9_judge_4 (j := 5) rfl) (byr_X9_judge_4 (j := 6) rfl) (by decide)
theorem dX9_judge_71 : decode cX9_judge 71 = .ok (.bipush 40, 2) := dk_16 (byr_X9_judge_4 (j := 7) rfl) (byr_X9_judge_4 (j := 8) rfl) (by decide)
theorem dX9_judge_73 : decode cX9_judge 73 = .ok (.iload_n 1, 1) := dk_27 (byr_X9_judge_4 (j := 9) rfl)
theorem dX9_judge_74 : decode cX9_judge 74 = .ok (.imul, 1) := dk_104 (byr_X9_judge_4 (j := 10) rfl)
theorem dX9_judge_75 : decode cX9_judge 75 = .ok (.iload 4, 2) := dk_21 (byr_X9_judge_4 (j := 11) rfl) (byr_X9_judge_4 (j := 12) rfl)
theorem dX9_judge_77 : decode cX9_judge 77 = .ok (.iadd, 1) := dk_96 (byr_X9_judge_4 (j := 13) rfl)
theorem dX9_judge_78 : decode cX9_judge 78 = .ok (.iaload, 1) := dk_46 (byr_X9_judge_4 (j := 14) rfl)
theorem dX9_judge_79 : decode cX9_judge 79 = .ok (.iload_n 3, 1) := dk_29 (byr_X9_judge_4 (j := 15) rfl)
theorem dX9_judge_80 : decode cX9_judge 80 = .ok (.if_icmp .ne 18, 3) := dk_160 (byr_X9_judge_5 (j := 0) rfl) (byr_X9_judge_5 (j := 1) rfl) (byr_X9_judge_5 (j := 2) rfl) (by decide)
theorem dX9_judge_83 : decode cX9_judge 83 = .ok (.aload_n 0, 1) := dk_42 (byr_X9_judge_5 (j := 3) rfl)
theorem dX9_judge_84 : decode cX9_judge 84 = .ok (.iload_n 2, 1) := dk_28 (byr_X9_judge_5 (j := 4) rfl)
theorem dX9_judge_85 : decode cX9_judge 85 = .ok (.iload_n 3, 1) := dk_29 (byr_X9_judge_5 (j := 5) rfl)
theorem dX9_judge_86 : decode cX9_judge 86 = .ok (.iload 4, 2) := dk_21 (byr_X9_judge_5 (j := 6) rfl) (byr_X9_judge_5 (j := 7) rfl)
theorem dX9_judge_88 : decode cX9_judge 88 = .ok (.invokevirtual 198, 3) := dk_182 (byr_X9_judge_5 (j := 8) rfl) (byr_X9_judge_5 (j := 9) rfl) (byr_X9_judge_5 (j := 10) rfl) (by decide)
theorem dX9_judge_91 : decode cX9_judge 91 = .ok (.istore_n 3, 1) := dk_62 (byr_X9_judge_5 (j := 11) rfl)
theorem dX9_judge_92 : decode cX9_judge 92 = .ok (.iinc 4 1, 3) := dk_132 (byr_X9_judge_5 (j := 12) rfl) (byr_X9_judge_5 (j := 13) rfl) (byr_X9_judge_5 (j := 14) rfl) (by decide)
theorem dX9_judge_95 : decode cX9_judge 95 = .ok (.goto (-39), 3) := dk_167 (byr_X9_judge_5 (j := 15) rfl) (byr_X9_judge_6 (j := 0) rfl) (byr_X9_judge_6 (j := 1) rfl) (by decide)
theorem dX9_judge_98 : decode cX9_judge 98 = .ok (.iload 4, 2) := dk_21 (byr_X9_judge_6 (j := 2) rfl) (byr_X9_judge_6 (j := 3) rfl)
theorem dX9_judge_100 : decode cX9_judge 100 = .ok (.ireturn, 1) := dk_172 (byr_X9_judge_6 (j := 4) rfl)
set_option maxHeartbeats 4000000 in
set_option maxRecDepth 100000 in
theorem c_X9_judge (l : Launch) (G : GT) (σ : Sto) (a1 : Int32) (a2 : Int32) (r : (Int32 × Sto)) (h : f_X9_judge σ a1 a2 = some r) : MW l G (7) (181) 0 0 yX9_judge cX9_judge 5 (Option.some Jvm.ClassFile.FieldType.int) [.ref (gad G 81), .int a1, .int a2] (wl G σ) (some (.int r.1)) (wl G r.2) := by
  refine mw_of RX9 (fiI G) [(0, .ref (gad G 81)), (1, .int a1), (2, .int a2)] (by decide +kernel) rfl (Nat.le_of_ble_eq_true rfl) rfl h rfl (fun p e s m args below meth c X hr hnm => ?_)
  have J56 : ∀ (v1 : Int32) (v2 : Int32)  (n : Nat) (v3 : Int32) (v4 : Int32) (σ : Sto), Sm p l e { frames := 7, cells := 0, slots := 0, locals := 181 } s m args below meth c G 5 (Qm below args s G 0 0 (fiI G)) 0 0 (wl G σ) 56 [(0, .ref (gad G 81)), (1, .int v1), (2, .int v2), (3, .int v3), (4, .int v4)] [] (f_X9_judge_L56  v1 v2 n v3 v4 σ) := by
    intro v1 v2 n
    induction n with
    | zero => intro v3 v4 σ; rw [f_X9_judge_L56]; exact sm_none
    | succ n ihl =>
      intro v3 v4 σ
      rw [f_X9_judge_L56]
      refine sm_iload X 58 4 dX9_judge_56 rfl rfl ?_
      refine sm_aload_n X 59 0 dX9_judge_58 rfl rfl rfl ?_
      refine sm_getf X 62 91 rfl fd_9_21 rfl dX9_judge_59 rfl q_903 ?_
      refine sm_iload_n X 63 1 dX9_judge_62 rfl rfl rfl ?_
      refine sm_iald X 64 rfl dX9_judge_63 rfl (fun r63 e63 => ?_)
      clear e63
      refine sm_icmp_ge X 67 98 dX9_judge_64 rfl (by decide) (fun h64 => ?_) (fun h64 => ?_)
      · refine sm_iload X 100 4 dX9_judge_98 rfl rfl ?_
        exact sm_iret X hr dX9_judge_100 rfl
      · refine sm_aload_n X 68 0 dX9_judge_67 rfl rfl rfl ?_
        refine sm_getf X 71 92 rfl fd_9_22 rfl dX9_judge_68 rfl q_904 ?_
        refine sm_bipush X 73 (40) dX9_judge_71 rfl rfl ?_
        refine sm_iload_n X 74 1 dX9_judge_73 rfl rfl rfl ?_
        refine sm_imul X 75 dX9_judge_74 rfl ?_
        refine sm_iload X 77 4 dX9_judge_75 rfl rfl ?_
        refine sm_iadd X 78 dX9_judge_77 rfl ?_
        refine sm_iald X 79 rfl dX9_judge_78 rfl (fun r78 e78 => ?_)
        clear e78
        refine sm_iload_n X 80 3 dX9_judge_79 rfl rfl rfl ?_
        refine sm_icmp_ne X 83 98 dX9_judge_80 rfl (by decide) (fun h80 => ?_) (fun h80 => ?_)
        · refine sm_aload_n X 84 0 dX9_judge_83 rfl rfl rfl ?_
          refine sm_iload_n X 85 2 dX9_judge_84 rfl rfl rfl ?_
          refine sm_iload_n X 86 3 dX9_judge_85 rfl rfl rfl ?_
          refine sm_iload X 88 4 dX9_judge_86 rfl rfl ?_
          refine sm_bind (fun r88 h88 => ?_)
          refine sm_callV0 X 91 [.int v2, .int v3, .int v4] [] [.int r88.1] (c_X9_goes l G σ v2 v3 v4 r88 h88) cw_X9_goes q_1132 qs_47 q_1130 rfl (by decide) rfl rfl rfl rfl rfl (Nat.le_of_ble_eq_true rfl) ⟨Nat.le_of_ble_eq_true rfl, Nat.le_of_ble_eq_true rfl⟩ ⟨Nat.le_refl _, Nat.le_refl _⟩ dX9_judge_88 rfl ?_
          refine sm_istore_n X 92 [(3, .int r88.1), (0, .ref (gad G 81)), (1, .int v1), (2, .int v2), (4, .int v4)] dX9_judge_91 rfl rfl (by decide) rfl ?_
          refine sm_iinc X 95 4 (1 : Int32) [(4, .int (v4 + (1 : Int32))), (3, .int r88.1), (0, .ref (gad G 81)), (1, .int v1), (2, .int v2)] dX9_judge_92 rfl rfl rfl (by decide) rfl ?_
          refine sm_goto X 56 dX9_judge_95 (by decide) ?_
          exact sm_sub [2, 3, 4, 1, 0] rfl (ihl r88.1 (v4 + (1 : Int32)) r88.2)
        · refine sm_iload X 100 4 dX9_judge_98 rfl rfl ?_
          exact sm_iret X hr dX9_judge_100 rfl
  have J52 : ∀ (v1 : Int32) (v2 : Int32) (vs0 : Int32)  (σ : Sto), Sm p l e { frames := 7, cells := 0, slots := 0, locals := 181 } s m args below meth c G 5 (Qm below args s G 0 0 (fiI G)) 0 0 (wl G σ) 52 [(0, .ref (gad G 81)), (1, .int v1), (2, .int v2)] [.int vs0] (f_X9_judge_L52  v1 v2 vs0 σ) := by
    intro v1 v2 vs0 σ
    rw [f_X9_judge_L52]
    refine sm_istore_n X 53 [(3, .int vs0), (0, .ref (gad G 81)), (1, .int v1), (2, .int v2)] dX9_judge_52 rfl rfl (by decide) rfl ?_
    refine sm_iconst X 54 (0) dX9_judge_53 rfl rfl ?_
    refine sm_istore X 56 [(4, .int 0), (3, .int vs0), (0, .ref (gad G 81)), (1, .int v1), (2, .int v2)] dX9_judge_54 rfl (by decide) rfl ?_
    exact sm_sub [2, 3, 4, 1, 0] rfl (J56 v1 v2  FU vs0 (0 : Int32) σ)
  unfold f_X9_judge
  refine sm_iload_n X 1 1 dX9_judge_0 rfl rfl rfl ?_
  refine sm_bind (fun r1 h1 => ?_)
  refine sm_callS0 X 4 [.int a1] [] [.int (b2i r1)] (c_X9_isSheet l G σ a1 r1 h1) cw_X9_isSheet q_1271 q_1270 rfl rfl rfl (Nat.le_of_ble_eq_true rfl) ⟨Nat.le_of_ble_eq_true rfl, Nat.le_of_ble_eq_true rfl⟩ ⟨Nat.le_refl _, Nat.le_refl _⟩ dX9_judge_1 rfl ?_
  refine sm_ifz_eq X 7 15 dX9_judge_4 rfl (by decide) (fun h4 => ?_) (fun h4 => ?_)
  · refine sm_aload_n X 8 0 dX9_judge_7 rfl rfl rfl ?_
    refine sm_iload_n X 9 2 dX9_judge_8 rfl rfl rfl ?_
    refine sm_bind (fun r9 h9 => ?_)
    refine sm_callV0 X 12 [.int a2] [] [.int (b2i r9)] (c_X9_isSwimmer l G σ a2 r9 h9) cw_X9_isSwimmer q_1086 qs_44 q_1084 rfl (by decide) rfl rfl rfl rfl rfl (Nat.le_of_ble_eq_true rfl) ⟨Nat.le_of_ble_eq_true rfl, Nat.le_of_ble_eq_true rfl⟩ ⟨Nat.le_refl _, Nat.le_refl _⟩ dX9_judge_9 rfl ?_
    refine sm_ifz_ne X 15 21 dX9_judge_12 rfl (by decide) (fun h12 => ?_) (fun h12 => ?_)
    · refine sm_aload_n X 22 0 dX9_judge_21 rfl rfl rfl ?_
      refine sm_getf X 25 90 rfl fd_9_20 rfl dX9_judge_22 rfl q_902 ?_
      refine sm_iload_n X 26 1 dX9_judge_25 rfl rfl rfl ?_
      refine sm_iald X 27 rfl dX9_judge_26 rfl (fun r26 e26 => ?_)
      clear e26
      refine sm_if_ne X 30 36 dX9_judge_27 rfl (by decide) (fun h27 => ?_) (fun h27 => ?_)
      · refine sm_aload_n X 31 0 dX9_judge_30 rfl rfl rfl ?_
        refine sm_iconst X 32 (2) dX9_judge_31 rfl rfl ?_
        refine sm_bind (fun r32 h32 => ?_)
        refine sm_callV0 X 35 [.int 2] [] [.int r32.1] (c_X9_finds l G σ (2 : Int32) r32 h32) cw_X9_finds q_965 qs_26 q_963 rfl (by decide) rfl rfl rfl rfl rfl (Nat.le_of_ble_eq_true rfl) ⟨Nat.le_of_ble_eq_true rfl, Nat.le_of_ble_eq_true rfl⟩ ⟨Nat.le_refl _, Nat.le_refl _⟩ dX9_judge_32 rfl ?_
        exact sm_iret X hr dX9_judge_35 rfl
      · refine sm_aload_n X 37 0 dX9_judge_36 rfl rfl rfl ?_
        refine sm_iload_n X 38 2 dX9_judge_37 rfl rfl rfl ?_
        refine sm_iconst X 39 (2) dX9_judge_38 rfl rfl ?_
        refine sm_bind (fun r39 h39 => ?_)
        refine sm_callV0 X 42 [.int a2, .int 2] [] [.int r39] (c_X9_of l G σ a2 (2 : Int32) r39 h39) cw_X9_of q_1090 qs_45 q_1088 rfl (by decide) rfl rfl rfl rfl rfl (Nat.le_of_ble_eq_true rfl) ⟨Nat.le_of_ble_eq_true rfl, Nat.le_of_ble_eq_true rfl⟩ ⟨Nat.le_refl _, Nat.le_refl _⟩ dX9_judge_39 rfl ?_
        refine sm_if_ne X 45 49 dX9_judge_42 rfl (by decide) (fun h42 => ?_) (fun h42 => ?_)
        · refine sm_iconst X 46 (0) dX9_judge_45 rfl rfl ?_
          refine sm_goto X 52 dX9_judge_46 (by decide) ?_
          exact sm_sub [0, 1, 2] rfl (J52 a1 a2 (0 : Int32)  σ)
        · refine sm_sipush X 52 (1200) dX9_judge_49 rfl rfl ?_
          exact sm_sub [0, 1, 2] rfl (J52 a1 a2 (1200 : Int32)  σ)
    · refine sm_aload_n X 16 0 dX9_judge_15 rfl rfl rfl ?_
      refine sm_iconst X 17 (1) dX9_judge_16 rfl rfl ?_
      refine sm_bind (fun r17 h17 => ?_)
      refine sm_callV0 X 20 [.int 1] [] [.int r17.1] (c_X9_finds l G σ (1 : Int32) r17 h17) cw_X9_finds q_965 qs_26 q_963 rfl (by decide) rfl rfl rfl rfl rfl (Nat.le_of_ble_eq_true rfl) ⟨Nat.le_of_ble_eq_true rfl, Nat.le_of_ble_eq_true rfl⟩ ⟨Nat.le_refl _, Nat.le_refl _⟩ dX9_judge_17 rfl ?_
      exact sm_iret X hr dX9_judge_20 rfl
  · refine sm_aload_n X 16 0 dX9_judge_15 rfl rfl rfl ?_
    refine sm_iconst X 17 (1) dX9_judge_16 rfl rfl ?_
    refine sm_bind (fun r17 h17 => ?_)
    refine sm_callV0 X 20 [.int 1] [] [.int r17.1] (c_X9_finds l G σ (1 : Int32) r17 h17) cw_X9_finds q_965 qs_26 q_963 rfl (by decide) rfl rfl rfl rfl rfl (Nat.le_of_ble_eq_true rfl) ⟨Nat.le_of_ble_eq_true rfl, Nat.le_of_ble_eq_true rfl⟩ ⟨Nat.le_refl _, Nat.le_refl _⟩ dX9_judge_17 rfl ?_
    exact sm_iret X hr dX9_judge_20 rfl
def by_X9_image_0 : List Nat := [42, 180, 0, 7, 42, 180, 0, 16, 184, 0, 231, 42, 89, 180, 1, 23]
def by_X9_image_z : List Nat := [4, 96, 181, 1, 23, 42, 180, 1, 23, 172]
def by_X9_image : List (List Nat) := [by_X9_image_0]
set_option maxRecDepth 100000 in
theorem byo_X9_image : cX9_image.data.toList.map UInt8.toNat = by_X9_image.flatten ++ by_X9_image_z := by decide +kernel
theorem byl_X9_image : by_X9_image.all (fun r => r.length == 16) = true := by decide +kernel
theorem byr_X9_image_0 {j v : Nat} (h : by_X9_image_0[j]? = some v) : RD cX9_image (0 + j) v := rd_16 byo_X9_image byl_X9_image 0 rfl h
theorem byr_X9_image_1 {j v : Nat} (h : by_X9_image_z[j]? = some v) : RD cX9_image (16 + j) v := rd_z byo_X9_image byl_X9_image 1 rfl h
theorem dX9_image_0 : decode cX9_image 0 = .ok (.aload_n 0, 1) := dk_42 (byr_X9_image_0 (j := 0) rfl)
theorem dX9_image_1 : decode cX9_image 1 = .ok (.getfield 7, 3) := dk_180 (byr_X9_image_0 (j := 1) rfl) (byr_X9_image_0 (j := 2) rfl) (byr_X9_image_0 (j := 3) rfl) (by decide)
theorem dX9_image_4 : decode cX9_image 4 = .ok (.aload_n 0, 1) := dk_42 (byr_X9_image_0 (j := 4) rfl)
theorem dX9_image_5 : decode cX9_image 5 = .ok (.getfield 16, 3) := dk_180 (byr_X9_image_0 (j := 5) rfl) (byr_X9_image_0 (j := 6) rfl) (byr_X9_image_0 (j := 7) rfl) (by decide)
theorem dX9_image_8 : decode cX9_image 8 = .ok (.invokestatic 231, 3) := dk_184 (byr_X9_image_0 (j := 8) rfl) (byr_X9_image_0 (j := 9) rfl) (byr_X9_image_0 (j := 10) rfl) (by decide)
theorem dX9_image_11 : decode cX9_image 11 = .ok (.aload_n 0, 1) := dk_42 (byr_X9_image_0 (j := 11) rfl)
theorem dX9_image_12 : decode cX9_image 12 = .ok (.dup, 1) := dk_89 (byr_X9_image_0 (j := 12) rfl)
theorem dX9_image_13 : decode cX9_image 13 = .ok (.getfield 279, 3) := dk_180 (byr_X9_image_0 (j := 13) rfl) (byr_X9_image_0 (j := 14) rfl) (byr_X9_image_0 (j := 15) rfl) (by decide)
theorem dX9_image_16 : decode cX9_image 16 = .ok (.iconst 1, 1) := dk_4 (byr_X9_image_1 (j := 0) rfl)
theorem dX9_image_17 : decode cX9_image 17 = .ok (.iadd, 1) := dk_96 (byr_X9_image_1 (j := 1) rfl)
theorem dX9_image_18 : decode cX9_image 18 = .ok (.putfield 279, 3) := dk_181 (byr_X9_image_1 (j := 2) rfl) (byr_X9_image_1 (j := 3) rfl) (byr_X9_image_1 (j := 4) rfl) (by decide)
theorem dX9_image_21 : decode cX9_image 21 = .ok (.aload_n 0, 1) := dk_42 (byr_X9_image_1 (j := 5) rfl)
theorem dX9_image_22 : decode cX9_image 22 = .ok (.getfield 279, 3) := dk_180 (byr_X9_image_1 (j := 6) rfl) (byr_X9_image_1 (j := 7) rfl) (byr_X9_image_1 (j := 8) rfl) (by decide)
theorem dX9_image_25 : decode cX9_image 25 = .ok (.ireturn, 1) := dk_172 (byr_X9_image_1 (j := 9) rfl)
set_option maxHeartbeats 4000000 in
set_option maxRecDepth 100000 in
theorem c_X9_image (l : Launch) (G : GT) (σ : Sto)  (r : (Int32 × Sto)) (h : f_X9_image σ  = some r) : MW l G (3) (86) 0 0 yX9_image cX9_image 1 (Option.some Jvm.ClassFile.FieldType.int) [.ref (gad G 81)] (wl G σ) (some (.int r.1)) (wl G r.2) := by
  refine mw_of RX9 (fiI G) [(0, .ref (gad G 81))] (by decide +kernel) rfl (Nat.le_of_ble_eq_true rfl) rfl h rfl (fun p e s m args below meth c X hr hnm => ?_)
  unfold f_X9_image
  refine sm_aload_n X 1 0 dX9_image_0 rfl rfl rfl ?_
  refine sm_getf X 4 82 rfl fd_9_0 rfl dX9_image_1 rfl q_882 ?_
  refine sm_aload_n X 5 0 dX9_image_4 rfl rfl rfl ?_
  refine sm_getf X 8 84 rfl fd_9_2 rfl dX9_image_5 rfl q_884 ?_
  refine sm_bind (fun r8 h8 => ?_)
  refine sm_callS0 X 11 [.ref (gad G 82), .ref (gad G 84)] [] [] (c_X9_copies l G σ 82 rfl 84 rfl r8 h8) cw_X9_copies q_1182 q_1181 rfl rfl rfl (Nat.le_of_ble_eq_true rfl) ⟨Nat.le_of_ble_eq_true rfl, Nat.le_of_ble_eq_true rfl⟩ ⟨Nat.le_refl _, Nat.le_refl _⟩ dX9_image_8 rfl ?_
  refine sm_aload_n X 12 0 dX9_image_11 rfl rfl rfl ?_
  refine sm_dup X 13 dX9_image_12 rfl rfl ?_
  refine sm_geti X 16 rfl fd_9_3 dX9_image_13 rfl q_885 ?_
  refine sm_iconst X 17 (1) dX9_image_16 rfl rfl ?_
  refine sm_iadd X 18 dX9_image_17 rfl ?_
  refine sm_puti X 21 .int rfl fd_9_3 (by decide) rfl rfl rfl dX9_image_18 rfl q_885 (fun σ18 e18 => ?_)
  clear e18
  refine sm_aload_n X 22 0 dX9_image_21 rfl rfl rfl ?_
  refine sm_geti X 25 rfl fd_9_3 dX9_image_22 rfl q_885 ?_
  exact sm_iret X hr dX9_image_25 rfl
def by_X9_restore_0 : List Nat := [42, 180, 1, 23, 154, 0, 9, 42, 5, 182, 0, 126, 172, 42, 180, 0]
def by_X9_restore_1 : List Nat := [16, 42, 180, 0, 7, 184, 0, 231, 42, 180, 0, 7, 16, 11, 46, 172]
def by_X9_restore_z : List Nat := []
def by_X9_restore : List (List Nat) := [by_X9_restore_0, by_X9_restore_1]
set_option maxRecDepth 100000 in
theorem byo_X9_restore : cX9_restore.data.toList.map UInt8.toNat = by_X9_restore.flatten ++ by_X9_restore_z := by decide +kernel
theorem byl_X9_restore : by_X9_restore.all (fun r => r.length == 16) = true := by decide +kernel
theorem byr_X9_restore_0 {j v : Nat} (h : by_X9_restore_0[j]? = some v) : RD cX9_restore (0 + j) v := rd_16 byo_X9_restore byl_X9_restore 0 rfl h
theorem byr_X9_restore_1 {j v : Nat} (h : by_X9_restore_1[j]? = some v) : RD cX9_restore (16 + j) v := rd_16 byo_X9_restore byl_X9_restore 1 rfl h
theorem byr_X9_restore_2 {j v : Nat} (h : by_X9_restore_z[j]? = some v) : RD cX9_restore (32 + j) v := rd_z byo_X9_restore byl_X9_restore 2 rfl h
theorem dX9_restore_0 : decode cX9_restore 0 = .ok (.aload_n 0, 1) := dk_42 (byr_X9_restore_0 (j := 0) rfl)
theorem dX9_restore_1 : decode cX9_restore 1 = .ok (.getfield 279, 3) := dk_180 (byr_X9_restore_0 (j := 1) rfl) (byr_X9_restore_0 (j := 2) rfl) (byr_X9_restore_0 (j := 3) rfl) (by decide)
theorem dX9_restore_4 : decode cX9_restore 4 = .ok (.ifCond .ne 9, 3) := dk_154 (byr_X9_restore_0 (j := 4) rfl) (byr_X9_restore_0 (j := 5) rfl) (byr_X9_restore_0 (j := 6) rfl) (by decide)
theorem dX9_restore_7 : decode cX9_restore 7 = .ok (.aload_n 0, 1) := dk_42 (byr_X9_restore_0 (j := 7) rfl)
theorem dX9_restore_8 : decode cX9_restore 8 = .ok (.iconst 2, 1) := dk_5 (byr_X9_restore_0 (j := 8) rfl)
theorem dX9_restore_9 : decode cX9_restore 9 = .ok (.invokevirtual 126, 3) := dk_182 (byr_X9_restore_0 (j := 9) rfl) (byr_X9_restore_0 (j := 10) rfl) (byr_X9_restore_0 (j := 11) rfl) (by decide)
theorem dX9_restore_12 : decode cX9_restore 12 = .ok (.ireturn, 1) := dk_172 (byr_X9_restore_0 (j := 12) rfl)
theorem dX9_restore_13 : decode cX9_restore 13 = .ok (.aload_n 0, 1) := dk_42 (byr_X9_restore_0 (j := 13) rfl)
theorem dX9_restore_14 : decode cX9_restore 14 = .ok (.getfield 16, 3) := dk_180 (byr_X9_restore_0 (j := 14) rfl) (byr_X9_restore_0 (j := 15) rfl) (byr_X9_restore_1 (j := 0) rfl) (by decide)
theorem dX9_restore_17 : decode cX9_restore 17 = .ok (.aload_n 0, 1) := dk_42 (byr_X9_restore_1 (j := 1) rfl)
theorem dX9_restore_18 : decode cX9_restore 18 = .ok (.getfield 7, 3) := dk_180 (byr_X9_restore_1 (j := 2) rfl) (byr_X9_restore_1 (j := 3) rfl) (byr_X9_restore_1 (j := 4) rfl) (by decide)
theorem dX9_restore_21 : decode cX9_restore 21 = .ok (.invokestatic 231, 3) := dk_184 (byr_X9_restore_1 (j := 5) rfl) (byr_X9_restore_1 (j := 6) rfl) (byr_X9_restore_1 (j := 7) rfl) (by decide)
theorem dX9_restore_24 : decode cX9_restore 24 = .ok (.aload_n 0, 1) := dk_42 (byr_X9_restore_1 (j := 8) rfl)
theorem dX9_restore_25 : decode cX9_restore 25 = .ok (.getfield 7, 3) := dk_180 (byr_X9_restore_1 (j := 9) rfl) (byr_X9_restore_1 (j := 10) rfl) (byr_X9_restore_1 (j := 11) rfl) (by decide)
theorem dX9_restore_28 : decode cX9_restore 28 = .ok (.bipush 11, 2) := dk_16 (byr_X9_restore_1 (j := 12) rfl) (byr_X9_restore_1 (j := 13) rfl) (by decide)
theorem dX9_restore_30 : decode cX9_restore 30 = .ok (.iaload, 1) := dk_46 (byr_X9_restore_1 (j := 14) rfl)
theorem dX9_restore_31 : decode cX9_restore 31 = .ok (.ireturn, 1) := dk_172 (byr_X9_restore_1 (j := 15) rfl)
set_option maxHeartbeats 4000000 in
set_option maxRecDepth 100000 in
theorem c_X9_restore (l : Launch) (G : GT) (σ : Sto)  (r : (Int32 × Sto)) (h : f_X9_restore σ  = some r) : MW l G (3) (86) 0 0 yX9_restore cX9_restore 1 (Option.some Jvm.ClassFile.FieldType.int) [.ref (gad G 81)] (wl G σ) (some (.int r.1)) (wl G r.2) := by
  refine mw_of RX9 (fiI G) [(0, .ref (gad G 81))] (by decide +kernel) rfl (Nat.le_of_ble_eq_true rfl) rfl h rfl (fun p e s m args below meth c X hr hnm => ?_)
  unfold f_X9_restore
  refine sm_aload_n X 1 0 dX9_restore_0 rfl rfl rfl ?_
  refine sm_geti X 4 rfl fd_9_3 dX9_restore_1 rfl q_885 ?_
  refine sm_if_ne X 7 13 dX9_restore_4 rfl (by decide) (fun h4 => ?_) (fun h4 => ?_)
  · refine sm_aload_n X 8 0 dX9_restore_7 rfl rfl rfl ?_
    refine sm_iconst X 9 (2) dX9_restore_8 rfl rfl ?_
    refine sm_bind (fun r9 h9 => ?_)
    refine sm_callV0 X 12 [.int 2] [] [.int r9.1] (c_X9_finds l G σ (2 : Int32) r9 h9) cw_X9_finds q_965 qs_26 q_963 rfl (by decide) rfl rfl rfl rfl rfl (Nat.le_of_ble_eq_true rfl) ⟨Nat.le_of_ble_eq_true rfl, Nat.le_of_ble_eq_true rfl⟩ ⟨Nat.le_refl _, Nat.le_refl _⟩ dX9_restore_9 rfl ?_
    exact sm_iret X hr dX9_restore_12 rfl
  · refine sm_aload_n X 14 0 dX9_restore_13 rfl rfl rfl ?_
    refine sm_getf X 17 84 rfl fd_9_2 rfl dX9_restore_14 rfl q_884 ?_
    refine sm_aload_n X 18 0 dX9_restore_17 rfl rfl rfl ?_
    refine sm_getf X 21 82 rfl fd_9_0 rfl dX9_restore_18 rfl q_882 ?_
    refine sm_bind (fun r21 h21 => ?_)
    refine sm_callS0 X 24 [.ref (gad G 84), .ref (gad G 82)] [] [] (c_X9_copies l G σ 84 rfl 82 rfl r21 h21) cw_X9_copies q_1182 q_1181 rfl rfl rfl (Nat.le_of_ble_eq_true rfl) ⟨Nat.le_of_ble_eq_true rfl, Nat.le_of_ble_eq_true rfl⟩ ⟨Nat.le_refl _, Nat.le_refl _⟩ dX9_restore_21 rfl ?_
    refine sm_aload_n X 25 0 dX9_restore_24 rfl rfl rfl ?_
    refine sm_getf X 28 82 rfl fd_9_0 rfl dX9_restore_25 rfl q_882 ?_
    refine sm_bipush X 30 (11) dX9_restore_28 rfl rfl ?_
    refine sm_iald X 31 rfl dX9_restore_30 rfl (fun r30 e30 => ?_)
    clear e30
    exact sm_iret X hr dX9_restore_31 rfl
def by_X9_tell_0 : List Nat := [42, 180, 0, 7, 16, 15, 46, 16, 20, 160, 0, 9, 42, 7, 182, 0]
def by_X9_tell_1 : List Nat := [126, 172, 42, 180, 0, 7, 16, 90, 42, 180, 0, 7, 16, 15, 46, 96]
def by_X9_tell_2 : List Nat := [27, 79, 42, 180, 0, 7, 16, 15, 92, 46, 4, 96, 79, 42, 180, 0]
def by_X9_tell_z : List Nat := [7, 16, 15, 46, 172]
def by_X9_tell : List (List Nat) := [by_X9_tell_0, by_X9_tell_1, by_X9_tell_2]
set_option maxRecDepth 100000 in
theorem byo_X9_tell : cX9_tell.data.toList.map UInt8.toNat = by_X9_tell.flatten ++ by_X9_tell_z := by decide +kernel
theorem byl_X9_tell : by_X9_tell.all (fun r => r.length == 16) = true := by decide +kernel
theorem byr_X9_tell_0 {j v : Nat} (h : by_X9_tell_0[j]? = some v) : RD cX9_tell (0 + j) v := rd_16 byo_X9_tell byl_X9_tell 0 rfl h
theorem byr_X9_tell_1 {j v : Nat} (h : by_X9_tell_1[j]? = some v) : RD cX9_tell (16 + j) v := rd_16 byo_X9_tell byl_X9_tell 1 rfl h
theorem byr_X9_tell_2 {j v : Nat} (h : by_X9_tell_2[j]? = some v) : RD cX9_tell (32 + j) v := rd_16 byo_X9_tell byl_X9_tell 2 rfl h
theorem byr_X9_tell_3 {j v : Nat} (h : by_X9_tell_z[j]? = some v) : RD cX9_tell (48 + j) v := rd_z byo_X9_tell byl_X9_tell 3 rfl h
theorem dX9_tell_0 : decode cX9_tell 0 = .ok (.aload_n 0, 1) := dk_42 (byr_X9_tell_0 (j := 0) rfl)
theorem dX9_tell_1 : decode cX9_tell 1 = .ok (.getfield 7, 3) := dk_180 (byr_X9_tell_0 (j := 1) rfl) (byr_X9_tell_0 (j := 2) rfl) (byr_X9_tell_0 (j := 3) rfl) (by decide)
theorem dX9_tell_4 : decode cX9_tell 4 = .ok (.bipush 15, 2) := dk_16 (byr_X9_tell_0 (j := 4) rfl) (byr_X9_tell_0 (j := 5) rfl) (by decide)
theorem dX9_tell_6 : decode cX9_tell 6 = .ok (.iaload, 1) := dk_46 (byr_X9_tell_0 (j := 6) rfl)
theorem dX9_tell_7 : decode cX9_tell 7 = .ok (.bipush 20, 2) := dk_16 (byr_X9_tell_0 (j := 7) rfl) (byr_X9_tell_0 (j := 8) rfl) (by decide)
theorem dX9_tell_9 : decode cX9_tell 9 = .ok (.if_icmp .ne 9, 3) := dk_160 (byr_X9_tell_0 (j := 9) rfl) (byr_X9_tell_0 (j := 10) rfl) (byr_X9_tell_0 (j := 11) rfl) (by decide)
theorem dX9_tell_12 : decode cX9_tell 12 = .ok (.aload_n 0, 1) := dk_42 (byr_X9_tell_0 (j := 12) rfl)
theorem dX9_tell_13 : decode cX9_tell 13 = .ok (.iconst 4, 1) := dk_7 (byr_X9_tell_0 (j := 13) rfl)
theorem dX9_tell_14 : decode cX9_tell 14 = .ok (.invokevirtual 126, 3) := dk_182 (byr_X9_tell_0 (j := 14) rfl) (byr_X9_tell_0 (j := 15) rfl) (byr_X9_tell_1 (j := 0) rfl) (by decide)
theorem dX9_tell_17 : decode cX9_tell 17 = .ok (.ireturn, 1) := dk_172 (byr_X9_tell_1 (j := 1) rfl)
theorem dX9_tell_18 : decode cX9_tell 18 = .ok (.aload_n 0, 1) := dk_42 (byr_X9_tell_1 (j := 2) rfl)
theorem dX9_tell_19 : decode cX9_tell 19 = .ok (.getfield 7, 3) := dk_180 (byr_X9_tell_1 (j := 3) rfl) (byr_X9_tell_1 (j := 4) rfl) (byr_X9_tell_1 (j := 5) rfl) (by decide)
theorem dX9_tell_22 : decode cX9_tell 22 = .ok (.bipush 90, 2) := dk_16 (byr_X9_tell_1 (j := 6) rfl) (byr_X9_tell_1 (j := 7) rfl) (by decide)
theorem dX9_tell_24 : decode cX9_tell 24 = .ok (.aload_n 0, 1) := dk_42 (byr_X9_tell_1 (j := 8) rfl)
theorem dX9_tell_25 : decode cX9_tell 25 = .ok (.getfield 7, 3) := dk_180 (byr_X9_tell_1 (j := 9) rfl) (byr_X9_tell_1 (j := 10) rfl) (byr_X9_tell_1 (j := 11) rfl) (by decide)
theorem dX9_tell_28 : decode cX9_tell 28 = .ok (.bipush 15, 2) := dk_16 (byr_X9_tell_1 (j := 12) rfl) (byr_X9_tell_1 (j := 13) rfl) (by decide)
theorem dX9_tell_30 : decode cX9_tell 30 = .ok (.iaload, 1) := dk_46 (byr_X9_tell_1 (j := 14) rfl)
theorem dX9_tell_31 : decode cX9_tell 31 = .ok (.iadd, 1) := dk_96 (byr_X9_tell_1 (j := 15) rfl)
theorem dX9_tell_32 : decode cX9_tell 32 = .ok (.iload_n 1, 1) := dk_27 (byr_X9_tell_2 (j := 0) rfl)
theorem dX9_tell_33 : decode cX9_tell 33 = .ok (.iastore, 1) := dk_79 (byr_X9_tell_2 (j := 1) rfl)
theorem dX9_tell_34 : decode cX9_tell 34 = .ok (.aload_n 0, 1) := dk_42 (byr_X9_tell_2 (j := 2) rfl)
theorem dX9_tell_35 : decode cX9_tell 35 = .ok (.getfield 7, 3) := dk_180 (byr_X9_tell_2 (j := 3) rfl) (byr_X9_tell_2 (j := 4) rfl) (byr_X9_tell_2 (j := 5) rfl) (by decide)
theorem dX9_tell_38 : decode cX9_tell 38 = .ok (.bipush 15, 2) := dk_16 (byr_X9_tell_2 (j := 6) rfl) (byr_X9_tell_2 (j := 7) rfl) (by decide)
theorem dX9_tell_40 : decode cX9_tell 40 = .ok (.dup2, 1) := dk_92 (byr_X9_tell_2 (j := 8) rfl)
theorem dX9_tell_41 : decode cX9_tell 41 = .ok (.iaload, 1) := dk_46 (byr_X9_tell_2 (j := 9) rfl)
theorem dX9_tell_42 : decode cX9_tell 42 = .ok (.iconst 1, 1) := dk_4 (byr_X9_tell_2 (j := 10) rfl)
theorem dX9_tell_43 : decode cX9_tell 43 = .ok (.iadd, 1) := dk_96 (byr_X9_tell_2 (j := 11) rfl)
theorem dX9_tell_44 : decode cX9_tell 44 = .ok (.iastore, 1) := dk_79 (byr_X9_tell_2 (j := 12) rfl)
theorem dX9_tell_45 : decode cX9_tell 45 = .ok (.aload_n 0, 1) := dk_42 (byr_X9_tell_2 (j := 13) rfl)
theorem dX9_tell_46 : decode cX9_tell 46 = .ok (.getfield 7, 3) := dk_180 (byr_X9_tell_2 (j := 14) rfl) (byr_X9_tell_2 (j := 15) rfl) (byr_X9_tell_3 (j := 0) rfl) (by decide)
theorem dX9_tell_49 : decode cX9_tell 49 = .ok (.bipush 15, 2) := dk_16 (byr_X9_tell_3 (j := 1) rfl) (byr_X9_tell_3 (j := 2) rfl) (by decide)
theorem dX9_tell_51 : decode cX9_tell 51 = .ok (.iaload, 1) := dk_46 (byr_X9_tell_3 (j := 3) rfl)
theorem dX9_tell_52 : decode cX9_tell 52 = .ok (.ireturn, 1) := dk_172 (byr_X9_tell_3 (j := 4) rfl)
set_option maxHeartbeats 4000000 in
set_option maxRecDepth 100000 in
theorem c_X9_tell (l : Launch) (G : GT) (σ : Sto) (a1 : Int32) (r : (Int32 × Sto)) (h : f_X9_tell σ a1 = some r) : MW l G (3) (85) 0 0 yX9_tell cX9_tell 2 (Option.some Jvm.ClassFile.FieldType.int) [.ref (gad G 81), .int a1] (wl G σ) (some (.int r.1)) (wl G r.2) := by
  refine mw_of RX9 (fiI G) [(0, .ref (gad G 81)), (1, .int a1)] (by decide +kernel) rfl (Nat.le_of_ble_eq_true rfl) rfl h rfl (fun p e s m args below meth c X hr hnm => ?_)
  unfold f_X9_tell
  refine sm_aload_n X 1 0 dX9_tell_0 rfl rfl rfl ?_
  refine sm_getf X 4 82 rfl fd_9_0 rfl dX9_tell_1 rfl q_882 ?_
  refine sm_bipush X 6 (15) dX9_tell_4 rfl rfl ?_
  refine sm_iald X 7 rfl dX9_tell_6 rfl (fun r6 e6 => ?_)
  clear e6
  refine sm_bipush X 9 (20) dX9_tell_7 rfl rfl ?_
  refine sm_icmp_ne X 12 18 dX9_tell_9 rfl (by decide) (fun h9 => ?_) (fun h9 => ?_)
  · refine sm_aload_n X 13 0 dX9_tell_12 rfl rfl rfl ?_
    refine sm_iconst X 14 (4) dX9_tell_13 rfl rfl ?_
    refine sm_bind (fun r14 h14 => ?_)
    refine sm_callV0 X 17 [.int 4] [] [.int r14.1] (c_X9_finds l G σ (4 : Int32) r14 h14) cw_X9_finds q_965 qs_26 q_963 rfl (by decide) rfl rfl rfl rfl rfl (Nat.le_of_ble_eq_true rfl) ⟨Nat.le_of_ble_eq_true rfl, Nat.le_of_ble_eq_true rfl⟩ ⟨Nat.le_refl _, Nat.le_refl _⟩ dX9_tell_14 rfl ?_
    exact sm_iret X hr dX9_tell_17 rfl
  · refine sm_aload_n X 19 0 dX9_tell_18 rfl rfl rfl ?_
    refine sm_getf X 22 82 rfl fd_9_0 rfl dX9_tell_19 rfl q_882 ?_
    refine sm_bipush X 24 (90) dX9_tell_22 rfl rfl ?_
    refine sm_aload_n X 25 0 dX9_tell_24 rfl rfl rfl ?_
    refine sm_getf X 28 82 rfl fd_9_0 rfl dX9_tell_25 rfl q_882 ?_
    refine sm_bipush X 30 (15) dX9_tell_28 rfl rfl ?_
    refine sm_iald X 31 rfl dX9_tell_30 rfl (fun r30 e30 => ?_)
    clear e30
    refine sm_iadd X 32 dX9_tell_31 rfl ?_
    refine sm_iload_n X 33 1 dX9_tell_32 rfl rfl rfl ?_
    refine sm_iast X 34 rfl dX9_tell_33 rfl (fun σ33 e33 => ?_)
    clear e33
    refine sm_aload_n X 35 0 dX9_tell_34 rfl rfl rfl ?_
    refine sm_getf X 38 82 rfl fd_9_0 rfl dX9_tell_35 rfl q_882 ?_
    refine sm_bipush X 40 (15) dX9_tell_38 rfl rfl ?_
    refine sm_dup2 X 41 dX9_tell_40 rfl rfl rfl ?_
    refine sm_iald X 42 rfl dX9_tell_41 rfl (fun r41 e41 => ?_)
    clear e41
    refine sm_iconst X 43 (1) dX9_tell_42 rfl rfl ?_
    refine sm_iadd X 44 dX9_tell_43 rfl ?_
    refine sm_iast X 45 rfl dX9_tell_44 rfl (fun σ44 e44 => ?_)
    clear e44
    refine sm_aload_n X 46 0 dX9_tell_45 rfl rfl rfl ?_
    refine sm_getf X 49 82 rfl fd_9_0 rfl dX9_tell_46 rfl q_882 ?_
    refine sm_bipush X 51 (15) dX9_tell_49 rfl rfl ?_
    refine sm_iald X 52 rfl dX9_tell_51 rfl (fun r51 e51 => ?_)
    clear e51
    exact sm_iret X hr dX9_tell_52 rfl
def by_X9_check_0 : List Nat := [42, 180, 0, 7, 16, 15, 46, 62, 42, 180, 0, 7, 16, 15, 3, 79]
def by_X9_check_1 : List Nat := [42, 27, 28, 182, 0, 207, 154, 0, 9, 42, 4, 182, 0, 126, 172, 3]
def by_X9_check_2 : List Nat := [54, 4, 42, 180, 0, 7, 42, 180, 0, 13, 184, 0, 231, 3, 54, 5]
def by_X9_check_3 : List Nat := [21, 5, 29, 162, 0, 50, 21, 4, 154, 0, 45, 42, 27, 28, 182, 0]
def by_X9_check_4 : List Nat := [221, 42, 180, 0, 7, 16, 8, 46, 42, 180, 0, 7, 16, 90, 21, 5]
def by_X9_check_5 : List Nat := [96, 46, 160, 0, 7, 3, 167, 0, 7, 4, 21, 5, 96, 54, 4, 132]
def by_X9_check_6 : List Nat := [5, 1, 167, 255, 206, 42, 180, 0, 13, 42, 180, 0, 7, 184, 0, 231]
def by_X9_check_z : List Nat := [21, 4, 172]
def by_X9_check : List (List Nat) := [by_X9_check_0, by_X9_check_1, by_X9_check_2, by_X9_check_3, by_X9_check_4, by_X9_check_5, by_X9_check_6]
set_option maxRecDepth 100000 in
theorem byo_X9_check : cX9_check.data.toList.map UInt8.toNat = by_X9_check.flatten ++ by_X9_check_z := by decide +kernel
theorem byl_X9_check : by_X9_check.all (fun r => r.length == 16) = true := by decide +kernel
theorem byr_X9_check_0 {j v : Nat} (h : by_X9_check_0[j]? = some v) : RD cX9_check (0 + j) v := rd_16 byo_X9_check byl_X9_check 0 rfl h
theorem byr_X9_check_1 {j v : Nat} (h : by_X9_check_1[j]? = some v) : RD cX9_check (16 + j) v := rd_16 byo_X9_check byl_X9_check 1 rfl h
theorem byr_X9_check_2 {j v : Nat} (h : by_X9_check_2[j]? = some v) : RD cX9_check (32 + j) v := rd_16 byo_X9_check byl_X9_check 2 rfl h
theorem byr_X9_check_3 {j v : Nat} (h : by_X9_check_3[j]? = some v) : RD cX9_check (48 + j) v := rd_16 byo_X9_check byl_X9_check 3 rfl h
theorem byr_X9_check_4 {j v : Nat} (h : by_X9_check_4[j]? = some v) : RD cX9_check (64 + j) v := rd_16 byo_X9_check byl_X9_check 4 rfl h
theorem byr_X9_check_5 {j v : Nat} (h : by_X9_check_5[j]? = some v) : RD cX9_check (80 + j) v := rd_16 byo_X9_check byl_X9_check 5 rfl h
theorem byr_X9_check_6 {j v : Nat} (h : by_X9_check_6[j]? = some v) : RD cX9_check (96 + j) v := rd_16 byo_X9_check byl_X9_check 6 rfl h
theorem byr_X9_check_7 {j v : Nat} (h : by_X9_check_z[j]? = some v) : RD cX9_check (112 + j) v := rd_z byo_X9_check byl_X9_check 7 rfl h
theorem dX9_check_0 : decode cX9_check 0 = .ok (.aload_n 0, 1) := dk_42 (byr_X9_check_0 (j := 0) rfl)
theorem dX9_check_1 : decode cX9_check 1 = .ok (.getfield 7, 3) := dk_180 (byr_X9_check_0 (j := 1) rfl) (byr_X9_check_0 (j := 2) rfl) (byr_X9_check_0 (j := 3) rfl) (by decide)
theorem dX9_check_4 : decode cX9_check 4 = .ok (.bipush 15, 2) := dk_16 (byr_X9_check_0 (j := 4) rfl) (byr_X9_check_0 (j := 5) rfl) (by decide)
theorem dX9_check_6 : decode cX9_check 6 = .ok (.iaload, 1) := dk_46 (byr_X9_check_0 (j := 6) rfl)
theorem dX9_check_7 : decode cX9_check 7 = .ok (.istore_n 3, 1) := dk_62 (byr_X9_check_0 (j := 7) rfl)
theorem dX9_check_8 : decode cX9_check 8 = .ok (.aload_n 0, 1) := dk_42 (byr_X9_check_0 (j := 8) rfl)
theorem dX9_check_9 : decode cX9_check 9 = .ok (.getfield 7, 3) := dk_180 (byr_X9_check_0 (j := 9) rfl) (byr_X9_check_0 (j := 10) rfl) (byr_X9_check_0 (j := 11) rfl) (by decide)
theorem dX9_check_12 : decode cX9_check 12 = .ok (.bipush 15, 2) := dk_16 (byr_X9_check_0 (j := 12) rfl) (byr_X9_check_0 (j := 13) rfl) (by decide)
theorem dX9_check_14 : decode cX9_check 14 = .ok (.iconst 0, 1) := dk_3 (byr_X9_check_0 (j := 14) rfl)
theorem dX9_check_15 : decode cX9_check 15 = .ok (.iastore, 1) := dk_79 (byr_X9_check_0 (j := 15) rfl)
theorem dX9_check_16 : decode cX9_check 16 = .ok (.aload_n 0, 1) := dk_42 (byr_X9_check_1 (j := 0) rfl)
theorem dX9_check_17 : decode cX9_check 17 = .ok (.iload_n 1, 1) := dk_27 (byr_X9_check_1 (j := 1) rfl)
theorem dX9_check_18 : decode cX9_check 18 = .ok (.iload_n 2, 1) := dk_28 (byr_X9_check_1 (j := 2) rfl)
theorem dX9_check_19 : decode cX9_check 19 = .ok (.invokevirtual 207, 3) := dk_182 (byr_X9_check_1 (j := 3) rfl) (byr_X9_check_1 (j := 4) rfl) (byr_X9_check_1 (j := 5) rfl) (by decide)
theorem dX9_check_22 : decode cX9_check 22 = .ok (.ifCond .ne 9, 3) := dk_154 (byr_X9_check_1 (j := 6) rfl) (byr_X9_check_1 (j := 7) rfl) (byr_X9_check_1 (j := 8) rfl) (by decide)
theorem dX9_check_25 : decode cX9_check 25 = .ok (.aload_n 0, 1) := dk_42 (byr_X9_check_1 (j := 9) rfl)
theorem dX9_check_26 : decode cX9_check 26 = .ok (.iconst 1, 1) := dk_4 (byr_X9_check_1 (j := 10) rfl)
theorem dX9_check_27 : decode cX9_check 27 = .ok (.invokevirtual 126, 3) := dk_182 (byr_X9_check_1 (j := 11) rfl) (byr_X9_check_1 (j := 12) rfl) (byr_X9_check_1 (j := 13) rfl) (by decide)
theorem dX9_check_30 : decode cX9_check 30 = .ok (.ireturn, 1) := dk_172 (byr_X9_check_1 (j := 14) rfl)
theorem dX9_check_31 : decode cX9_check 31 = .ok (.iconst 0, 1) := dk_3 (byr_X9_check_1 (j := 15) rfl)
theorem dX9_check_32 : decode cX9_check 32 = .ok (.istore 4, 2) := dk_54 (byr_X9_check_2 (j := 0) rfl) (byr_X9_check_2 (j := 1) rfl)
theorem dX9_check_34 : decode cX9_check 34 = .ok (.aload_n 0, 1) := dk_42 (byr_X9_check_2 (j := 2) rfl)
theorem dX9_check_35 : decode cX9_check 35 = .ok (.getfield 7, 3) := dk_180 (byr_X9_check_2 (j := 3) rfl) (byr_X9_check_2 (j := 4) rfl) (byr_X9_check_2 (j := 5) rfl) (by decide)
theorem dX9_check_38 : decode cX9_check 38 = .ok (.aload_n 0, 1) := dk_42 (byr_X9_check_2 (j := 6) rfl)
theorem dX9_check_39 : decode cX9_check 39 = .ok (.getfield 13, 3) := dk_180 (byr_X9_check_2 (j := 7) rfl) (byr_X9_check_2 (j := 8) rfl) (byr_X9_check_2 (j := 9) rfl) (by decide)
theorem dX9_check_42 : decode cX9_check 42 = .ok (.invokestatic 231, 3) := dk_184 (byr_X9_check_2 (j := 10) rfl) (byr_X9_check_2 (j := 11) rfl) (byr_X9_check_2 (j := 12) rfl) (by decide)
theorem dX9_check_45 : decode cX9_check 45 = .ok (.iconst 0, 1) := dk_3 (byr_X9_check_2 (j := 13) rfl)
theorem dX9_check_46 : decode cX9_check 46 = .ok (.istore 5, 2) := dk_54 (byr_X9_check_2 (j := 14) rfl) (byr_X9_check_2 (j := 15) rfl)
theorem dX9_check_48 : decode cX9_check 48 = .ok (.iload 5, 2) := dk_21 (byr_X9_check_3 (j := 0) rfl) (byr_X9_check_3 (j := 1) rfl)
theorem dX9_check_50 : decode cX9_check 50 = .ok (.iload_n 3, 1) := dk_29 (byr_X9_check_3 (j := 2) rfl)
theorem dX9_check_51 : decode cX9_check 51 = .ok (.if_icmp .ge 50, 3) := dk_162 (byr_X9_check_3 (j := 3) rfl) (byr_X9_check_3 (j := 4) rfl) (byr_X9_check_3 (j := 5) rfl) (by decide)
theorem dX9_check_54 : decode cX9_check 54 = .ok (.iload 4, 2) := dk_21 (byr_X9_check_3 (j := 6) rfl) (byr_X9_check_3 (j := 7) rfl)
theorem dX9_check_56 : decode cX9_check 56 = .ok (.ifCond .ne 45, 3) := dk_154 (byr_X9_check_3 (j := 8) rfl) (byr_X9_check_3 (j := 9) rfl) (byr_X9_check_3 (j := 10) rfl) (by decide)
theorem dX9_check_59 : decode cX9_check 59 = .ok (.aload_n 0, 1) := dk_42 (byr_X9_check_3 (j := 11) rfl)
theorem dX9_check_60 : decode cX9_check 60 = .ok (.iload_n 1, 1) := dk_27 (byr_X9_check_3 (j := 12) rfl)
theorem dX9_check_61 : decode cX9_check 61 = .ok (.iload_n 2, 1) := dk_28 (byr_X9_check_3 (j := 13) rfl)
theorem dX9_check_62 : decode cX9_check 62 = .ok (.invokevirtual 221, 3) := dk_182 (byr_X9_check_3 (j := 14) rfl) (byr_X9_check_3 (j := 15) rfl) (byr_X9_check_4 (j := 0) rfl) (by decide)
theorem dX9_check_65 : decode cX9_check 65 = .ok (.aload_n 0, 1) := dk_42 (byr_X9_check_4 (j := 1) rfl)
theorem dX9_check_66 : decode cX9_check 66 = .ok (.getfield 7, 3) := dk_180 (byr_X9_check_4 (j := 2) rfl) (byr_X9_check_4 (j := 3) rfl) (byr_X9_check_4 (j := 4) rfl) (by decide)
theorem dX9_check_69 : decode cX9_check 69 = .ok (.bipush 8, 2) := dk_16 (byr_X9_check_4 (j := 5) rfl) (byr_X9_check_4 (j := 6) rfl) (by decide)
theorem dX9_check_71 : decode cX9_check 71 = .ok (.iaload, 1) := dk_46 (byr_X9_check_4 (j := 7) rfl)
theorem dX9_check_72 : decode cX9_check 72 = .ok (.aload_n 0, 1) := dk_42 (byr_X9_check_4 (j := 8) rfl)
theorem dX9_check_73 : decode cX9_check 73 = .ok (.getfield 7, 3) := dk_180 (byr_X9_check_4 (j := 9) rfl) (byr_X9_check_4 (j := 10) rfl) (byr_X9_check_4 (j := 11) rfl) (by decide)
theorem dX9_check_76 : decode cX9_check 76 = .ok (.bipush 90, 2) := dk_16 (byr_X9_check_4 (j := 12) rfl) (byr_X9_check_4 (j := 13) rfl) (by decide)
theorem dX9_check_78 : decode cX9_check 78 = .ok (.iload 5, 2) := dk_21 (byr_X9_check_4 (j := 14) rfl) (byr_X9_check_4 (j := 15) rfl)
theorem dX9_check_80 : decode cX9_check 80 = .ok (.iadd, 1) := dk_96 (byr_X9_check_5 (j := 0) rfl)
theorem dX9_check_81 : decode cX9_check 81 = .ok (.iaload, 1) := dk_46 (byr_X9_check_5 (j := 1) rfl)
theorem dX9_check_82 : decode cX9_check 82 = .ok (.if_icmp .ne 7, 3) := dk_160 (byr_X9_check_5 (j := 2) rfl) (byr_X9_check_5 (j := 3) rfl) (byr_X9_check_5 (j := 4) rfl) (by decide)
theorem dX9_check_85 : decode cX9_check 85 = .ok (.iconst 0, 1) := dk_3 (byr_X9_check_5 (j := 5) rfl)
theorem dX9_check_86 : decode cX9_check 86 = .ok (.goto 7, 3) := dk_167 (byr_X9_check_5 (j := 6) rfl) (byr_X9_check_5 (j := 7) rfl) (byr_X9_check_5 (j := 8) rfl) (by decide)
theorem dX9_check_89 : decode cX9_check 89 = .ok (.iconst 1, 1) := dk_4 (byr_X9_check_5 (j := 9) rfl)
theorem dX9_check_90 : decode cX9_check 90 = .ok (.iload 5, 2) := dk_21 (byr_X9_check_5 (j := 10) rfl) (byr_X9_check_5 (j := 11) rfl)
theorem dX9_check_92 : decode cX9_check 92 = .ok (.iadd, 1) := dk_96 (byr_X9_check_5 (j := 12) rfl)
theorem dX9_check_93 : decode cX9_check 93 = .ok (.istore 4, 2) := dk_54 (byr_X9_check_5 (j := 13) rfl) (byr_X9_check_5 (j := 14) rfl)
theorem dX9_check_95 : decode cX9_check 95 = .ok (.iinc 5 1, 3) := dk_132 (byr_X9_check_5 (j := 15) rfl) (byr_X9_check_6 (j := 0) rfl) (byr_X9_check_6 (j := 1) rfl) (by decide)
theorem dX9_check_98 : decode cX9_check 98 = .ok (.goto (-50), 3) := dk_167 (byr_X9_check_6 (j := 2) rfl) (byr_X9_check_6 (j := 3) rfl) (byr_X9_check_6 (j := 4) rfl) (by decide)
theorem dX9_check_101 : decode cX9_check 101 = .ok (.aload_n 0, 1) := dk_42 (byr_X9_check_6 (j := 5) rfl)
theorem dX9_check_102 : decode cX9_check 102 = .ok (.getfield 13, 3) := dk_180 (byr_X9_check_6 (j := 6) rfl) (byr_X9_check_6 (j := 7) rfl) (byr_X9_check_6 (j := 8) rfl) (by decide)
theorem dX9_check_105 : decode cX9_check 105 = .ok (.aload_n 0, 1) := dk_42 (byr_X9_check_6 (j := 9) rfl)
theorem dX9_check_106 : decode cX9_check 106 = .ok (.getfield 7, 3) := dk_180 (byr_X9_check_6 (j := 10) rfl) (byr_X9_check_6 (j := 11) rfl) (byr_X9_check_6 (j := 12) rfl) (by decide)
theorem dX9_check_109 : decode cX9_check 109 = .ok (.invokestatic 231, 3) := dk_184 (byr_X9_check_6 (j := 13) rfl) (byr_X9_check_6 (j := 14) rfl) (byr_X9_check_6 (j := 15) rfl) (by decide)
theorem dX9_check_112 : decode cX9_check 112 = .ok (.iload 4, 2) := dk_21 (byr_X9_check_7 (j := 0) rfl) (byr_X9_check_7 (j := 1) rfl)
theorem dX9_check_114 : decode cX9_check 114 = .ok (.ireturn, 1) := dk_172 (byr_X9_check_7 (j := 2) rfl)
set_option maxHeartbeats 4000000 in
set_option maxRecDepth 100000 in
theorem c_X9_check (l : Launch) (G : GT) (σ : Sto) (a1 : Int32) (a2 : Int32) (r : (Int32 × Sto)) (h : f_X9_check σ a1 a2 = some r) : MW l G (9) (231) 0 0 yX9_check cX9_check 6 (Option.some Jvm.ClassFile.FieldType.int) [.ref (gad G 81), .int a1, .int a2] (wl G σ) (some (.int r.1)) (wl G r.2) := by
  refine mw_of RX9 (fiI G) [(0, .ref (gad G 81)), (1, .int a1), (2, .int a2)] (by decide +kernel) rfl (Nat.le_of_ble_eq_true rfl) rfl h rfl (fun p e s m args below meth c X hr hnm => ?_)
  have J93 : ∀ (v1 : Int32) (v2 : Int32) (v3 : Int32) (v5 : Int32) (vs0 : Int32) (K48 : Int32 → Int32 → Sto → Option (Int32 × Sto)) (hK48 : ∀ (v4' : Int32) (v5' : Int32) (σ' : Sto), Sm p l e { frames := 9, cells := 0, slots := 0, locals := 231 } s m args below meth c G 6 (Qm below args s G 0 0 (fiI G)) 0 0 (wl G σ') 48 [(0, .ref (gad G 81)), (1, .int v1), (2, .int v2), (3, .int v3), (4, .int v4'), (5, .int v5')] [] (K48 v4' v5' σ')) (σ : Sto), Sm p l e { frames := 9, cells := 0, slots := 0, locals := 231 } s m args below meth c G 6 (Qm below args s G 0 0 (fiI G)) 0 0 (wl G σ) 93 [(0, .ref (gad G 81)), (1, .int v1), (2, .int v2), (3, .int v3), (5, .int v5)] [.int vs0] (f_X9_check_L93 K48 v1 v2 v3 v5 vs0 σ) := by
    intro v1 v2 v3 v5 vs0 K48 hK48 σ
    rw [f_X9_check_L93]
    refine sm_istore X 95 [(4, .int vs0), (0, .ref (gad G 81)), (1, .int v1), (2, .int v2), (3, .int v3), (5, .int v5)] dX9_check_93 rfl (by decide) rfl ?_
    refine sm_iinc X 98 5 (1 : Int32) [(5, .int (v5 + (1 : Int32))), (4, .int vs0), (0, .ref (gad G 81)), (1, .int v1), (2, .int v2), (3, .int v3)] dX9_check_95 rfl rfl rfl (by decide) rfl ?_
    refine sm_goto X 48 dX9_check_98 (by decide) ?_
    exact sm_sub [2, 3, 4, 5, 1, 0] rfl (hK48 vs0 (v5 + (1 : Int32)) σ)
  have J48 : ∀ (v1 : Int32) (v2 : Int32) (v3 : Int32)  (n : Nat) (v4 : Int32) (v5 : Int32) (σ : Sto), Sm p l e { frames := 9, cells := 0, slots := 0, locals := 231 } s m args below meth c G 6 (Qm below args s G 0 0 (fiI G)) 0 0 (wl G σ) 48 [(0, .ref (gad G 81)), (1, .int v1), (2, .int v2), (3, .int v3), (4, .int v4), (5, .int v5)] [] (f_X9_check_L48  v1 v2 v3 n v4 v5 σ) := by
    intro v1 v2 v3 n
    induction n with
    | zero => intro v4 v5 σ; rw [f_X9_check_L48]; exact sm_none
    | succ n ihl =>
      intro v4 v5 σ
      rw [f_X9_check_L48]
      refine sm_iload X 50 5 dX9_check_48 rfl rfl ?_
      refine sm_iload_n X 51 3 dX9_check_50 rfl rfl rfl ?_
      refine sm_icmp_ge X 54 101 dX9_check_51 rfl (by decide) (fun h51 => ?_) (fun h51 => ?_)
      · refine sm_aload_n X 102 0 dX9_check_101 rfl rfl rfl ?_
        refine sm_getf X 105 83 rfl fd_9_1 rfl dX9_check_102 rfl q_883 ?_
        refine sm_aload_n X 106 0 dX9_check_105 rfl rfl rfl ?_
        refine sm_getf X 109 82 rfl fd_9_0 rfl dX9_check_106 rfl q_882 ?_
        refine sm_bind (fun r109 h109 => ?_)
        refine sm_callS0 X 112 [.ref (gad G 83), .ref (gad G 82)] [] [] (c_X9_copies l G σ 83 rfl 82 rfl r109 h109) cw_X9_copies q_1182 q_1181 rfl rfl rfl (Nat.le_of_ble_eq_true rfl) ⟨Nat.le_of_ble_eq_true rfl, Nat.le_of_ble_eq_true rfl⟩ ⟨Nat.le_refl _, Nat.le_refl _⟩ dX9_check_109 rfl ?_
        refine sm_iload X 114 4 dX9_check_112 rfl rfl ?_
        exact sm_iret X hr dX9_check_114 rfl
      · refine sm_iload X 56 4 dX9_check_54 rfl rfl ?_
        refine sm_if_ne X 59 101 dX9_check_56 rfl (by decide) (fun h56 => ?_) (fun h56 => ?_)
        · refine sm_aload_n X 60 0 dX9_check_59 rfl rfl rfl ?_
          refine sm_iload_n X 61 1 dX9_check_60 rfl rfl rfl ?_
          refine sm_iload_n X 62 2 dX9_check_61 rfl rfl rfl ?_
          refine sm_bind (fun r62 h62 => ?_)
          refine sm_callV0 X 65 [.int v1, .int v2] [] [] (c_X9_goesBy l G σ v1 v2 r62 h62) cw_X9_goesBy q_1169 qs_53 q_1167 rfl (by decide) rfl rfl rfl rfl rfl (Nat.le_of_ble_eq_true rfl) ⟨Nat.le_of_ble_eq_true rfl, Nat.le_of_ble_eq_true rfl⟩ ⟨Nat.le_refl _, Nat.le_refl _⟩ dX9_check_62 rfl ?_
          refine sm_aload_n X 66 0 dX9_check_65 rfl rfl rfl ?_
          refine sm_getf X 69 82 rfl fd_9_0 rfl dX9_check_66 rfl q_882 ?_
          refine sm_bipush X 71 (8) dX9_check_69 rfl rfl ?_
          refine sm_iald X 72 rfl dX9_check_71 rfl (fun r71 e71 => ?_)
          clear e71
          refine sm_aload_n X 73 0 dX9_check_72 rfl rfl rfl ?_
          refine sm_getf X 76 82 rfl fd_9_0 rfl dX9_check_73 rfl q_882 ?_
          refine sm_bipush X 78 (90) dX9_check_76 rfl rfl ?_
          refine sm_iload X 80 5 dX9_check_78 rfl rfl ?_
          refine sm_iadd X 81 dX9_check_80 rfl ?_
          refine sm_iald X 82 rfl dX9_check_81 rfl (fun r81 e81 => ?_)
          clear e81
          refine sm_icmp_ne X 85 89 dX9_check_82 rfl (by decide) (fun h82 => ?_) (fun h82 => ?_)
          · refine sm_iconst X 86 (0) dX9_check_85 rfl rfl ?_
            refine sm_goto X 93 dX9_check_86 (by decide) ?_
            exact sm_sub [0, 1, 2, 3, 5] rfl (J93 v1 v2 v3 v5 (0 : Int32) (f_X9_check_L48  v1 v2 v3 n) ihl r62)
          · refine sm_iconst X 90 (1) dX9_check_89 rfl rfl ?_
            refine sm_iload X 92 5 dX9_check_90 rfl rfl ?_
            refine sm_iadd X 93 dX9_check_92 rfl ?_
            exact sm_sub [0, 1, 2, 3, 5] rfl (J93 v1 v2 v3 v5 ((1 : Int32) + v5) (f_X9_check_L48  v1 v2 v3 n) ihl r62)
        · refine sm_aload_n X 102 0 dX9_check_101 rfl rfl rfl ?_
          refine sm_getf X 105 83 rfl fd_9_1 rfl dX9_check_102 rfl q_883 ?_
          refine sm_aload_n X 106 0 dX9_check_105 rfl rfl rfl ?_
          refine sm_getf X 109 82 rfl fd_9_0 rfl dX9_check_106 rfl q_882 ?_
          refine sm_bind (fun r109 h109 => ?_)
          refine sm_callS0 X 112 [.ref (gad G 83), .ref (gad G 82)] [] [] (c_X9_copies l G σ 83 rfl 82 rfl r109 h109) cw_X9_copies q_1182 q_1181 rfl rfl rfl (Nat.le_of_ble_eq_true rfl) ⟨Nat.le_of_ble_eq_true rfl, Nat.le_of_ble_eq_true rfl⟩ ⟨Nat.le_refl _, Nat.le_refl _⟩ dX9_check_109 rfl ?_
          refine sm_iload X 114 4 dX9_check_112 rfl rfl ?_
          exact sm_iret X hr dX9_check_114 rfl
  unfold f_X9_check
  refine sm_aload_n X 1 0 dX9_check_0 rfl rfl rfl ?_
  refine sm_getf X 4 82 rfl fd_9_0 rfl dX9_check_1 rfl q_882 ?_
  refine sm_bipush X 6 (15) dX9_check_4 rfl rfl ?_
  refine sm_iald X 7 rfl dX9_check_6 rfl (fun r6 e6 => ?_)
  clear e6
  refine sm_istore_n X 8 [(3, .int r6), (0, .ref (gad G 81)), (1, .int a1), (2, .int a2)] dX9_check_7 rfl rfl (by decide) rfl ?_
  refine sm_aload_n X 9 1 dX9_check_8 rfl rfl rfl ?_
  refine sm_getf X 12 82 rfl fd_9_0 rfl dX9_check_9 rfl q_882 ?_
  refine sm_bipush X 14 (15) dX9_check_12 rfl rfl ?_
  refine sm_iconst X 15 (0) dX9_check_14 rfl rfl ?_
  refine sm_iast X 16 rfl dX9_check_15 rfl (fun σ15 e15 => ?_)
  clear e15
  refine sm_aload_n X 17 1 dX9_check_16 rfl rfl rfl ?_
  refine sm_iload_n X 18 2 dX9_check_17 rfl rfl rfl ?_
  refine sm_iload_n X 19 3 dX9_check_18 rfl rfl rfl ?_
  refine sm_bind (fun r19 h19 => ?_)
  refine sm_callV0 X 22 [.int a1, .int a2] [] [.int (b2i r19)] (c_X9_areUnlike l G σ15 a1 a2 r19 h19) cw_X9_areUnlike q_1147 qs_49 q_1145 rfl (by decide) rfl rfl rfl rfl rfl (Nat.le_of_ble_eq_true rfl) ⟨Nat.le_of_ble_eq_true rfl, Nat.le_of_ble_eq_true rfl⟩ ⟨Nat.le_refl _, Nat.le_refl _⟩ dX9_check_19 rfl ?_
  refine sm_ifz_ne X 25 31 dX9_check_22 rfl (by decide) (fun h22 => ?_) (fun h22 => ?_)
  · refine sm_iconst X 32 (0) dX9_check_31 rfl rfl ?_
    refine sm_istore X 34 [(4, .int 0), (3, .int r6), (0, .ref (gad G 81)), (1, .int a1), (2, .int a2)] dX9_check_32 rfl (by decide) rfl ?_
    refine sm_aload_n X 35 2 dX9_check_34 rfl rfl rfl ?_
    refine sm_getf X 38 82 rfl fd_9_0 rfl dX9_check_35 rfl q_882 ?_
    refine sm_aload_n X 39 2 dX9_check_38 rfl rfl rfl ?_
    refine sm_getf X 42 83 rfl fd_9_1 rfl dX9_check_39 rfl q_883 ?_
    refine sm_bind (fun r42 h42 => ?_)
    refine sm_callS0 X 45 [.ref (gad G 82), .ref (gad G 83)] [] [] (c_X9_copies l G σ15 82 rfl 83 rfl r42 h42) cw_X9_copies q_1182 q_1181 rfl rfl rfl (Nat.le_of_ble_eq_true rfl) ⟨Nat.le_of_ble_eq_true rfl, Nat.le_of_ble_eq_true rfl⟩ ⟨Nat.le_refl _, Nat.le_refl _⟩ dX9_check_42 rfl ?_
    refine sm_iconst X 46 (0) dX9_check_45 rfl rfl ?_
    refine sm_istore X 48 [(5, .int 0), (4, .int 0), (3, .int r6), (0, .ref (gad G 81)), (1, .int a1), (2, .int a2)] dX9_check_46 rfl (by decide) rfl ?_
    exact sm_sub [3, 4, 5, 2, 1, 0] rfl (J48 a1 a2 r6  FU (0 : Int32) (0 : Int32) r42)
  · refine sm_aload_n X 26 1 dX9_check_25 rfl rfl rfl ?_
    refine sm_iconst X 27 (1) dX9_check_26 rfl rfl ?_
    refine sm_bind (fun r27 h27 => ?_)
    refine sm_callV0 X 30 [.int 1] [] [.int r27.1] (c_X9_finds l G σ15 (1 : Int32) r27 h27) cw_X9_finds q_965 qs_26 q_963 rfl (by decide) rfl rfl rfl rfl rfl (Nat.le_of_ble_eq_true rfl) ⟨Nat.le_of_ble_eq_true rfl, Nat.le_of_ble_eq_true rfl⟩ ⟨Nat.le_refl _, Nat.le_refl _⟩ dX9_check_27 rfl ?_
    exact sm_iret X hr dX9_check_30 rfl
def by_X9_count_0 : List Nat := [27, 170, 0, 0, 0, 0, 0, 144, 0, 0, 0, 0, 0, 0, 0, 10]
def by_X9_count_1 : List Nat := [0, 0, 0, 59, 0, 0, 0, 67, 0, 0, 0, 75, 0, 0, 0, 83]
def by_X9_count_2 : List Nat := [0, 0, 0, 91, 0, 0, 0, 99, 0, 0, 0, 107, 0, 0, 0, 115]
def by_X9_count_3 : List Nat := [0, 0, 0, 123, 0, 0, 0, 131, 0, 0, 0, 136, 42, 180, 0, 7]
def by_X9_count_4 : List Nat := [16, 11, 46, 172, 42, 180, 0, 7, 16, 12, 46, 172, 42, 180, 0, 7]
def by_X9_count_5 : List Nat := [16, 8, 46, 172, 42, 180, 0, 7, 16, 9, 46, 172, 42, 180, 0, 7]
def by_X9_count_6 : List Nat := [16, 10, 46, 172, 42, 180, 0, 7, 16, 6, 46, 172, 42, 180, 0, 7]
def by_X9_count_7 : List Nat := [16, 7, 46, 172, 42, 180, 0, 7, 16, 14, 46, 172, 42, 180, 0, 7]
def by_X9_count_8 : List Nat := [16, 15, 46, 172, 42, 180, 0, 252, 172, 42, 180, 0, 7, 16, 13, 46]
def by_X9_count_z : List Nat := [172, 42, 4, 182, 0, 126, 172]
def by_X9_count : List (List Nat) := [by_X9_count_0, by_X9_count_1, by_X9_count_2, by_X9_count_3, by_X9_count_4, by_X9_count_5, by_X9_count_6, by_X9_count_7, by_X9_count_8]
set_option maxRecDepth 100000 in
theorem byo_X9_count : cX9_count.data.toList.map UInt8.toNat = by_X9_count.flatten ++ by_X9_count_z := by decide +kernel
theorem byl_X9_count : by_X9_count.all (fun r => r.length == 16) = true := by decide +kernel
theorem byr_X9_count_0 {j v : Nat} (h : by_X9_count_0[j]? = some v) : RD cX9_count (0 + j) v := rd_16 byo_X9_count byl_X9_count 0 rfl h
theorem byr_X9_count_1 {j v : Nat} (h : by_X9_count_1[j]? = some v) : RD cX9_count (16 + j) v := rd_16 byo_X9_count byl_X9_count 1 rfl h
theorem byr_X9_count_2 {j v : Nat} (h : by_X9_count_2[j]? = some v) : RD cX9_count (32 + j) v := rd_16 byo_X9_count byl_X9_count 2 rfl h
theorem byr_X9_count_3 {j v : Nat} (h : by_X9_count_3[j]? = some v) : RD cX9_count (48 + j) v := rd_16 byo_X9_count byl_X9_count 3 rfl h
theorem byr_X9_count_4 {j v : Nat} (h : by_X9_count_4[j]? = some v) : RD cX9_count (64 + j) v := rd_16 byo_X9_count byl_X9_count 4 rfl h
theorem byr_X9_count_5 {j v : Nat} (h : by_X9_count_5[j]? = some v) : RD cX9_count (80 + j) v := rd_16 byo_X9_count byl_X9_count 5 rfl h
theorem byr_X9_count_6 {j v : Nat} (h : by_X9_count_6[j]? = some v) : RD cX9_count (96 + j) v := rd_16 byo_X9_count byl_X9_count 6 rfl h
theorem byr_X9_count_7 {j v : Nat} (h : by_X9_count_7[j]? = some v) : RD cX9_count (112 + j) v := rd_16 byo_X9_count byl_X9_count 7 rfl h
theorem byr_X9_count_8 {j v : Nat} (h : by_X9_count_8[j]? = some v) : RD cX9_count (128 + j) v := rd_16 byo_X9_count byl_X9_count 8 rfl h
theorem byr_X9_count_9 {j v : Nat} (h : by_X9_count_z[j]? = some v) : RD cX9_count (144 + j) v := rd_z byo_X9_count byl_X9_count 9 rfl h
theorem dX9_count_0 : decode cX9_count 0 = .ok (.iload_n 1, 1) := dk_27 (byr_X9_count_0 (j := 0) rfl)
set_option maxRecDepth 20000 in
theorem dX9_count_1 : decode cX9_count 1 = .ok (.tableswitch 144 0 10 #[59, 67, 75, 83, 91, 99, 107, 115, 123, 131, 136], 59) := by decide +kernel
theorem dX9_count_60 : decode cX9_count 60 = .ok (.aload_n 0, 1) := dk_42 (byr_X9_count_3 (j := 12) rfl)
theorem dX9_count_61 : decode cX9_count 61 = .ok (.getfield 7, 3) := dk_180 (byr_X9_count_3 (j := 13) rfl) (byr_X9_count_3 (j := 14) rfl) (byr_X9_count_3 (j := 15) rfl) (by decide)
theorem dX9_count_64 : decode cX9_count 64 = .ok (.bipush 11, 2) := dk_16 (byr_X9_count_4 (j := 0) rfl) (byr_X9_count_4 (j := 1) rfl) (by decide)
theorem dX9_count_66 : decode cX9_count 66 = .ok (.iaload, 1) := dk_46 (byr_X9_count_4 (j := 2) rfl)
theorem dX9_count_67 : decode cX9_count 67 = .ok (.ireturn, 1) := dk_172 (byr_X9_count_4 (j := 3) rfl)
theorem dX9_count_68 : decode cX9_count 68 = .ok (.aload_n 0, 1) := dk_42 (byr_X9_count_4 (j := 4) rfl)
theorem dX9_count_69 : decode cX9_count 69 = .ok (.getfield 7, 3) := dk_180 (byr_X9_count_4 (j := 5) rfl) (byr_X9_count_4 (j := 6) rfl) (byr_X9_count_4 (j := 7) rfl) (by decide)
theorem dX9_count_72 : decode cX9_count 72 = .ok (.bipush 12, 2) := dk_16 (byr_X9_count_4 (j := 8) rfl) (byr_X9_count_4 (j := 9) rfl) (by decide)
theorem dX9_count_74 : decode cX9_count 74 = .ok (.iaload, 1) := dk_46 (byr_X9_count_4 (j := 10) rfl)
theorem dX9_count_75 : decode cX9_count 75 = .ok (.ireturn, 1) := dk_172 (byr_X9_count_4 (j := 11) rfl)
theorem dX9_count_76 : decode cX9_count 76 = .ok (.aload_n 0, 1) := dk_42 (byr_X9_count_4 (j := 12) rfl)
theorem dX9_count_77 : decode cX9_count 77 = .ok (.getfield 7, 3) := dk_180 (byr_X9_count_4 (j := 13) rfl) (byr_X9_count_4 (j := 14) rfl) (byr_X9_count_4 (j := 15) rfl) (by decide)
theorem dX9_count_80 : decode cX9_count 80 = .ok (.bipush 8, 2) := dk_16 (byr_X9_count_5 (j := 0) rfl) (byr_X9_count_5 (j := 1) rfl) (by decide)
theorem dX9_count_82 : decode cX9_count 82 = .ok (.iaload, 1) := dk_46 (byr_X9_count_5 (j := 2) rfl)
theorem dX9_count_83 : decode cX9_count 83 = .ok (.ireturn, 1) := dk_172 (byr_X9_count_5 (j := 3) rfl)
theorem dX9_count_84 : decode cX9_count 84 = .ok (.aload_n 0, 1) := dk_42 (byr_X9_count_5 (j := 4) rfl)
theorem dX9_count_85 : decode cX9_count 85 = .ok (.getfield 7, 3) := dk_180 (byr_X9_count_5 (j := 5) rfl) (byr_X9_count_5 (j := 6) rfl) (byr_X9_count_5 (j := 7) rfl) (by decide)
theorem dX9_count_88 : decode cX9_count 88 = .ok (.bipush 9, 2) := dk_16 (byr_X9_count_5 (j := 8) rfl) (byr_X9_count_5 (j := 9) rfl) (by decide)
theorem dX9_count_90 : decode cX9_count 90 = .ok (.iaload, 1) := dk_46 (byr_X9_count_5 (j := 10) rfl)
theorem dX9_count_91 : decode cX9_count 91 = .ok (.ireturn, 1) := dk_172 (byr_X9_count_5 (j := 11) rfl)
theorem dX9_count_92 : decode cX9_count 92 = .ok (.aload_n 0, 1) := dk_42 (byr_X9_count_5 (j := 12) rfl)
theorem dX9_count_93 : decode cX9_count 93 = .ok (.getfield 7, 3) := dk_180 (byr_X9_count_5 (j := 13) rfl) (byr_X9_count_5 (j := 14) rfl) (byr_X9_count_5 (j := 15) rfl) (by decide)
theorem dX9_count_96 : decode cX9_count 96 = .ok (.bipush 10, 2) := dk_16 (byr_X9_count_6 (j := 0) rfl) (byr_X9_count_6 (j := 1) rfl) (by decide)
theorem dX9_count_98 : decode cX9_count 98 = .ok (.iaload, 1) := dk_46 (byr_X9_count_6 (j := 2) rfl)
theorem dX9_count_99 : decode cX9_count 99 = .ok (.ireturn, 1) := dk_172 (byr_X9_count_6 (j := 3) rfl)
theorem dX9_count_100 : decode cX9_count 100 = .ok (.aload_n 0, 1) := dk_42 (byr_X9_count_6 (j := 4) rfl)
theorem dX9_count_101 : decode cX9_count 101 = .ok (.getfield 7, 3) := dk_180 (byr_X9_count_6 (j := 5) rfl) (byr_X9_count_6 (j := 6) rfl) (byr_X9_count_6 (j := 7) rfl) (by decide)
theorem dX9_count_104 : decode cX9_count 104 = .ok (.bipush 6, 2) := dk_16 (byr_X9_count_6 (j := 8) rfl) (byr_X9_count_6 (j := 9) rfl) (by decide)
theorem dX9_count_106 : decode cX9_count 106 = .ok (.iaload, 1) := dk_46 (byr_X9_count_6 (j := 10) rfl)
theorem dX9_count_107 : decode cX9_count 107 = .ok (.ireturn, 1) := dk_172 (byr_X9_count_6 (j := 11) rfl)
theorem dX9_count_108 : decode cX9_count 108 = .ok (.aload_n 0, 1) := dk_42 (byr_X9_count_6 (j := 12) rfl)
theorem dX9_count_109 : decode cX9_count 109 = .ok (.getfield 7, 3) := dk_180 (byr_X9_count_6 (j := 13) rfl) (byr_X9_count_6 (j := 14) rfl) (byr_X9_count_6 (j := 15) rfl) (by decide)
theorem dX9_count_112 : decode cX9_count 112 = .ok (.bipush 7, 2) := dk_16 (byr_X9_count_7 (j := 0) rfl) (byr_X9_count_7 (j := 1) rfl) (by decide)
theorem dX9_count_114 : decode cX9_count 114 = .ok (.iaload, 1) := dk_46 (byr_X9_count_7 (j := 2) rfl)
theorem dX9_count_115 : decode cX9_count 115 = .ok (.ireturn, 1) := dk_172 (byr_X9_count_7 (j := 3) rfl)
theorem dX9_count_116 : decode cX9_count 116 = .ok (.aload_n 0, 1) := dk_42 (byr_X9_count_7 (j := 4) rfl)
theorem dX9_count_117 : decode cX9_count 117 = .ok (.getfield 7, 3) := dk_180 (byr_X9_count_7 (j := 5) rfl) (byr_X9_count_7 (j := 6) rfl) (byr_X9_count_7 (j := 7) rfl) (by decide)
theorem dX9_count_120 : decode cX9_count 120 = .ok (.bipush 14, 2) := dk_16 (byr_X9_count_7 (j := 8) rfl) (byr_X9_count_7 (j := 9) rfl) (by decide)
theorem dX9_count_122 : decode cX9_count 122 = .ok (.iaload, 1) := dk_46 (byr_X9_count_7 (j := 10) rfl)
theorem dX9_count_123 : decode cX9_count 123 = .ok (.ireturn, 1) := dk_172 (byr_X9_count_7 (j := 11) rfl)
theorem dX9_count_124 : decode cX9_count 124 = .ok (.aload_n 0, 1) := dk_42 (byr_X9_count_7 (j := 12) rfl)
theorem dX9_count_125 : decode cX9_count 125 = .ok (.getfield 7, 3) := dk_180 (byr_X9_count_7 (j := 13) rfl) (byr_X9_count_7 (j := 14) rfl) (byr_X9_count_7 (j := 15) rfl) (by decide)
theorem dX9_count_128 : decode cX9_count 128 = .ok (.bipush 15, 2) := dk_16 (byr_X9_count_8 (j := 0) rfl) (byr_X9_count_8 (j := 1) rfl) (by decide)
theorem dX9_count_130 : decode cX9_count 130 = .ok (.iaload, 1) := dk_46 (byr_X9_count_8 (j := 2) rfl)
theorem dX9_count_131 : decode cX9_count 131 = .ok (.ireturn, 1) := dk_172 (byr_X9_count_8 (j := 3) rfl)
theorem dX9_count_132 : decode cX9_count 132 = .ok (.aload_n 0, 1) := dk_42 (byr_X9_count_8 (j := 4) rfl)
theorem dX9_count_133 : decode cX9_count 133 = .ok (.getfield 252, 3) := dk_180 (byr_X9_count_8 (j := 5) rfl) (byr_X9_count_8 (j := 6) rfl) (byr_X9_count_8 (j := 7) rfl) (by decide)
theorem dX9_count_136 : decode cX9_count 136 = .ok (.ireturn, 1) := dk_172 (byr_X9_count_8 (j := 8) rfl)
theorem dX9_count_137 : decode cX9_count 137 = .ok (.aload_n 0, 1) := dk_42 (byr_X9_count_8 (j := 9) rfl)
theorem dX9_count_138 : decode cX9_count 138 = .ok (.getfield 7, 3) := dk_180 (byr_X9_count_8 (j := 10) rfl) (byr_X9_count_8 (j := 11) rfl) (byr_X9_count_8 (j := 12) rfl) (by decide)
theorem dX9_count_141 : decode cX9_count 141 = .ok (.bipush 13, 2) := dk_16 (byr_X9_count_8 (j := 13) rfl) (byr_X9_count_8 (j := 14) rfl) (by decide)
theorem dX9_count_143 : decode cX9_count 143 = .ok (.iaload, 1) := dk_46 (byr_X9_count_8 (j := 15) rfl)
theorem dX9_count_144 : decode cX9_count 144 = .ok (.ireturn, 1) := dk_172 (byr_X9_count_9 (j := 0) rfl)
theorem dX9_count_145 : decode cX9_count 145 = .ok (.aload_n 0, 1) := dk_42 (byr_X9_count_9 (j := 1) rfl)
theorem dX9_count_146 : decode cX9_count 146 = .ok (.iconst 1, 1) := dk_4 (byr_X9_count_9 (j := 2) rfl)
theorem dX9_count_147 : decode cX9_count 147 = .ok (.invokevirtual 126, 3) := dk_182 (byr_X9_count_9 (j := 3) rfl) (byr_X9_count_9 (j := 4) rfl) (byr_X9_count_9 (j := 5) rfl) (by decide)
theorem dX9_count_150 : decode cX9_count 150 = .ok (.ireturn, 1) := dk_172 (byr_X9_count_9 (j := 6) rfl)
set_option maxHeartbeats 4000000 in
set_option maxRecDepth 100000 in
theorem c_X9_count (l : Launch) (G : GT) (σ : Sto) (a1 : Int32) (r : (Int32 × Sto)) (h : f_X9_count σ a1 = some r) : MW l G (3) (85) 0 0 yX9_count cX9_count 2 (Option.some Jvm.ClassFile.FieldType.int) [.ref (gad G 81), .int a1] (wl G σ) (some (.int r.1)) (wl G r.2) := by
  refine mw_of RX9 (fiI G) [(0, .ref (gad G 81)), (1, .int a1)] (by decide +kernel) rfl (Nat.le_of_ble_eq_true rfl) rfl h rfl (fun p e s m args below meth c X hr hnm => ?_)
  unfold f_X9_count
  refine sm_iload_n X 1 1 dX9_count_0 rfl rfl rfl ?_
  refine sm_if (fun h1_0 => ?_) (fun h1_0 => ?_)
  · refine sm_table X 60 dX9_count_1 (by rw [h1_0]; decide) (by rw [h1_0]; decide) (by first | (rw [h1_0]; done) | (rw [h1_0]; rfl)) (by decide) ?_
    refine sm_aload_n X 61 0 dX9_count_60 rfl rfl rfl ?_
    refine sm_getf X 64 82 rfl fd_9_0 rfl dX9_count_61 rfl q_882 ?_
    refine sm_bipush X 66 (11) dX9_count_64 rfl rfl ?_
    refine sm_iald X 67 rfl dX9_count_66 rfl (fun r66 e66 => ?_)
    clear e66
    exact sm_iret X hr dX9_count_67 rfl
  refine sm_if (fun h1_1 => ?_) (fun h1_1 => ?_)
  · refine sm_table X 68 dX9_count_1 (by rw [h1_1]; decide) (by rw [h1_1]; decide) (by first | (rw [h1_1]; done) | (rw [h1_1]; rfl)) (by decide) ?_
    refine sm_aload_n X 69 0 dX9_count_68 rfl rfl rfl ?_
    refine sm_getf X 72 82 rfl fd_9_0 rfl dX9_count_69 rfl q_882 ?_
    refine sm_bipush X 74 (12) dX9_count_72 rfl rfl ?_
    refine sm_iald X 75 rfl dX9_count_74 rfl (fun r74 e74 => ?_)
    clear e74
    exact sm_iret X hr dX9_count_75 rfl
  refine sm_if (fun h1_2 => ?_) (fun h1_2 => ?_)
  · refine sm_table X 76 dX9_count_1 (by rw [h1_2]; decide) (by rw [h1_2]; decide) (by first | (rw [h1_2]; done) | (rw [h1_2]; rfl)) (by decide) ?_
    refine sm_aload_n X 77 0 dX9_count_76 rfl rfl rfl ?_
    refine sm_getf X 80 82 rfl fd_9_0 rfl dX9_count_77 rfl q_882 ?_
    refine sm_bipush X 82 (8) dX9_count_80 rfl rfl ?_
    refine sm_iald X 83 rfl dX9_count_82 rfl (fun r82 e82 => ?_)
    clear e82
    exact sm_iret X hr dX9_count_83 rfl
  refine sm_if (fun h1_3 => ?_) (fun h1_3 => ?_)
  · refine sm_table X 84 dX9_count_1 (by rw [h1_3]; decide) (by rw [h1_3]; decide) (by first | (rw [h1_3]; done) | (rw [h1_3]; rfl)) (by decide) ?_
    refine sm_aload_n X 85 0 dX9_count_84 rfl rfl rfl ?_
    refine sm_getf X 88 82 rfl fd_9_0 rfl dX9_count_85 rfl q_882 ?_
    refine sm_bipush X 90 (9) dX9_count_88 rfl rfl ?_
    refine sm_iald X 91 rfl dX9_count_90 rfl (fun r90 e90 => ?_)
    clear e90
    exact sm_iret X hr dX9_count_91 rfl
  refine sm_if (fun h1_4 => ?_) (fun h1_4 => ?_)
  · refine sm_table X 92 dX9_count_1 (by rw [h1_4]; decide) (by rw [h1_4]; decide) (by first | (rw [h1_4]; done) | (rw [h1_4]; rfl)) (by decide) ?_
    refine sm_aload_n X 93 0 dX9_count_92 rfl rfl rfl ?_
    refine sm_getf X 96 82 rfl fd_9_0 rfl dX9_count_93 rfl q_882 ?_
    refine sm_bipush X 98 (10) dX9_count_96 rfl rfl ?_
    refine sm_iald X 99 rfl dX9_count_98 rfl (fun r98 e98 => ?_)
    clear e98
    exact sm_iret X hr dX9_count_99 rfl
  refine sm_if (fun h1_5 => ?_) (fun h1_5 => ?_)
  · refine sm_table X 100 dX9_count_1 (by rw [h1_5]; decide) (by rw [h1_5]; decide) (by first | (rw [h1_5]; done) | (rw [h1_5]; rfl)) (by decide) ?_
    refine sm_aload_n X 101 0 dX9_count_100 rfl rfl rfl ?_
    refine sm_getf X 104 82 rfl fd_9_0 rfl dX9_count_101 rfl q_882 ?_
    refine sm_bipush X 106 (6) dX9_count_104 rfl rfl ?_
    refine sm_iald X 107 rfl dX9_count_106 rfl (fun r106 e106 => ?_)
    clear e106
    exact sm_iret X hr dX9_count_107 rfl
  refine sm_if (fun h1_6 => ?_) (fun h1_6 => ?_)
  · refine sm_table X 108 dX9_count_1 (by rw [h1_6]; decide) (by rw [h1_6]; decide) (by first | (rw [h1_6]; done) | (rw [h1_6]; rfl)) (by decide) ?_
    refine sm_aload_n X 109 0 dX9_count_108 rfl rfl rfl ?_
    refine sm_getf X 112 82 rfl fd_9_0 rfl dX9_count_109 rfl q_882 ?_
    refine sm_bipush X 114 (7) dX9_count_112 rfl rfl ?_
    refine sm_iald X 115 rfl dX9_count_114 rfl (fun r114 e114 => ?_)
    clear e114
    exact sm_iret X hr dX9_count_115 rfl
  refine sm_if (fun h1_7 => ?_) (fun h1_7 => ?_)
  · refine sm_table X 116 dX9_count_1 (by rw [h1_7]; decide) (by rw [h1_7]; decide) (by first | (rw [h1_7]; done) | (rw [h1_7]; rfl)) (by decide) ?_
    refine sm_aload_n X 117 0 dX9_count_116 rfl rfl rfl ?_
    refine sm_getf X 120 82 rfl fd_9_0 rfl dX9_count_117 rfl q_882 ?_
    refine sm_bipush X 122 (14) dX9_count_120 rfl rfl ?_
    refine sm_iald X 123 rfl dX9_count_122 rfl (fun r122 e122 => ?_)
    clear e122
    exact sm_iret X hr dX9_count_123 rfl
  refine sm_if (fun h1_8 => ?_) (fun h1_8 => ?_)
  · refine sm_table X 124 dX9_count_1 (by rw [h1_8]; decide) (by rw [h1_8]; decide) (by first | (rw [h1_8]; done) | (rw [h1_8]; rfl)) (by decide) ?_
    refine sm_aload_n X 125 0 dX9_count_124 rfl rfl rfl ?_
    refine sm_getf X 128 82 rfl fd_9_0 rfl dX9_count_125 rfl q_882 ?_
    refine sm_bipush X 130 (15) dX9_count_128 rfl rfl ?_
    refine sm_iald X 131 rfl dX9_count_130 rfl (fun r130 e130 => ?_)
    clear e130
    exact sm_iret X hr dX9_count_131 rfl
  refine sm_if (fun h1_9 => ?_) (fun h1_9 => ?_)
  · refine sm_table X 132 dX9_count_1 (by rw [h1_9]; decide) (by rw [h1_9]; decide) (by first | (rw [h1_9]; done) | (rw [h1_9]; rfl)) (by decide) ?_
    refine sm_aload_n X 133 0 dX9_count_132 rfl rfl rfl ?_
    refine sm_geti X 136 rfl fd_9_18 dX9_count_133 rfl q_900 ?_
    exact sm_iret X hr dX9_count_136 rfl
  refine sm_if (fun h1_10 => ?_) (fun h1_10 => ?_)
  · refine sm_table X 137 dX9_count_1 (by rw [h1_10]; decide) (by rw [h1_10]; decide) (by first | (rw [h1_10]; done) | (rw [h1_10]; rfl)) (by decide) ?_
    refine sm_aload_n X 138 0 dX9_count_137 rfl rfl rfl ?_
    refine sm_getf X 141 82 rfl fd_9_0 rfl dX9_count_138 rfl q_882 ?_
    refine sm_bipush X 143 (13) dX9_count_141 rfl rfl ?_
    refine sm_iald X 144 rfl dX9_count_143 rfl (fun r143 e143 => ?_)
    clear e143
    exact sm_iret X hr dX9_count_144 rfl
  have q0 : ¬ (a1).toInt = 0 := ne_toInt h1_0
  have q1 : ¬ (a1).toInt = 1 := ne_toInt h1_1
  have q2 : ¬ (a1).toInt = 2 := ne_toInt h1_2
  have q3 : ¬ (a1).toInt = 3 := ne_toInt h1_3
  have q4 : ¬ (a1).toInt = 4 := ne_toInt h1_4
  have q5 : ¬ (a1).toInt = 5 := ne_toInt h1_5
  have q6 : ¬ (a1).toInt = 6 := ne_toInt h1_6
  have q7 : ¬ (a1).toInt = 7 := ne_toInt h1_7
  have q8 : ¬ (a1).toInt = 8 := ne_toInt h1_8
  have q9 : ¬ (a1).toInt = 9 := ne_toInt h1_9
  have q10 : ¬ (a1).toInt = 10 := ne_toInt h1_10
  refine sm_tableD X 145 dX9_count_1 (by omega) (by decide) ?_
  refine sm_aload_n X 146 0 dX9_count_145 rfl rfl rfl ?_
  refine sm_iconst X 147 (1) dX9_count_146 rfl rfl ?_
  refine sm_bind (fun r147 h147 => ?_)
  refine sm_callV0 X 150 [.int 1] [] [.int r147.1] (c_X9_finds l G σ (1 : Int32) r147 h147) cw_X9_finds q_965 qs_26 q_963 rfl (by decide) rfl rfl rfl rfl rfl (Nat.le_of_ble_eq_true rfl) ⟨Nat.le_of_ble_eq_true rfl, Nat.le_of_ble_eq_true rfl⟩ ⟨Nat.le_refl _, Nat.le_refl _⟩ dX9_count_147 rfl ?_
  exact sm_iret X hr dX9_count_150 rfl
def by_X9_told_0 : List Nat := [27, 133, 10, 20, 0, 47, 184, 0, 49, 153, 0, 12, 42, 180, 0, 19]
def by_X9_told_z : List Nat := [27, 46, 167, 0, 8, 42, 4, 182, 0, 126, 172]
def by_X9_told : List (List Nat) := [by_X9_told_0]
set_option maxRecDepth 100000 in
theorem byo_X9_told : cX9_told.data.toList.map UInt8.toNat = by_X9_told.flatten ++ by_X9_told_z := by decide +kernel
theorem byl_X9_told : by_X9_told.all (fun r => r.length == 16) = true := by decide +kernel
theorem byr_X9_told_0 {j v : Nat} (h : by_X9_told_0[j]? = some v) : RD cX9_told (0 + j) v := rd_16 byo_X9_told byl_X9_told 0 rfl h
theorem byr_X9_told_1 {j v : Nat} (h : by_X9_told_z[j]? = some v) : RD cX9_told (16 + j) v := rd_z byo_X9_told byl_X9_told 1 rfl h
theorem dX9_told_0 : decode cX9_told 0 = .ok (.iload_n 1, 1) := dk_27 (byr_X9_told_0 (j := 0) rfl)
theorem dX9_told_1 : decode cX9_told 1 = .ok (.i2l, 1) := dk_133 (byr_X9_told_0 (j := 1) rfl)
theorem dX9_told_2 : decode cX9_told 2 = .ok (.lconst 1, 1) := dk_10 (byr_X9_told_0 (j := 2) rfl)
theorem dX9_told_3 : decode cX9_told 3 = .ok (.ldc2_w 47, 3) := dk_20 (byr_X9_told_0 (j := 3) rfl) (byr_X9_told_0 (j := 4) rfl) (byr_X9_told_0 (j := 5) rfl) (by decide)
theorem dX9_told_6 : decode cX9_told 6 = .ok (.invokestatic 49, 3) := dk_184 (byr_X9_told_0 (j := 6) rfl) (byr_X9_told_0 (j := 7) rfl) (byr_X9_told_0 (j := 8) rfl) (by decide)
theorem dX9_told_9 : decode cX9_told 9 = .ok (.ifCond .eq 12, 3) := dk_153 (byr_X9_told_0 (j := 9) rfl) (byr_X9_told_0 (j := 10) rfl) (byr_X9_told_0 (j := 11) rfl) (by decide)
theorem dX9_told_12 : decode cX9_told 12 = .ok (.aload_n 0, 1) := dk_42 (byr_X9_told_0 (j := 12) rfl)
theorem dX9_told_13 : decode cX9_told 13 = .ok (.getfield 19, 3) := dk_180 (byr_X9_told_0 (j := 13) rfl) (byr_X9_told_0 (j := 14) rfl) (byr_X9_told_0 (j := 15) rfl) (by decide)
theorem dX9_told_16 : decode cX9_told 16 = .ok (.iload_n 1, 1) := dk_27 (byr_X9_told_1 (j := 0) rfl)
theorem dX9_told_17 : decode cX9_told 17 = .ok (.iaload, 1) := dk_46 (byr_X9_told_1 (j := 1) rfl)
theorem dX9_told_18 : decode cX9_told 18 = .ok (.goto 8, 3) := dk_167 (byr_X9_told_1 (j := 2) rfl) (byr_X9_told_1 (j := 3) rfl) (byr_X9_told_1 (j := 4) rfl) (by decide)
theorem dX9_told_21 : decode cX9_told 21 = .ok (.aload_n 0, 1) := dk_42 (byr_X9_told_1 (j := 5) rfl)
theorem dX9_told_22 : decode cX9_told 22 = .ok (.iconst 1, 1) := dk_4 (byr_X9_told_1 (j := 6) rfl)
theorem dX9_told_23 : decode cX9_told 23 = .ok (.invokevirtual 126, 3) := dk_182 (byr_X9_told_1 (j := 7) rfl) (byr_X9_told_1 (j := 8) rfl) (byr_X9_told_1 (j := 9) rfl) (by decide)
theorem dX9_told_26 : decode cX9_told 26 = .ok (.ireturn, 1) := dk_172 (byr_X9_told_1 (j := 10) rfl)
set_option maxHeartbeats 4000000 in
set_option maxRecDepth 100000 in
theorem c_X9_told (l : Launch) (G : GT) (σ : Sto) (a1 : Int32) (r : (Int32 × Sto)) (h : f_X9_told σ a1 = some r) : MW l G (3) (89) 0 0 yX9_told cX9_told 2 (Option.some Jvm.ClassFile.FieldType.int) [.ref (gad G 81), .int a1] (wl G σ) (some (.int r.1)) (wl G r.2) := by
  refine mw_of RX9 (fiI G) [(0, .ref (gad G 81)), (1, .int a1)] (by decide +kernel) rfl (Nat.le_of_ble_eq_true rfl) rfl h rfl (fun p e s m args below meth c X hr hnm => ?_)
  unfold f_X9_told
  refine sm_iload_n X 1 1 dX9_told_0 rfl rfl rfl ?_
  refine sm_i2l X 2 dX9_told_1 rfl ?_
  refine sm_lconst X 3 (1) dX9_told_2 rfl rfl ?_
  refine sm_ldc2 X 6 (5) dX9_told_3 rfl q_1052 ?_
  refine sm_bind (fun r6 h6 => ?_)
  refine sm_callS0 X 9 [.long (Int32.toInt64 a1), .long (1 : Int64), .long (5 : Int64)] [] [.int (b2i r6)] (c_X9_in l G σ (Int32.toInt64 a1) (1 : Int64) (5 : Int64) r6 h6) cw_X9_in q_961 q_960 rfl rfl rfl (Nat.le_of_ble_eq_true rfl) ⟨Nat.le_of_ble_eq_true rfl, Nat.le_of_ble_eq_true rfl⟩ ⟨Nat.le_refl _, Nat.le_refl _⟩ dX9_told_6 rfl ?_
  refine sm_ifz_eq X 12 21 dX9_told_9 rfl (by decide) (fun h9 => ?_) (fun h9 => ?_)
  · refine sm_aload_n X 13 0 dX9_told_12 rfl rfl rfl ?_
    refine sm_getf X 16 85 rfl fd_9_4 rfl dX9_told_13 rfl q_886 ?_
    refine sm_iload_n X 17 1 dX9_told_16 rfl rfl rfl ?_
    refine sm_iald X 18 rfl dX9_told_17 rfl (fun r17 e17 => ?_)
    clear e17
    refine sm_goto X 26 dX9_told_18 (by decide) ?_
    exact sm_iret X hr dX9_told_26 rfl
  · refine sm_aload_n X 22 0 dX9_told_21 rfl rfl rfl ?_
    refine sm_iconst X 23 (1) dX9_told_22 rfl rfl ?_
    refine sm_bind (fun r23 h23 => ?_)
    refine sm_callV0 X 26 [.int 1] [] [.int r23.1] (c_X9_finds l G σ (1 : Int32) r23 h23) cw_X9_finds q_965 qs_26 q_963 rfl (by decide) rfl rfl rfl rfl rfl (Nat.le_of_ble_eq_true rfl) ⟨Nat.le_of_ble_eq_true rfl, Nat.le_of_ble_eq_true rfl⟩ ⟨Nat.le_refl _, Nat.le_refl _⟩ dX9_told_23 rfl ?_
    exact sm_iret X hr dX9_told_26 rfl
