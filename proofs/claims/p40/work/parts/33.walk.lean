def by_X8_check_0 : List Nat := [42, 180, 0, 10, 180, 1, 37, 62, 42, 180, 0, 10, 3, 181, 1, 37]
def by_X8_check_1 : List Nat := [42, 180, 0, 10, 27, 182, 0, 99, 58, 4, 42, 180, 0, 10, 28, 182]
def by_X8_check_2 : List Nat := [0, 99, 58, 5, 25, 4, 25, 5, 184, 0, 175, 154, 0, 9, 42, 4]
def by_X8_check_3 : List Nat := [182, 0, 76, 172, 42, 180, 0, 29, 42, 180, 0, 10, 42, 180, 0, 10]
def by_X8_check_4 : List Nat := [180, 0, 83, 182, 0, 167, 42, 180, 0, 29, 25, 4, 25, 5, 42, 180]
def by_X8_check_5 : List Nat := [0, 10, 180, 0, 86, 182, 0, 179, 153, 0, 13, 42, 180, 0, 29, 180]
def by_X8_check_6 : List Nat := [0, 186, 167, 0, 10, 42, 180, 0, 10, 180, 0, 89, 54, 6, 3, 54]
def by_X8_check_7 : List Nat := [7, 21, 7, 29, 162, 0, 64, 21, 7, 16, 20, 162, 0, 57, 42, 180]
def by_X8_check_8 : List Nat := [0, 10, 180, 1, 34, 21, 7, 96, 17, 39, 15, 162, 0, 7, 4, 167]
def by_X8_check_9 : List Nat := [0, 4, 3, 54, 8, 21, 8, 153, 0, 18, 42, 180, 0, 10, 180, 1]
def by_X8_check_10 : List Nat := [40, 21, 7, 46, 21, 6, 159, 0, 8, 4, 21, 7, 96, 172, 132, 7]
def by_X8_check_z : List Nat := [1, 167, 255, 192, 3, 172]
def by_X8_check : List (List Nat) := [by_X8_check_0, by_X8_check_1, by_X8_check_2, by_X8_check_3, by_X8_check_4, by_X8_check_5, by_X8_check_6, by_X8_check_7, by_X8_check_8, by_X8_check_9, by_X8_check_10]
set_option maxRecDepth 100000 in
theorem byo_X8_check : cX8_check.data.toList.map UInt8.toNat = by_X8_check.flatten ++ by_X8_check_z := by decide +kernel
theorem byl_X8_check : by_X8_check.all (fun r => r.length == 16) = true := by decide +kernel
theorem byr_X8_check_0 {j v : Nat} (h : by_X8_check_0[j]? = some v) : RD cX8_check (0 + j) v := rd_16 byo_X8_check byl_X8_check 0 rfl h
theorem byr_X8_check_1 {j v : Nat} (h : by_X8_check_1[j]? = some v) : RD cX8_check (16 + j) v := rd_16 byo_X8_check byl_X8_check 1 rfl h
theorem byr_X8_check_2 {j v : Nat} (h : by_X8_check_2[j]? = some v) : RD cX8_check (32 + j) v := rd_16 byo_X8_check byl_X8_check 2 rfl h
theorem byr_X8_check_3 {j v : Nat} (h : by_X8_check_3[j]? = some v) : RD cX8_check (48 + j) v := rd_16 byo_X8_check byl_X8_check 3 rfl h
theorem byr_X8_check_4 {j v : Nat} (h : by_X8_check_4[j]? = some v) : RD cX8_check (64 + j) v := rd_16 byo_X8_check byl_X8_check 4 rfl h
theorem byr_X8_check_5 {j v : Nat} (h : by_X8_check_5[j]? = some v) : RD cX8_check (80 + j) v := rd_16 byo_X8_check byl_X8_check 5 rfl h
theorem byr_X8_check_6 {j v : Nat} (h : by_X8_check_6[j]? = some v) : RD cX8_check (96 + j) v := rd_16 byo_X8_check byl_X8_check 6 rfl h
theorem byr_X8_check_7 {j v : Nat} (h : by_X8_check_7[j]? = some v) : RD cX8_check (112 + j) v := rd_16 byo_X8_check byl_X8_check 7 rfl h
theorem byr_X8_check_8 {j v : Nat} (h : by_X8_check_8[j]? = some v) : RD cX8_check (128 + j) v := rd_16 byo_X8_check byl_X8_check 8 rfl h
theorem byr_X8_check_9 {j v : Nat} (h : by_X8_check_9[j]? = some v) : RD cX8_check (144 + j) v := rd_16 byo_X8_check byl_X8_check 9 rfl h
theorem byr_X8_check_10 {j v : Nat} (h : by_X8_check_10[j]? = some v) : RD cX8_check (160 + j) v := rd_16 byo_X8_check byl_X8_check 10 rfl h
theorem byr_X8_check_11 {j v : Nat} (h : by_X8_check_z[j]? = some v) : RD cX8_check (176 + j) v := rd_z byo_X8_check byl_X8_check 11 rfl h
theorem dX8_check_0 : decode cX8_check 0 = .ok (.aload_n 0, 1) := dk_42 (byr_X8_check_0 (j := 0) rfl)
theorem dX8_check_1 : decode cX8_check 1 = .ok (.getfield 10, 3) := dk_180 (byr_X8_check_0 (j := 1) rfl) (byr_X8_check_0 (j := 2) rfl) (byr_X8_check_0 (j := 3) rfl) (by decide)
theorem dX8_check_4 : decode cX8_check 4 = .ok (.getfield 293, 3) := dk_180 (byr_X8_check_0 (j := 4) rfl) (byr_X8_check_0 (j := 5) rfl) (byr_X8_check_0 (j := 6) rfl) (by decide)
theorem dX8_check_7 : decode cX8_check 7 = .ok (.istore_n 3, 1) := dk_62 (byr_X8_check_0 (j := 7) rfl)
theorem dX8_check_8 : decode cX8_check 8 = .ok (.aload_n 0, 1) := dk_42 (byr_X8_check_0 (j := 8) rfl)
theorem dX8_check_9 : decode cX8_check 9 = .ok (.getfield 10, 3) := dk_180 (byr_X8_check_0 (j := 9) rfl) (byr_X8_check_0 (j := 10) rfl) (byr_X8_check_0 (j := 11) rfl) (by decide)
theorem dX8_check_12 : decode cX8_check 12 = .ok (.iconst 0, 1) := dk_3 (byr_X8_check_0 (j := 12) rfl)
theorem dX8_check_13 : decode cX8_check 13 = .ok (.putfield 293, 3) := dk_181 (byr_X8_check_0 (j := 13) rfl) (byr_X8_check_0 (j := 14) rfl) (byr_X8_check_0 (j := 15) rfl) (by decide)
theorem dX8_check_16 : decode cX8_check 16 = .ok (.aload_n 0, 1) := dk_42 (byr_X8_check_1 (j := 0) rfl)
theorem dX8_check_17 : decode cX8_check 17 = .ok (.getfield 10, 3) := dk_180 (byr_X8_check_1 (j := 1) rfl) (byr_X8_check_1 (j := 2) rfl) (byr_X8_check_1 (j := 3) rfl) (by decide)
theorem dX8_check_20 : decode cX8_check 20 = .ok (.iload_n 1, 1) := dk_27 (byr_X8_check_1 (j := 4) rfl)
theorem dX8_check_21 : decode cX8_check 21 = .ok (.invokevirtual 99, 3) := dk_182 (byr_X8_check_1 (j := 5) rfl) (byr_X8_check_1 (j := 6) rfl) (byr_X8_check_1 (j := 7) rfl) (by decide)
theorem dX8_check_24 : decode cX8_check 24 = .ok (.astore 4, 2) := dk_58 (byr_X8_check_1 (j := 8) rfl) (byr_X8_check_1 (j := 9) rfl)
theorem dX8_check_26 : decode cX8_check 26 = .ok (.aload_n 0, 1) := dk_42 (byr_X8_check_1 (j := 10) rfl)
theorem dX8_check_27 : decode cX8_check 27 = .ok (.getfield 10, 3) := dk_180 (byr_X8_check_1 (j := 11) rfl) (byr_X8_check_1 (j := 12) rfl) (byr_X8_check_1 (j := 13) rfl) (by decide)
theorem dX8_check_30 : decode cX8_check 30 = .ok (.iload_n 2, 1) := dk_28 (byr_X8_check_1 (j := 14) rfl)
theorem dX8_check_31 : decode cX8_check 31 = .ok (.invokevirtual 99, 3) := dk_182 (byr_X8_check_1 (j := 15) rfl) (byr_X8_check_2 (j := 0) rfl) (byr_X8_check_2 (j := 1) rfl) (by decide)
theorem dX8_check_34 : decode cX8_check 34 = .ok (.astore 5, 2) := dk_58 (byr_X8_check_2 (j := 2) rfl) (byr_X8_check_2 (j := 3) rfl)
theorem dX8_check_36 : decode cX8_check 36 = .ok (.aload 4, 2) := dk_25 (byr_X8_check_2 (j := 4) rfl) (byr_X8_check_2 (j := 5) rfl)
theorem dX8_check_38 : decode cX8_check 38 = .ok (.aload 5, 2) := dk_25 (byr_X8_check_2 (j := 6) rfl) (byr_X8_check_2 (j := 7) rfl)
theorem dX8_check_40 : decode cX8_check 40 = .ok (.invokestatic 175, 3) := dk_184 (byr_X8_check_2 (j := 8) rfl) (byr_X8_check_2 (j := 9) rfl) (byr_X8_check_2 (j := 10) rfl) (by decide)
theorem dX8_check_43 : decode cX8_check 43 = .ok (.ifCond .ne 9, 3) := dk_154 (byr_X8_check_2 (j := 11) rfl) (byr_X8_check_2 (j := 12) rfl) (byr_X8_check_2 (j := 13) rfl) (by decide)
theorem dX8_check_46 : decode cX8_check 46 = .ok (.aload_n 0, 1) := dk_42 (byr_X8_check_2 (j := 14) rfl)
theorem dX8_check_47 : decode cX8_check 47 = .ok (.iconst 1, 1) := dk_4 (byr_X8_check_2 (j := 15) rfl)
theorem dX8_check_48 : decode cX8_check 48 = .ok (.invokevirtual 76, 3) := dk_182 (byr_X8_check_3 (j := 0) rfl) (byr_X8_check_3 (j := 1) rfl) (byr_X8_check_3 (j := 2) rfl) (by decide)
theorem dX8_check_51 : decode cX8_check 51 = .ok (.ireturn, 1) := dk_172 (byr_X8_check_3 (j := 3) rfl)
theorem dX8_check_52 : decode cX8_check 52 = .ok (.aload_n 0, 1) := dk_42 (byr_X8_check_3 (j := 4) rfl)
theorem dX8_check_53 : decode cX8_check 53 = .ok (.getfield 29, 3) := dk_180 (byr_X8_check_3 (j := 5) rfl) (byr_X8_check_3 (j := 6) rfl) (byr_X8_check_3 (j := 7) rfl) (by decide)
theorem dX8_check_56 : decode cX8_check 56 = .ok (.aload_n 0, 1) := dk_42 (byr_X8_check_3 (j := 8) rfl)
theorem dX8_check_57 : decode cX8_check 57 = .ok (.getfield 10, 3) := dk_180 (byr_X8_check_3 (j := 9) rfl) (byr_X8_check_3 (j := 10) rfl) (byr_X8_check_3 (j := 11) rfl) (by decide)
theorem dX8_check_60 : decode cX8_check 60 = .ok (.aload_n 0, 1) := dk_42 (byr_X8_check_3 (j := 12) rfl)
theorem dX8_check_61 : decode cX8_check 61 = .ok (.getfield 10, 3) := dk_180 (byr_X8_check_3 (j := 13) rfl) (byr_X8_check_3 (j := 14) rfl) (byr_X8_check_3 (j := 15) rfl) (by decide)
theorem dX8_check_64 : decode cX8_check 64 = .ok (.getfield 83, 3) := dk_180 (byr_X8_check_4 (j := 0) rfl) (byr_X8_check_4 (j := 1) rfl) (byr_X8_check_4 (j := 2) rfl) (by decide)
theorem dX8_check_67 : decode cX8_check 67 = .ok (.invokevirtual 167, 3) := dk_182 (byr_X8_check_4 (j := 3) rfl) (byr_X8_check_4 (j := 4) rfl) (byr_X8_check_4 (j := 5) rfl) (by decide)
theorem dX8_check_70 : decode cX8_check 70 = .ok (.aload_n 0, 1) := dk_42 (byr_X8_check_4 (j := 6) rfl)
theorem dX8_check_71 : decode cX8_check 71 = .ok (.getfield 29, 3) := dk_180 (byr_X8_check_4 (j := 7) rfl) (byr_X8_check_4 (j := 8) rfl) (byr_X8_check_4 (j := 9) rfl) (by decide)
theorem dX8_check_74 : decode cX8_check 74 = .ok (.aload 4, 2) := dk_25 (byr_X8_check_4 (j := 10) rfl) (byr_X8_check_4 (j := 11) rfl)
theorem dX8_check_76 : decode cX8_check 76 = .ok (.aload 5, 2) := dk_25 (byr_X8_check_4 (j := 12) rfl) (byr_X8_check_4 (j := 13) rfl)
theorem dX8_check_78 : decode cX8_check 78 = .ok (.aload_n 0, 1) := dk_42 (byr_X8_check_4 (j := 14) rfl)
theorem dX8_check_79 : decode cX8_check 79 = .ok (.getfield 10, 3) := dk_180 (byr_X8_check_4 (j := 15) rfl) (byr_X8_check_5 (j := 0) rfl) (byr_X8_check_5 (j := 1) rfl) (by decide)
theorem dX8_check_82 : decode cX8_check 82 = .ok (.getfield 86, 3) := dk_180 (byr_X8_check_5 (j := 2) rfl) (byr_X8_check_5 (j := 3) rfl) (byr_X8_check_5 (j := 4) rfl) (by decide)
theorem dX8_check_85 : decode cX8_check 85 = .ok (.invokevirtual 179, 3) := dk_182 (byr_X8_check_5 (j := 5) rfl) (byr_X8_check_5 (j := 6) rfl) (byr_X8_check_5 (j := 7) rfl) (by decide)
theorem dX8_check_88 : decode cX8_check 88 = .ok (.ifCond .eq 13, 3) := dk_153 (byr_X8_check_5 (j := 8) rfl) (byr_X8_check_5 (j := 9) rfl) (byr_X8_check_5 (j := 10) rfl) (by decide)
theorem dX8_check_91 : decode cX8_check 91 = .ok (.aload_n 0, 1) := dk_42 (byr_X8_check_5 (j := 11) rfl)
theorem dX8_check_92 : decode cX8_check 92 = .ok (.getfield 29, 3) := dk_180 (byr_X8_check_5 (j := 12) rfl) (byr_X8_check_5 (j := 13) rfl) (byr_X8_check_5 (j := 14) rfl) (by decide)
theorem dX8_check_95 : decode cX8_check 95 = .ok (.getfield 186, 3) := dk_180 (byr_X8_check_5 (j := 15) rfl) (byr_X8_check_6 (j := 0) rfl) (byr_X8_check_6 (j := 1) rfl) (by decide)
theorem dX8_check_98 : decode cX8_check 98 = .ok (.goto 10, 3) := dk_167 (byr_X8_check_6 (j := 2) rfl) (byr_X8_check_6 (j := 3) rfl) (byr_X8_check_6 (j := 4) rfl) (by decide)
theorem dX8_check_101 : decode cX8_check 101 = .ok (.aload_n 0, 1) := dk_42 (byr_X8_check_6 (j := 5) rfl)
theorem dX8_check_102 : decode cX8_check 102 = .ok (.getfield 10, 3) := dk_180 (byr_X8_check_6 (j := 6) rfl) (byr_X8_check_6 (j := 7) rfl) (byr_X8_check_6 (j := 8) rfl) (by decide)
theorem dX8_check_105 : decode cX8_check 105 = .ok (.getfield 89, 3) := dk_180 (byr_X8_check_6 (j := 9) rfl) (byr_X8_check_6 (j := 10) rfl) (byr_X8_check_6 (j := 11) rfl) (by decide)
theorem dX8_check_108 : decode cX8_check 108 = .ok (.istore 6, 2) := dk_54 (byr_X8_check_6 (j := 12) rfl) (byr_X8_check_6 (j := 13) rfl)
theorem dX8_check_110 : decode cX8_check 110 = .ok (.iconst 0, 1) := dk_3 (byr_X8_check_6 (j := 14) rfl)
theorem dX8_check_111 : decode cX8_check 111 = .ok (.istore 7, 2) := dk_54 (byr_X8_check_6 (j := 15) rfl) (byr_X8_check_7 (j := 0) rfl)
theorem dX8_check_113 : decode cX8_check 113 = .ok (.iload 7, 2) := dk_21 (byr_X8_check_7 (j := 1) rfl) (byr_X8_check_7 (j := 2) rfl)
theorem dX8_check_115 : decode cX8_check 115 = .ok (.iload_n 3, 1) := dk_29 (byr_X8_check_7 (j := 3) rfl)
theorem dX8_check_116 : decode cX8_check 116 = .ok (.if_icmp .ge 64, 3) := dk_162 (byr_X8_check_7 (j := 4) rfl) (byr_X8_check_7 (j := 5) rfl) (byr_X8_check_7 (j := 6) rfl) (by decide)
theorem dX8_check_119 : decode cX8_check 119 = .ok (.iload 7, 2) := dk_21 (byr_X8_check_7 (j := 7) rfl) (byr_X8_check_7 (j := 8) rfl)
theorem dX8_check_121 : decode cX8_check 121 = .ok (.bipush 20, 2) := dk_16 (byr_X8_check_7 (j := 9) rfl) (byr_X8_check_7 (j := 10) rfl) (by decide)
theorem dX8_check_123 : decode cX8_check 123 = .ok (.if_icmp .ge 57, 3) := dk_162 (byr_X8_check_7 (j := 11) rfl) (byr_X8_check_7 (j := 12) rfl) (byr_X8_check_7 (j := 13) rfl) (by decide)
theorem dX8_check_126 : decode cX8_check 126 = .ok (.aload_n 0, 1) := dk_42 (byr_X8_check_7 (j := 14) rfl)
theorem dX8_check_127 : decode cX8_check 127 = .ok (.getfield 10, 3) := dk_180 (byr_X8_check_7 (j := 15) rfl) (byr_X8_check_8 (j := 0) rfl) (byr_X8_check_8 (j := 1) rfl) (by decide)
theorem dX8_check_130 : decode cX8_check 130 = .ok (.getfield 290, 3) := dk_180 (byr_X8_check_8 (j := 2) rfl) (byr_X8_check_8 (j := 3) rfl) (byr_X8_check_8 (j := 4) rfl) (by decide)
theorem dX8_check_133 : decode cX8_check 133 = .ok (.iload 7, 2) := dk_21 (byr_X8_check_8 (j := 5) rfl) (byr_X8_check_8 (j := 6) rfl)
theorem dX8_check_135 : decode cX8_check 135 = .ok (.iadd, 1) := dk_96 (byr_X8_check_8 (j := 7) rfl)
theorem dX8_check_136 : decode cX8_check 136 = .ok (.sipush 9999, 3) := dk_17 (byr_X8_check_8 (j := 8) rfl) (byr_X8_check_8 (j := 9) rfl) (byr_X8_check_8 (j := 10) rfl) (by decide)
theorem dX8_check_139 : decode cX8_check 139 = .ok (.if_icmp .ge 7, 3) := dk_162 (byr_X8_check_8 (j := 11) rfl) (byr_X8_check_8 (j := 12) rfl) (byr_X8_check_8 (j := 13) rfl) (by decide)
theorem dX8_check_142 : decode cX8_check 142 = .ok (.iconst 1, 1) := dk_4 (byr_X8_check_8 (j := 14) rfl)
theorem dX8_check_143 : decode cX8_check 143 = .ok (.goto 4, 3) := dk_167 (byr_X8_check_8 (j := 15) rfl) (byr_X8_check_9 (j := 0) rfl) (byr_X8_check_9 (j := 1) rfl) (by decide)
theorem dX8_check_146 : decode cX8_check 146 = .ok (.iconst 0, 1) := dk_3 (byr_X8_check_9 (j := 2) rfl)
theorem dX8_check_147 : decode cX8_check 147 = .ok (.istore 8, 2) := dk_54 (byr_X8_check_9 (j := 3) rfl) (byr_X8_check_9 (j := 4) rfl)
theorem dX8_check_149 : decode cX8_check 149 = .ok (.iload 8, 2) := dk_21 (byr_X8_check_9 (j := 5) rfl) (byr_X8_check_9 (j := 6) rfl)
theorem dX8_check_151 : decode cX8_check 151 = .ok (.ifCond .eq 18, 3) := dk_153 (byr_X8_check_9 (j := 7) rfl) (byr_X8_check_9 (j := 8) rfl) (byr_X8_check_9 (j := 9) rfl) (by decide)
theorem dX8_check_154 : decode cX8_check 154 = .ok (.aload_n 0, 1) := dk_42 (byr_X8_check_9 (j := 10) rfl)
theorem dX8_check_155 : decode cX8_check 155 = .ok (.getfield 10, 3) := dk_180 (byr_X8_check_9 (j := 11) rfl) (byr_X8_check_9 (j := 12) rfl) (byr_X8_check_9 (j := 13) rfl) (by decide)
theorem dX8_check_158 : decode cX8_check 158 = .ok (.getfield 296, 3) := dk_180 (byr_X8_check_9 (j := 14) rfl) (byr_X8_check_9 (j := 15) rfl) (byr_X8_check_10 (j := 0) rfl) (by decide)
theorem dX8_check_161 : decode cX8_check 161 = .ok (.iload 7, 2) := dk_21 (byr_X8_check_10 (j := 1) rfl) (byr_X8_check_10 (j := 2) rfl)
theorem dX8_check_163 : decode cX8_check 163 = .ok (.iaload, 1) := dk_46 (byr_X8_check_10 (j := 3) rfl)
theorem dX8_check_164 : decode cX8_check 164 = .ok (.iload 6, 2) := dk_21 (byr_X8_check_10 (j := 4) rfl) (byr_X8_check_10 (j := 5) rfl)
theorem dX8_check_166 : decode cX8_check 166 = .ok (.if_icmp .eq 8, 3) := dk_159 (byr_X8_check_10 (j := 6) rfl) (byr_X8_check_10 (j := 7) rfl) (byr_X8_check_10 (j := 8) rfl) (by decide)
theorem dX8_check_169 : decode cX8_check 169 = .ok (.iconst 1, 1) := dk_4 (byr_X8_check_10 (j := 9) rfl)
theorem dX8_check_170 : decode cX8_check 170 = .ok (.iload 7, 2) := dk_21 (byr_X8_check_10 (j := 10) rfl) (byr_X8_check_10 (j := 11) rfl)
theorem dX8_check_172 : decode cX8_check 172 = .ok (.iadd, 1) := dk_96 (byr_X8_check_10 (j := 12) rfl)
theorem dX8_check_173 : decode cX8_check 173 = .ok (.ireturn, 1) := dk_172 (byr_X8_check_10 (j := 13) rfl)
theorem dX8_check_174 : decode cX8_check 174 = .ok (.iinc 7 1, 3) := dk_132 (byr_X8_check_10 (j := 14) rfl) (byr_X8_check_10 (j := 15) rfl) (byr_X8_check_11 (j := 0) rfl) (by decide)
theorem dX8_check_177 : decode cX8_check 177 = .ok (.goto (-64), 3) := dk_167 (byr_X8_check_11 (j := 1) rfl) (byr_X8_check_11 (j := 2) rfl) (byr_X8_check_11 (j := 3) rfl) (by decide)
theorem dX8_check_180 : decode cX8_check 180 = .ok (.iconst 0, 1) := dk_3 (byr_X8_check_11 (j := 4) rfl)
theorem dX8_check_181 : decode cX8_check 181 = .ok (.ireturn, 1) := dk_172 (byr_X8_check_11 (j := 5) rfl)
set_option maxHeartbeats 4000000 in
set_option maxRecDepth 100000 in
theorem c_X8_check (l : Launch) (G : GT) (σ : Sto) (a1 : Int32) (a2 : Int32) (r : (Int32 × Sto)) (h : f_X8_check σ a1 a2 = some r) : MW l G (7) (181) 0 0 yX8_check cX8_check 9 (Option.some Jvm.ClassFile.FieldType.int) [.ref (gad G 0), .int a1, .int a2] (wl G σ) (some (.int r.1)) (wl G r.2) := by
  refine mw_of RX8 (fiI G) [(0, .ref (gad G 0)), (1, .int a1), (2, .int a2)] (by decide +kernel) rfl (Nat.le_of_ble_eq_true rfl) rfl h rfl (fun p e s m args below meth c X hr hnm => ?_)
  have J147 : ∀ (v3 : Int32) (v6 : Int32) (v7 : Int32) (vs0 : Bool) (K113 : Int32 → Sto → Option (Int32 × Sto)) (hK113 : ∀ (v7' : Int32) (σ' : Sto), Sm p l e { frames := 7, cells := 0, slots := 0, locals := 181 } s m args below meth c G 9 (Qm below args s G 0 0 (fiI G)) 0 0 (wl G σ') 113 [(0, .ref (gad G 0)), (3, .int v3), (6, .int v6), (7, .int v7')] [] (K113 v7' σ')) (σ : Sto), Sm p l e { frames := 7, cells := 0, slots := 0, locals := 181 } s m args below meth c G 9 (Qm below args s G 0 0 (fiI G)) 0 0 (wl G σ) 147 [(0, .ref (gad G 0)), (3, .int v3), (6, .int v6), (7, .int v7)] [.int (b2i vs0)] (f_X8_check_L147 K113 v3 v6 v7 vs0 σ) := by
    intro v3 v6 v7 vs0 K113 hK113 σ
    rw [f_X8_check_L147]
    refine sm_istore X 149 [(8, .int (b2i vs0)), (0, .ref (gad G 0)), (3, .int v3), (6, .int v6), (7, .int v7)] dX8_check_147 rfl (by decide) rfl ?_
    refine sm_iload X 151 0 dX8_check_149 rfl rfl ?_
    refine sm_ifz_eq X 154 169 dX8_check_151 rfl (by decide) (fun h151 => ?_) (fun h151 => ?_)
    · refine sm_aload_n X 155 1 dX8_check_154 rfl rfl rfl ?_
      refine sm_getf X 158 1 rfl fd_8_0 rfl dX8_check_155 rfl q_289 ?_
      refine sm_getf X 161 11 rfl fd_0_13 rfl dX8_check_158 rfl q_113 ?_
      refine sm_iload X 163 4 dX8_check_161 rfl rfl ?_
      refine sm_iald X 164 rfl dX8_check_163 rfl (fun r163 e163 => ?_)
      clear e163
      refine sm_iload X 166 3 dX8_check_164 rfl rfl ?_
      refine sm_icmp_eq X 169 174 dX8_check_166 rfl (by decide) (fun h166 => ?_) (fun h166 => ?_)
      · refine sm_iinc X 177 4 (1 : Int32) [(7, .int (v7 + (1 : Int32))), (8, .int (b2i vs0)), (0, .ref (gad G 0)), (3, .int v3), (6, .int v6)] dX8_check_174 rfl rfl rfl (by decide) rfl ?_
        refine sm_goto X 113 dX8_check_177 (by decide) ?_
        exact sm_sub [2, 3, 4, 0] rfl (hK113 (v7 + (1 : Int32)) σ)
      · refine sm_iconst X 170 (1) dX8_check_169 rfl rfl ?_
        refine sm_iload X 172 4 dX8_check_170 rfl rfl ?_
        refine sm_iadd X 173 dX8_check_172 rfl ?_
        exact sm_iret X hr dX8_check_173 rfl
    · refine sm_iconst X 170 (1) dX8_check_169 rfl rfl ?_
      refine sm_iload X 172 4 dX8_check_170 rfl rfl ?_
      refine sm_iadd X 173 dX8_check_172 rfl ?_
      exact sm_iret X hr dX8_check_173 rfl
  have J113 : ∀ (v3 : Int32) (v6 : Int32)  (n : Nat) (v7 : Int32) (σ : Sto), Sm p l e { frames := 7, cells := 0, slots := 0, locals := 181 } s m args below meth c G 9 (Qm below args s G 0 0 (fiI G)) 0 0 (wl G σ) 113 [(0, .ref (gad G 0)), (3, .int v3), (6, .int v6), (7, .int v7)] [] (f_X8_check_L113  v3 v6 n v7 σ) := by
    intro v3 v6 n
    induction n with
    | zero => intro v7 σ; rw [f_X8_check_L113]; exact sm_none
    | succ n ihl =>
      intro v7 σ
      rw [f_X8_check_L113]
      refine sm_iload X 115 3 dX8_check_113 rfl rfl ?_
      refine sm_iload_n X 116 1 dX8_check_115 rfl rfl rfl ?_
      refine sm_icmp_ge X 119 180 dX8_check_116 rfl (by decide) (fun h116 => ?_) (fun h116 => ?_)
      · refine sm_iconst X 181 (0) dX8_check_180 rfl rfl ?_
        exact sm_iret X hr dX8_check_181 rfl
      · refine sm_iload X 121 3 dX8_check_119 rfl rfl ?_
        refine sm_bipush X 123 (20) dX8_check_121 rfl rfl ?_
        refine sm_icmp_ge X 126 180 dX8_check_123 rfl (by decide) (fun h123 => ?_) (fun h123 => ?_)
        · refine sm_iconst X 181 (0) dX8_check_180 rfl rfl ?_
          exact sm_iret X hr dX8_check_181 rfl
        · refine sm_aload_n X 127 0 dX8_check_126 rfl rfl rfl ?_
          refine sm_getf X 130 1 rfl fd_8_0 rfl dX8_check_127 rfl q_289 ?_
          refine sm_geti X 133 rfl fd_0_4 dX8_check_130 rfl q_98 ?_
          refine sm_iload X 135 3 dX8_check_133 rfl rfl ?_
          refine sm_iadd X 136 dX8_check_135 rfl ?_
          refine sm_sipush X 139 (9999) dX8_check_136 rfl rfl ?_
          refine sm_icmp_ge X 142 146 dX8_check_139 rfl (by decide) (fun h139 => ?_) (fun h139 => ?_)
          · refine sm_iconst X 147 (0) dX8_check_146 rfl rfl ?_
            exact sm_sub [0, 1, 2, 3] rfl (J147 v3 v6 v7 false (f_X8_check_L113  v3 v6 n) ihl σ)
          · refine sm_iconst X 143 (1) dX8_check_142 rfl rfl ?_
            refine sm_goto X 147 dX8_check_143 (by decide) ?_
            exact sm_sub [0, 1, 2, 3] rfl (J147 v3 v6 v7 true (f_X8_check_L113  v3 v6 n) ihl σ)
  have J108 : ∀ (v3 : Int32) (vs0 : Int32)  (σ : Sto), Sm p l e { frames := 7, cells := 0, slots := 0, locals := 181 } s m args below meth c G 9 (Qm below args s G 0 0 (fiI G)) 0 0 (wl G σ) 108 [(0, .ref (gad G 0)), (3, .int v3)] [.int vs0] (f_X8_check_L108  v3 vs0 σ) := by
    intro v3 vs0 σ
    rw [f_X8_check_L108]
    refine sm_istore X 110 [(6, .int vs0), (0, .ref (gad G 0)), (3, .int v3)] dX8_check_108 rfl (by decide) rfl ?_
    refine sm_iconst X 111 (0) dX8_check_110 rfl rfl ?_
    refine sm_istore X 113 [(7, .int 0), (6, .int vs0), (0, .ref (gad G 0)), (3, .int v3)] dX8_check_111 rfl (by decide) rfl ?_
    exact sm_sub [2, 3, 1, 0] rfl (J113 v3 vs0  FU (0 : Int32) σ)
  unfold f_X8_check
  refine sm_aload_n X 1 0 dX8_check_0 rfl rfl rfl ?_
  refine sm_getf X 4 1 rfl fd_8_0 rfl dX8_check_1 rfl q_289 ?_
  refine sm_geti X 7 rfl fd_0_14 dX8_check_4 rfl q_115 ?_
  refine sm_istore_n X 8 [(3, .int (σ.1 1 14)), (0, .ref (gad G 0)), (1, .int a1), (2, .int a2)] dX8_check_7 rfl rfl (by decide) rfl ?_
  refine sm_aload_n X 9 1 dX8_check_8 rfl rfl rfl ?_
  refine sm_getf X 12 1 rfl fd_8_0 rfl dX8_check_9 rfl q_289 ?_
  refine sm_iconst X 13 (0) dX8_check_12 rfl rfl ?_
  refine sm_puti X 16 .int rfl fd_0_14 (by decide) rfl rfl rfl dX8_check_13 rfl q_115 (fun σ13 e13 => ?_)
  clear e13
  refine sm_aload_n X 17 1 dX8_check_16 rfl rfl rfl ?_
  refine sm_getf X 20 1 rfl fd_8_0 rfl dX8_check_17 rfl q_289 ?_
  refine sm_iload_n X 21 2 dX8_check_20 rfl rfl rfl ?_
  refine sm_bind (fun r21 h21 => ?_)
  refine sm_callV0 X 24 [.int a1] [] [va_re (gad G) r21] (c_X0_swimmerAt l G σ13 1 rfl a1 r21 h21) cw_X0_swimmerAt q_376 q_377 q_375 rfl (by decide) rfl rfl rfl rfl rfl (Nat.le_of_ble_eq_true rfl) ⟨Nat.le_of_ble_eq_true rfl, Nat.le_of_ble_eq_true rfl⟩ ⟨Nat.le_refl _, Nat.le_refl _⟩ dX8_check_21 rfl ?_
  refine sm_astoreq X 26 [(4, va_re (gad G) r21), (3, .int (σ.1 1 14)), (0, .ref (gad G 0)), (1, .int a1), (2, .int a2)] dX8_check_24 rfl (by decide) rfl ?_
  refine sm_aload_n X 27 2 dX8_check_26 rfl rfl rfl ?_
  refine sm_getf X 30 1 rfl fd_8_0 rfl dX8_check_27 rfl q_289 ?_
  refine sm_iload_n X 31 4 dX8_check_30 rfl rfl rfl ?_
  refine sm_bind (fun r31 h31 => ?_)
  refine sm_callV0 X 34 [.int a2] [] [va_re (gad G) r31] (c_X0_swimmerAt l G σ13 1 rfl a2 r31 h31) cw_X0_swimmerAt q_376 q_377 q_375 rfl (by decide) rfl rfl rfl rfl rfl (Nat.le_of_ble_eq_true rfl) ⟨Nat.le_of_ble_eq_true rfl, Nat.le_of_ble_eq_true rfl⟩ ⟨Nat.le_refl _, Nat.le_refl _⟩ dX8_check_31 rfl ?_
  refine sm_astoreq X 36 [(5, va_re (gad G) r31), (4, va_re (gad G) r21), (3, .int (σ.1 1 14)), (0, .ref (gad G 0)), (1, .int a1), (2, .int a2)] dX8_check_34 rfl (by decide) (by cases r21 <;> rfl) ?_
  refine sm_aloadq X 38 1 dX8_check_36 rfl rfl ?_
  refine sm_aloadq X 40 0 dX8_check_38 rfl rfl ?_
  refine sm_bind (fun r40 h40 => ?_)
  refine sm_callS0 X 43 [va_re (gad G) r21, va_re (gad G) r31] [] [.int (b2i r40)] (c_X8_areUnlike l G σ13 r21 r31 r40 h40) cw_X8_areUnlike q_636 q_635 rfl rfl rfl (Nat.le_of_ble_eq_true rfl) ⟨Nat.le_of_ble_eq_true rfl, Nat.le_of_ble_eq_true rfl⟩ ⟨Nat.le_refl _, Nat.le_refl _⟩ dX8_check_40 rfl ?_
  refine sm_ifz_ne X 46 52 dX8_check_43 rfl (by decide) (fun h43 => ?_) (fun h43 => ?_)
  · refine sm_aload_n X 53 3 dX8_check_52 rfl rfl rfl ?_
    refine sm_getf X 56 58 rfl fd_8_3 rfl dX8_check_53 rfl q_292 ?_
    refine sm_aload_n X 57 3 dX8_check_56 rfl rfl rfl ?_
    refine sm_getf X 60 1 rfl fd_8_0 rfl dX8_check_57 rfl q_289 ?_
    refine sm_aload_n X 61 3 dX8_check_60 rfl rfl rfl ?_
    refine sm_getf X 64 1 rfl fd_8_0 rfl dX8_check_61 rfl q_289 ?_
    refine sm_geti X 67 rfl fd_0_1 dX8_check_64 rfl q_92 ?_
    refine sm_bind (fun r67 h67 => ?_)
    refine sm_callV0 X 70 [.ref (gad G 1), .int (σ13.1 1 1)] [] [] (c_X5_feel l G σ13 1 rfl (σ13.1 1 1) r67 h67) cw_X5_feel q_603 q_604 q_602 rfl (by decide) rfl rfl rfl rfl rfl (Nat.le_of_ble_eq_true rfl) ⟨Nat.le_of_ble_eq_true rfl, Nat.le_of_ble_eq_true rfl⟩ ⟨Nat.le_refl _, Nat.le_refl _⟩ dX8_check_67 rfl ?_
    refine sm_aload_n X 71 3 dX8_check_70 rfl rfl rfl ?_
    refine sm_getf X 74 58 rfl fd_8_3 rfl dX8_check_71 rfl q_292 ?_
    refine sm_aloadq X 76 1 dX8_check_74 rfl rfl ?_
    refine sm_aloadq X 78 0 dX8_check_76 rfl rfl ?_
    refine sm_aload_n X 79 3 dX8_check_78 rfl rfl rfl ?_
    refine sm_getf X 82 1 rfl fd_8_0 rfl dX8_check_79 rfl q_289 ?_
    refine sm_geti X 85 rfl fd_0_2 dX8_check_82 rfl q_94 ?_
    refine sm_deref (fun k85 h hk85 => ?_)
    subst h
    refine sm_deref (fun k85' h hk85' => ?_)
    subst h
    refine sm_bind (fun r85 h85 => ?_)
    refine sm_callV0 X 88 [.ref (gad G k85), .ref (gad G k85'), .int (r67.1 1 2)] [] [.int (b2i r85.1)] (c_X5_meets l G r67 k85 hk85 k85' hk85' (r67.1 1 2) r85 h85) cw_X5_meets q_639 q_640 q_638 rfl (by decide) rfl rfl rfl rfl rfl (Nat.le_of_ble_eq_true rfl) ⟨Nat.le_of_ble_eq_true rfl, Nat.le_of_ble_eq_true rfl⟩ ⟨Nat.le_refl _, Nat.le_refl _⟩ dX8_check_85 rfl ?_
    refine sm_ifz_eq X 91 101 dX8_check_88 rfl (by decide) (fun h88 => ?_) (fun h88 => ?_)
    · refine sm_aload_n X 92 3 dX8_check_91 rfl rfl rfl ?_
      refine sm_getf X 95 58 rfl fd_8_3 rfl dX8_check_92 rfl q_292 ?_
      refine sm_geti X 98 rfl fd_5_2 dX8_check_95 rfl q_190 ?_
      refine sm_goto X 108 dX8_check_98 (by decide) ?_
      exact sm_sub [3, 2] rfl (J108 (σ.1 1 14) (r85.2.1 58 2)  r85.2)
    · refine sm_aload_n X 102 3 dX8_check_101 rfl rfl rfl ?_
      refine sm_getf X 105 1 rfl fd_8_0 rfl dX8_check_102 rfl q_289 ?_
      refine sm_geti X 108 rfl fd_0_3 dX8_check_105 rfl q_96 ?_
      exact sm_sub [3, 2] rfl (J108 (σ.1 1 14) (r85.2.1 1 3)  r85.2)
  · refine sm_aload_n X 47 3 dX8_check_46 rfl rfl rfl ?_
    refine sm_iconst X 48 (1) dX8_check_47 rfl rfl ?_
    refine sm_bind (fun r48 h48 => ?_)
    refine sm_callV0 X 51 [.int 1] [] [.int r48.1] (c_X8_refuse l G σ13 (1 : Int32) r48 h48) cw_X8_refuse q_332 qs_0 q_330 rfl (by decide) rfl rfl rfl rfl rfl (Nat.le_of_ble_eq_true rfl) ⟨Nat.le_of_ble_eq_true rfl, Nat.le_of_ble_eq_true rfl⟩ ⟨Nat.le_refl _, Nat.le_refl _⟩ dX8_check_48 rfl ?_
    exact sm_iret X hr dX8_check_51 rfl
def by_X8_count_0 : List Nat := [27, 170, 0, 0, 0, 0, 0, 147, 0, 0, 0, 0, 0, 0, 0, 10]
def by_X8_count_1 : List Nat := [0, 0, 0, 59, 0, 0, 0, 67, 0, 0, 0, 75, 0, 0, 0, 83]
def by_X8_count_2 : List Nat := [0, 0, 0, 91, 0, 0, 0, 99, 0, 0, 0, 107, 0, 0, 0, 115]
def by_X8_count_3 : List Nat := [0, 0, 0, 123, 0, 0, 0, 131, 0, 0, 0, 139, 42, 180, 0, 10]
def by_X8_count_4 : List Nat := [180, 1, 34, 172, 42, 180, 0, 10, 180, 0, 96, 172, 42, 180, 0, 10]
def by_X8_count_5 : List Nat := [180, 0, 89, 172, 42, 180, 0, 10, 180, 1, 43, 172, 42, 180, 0, 10]
def by_X8_count_6 : List Nat := [180, 1, 46, 172, 42, 180, 0, 10, 180, 0, 83, 172, 42, 180, 0, 10]
def by_X8_count_7 : List Nat := [180, 0, 86, 172, 42, 180, 0, 10, 180, 0, 139, 172, 42, 180, 0, 10]
def by_X8_count_8 : List Nat := [180, 1, 37, 172, 42, 180, 0, 43, 180, 0, 240, 172, 42, 180, 0, 10]
def by_X8_count_z : List Nat := [180, 0, 233, 172, 42, 4, 182, 0, 76, 172]
def by_X8_count : List (List Nat) := [by_X8_count_0, by_X8_count_1, by_X8_count_2, by_X8_count_3, by_X8_count_4, by_X8_count_5, by_X8_count_6, by_X8_count_7, by_X8_count_8]
set_option maxRecDepth 100000 in
theorem byo_X8_count : cX8_count.data.toList.map UInt8.toNat = by_X8_count.flatten ++ by_X8_count_z := by decide +kernel
theorem byl_X8_count : by_X8_count.all (fun r => r.length == 16) = true := by decide +kernel
theorem byr_X8_count_0 {j v : Nat} (h : by_X8_count_0[j]? = some v) : RD cX8_count (0 + j) v := rd_16 byo_X8_count byl_X8_count 0 rfl h
theorem byr_X8_count_1 {j v : Nat} (h : by_X8_count_1[j]? = some v) : RD cX8_count (16 + j) v := rd_16 byo_X8_count byl_X8_count 1 rfl h
theorem byr_X8_count_2 {j v : Nat} (h : by_X8_count_2[j]? = some v) : RD cX8_count (32 + j) v := rd_16 byo_X8_count byl_X8_count 2 rfl h
theorem byr_X8_count_3 {j v : Nat} (h : by_X8_count_3[j]? = some v) : RD cX8_count (48 + j) v := rd_16 byo_X8_count byl_X8_count 3 rfl h
theorem byr_X8_count_4 {j v : Nat} (h : by_X8_count_4[j]? = some v) : RD cX8_count (64 + j) v := rd_16 byo_X8_count byl_X8_count 4 rfl h
theorem byr_X8_count_5 {j v : Nat} (h : by_X8_count_5[j]? = some v) : RD cX8_count (80 + j) v := rd_16 byo_X8_count byl_X8_count 5 rfl h
theorem byr_X8_count_6 {j v : Nat} (h : by_X8_count_6[j]? = some v) : RD cX8_count (96 + j) v := rd_16 byo_X8_count byl_X8_count 6 rfl h
theorem byr_X8_count_7 {j v : Nat} (h : by_X8_count_7[j]? = some v) : RD cX8_count (112 + j) v := rd_16 byo_X8_count byl_X8_count 7 rfl h
theorem byr_X8_count_8 {j v : Nat} (h : by_X8_count_8[j]? = some v) : RD cX8_count (128 + j) v := rd_16 byo_X8_count byl_X8_count 8 rfl h
theorem byr_X8_count_9 {j v : Nat} (h : by_X8_count_z[j]? = some v) : RD cX8_count (144 + j) v := rd_z byo_X8_count byl_X8_count 9 rfl h
theorem dX8_count_0 : decode cX8_count 0 = .ok (.iload_n 1, 1) := dk_27 (byr_X8_count_0 (j := 0) rfl)
set_option maxRecDepth 20000 in
theorem dX8_count_1 : decode cX8_count 1 = .ok (.tableswitch 147 0 10 #[59, 67, 75, 83, 91, 99, 107, 115, 123, 131, 139], 59) := by decide +kernel
theorem dX8_count_60 : decode cX8_count 60 = .ok (.aload_n 0, 1) := dk_42 (byr_X8_count_3 (j := 12) rfl)
theorem dX8_count_61 : decode cX8_count 61 = .ok (.getfield 10, 3) := dk_180 (byr_X8_count_3 (j := 13) rfl) (byr_X8_count_3 (j := 14) rfl) (byr_X8_count_3 (j := 15) rfl) (by decide)
theorem dX8_count_64 : decode cX8_count 64 = .ok (.getfield 290, 3) := dk_180 (byr_X8_count_4 (j := 0) rfl) (byr_X8_count_4 (j := 1) rfl) (byr_X8_count_4 (j := 2) rfl) (by decide)
theorem dX8_count_67 : decode cX8_count 67 = .ok (.ireturn, 1) := dk_172 (byr_X8_count_4 (j := 3) rfl)
theorem dX8_count_68 : decode cX8_count 68 = .ok (.aload_n 0, 1) := dk_42 (byr_X8_count_4 (j := 4) rfl)
theorem dX8_count_69 : decode cX8_count 69 = .ok (.getfield 10, 3) := dk_180 (byr_X8_count_4 (j := 5) rfl) (byr_X8_count_4 (j := 6) rfl) (byr_X8_count_4 (j := 7) rfl) (by decide)
theorem dX8_count_72 : decode cX8_count 72 = .ok (.getfield 96, 3) := dk_180 (byr_X8_count_4 (j := 8) rfl) (byr_X8_count_4 (j := 9) rfl) (byr_X8_count_4 (j := 10) rfl) (by decide)
theorem dX8_count_75 : decode cX8_count 75 = .ok (.ireturn, 1) := dk_172 (byr_X8_count_4 (j := 11) rfl)
theorem dX8_count_76 : decode cX8_count 76 = .ok (.aload_n 0, 1) := dk_42 (byr_X8_count_4 (j := 12) rfl)
theorem dX8_count_77 : decode cX8_count 77 = .ok (.getfield 10, 3) := dk_180 (byr_X8_count_4 (j := 13) rfl) (byr_X8_count_4 (j := 14) rfl) (byr_X8_count_4 (j := 15) rfl) (by decide)
theorem dX8_count_80 : decode cX8_count 80 = .ok (.getfield 89, 3) := dk_180 (byr_X8_count_5 (j := 0) rfl) (byr_X8_count_5 (j := 1) rfl) (byr_X8_count_5 (j := 2) rfl) (by decide)
theorem dX8_count_83 : decode cX8_count 83 = .ok (.ireturn, 1) := dk_172 (byr_X8_count_5 (j := 3) rfl)
theorem dX8_count_84 : decode cX8_count 84 = .ok (.aload_n 0, 1) := dk_42 (byr_X8_count_5 (j := 4) rfl)
theorem dX8_count_85 : decode cX8_count 85 = .ok (.getfield 10, 3) := dk_180 (byr_X8_count_5 (j := 5) rfl) (byr_X8_count_5 (j := 6) rfl) (byr_X8_count_5 (j := 7) rfl) (by decide)
theorem dX8_count_88 : decode cX8_count 88 = .ok (.getfield 299, 3) := dk_180 (byr_X8_count_5 (j := 8) rfl) (byr_X8_count_5 (j := 9) rfl) (byr_X8_count_5 (j := 10) rfl) (by decide)
theorem dX8_count_91 : decode cX8_count 91 = .ok (.ireturn, 1) := dk_172 (byr_X8_count_5 (j := 11) rfl)
theorem dX8_count_92 : decode cX8_count 92 = .ok (.aload_n 0, 1) := dk_42 (byr_X8_count_5 (j := 12) rfl)
theorem dX8_count_93 : decode cX8_count 93 = .ok (.getfield 10, 3) := dk_180 (byr_X8_count_5 (j := 13) rfl) (byr_X8_count_5 (j := 14) rfl) (byr_X8_count_5 (j := 15) rfl) (by decide)
theorem dX8_count_96 : decode cX8_count 96 = .ok (.getfield 302, 3) := dk_180 (byr_X8_count_6 (j := 0) rfl) (byr_X8_count_6 (j := 1) rfl) (byr_X8_count_6 (j := 2) rfl) (by decide)
theorem dX8_count_99 : decode cX8_count 99 = .ok (.ireturn, 1) := dk_172 (byr_X8_count_6 (j := 3) rfl)
theorem dX8_count_100 : decode cX8_count 100 = .ok (.aload_n 0, 1) := dk_42 (byr_X8_count_6 (j := 4) rfl)
theorem dX8_count_101 : decode cX8_count 101 = .ok (.getfield 10, 3) := dk_180 (byr_X8_count_6 (j := 5) rfl) (byr_X8_count_6 (j := 6) rfl) (byr_X8_count_6 (j := 7) rfl) (by decide)
theorem dX8_count_104 : decode cX8_count 104 = .ok (.getfield 83, 3) := dk_180 (byr_X8_count_6 (j := 8) rfl) (byr_X8_count_6 (j := 9) rfl) (byr_X8_count_6 (j := 10) rfl) (by decide)
theorem dX8_count_107 : decode cX8_count 107 = .ok (.ireturn, 1) := dk_172 (byr_X8_count_6 (j := 11) rfl)
theorem dX8_count_108 : decode cX8_count 108 = .ok (.aload_n 0, 1) := dk_42 (byr_X8_count_6 (j := 12) rfl)
theorem dX8_count_109 : decode cX8_count 109 = .ok (.getfield 10, 3) := dk_180 (byr_X8_count_6 (j := 13) rfl) (byr_X8_count_6 (j := 14) rfl) (byr_X8_count_6 (j := 15) rfl) (by decide)
theorem dX8_count_112 : decode cX8_count 112 = .ok (.getfield 86, 3) := dk_180 (byr_X8_count_7 (j := 0) rfl) (byr_X8_count_7 (j := 1) rfl) (byr_X8_count_7 (j := 2) rfl) (by decide)
theorem dX8_count_115 : decode cX8_count 115 = .ok (.ireturn, 1) := dk_172 (byr_X8_count_7 (j := 3) rfl)
theorem dX8_count_116 : decode cX8_count 116 = .ok (.aload_n 0, 1) := dk_42 (byr_X8_count_7 (j := 4) rfl)
theorem dX8_count_117 : decode cX8_count 117 = .ok (.getfield 10, 3) := dk_180 (byr_X8_count_7 (j := 5) rfl) (byr_X8_count_7 (j := 6) rfl) (byr_X8_count_7 (j := 7) rfl) (by decide)
theorem dX8_count_120 : decode cX8_count 120 = .ok (.getfield 139, 3) := dk_180 (byr_X8_count_7 (j := 8) rfl) (byr_X8_count_7 (j := 9) rfl) (byr_X8_count_7 (j := 10) rfl) (by decide)
theorem dX8_count_123 : decode cX8_count 123 = .ok (.ireturn, 1) := dk_172 (byr_X8_count_7 (j := 11) rfl)
theorem dX8_count_124 : decode cX8_count 124 = .ok (.aload_n 0, 1) := dk_42 (byr_X8_count_7 (j := 12) rfl)
theorem dX8_count_125 : decode cX8_count 125 = .ok (.getfield 10, 3) := dk_180 (byr_X8_count_7 (j := 13) rfl) (byr_X8_count_7 (j := 14) rfl) (byr_X8_count_7 (j := 15) rfl) (by decide)
theorem dX8_count_128 : decode cX8_count 128 = .ok (.getfield 293, 3) := dk_180 (byr_X8_count_8 (j := 0) rfl) (byr_X8_count_8 (j := 1) rfl) (byr_X8_count_8 (j := 2) rfl) (by decide)
theorem dX8_count_131 : decode cX8_count 131 = .ok (.ireturn, 1) := dk_172 (byr_X8_count_8 (j := 3) rfl)
theorem dX8_count_132 : decode cX8_count 132 = .ok (.aload_n 0, 1) := dk_42 (byr_X8_count_8 (j := 4) rfl)
theorem dX8_count_133 : decode cX8_count 133 = .ok (.getfield 43, 3) := dk_180 (byr_X8_count_8 (j := 5) rfl) (byr_X8_count_8 (j := 6) rfl) (byr_X8_count_8 (j := 7) rfl) (by decide)
theorem dX8_count_136 : decode cX8_count 136 = .ok (.getfield 240, 3) := dk_180 (byr_X8_count_8 (j := 8) rfl) (byr_X8_count_8 (j := 9) rfl) (byr_X8_count_8 (j := 10) rfl) (by decide)
theorem dX8_count_139 : decode cX8_count 139 = .ok (.ireturn, 1) := dk_172 (byr_X8_count_8 (j := 11) rfl)
theorem dX8_count_140 : decode cX8_count 140 = .ok (.aload_n 0, 1) := dk_42 (byr_X8_count_8 (j := 12) rfl)
theorem dX8_count_141 : decode cX8_count 141 = .ok (.getfield 10, 3) := dk_180 (byr_X8_count_8 (j := 13) rfl) (byr_X8_count_8 (j := 14) rfl) (byr_X8_count_8 (j := 15) rfl) (by decide)
theorem dX8_count_144 : decode cX8_count 144 = .ok (.getfield 233, 3) := dk_180 (byr_X8_count_9 (j := 0) rfl) (byr_X8_count_9 (j := 1) rfl) (byr_X8_count_9 (j := 2) rfl) (by decide)
theorem dX8_count_147 : decode cX8_count 147 = .ok (.ireturn, 1) := dk_172 (byr_X8_count_9 (j := 3) rfl)
theorem dX8_count_148 : decode cX8_count 148 = .ok (.aload_n 0, 1) := dk_42 (byr_X8_count_9 (j := 4) rfl)
theorem dX8_count_149 : decode cX8_count 149 = .ok (.iconst 1, 1) := dk_4 (byr_X8_count_9 (j := 5) rfl)
theorem dX8_count_150 : decode cX8_count 150 = .ok (.invokevirtual 76, 3) := dk_182 (byr_X8_count_9 (j := 6) rfl) (byr_X8_count_9 (j := 7) rfl) (byr_X8_count_9 (j := 8) rfl) (by decide)
theorem dX8_count_153 : decode cX8_count 153 = .ok (.ireturn, 1) := dk_172 (byr_X8_count_9 (j := 9) rfl)
set_option maxHeartbeats 4000000 in
set_option maxRecDepth 100000 in
theorem c_X8_count (l : Launch) (G : GT) (σ : Sto) (a1 : Int32) (r : (Int32 × Sto)) (h : f_X8_count σ a1 = some r) : MW l G (4) (107) 0 0 yX8_count cX8_count 2 (Option.some Jvm.ClassFile.FieldType.int) [.ref (gad G 0), .int a1] (wl G σ) (some (.int r.1)) (wl G r.2) := by
  refine mw_of RX8 (fiI G) [(0, .ref (gad G 0)), (1, .int a1)] (by decide +kernel) rfl (Nat.le_of_ble_eq_true rfl) rfl h rfl (fun p e s m args below meth c X hr hnm => ?_)
  unfold f_X8_count
  refine sm_iload_n X 1 1 dX8_count_0 rfl rfl rfl ?_
  refine sm_if (fun h1_0 => ?_) (fun h1_0 => ?_)
  · refine sm_table X 60 dX8_count_1 (by rw [h1_0]; decide) (by rw [h1_0]; decide) (by first | (rw [h1_0]; done) | (rw [h1_0]; rfl)) (by decide) ?_
    refine sm_aload_n X 61 0 dX8_count_60 rfl rfl rfl ?_
    refine sm_getf X 64 1 rfl fd_8_0 rfl dX8_count_61 rfl q_289 ?_
    refine sm_geti X 67 rfl fd_0_4 dX8_count_64 rfl q_98 ?_
    exact sm_iret X hr dX8_count_67 rfl
  refine sm_if (fun h1_1 => ?_) (fun h1_1 => ?_)
  · refine sm_table X 68 dX8_count_1 (by rw [h1_1]; decide) (by rw [h1_1]; decide) (by first | (rw [h1_1]; done) | (rw [h1_1]; rfl)) (by decide) ?_
    refine sm_aload_n X 69 0 dX8_count_68 rfl rfl rfl ?_
    refine sm_getf X 72 1 rfl fd_8_0 rfl dX8_count_69 rfl q_289 ?_
    refine sm_geti X 75 rfl fd_0_8 dX8_count_72 rfl q_105 ?_
    exact sm_iret X hr dX8_count_75 rfl
  refine sm_if (fun h1_2 => ?_) (fun h1_2 => ?_)
  · refine sm_table X 76 dX8_count_1 (by rw [h1_2]; decide) (by rw [h1_2]; decide) (by first | (rw [h1_2]; done) | (rw [h1_2]; rfl)) (by decide) ?_
    refine sm_aload_n X 77 0 dX8_count_76 rfl rfl rfl ?_
    refine sm_getf X 80 1 rfl fd_8_0 rfl dX8_count_77 rfl q_289 ?_
    refine sm_geti X 83 rfl fd_0_3 dX8_count_80 rfl q_96 ?_
    exact sm_iret X hr dX8_count_83 rfl
  refine sm_if (fun h1_3 => ?_) (fun h1_3 => ?_)
  · refine sm_table X 84 dX8_count_1 (by rw [h1_3]; decide) (by rw [h1_3]; decide) (by first | (rw [h1_3]; done) | (rw [h1_3]; rfl)) (by decide) ?_
    refine sm_aload_n X 85 0 dX8_count_84 rfl rfl rfl ?_
    refine sm_getf X 88 1 rfl fd_8_0 rfl dX8_count_85 rfl q_289 ?_
    refine sm_geti X 91 rfl fd_0_5 dX8_count_88 rfl q_100 ?_
    exact sm_iret X hr dX8_count_91 rfl
  refine sm_if (fun h1_4 => ?_) (fun h1_4 => ?_)
  · refine sm_table X 92 dX8_count_1 (by rw [h1_4]; decide) (by rw [h1_4]; decide) (by first | (rw [h1_4]; done) | (rw [h1_4]; rfl)) (by decide) ?_
    refine sm_aload_n X 93 0 dX8_count_92 rfl rfl rfl ?_
    refine sm_getf X 96 1 rfl fd_8_0 rfl dX8_count_93 rfl q_289 ?_
    refine sm_geti X 99 rfl fd_0_6 dX8_count_96 rfl q_102 ?_
    exact sm_iret X hr dX8_count_99 rfl
  refine sm_if (fun h1_5 => ?_) (fun h1_5 => ?_)
  · refine sm_table X 100 dX8_count_1 (by rw [h1_5]; decide) (by rw [h1_5]; decide) (by first | (rw [h1_5]; done) | (rw [h1_5]; rfl)) (by decide) ?_
    refine sm_aload_n X 101 0 dX8_count_100 rfl rfl rfl ?_
    refine sm_getf X 104 1 rfl fd_8_0 rfl dX8_count_101 rfl q_289 ?_
    refine sm_geti X 107 rfl fd_0_1 dX8_count_104 rfl q_92 ?_
    exact sm_iret X hr dX8_count_107 rfl
  refine sm_if (fun h1_6 => ?_) (fun h1_6 => ?_)
  · refine sm_table X 108 dX8_count_1 (by rw [h1_6]; decide) (by rw [h1_6]; decide) (by first | (rw [h1_6]; done) | (rw [h1_6]; rfl)) (by decide) ?_
    refine sm_aload_n X 109 0 dX8_count_108 rfl rfl rfl ?_
    refine sm_getf X 112 1 rfl fd_8_0 rfl dX8_count_109 rfl q_289 ?_
    refine sm_geti X 115 rfl fd_0_2 dX8_count_112 rfl q_94 ?_
    exact sm_iret X hr dX8_count_115 rfl
  refine sm_if (fun h1_7 => ?_) (fun h1_7 => ?_)
  · refine sm_table X 116 dX8_count_1 (by rw [h1_7]; decide) (by rw [h1_7]; decide) (by first | (rw [h1_7]; done) | (rw [h1_7]; rfl)) (by decide) ?_
    refine sm_aload_n X 117 0 dX8_count_116 rfl rfl rfl ?_
    refine sm_getf X 120 1 rfl fd_8_0 rfl dX8_count_117 rfl q_289 ?_
    refine sm_geti X 123 rfl fd_0_12 dX8_count_120 rfl q_111 ?_
    exact sm_iret X hr dX8_count_123 rfl
  refine sm_if (fun h1_8 => ?_) (fun h1_8 => ?_)
  · refine sm_table X 124 dX8_count_1 (by rw [h1_8]; decide) (by rw [h1_8]; decide) (by first | (rw [h1_8]; done) | (rw [h1_8]; rfl)) (by decide) ?_
    refine sm_aload_n X 125 0 dX8_count_124 rfl rfl rfl ?_
    refine sm_getf X 128 1 rfl fd_8_0 rfl dX8_count_125 rfl q_289 ?_
    refine sm_geti X 131 rfl fd_0_14 dX8_count_128 rfl q_115 ?_
    exact sm_iret X hr dX8_count_131 rfl
  refine sm_if (fun h1_9 => ?_) (fun h1_9 => ?_)
  · refine sm_table X 132 dX8_count_1 (by rw [h1_9]; decide) (by rw [h1_9]; decide) (by first | (rw [h1_9]; done) | (rw [h1_9]; rfl)) (by decide) ?_
    refine sm_aload_n X 133 0 dX8_count_132 rfl rfl rfl ?_
    refine sm_getf X 136 65 rfl fd_8_5 rfl dX8_count_133 rfl q_294 ?_
    refine sm_geti X 139 rfl fd_7_1 dX8_count_136 rfl q_252 ?_
    exact sm_iret X hr dX8_count_139 rfl
  refine sm_if (fun h1_10 => ?_) (fun h1_10 => ?_)
  · refine sm_table X 140 dX8_count_1 (by rw [h1_10]; decide) (by rw [h1_10]; decide) (by first | (rw [h1_10]; done) | (rw [h1_10]; rfl)) (by decide) ?_
    refine sm_aload_n X 141 0 dX8_count_140 rfl rfl rfl ?_
    refine sm_getf X 144 1 rfl fd_8_0 rfl dX8_count_141 rfl q_289 ?_
    refine sm_geti X 147 rfl fd_0_15 dX8_count_144 rfl q_117 ?_
    exact sm_iret X hr dX8_count_147 rfl
  have q0 : ¬ (a1).toInt = 0 := ne_toInt h1_0
  have q1 : ¬ (a1).toInt = 1 := ne_toInt h1_1
  have q2 : ¬ (a1).toInt = 2 := ne_toInt h1_2
  have q3 : ¬ (a1).toInt = 3 := ne_toInt h1_3
  have q4 : ¬ (a1).toInt = 4 := ne_toInt h1_4
  have q5 : ¬ (a1).toInt = 5 := ne_toInt h1_5
  have q6 : ¬ (a1).toInt = 6 := ne_toInt h1_6
  have q7 : ¬ (a1).toInt = 7 := ne_toInt h1_7
  have q8 : ¬ (a1).toInt = 8 := ne_toInt h1_8
  have q9 : ¬ (a1).toInt = 9 := ne_toInt h1_9
  have q10 : ¬ (a1).toInt = 10 := ne_toInt h1_10
  refine sm_tableD X 148 dX8_count_1 (by omega) (by decide) ?_
  refine sm_aload_n X 149 0 dX8_count_148 rfl rfl rfl ?_
  refine sm_iconst X 150 (1) dX8_count_149 rfl rfl ?_
  refine sm_bind (fun r150 h150 => ?_)
  refine sm_callV0 X 153 [.int 1] [] [.int r150.1] (c_X8_refuse l G σ (1 : Int32) r150 h150) cw_X8_refuse q_332 qs_0 q_330 rfl (by decide) rfl rfl rfl rfl rfl (Nat.le_of_ble_eq_true rfl) ⟨Nat.le_of_ble_eq_true rfl, Nat.le_of_ble_eq_true rfl⟩ ⟨Nat.le_refl _, Nat.le_refl _⟩ dX8_count_150 rfl ?_
  exact sm_iret X hr dX8_count_153 rfl
def by_X8_told_0 : List Nat := [27, 4, 8, 184, 0, 72, 153, 0, 9, 42, 4, 182, 0, 76, 172, 42]
def by_X8_told_z : List Nat := [180, 0, 53, 27, 46, 172]
def by_X8_told : List (List Nat) := [by_X8_told_0]
set_option maxRecDepth 100000 in
theorem byo_X8_told : cX8_told.data.toList.map UInt8.toNat = by_X8_told.flatten ++ by_X8_told_z := by decide +kernel
theorem byl_X8_told : by_X8_told.all (fun r => r.length == 16) = true := by decide +kernel
theorem byr_X8_told_0 {j v : Nat} (h : by_X8_told_0[j]? = some v) : RD cX8_told (0 + j) v := rd_16 byo_X8_told byl_X8_told 0 rfl h
theorem byr_X8_told_1 {j v : Nat} (h : by_X8_told_z[j]? = some v) : RD cX8_told (16 + j) v := rd_z byo_X8_told byl_X8_told 1 rfl h
theorem dX8_told_0 : decode cX8_told 0 = .ok (.iload_n 1, 1) := dk_27 (byr_X8_told_0 (j := 0) rfl)
theorem dX8_told_1 : decode cX8_told 1 = .ok (.iconst 1, 1) := dk_4 (byr_X8_told_0 (j := 1) rfl)
theorem dX8_told_2 : decode cX8_told 2 = .ok (.iconst 5, 1) := dk_8 (byr_X8_told_0 (j := 2) rfl)
theorem dX8_told_3 : decode cX8_told 3 = .ok (.invokestatic 72, 3) := dk_184 (byr_X8_told_0 (j := 3) rfl) (byr_X8_told_0 (j := 4) rfl) (byr_X8_told_0 (j := 5) rfl) (by decide)
theorem dX8_told_6 : decode cX8_told 6 = .ok (.ifCond .eq 9, 3) := dk_153 (byr_X8_told_0 (j := 6) rfl) (byr_X8_told_0 (j := 7) rfl) (byr_X8_told_0 (j := 8) rfl) (by decide)
theorem dX8_told_9 : decode cX8_told 9 = .ok (.aload_n 0, 1) := dk_42 (byr_X8_told_0 (j := 9) rfl)
theorem dX8_told_10 : decode cX8_told 10 = .ok (.iconst 1, 1) := dk_4 (byr_X8_told_0 (j := 10) rfl)
theorem dX8_told_11 : decode cX8_told 11 = .ok (.invokevirtual 76, 3) := dk_182 (byr_X8_told_0 (j := 11) rfl) (byr_X8_told_0 (j := 12) rfl) (byr_X8_told_0 (j := 13) rfl) (by decide)
theorem dX8_told_14 : decode cX8_told 14 = .ok (.ireturn, 1) := dk_172 (byr_X8_told_0 (j := 14) rfl)
theorem dX8_told_15 : decode cX8_told 15 = .ok (.aload_n 0, 1) := dk_42 (byr_X8_told_0 (j := 15) rfl)
theorem dX8_told_16 : decode cX8_told 16 = .ok (.getfield 53, 3) := dk_180 (byr_X8_told_1 (j := 0) rfl) (byr_X8_told_1 (j := 1) rfl) (byr_X8_told_1 (j := 2) rfl) (by decide)
theorem dX8_told_19 : decode cX8_told 19 = .ok (.iload_n 1, 1) := dk_27 (byr_X8_told_1 (j := 3) rfl)
theorem dX8_told_20 : decode cX8_told 20 = .ok (.iaload, 1) := dk_46 (byr_X8_told_1 (j := 4) rfl)
theorem dX8_told_21 : decode cX8_told 21 = .ok (.ireturn, 1) := dk_172 (byr_X8_told_1 (j := 5) rfl)
set_option maxHeartbeats 4000000 in
set_option maxRecDepth 100000 in
theorem c_X8_told (l : Launch) (G : GT) (σ : Sto) (a1 : Int32) (r : (Int32 × Sto)) (h : f_X8_told σ a1 = some r) : MW l G (4) (107) 0 0 yX8_told cX8_told 2 (Option.some Jvm.ClassFile.FieldType.int) [.ref (gad G 0), .int a1] (wl G σ) (some (.int r.1)) (wl G r.2) := by
  refine mw_of RX8 (fiI G) [(0, .ref (gad G 0)), (1, .int a1)] (by decide +kernel) rfl (Nat.le_of_ble_eq_true rfl) rfl h rfl (fun p e s m args below meth c X hr hnm => ?_)
  unfold f_X8_told
  refine sm_iload_n X 1 1 dX8_told_0 rfl rfl rfl ?_
  refine sm_iconst X 2 (1) dX8_told_1 rfl rfl ?_
  refine sm_iconst X 3 (5) dX8_told_2 rfl rfl ?_
  refine sm_bind (fun r3 h3 => ?_)
  refine sm_callS0 X 6 [.int a1, .int 1, .int 5] [] [.int (b2i r3)] (c_X8_isOutside l G σ a1 (1 : Int32) (5 : Int32) r3 h3) cw_X8_isOutside q_328 q_327 rfl rfl rfl (Nat.le_of_ble_eq_true rfl) ⟨Nat.le_of_ble_eq_true rfl, Nat.le_of_ble_eq_true rfl⟩ ⟨Nat.le_refl _, Nat.le_refl _⟩ dX8_told_3 rfl ?_
  refine sm_ifz_eq X 9 15 dX8_told_6 rfl (by decide) (fun h6 => ?_) (fun h6 => ?_)
  · refine sm_aload_n X 10 0 dX8_told_9 rfl rfl rfl ?_
    refine sm_iconst X 11 (1) dX8_told_10 rfl rfl ?_
    refine sm_bind (fun r11 h11 => ?_)
    refine sm_callV0 X 14 [.int 1] [] [.int r11.1] (c_X8_refuse l G σ (1 : Int32) r11 h11) cw_X8_refuse q_332 qs_0 q_330 rfl (by decide) rfl rfl rfl rfl rfl (Nat.le_of_ble_eq_true rfl) ⟨Nat.le_of_ble_eq_true rfl, Nat.le_of_ble_eq_true rfl⟩ ⟨Nat.le_refl _, Nat.le_refl _⟩ dX8_told_11 rfl ?_
    exact sm_iret X hr dX8_told_14 rfl
  · refine sm_aload_n X 16 0 dX8_told_15 rfl rfl rfl ?_
    refine sm_getf X 19 68 rfl fd_8_7 rfl dX8_told_16 rfl q_296 ?_
    refine sm_iload_n X 20 1 dX8_told_19 rfl rfl rfl ?_
    refine sm_iald X 21 rfl dX8_told_20 rfl (fun r20 e20 => ?_)
    clear e20
    exact sm_iret X hr dX8_told_21 rfl
def by_X9_finds_z : List Nat := [42, 180, 0, 19, 27, 92, 46, 4, 96, 79, 18, 46, 27, 100, 172]
def by_X9_finds : List (List Nat) := []
set_option maxRecDepth 100000 in
theorem byo_X9_finds : cX9_finds.data.toList.map UInt8.toNat = by_X9_finds.flatten ++ by_X9_finds_z := by decide +kernel
theorem byl_X9_finds : by_X9_finds.all (fun r => r.length == 16) = true := by decide +kernel
theorem byr_X9_finds_0 {j v : Nat} (h : by_X9_finds_z[j]? = some v) : RD cX9_finds (0 + j) v := rd_z byo_X9_finds byl_X9_finds 0 rfl h
theorem dX9_finds_0 : decode cX9_finds 0 = .ok (.aload_n 0, 1) := dk_42 (byr_X9_finds_0 (j := 0) rfl)
theorem dX9_finds_1 : decode cX9_finds 1 = .ok (.getfield 19, 3) := dk_180 (byr_X9_finds_0 (j := 1) rfl) (byr_X9_finds_0 (j := 2) rfl) (byr_X9_finds_0 (j := 3) rfl) (by decide)
theorem dX9_finds_4 : decode cX9_finds 4 = .ok (.iload_n 1, 1) := dk_27 (byr_X9_finds_0 (j := 4) rfl)
theorem dX9_finds_5 : decode cX9_finds 5 = .ok (.dup2, 1) := dk_92 (byr_X9_finds_0 (j := 5) rfl)
theorem dX9_finds_6 : decode cX9_finds 6 = .ok (.iaload, 1) := dk_46 (byr_X9_finds_0 (j := 6) rfl)
theorem dX9_finds_7 : decode cX9_finds 7 = .ok (.iconst 1, 1) := dk_4 (byr_X9_finds_0 (j := 7) rfl)
theorem dX9_finds_8 : decode cX9_finds 8 = .ok (.iadd, 1) := dk_96 (byr_X9_finds_0 (j := 8) rfl)
theorem dX9_finds_9 : decode cX9_finds 9 = .ok (.iastore, 1) := dk_79 (byr_X9_finds_0 (j := 9) rfl)
theorem dX9_finds_10 : decode cX9_finds 10 = .ok (.ldc 46, 2) := dk_18 (byr_X9_finds_0 (j := 10) rfl) (byr_X9_finds_0 (j := 11) rfl)
theorem dX9_finds_12 : decode cX9_finds 12 = .ok (.iload_n 1, 1) := dk_27 (byr_X9_finds_0 (j := 12) rfl)
theorem dX9_finds_13 : decode cX9_finds 13 = .ok (.isub, 1) := dk_100 (byr_X9_finds_0 (j := 13) rfl)
theorem dX9_finds_14 : decode cX9_finds 14 = .ok (.ireturn, 1) := dk_172 (byr_X9_finds_0 (j := 14) rfl)
set_option maxHeartbeats 4000000 in
set_option maxRecDepth 100000 in
theorem c_X9_finds (l : Launch) (G : GT) (σ : Sto) (a1 : Int32) (r : (Int32 × Sto)) (h : f_X9_finds σ a1 = some r) : MW l G (2) (64) 0 0 yX9_finds cX9_finds 2 (Option.some Jvm.ClassFile.FieldType.int) [.ref (gad G 81), .int a1] (wl G σ) (some (.int r.1)) (wl G r.2) := by
  refine mw_of RX9 (fiI G) [(0, .ref (gad G 81)), (1, .int a1)] (by decide +kernel) rfl (Nat.le_of_ble_eq_true rfl) rfl h rfl (fun p e s m args below meth c X hr hnm => ?_)
  unfold f_X9_finds
  refine sm_aload_n X 1 0 dX9_finds_0 rfl rfl rfl ?_
  refine sm_getf X 4 85 rfl fd_9_4 rfl dX9_finds_1 rfl q_886 ?_
  refine sm_iload_n X 5 1 dX9_finds_4 rfl rfl rfl ?_
  refine sm_dup2 X 6 dX9_finds_5 rfl rfl rfl ?_
  refine sm_iald X 7 rfl dX9_finds_6 rfl (fun r6 e6 => ?_)
  clear e6
  refine sm_iconst X 8 (1) dX9_finds_7 rfl rfl ?_
  refine sm_iadd X 9 dX9_finds_8 rfl ?_
  refine sm_iast X 10 rfl dX9_finds_9 rfl (fun σ9 e9 => ?_)
  clear e9
  refine sm_ldc X 12 (-1000000000) dX9_finds_10 rfl q_967 ?_
  refine sm_iload_n X 13 1 dX9_finds_12 rfl rfl rfl ?_
  refine sm_isub X 14 dX9_finds_13 rfl ?_
  exact sm_iret X hr dX9_finds_14 rfl
def by_X9_in_0 : List Nat := [30, 32, 148, 155, 0, 14, 30, 22, 4, 148, 157, 0, 7, 4, 167, 0]
def by_X9_in_z : List Nat := [4, 3, 172]
def by_X9_in : List (List Nat) := [by_X9_in_0]
set_option maxRecDepth 100000 in
theorem byo_X9_in : cX9_in.data.toList.map UInt8.toNat = by_X9_in.flatten ++ by_X9_in_z := by decide +kernel
theorem byl_X9_in : by_X9_in.all (fun r => r.length == 16) = true := by decide +kernel
theorem byr_X9_in_0 {j v : Nat} (h : by_X9_in_0[j]? = some v) : RD cX9_in (0 + j) v := rd_16 byo_X9_in byl_X9_in 0 rfl h
theorem byr_X9_in_1 {j v : Nat} (h : by_X9_in_z[j]? = some v) : RD cX9_in (16 + j) v := rd_z byo_X9_in byl_X9_in 1 rfl h
theorem dX9_in_0 : decode cX9_in 0 = .ok (.lload_n 0, 1) := dk_30 (byr_X9_in_0 (j := 0) rfl)
theorem dX9_in_1 : decode cX9_in 1 = .ok (.lload_n 2, 1) := dk_32 (byr_X9_in_0 (j := 1) rfl)
theorem dX9_in_2 : decode cX9_in 2 = .ok (.lcmp, 1) := dk_148 (byr_X9_in_0 (j := 2) rfl)
theorem dX9_in_3 : decode cX9_in 3 = .ok (.ifCond .lt 14, 3) := dk_155 (byr_X9_in_0 (j := 3) rfl) (byr_X9_in_0 (j := 4) rfl) (byr_X9_in_0 (j := 5) rfl) (by decide)
theorem dX9_in_6 : decode cX9_in 6 = .ok (.lload_n 0, 1) := dk_30 (byr_X9_in_0 (j := 6) rfl)
theorem dX9_in_7 : decode cX9_in 7 = .ok (.lload 4, 2) := dk_22 (byr_X9_in_0 (j := 7) rfl) (byr_X9_in_0 (j := 8) rfl)
theorem dX9_in_9 : decode cX9_in 9 = .ok (.lcmp, 1) := dk_148 (byr_X9_in_0 (j := 9) rfl)
theorem dX9_in_10 : decode cX9_in 10 = .ok (.ifCond .gt 7, 3) := dk_157 (byr_X9_in_0 (j := 10) rfl) (byr_X9_in_0 (j := 11) rfl) (byr_X9_in_0 (j := 12) rfl) (by decide)
theorem dX9_in_13 : decode cX9_in 13 = .ok (.iconst 1, 1) := dk_4 (byr_X9_in_0 (j := 13) rfl)
theorem dX9_in_14 : decode cX9_in 14 = .ok (.goto 4, 3) := dk_167 (byr_X9_in_0 (j := 14) rfl) (byr_X9_in_0 (j := 15) rfl) (byr_X9_in_1 (j := 0) rfl) (by decide)
theorem dX9_in_17 : decode cX9_in 17 = .ok (.iconst 0, 1) := dk_3 (byr_X9_in_1 (j := 1) rfl)
theorem dX9_in_18 : decode cX9_in 18 = .ok (.ireturn, 1) := dk_172 (byr_X9_in_1 (j := 2) rfl)
set_option maxHeartbeats 4000000 in
set_option maxRecDepth 100000 in
theorem c_X9_in (l : Launch) (G : GT) (σ : Sto) (a0 : Int64) (a2 : Int64) (a4 : Int64) (r : Bool) (h : f_X9_in a0 a2 a4 = some r) : MW l G (2) (64) 0 0 yX9_in cX9_in 6 (Option.some Jvm.ClassFile.FieldType.boolean) [.long a0, .long a2, .long a4] (wl G σ) (some (.int (b2i r))) (wl G σ) := by
  refine mw_of RX9 (fpZ G σ) [(0, .long a0), (2, .long a2), (4, .long a4)] (by decide +kernel) rfl (Nat.le_of_ble_eq_true rfl) rfl h rfl (fun p e s m args below meth c X hr hnm => ?_)
  unfold f_X9_in
  refine sm_lload_n X 1 0 dX9_in_0 rfl rfl rfl ?_
  refine sm_lload_n X 2 1 dX9_in_1 rfl rfl rfl ?_
  refine sm_lcmp X 3 dX9_in_2 rfl ?_
  refine sm_if_lt X 6 17 dX9_in_3 rfl (by decide) (fun h3 => ?_) (fun h3 => ?_)
  · refine sm_iconst X 18 (0) dX9_in_17 rfl rfl ?_
    exact sm_zret X (v := false) hr dX9_in_18 rfl
  · refine sm_lload_n X 7 0 dX9_in_6 rfl rfl rfl ?_
    refine sm_lload X 9 2 dX9_in_7 rfl rfl ?_
    refine sm_lcmp X 10 dX9_in_9 rfl ?_
    refine sm_if_gt X 13 17 dX9_in_10 rfl (by decide) (fun h10 => ?_) (fun h10 => ?_)
    · refine sm_iconst X 18 (0) dX9_in_17 rfl rfl ?_
      exact sm_zret X (v := false) hr dX9_in_18 rfl
    · refine sm_iconst X 14 (1) dX9_in_13 rfl rfl ?_
      refine sm_goto X 18 dX9_in_14 (by decide) ?_
      exact sm_zret X (v := true) hr dX9_in_18 rfl
def by_X9_held_0 : List Nat := [26, 27, 162, 0, 7, 27, 167, 0, 13, 26, 28, 164, 0, 7, 28, 167]
def by_X9_held_z : List Nat := [0, 4, 26, 172]
def by_X9_held : List (List Nat) := [by_X9_held_0]
set_option maxRecDepth 100000 in
theorem byo_X9_held : cX9_held.data.toList.map UInt8.toNat = by_X9_held.flatten ++ by_X9_held_z := by decide +kernel
theorem byl_X9_held : by_X9_held.all (fun r => r.length == 16) = true := by decide +kernel
theorem byr_X9_held_0 {j v : Nat} (h : by_X9_held_0[j]? = some v) : RD cX9_held (0 + j) v := rd_16 byo_X9_held byl_X9_held 0 rfl h
theorem byr_X9_held_1 {j v : Nat} (h : by_X9_held_z[j]? = some v) : RD cX9_held (16 + j) v := rd_z byo_X9_held byl_X9_held 1 rfl h
theorem dX9_held_0 : decode cX9_held 0 = .ok (.iload_n 0, 1) := dk_26 (byr_X9_held_0 (j := 0) rfl)
theorem dX9_held_1 : decode cX9_held 1 = .ok (.iload_n 1, 1) := dk_27 (byr_X9_held_0 (j := 1) rfl)
theorem dX9_held_2 : decode cX9_held 2 = .ok (.if_icmp .ge 7, 3) := dk_162 (byr_X9_held_0 (j := 2) rfl) (byr_X9_held_0 (j := 3) rfl) (byr_X9_held_0 (j := 4) rfl) (by decide)
theorem dX9_held_5 : decode cX9_held 5 = .ok (.iload_n 1, 1) := dk_27 (byr_X9_held_0 (j := 5) rfl)
theorem dX9_held_6 : decode cX9_held 6 = .ok (.goto 13, 3) := dk_167 (byr_X9_held_0 (j := 6) rfl) (byr_X9_held_0 (j := 7) rfl) (byr_X9_held_0 (j := 8) rfl) (by decide)
theorem dX9_held_9 : decode cX9_held 9 = .ok (.iload_n 0, 1) := dk_26 (byr_X9_held_0 (j := 9) rfl)
theorem dX9_held_10 : decode cX9_held 10 = .ok (.iload_n 2, 1) := dk_28 (byr_X9_held_0 (j := 10) rfl)
theorem dX9_held_11 : decode cX9_held 11 = .ok (.if_icmp .le 7, 3) := dk_164 (byr_X9_held_0 (j := 11) rfl) (byr_X9_held_0 (j := 12) rfl) (byr_X9_held_0 (j := 13) rfl) (by decide)
theorem dX9_held_14 : decode cX9_held 14 = .ok (.iload_n 2, 1) := dk_28 (byr_X9_held_0 (j := 14) rfl)
theorem dX9_held_15 : decode cX9_held 15 = .ok (.goto 4, 3) := dk_167 (byr_X9_held_0 (j := 15) rfl) (byr_X9_held_1 (j := 0) rfl) (byr_X9_held_1 (j := 1) rfl) (by decide)
theorem dX9_held_18 : decode cX9_held 18 = .ok (.iload_n 0, 1) := dk_26 (byr_X9_held_1 (j := 2) rfl)
theorem dX9_held_19 : decode cX9_held 19 = .ok (.ireturn, 1) := dk_172 (byr_X9_held_1 (j := 3) rfl)
set_option maxHeartbeats 4000000 in
set_option maxRecDepth 100000 in
theorem c_X9_held (l : Launch) (G : GT) (σ : Sto) (a0 : Int32) (a1 : Int32) (a2 : Int32) (r : Int32) (h : f_X9_held a0 a1 a2 = some r) : MW l G (2) (64) 0 0 yX9_held cX9_held 3 (Option.some Jvm.ClassFile.FieldType.int) [.int a0, .int a1, .int a2] (wl G σ) (some (.int r)) (wl G σ) := by
  refine mw_of RX9 (fpI G σ) [(0, .int a0), (1, .int a1), (2, .int a2)] (by decide +kernel) rfl (Nat.le_of_ble_eq_true rfl) rfl h rfl (fun p e s m args below meth c X hr hnm => ?_)
  unfold f_X9_held
  refine sm_iload_n X 1 0 dX9_held_0 rfl rfl rfl ?_
  refine sm_iload_n X 2 1 dX9_held_1 rfl rfl rfl ?_
  refine sm_icmp_ge X 5 9 dX9_held_2 rfl (by decide) (fun h2 => ?_) (fun h2 => ?_)
  · refine sm_iload_n X 10 0 dX9_held_9 rfl rfl rfl ?_
    refine sm_iload_n X 11 2 dX9_held_10 rfl rfl rfl ?_
    refine sm_icmp_le X 14 18 dX9_held_11 rfl (by decide) (fun h11 => ?_) (fun h11 => ?_)
    · refine sm_iload_n X 19 0 dX9_held_18 rfl rfl rfl ?_
      exact sm_iret X hr dX9_held_19 rfl
    · refine sm_iload_n X 15 2 dX9_held_14 rfl rfl rfl ?_
      refine sm_goto X 19 dX9_held_15 (by decide) ?_
      exact sm_iret X hr dX9_held_19 rfl
  · refine sm_iload_n X 6 1 dX9_held_5 rfl rfl rfl ?_
    refine sm_goto X 19 dX9_held_6 (by decide) ?_
    exact sm_iret X hr dX9_held_19 rfl
def by_X9_lesser_z : List Nat := [26, 27, 162, 0, 7, 26, 167, 0, 4, 27, 172]
def by_X9_lesser : List (List Nat) := []
set_option maxRecDepth 100000 in
theorem byo_X9_lesser : cX9_lesser.data.toList.map UInt8.toNat = by_X9_lesser.flatten ++ by_X9_lesser_z := by decide +kernel
theorem byl_X9_lesser : by_X9_lesser.all (fun r => r.length == 16) = true := by decide +kernel
theorem byr_X9_lesser_0 {j v : Nat} (h : by_X9_lesser_z[j]? = some v) : RD cX9_lesser (0 + j) v := rd_z byo_X9_lesser byl_X9_lesser 0 rfl h
theorem dX9_lesser_0 : decode cX9_lesser 0 = .ok (.iload_n 0, 1) := dk_26 (byr_X9_lesser_0 (j := 0) rfl)
theorem dX9_lesser_1 : decode cX9_lesser 1 = .ok (.iload_n 1, 1) := dk_27 (byr_X9_lesser_0 (j := 1) rfl)
theorem dX9_lesser_2 : decode cX9_lesser 2 = .ok (.if_icmp .ge 7, 3) := dk_162 (byr_X9_lesser_0 (j := 2) rfl) (byr_X9_lesser_0 (j := 3) rfl) (byr_X9_lesser_0 (j := 4) rfl) (by decide)
theorem dX9_lesser_5 : decode cX9_lesser 5 = .ok (.iload_n 0, 1) := dk_26 (byr_X9_lesser_0 (j := 5) rfl)
theorem dX9_lesser_6 : decode cX9_lesser 6 = .ok (.goto 4, 3) := dk_167 (byr_X9_lesser_0 (j := 6) rfl) (byr_X9_lesser_0 (j := 7) rfl) (byr_X9_lesser_0 (j := 8) rfl) (by decide)
theorem dX9_lesser_9 : decode cX9_lesser 9 = .ok (.iload_n 1, 1) := dk_27 (byr_X9_lesser_0 (j := 9) rfl)
theorem dX9_lesser_10 : decode cX9_lesser 10 = .ok (.ireturn, 1) := dk_172 (byr_X9_lesser_0 (j := 10) rfl)
set_option maxHeartbeats 4000000 in
set_option maxRecDepth 100000 in
theorem c_X9_lesser (l : Launch) (G : GT) (σ : Sto) (a0 : Int32) (a1 : Int32) (r : Int32) (h : f_X9_lesser a0 a1 = some r) : MW l G (2) (64) 0 0 yX9_lesser cX9_lesser 2 (Option.some Jvm.ClassFile.FieldType.int) [.int a0, .int a1] (wl G σ) (some (.int r)) (wl G σ) := by
  refine mw_of RX9 (fpI G σ) [(0, .int a0), (1, .int a1)] (by decide +kernel) rfl (Nat.le_of_ble_eq_true rfl) rfl h rfl (fun p e s m args below meth c X hr hnm => ?_)
  unfold f_X9_lesser
  refine sm_iload_n X 1 0 dX9_lesser_0 rfl rfl rfl ?_
  refine sm_iload_n X 2 1 dX9_lesser_1 rfl rfl rfl ?_
  refine sm_icmp_ge X 5 9 dX9_lesser_2 rfl (by decide) (fun h2 => ?_) (fun h2 => ?_)
  · refine sm_iload_n X 10 1 dX9_lesser_9 rfl rfl rfl ?_
    exact sm_iret X hr dX9_lesser_10 rfl
  · refine sm_iload_n X 6 0 dX9_lesser_5 rfl rfl rfl ?_
    refine sm_goto X 10 dX9_lesser_6 (by decide) ?_
    exact sm_iret X hr dX9_lesser_10 rfl
def by_X9_greater_z : List Nat := [26, 27, 164, 0, 7, 26, 167, 0, 4, 27, 172]
def by_X9_greater : List (List Nat) := []
set_option maxRecDepth 100000 in
theorem byo_X9_greater : cX9_greater.data.toList.map UInt8.toNat = by_X9_greater.flatten ++ by_X9_greater_z := by decide +kernel
theorem byl_X9_greater : by_X9_greater.all (fun r => r.length == 16) = true := by decide +kernel
theorem byr_X9_greater_0 {j v : Nat} (h : by_X9_greater_z[j]? = some v) : RD cX9_greater (0 + j) v := rd_z byo_X9_greater byl_X9_greater 0 rfl h
theorem dX9_greater_0 : decode cX9_greater 0 = .ok (.iload_n 0, 1) := dk_26 (byr_X9_greater_0 (j := 0) rfl)
theorem dX9_greater_1 : decode cX9_greater 1 = .ok (.iload_n 1, 1) := dk_27 (byr_X9_greater_0 (j := 1) rfl)
theorem dX9_greater_2 : decode cX9_greater 2 = .ok (.if_icmp .le 7, 3) := dk_164 (byr_X9_greater_0 (j := 2) rfl) (byr_X9_greater_0 (j := 3) rfl) (byr_X9_greater_0 (j := 4) rfl) (by decide)
theorem dX9_greater_5 : decode cX9_greater 5 = .ok (.iload_n 0, 1) := dk_26 (byr_X9_greater_0 (j := 5) rfl)
theorem dX9_greater_6 : decode cX9_greater 6 = .ok (.goto 4, 3) := dk_167 (byr_X9_greater_0 (j := 6) rfl) (byr_X9_greater_0 (j := 7) rfl) (byr_X9_greater_0 (j := 8) rfl) (by decide)
theorem dX9_greater_9 : decode cX9_greater 9 = .ok (.iload_n 1, 1) := dk_27 (byr_X9_greater_0 (j := 9) rfl)
theorem dX9_greater_10 : decode cX9_greater 10 = .ok (.ireturn, 1) := dk_172 (byr_X9_greater_0 (j := 10) rfl)
set_option maxHeartbeats 4000000 in
set_option maxRecDepth 100000 in
theorem c_X9_greater (l : Launch) (G : GT) (σ : Sto) (a0 : Int32) (a1 : Int32) (r : Int32) (h : f_X9_greater a0 a1 = some r) : MW l G (2) (64) 0 0 yX9_greater cX9_greater 2 (Option.some Jvm.ClassFile.FieldType.int) [.int a0, .int a1] (wl G σ) (some (.int r)) (wl G σ) := by
  refine mw_of RX9 (fpI G σ) [(0, .int a0), (1, .int a1)] (by decide +kernel) rfl (Nat.le_of_ble_eq_true rfl) rfl h rfl (fun p e s m args below meth c X hr hnm => ?_)
  unfold f_X9_greater
  refine sm_iload_n X 1 0 dX9_greater_0 rfl rfl rfl ?_
  refine sm_iload_n X 2 1 dX9_greater_1 rfl rfl rfl ?_
  refine sm_icmp_le X 5 9 dX9_greater_2 rfl (by decide) (fun h2 => ?_) (fun h2 => ?_)
  · refine sm_iload_n X 10 1 dX9_greater_9 rfl rfl rfl ?_
    exact sm_iret X hr dX9_greater_10 rfl
  · refine sm_iload_n X 6 0 dX9_greater_5 rfl rfl rfl ?_
    refine sm_goto X 10 dX9_greater_6 (by decide) ?_
    exact sm_iret X hr dX9_greater_10 rfl
def by_X9_copies_0 : List Nat := [3, 61, 28, 17, 1, 14, 162, 0, 15, 43, 28, 42, 28, 46, 79, 132]
def by_X9_copies_z : List Nat := [2, 1, 167, 255, 240, 177]
def by_X9_copies : List (List Nat) := [by_X9_copies_0]
set_option maxRecDepth 100000 in
theorem byo_X9_copies : cX9_copies.data.toList.map UInt8.toNat = by_X9_copies.flatten ++ by_X9_copies_z := by decide +kernel
theorem byl_X9_copies : by_X9_copies.all (fun r => r.length == 16) = true := by decide +kernel
theorem byr_X9_copies_0 {j v : Nat} (h : by_X9_copies_0[j]? = some v) : RD cX9_copies (0 + j) v := rd_16 byo_X9_copies byl_X9_copies 0 rfl h
theorem byr_X9_copies_1 {j v : Nat} (h : by_X9_copies_z[j]? = some v) : RD cX9_copies (16 + j) v := rd_z byo_X9_copies byl_X9_copies 1 rfl h
theorem dX9_copies_0 : decode cX9_copies 0 = .ok (.iconst 0, 1) := dk_3 (byr_X9_copies_0 (j := 0) rfl)
theorem dX9_copies_1 : decode cX9_copies 1 = .ok (.istore_n 2, 1) := dk_61 (byr_X9_copies_0 (j := 1) rfl)
theorem dX9_copies_2 : decode cX9_copies 2 = .ok (.iload_n 2, 1) := dk_28 (byr_X9_copies_0 (j := 2) rfl)
theorem dX9_copies_3 : decode cX9_copies 3 = .ok (.sipush 270, 3) := dk_17 (byr_X9_copies_0 (j := 3) rfl) (byr_X9_copies_0 (j := 4) rfl) (byr_X9_copies_0 (j := 5) rfl) (by decide)
theorem dX9_copies_6 : decode cX9_copies 6 = .ok (.if_icmp .ge 15, 3) := dk_162 (byr_X9_copies_0 (j := 6) rfl) (byr_X9_copies_0 (j := 7) rfl) (byr_X9_copies_0 (j := 8) rfl) (by decide)
theorem dX9_copies_9 : decode cX9_copies 9 = .ok (.aload_n 1, 1) := dk_43 (byr_X9_copies_0 (j := 9) rfl)
theorem dX9_copies_10 : decode cX9_copies 10 = .ok (.iload_n 2, 1) := dk_28 (byr_X9_copies_0 (j := 10) rfl)
theorem dX9_copies_11 : decode cX9_copies 11 = .ok (.aload_n 0, 1) := dk_42 (byr_X9_copies_0 (j := 11) rfl)
theorem dX9_copies_12 : decode cX9_copies 12 = .ok (.iload_n 2, 1) := dk_28 (byr_X9_copies_0 (j := 12) rfl)
theorem dX9_copies_13 : decode cX9_copies 13 = .ok (.iaload, 1) := dk_46 (byr_X9_copies_0 (j := 13) rfl)
theorem dX9_copies_14 : decode cX9_copies 14 = .ok (.iastore, 1) := dk_79 (byr_X9_copies_0 (j := 14) rfl)
theorem dX9_copies_15 : decode cX9_copies 15 = .ok (.iinc 2 1, 3) := dk_132 (byr_X9_copies_0 (j := 15) rfl) (byr_X9_copies_1 (j := 0) rfl) (byr_X9_copies_1 (j := 1) rfl) (by decide)
theorem dX9_copies_18 : decode cX9_copies 18 = .ok (.goto (-16), 3) := dk_167 (byr_X9_copies_1 (j := 2) rfl) (byr_X9_copies_1 (j := 3) rfl) (byr_X9_copies_1 (j := 4) rfl) (by decide)
theorem dX9_copies_21 : decode cX9_copies 21 = .ok (.return_, 1) := dk_177 (byr_X9_copies_1 (j := 5) rfl)
set_option maxHeartbeats 4000000 in
set_option maxRecDepth 100000 in
theorem c_X9_copies (l : Launch) (G : GT) (σ : Sto) (a0 : Nat) (ha0 : K0 a0 = 20) (a1 : Nat) (ha1 : K0 a1 = 20) (r : Sto) (h : f_X9_copies σ a0 a1 = some r) : MW l G (2) (64) 0 0 yX9_copies cX9_copies 3 (Option.none : Option Jvm.ClassFile.FieldType) [.ref (gad G a0), .ref (gad G a1)] (wl G σ) (none) (wl G r) := by
  refine mw_of RX9 (fiV G) [(0, .ref (gad G a0)), (1, .ref (gad G a1))] (by decide +kernel) rfl (Nat.le_of_ble_eq_true rfl) rfl h rfl (fun p e s m args below meth c X hr hnm => ?_)
  have J2 : ∀ (k0 : Nat) (hk0 : K0 k0 = 20) (k1 : Nat) (hk1 : K0 k1 = 20)  (n : Nat) (v2 : Int32) (σ : Sto), Sm p l e { frames := 2, cells := 0, slots := 0, locals := 64 } s m args below meth c G 3 (Qm below args s G 0 0 (fiV G)) 0 0 (wl G σ) 2 [(0, .ref (gad G k0)), (1, .ref (gad G k1)), (2, .int v2)] [] (f_X9_copies_L2  k0 k1 n v2 σ) := by
    intro k0 hk0 k1 hk1 n
    induction n with
    | zero => intro v2 σ; rw [f_X9_copies_L2]; exact sm_none
    | succ n ihl =>
      intro v2 σ
      rw [f_X9_copies_L2]
      refine sm_iload_n X 3 2 dX9_copies_2 rfl rfl rfl ?_
      refine sm_sipush X 6 (270) dX9_copies_3 rfl rfl ?_
      refine sm_icmp_ge X 9 21 dX9_copies_6 rfl (by decide) (fun h6 => ?_) (fun h6 => ?_)
      · exact sm_vret X hr dX9_copies_21 rfl
      · refine sm_aload_n X 10 1 dX9_copies_9 rfl rfl rfl ?_
        refine sm_iload_n X 11 2 dX9_copies_10 rfl rfl rfl ?_
        refine sm_aload_n X 12 0 dX9_copies_11 rfl rfl rfl ?_
        refine sm_iload_n X 13 2 dX9_copies_12 rfl rfl rfl ?_
        refine sm_iald X 14 hk0 dX9_copies_13 rfl (fun r13 e13 => ?_)
        clear e13
        refine sm_iast X 15 hk1 dX9_copies_14 rfl (fun σ14 e14 => ?_)
        clear e14
        refine sm_iinc X 18 2 (1 : Int32) [(2, .int (v2 + (1 : Int32))), (0, .ref (gad G k0)), (1, .ref (gad G k1))] dX9_copies_15 rfl rfl rfl (by decide) rfl ?_
        refine sm_goto X 2 dX9_copies_18 (by decide) ?_
        exact sm_sub [1, 2, 0] rfl (ihl (v2 + (1 : Int32)) σ14)
  unfold f_X9_copies
  refine sm_iconst X 1 (0) dX9_copies_0 rfl rfl ?_
  refine sm_istore_n X 2 [(2, .int 0), (0, .ref (gad G a0)), (1, .ref (gad G a1))] dX9_copies_1 rfl rfl (by decide) rfl ?_
  exact sm_sub [1, 2, 0] rfl (J2 a0 ha0 a1 ha1  FU (0 : Int32) σ)
def by_X9_isLane_z : List Nat := [26, 133, 9, 20, 0, 47, 184, 0, 49, 172]
def by_X9_isLane : List (List Nat) := []
set_option maxRecDepth 100000 in
theorem byo_X9_isLane : cX9_isLane.data.toList.map UInt8.toNat = by_X9_isLane.flatten ++ by_X9_isLane_z := by decide +kernel
theorem byl_X9_isLane : by_X9_isLane.all (fun r => r.length == 16) = true := by decide +kernel
theorem byr_X9_isLane_0 {j v : Nat} (h : by_X9_isLane_z[j]? = some v) : RD cX9_isLane (0 + j) v := rd_z byo_X9_isLane byl_X9_isLane 0 rfl h
theorem dX9_isLane_0 : decode cX9_isLane 0 = .ok (.iload_n 0, 1) := dk_26 (byr_X9_isLane_0 (j := 0) rfl)
theorem dX9_isLane_1 : decode cX9_isLane 1 = .ok (.i2l, 1) := dk_133 (byr_X9_isLane_0 (j := 1) rfl)
theorem dX9_isLane_2 : decode cX9_isLane 2 = .ok (.lconst 0, 1) := dk_9 (byr_X9_isLane_0 (j := 2) rfl)
theorem dX9_isLane_3 : decode cX9_isLane 3 = .ok (.ldc2_w 47, 3) := dk_20 (byr_X9_isLane_0 (j := 3) rfl) (byr_X9_isLane_0 (j := 4) rfl) (byr_X9_isLane_0 (j := 5) rfl) (by decide)
theorem dX9_isLane_6 : decode cX9_isLane 6 = .ok (.invokestatic 49, 3) := dk_184 (byr_X9_isLane_0 (j := 6) rfl) (byr_X9_isLane_0 (j := 7) rfl) (byr_X9_isLane_0 (j := 8) rfl) (by decide)
theorem dX9_isLane_9 : decode cX9_isLane 9 = .ok (.ireturn, 1) := dk_172 (byr_X9_isLane_0 (j := 9) rfl)
set_option maxHeartbeats 4000000 in
set_option maxRecDepth 100000 in
theorem c_X9_isLane (l : Launch) (G : GT) (σ : Sto) (a0 : Int32) (r : Bool) (h : f_X9_isLane a0 = some r) : MW l G (3) (89) 0 0 yX9_isLane cX9_isLane 1 (Option.some Jvm.ClassFile.FieldType.boolean) [.int a0] (wl G σ) (some (.int (b2i r))) (wl G σ) := by
  refine mw_of RX9 (fpZ G σ) [(0, .int a0)] (by decide +kernel) rfl (Nat.le_of_ble_eq_true rfl) rfl h rfl (fun p e s m args below meth c X hr hnm => ?_)
  unfold f_X9_isLane
  refine sm_iload_n X 1 0 dX9_isLane_0 rfl rfl rfl ?_
  refine sm_i2l X 2 dX9_isLane_1 rfl ?_
  refine sm_lconst X 3 (0) dX9_isLane_2 rfl rfl ?_
  refine sm_ldc2 X 6 (5) dX9_isLane_3 rfl q_1052 ?_
  refine sm_bind (fun r6 h6 => ?_)
  refine sm_callS0 X 9 [.long (Int32.toInt64 a0), .long (0 : Int64), .long (5 : Int64)] [] [.int (b2i r6)] (c_X9_in l G σ (Int32.toInt64 a0) (0 : Int64) (5 : Int64) r6 h6) cw_X9_in q_961 q_960 rfl rfl rfl (Nat.le_of_ble_eq_true rfl) ⟨Nat.le_of_ble_eq_true rfl, Nat.le_of_ble_eq_true rfl⟩ ⟨Nat.le_refl _, Nat.le_refl _⟩ dX9_isLane_6 rfl ?_
  exact sm_zret X (v := r6) hr dX9_isLane_9 rfl
def by_X9_isSwimmer_0 : List Nat := [27, 133, 9, 42, 180, 0, 7, 16, 12, 46, 4, 100, 133, 184, 0, 49]
def by_X9_isSwimmer_z : List Nat := [172]
def by_X9_isSwimmer : List (List Nat) := [by_X9_isSwimmer_0]
set_option maxRecDepth 100000 in
theorem byo_X9_isSwimmer : cX9_isSwimmer.data.toList.map UInt8.toNat = by_X9_isSwimmer.flatten ++ by_X9_isSwimmer_z := by decide +kernel
theorem byl_X9_isSwimmer : by_X9_isSwimmer.all (fun r => r.length == 16) = true := by decide +kernel
theorem byr_X9_isSwimmer_0 {j v : Nat} (h : by_X9_isSwimmer_0[j]? = some v) : RD cX9_isSwimmer (0 + j) v := rd_16 byo_X9_isSwimmer byl_X9_isSwimmer 0 rfl h
theorem byr_X9_isSwimmer_1 {j v : Nat} (h : by_X9_isSwimmer_z[j]? = some v) : RD cX9_isSwimmer (16 + j) v := rd_z byo_X9_isSwimmer byl_X9_isSwimmer 1 rfl h
theorem dX9_isSwimmer_0 : decode cX9_isSwimmer 0 = .ok (.iload_n 1, 1) := dk_27 (byr_X9_isSwimmer_0 (j := 0) rfl)
theorem dX9_isSwimmer_1 : decode cX9_isSwimmer 1 = .ok (.i2l, 1) := dk_133 (byr_X9_isSwimmer_0 (j := 1) rfl)
theorem dX9_isSwimmer_2 : decode cX9_isSwimmer 2 = .ok (.lconst 0, 1) := dk_9 (byr_X9_isSwimmer_0 (j := 2) rfl)
theorem dX9_isSwimmer_3 : decode cX9_isSwimmer 3 = .ok (.aload_n 0, 1) := dk_42 (byr_X9_isSwimmer_0 (j := 3) rfl)
theorem dX9_isSwimmer_4 : decode cX9_isSwimmer 4 = .ok (.getfield 7, 3) := dk_180 (byr_X9_isSwimmer_0 (j := 4) rfl) (byr_X9_isSwimmer_0 (j := 5) rfl) (byr_X9_isSwimmer_0 (j := 6) rfl) (by decide)
theorem dX9_isSwimmer_7 : decode cX9_isSwimmer 7 = .ok (.bipush 12, 2) := dk_16 (byr_X9_isSwimmer_0 (j := 7) rfl) (byr_X9_isSwimmer_0 (j := 8) rfl) (by decide)
theorem dX9_isSwimmer_9 : decode cX9_isSwimmer 9 = .ok (.iaload, 1) := dk_46 (byr_X9_isSwimmer_0 (j := 9) rfl)
theorem dX9_isSwimmer_10 : decode cX9_isSwimmer 10 = .ok (.iconst 1, 1) := dk_4 (byr_X9_isSwimmer_0 (j := 10) rfl)
theorem dX9_isSwimmer_11 : decode cX9_isSwimmer 11 = .ok (.isub, 1) := dk_100 (byr_X9_isSwimmer_0 (j := 11) rfl)
theorem dX9_isSwimmer_12 : decode cX9_isSwimmer 12 = .ok (.i2l, 1) := dk_133 (byr_X9_isSwimmer_0 (j := 12) rfl)
theorem dX9_isSwimmer_13 : decode cX9_isSwimmer 13 = .ok (.invokestatic 49, 3) := dk_184 (byr_X9_isSwimmer_0 (j := 13) rfl) (byr_X9_isSwimmer_0 (j := 14) rfl) (byr_X9_isSwimmer_0 (j := 15) rfl) (by decide)
theorem dX9_isSwimmer_16 : decode cX9_isSwimmer 16 = .ok (.ireturn, 1) := dk_172 (byr_X9_isSwimmer_1 (j := 0) rfl)
set_option maxHeartbeats 4000000 in
set_option maxRecDepth 100000 in
theorem c_X9_isSwimmer (l : Launch) (G : GT) (σ : Sto) (a1 : Int32) (r : Bool) (h : f_X9_isSwimmer σ a1 = some r) : MW l G (3) (89) 0 0 yX9_isSwimmer cX9_isSwimmer 2 (Option.some Jvm.ClassFile.FieldType.boolean) [.ref (gad G 81), .int a1] (wl G σ) (some (.int (b2i r))) (wl G σ) := by
  refine mw_of RX9 (fpZ G σ) [(0, .ref (gad G 81)), (1, .int a1)] (by decide +kernel) rfl (Nat.le_of_ble_eq_true rfl) rfl h rfl (fun p e s m args below meth c X hr hnm => ?_)
  unfold f_X9_isSwimmer
  refine sm_iload_n X 1 1 dX9_isSwimmer_0 rfl rfl rfl ?_
  refine sm_i2l X 2 dX9_isSwimmer_1 rfl ?_
  refine sm_lconst X 3 (0) dX9_isSwimmer_2 rfl rfl ?_
  refine sm_aload_n X 4 0 dX9_isSwimmer_3 rfl rfl rfl ?_
  refine sm_getf X 7 82 rfl fd_9_0 rfl dX9_isSwimmer_4 rfl q_882 ?_
  refine sm_bipush X 9 (12) dX9_isSwimmer_7 rfl rfl ?_
  refine sm_iald X 10 rfl dX9_isSwimmer_9 rfl (fun r9 e9 => ?_)
  clear e9
  refine sm_iconst X 11 (1) dX9_isSwimmer_10 rfl rfl ?_
  refine sm_isub X 12 dX9_isSwimmer_11 rfl ?_
  refine sm_i2l X 13 dX9_isSwimmer_12 rfl ?_
  refine sm_bind (fun r13 h13 => ?_)
  refine sm_callS0 X 16 [.long (Int32.toInt64 a1), .long (0 : Int64), .long (Int32.toInt64 (r9 - (1 : Int32)))] [] [.int (b2i r13)] (c_X9_in l G σ (Int32.toInt64 a1) (0 : Int64) (Int32.toInt64 (r9 - (1 : Int32))) r13 h13) cw_X9_in q_961 q_960 rfl rfl rfl (Nat.le_of_ble_eq_true rfl) ⟨Nat.le_of_ble_eq_true rfl, Nat.le_of_ble_eq_true rfl⟩ ⟨Nat.le_refl _, Nat.le_refl _⟩ dX9_isSwimmer_13 rfl ?_
  exact sm_zret X (v := r13) hr dX9_isSwimmer_16 rfl
def by_X9_of_z : List Nat := [42, 180, 0, 7, 16, 16, 16, 9, 27, 104, 96, 28, 96, 46, 172]
def by_X9_of : List (List Nat) := []
set_option maxRecDepth 100000 in
theorem byo_X9_of : cX9_of.data.toList.map UInt8.toNat = by_X9_of.flatten ++ by_X9_of_z := by decide +kernel
theorem byl_X9_of : by_X9_of.all (fun r => r.length == 16) = true := by decide +kernel
theorem byr_X9_of_0 {j v : Nat} (h : by_X9_of_z[j]? = some v) : RD cX9_of (0 + j) v := rd_z byo_X9_of byl_X9_of 0 rfl h
theorem dX9_of_0 : decode cX9_of 0 = .ok (.aload_n 0, 1) := dk_42 (byr_X9_of_0 (j := 0) rfl)
theorem dX9_of_1 : decode cX9_of 1 = .ok (.getfield 7, 3) := dk_180 (byr_X9_of_0 (j := 1) rfl) (byr_X9_of_0 (j := 2) rfl) (byr_X9_of_0 (j := 3) rfl) (by decide)
theorem dX9_of_4 : decode cX9_of 4 = .ok (.bipush 16, 2) := dk_16 (byr_X9_of_0 (j := 4) rfl) (byr_X9_of_0 (j := 5) rfl) (by decide)
theorem dX9_of_6 : decode cX9_of 6 = .ok (.bipush 9, 2) := dk_16 (byr_X9_of_0 (j := 6) rfl) (byr_X9_of_0 (j := 7) rfl) (by decide)
theorem dX9_of_8 : decode cX9_of 8 = .ok (.iload_n 1, 1) := dk_27 (byr_X9_of_0 (j := 8) rfl)
theorem dX9_of_9 : decode cX9_of 9 = .ok (.imul, 1) := dk_104 (byr_X9_of_0 (j := 9) rfl)
theorem dX9_of_10 : decode cX9_of 10 = .ok (.iadd, 1) := dk_96 (byr_X9_of_0 (j := 10) rfl)
theorem dX9_of_11 : decode cX9_of 11 = .ok (.iload_n 2, 1) := dk_28 (byr_X9_of_0 (j := 11) rfl)
theorem dX9_of_12 : decode cX9_of 12 = .ok (.iadd, 1) := dk_96 (byr_X9_of_0 (j := 12) rfl)
theorem dX9_of_13 : decode cX9_of 13 = .ok (.iaload, 1) := dk_46 (byr_X9_of_0 (j := 13) rfl)
theorem dX9_of_14 : decode cX9_of 14 = .ok (.ireturn, 1) := dk_172 (byr_X9_of_0 (j := 14) rfl)
set_option maxHeartbeats 4000000 in
set_option maxRecDepth 100000 in
theorem c_X9_of (l : Launch) (G : GT) (σ : Sto) (a1 : Int32) (a2 : Int32) (r : Int32) (h : f_X9_of σ a1 a2 = some r) : MW l G (2) (64) 0 0 yX9_of cX9_of 3 (Option.some Jvm.ClassFile.FieldType.int) [.ref (gad G 81), .int a1, .int a2] (wl G σ) (some (.int r)) (wl G σ) := by
  refine mw_of RX9 (fpI G σ) [(0, .ref (gad G 81)), (1, .int a1), (2, .int a2)] (by decide +kernel) rfl (Nat.le_of_ble_eq_true rfl) rfl h rfl (fun p e s m args below meth c X hr hnm => ?_)
  unfold f_X9_of
  refine sm_aload_n X 1 0 dX9_of_0 rfl rfl rfl ?_
  refine sm_getf X 4 82 rfl fd_9_0 rfl dX9_of_1 rfl q_882 ?_
  refine sm_bipush X 6 (16) dX9_of_4 rfl rfl ?_
  refine sm_bipush X 8 (9) dX9_of_6 rfl rfl ?_
  refine sm_iload_n X 9 1 dX9_of_8 rfl rfl rfl ?_
  refine sm_imul X 10 dX9_of_9 rfl ?_
  refine sm_iadd X 11 dX9_of_10 rfl ?_
  refine sm_iload_n X 12 2 dX9_of_11 rfl rfl rfl ?_
  refine sm_iadd X 13 dX9_of_12 rfl ?_
  refine sm_iald X 14 rfl dX9_of_13 rfl (fun r13 e13 => ?_)
  clear e13
  exact sm_iret X hr dX9_of_14 rfl
def by_X9_becomes_0 : List Nat := [42, 180, 0, 7, 16, 16, 16, 9, 27, 104, 96, 28, 96, 29, 79, 177]
def by_X9_becomes_z : List Nat := []
def by_X9_becomes : List (List Nat) := [by_X9_becomes_0]
set_option maxRecDepth 100000 in
theorem byo_X9_becomes : cX9_becomes.data.toList.map UInt8.toNat = by_X9_becomes.flatten ++ by_X9_becomes_z := by decide +kernel
theorem byl_X9_becomes : by_X9_becomes.all (fun r => r.length == 16) = true := by decide +kernel
theorem byr_X9_becomes_0 {j v : Nat} (h : by_X9_becomes_0[j]? = some v) : RD cX9_becomes (0 + j) v := rd_16 byo_X9_becomes byl_X9_becomes 0 rfl h
theorem byr_X9_becomes_1 {j v : Nat} (h : by_X9_becomes_z[j]? = some v) : RD cX9_becomes (16 + j) v := rd_z byo_X9_becomes byl_X9_becomes 1 rfl h
theorem dX9_becomes_0 : decode cX9_becomes 0 = .ok (.aload_n 0, 1) := dk_42 (byr_X9_becomes_0 (j := 0) rfl)
theorem dX9_becomes_1 : decode cX9_becomes 1 = .ok (.getfield 7, 3) := dk_180 (byr_X9_becomes_0 (j := 1) rfl) (byr_X9_becomes_0 (j := 2) rfl) (byr_X9_becomes_0 (j := 3) rfl) (by decide)
theorem dX9_becomes_4 : decode cX9_becomes 4 = .ok (.bipush 16, 2) := dk_16 (byr_X9_becomes_0 (j := 4) rfl) (byr_X9_becomes_0 (j := 5) rfl) (by decide)
theorem dX9_becomes_6 : decode cX9_becomes 6 = .ok (.bipush 9, 2) := dk_16 (byr_X9_becomes_0 (j := 6) rfl) (byr_X9_becomes_0 (j := 7) rfl) (by decide)
theorem dX9_becomes_8 : decode cX9_becomes 8 = .ok (.iload_n 1, 1) := dk_27 (byr_X9_becomes_0 (j := 8) rfl)
theorem dX9_becomes_9 : decode cX9_becomes 9 = .ok (.imul, 1) := dk_104 (byr_X9_becomes_0 (j := 9) rfl)
theorem dX9_becomes_10 : decode cX9_becomes 10 = .ok (.iadd, 1) := dk_96 (byr_X9_becomes_0 (j := 10) rfl)
theorem dX9_becomes_11 : decode cX9_becomes 11 = .ok (.iload_n 2, 1) := dk_28 (byr_X9_becomes_0 (j := 11) rfl)
theorem dX9_becomes_12 : decode cX9_becomes 12 = .ok (.iadd, 1) := dk_96 (byr_X9_becomes_0 (j := 12) rfl)
theorem dX9_becomes_13 : decode cX9_becomes 13 = .ok (.iload_n 3, 1) := dk_29 (byr_X9_becomes_0 (j := 13) rfl)
theorem dX9_becomes_14 : decode cX9_becomes 14 = .ok (.iastore, 1) := dk_79 (byr_X9_becomes_0 (j := 14) rfl)
theorem dX9_becomes_15 : decode cX9_becomes 15 = .ok (.return_, 1) := dk_177 (byr_X9_becomes_0 (j := 15) rfl)
set_option maxHeartbeats 4000000 in
set_option maxRecDepth 100000 in
theorem c_X9_becomes (l : Launch) (G : GT) (σ : Sto) (a1 : Int32) (a2 : Int32) (a3 : Int32) (r : Sto) (h : f_X9_becomes σ a1 a2 a3 = some r) : MW l G (2) (64) 0 0 yX9_becomes cX9_becomes 4 (Option.none : Option Jvm.ClassFile.FieldType) [.ref (gad G 81), .int a1, .int a2, .int a3] (wl G σ) (none) (wl G r) := by
  refine mw_of RX9 (fiV G) [(0, .ref (gad G 81)), (1, .int a1), (2, .int a2), (3, .int a3)] (by decide +kernel) rfl (Nat.le_of_ble_eq_true rfl) rfl h rfl (fun p e s m args below meth c X hr hnm => ?_)
  unfold f_X9_becomes
  refine sm_aload_n X 1 0 dX9_becomes_0 rfl rfl rfl ?_
  refine sm_getf X 4 82 rfl fd_9_0 rfl dX9_becomes_1 rfl q_882 ?_
  refine sm_bipush X 6 (16) dX9_becomes_4 rfl rfl ?_
  refine sm_bipush X 8 (9) dX9_becomes_6 rfl rfl ?_
  refine sm_iload_n X 9 1 dX9_becomes_8 rfl rfl rfl ?_
  refine sm_imul X 10 dX9_becomes_9 rfl ?_
  refine sm_iadd X 11 dX9_becomes_10 rfl ?_
  refine sm_iload_n X 12 2 dX9_becomes_11 rfl rfl rfl ?_
  refine sm_iadd X 13 dX9_becomes_12 rfl ?_
  refine sm_iload_n X 14 3 dX9_becomes_13 rfl rfl rfl ?_
  refine sm_iast X 15 rfl dX9_becomes_14 rfl (fun σ14 e14 => ?_)
  clear e14
  exact sm_vret X hr dX9_becomes_15 rfl
def by_X9_here_0 : List Nat := [42, 180, 0, 53, 42, 180, 0, 57, 162, 0, 27, 42, 180, 0, 60, 156]
def by_X9_here_1 : List Nat := [0, 20, 42, 180, 0, 7, 42, 180, 0, 63, 42, 180, 0, 53, 96, 46]
def by_X9_here_z : List Nat := [167, 0, 4, 2, 172]
def by_X9_here : List (List Nat) := [by_X9_here_0, by_X9_here_1]
set_option maxRecDepth 100000 in
theorem byo_X9_here : cX9_here.data.toList.map UInt8.toNat = by_X9_here.flatten ++ by_X9_here_z := by decide +kernel
theorem byl_X9_here : by_X9_here.all (fun r => r.length == 16) = true := by decide +kernel
theorem byr_X9_here_0 {j v : Nat} (h : by_X9_here_0[j]? = some v) : RD cX9_here (0 + j) v := rd_16 byo_X9_here byl_X9_here 0 rfl h
theorem byr_X9_here_1 {j v : Nat} (h : by_X9_here_1[j]? = some v) : RD cX9_here (16 + j) v := rd_16 byo_X9_here byl_X9_here 1 rfl h
theorem byr_X9_here_2 {j v : Nat} (h : by_X9_here_z[j]? = some v) : RD cX9_here (32 + j) v := rd_z byo_X9_here byl_X9_here 2 rfl h
theorem dX9_here_0 : decode cX9_here 0 = .ok (.aload_n 0, 1) := dk_42 (byr_X9_here_0 (j := 0) rfl)
theorem dX9_here_1 : decode cX9_here 1 = .ok (.getfield 53, 3) := dk_180 (byr_X9_here_0 (j := 1) rfl) (byr_X9_here_0 (j := 2) rfl) (byr_X9_here_0 (j := 3) rfl) (by decide)
theorem dX9_here_4 : decode cX9_here 4 = .ok (.aload_n 0, 1) := dk_42 (byr_X9_here_0 (j := 4) rfl)
theorem dX9_here_5 : decode cX9_here 5 = .ok (.getfield 57, 3) := dk_180 (byr_X9_here_0 (j := 5) rfl) (byr_X9_here_0 (j := 6) rfl) (byr_X9_here_0 (j := 7) rfl) (by decide)
theorem dX9_here_8 : decode cX9_here 8 = .ok (.if_icmp .ge 27, 3) := dk_162 (byr_X9_here_0 (j := 8) rfl) (byr_X9_here_0 (j := 9) rfl) (byr_X9_here_0 (j := 10) rfl) (by decide)
theorem dX9_here_11 : decode cX9_here 11 = .ok (.aload_n 0, 1) := dk_42 (byr_X9_here_0 (j := 11) rfl)
theorem dX9_here_12 : decode cX9_here 12 = .ok (.getfield 60, 3) := dk_180 (byr_X9_here_0 (j := 12) rfl) (byr_X9_here_0 (j := 13) rfl) (byr_X9_here_0 (j := 14) rfl) (by decide)
theorem dX9_here_15 : decode cX9_here 15 = .ok (.ifCond .ge 20, 3) := dk_156 (byr_X9_here_0 (j := 15) rfl) (byr_X9_here_1 (j := 0) rfl) (byr_X9_here_1 (j := 1) rfl) (by decide)
theorem dX9_here_18 : decode cX9_here 18 = .ok (.aload_n 0, 1) := dk_42 (byr_X9_here_1 (j := 2) rfl)
theorem dX9_here_19 : decode cX9_here 19 = .ok (.getfield 7, 3) := dk_180 (byr_X9_here_1 (j := 3) rfl) (byr_X9_here_1 (j := 4) rfl) (byr_X9_here_1 (j := 5) rfl) (by decide)
theorem dX9_here_22 : decode cX9_here 22 = .ok (.aload_n 0, 1) := dk_42 (byr_X9_here_1 (j := 6) rfl)
theorem dX9_here_23 : decode cX9_here 23 = .ok (.getfield 63, 3) := dk_180 (byr_X9_here_1 (j := 7) rfl) (byr_X9_here_1 (j := 8) rfl) (byr_X9_here_1 (j := 9) rfl) (by decide)
theorem dX9_here_26 : decode cX9_here 26 = .ok (.aload_n 0, 1) := dk_42 (byr_X9_here_1 (j := 10) rfl)
theorem dX9_here_27 : decode cX9_here 27 = .ok (.getfield 53, 3) := dk_180 (byr_X9_here_1 (j := 11) rfl) (byr_X9_here_1 (j := 12) rfl) (byr_X9_here_1 (j := 13) rfl) (by decide)
theorem dX9_here_30 : decode cX9_here 30 = .ok (.iadd, 1) := dk_96 (byr_X9_here_1 (j := 14) rfl)
theorem dX9_here_31 : decode cX9_here 31 = .ok (.iaload, 1) := dk_46 (byr_X9_here_1 (j := 15) rfl)
theorem dX9_here_32 : decode cX9_here 32 = .ok (.goto 4, 3) := dk_167 (byr_X9_here_2 (j := 0) rfl) (byr_X9_here_2 (j := 1) rfl) (byr_X9_here_2 (j := 2) rfl) (by decide)
theorem dX9_here_35 : decode cX9_here 35 = .ok (.iconst (-1), 1) := dk_2 (byr_X9_here_2 (j := 3) rfl)
theorem dX9_here_36 : decode cX9_here 36 = .ok (.ireturn, 1) := dk_172 (byr_X9_here_2 (j := 4) rfl)
set_option maxHeartbeats 4000000 in
set_option maxRecDepth 100000 in
theorem c_X9_here (l : Launch) (G : GT) (σ : Sto)  (r : Int32) (h : f_X9_here σ  = some r) : MW l G (2) (64) 0 0 yX9_here cX9_here 1 (Option.some Jvm.ClassFile.FieldType.int) [.ref (gad G 81)] (wl G σ) (some (.int r)) (wl G σ) := by
  refine mw_of RX9 (fpI G σ) [(0, .ref (gad G 81))] (by decide +kernel) rfl (Nat.le_of_ble_eq_true rfl) rfl h rfl (fun p e s m args below meth c X hr hnm => ?_)
  unfold f_X9_here
  refine sm_aload_n X 1 0 dX9_here_0 rfl rfl rfl ?_
  refine sm_geti X 4 rfl fd_9_6 dX9_here_1 rfl q_888 ?_
  refine sm_aload_n X 5 0 dX9_here_4 rfl rfl rfl ?_
  refine sm_geti X 8 rfl fd_9_7 dX9_here_5 rfl q_889 ?_
  refine sm_icmp_ge X 11 35 dX9_here_8 rfl (by decide) (fun h8 => ?_) (fun h8 => ?_)
  · refine sm_iconst X 36 (-1) dX9_here_35 rfl rfl ?_
    exact sm_iret X hr dX9_here_36 rfl
  · refine sm_aload_n X 12 0 dX9_here_11 rfl rfl rfl ?_
    refine sm_geti X 15 rfl fd_9_8 dX9_here_12 rfl q_890 ?_
    refine sm_if_ge X 18 35 dX9_here_15 rfl (by decide) (fun h15 => ?_) (fun h15 => ?_)
    · refine sm_iconst X 36 (-1) dX9_here_35 rfl rfl ?_
      exact sm_iret X hr dX9_here_36 rfl
    · refine sm_aload_n X 19 0 dX9_here_18 rfl rfl rfl ?_
      refine sm_getf X 22 82 rfl fd_9_0 rfl dX9_here_19 rfl q_882 ?_
      refine sm_aload_n X 23 0 dX9_here_22 rfl rfl rfl ?_
      refine sm_geti X 26 rfl fd_9_5 dX9_here_23 rfl q_887 ?_
      refine sm_aload_n X 27 0 dX9_here_26 rfl rfl rfl ?_
      refine sm_geti X 30 rfl fd_9_6 dX9_here_27 rfl q_888 ?_
      refine sm_iadd X 31 dX9_here_30 rfl ?_
      refine sm_iald X 32 rfl dX9_here_31 rfl (fun r31 e31 => ?_)
      clear e31
      refine sm_goto X 36 dX9_here_32 (by decide) ?_
      exact sm_iret X hr dX9_here_36 rfl
def by_X9_wrong_0 : List Nat := [42, 42, 180, 0, 60, 156, 0, 10, 42, 180, 0, 53, 167, 0, 7, 42]
def by_X9_wrong_z : List Nat := [180, 0, 60, 181, 0, 60, 177]
def by_X9_wrong : List (List Nat) := [by_X9_wrong_0]
set_option maxRecDepth 100000 in
theorem byo_X9_wrong : cX9_wrong.data.toList.map UInt8.toNat = by_X9_wrong.flatten ++ by_X9_wrong_z := by decide +kernel
theorem byl_X9_wrong : by_X9_wrong.all (fun r => r.length == 16) = true := by decide +kernel
theorem byr_X9_wrong_0 {j v : Nat} (h : by_X9_wrong_0[j]? = some v) : RD cX9_wrong (0 + j) v := rd_16 byo_X9_wrong byl_X9_wrong 0 rfl h
theorem byr_X9_wrong_1 {j v : Nat} (h : by_X9_wrong_z[j]? = some v) : RD cX9_wrong (16 + j) v := rd_z byo_X9_wrong byl_X9_wrong 1 rfl h
theorem dX9_wrong_0 : decode cX9_wrong 0 = .ok (.aload_n 0, 1) := dk_42 (byr_X9_wrong_0 (j := 0) rfl)
theorem dX9_wrong_1 : decode cX9_wrong 1 = .ok (.aload_n 0, 1) := dk_42 (byr_X9_wrong_0 (j := 1) rfl)
theorem dX9_wrong_2 : decode cX9_wrong 2 = .ok (.getfield 60, 3) := dk_180 (byr_X9_wrong_0 (j := 2) rfl) (byr_X9_wrong_0 (j := 3) rfl) (byr_X9_wrong_0 (j := 4) rfl) (by decide)
theorem dX9_wrong_5 : decode cX9_wrong 5 = .ok (.ifCond .ge 10, 3) := dk_156 (byr_X9_wrong_0 (j := 5) rfl) (byr_X9_wrong_0 (j := 6) rfl) (byr_X9_wrong_0 (j := 7) rfl) (by decide)
theorem dX9_wrong_8 : decode cX9_wrong 8 = .ok (.aload_n 0, 1) := dk_42 (byr_X9_wrong_0 (j := 8) rfl)
theorem dX9_wrong_9 : decode cX9_wrong 9 = .ok (.getfield 53, 3) := dk_180 (byr_X9_wrong_0 (j := 9) rfl) (byr_X9_wrong_0 (j := 10) rfl) (byr_X9_wrong_0 (j := 11) rfl) (by decide)
theorem dX9_wrong_12 : decode cX9_wrong 12 = .ok (.goto 7, 3) := dk_167 (byr_X9_wrong_0 (j := 12) rfl) (byr_X9_wrong_0 (j := 13) rfl) (byr_X9_wrong_0 (j := 14) rfl) (by decide)
theorem dX9_wrong_15 : decode cX9_wrong 15 = .ok (.aload_n 0, 1) := dk_42 (byr_X9_wrong_0 (j := 15) rfl)
theorem dX9_wrong_16 : decode cX9_wrong 16 = .ok (.getfield 60, 3) := dk_180 (byr_X9_wrong_1 (j := 0) rfl) (byr_X9_wrong_1 (j := 1) rfl) (byr_X9_wrong_1 (j := 2) rfl) (by decide)
theorem dX9_wrong_19 : decode cX9_wrong 19 = .ok (.putfield 60, 3) := dk_181 (byr_X9_wrong_1 (j := 3) rfl) (byr_X9_wrong_1 (j := 4) rfl) (byr_X9_wrong_1 (j := 5) rfl) (by decide)
theorem dX9_wrong_22 : decode cX9_wrong 22 = .ok (.return_, 1) := dk_177 (byr_X9_wrong_1 (j := 6) rfl)
set_option maxHeartbeats 4000000 in
set_option maxRecDepth 100000 in
theorem c_X9_wrong (l : Launch) (G : GT) (σ : Sto)  (r : Sto) (h : f_X9_wrong σ  = some r) : MW l G (2) (64) 0 0 yX9_wrong cX9_wrong 1 (Option.none : Option Jvm.ClassFile.FieldType) [.ref (gad G 81)] (wl G σ) (none) (wl G r) := by
  refine mw_of RX9 (fiV G) [(0, .ref (gad G 81))] (by decide +kernel) rfl (Nat.le_of_ble_eq_true rfl) rfl h rfl (fun p e s m args below meth c X hr hnm => ?_)
  have J19 : ∀ (vs0 : Int32)  (σ : Sto), Sm p l e { frames := 2, cells := 0, slots := 0, locals := 64 } s m args below meth c G 1 (Qm below args s G 0 0 (fiV G)) 0 0 (wl G σ) 19 [] [.int vs0, .ref (gad G 81)] (f_X9_wrong_L19  vs0 σ) := by
    intro vs0 σ
    rw [f_X9_wrong_L19]
    refine sm_puti X 22 .int rfl fd_9_8 (by decide) rfl rfl rfl dX9_wrong_19 rfl q_890 (fun σ19 e19 => ?_)
    clear e19
    exact sm_vret X hr dX9_wrong_22 rfl
  unfold f_X9_wrong
  refine sm_aload_n X 1 0 dX9_wrong_0 rfl rfl rfl ?_
  refine sm_aload_n X 2 0 dX9_wrong_1 rfl rfl rfl ?_
  refine sm_geti X 5 rfl fd_9_8 dX9_wrong_2 rfl q_890 ?_
  refine sm_if_ge X 8 15 dX9_wrong_5 rfl (by decide) (fun h5 => ?_) (fun h5 => ?_)
  · refine sm_aload_n X 16 0 dX9_wrong_15 rfl rfl rfl ?_
    refine sm_geti X 19 rfl fd_9_8 dX9_wrong_16 rfl q_890 ?_
    exact sm_sub [] rfl (J19 (σ.1 81 8)  σ)
  · refine sm_aload_n X 9 0 dX9_wrong_8 rfl rfl rfl ?_
    refine sm_geti X 12 rfl fd_9_6 dX9_wrong_9 rfl q_888 ?_
    refine sm_goto X 19 dX9_wrong_12 (by decide) ?_
    exact sm_sub [] rfl (J19 (σ.1 81 6)  σ)
def by_X9_takes_0 : List Nat := [42, 182, 0, 66, 27, 159, 0, 5, 3, 172, 42, 89, 180, 0, 53, 4]
def by_X9_takes_z : List Nat := [96, 181, 0, 53, 4, 172]
def by_X9_takes : List (List Nat) := [by_X9_takes_0]
set_option maxRecDepth 100000 in
theorem byo_X9_takes : cX9_takes.data.toList.map UInt8.toNat = by_X9_takes.flatten ++ by_X9_takes_z := by decide +kernel
theorem byl_X9_takes : by_X9_takes.all (fun r => r.length == 16) = true := by decide +kernel
theorem byr_X9_takes_0 {j v : Nat} (h : by_X9_takes_0[j]? = some v) : RD cX9_takes (0 + j) v := rd_16 byo_X9_takes byl_X9_takes 0 rfl h
theorem byr_X9_takes_1 {j v : Nat} (h : by_X9_takes_z[j]? = some v) : RD cX9_takes (16 + j) v := rd_z byo_X9_takes byl_X9_takes 1 rfl h
theorem dX9_takes_0 : decode cX9_takes 0 = .ok (.aload_n 0, 1) := dk_42 (byr_X9_takes_0 (j := 0) rfl)
theorem dX9_takes_1 : decode cX9_takes 1 = .ok (.invokevirtual 66, 3) := dk_182 (byr_X9_takes_0 (j := 1) rfl) (byr_X9_takes_0 (j := 2) rfl) (byr_X9_takes_0 (j := 3) rfl) (by decide)
theorem dX9_takes_4 : decode cX9_takes 4 = .ok (.iload_n 1, 1) := dk_27 (byr_X9_takes_0 (j := 4) rfl)
theorem dX9_takes_5 : decode cX9_takes 5 = .ok (.if_icmp .eq 5, 3) := dk_159 (byr_X9_takes_0 (j := 5) rfl) (byr_X9_takes_0 (j := 6) rfl) (byr_X9_takes_0 (j := 7) rfl) (by decide)
theorem dX9_takes_8 : decode cX9_takes 8 = .ok (.iconst 0, 1) := dk_3 (byr_X9_takes_0 (j := 8) rfl)
theorem dX9_takes_9 : decode cX9_takes 9 = .ok (.ireturn, 1) := dk_172 (byr_X9_takes_0 (j := 9) rfl)
theorem dX9_takes_10 : decode cX9_takes 10 = .ok (.aload_n 0, 1) := dk_42 (byr_X9_takes_0 (j := 10) rfl)
theorem dX9_takes_11 : decode cX9_takes 11 = .ok (.dup, 1) := dk_89 (byr_X9_takes_0 (j := 11) rfl)
theorem dX9_takes_12 : decode cX9_takes 12 = .ok (.getfield 53, 3) := dk_180 (byr_X9_takes_0 (j := 12) rfl) (byr_X9_takes_0 (j := 13) rfl) (byr_X9_takes_0 (j := 14) rfl) (by decide)
theorem dX9_takes_15 : decode cX9_takes 15 = .ok (.iconst 1, 1) := dk_4 (byr_X9_takes_0 (j := 15) rfl)
theorem dX9_takes_16 : decode cX9_takes 16 = .ok (.iadd, 1) := dk_96 (byr_X9_takes_1 (j := 0) rfl)
theorem dX9_takes_17 : decode cX9_takes 17 = .ok (.putfield 53, 3) := dk_181 (byr_X9_takes_1 (j := 1) rfl) (byr_X9_takes_1 (j := 2) rfl) (byr_X9_takes_1 (j := 3) rfl) (by decide)
theorem dX9_takes_20 : decode cX9_takes 20 = .ok (.iconst 1, 1) := dk_4 (byr_X9_takes_1 (j := 4) rfl)
theorem dX9_takes_21 : decode cX9_takes 21 = .ok (.ireturn, 1) := dk_172 (byr_X9_takes_1 (j := 5) rfl)
set_option maxHeartbeats 4000000 in
set_option maxRecDepth 100000 in
theorem c_X9_takes (l : Launch) (G : GT) (σ : Sto) (a1 : Int32) (r : (Bool × Sto)) (h : f_X9_takes σ a1 = some r) : MW l G (3) (84) 0 0 yX9_takes cX9_takes 2 (Option.some Jvm.ClassFile.FieldType.boolean) [.ref (gad G 81), .int a1] (wl G σ) (some (.int (b2i r.1))) (wl G r.2) := by
  refine mw_of RX9 (fiZ G) [(0, .ref (gad G 81)), (1, .int a1)] (by decide +kernel) rfl (Nat.le_of_ble_eq_true rfl) rfl h rfl (fun p e s m args below meth c X hr hnm => ?_)
  unfold f_X9_takes
  refine sm_aload_n X 1 0 dX9_takes_0 rfl rfl rfl ?_
  refine sm_bind (fun r1 h1 => ?_)
  refine sm_callV0 X 4 [] [] [.int r1] (c_X9_here l G σ  r1 h1) cw_X9_here q_1003 qs_34 q_1001 rfl (by decide) rfl rfl rfl rfl rfl (Nat.le_of_ble_eq_true rfl) ⟨Nat.le_of_ble_eq_true rfl, Nat.le_of_ble_eq_true rfl⟩ ⟨Nat.le_refl _, Nat.le_refl _⟩ dX9_takes_1 rfl ?_
  refine sm_iload_n X 5 1 dX9_takes_4 rfl rfl rfl ?_
  refine sm_icmp_eq X 8 10 dX9_takes_5 rfl (by decide) (fun h5 => ?_) (fun h5 => ?_)
  · refine sm_aload_n X 11 0 dX9_takes_10 rfl rfl rfl ?_
    refine sm_dup X 12 dX9_takes_11 rfl rfl ?_
    refine sm_geti X 15 rfl fd_9_6 dX9_takes_12 rfl q_888 ?_
    refine sm_iconst X 16 (1) dX9_takes_15 rfl rfl ?_
    refine sm_iadd X 17 dX9_takes_16 rfl ?_
    refine sm_puti X 20 .int rfl fd_9_6 (by decide) rfl rfl rfl dX9_takes_17 rfl q_888 (fun σ17 e17 => ?_)
    clear e17
    refine sm_iconst X 21 (1) dX9_takes_20 rfl rfl ?_
    exact sm_zret X (v := true) hr dX9_takes_21 rfl
  · refine sm_iconst X 9 (0) dX9_takes_8 rfl rfl ?_
    exact sm_zret X (v := false) hr dX9_takes_9 rfl
def by_X9_nameOf_0 : List Nat := [42, 180, 0, 70, 153, 0, 35, 27, 16, 98, 160, 0, 7, 3, 167, 0]
def by_X9_nameOf_1 : List Nat := [24, 27, 16, 121, 160, 0, 7, 4, 167, 0, 14, 27, 16, 119, 160, 0]
def by_X9_nameOf_2 : List Nat := [7, 5, 167, 0, 4, 2, 172, 27, 16, 99, 160, 0, 7, 3, 167, 0]
def by_X9_nameOf_3 : List Nat := [24, 27, 16, 119, 160, 0, 7, 4, 167, 0, 14, 27, 16, 108, 160, 0]
def by_X9_nameOf_z : List Nat := [7, 5, 167, 0, 4, 2, 172]
def by_X9_nameOf : List (List Nat) := [by_X9_nameOf_0, by_X9_nameOf_1, by_X9_nameOf_2, by_X9_nameOf_3]
set_option maxRecDepth 100000 in
theorem byo_X9_nameOf : cX9_nameOf.data.toList.map UInt8.toNat = by_X9_nameOf.flatten ++ by_X9_nameOf_z := by decide +kernel
theorem byl_X9_nameOf : by_X9_nameOf.all (fun r => r.length == 16) = true := by decide +kernel
theorem byr_X9_nameOf_0 {j v : Nat} (h : by_X9_nameOf_0[j]? = some v) : RD cX9_nameOf (0 + j) v := rd_16 byo_X9_nameOf byl_X9_nameOf 0 rfl h
theorem byr_X9_nameOf_1 {j v : Nat} (h : by_X9_nameOf_1[j]? = some v) : RD cX9_nameOf (16 + j) v := rd_16 byo_X9_nameOf byl_X9_nameOf 1 rfl h
theorem byr_X9_nameOf_2 {j v : Nat} (h : by_X9_nameOf_2[j]? = some v) : RD cX9_nameOf (32 + j) v := rd_16 byo_X9_nameOf byl_X9_nameOf 2 rfl h
theorem byr_X9_nameOf_3 {j v : Nat} (h : by_X9_nameOf_3[j]? = some v) : RD cX9_nameOf (48 + j) v := rd_16 byo_X9_nameOf byl_X9_nameOf 3 rfl h
theorem byr_X9_nameOf_4 {j v : Nat} (h : by_X9_nameOf_z[j]? = some v) : RD cX9_nameOf (64 + j) v := rd_z byo_X9_nameOf byl_X9_nameOf 4 rfl h
theorem dX9_nameOf_0 : decode cX9_nameOf 0 = .ok (.aload_n 0, 1) := dk_42 (byr_X9_nameOf_0 (j := 0) rfl)
theorem dX9_nameOf_1 : decode cX9_nameOf 1 = .ok (.getfield 70, 3) := dk_180 (byr_X9_nameOf_0 (j := 1) rfl) (byr_X9_nameOf_0 (j := 2) rfl) (byr_X9_nameOf_0 (j := 3) rfl) (by decide)
theorem dX9_nameOf_4 : decode cX9_nameOf 4 = .ok (.ifCond .eq 35, 3) := dk_153 (byr_X9_nameOf_0 (j := 4) rfl) (byr_X9_nameOf_0 (j := 5) rfl) (byr_X9_nameOf_0 (j := 6) rfl) (by decide)
theorem dX9_nameOf_7 : decode cX9_nameOf 7 = .ok (.iload_n 1, 1) := dk_27 (byr_X9_nameOf_0 (j := 7) rfl)
theorem dX9_nameOf_8 : decode cX9_nameOf 8 = .ok (.bipush 98, 2) := dk_16 (byr_X9_nameOf_0 (j := 8) rfl) (byr_X9_nameOf_0 (j := 9) rfl) (by decide)
theorem dX9_nameOf_10 : decode cX9_nameOf 10 = .ok (.if_icmp .ne 7, 3) := dk_160 (byr_X9_nameOf_0 (j := 10) rfl) (byr_X9_nameOf_0 (j := 11) rfl) (byr_X9_nameOf_0 (j := 12) rfl) (by decide)
theorem dX9_nameOf_13 : decode cX9_nameOf 13 = .ok (.iconst 0, 1) := dk_3 (byr_X9_nameOf_0 (j := 13) rfl)
theorem dX9_nameOf_14 : decode cX9_nameOf 14 = .ok (.goto 24, 3) := dk_167 (byr_X9_nameOf_0 (j := 14) rfl) (byr_X9_nameOf_0 (j := 15) rfl) (byr_X9_nameOf_1 (j := 0) rfl) (by decide)
theorem dX9_nameOf_17 : decode cX9_nameOf 17 = .ok (.iload_n 1, 1) := dk_27 (byr_X9_nameOf_1 (j := 1) rfl)
theorem dX9_nameOf_18 : decode cX9_nameOf 18 = .ok (.bipush 121, 2) := dk_16 (byr_X9_nameOf_1 (j := 2) rfl) (byr_X9_nameOf_1 (j := 3) rfl) (by decide)
theorem dX9_nameOf_20 : decode cX9_nameOf 20 = .ok (.if_icmp .ne 7, 3) := dk_160 (byr_X9_nameOf_1 (j := 4) rfl) (byr_X9_nameOf_1 (j := 5) rfl) (byr_X9_nameOf_1 (j := 6) rfl) (by decide)
theorem dX9_nameOf_23 : decode cX9_nameOf 23 = .ok (.iconst 1, 1) := dk_4 (byr_X9_nameOf_1 (j := 7) rfl)
theorem dX9_nameOf_24 : decode cX9_nameOf 24 = .ok (.goto 14, 3) := dk_167 (byr_X9_nameOf_1 (j := 8) rfl) (byr_X9_nameOf_1 (j := 9) rfl) (byr_X9_nameOf_1 (j := 10) rfl) (by decide)
theorem dX9_nameOf_27 : decode cX9_nameOf 27 = .ok (.iload_n 1, 1) := dk_27 (byr_X9_nameOf_1 (j := 11) rfl)
theorem dX9_nameOf_28 : decode cX9_nameOf 28 = .ok (.bipush 119, 2) := dk_16 (byr_X9_nameOf_1 (j := 12) rfl) (byr_X9_nameOf_1 (j := 13) rfl) (by decide)
theorem dX9_nameOf_30 : decode cX9_nameOf 30 = .ok (.if_icmp .ne 7, 3) := dk_160 (byr_X9_nameOf_1 (j := 14) rfl) (byr_X9_nameOf_1 (j := 15) rfl) (byr_X9_nameOf_2 (j := 0) rfl) (by decide)
theorem dX9_nameOf_33 : decode cX9_nameOf 33 = .ok (.iconst 2, 1) := dk_5 (byr_X9_nameOf_2 (j := 1) rfl)
theorem dX9_nameOf_34 : decode cX9_nameOf 34 = .ok (.goto 4, 3) := dk_167 (byr_X9_nameOf_2 (j := 2) rfl) (byr_X9_nameOf_2 (j := 3) rfl) (byr_X9_nameOf_2 (j := 4) rfl) (by decide)
theorem dX9_nameOf_37 : decode cX9_nameOf 37 = .ok (.iconst (-1), 1) := dk_2 (byr_X9_nameOf_2 (j := 5) rfl)
theorem dX9_nameOf_38 : decode cX9_nameOf 38 = .ok (.ireturn, 1) := dk_172 (byr_X9_nameOf_2 (j := 6) rfl)
theorem dX9_nameOf_39 : decode cX9_nameOf 39 = .ok (.iload_n 1, 1) := dk_27 (byr_X9_nameOf_2 (j := 7) rfl)
theorem dX9_nameOf_40 : decode cX9_nameOf 40 = .ok (.bipush 99, 2) := dk_16 (byr_X9_nameOf_2 (j := 8) rfl) (byr_X9_nameOf_2 (j := 9) rfl) (by decide)
theorem dX9_nameOf_42 : decode cX9_nameOf 42 = .ok (.if_icmp .ne 7, 3) := dk_160 (byr_X9_nameOf_2 (j := 10) rfl) (byr_X9_nameOf_2 (j := 11) rfl) (byr_X9_nameOf_2 (j := 12) rfl) (by decide)
theorem dX9_nameOf_45 : decode cX9_nameOf 45 = .ok (.iconst 0, 1) := dk_3 (byr_X9_nameOf_2 (j := 13) rfl)
theorem dX9_nameOf_46 : decode cX9_nameOf 46 = .ok (.goto 24, 3) := dk_167 (byr_X9_nameOf_2 (j := 14) rfl) (byr_X9_nameOf_2 (j := 15) rfl) (byr_X9_nameOf_3 (j := 0) rfl) (by decide)
theorem dX9_nameOf_49 : decode cX9_nameOf 49 = .ok (.iload_n 1, 1) := dk_27 (byr_X9_nameOf_3 (j := 1) rfl)
theorem dX9_nameOf_50 : decode cX9_nameOf 50 = .ok (.bipush 119, 2) := dk_16 (byr_X9_nameOf_3 (j := 2) rfl) (byr_X9_nameOf_3 (j := 3) rfl) (by decide)
theorem dX9_nameOf_52 : decode cX9_nameOf 52 = .ok (.if_icmp .ne 7, 3) := dk_160 (byr_X9_nameOf_3 (j := 4) rfl) (byr_X9_nameOf_3 (j := 5) rfl) (byr_X9_nameOf_3 (j := 6) rfl) (by decide)
theorem dX9_nameOf_55 : decode cX9_nameOf 55 = .ok (.iconst 1, 1) := dk_4 (byr_X9_nameOf_3 (j := 7) rfl)
theorem dX9_nameOf_56 : decode cX9_nameOf 56 = .ok (.goto 14, 3) := dk_167 (byr_X9_nameOf_3 (j := 8) rfl) (byr_X9_nameOf_3 (j := 9) rfl) (byr_X9_nameOf_3 (j := 10) rfl) (by decide)
theorem dX9_nameOf_59 : decode cX9_nameOf 59 = .ok (.iload_n 1, 1) := dk_27 (byr_X9_nameOf_3 (j := 11) rfl)
theorem dX9_nameOf_60 : decode cX9_nameOf 60 = .ok (.bipush 108, 2) := dk_16 (byr_X9_nameOf_3 (j := 12) rfl) (byr_X9_nameOf_3 (j := 13) rfl) (by decide)
theorem dX9_nameOf_62 : decode cX9_nameOf 62 = .ok (.if_icmp .ne 7, 3) := dk_160 (byr_X9_nameOf_3 (j := 14) rfl) (byr_X9_nameOf_3 (j := 15) rfl) (byr_X9_nameOf_4 (j := 0) rfl) (by decide)
theorem dX9_nameOf_65 : decode cX9_nameOf 65 = .ok (.iconst 2, 1) := dk_5 (byr_X9_nameOf_4 (j := 1) rfl)
theorem dX9_nameOf_66 : decode cX9_nameOf 66 = .ok (.goto 4, 3) := dk_167 (byr_X9_nameOf_4 (j := 2) rfl) (byr_X9_nameOf_4 (j := 3) rfl) (byr_X9_nameOf_4 (j := 4) rfl) (by decide)
theorem dX9_nameOf_69 : decode cX9_nameOf 69 = .ok (.iconst (-1), 1) := dk_2 (byr_X9_nameOf_4 (j := 5) rfl)
theorem dX9_nameOf_70 : decode cX9_nameOf 70 = .ok (.ireturn, 1) := dk_172 (byr_X9_nameOf_4 (j := 6) rfl)
set_option maxHeartbeats 4000000 in
set_option maxRecDepth 100000 in
theorem c_X9_nameOf (l : Launch) (G : GT) (σ : Sto) (a1 : Int32) (r : Int32) (h : f_X9_nameOf σ a1 = some r) : MW l G (2) (64) 0 0 yX9_nameOf cX9_nameOf 2 (Option.some Jvm.ClassFile.FieldType.int) [.ref (gad G 81), .int a1] (wl G σ) (some (.int r)) (wl G σ) := by
  refine mw_of RX9 (fpI G σ) [(0, .ref (gad G 81)), (1, .int a1)] (by decide +kernel) rfl (Nat.le_of_ble_eq_true rfl) rfl h rfl (fun p e s m args below meth c X hr hnm => ?_)
  unfold f_X9_nameOf
  refine sm_aload_n X 1 0 dX9_nameOf_0 rfl rfl rfl ?_
  refine sm_geti X 4 rfl fd_9_10 dX9_nameOf_1 rfl q_892 ?_
  refine sm_if_eq X 7 39 dX9_nameOf_4 rfl (by decide) (fun h4 => ?_) (fun h4 => ?_)
  · refine sm_iload_n X 40 1 dX9_nameOf_39 rfl rfl rfl ?_
    refine sm_bipush X 42 (99) dX9_nameOf_40 rfl rfl ?_
    refine sm_icmp_ne X 45 49 dX9_nameOf_42 rfl (by decide) (fun h42 => ?_) (fun h42 => ?_)
    · refine sm_iconst X 46 (0) dX9_nameOf_45 rfl rfl ?_
      refine sm_goto X 70 dX9_nameOf_46 (by decide) ?_
      exact sm_iret X hr dX9_nameOf_70 rfl
    · refine sm_iload_n X 50 1 dX9_nameOf_49 rfl rfl rfl ?_
      refine sm_bipush X 52 (119) dX9_nameOf_50 rfl rfl ?_
      refine sm_icmp_ne X 55 59 dX9_nameOf_52 rfl (by decide) (fun h52 => ?_) (fun h52 => ?_)
      · refine sm_iconst X 56 (1) dX9_nameOf_55 rfl rfl ?_
        refine sm_goto X 70 dX9_nameOf_56 (by decide) ?_
        exact sm_iret X hr dX9_nameOf_70 rfl
      · refine sm_iload_n X 60 1 dX9_nameOf_59 rfl rfl rfl ?_
        refine sm_bipush X 62 (108) dX9_nameOf_60 rfl rfl ?_
        refine sm_icmp_ne X 65 69 dX9_nameOf_62 rfl (by decide) (fun h62 => ?_) (fun h62 => ?_)
        · refine sm_iconst X 66 (2) dX9_nameOf_65 rfl rfl ?_
          refine sm_goto X 70 dX9_nameOf_66 (by decide) ?_
          exact sm_iret X hr dX9_nameOf_70 rfl
        · refine sm_iconst X 70 (-1) dX9_nameOf_69 rfl rfl ?_
          exact sm_iret X hr dX9_nameOf_70 rfl
  · refine sm_iload_n X 8 1 dX9_nameOf_7 rfl rfl rfl ?_
    refine sm_bipush X 10 (98) dX9_nameOf_8 rfl rfl ?_
    refine sm_icmp_ne X 13 17 dX9_nameOf_10 rfl (by decide) (fun h10 => ?_) (fun h10 => ?_)
    · refine sm_iconst X 14 (0) dX9_nameOf_13 rfl rfl ?_
      refine sm_goto X 38 dX9_nameOf_14 (by decide) ?_
      exact sm_iret X hr dX9_nameOf_38 rfl
    · refine sm_iload_n X 18 1 dX9_nameOf_17 rfl rfl rfl ?_
      refine sm_bipush X 20 (121) dX9_nameOf_18 rfl rfl ?_
      refine sm_icmp_ne X 23 27 dX9_nameOf_20 rfl (by decide) (fun h20 => ?_) (fun h20 => ?_)
      · refine sm_iconst X 24 (1) dX9_nameOf_23 rfl rfl ?_
        refine sm_goto X 38 dX9_nameOf_24 (by decide) ?_
        exact sm_iret X hr dX9_nameOf_38 rfl
      · refine sm_iload_n X 28 1 dX9_nameOf_27 rfl rfl rfl ?_
        refine sm_bipush X 30 (119) dX9_nameOf_28 rfl rfl ?_
        refine sm_icmp_ne X 33 37 dX9_nameOf_30 rfl (by decide) (fun h30 => ?_) (fun h30 => ?_)
        · refine sm_iconst X 34 (2) dX9_nameOf_33 rfl rfl ?_
          refine sm_goto X 38 dX9_nameOf_34 (by decide) ?_
          exact sm_iret X hr dX9_nameOf_38 rfl
        · refine sm_iconst X 38 (-1) dX9_nameOf_37 rfl rfl ?_
          exact sm_iret X hr dX9_nameOf_38 rfl
def by_X9_lay_0 : List Nat := [42, 180, 0, 60, 156, 0, 23, 42, 180, 0, 25, 42, 180, 0, 74, 27]
def by_X9_lay_z : List Nat := [79, 42, 89, 180, 0, 74, 4, 96, 181, 0, 74, 177]
def by_X9_lay : List (List Nat) := [by_X9_lay_0]
set_option maxRecDepth 100000 in
theorem byo_X9_lay : cX9_lay.data.toList.map UInt8.toNat = by_X9_lay.flatten ++ by_X9_lay_z := by decide +kernel
theorem byl_X9_lay : by_X9_lay.all (fun r => r.length == 16) = true := by decide +kernel
theorem byr_X9_lay_0 {j v : Nat} (h : by_X9_lay_0[j]? = some v) : RD cX9_lay (0 + j) v := rd_16 byo_X9_lay byl_X9_lay 0 rfl h
theorem byr_X9_lay_1 {j v : Nat} (h : by_X9_lay_z[j]? = some v) : RD cX9_lay (16 + j) v := rd_z byo_X9_lay byl_X9_lay 1 rfl h
theorem dX9_lay_0 : decode cX9_lay 0 = .ok (.aload_n 0, 1) := dk_42 (byr_X9_lay_0 (j := 0) rfl)
theorem dX9_lay_1 : decode cX9_lay 1 = .ok (.getfield 60, 3) := dk_180 (byr_X9_lay_0 (j := 1) rfl) (byr_X9_lay_0 (j := 2) rfl) (byr_X9_lay_0 (j := 3) rfl) (by decide)
theorem dX9_lay_4 : decode cX9_lay 4 = .ok (.ifCond .ge 23, 3) := dk_156 (byr_X9_lay_0 (j := 4) rfl) (byr_X9_lay_0 (j := 5) rfl) (byr_X9_lay_0 (j := 6) rfl) (by decide)
theorem dX9_lay_7 : decode cX9_lay 7 = .ok (.aload_n 0, 1) := dk_42 (byr_X9_lay_0 (j := 7) rfl)
theorem dX9_lay_8 : decode cX9_lay 8 = .ok (.getfield 25, 3) := dk_180 (byr_X9_lay_0 (j := 8) rfl) (byr_X9_lay_0 (j := 9) rfl) (byr_X9_lay_0 (j := 10) rfl) (by decide)
theorem dX9_lay_11 : decode cX9_lay 11 = .ok (.aload_n 0, 1) := dk_42 (byr_X9_lay_0 (j := 11) rfl)
theorem dX9_lay_12 : decode cX9_lay 12 = .ok (.getfield 74, 3) := dk_180 (byr_X9_lay_0 (j := 12) rfl) (byr_X9_lay_0 (j := 13) rfl) (byr_X9_lay_0 (j := 14) rfl) (by decide)
theorem dX9_lay_15 : decode cX9_lay 15 = .ok (.iload_n 1, 1) := dk_27 (byr_X9_lay_0 (j := 15) rfl)
theorem dX9_lay_16 : decode cX9_lay 16 = .ok (.iastore, 1) := dk_79 (byr_X9_lay_1 (j := 0) rfl)
theorem dX9_lay_17 : decode cX9_lay 17 = .ok (.aload_n 0, 1) := dk_42 (byr_X9_lay_1 (j := 1) rfl)
theorem dX9_lay_18 : decode cX9_lay 18 = .ok (.dup, 1) := dk_89 (byr_X9_lay_1 (j := 2) rfl)
theorem dX9_lay_19 : decode cX9_lay 19 = .ok (.getfield 74, 3) := dk_180 (byr_X9_lay_1 (j := 3) rfl) (byr_X9_lay_1 (j := 4) rfl) (byr_X9_lay_1 (j := 5) rfl) (by decide)
theorem dX9_lay_22 : decode cX9_lay 22 = .ok (.iconst 1, 1) := dk_4 (byr_X9_lay_1 (j := 6) rfl)
theorem dX9_lay_23 : decode cX9_lay 23 = .ok (.iadd, 1) := dk_96 (byr_X9_lay_1 (j := 7) rfl)
theorem dX9_lay_24 : decode cX9_lay 24 = .ok (.putfield 74, 3) := dk_181 (byr_X9_lay_1 (j := 8) rfl) (byr_X9_lay_1 (j := 9) rfl) (byr_X9_lay_1 (j := 10) rfl) (by decide)
theorem dX9_lay_27 : decode cX9_lay 27 = .ok (.return_, 1) := dk_177 (byr_X9_lay_1 (j := 11) rfl)
set_option maxHeartbeats 4000000 in
set_option maxRecDepth 100000 in
theorem c_X9_lay (l : Launch) (G : GT) (σ : Sto) (a1 : Int32) (r : Sto) (h : f_X9_lay σ a1 = some r) : MW l G (2) (64) 0 0 yX9_lay cX9_lay 2 (Option.none : Option Jvm.ClassFile.FieldType) [.ref (gad G 81), .int a1] (wl G σ) (none) (wl G r) := by
  refine mw_of RX9 (fiV G) [(0, .ref (gad G 81)), (1, .int a1)] (by decide +kernel) rfl (Nat.le_of_ble_eq_true rfl) rfl h rfl (fun p e s m args below meth c X hr hnm => ?_)
  unfold f_X9_lay
  refine sm_aload_n X 1 0 dX9_lay_0 rfl rfl rfl ?_
  refine sm_geti X 4 rfl fd_9_8 dX9_lay_1 rfl q_890 ?_
  refine sm_if_ge X 7 27 dX9_lay_4 rfl (by decide) (fun h4 => ?_) (fun h4 => ?_)
  · exact sm_vret X hr dX9_lay_27 rfl
  · refine sm_aload_n X 8 0 dX9_lay_7 rfl rfl rfl ?_
    refine sm_getf X 11 87 rfl fd_9_12 rfl dX9_lay_8 rfl q_894 ?_
    refine sm_aload_n X 12 0 dX9_lay_11 rfl rfl rfl ?_
    refine sm_geti X 15 rfl fd_9_13 dX9_lay_12 rfl q_895 ?_
    refine sm_iload_n X 16 1 dX9_lay_15 rfl rfl rfl ?_
    refine sm_iast X 17 rfl dX9_lay_16 rfl (fun σ16 e16 => ?_)
    clear e16
    refine sm_aload_n X 18 0 dX9_lay_17 rfl rfl rfl ?_
    refine sm_dup X 19 dX9_lay_18 rfl rfl ?_
    refine sm_geti X 22 rfl fd_9_13 dX9_lay_19 rfl q_895 ?_
    refine sm_iconst X 23 (1) dX9_lay_22 rfl rfl ?_
    refine sm_iadd X 24 dX9_lay_23 rfl ?_
    refine sm_puti X 27 .int rfl fd_9_13 (by decide) rfl rfl rfl dX9_lay_24 rfl q_895 (fun σ24 e24 => ?_)
    clear e24
    exact sm_vret X hr dX9_lay_27 rfl
def by_X9_opens_0 : List Nat := [42, 180, 0, 100, 8, 160, 0, 8, 42, 182, 0, 103, 177, 42, 89, 180]
def by_X9_opens_1 : List Nat := [0, 100, 4, 96, 181, 0, 100, 42, 89, 180, 0, 53, 4, 96, 181, 0]
def by_X9_opens_2 : List Nat := [53, 27, 16, 33, 160, 0, 17, 42, 182, 0, 97, 42, 17, 78, 65, 182]
def by_X9_opens_3 : List Nat := [0, 84, 167, 0, 20, 42, 182, 0, 106, 42, 16, 41, 182, 0, 80, 154]
def by_X9_opens_4 : List Nat := [0, 7, 42, 182, 0, 103, 42, 89, 180, 0, 100, 4, 100, 181, 0, 100]
def by_X9_opens_z : List Nat := [177]
def by_X9_opens : List (List Nat) := [by_X9_opens_0, by_X9_opens_1, by_X9_opens_2, by_X9_opens_3, by_X9_opens_4]
set_option maxRecDepth 100000 in
theorem byo_X9_opens : cX9_opens.data.toList.map UInt8.toNat = by_X9_opens.flatten ++ by_X9_opens_z := by decide +kernel
theorem byl_X9_opens : by_X9_opens.all (fun r => r.length == 16) = true := by decide +kernel
theorem byr_X9_opens_0 {j v : Nat} (h : by_X9_opens_0[j]? = some v) : RD cX9_opens (0 + j) v := rd_16 byo_X9_opens byl_X9_opens 0 rfl h
theorem byr_X9_opens_1 {j v : Nat} (h : by_X9_opens_1[j]? = some v) : RD cX9_opens (16 + j) v := rd_16 byo_X9_opens byl_X9_opens 1 rfl h
theorem byr_X9_opens_2 {j v : Nat} (h : by_X9_opens_2[j]? = some v) : RD cX9_opens (32 + j) v := rd_16 byo_X9_opens byl_X9_opens 2 rfl h
theorem byr_X9_opens_3 {j v : Nat} (h : by_X9_opens_3[j]? = some v) : RD cX9_opens (48 + j) v := rd_16 byo_X9_opens byl_X9_opens 3 rfl h
theorem byr_X9_opens_4 {j v : Nat} (h : by_X9_opens_4[j]? = some v) : RD cX9_opens (64 + j) v := rd_16 byo_X9_opens byl_X9_opens 4 rfl h
theorem byr_X9_opens_5 {j v : Nat} (h : by_X9_opens_z[j]? = some v) : RD cX9_opens (80 + j) v := rd_z byo_X9_opens byl_X9_opens 5 rfl h
theorem dX9_opens_0 : decode cX9_opens 0 = .ok (.aload_n 0, 1) := dk_42 (byr_X9_opens_0 (j := 0) rfl)
theorem dX9_opens_1 : decode cX9_opens 1 = .ok (.getfield 100, 3) := dk_180 (byr_X9_opens_0 (j := 1) rfl) (byr_X9_opens_0 (j := 2) rfl) (byr_X9_opens_0 (j := 3) rfl) (by decide)
theorem dX9_opens_4 : decode cX9_opens 4 = .ok (.iconst 5, 1) := dk_8 (byr_X9_opens_0 (j := 4) rfl)
theorem dX9_opens_5 : decode cX9_opens 5 = .ok (.if_icmp .ne 8, 3) := dk_160 (byr_X9_opens_0 (j := 5) rfl) (byr_X9_opens_0 (j := 6) rfl) (byr_X9_opens_0 (j := 7) rfl) (by decide)
theorem dX9_opens_8 : decode cX9_opens 8 = .ok (.aload_n 0, 1) := dk_42 (byr_X9_opens_0 (j := 8) rfl)
theorem dX9_opens_9 : decode cX9_opens 9 = .ok (.invokevirtual 103, 3) := dk_182 (byr_X9_opens_0 (j := 9) rfl) (byr_X9_opens_0 (j := 10) rfl) (byr_X9_opens_0 (j := 11) rfl) (by decide)
theorem dX9_opens_12 : decode cX9_opens 12 = .ok (.return_, 1) := dk_177 (byr_X9_opens_0 (j := 12) rfl)
theorem dX9_opens_13 : decode cX9_opens 13 = .ok (.aload_n 0, 1) := dk_42 (byr_X9_opens_0 (j := 13) rfl)
theorem dX9_opens_14 : decode cX9_opens 14 = .ok (.dup, 1) := dk_89 (byr_X9_opens_0 (j := 14) rfl)
theorem dX9_opens_15 : decode cX9_opens 15 = .ok (.getfield 100, 3) := dk_180 (byr_X9_opens_0 (j := 15) rfl) (byr_X9_opens_1 (j := 0) rfl) (byr_X9_opens_1 (j := 1) rfl) (by decide)
theorem dX9_opens_18 : decode cX9_opens 18 = .ok (.iconst 1, 1) := dk_4 (byr_X9_opens_1 (j := 2) rfl)
theorem dX9_opens_19 : decode cX9_opens 19 = .ok (.iadd, 1) := dk_96 (byr_X9_opens_1 (j := 3) rfl)
theorem dX9_opens_20 : decode cX9_opens 20 = .ok (.putfield 100, 3) := dk_181 (byr_X9_opens_1 (j := 4) rfl) (byr_X9_opens_1 (j := 5) rfl) (byr_X9_opens_1 (j := 6) rfl) (by decide)
theorem dX9_opens_23 : decode cX9_opens 23 = .ok (.aload_n 0, 1) := dk_42 (byr_X9_opens_1 (j := 7) rfl)
theorem dX9_opens_24 : decode cX9_opens 24 = .ok (.dup, 1) := dk_89 (byr_X9_opens_1 (j := 8) rfl)
theorem dX9_opens_25 : decode cX9_opens 25 = .ok (.getfield 53, 3) := dk_180 (byr_X9_opens_1 (j := 9) rfl) (byr_X9_opens_1 (j := 10) rfl) (byr_X9_opens_1 (j := 11) rfl) (by decide)
theorem dX9_opens_28 : decode cX9_opens 28 = .ok (.iconst 1, 1) := dk_4 (byr_X9_opens_1 (j := 12) rfl)
theorem dX9_opens_29 : decode cX9_opens 29 = .ok (.iadd, 1) := dk_96 (byr_X9_opens_1 (j := 13) rfl)
theorem dX9_opens_30 : decode cX9_opens 30 = .ok (.putfield 53, 3) := dk_181 (byr_X9_opens_1 (j := 14) rfl) (byr_X9_opens_1 (j := 15) rfl) (byr_X9_opens_2 (j := 0) rfl) (by decide)
theorem dX9_opens_33 : decode cX9_opens 33 = .ok (.iload_n 1, 1) := dk_27 (byr_X9_opens_2 (j := 1) rfl)
theorem dX9_opens_34 : decode cX9_opens 34 = .ok (.bipush 33, 2) := dk_16 (byr_X9_opens_2 (j := 2) rfl) (byr_X9_opens_2 (j := 3) rfl) (by decide)
theorem dX9_opens_36 : decode cX9_opens 36 = .ok (.if_icmp .ne 17, 3) := dk_160 (byr_X9_opens_2 (j := 4) rfl) (byr_X9_opens_2 (j := 5) rfl) (byr_X9_opens_2 (j := 6) rfl) (by decide)
theorem dX9_opens_39 : decode cX9_opens 39 = .ok (.aload_n 0, 1) := dk_42 (byr_X9_opens_2 (j := 7) rfl)
theorem dX9_opens_40 : decode cX9_opens 40 = .ok (.invokevirtual 97, 3) := dk_182 (byr_X9_opens_2 (j := 8) rfl) (byr_X9_opens_2 (j := 9) rfl) (byr_X9_opens_2 (j := 10) rfl) (by decide)
theorem dX9_opens_43 : decode cX9_opens 43 = .ok (.aload_n 0, 1) := dk_42 (byr_X9_opens_2 (j := 11) rfl)
theorem dX9_opens_44 : decode cX9_opens 44 = .ok (.sipush 20033, 3) := dk_17 (byr_X9_opens_2 (j := 12) rfl) (byr_X9_opens_2 (j := 13) rfl) (byr_X9_opens_2 (j := 14) rfl) (by decide)
theorem dX9_opens_47 : decode cX9_opens 47 = .ok (.invokevirtual 84, 3) := dk_182 (byr_X9_opens_2 (j := 15) rfl) (byr_X9_opens_3 (j := 0) rfl) (byr_X9_opens_3 (j := 1) rfl) (by decide)
theorem dX9_opens_50 : decode cX9_opens 50 = .ok (.goto 20, 3) := dk_167 (byr_X9_opens_3 (j := 2) rfl) (byr_X9_opens_3 (j := 3) rfl) (byr_X9_opens_3 (j := 4) rfl) (by decide)
theorem dX9_opens_53 : decode cX9_opens 53 = .ok (.aload_n 0, 1) := dk_42 (byr_X9_opens_3 (j := 5) rfl)
theorem dX9_opens_54 : decode cX9_opens 54 = .ok (.invokevirtual 106, 3) := dk_182 (byr_X9_opens_3 (j := 6) rfl) (byr_X9_opens_3 (j := 7) rfl) (byr_X9_opens_3 (j := 8) rfl) (by decide)
theorem dX9_opens_57 : decode cX9_opens 57 = .ok (.aload_n 0, 1) := dk_42 (byr_X9_opens_3 (j := 9) rfl)
theorem dX9_opens_58 : decode cX9_opens 58 = .ok (.bipush 41, 2) := dk_16 (byr_X9_opens_3 (j := 10) rfl) (byr_X9_opens_3 (j := 11) rfl) (by decide)
theorem dX9_opens_60 : decode cX9_opens 60 = .ok (.invokevirtual 80, 3) := dk_182 (byr_X9_opens_3 (j := 12) rfl) (byr_X9_opens_3 (j := 13) rfl) (byr_X9_opens_3 (j := 14) rfl) (by decide)
theorem dX9_opens_63 : decode cX9_opens 63 = .ok (.ifCond .ne 7, 3) := dk_154 (byr_X9_opens_3 (j := 15) rfl) (byr_X9_opens_4 (j := 0) rfl) (byr_X9_opens_4 (j := 1) rfl) (by decide)
theorem dX9_opens_66 : decode cX9_opens 66 = .ok (.aload_n 0, 1) := dk_42 (byr_X9_opens_4 (j := 2) rfl)
theorem dX9_opens_67 : decode cX9_opens 67 = .ok (.invokevirtual 103, 3) := dk_182 (byr_X9_opens_4 (j := 3) rfl) (byr_X9_opens_4 (j := 4) rfl) (byr_X9_opens_4 (j := 5) rfl) (by decide)
theorem dX9_opens_70 : decode cX9_opens 70 = .ok (.aload_n 0, 1) := dk_42 (byr_X9_opens_4 (j := 6) rfl)
theorem dX9_opens_71 : decode cX9_opens 71 = .ok (.dup, 1) := dk_89 (byr_X9_opens_4 (j := 7) rfl)
theorem dX9_opens_72 : decode cX9_opens 72 = .ok (.getfield 100, 3) := dk_180 (byr_X9_opens_4 (j := 8) rfl) (byr_X9_opens_4 (j := 9) rfl) (byr_X9_opens_4 (j := 10) rfl) (by decide)
theorem dX9_opens_75 : decode cX9_opens 75 = .ok (.iconst 1, 1) := dk_4 (byr_X9_opens_4 (j := 11) rfl)
theorem dX9_opens_76 : decode cX9_opens 76 = .ok (.isub, 1) := dk_100 (byr_X9_opens_4 (j := 12) rfl)
theorem dX9_opens_77 : decode cX9_opens 77 = .ok (.putfield 100, 3) := dk_181 (byr_X9_opens_4 (j := 13) rfl) (byr_X9_opens_4 (j := 14) rfl) (byr_X9_opens_4 (j := 15) rfl) (by decide)
theorem dX9_opens_80 : decode cX9_opens 80 = .ok (.return_, 1) := dk_177 (byr_X9_opens_5 (j := 0) rfl)
def by_X9_unit_0 : List Nat := [42, 182, 0, 66, 60, 27, 16, 33, 159, 0, 9, 27, 16, 40, 160, 0]
def by_X9_unit_1 : List Nat := [9, 42, 27, 182, 0, 109, 177, 42, 27, 182, 0, 112, 61, 28, 155, 0]
def by_X9_unit_2 : List Nat := [23, 42, 89, 180, 0, 53, 4, 96, 181, 0, 53, 42, 17, 39, 16, 28]
def by_X9_unit_3 : List Nat := [96, 182, 0, 84, 177, 3, 62, 3, 54, 4, 21, 4, 7, 162, 0, 49]
def by_X9_unit_4 : List Nat := [42, 182, 0, 66, 133, 20, 0, 116, 20, 0, 118, 184, 0, 49, 153, 0]
def by_X9_unit_5 : List Nat := [32, 16, 10, 29, 104, 42, 182, 0, 66, 96, 16, 48, 100, 62, 42, 89]
def by_X9_unit_6 : List Nat := [180, 0, 53, 4, 96, 181, 0, 53, 132, 4, 1, 167, 255, 207, 21, 4]
def by_X9_unit_z : List Nat := [154, 0, 7, 42, 182, 0, 103, 42, 29, 182, 0, 84, 177]
def by_X9_unit : List (List Nat) := [by_X9_unit_0, by_X9_unit_1, by_X9_unit_2, by_X9_unit_3, by_X9_unit_4, by_X9_unit_5, by_X9_unit_6]
set_option maxRecDepth 100000 in
theorem byo_X9_unit : cX9_unit.data.toList.map UInt8.toNat = by_X9_unit.flatten ++ by_X9_unit_z := by decide +kernel
theorem byl_X9_unit : by_X9_unit.all (fun r => r.length == 16) = true := by decide +kernel
theorem byr_X9_unit_0 {j v : Nat} (h : by_X9_unit_0[j]? = some v) : RD cX9_unit (0 + j) v := rd_16 byo_X9_unit byl_X9_unit 0 rfl h
theorem byr_X9_unit_1 {j v : Nat} (h : by_X9_unit_1[j]? = some v) : RD cX9_unit (16 + j) v := rd_16 byo_X9_unit byl_X9_unit 1 rfl h
theorem byr_X9_unit_2 {j v : Nat} (h : by_X9_unit_2[j]? = some v) : RD cX9_unit (32 + j) v := rd_16 byo_X9_unit byl_X9_unit 2 rfl h
theorem byr_X9_unit_3 {j v : Nat} (h : by_X9_unit_3[j]? = some v) : RD cX9_unit (48 + j) v := rd_16 byo_X9_unit byl_X9_unit 3 rfl h
theorem byr_X9_unit_4 {j v : Nat} (h : by_X9_unit_4[j]? = some v) : RD cX9_unit (64 + j) v := rd_16 byo_X9_unit byl_X9_unit 4 rfl h
theorem byr_X9_unit_5 {j v : Nat} (h : by_X9_unit_5[j]? = some v) : RD cX9_unit (80 + j) v := rd_16 byo_X9_unit byl_X9_unit 5 rfl h
theorem byr_X9_unit_6 {j v : Nat} (h : by_X9_unit_6[j]? = some v) : RD cX9_unit (96 + j) v := rd_16 byo_X9_unit byl_X9_unit 6 rfl h
theorem byr_X9_unit_7 {j v : Nat} (h : by_X9_unit_z[j]? = some v) : RD cX9_unit (112 + j) v := rd_z byo_X9_unit byl_X9_unit 7 rfl h
theorem dX9_unit_0 : decode cX9_unit 0 = .ok (.aload_n 0, 1) := dk_42 (byr_X9_unit_0 (j := 0) rfl)
theorem dX9_unit_1 : decode cX9_unit 1 = .ok (.invokevirtual 66, 3) := dk_182 (byr_X9_unit_0 (j := 1) rfl) (byr_X9_unit_0 (j := 2) rfl) (byr_X9_unit_0 (j := 3) rfl) (by decide)
theorem dX9_unit_4 : decode cX9_unit 4 = .ok (.istore_n 1, 1) := dk_60 (byr_X9_unit_0 (j := 4) rfl)
theorem dX9_unit_5 : decode cX9_unit 5 = .ok (.iload_n 1, 1) := dk_27 (byr_X9_unit_0 (j := 5) rfl)
theorem dX9_unit_6 : decode cX9_unit 6 = .ok (.bipush 33, 2) := dk_16 (byr_X9_unit_0 (j := 6) rfl) (byr_X9_unit_0 (j := 7) rfl) (by decide)
theorem dX9_unit_8 : decode cX9_unit 8 = .ok (.if_icmp .eq 9, 3) := dk_159 (byr_X9_unit_0 (j := 8) rfl) (byr_X9_unit_0 (j := 9) rfl) (byr_X9_unit_0 (j := 10) rfl) (by decide)
theorem dX9_unit_11 : decode cX9_unit 11 = .ok (.iload_n 1, 1) := dk_27 (byr_X9_unit_0 (j := 11) rfl)
theorem dX9_unit_12 : decode cX9_unit 12 = .ok (.bipush 40, 2) := dk_16 (byr_X9_unit_0 (j := 12) rfl) (byr_X9_unit_0 (j := 13) rfl) (by decide)
theorem dX9_unit_14 : decode cX9_unit 14 = .ok (.if_icmp .ne 9, 3) := dk_160 (byr_X9_unit_0 (j := 14) rfl) (byr_X9_unit_0 (j := 15) rfl) (byr_X9_unit_1 (j := 0) rfl) (by decide)
theorem dX9_unit_17 : decode cX9_unit 17 = .ok (.aload_n 0, 1) := dk_42 (byr_X9_unit_1 (j := 1) rfl)
theorem dX9_unit_18 : decode cX9_unit 18 = .ok (.iload_n 1, 1) := dk_27 (byr_X9_unit_1 (j := 2) rfl)
theorem dX9_unit_19 : decode cX9_unit 19 = .ok (.invokevirtual 109, 3) := dk_182 (byr_X9_unit_1 (j := 3) rfl) (byr_X9_unit_1 (j := 4) rfl) (byr_X9_unit_1 (j := 5) rfl) (by decide)
theorem dX9_unit_22 : decode cX9_unit 22 = .ok (.return_, 1) := dk_177 (byr_X9_unit_1 (j := 6) rfl)
theorem dX9_unit_23 : decode cX9_unit 23 = .ok (.aload_n 0, 1) := dk_42 (byr_X9_unit_1 (j := 7) rfl)
theorem dX9_unit_24 : decode cX9_unit 24 = .ok (.iload_n 1, 1) := dk_27 (byr_X9_unit_1 (j := 8) rfl)
theorem dX9_unit_25 : decode cX9_unit 25 = .ok (.invokevirtual 112, 3) := dk_182 (byr_X9_unit_1 (j := 9) rfl) (byr_X9_unit_1 (j := 10) rfl) (byr_X9_unit_1 (j := 11) rfl) (by decide)
theorem dX9_unit_28 : decode cX9_unit 28 = .ok (.istore_n 2, 1) := dk_61 (byr_X9_unit_1 (j := 12) rfl)
theorem dX9_unit_29 : decode cX9_unit 29 = .ok (.iload_n 2, 1) := dk_28 (byr_X9_unit_1 (j := 13) rfl)
theorem dX9_unit_30 : decode cX9_unit 30 = .ok (.ifCond .lt 23, 3) := dk_155 (byr_X9_unit_1 (j := 14) rfl) (byr_X9_unit_1 (j := 15) rfl) (byr_X9_unit_2 (j := 0) rfl) (by decide)
theorem dX9_unit_33 : decode cX9_unit 33 = .ok (.aload_n 0, 1) := dk_42 (byr_X9_unit_2 (j := 1) rfl)
theorem dX9_unit_34 : decode cX9_unit 34 = .ok (.dup, 1) := dk_89 (byr_X9_unit_2 (j := 2) rfl)
theorem dX9_unit_35 : decode cX9_unit 35 = .ok (.getfield 53, 3) := dk_180 (byr_X9_unit_2 (j := 3) rfl) (byr_X9_unit_2 (j := 4) rfl) (byr_X9_unit_2 (j := 5) rfl) (by decide)
theorem dX9_unit_38 : decode cX9_unit 38 = .ok (.iconst 1, 1) := dk_4 (byr_X9_unit_2 (j := 6) rfl)
theorem dX9_unit_39 : decode cX9_unit 39 = .ok (.iadd, 1) := dk_96 (byr_X9_unit_2 (j := 7) rfl)
theorem dX9_unit_40 : decode cX9_unit 40 = .ok (.putfield 53, 3) := dk_181 (byr_X9_unit_2 (j := 8) rfl) (byr_X9_unit_2 (j := 9) rfl) (byr_X9_unit_2 (j := 10) rfl) (by decide)
theorem dX9_unit_43 : decode cX9_unit 43 = .ok (.aload_n 0, 1) := dk_42 (byr_X9_unit_2 (j := 11) rfl)
theorem dX9_unit_44 : decode cX9_unit 44 = .ok (.sipush 10000, 3) := dk_17 (byr_X9_unit_2 (j := 12) rfl) (byr_X9_unit_2 (j := 13) rfl) (byr_X9_unit_2 (j := 14) rfl) (by decide)
theorem dX9_unit_47 : decode cX9_unit 47 = .ok (.iload_n 2, 1) := dk_28 (byr_X9_unit_2 (j := 15) rfl)
theorem dX9_unit_48 : decode cX9_unit 48 = .ok (.iadd, 1) := dk_96 (byr_X9_unit_3 (j := 0) rfl)
theorem dX9_unit_49 : decode cX9_unit 49 = .ok (.invokevirtual 84, 3) := dk_182 (byr_X9_unit_3 (j := 1) rfl) (byr_X9_unit_3 (j := 2) rfl) (byr_X9_unit_3 (j := 3) rfl) (by decide)
theorem dX9_unit_52 : decode cX9_unit 52 = .ok (.return_, 1) := dk_177 (byr_X9_unit_3 (j := 4) rfl)
theorem dX9_unit_53 : decode cX9_unit 53 = .ok (.iconst 0, 1) := dk_3 (byr_X9_unit_3 (j := 5) rfl)
theorem dX9_unit_54 : decode cX9_unit 54 = .ok (.istore_n 3, 1) := dk_62 (byr_X9_unit_3 (j := 6) rfl)
theorem dX9_unit_55 : decode cX9_unit 55 = .ok (.iconst 0, 1) := dk_3 (byr_X9_unit_3 (j := 7) rfl)
theorem dX9_unit_56 : decode cX9_unit 56 = .ok (.istore 4, 2) := dk_54 (byr_X9_unit_3 (j := 8) rfl) (byr_X9_unit_3 (j := 9) rfl)
theorem dX9_unit_58 : decode cX9_unit 58 = .ok (.iload 4, 2) := dk_21 (byr_X9_unit_3 (j := 10) rfl) (byr_X9_unit_3 (j := 11) rfl)
theorem dX9_unit_60 : decode cX9_unit 60 = .ok (.iconst 4, 1) := dk_7 (byr_X9_unit_3 (j := 12) rfl)
theorem dX9_unit_61 : decode cX9_unit 61 = .ok (.if_icmp .ge 49, 3) := dk_162 (byr_X9_unit_3 (j := 13) rfl) (byr_X9_unit_3 (j := 14) rfl) (byr_X9_unit_3 (j := 15) rfl) (by decide)
theorem dX9_unit_64 : decode cX9_unit 64 = .ok (.aload_n 0, 1) := dk_42 (byr_X9_unit_4 (j := 0) rfl)
theorem dX9_unit_65 : decode cX9_unit 65 = .ok (.invokevirtual 66, 3) := dk_182 (byr_X9_unit_4 (j := 1) rfl) (byr_X9_unit_4 (j := 2) rfl) (byr_X9_unit_4 (j := 3) rfl) (by decide)
theorem dX9_unit_68 : decode cX9_unit 68 = .ok (.i2l, 1) := dk_133 (byr_X9_unit_4 (j := 4) rfl)
theorem dX9_unit_69 : decode cX9_unit 69 = .ok (.ldc2_w 116, 3) := dk_20 (byr_X9_unit_4 (j := 5) rfl) (byr_X9_unit_4 (j := 6) rfl) (byr_X9_unit_4 (j := 7) rfl) (by decide)
theorem dX9_unit_72 : decode cX9_unit 72 = .ok (.ldc2_w 118, 3) := dk_20 (byr_X9_unit_4 (j := 8) rfl) (byr_X9_unit_4 (j := 9) rfl) (byr_X9_unit_4 (j := 10) rfl) (by decide)
theorem dX9_unit_75 : decode cX9_unit 75 = .ok (.invokestatic 49, 3) := dk_184 (byr_X9_unit_4 (j := 11) rfl) (byr_X9_unit_4 (j := 12) rfl) (byr_X9_unit_4 (j := 13) rfl) (by decide)
theorem dX9_unit_78 : decode cX9_unit 78 = .ok (.ifCond .eq 32, 3) := dk_153 (byr_X9_unit_4 (j := 14) rfl) (byr_X9_unit_4 (j := 15) rfl) (byr_X9_unit_5 (j := 0) rfl) (by decide)
theorem dX9_unit_81 : decode cX9_unit 81 = .ok (.bipush 10, 2) := dk_16 (byr_X9_unit_5 (j := 1) rfl) (byr_X9_unit_5 (j := 2) rfl) (by decide)
theorem dX9_unit_83 : decode cX9_unit 83 = .ok (.iload_n 3, 1) := dk_29 (byr_X9_unit_5 (j := 3) rfl)
theorem dX9_unit_84 : decode cX9_unit 84 = .ok (.imul, 1) := dk_104 (byr_X9_unit_5 (j := 4) rfl)
theorem dX9_unit_85 : decode cX9_unit 85 = .ok (.aload_n 0, 1) := dk_42 (byr_X9_unit_5 (j := 5) rfl)
theorem dX9_unit_86 : decode cX9_unit 86 = .ok (.invokevirtual 66, 3) := dk_182 (byr_X9_unit_5 (j := 6) rfl) (byr_X9_unit_5 (j := 7) rfl) (byr_X9_unit_5 (j := 8) rfl) (by decide)
theorem dX9_unit_89 : decode cX9_unit 89 = .ok (.iadd, 1) := dk_96 (byr_X9_unit_5 (j := 9) rfl)
theorem dX9_unit_90 : decode cX9_unit 90 = .ok (.bipush 48, 2) := dk_16 (byr_X9_unit_5 (j := 10) rfl) (byr_X9_unit_5 (j := 11) rfl) (by decide)
theorem dX9_unit_92 : decode cX9_unit 92 = .ok (.isub, 1) := dk_100 (byr_X9_unit_5 (j := 12) rfl)
theorem dX9_unit_93 : decode cX9_unit 93 = .ok (.istore_n 3, 1) := dk_62 (byr_X9_unit_5 (j := 13) rfl)
theorem dX9_unit_94 : decode cX9_unit 94 = .ok (.aload_n 0, 1) := dk_42 (byr_X9_unit_5 (j := 14) rfl)
theorem dX9_unit_95 : decode cX9_unit 95 = .ok (.dup, 1) := dk_89 (byr_X9_unit_5 (j := 15) rfl)
theorem dX9_unit_96 : decode cX9_unit 96 = .ok (.getfield 53, 3) := dk_180 (byr_X9_unit_6 (j := 0) rfl) (byr_X9_unit_6 (j := 1) rfl) (byr_X9_unit_6 (j := 2) rfl) (by decide)
theorem dX9_unit_99 : decode cX9_unit 99 = .ok (.iconst 1, 1) := dk_4 (byr_X9_unit_6 (j := 3) rfl)
theorem dX9_unit_100 : decode cX9_unit 100 = .ok (.iadd, 1) := dk_96 (byr_X9_unit_6 (j := 4) rfl)
theorem dX9_unit_101 : decode cX9_unit 101 = .ok (.putfield 53, 3) := dk_181 (byr_X9_unit_6 (j := 5) rfl) (byr_X9_unit_6 (j := 6) rfl) (byr_X9_unit_6 (j := 7) rfl) (by decide)
theorem dX9_unit_104 : decode cX9_unit 104 = .ok (.iinc 4 1, 3) := dk_132 (byr_X9_unit_6 (j := 8) rfl) (byr_X9_unit_6 (j := 9) rfl) (byr_X9_unit_6 (j := 10) rfl) (by decide)
theorem dX9_unit_107 : decode cX9_unit 107 = .ok (.goto (-49), 3) := dk_167 (byr_X9_unit_6 (j := 11) rfl) (byr_X9_unit_6 (j := 12) rfl) (byr_X9_unit_6 (j := 13) rfl) (by decide)
theorem dX9_unit_110 : decode cX9_unit 110 = .ok (.iload 4, 2) := dk_21 (byr_X9_unit_6 (j := 14) rfl) (byr_X9_unit_6 (j := 15) rfl)
theorem dX9_unit_112 : decode cX9_unit 112 = .ok (.ifCond .ne 7, 3) := dk_154 (byr_X9_unit_7 (j := 0) rfl) (byr_X9_unit_7 (j := 1) rfl) (byr_X9_unit_7 (j := 2) rfl) (by decide)
theorem dX9_unit_115 : decode cX9_unit 115 = .ok (.aload_n 0, 1) := dk_42 (byr_X9_unit_7 (j := 3) rfl)
theorem dX9_unit_116 : decode cX9_unit 116 = .ok (.invokevirtual 103, 3) := dk_182 (byr_X9_unit_7 (j := 4) rfl) (byr_X9_unit_7 (j := 5) rfl) (byr_X9_unit_7 (j := 6) rfl) (by decide)
theorem dX9_unit_119 : decode cX9_unit 119 = .ok (.aload_n 0, 1) := dk_42 (byr_X9_unit_7 (j := 7) rfl)
theorem dX9_unit_120 : decode cX9_unit 120 = .ok (.iload_n 3, 1) := dk_29 (byr_X9_unit_7 (j := 8) rfl)
theorem dX9_unit_121 : decode cX9_unit 121 = .ok (.invokevirtual 84, 3) := dk_182 (byr_X9_unit_7 (j := 9) rfl) (byr_X9_unit_7 (j := 10) rfl) (byr_X9_unit_7 (j := 11) rfl) (by decide)
theorem dX9_unit_124 : decode cX9_unit 124 = .ok (.return_, 1) := dk_177 (byr_X9_unit_7 (j := 12) rfl)
def by_X9_product_0 : List Nat := [42, 182, 0, 97, 42, 182, 0, 66, 16, 42, 159, 0, 21, 42, 182, 0]
def by_X9_product_1 : List Nat := [66, 16, 47, 159, 0, 12, 42, 182, 0, 66, 16, 37, 160, 0, 34, 42]
def by_X9_product_2 : List Nat := [182, 0, 66, 60, 42, 89, 180, 0, 53, 4, 96, 181, 0, 53, 42, 182]
def by_X9_product_z : List Nat := [0, 97, 42, 17, 78, 32, 27, 96, 182, 0, 84, 167, 255, 201, 177]
def by_X9_product : List (List Nat) := [by_X9_product_0, by_X9_product_1, by_X9_product_2]
set_option maxRecDepth 100000 in
theorem byo_X9_product : cX9_product.data.toList.map UInt8.toNat = by_X9_product.flatten ++ by_X9_product_z := by decide +kernel
theorem byl_X9_product : by_X9_product.all (fun r => r.length == 16) = true := by decide +kernel
theorem byr_X9_product_0 {j v : Nat} (h : by_X9_product_0[j]? = some v) : RD cX9_product (0 + j) v := rd_16 byo_X9_product byl_X9_product 0 rfl h
theorem byr_X9_product_1 {j v : Nat} (h : by_X9_product_1[j]? = some v) : RD cX9_product (16 + j) v := rd_16 byo_X9_product byl_X9_product 1 rfl h
theorem byr_X9_product_2 {j v : Nat} (h : by_X9_product_2[j]? = some v) : RD cX9_product (32 + j) v := rd_16 byo_X9_product byl_X9_product 2 rfl h
theorem byr_X9_product_3 {j v : Nat} (h : by_X9_product_z[j]? = some v) : RD cX9_product (48 + j) v := rd_z byo_X9_product byl_X9_product 3 rfl h
theorem dX9_product_0 : decode cX9_product 0 = .ok (.aload_n 0, 1) := dk_42 (byr_X9_product_0 (j := 0) rfl)
theorem dX9_product_1 : decode cX9_product 1 = .ok (.invokevirtual 97, 3) := dk_182 (byr_X9_product_0 (j := 1) rfl) (byr_X9_product_0 (j := 2) rfl) (byr_X9_product_0 (j := 3) rfl) (by decide)
theorem dX9_product_4 : decode cX9_product 4 = .ok (.aload_n 0, 1) := dk_42 (byr_X9_product_0 (j := 4) rfl)
theorem dX9_product_5 : decode cX9_product 5 = .ok (.invokevirtual 66, 3) := dk_182 (byr_X9_product_0 (j := 5) rfl) (byr_X9_product_0 (j := 6) rfl) (byr_X9_product_0 (j := 7) rfl) (by decide)
theorem dX9_product_8 : decode cX9_product 8 = .ok (.bipush 42, 2) := dk_16 (byr_X9_product_0 (j := 8) rfl) (byr_X9_product_0 (j := 9) rfl) (by decide)
theorem dX9_product_10 : decode cX9_product 10 = .ok (.if_icmp .eq 21, 3) := dk_159 (byr_X9_product_0 (j := 10) rfl) (byr_X9_product_0 (j := 11) rfl) (byr_X9_product_0 (j := 12) rfl) (by decide)
theorem dX9_product_13 : decode cX9_product 13 = .ok (.aload_n 0, 1) := dk_42 (byr_X9_product_0 (j := 13) rfl)
theorem dX9_product_14 : decode cX9_product 14 = .ok (.invokevirtual 66, 3) := dk_182 (byr_X9_product_0 (j := 14) rfl) (byr_X9_product_0 (j := 15) rfl) (byr_X9_product_1 (j := 0) rfl) (by decide)
theorem dX9_product_17 : decode cX9_product 17 = .ok (.bipush 47, 2) := dk_16 (byr_X9_product_1 (j := 1) rfl) (byr_X9_product_1 (j := 2) rfl) (by decide)
theorem dX9_product_19 : decode cX9_product 19 = .ok (.if_icmp .eq 12, 3) := dk_159 (byr_X9_product_1 (j := 3) rfl) (byr_X9_product_1 (j := 4) rfl) (byr_X9_product_1 (j := 5) rfl) (by decide)
theorem dX9_product_22 : decode cX9_product 22 = .ok (.aload_n 0, 1) := dk_42 (byr_X9_product_1 (j := 6) rfl)
theorem dX9_product_23 : decode cX9_product 23 = .ok (.invokevirtual 66, 3) := dk_182 (byr_X9_product_1 (j := 7) rfl) (byr_X9_product_1 (j := 8) rfl) (byr_X9_product_1 (j := 9) rfl) (by decide)
theorem dX9_product_26 : decode cX9_product 26 = .ok (.bipush 37, 2) := dk_16 (byr_X9_product_1 (j := 10) rfl) (byr_X9_product_1 (j := 11) rfl) (by decide)
theorem dX9_product_28 : decode cX9_product 28 = .ok (.if_icmp .ne 34, 3) := dk_160 (byr_X9_product_1 (j := 12) rfl) (byr_X9_product_1 (j := 13) rfl) (byr_X9_product_1 (j := 14) rfl) (by decide)
theorem dX9_product_31 : decode cX9_product 31 = .ok (.aload_n 0, 1) := dk_42 (byr_X9_product_1 (j := 15) rfl)
theorem dX9_product_32 : decode cX9_product 32 = .ok (.invokevirtual 66, 3) := dk_182 (byr_X9_product_2 (j := 0) rfl) (byr_X9_product_2 (j := 1) rfl) (byr_X9_product_2 (j := 2) rfl) (by decide)
theorem dX9_product_35 : decode cX9_product 35 = .ok (.istore_n 1, 1) := dk_60 (byr_X9_product_2 (j := 3) rfl)
theorem dX9_product_36 : decode cX9_product 36 = .ok (.aload_n 0, 1) := dk_42 (byr_X9_product_2 (j := 4) rfl)
theorem dX9_product_37 : decode cX9_product 37 = .ok (.dup, 1) := dk_89 (byr_X9_product_2 (j := 5) rfl)
theorem dX9_product_38 : decode cX9_product 38 = .ok (.getfield 53, 3) := dk_180 (byr_X9_product_2 (j := 6) rfl) (byr_X9_product_2 (j := 7) rfl) (byr_X9_product_2 (j := 8) rfl) (by decide)
theorem dX9_product_41 : decode cX9_product 41 = .ok (.iconst 1, 1) := dk_4 (byr_X9_product_2 (j := 9) rfl)
theorem dX9_product_42 : decode cX9_product 42 = .ok (.iadd, 1) := dk_96 (byr_X9_product_2 (j := 10) rfl)
theorem dX9_product_43 : decode cX9_product 43 = .ok (.putfield 53, 3) := dk_181 (byr_X9_product_2 (j := 11) rfl) (byr_X9_product_2 (j := 12) rfl) (byr_X9_product_2 (j := 13) rfl) (by decide)
theorem dX9_product_46 : decode cX9_product 46 = .ok (.aload_n 0, 1) := dk_42 (byr_X9_product_2 (j := 14) rfl)
theorem dX9_product_47 : decode cX9_product 47 = .ok (.invokevirtual 97, 3) := dk_182 (byr_X9_product_2 (j := 15) rfl) (byr_X9_product_3 (j := 0) rfl) (byr_X9_product_3 (j := 1) rfl) (by decide)
theorem dX9_product_50 : decode cX9_product 50 = .ok (.aload_n 0, 1) := dk_42 (byr_X9_product_3 (j := 2) rfl)
theorem dX9_product_51 : decode cX9_product 51 = .ok (.sipush 20000, 3) := dk_17 (byr_X9_product_3 (j := 3) rfl) (byr_X9_product_3 (j := 4) rfl) (byr_X9_product_3 (j := 5) rfl) (by decide)
theorem dX9_product_54 : decode cX9_product 54 = .ok (.iload_n 1, 1) := dk_27 (byr_X9_product_3 (j := 6) rfl)
theorem dX9_product_55 : decode cX9_product 55 = .ok (.iadd, 1) := dk_96 (byr_X9_product_3 (j := 7) rfl)
theorem dX9_product_56 : decode cX9_product 56 = .ok (.invokevirtual 84, 3) := dk_182 (byr_X9_product_3 (j := 8) rfl) (byr_X9_product_3 (j := 9) rfl) (byr_X9_product_3 (j := 10) rfl) (by decide)
theorem dX9_product_59 : decode cX9_product 59 = .ok (.goto (-55), 3) := dk_167 (byr_X9_product_3 (j := 11) rfl) (byr_X9_product_3 (j := 12) rfl) (byr_X9_product_3 (j := 13) rfl) (by decide)
theorem dX9_product_62 : decode cX9_product 62 = .ok (.return_, 1) := dk_177 (byr_X9_product_3 (j := 14) rfl)
def by_X9_sum_0 : List Nat := [42, 182, 0, 94, 42, 182, 0, 66, 16, 43, 159, 0, 12, 42, 182, 0]
def by_X9_sum_1 : List Nat := [66, 16, 45, 160, 0, 34, 42, 182, 0, 66, 60, 42, 89, 180, 0, 53]
def by_X9_sum_2 : List Nat := [4, 96, 181, 0, 53, 42, 182, 0, 94, 42, 17, 78, 32, 27, 96, 182]
def by_X9_sum_z : List Nat := [0, 84, 167, 255, 210, 177]
def by_X9_sum : List (List Nat) := [by_X9_sum_0, by_X9_sum_1, by_X9_sum_2]
set_option maxRecDepth 100000 in
theorem byo_X9_sum : cX9_sum.data.toList.map UInt8.toNat = by_X9_sum.flatten ++ by_X9_sum_z := by decide +kernel
theorem byl_X9_sum : by_X9_sum.all (fun r => r.length == 16) = true := by decide +kernel
theorem byr_X9_sum_0 {j v : Nat} (h : by_X9_sum_0[j]? = some v) : RD cX9_sum (0 + j) v := rd_16 byo_X9_sum byl_X9_sum 0 rfl h
theorem byr_X9_sum_1 {j v : Nat} (h : by_X9_sum_1[j]? = some v) : RD cX9_sum (16 + j) v := rd_16 byo_X9_sum byl_X9_sum 1 rfl h
theorem byr_X9_sum_2 {j v : Nat} (h : by_X9_sum_2[j]? = some v) : RD cX9_sum (32 + j) v := rd_16 byo_X9_sum byl_X9_sum 2 rfl h
theorem byr_X9_sum_3 {j v : Nat} (h : by_X9_sum_z[j]? = some v) : RD cX9_sum (48 + j) v := rd_z byo_X9_sum byl_X9_sum 3 rfl h
theorem dX9_sum_0 : decode cX9_sum 0 = .ok (.aload_n 0, 1) := dk_42 (byr_X9_sum_0 (j := 0) rfl)
theorem dX9_sum_1 : decode cX9_sum 1 = .ok (.invokevirtual 94, 3) := dk_182 (byr_X9_sum_0 (j := 1) rfl) (byr_X9_sum_0 (j := 2) rfl) (byr_X9_sum_0 (j := 3) rfl) (by decide)
theorem dX9_sum_4 : decode cX9_sum 4 = .ok (.aload_n 0, 1) := dk_42 (byr_X9_sum_0 (j := 4) rfl)
theorem dX9_sum_5 : decode cX9_sum 5 = .ok (.invokevirtual 66, 3) := dk_182 (byr_X9_sum_0 (j := 5) rfl) (byr_X9_sum_0 (j := 6) rfl) (byr_X9_sum_0 (j := 7) rfl) (by decide)
theorem dX9_sum_8 : decode cX9_sum 8 = .ok (.bipush 43, 2) := dk_16 (byr_X9_sum_0 (j := 8) rfl) (byr_X9_sum_0 (j := 9) rfl) (by decide)
theorem dX9_sum_10 : decode cX9_sum 10 = .ok (.if_icmp .eq 12, 3) := dk_159 (byr_X9_sum_0 (j := 10) rfl) (byr_X9_sum_0 (j := 11) rfl) (byr_X9_sum_0 (j := 12) rfl) (by decide)
theorem dX9_sum_13 : decode cX9_sum 13 = .ok (.aload_n 0, 1) := dk_42 (byr_X9_sum_0 (j := 13) rfl)
theorem dX9_sum_14 : decode cX9_sum 14 = .ok (.invokevirtual 66, 3) := dk_182 (byr_X9_sum_0 (j := 14) rfl) (byr_X9_sum_0 (j := 15) rfl) (byr_X9_sum_1 (j := 0) rfl) (by decide)
theorem dX9_sum_17 : decode cX9_sum 17 = .ok (.bipush 45, 2) := dk_16 (byr_X9_sum_1 (j := 1) rfl) (byr_X9_sum_1 (j := 2) rfl) (by decide)
theorem dX9_sum_19 : decode cX9_sum 19 = .ok (.if_icmp .ne 34, 3) := dk_160 (byr_X9_sum_1 (j := 3) rfl) (byr_X9_sum_1 (j := 4) rfl) (byr_X9_sum_1 (j := 5) rfl) (by decide)
theorem dX9_sum_22 : decode cX9_sum 22 = .ok (.aload_n 0, 1) := dk_42 (byr_X9_sum_1 (j := 6) rfl)
theorem dX9_sum_23 : decode cX9_sum 23 = .ok (.invokevirtual 66, 3) := dk_182 (byr_X9_sum_1 (j := 7) rfl) (byr_X9_sum_1 (j := 8) rfl) (byr_X9_sum_1 (j := 9) rfl) (by decide)
theorem dX9_sum_26 : decode cX9_sum 26 = .ok (.istore_n 1, 1) := dk_60 (byr_X9_sum_1 (j := 10) rfl)
theorem dX9_sum_27 : decode cX9_sum 27 = .ok (.aload_n 0, 1) := dk_42 (byr_X9_sum_1 (j := 11) rfl)
theorem dX9_sum_28 : decode cX9_sum 28 = .ok (.dup, 1) := dk_89 (byr_X9_sum_1 (j := 12) rfl)
theorem dX9_sum_29 : decode cX9_sum 29 = .ok (.getfield 53, 3) := dk_180 (byr_X9_sum_1 (j := 13) rfl) (byr_X9_sum_1 (j := 14) rfl) (byr_X9_sum_1 (j := 15) rfl) (by decide)
theorem dX9_sum_32 : decode cX9_sum 32 = .ok (.iconst 1, 1) := dk_4 (byr_X9_sum_2 (j := 0) rfl)
theorem dX9_sum_33 : decode cX9_sum 33 = .ok (.iadd, 1) := dk_96 (byr_X9_sum_2 (j := 1) rfl)
theorem dX9_sum_34 : decode cX9_sum 34 = .ok (.putfield 53, 3) := dk_181 (byr_X9_sum_2 (j := 2) rfl) (byr_X9_sum_2 (j := 3) rfl) (byr_X9_sum_2 (j := 4) rfl) (by decide)
theorem dX9_sum_37 : decode cX9_sum 37 = .ok (.aload_n 0, 1) := dk_42 (byr_X9_sum_2 (j := 5) rfl)
theorem dX9_sum_38 : decode cX9_sum 38 = .ok (.invokevirtual 94, 3) := dk_182 (byr_X9_sum_2 (j := 6) rfl) (byr_X9_sum_2 (j := 7) rfl) (byr_X9_sum_2 (j := 8) rfl) (by decide)
theorem dX9_sum_41 : decode cX9_sum 41 = .ok (.aload_n 0, 1) := dk_42 (byr_X9_sum_2 (j := 9) rfl)
theorem dX9_sum_42 : decode cX9_sum 42 = .ok (.sipush 20000, 3) := dk_17 (byr_X9_sum_2 (j := 10) rfl) (byr_X9_sum_2 (j := 11) rfl) (byr_X9_sum_2 (j := 12) rfl) (by decide)
theorem dX9_sum_45 : decode cX9_sum 45 = .ok (.iload_n 1, 1) := dk_27 (byr_X9_sum_2 (j := 13) rfl)
theorem dX9_sum_46 : decode cX9_sum 46 = .ok (.iadd, 1) := dk_96 (byr_X9_sum_2 (j := 14) rfl)
theorem dX9_sum_47 : decode cX9_sum 47 = .ok (.invokevirtual 84, 3) := dk_182 (byr_X9_sum_2 (j := 15) rfl) (byr_X9_sum_3 (j := 0) rfl) (byr_X9_sum_3 (j := 1) rfl) (by decide)
theorem dX9_sum_50 : decode cX9_sum 50 = .ok (.goto (-46), 3) := dk_167 (byr_X9_sum_3 (j := 2) rfl) (byr_X9_sum_3 (j := 3) rfl) (byr_X9_sum_3 (j := 4) rfl) (by decide)
theorem dX9_sum_53 : decode cX9_sum 53 = .ok (.return_, 1) := dk_177 (byr_X9_sum_3 (j := 5) rfl)
def by_X9_compared_0 : List Nat := [42, 182, 0, 91, 42, 182, 0, 66, 60, 27, 16, 60, 159, 0, 15, 27]
def by_X9_compared_1 : List Nat := [16, 61, 159, 0, 9, 27, 16, 62, 160, 0, 26, 42, 89, 180, 0, 53]
def by_X9_compared_2 : List Nat := [4, 96, 181, 0, 53, 42, 182, 0, 91, 42, 17, 78, 32, 27, 96, 182]
def by_X9_compared_z : List Nat := [0, 84, 177]
def by_X9_compared : List (List Nat) := [by_X9_compared_0, by_X9_compared_1, by_X9_compared_2]
set_option maxRecDepth 100000 in
theorem byo_X9_compared : cX9_compared.data.toList.map UInt8.toNat = by_X9_compared.flatten ++ by_X9_compared_z := by decide +kernel
theorem byl_X9_compared : by_X9_compared.all (fun r => r.length == 16) = true := by decide +kernel
theorem byr_X9_compared_0 {j v : Nat} (h : by_X9_compared_0[j]? = some v) : RD cX9_compared (0 + j) v := rd_16 byo_X9_compared byl_X9_compared 0 rfl h
theorem byr_X9_compared_1 {j v : Nat} (h : by_X9_compared_1[j]? = some v) : RD cX9_compared (16 + j) v := rd_16 byo_X9_compared byl_X9_compared 1 rfl h
theorem byr_X9_compared_2 {j v : Nat} (h : by_X9_compared_2[j]? = some v) : RD cX9_compared (32 + j) v := rd_16 byo_X9_compared byl_X9_compared 2 rfl h
theorem byr_X9_compared_3 {j v : Nat} (h : by_X9_compared_z[j]? = some v) : RD cX9_compared (48 + j) v := rd_z byo_X9_compared byl_X9_compared 3 rfl h
theorem dX9_compared_0 : decode cX9_compared 0 = .ok (.aload_n 0, 1) := dk_42 (byr_X9_compared_0 (j := 0) rfl)
theorem dX9_compared_1 : decode cX9_compared 1 = .ok (.invokevirtual 91, 3) := dk_182 (byr_X9_compared_0 (j := 1) rfl) (byr_X9_compared_0 (j := 2) rfl) (byr_X9_compared_0 (j := 3) rfl) (by decide)
theorem dX9_compared_4 : decode cX9_compared 4 = .ok (.aload_n 0, 1) := dk_42 (byr_X9_compared_0 (j := 4) rfl)
theorem dX9_compared_5 : decode cX9_compared 5 = .ok (.invokevirtual 66, 3) := dk_182 (byr_X9_compared_0 (j := 5) rfl) (byr_X9_compared_0 (j := 6) rfl) (byr_X9_compared_0 (j := 7) rfl) (by decide)
theorem dX9_compared_8 : decode cX9_compared 8 = .ok (.istore_n 1, 1) := dk_60 (byr_X9_compared_0 (j := 8) rfl)
theorem dX9_compared_9 : decode cX9_compared 9 = .ok (.iload_n 1, 1) := dk_27 (byr_X9_compared_0 (j := 9) rfl)
theorem dX9_compared_10 : decode cX9_compared 10 = .ok (.bipush 60, 2) := dk_16 (byr_X9_compared_0 (j := 10) rfl) (byr_X9_compared_0 (j := 11) rfl) (by decide)
theorem dX9_compared_12 : decode cX9_compared 12 = .ok (.if_icmp .eq 15, 3) := dk_159 (byr_X9_compared_0 (j := 12) rfl) (byr_X9_compared_0 (j := 13) rfl) (byr_X9_compared_0 (j := 14) rfl) (by decide)
theorem dX9_compared_15 : decode cX9_compared 15 = .ok (.iload_n 1, 1) := dk_27 (byr_X9_compared_0 (j := 15) rfl)
theorem dX9_compared_16 : decode cX9_compared 16 = .ok (.bipush 61, 2) := dk_16 (byr_X9_compared_1 (j := 0) rfl) (byr_X9_compared_1 (j := 1) rfl) (by decide)
theorem dX9_compared_18 : decode cX9_compared 18 = .ok (.if_icmp .eq 9, 3) := dk_159 (byr_X9_compared_1 (j := 2) rfl) (byr_X9_compared_1 (j := 3) rfl) (byr_X9_compared_1 (j := 4) rfl) (by decide)
theorem dX9_compared_21 : decode cX9_compared 21 = .ok (.iload_n 1, 1) := dk_27 (byr_X9_compared_1 (j := 5) rfl)
theorem dX9_compared_22 : decode cX9_compared 22 = .ok (.bipush 62, 2) := dk_16 (byr_X9_compared_1 (j := 6) rfl) (byr_X9_compared_1 (j := 7) rfl) (by decide)
theorem dX9_compared_24 : decode cX9_compared 24 = .ok (.if_icmp .ne 26, 3) := dk_160 (byr_X9_compared_1 (j := 8) rfl) (byr_X9_compared_1 (j := 9) rfl) (byr_X9_compared_1 (j := 10) rfl) (by decide)
theorem dX9_compared_27 : decode cX9_compared 27 = .ok (.aload_n 0, 1) := dk_42 (byr_X9_compared_1 (j := 11) rfl)
theorem dX9_compared_28 : decode cX9_compared 28 = .ok (.dup, 1) := dk_89 (byr_X9_compared_1 (j := 12) rfl)
theorem dX9_compared_29 : decode cX9_compared 29 = .ok (.getfield 53, 3) := dk_180 (byr_X9_compared_1 (j := 13) rfl) (byr_X9_compared_1 (j := 14) rfl) (byr_X9_compared_1 (j := 15) rfl) (by decide)
theorem dX9_compared_32 : decode cX9_compared 32 = .ok (.iconst 1, 1) := dk_4 (byr_X9_compared_2 (j := 0) rfl)
theorem dX9_compared_33 : decode cX9_compared 33 = .ok (.iadd, 1) := dk_96 (byr_X9_compared_2 (j := 1) rfl)
theorem dX9_compared_34 : decode cX9_compared 34 = .ok (.putfield 53, 3) := dk_181 (byr_X9_compared_2 (j := 2) rfl) (byr_X9_compared_2 (j := 3) rfl) (byr_X9_compared_2 (j := 4) rfl) (by decide)
theorem dX9_compared_37 : decode cX9_compared 37 = .ok (.aload_n 0, 1) := dk_42 (byr_X9_compared_2 (j := 5) rfl)
theorem dX9_compared_38 : decode cX9_compared 38 = .ok (.invokevirtual 91, 3) := dk_182 (byr_X9_compared_2 (j := 6) rfl) (byr_X9_compared_2 (j := 7) rfl) (byr_X9_compared_2 (j := 8) rfl) (by decide)
theorem dX9_compared_41 : decode cX9_compared 41 = .ok (.aload_n 0, 1) := dk_42 (byr_X9_compared_2 (j := 9) rfl)
theorem dX9_compared_42 : decode cX9_compared 42 = .ok (.sipush 20000, 3) := dk_17 (byr_X9_compared_2 (j := 10) rfl) (byr_X9_compared_2 (j := 11) rfl) (byr_X9_compared_2 (j := 12) rfl) (by decide)
theorem dX9_compared_45 : decode cX9_compared 45 = .ok (.iload_n 1, 1) := dk_27 (byr_X9_compared_2 (j := 13) rfl)
theorem dX9_compared_46 : decode cX9_compared 46 = .ok (.iadd, 1) := dk_96 (byr_X9_compared_2 (j := 14) rfl)
theorem dX9_compared_47 : decode cX9_compared 47 = .ok (.invokevirtual 84, 3) := dk_182 (byr_X9_compared_2 (j := 15) rfl) (byr_X9_compared_3 (j := 0) rfl) (byr_X9_compared_3 (j := 1) rfl) (by decide)
theorem dX9_compared_50 : decode cX9_compared 50 = .ok (.return_, 1) := dk_177 (byr_X9_compared_3 (j := 2) rfl)
def by_X9_both_0 : List Nat := [42, 182, 0, 88, 42, 16, 38, 182, 0, 80, 153, 0, 17, 42, 182, 0]
def by_X9_both_z : List Nat := [88, 42, 17, 78, 70, 182, 0, 84, 167, 255, 236, 177]
def by_X9_both : List (List Nat) := [by_X9_both_0]
set_option maxRecDepth 100000 in
theorem byo_X9_both : cX9_both.data.toList.map UInt8.toNat = by_X9_both.flatten ++ by_X9_both_z := by decide +kernel
theorem byl_X9_both : by_X9_both.all (fun r => r.length == 16) = true := by decide +kernel
theorem byr_X9_both_0 {j v : Nat} (h : by_X9_both_0[j]? = some v) : RD cX9_both (0 + j) v := rd_16 byo_X9_both byl_X9_both 0 rfl h
theorem byr_X9_both_1 {j v : Nat} (h : by_X9_both_z[j]? = some v) : RD cX9_both (16 + j) v := rd_z byo_X9_both byl_X9_both 1 rfl h
theorem dX9_both_0 : decode cX9_both 0 = .ok (.aload_n 0, 1) := dk_42 (byr_X9_both_0 (j := 0) rfl)
theorem dX9_both_1 : decode cX9_both 1 = .ok (.invokevirtual 88, 3) := dk_182 (byr_X9_both_0 (j := 1) rfl) (byr_X9_both_0 (j := 2) rfl) (byr_X9_both_0 (j := 3) rfl) (by decide)
theorem dX9_both_4 : decode cX9_both 4 = .ok (.aload_n 0, 1) := dk_42 (byr_X9_both_0 (j := 4) rfl)
theorem dX9_both_5 : decode cX9_both 5 = .ok (.bipush 38, 2) := dk_16 (byr_X9_both_0 (j := 5) rfl) (byr_X9_both_0 (j := 6) rfl) (by decide)
theorem dX9_both_7 : decode cX9_both 7 = .ok (.invokevirtual 80, 3) := dk_182 (byr_X9_both_0 (j := 7) rfl) (byr_X9_both_0 (j := 8) rfl) (byr_X9_both_0 (j := 9) rfl) (by decide)
theorem dX9_both_10 : decode cX9_both 10 = .ok (.ifCond .eq 17, 3) := dk_153 (byr_X9_both_0 (j := 10) rfl) (byr_X9_both_0 (j := 11) rfl) (byr_X9_both_0 (j := 12) rfl) (by decide)
theorem dX9_both_13 : decode cX9_both 13 = .ok (.aload_n 0, 1) := dk_42 (byr_X9_both_0 (j := 13) rfl)
theorem dX9_both_14 : decode cX9_both 14 = .ok (.invokevirtual 88, 3) := dk_182 (byr_X9_both_0 (j := 14) rfl) (byr_X9_both_0 (j := 15) rfl) (byr_X9_both_1 (j := 0) rfl) (by decide)
theorem dX9_both_17 : decode cX9_both 17 = .ok (.aload_n 0, 1) := dk_42 (byr_X9_both_1 (j := 1) rfl)
theorem dX9_both_18 : decode cX9_both 18 = .ok (.sipush 20038, 3) := dk_17 (byr_X9_both_1 (j := 2) rfl) (byr_X9_both_1 (j := 3) rfl) (byr_X9_both_1 (j := 4) rfl) (by decide)
theorem dX9_both_21 : decode cX9_both 21 = .ok (.invokevirtual 84, 3) := dk_182 (byr_X9_both_1 (j := 5) rfl) (byr_X9_both_1 (j := 6) rfl) (byr_X9_both_1 (j := 7) rfl) (by decide)
theorem dX9_both_24 : decode cX9_both 24 = .ok (.goto (-20), 3) := dk_167 (byr_X9_both_1 (j := 8) rfl) (byr_X9_both_1 (j := 9) rfl) (byr_X9_both_1 (j := 10) rfl) (by decide)
theorem dX9_both_27 : decode cX9_both 27 = .ok (.return_, 1) := dk_177 (byr_X9_both_1 (j := 11) rfl)
def by_X9_either_0 : List Nat := [42, 182, 0, 77, 42, 16, 124, 182, 0, 80, 153, 0, 17, 42, 182, 0]
def by_X9_either_z : List Nat := [77, 42, 17, 78, 156, 182, 0, 84, 167, 255, 236, 177]
def by_X9_either : List (List Nat) := [by_X9_either_0]
set_option maxRecDepth 100000 in
theorem byo_X9_either : cX9_either.data.toList.map UInt8.toNat = by_X9_either.flatten ++ by_X9_either_z := by decide +kernel
theorem byl_X9_either : by_X9_either.all (fun r => r.length == 16) = true := by decide +kernel
theorem byr_X9_either_0 {j v : Nat} (h : by_X9_either_0[j]? = some v) : RD cX9_either (0 + j) v := rd_16 byo_X9_either byl_X9_either 0 rfl h
theorem byr_X9_either_1 {j v : Nat} (h : by_X9_either_z[j]? = some v) : RD cX9_either (16 + j) v := rd_z byo_X9_either byl_X9_either 1 rfl h
theorem dX9_either_0 : decode cX9_either 0 = .ok (.aload_n 0, 1) := dk_42 (byr_X9_either_0 (j := 0) rfl)
theorem dX9_either_1 : decode cX9_either 1 = .ok (.invokevirtual 77, 3) := dk_182 (byr_X9_either_0 (j := 1) rfl) (byr_X9_either_0 (j := 2) rfl) (byr_X9_either_0 (j := 3) rfl) (by decide)
theorem dX9_either_4 : decode cX9_either 4 = .ok (.aload_n 0, 1) := dk_42 (byr_X9_either_0 (j := 4) rfl)
theorem dX9_either_5 : decode cX9_either 5 = .ok (.bipush 124, 2) := dk_16 (byr_X9_either_0 (j := 5) rfl) (byr_X9_either_0 (j := 6) rfl) (by decide)
theorem dX9_either_7 : decode cX9_either 7 = .ok (.invokevirtual 80, 3) := dk_182 (byr_X9_either_0 (j := 7) rfl) (byr_X9_either_0 (j := 8) rfl) (byr_X9_either_0 (j := 9) rfl) (by decide)
theorem dX9_either_10 : decode cX9_either 10 = .ok (.ifCond .eq 17, 3) := dk_153 (byr_X9_either_0 (j := 10) rfl) (byr_X9_either_0 (j := 11) rfl) (byr_X9_either_0 (j := 12) rfl) (by decide)
theorem dX9_either_13 : decode cX9_either 13 = .ok (.aload_n 0, 1) := dk_42 (byr_X9_either_0 (j := 13) rfl)
theorem dX9_either_14 : decode cX9_either 14 = .ok (.invokevirtual 77, 3) := dk_182 (byr_X9_either_0 (j := 14) rfl) (byr_X9_either_0 (j := 15) rfl) (byr_X9_either_1 (j := 0) rfl) (by decide)
theorem dX9_either_17 : decode cX9_either 17 = .ok (.aload_n 0, 1) := dk_42 (byr_X9_either_1 (j := 1) rfl)
theorem dX9_either_18 : decode cX9_either 18 = .ok (.sipush 20124, 3) := dk_17 (byr_X9_either_1 (j := 2) rfl) (byr_X9_either_1 (j := 3) rfl) (byr_X9_either_1 (j := 4) rfl) (by decide)
theorem dX9_either_21 : decode cX9_either 21 = .ok (.invokevirtual 84, 3) := dk_182 (byr_X9_either_1 (j := 5) rfl) (byr_X9_either_1 (j := 6) rfl) (byr_X9_either_1 (j := 7) rfl) (by decide)
theorem dX9_either_24 : decode cX9_either 24 = .ok (.goto (-20), 3) := dk_167 (byr_X9_either_1 (j := 8) rfl) (byr_X9_either_1 (j := 9) rfl) (byr_X9_either_1 (j := 10) rfl) (by decide)
theorem dX9_either_27 : decode cX9_either 27 = .ok (.return_, 1) := dk_177 (byr_X9_either_1 (j := 11) rfl)
set_option maxHeartbeats 4000000 in
set_option maxRecDepth 100000 in
theorem cg_X9_both (l : Launch) (G : GT) : ∀ d, (∀ (σ : Sto)  (r : Sto) (_ : g_X9_both d 0 (0 : Int32) σ = some r), MW l G (5 + d) (169 + 64 * d) 0 0 yX9_both cX9_both 1 (Option.none : Option Jvm.ClassFile.FieldType) [.ref (gad G 81)] (wl G σ) (none) (wl G r)) ∧ (∀ (σ : Sto)  (r : Sto) (_ : g_X9_both d 1 (0 : Int32) σ = some r), MW l G (5 + d) (169 + 64 * d) 0 0 yX9_compared cX9_compared 2 (Option.none : Option Jvm.ClassFile.FieldType) [.ref (gad G 81)] (wl G σ) (none) (wl G r)) ∧ (∀ (σ : Sto)  (r : Sto) (_ : g_X9_both d 2 (0 : Int32) σ = some r), MW l G (5 + d) (169 + 64 * d) 0 0 yX9_either cX9_either 1 (Option.none : Option Jvm.ClassFile.FieldType) [.ref (gad G 81)] (wl G σ) (none) (wl G r)) ∧ (∀ (σ : Sto) (a1 : Int32) (r : Sto) (_ : g_X9_both d 3 a1 σ = some r), MW l G (5 + d) (169 + 64 * d) 0 0 yX9_opens cX9_opens 2 (Option.none : Option Jvm.ClassFile.FieldType) [.ref (gad G 81), .int a1] (wl G σ) (none) (wl G r)) ∧ (∀ (σ : Sto)  (r : Sto) (_ : g_X9_both d 4 (0 : Int32) σ = some r), MW l G (5 + d) (169 + 64 * d) 0 0 yX9_product cX9_product 2 (Option.none : Option Jvm.ClassFile.FieldType) [.ref (gad G 81)] (wl G σ) (none) (wl G r)) ∧ (∀ (σ : Sto)  (r : Sto) (_ : g_X9_both d 5 (0 : Int32) σ = some r), MW l G (5 + d) (169 + 64 * d) 0 0 yX9_sum cX9_sum 2 (Option.none : Option Jvm.ClassFile.FieldType) [.ref (gad G 81)] (wl G σ) (none) (wl G r)) ∧ (∀ (σ : Sto)  (r : Sto) (_ : g_X9_both d 6 (0 : Int32) σ = some r), MW l G (5 + d) (169 + 64 * d) 0 0 yX9_unit cX9_unit 5 (Option.none : Option Jvm.ClassFile.FieldType) [.ref (gad G 81)] (wl G σ) (none) (wl G r)) := by
  intro d
  induction d with
  | zero => exact ⟨(fun _ _ => by intro h; cases h), (fun _ _ => by intro h; cases h), (fun _ _ => by intro h; cases h), (fun _ _ _ => by intro h; cases h), (fun _ _ => by intro h; cases h), (fun _ _ => by intro h; cases h), (fun _ _ => by intro h; cases h)⟩
  | succ d ih =>
    refine ⟨?_, ?_, ?_, ?_, ?_, ?_, ?_⟩
    · intro σ r h
      rw [g_X9_both] at h
      refine mw_of RX9 (fiV G) [(0, .ref (gad G 81))] (by decide +kernel) rfl (Nat.le_of_ble_eq_true rfl) rfl h rfl (fun p e s m args below meth c X hr hnm => ?_)
      have J4 : ∀   (n : Nat)  (σ : Sto), Sm p l e { frames := 5 + (d + 1), cells := 0, slots := 0, locals := 169 + 64 * (d + 1) } s m args below meth c G 1 (Qm below args s G 0 0 (fiV G)) 0 0 (wl G σ) 4 [(0, .ref (gad G 81))] [] (f_X9_both_L4 (g_X9_both d)   n σ) := by
        intro  n
        induction n with
        | zero => intro σ; rw [f_X9_both_L4]; exact sm_none
        | succ n ihl =>
          intro σ
          rw [f_X9_both_L4]
          refine sm_aload_n X 5 0 dX9_both_4 rfl rfl rfl ?_
          refine sm_bipush X 7 (38) dX9_both_5 rfl rfl ?_
          refine sm_bind (fun r7 h7 => ?_)
          refine sm_callV0 X 10 [.int 38] [] [.int (b2i r7.1)] (c_X9_takes l G σ (38 : Int32) r7 h7) cw_X9_takes q_1019 qs_38 q_1017 rfl (by decide) rfl rfl rfl rfl rfl (Nat.le_of_ble_eq_true rfl) ⟨by show _ + 1 ≤ _ + (_ + 1); omega, by show _ ≤ _ + 64 * (_ + 1); omega⟩ ⟨Nat.le_refl _, Nat.le_refl _⟩ dX9_both_7 rfl ?_
          refine sm_ifz_eq X 13 27 dX9_both_10 rfl (by decide) (fun h10 => ?_) (fun h10 => ?_)
          · refine sm_aload_n X 14 0 dX9_both_13 rfl rfl rfl ?_
            refine sm_bind (fun r14 h14 => ?_)
            refine sm_callV0 X 17 [] [] [] (ih.2.1 r7.2  r14 h14) cw_X9_compared q_987 qs_30 q_985 rfl (by decide) rfl rfl rfl rfl rfl (Nat.le_of_ble_eq_true rfl) ⟨by show _ + _ + 1 ≤ _ + (_ + 1); omega, by show _ + (_ + 64 * _) ≤ _ + 64 * (_ + 1); omega⟩ ⟨Nat.le_refl _, Nat.le_refl _⟩ dX9_both_14 rfl ?_
            refine sm_aload_n X 18 0 dX9_both_17 rfl rfl rfl ?_
            refine sm_sipush X 21 (20038) dX9_both_18 rfl rfl ?_
            refine sm_bind (fun r21 h21 => ?_)
            refine sm_callV0 X 24 [.int 20038] [] [] (c_X9_lay l G r14 (20038 : Int32) r21 h21) cw_X9_lay q_1015 qs_37 q_1013 rfl (by decide) rfl rfl rfl rfl rfl (Nat.le_of_ble_eq_true rfl) ⟨by show _ + 1 ≤ _ + (_ + 1); omega, by show _ ≤ _ + 64 * (_ + 1); omega⟩ ⟨Nat.le_refl _, Nat.le_refl _⟩ dX9_both_21 rfl ?_
            refine sm_goto X 4 dX9_both_24 (by decide) ?_
            exact sm_sub [0] rfl (ihl r21)
          · exact sm_vret X hr dX9_both_27 rfl
      unfold b_X9_both
      refine sm_aload_n X 1 0 dX9_both_0 rfl rfl rfl ?_
      refine sm_bind (fun r1 h1 => ?_)
      refine sm_callV0 X 4 [] [] [] (ih.2.1 σ  r1 h1) cw_X9_compared q_987 qs_30 q_985 rfl (by decide) rfl rfl rfl rfl rfl (Nat.le_of_ble_eq_true rfl) ⟨by show _ + _ + 1 ≤ _ + (_ + 1); omega, by show _ + (_ + 64 * _) ≤ _ + 64 * (_ + 1); omega⟩ ⟨Nat.le_refl _, Nat.le_refl _⟩ dX9_both_1 rfl ?_
      exact sm_sub [0] rfl (J4   FU r1)
    · intro σ r h
      rw [g_X9_both] at h
      refine mw_of RX9 (fiV G) [(0, .ref (gad G 81))] (by decide +kernel) rfl (Nat.le_of_ble_eq_true rfl) rfl h rfl (fun p e s m args below meth c X hr hnm => ?_)
      have J27 : ∀ (v1 : Int32)  (σ : Sto), Sm p l e { frames := 5 + (d + 1), cells := 0, slots := 0, locals := 169 + 64 * (d + 1) } s m args below meth c G 2 (Qm below args s G 0 0 (fiV G)) 0 0 (wl G σ) 27 [(0, .ref (gad G 81)), (1, .int v1)] [] (f_X9_compared_L27 (g_X9_both d)  v1 σ) := by
        intro v1 σ
        rw [f_X9_compared_L27]
        refine sm_aload_n X 28 0 dX9_compared_27 rfl rfl rfl ?_
        refine sm_dup X 29 dX9_compared_28 rfl rfl ?_
        refine sm_geti X 32 rfl fd_9_6 dX9_compared_29 rfl q_888 ?_
        refine sm_iconst X 33 (1) dX9_compared_32 rfl rfl ?_
        refine sm_iadd X 34 dX9_compared_33 rfl ?_
        refine sm_puti X 37 .int rfl fd_9_6 (by decide) rfl rfl rfl dX9_compared_34 rfl q_888 (fun σ34 e34 => ?_)
        clear e34
        refine sm_aload_n X 38 0 dX9_compared_37 rfl rfl rfl ?_
        refine sm_bind (fun r38 h38 => ?_)
        refine sm_callV0 X 41 [] [] [] (ih.2.2.2.2.2.1 σ34  r38 h38) cw_X9_sum q_991 qs_31 q_989 rfl (by decide) rfl rfl rfl rfl rfl (Nat.le_of_ble_eq_true rfl) ⟨by show _ + _ + 1 ≤ _ + (_ + 1); omega, by show _ + (_ + 64 * _) ≤ _ + 64 * (_ + 1); omega⟩ ⟨Nat.le_refl _, Nat.le_refl _⟩ dX9_compared_38 rfl ?_
        refine sm_aload_n X 42 0 dX9_compared_41 rfl rfl rfl ?_
        refine sm_sipush X 45 (20000) dX9_compared_42 rfl rfl ?_
        refine sm_iload_n X 46 1 dX9_compared_45 rfl rfl rfl ?_
        refine sm_iadd X 47 dX9_compared_46 rfl ?_
        refine sm_bind (fun r47 h47 => ?_)
        refine sm_callV0 X 50 [.int ((20000 : Int32) + v1)] [] [] (c_X9_lay l G r38 ((20000 : Int32) + v1) r47 h47) cw_X9_lay q_1015 qs_37 q_1013 rfl (by decide) rfl rfl rfl rfl rfl (Nat.le_of_ble_eq_true rfl) ⟨by show _ + 1 ≤ _ + (_ + 1); omega, by show _ ≤ _ + 64 * (_ + 1); omega⟩ ⟨Nat.le_refl _, Nat.le_refl _⟩ dX9_compared_47 rfl ?_
        exact sm_vret X hr dX9_compared_50 rfl
      unfold b_X9_compared
      refine sm_aload_n X 1 0 dX9_compared_0 rfl rfl rfl ?_
      refine sm_bind (fun r1 h1 => ?_)
      refine sm_callV0 X 4 [] [] [] (ih.2.2.2.2.2.1 σ  r1 h1) cw_X9_sum q_991 qs_31 q_989 rfl (by decide) rfl rfl rfl rfl rfl (Nat.le_of_ble_eq_true rfl) ⟨by show _ + _ + 1 ≤ _ + (_ + 1); omega, by show _ + (_ + 64 * _) ≤ _ + 64 * (_ + 1); omega⟩ ⟨Nat.le_refl _, Nat.le_refl _⟩ dX9_compared_1 rfl ?_
      refine sm_aload_n X 5 0 dX9_compared_4 rfl rfl rfl ?_
      refine sm_bind (fun r5 h5 => ?_)
      refine sm_callV0 X 8 [] [] [.int r5] (c_X9_here l G r1  r5 h5) cw_X9_here q_1003 qs_34 q_1001 rfl (by decide) rfl rfl rfl rfl rfl (Nat.le_of_ble_eq_true rfl) ⟨by show _ + 1 ≤ _ + (_ + 1); omega, by show _ ≤ _ + 64 * (_ + 1); omega⟩ ⟨Nat.le_refl _, Nat.le_refl _⟩ dX9_compared_5 rfl ?_
      refine sm_istore_n X 9 [(1, .int r5), (0, .ref (gad G 81))] dX9_compared_8 rfl rfl (by decide) rfl ?_
      refine sm_iload_n X 10 0 dX9_compared_9 rfl rfl rfl ?_
      refine sm_bipush X 12 (60) dX9_compared_10 rfl rfl ?_
      refine sm_icmp_eq X 15 27 dX9_compared_12 rfl (by decide) (fun h12 => ?_) (fun h12 => ?_)
      · exact sm_sub [1, 0] rfl (J27 r5  r1)
      · refine sm_iload_n X 16 0 dX9_compared_15 rfl rfl rfl ?_
        refine sm_bipush X 18 (61) dX9_compared_16 rfl rfl ?_
        refine sm_icmp_eq X 21 27 dX9_compared_18 rfl (by decide) (fun h18 => ?_) (fun h18 => ?_)
        · exact sm_sub [1, 0] rfl (J27 r5  r1)
        · refine sm_iload_n X 22 0 dX9_compared_21 rfl rfl rfl ?_
          refine sm_bipush X 24 (62) dX9_compared_22 rfl rfl ?_
          refine sm_icmp_ne X 27 50 dX9_compared_24 rfl (by decide) (fun h24 => ?_) (fun h24 => ?_)
          · exact sm_sub [1, 0] rfl (J27 r5  r1)
          · exact sm_vret X hr dX9_compared_50 rfl
    · intro σ r h
      rw [g_X9_both] at h
      refine mw_of RX9 (fiV G) [(0, .ref (gad G 81))] (by decide +kernel) rfl (Nat.le_of_ble_eq_true rfl) rfl h rfl (fun p e s m args below meth c X hr hnm => ?_)
      have J4 : ∀   (n : Nat)  (σ : Sto), Sm p l e { frames := 5 + (d + 1), cells := 0, slots := 0, locals := 169 + 64 * (d + 1) } s m args below meth c G 1 (Qm below args s G 0 0 (fiV G)) 0 0 (wl G σ) 4 [(0, .ref (gad G 81))] [] (f_X9_either_L4 (g_X9_both d)   n σ) := by
        intro  n
        induction n with
        | zero => intro σ; rw [f_X9_either_L4]; exact sm_none
        | succ n ihl =>
          intro σ
          rw [f_X9_either_L4]
          refine sm_aload_n X 5 0 dX9_either_4 rfl rfl rfl ?_
          refine sm_bipush X 7 (124) dX9_either_5 rfl rfl ?_
          refine sm_bind (fun r7 h7 => ?_)
          refine sm_callV0 X 10 [.int 124] [] [.int (b2i r7.1)] (c_X9_takes l G σ (124 : Int32) r7 h7) cw_X9_takes q_1019 qs_38 q_1017 rfl (by decide) rfl rfl rfl rfl rfl (Nat.le_of_ble_eq_true rfl) ⟨by show _ + 1 ≤ _ + (_ + 1); omega, by show _ ≤ _ + 64 * (_ + 1); omega⟩ ⟨Nat.le_refl _, Nat.le_refl _⟩ dX9_either_7 rfl ?_
          refine sm_ifz_eq X 13 27 dX9_either_10 rfl (by decide) (fun h10 => ?_) (fun h10 => ?_)
          · refine sm_aload_n X 14 0 dX9_either_13 rfl rfl rfl ?_
            refine sm_bind (fun r14 h14 => ?_)
            refine sm_callV0 X 17 [] [] [] (ih.1 r7.2  r14 h14) cw_X9_both q_983 qs_29 q_981 rfl (by decide) rfl rfl rfl rfl rfl (Nat.le_of_ble_eq_true rfl) ⟨by show _ + _ + 1 ≤ _ + (_ + 1); omega, by show _ + (_ + 64 * _) ≤ _ + 64 * (_ + 1); omega⟩ ⟨Nat.le_refl _, Nat.le_refl _⟩ dX9_either_14 rfl ?_
            refine sm_aload_n X 18 0 dX9_either_17 rfl rfl rfl ?_
            refine sm_sipush X 21 (20124) dX9_either_18 rfl rfl ?_
            refine sm_bind (fun r21 h21 => ?_)
            refine sm_callV0 X 24 [.int 20124] [] [] (c_X9_lay l G r14 (20124 : Int32) r21 h21) cw_X9_lay q_1015 qs_37 q_1013 rfl (by decide) rfl rfl rfl rfl rfl (Nat.le_of_ble_eq_true rfl) ⟨by show _ + 1 ≤ _ + (_ + 1); omega, by show _ ≤ _ + 64 * (_ + 1); omega⟩ ⟨Nat.le_refl _, Nat.le_refl _⟩ dX9_either_21 rfl ?_
            refine sm_goto X 4 dX9_either_24 (by decide) ?_
            exact sm_sub [0] rfl (ihl r21)
          · exact sm_vret X hr dX9_either_27 rfl
      unfold b_X9_either
      refine sm_aload_n X 1 0 dX9_either_0 rfl rfl rfl ?_
      refine sm_bind (fun r1 h1 => ?_)
      refine sm_callV0 X 4 [] [] [] (ih.1 σ  r1 h1) cw_X9_both q_983 qs_29 q_981 rfl (by decide) rfl rfl rfl rfl rfl (Nat.le_of_ble_eq_true rfl) ⟨by show _ + _ + 1 ≤ _ + (_ + 1); omega, by show _ + (_ + 64 * _) ≤ _ + 64 * (_ + 1); omega⟩ ⟨Nat.le_refl _, Nat.le_refl _⟩ dX9_either_1 rfl ?_
      exact sm_sub [0] rfl (J4   FU r1)
    · intro σ a1 r h
      rw [g_X9_both] at h
      refine mw_of RX9 (fiV G) [(0, .ref (gad G 81)), (1, .int a1)] (by decide +kernel) rfl (Nat.le_of_ble_eq_true rfl) rfl h rfl (fun p e s m args below meth c X hr hnm => ?_)
      have J70 : ∀   (σ : Sto), Sm p l e { frames := 5 + (d + 1), cells := 0, slots := 0, locals := 169 + 64 * (d + 1) } s m args below meth c G 2 (Qm below args s G 0 0 (fiV G)) 0 0 (wl G σ) 70 [(0, .ref (gad G 81))] [] (f_X9_opens_L70 (g_X9_both d)  σ) := by
        intro σ
        rw [f_X9_opens_L70]
        refine sm_aload_n X 71 0 dX9_opens_70 rfl rfl rfl ?_
        refine sm_dup X 72 dX9_opens_71 rfl rfl ?_
        refine sm_geti X 75 rfl fd_9_9 dX9_opens_72 rfl q_891 ?_
        refine sm_iconst X 76 (1) dX9_opens_75 rfl rfl ?_
        refine sm_isub X 77 dX9_opens_76 rfl ?_
        refine sm_puti X 80 .int rfl fd_9_9 (by decide) rfl rfl rfl dX9_opens_77 rfl q_891 (fun σ77 e77 => ?_)
        clear e77
        exact sm_vret X hr dX9_opens_80 rfl
      unfold b_X9_opens
      refine sm_aload_n X 1 0 dX9_opens_0 rfl rfl rfl ?_
      refine sm_geti X 4 rfl fd_9_9 dX9_opens_1 rfl q_891 ?_
      refine sm_iconst X 5 (5) dX9_opens_4 rfl rfl ?_
      refine sm_icmp_ne X 8 13 dX9_opens_5 rfl (by decide) (fun h5 => ?_) (fun h5 => ?_)
      · refine sm_aload_n X 9 0 dX9_opens_8 rfl rfl rfl ?_
        refine sm_bind (fun r9 h9 => ?_)
        refine sm_callV0 X 12 [] [] [] (c_X9_wrong l G σ  r9 h9) cw_X9_wrong q_1011 qs_36 q_1009 rfl (by decide) rfl rfl rfl rfl rfl (Nat.le_of_ble_eq_true rfl) ⟨by show _ + 1 ≤ _ + (_ + 1); omega, by show _ ≤ _ + 64 * (_ + 1); omega⟩ ⟨Nat.le_refl _, Nat.le_refl _⟩ dX9_opens_9 rfl ?_
        exact sm_vret X hr dX9_opens_12 rfl
      · refine sm_aload_n X 14 0 dX9_opens_13 rfl rfl rfl ?_
        refine sm_dup X 15 dX9_opens_14 rfl rfl ?_
        refine sm_geti X 18 rfl fd_9_9 dX9_opens_15 rfl q_891 ?_
        refine sm_iconst X 19 (1) dX9_opens_18 rfl rfl ?_
        refine sm_iadd X 20 dX9_opens_19 rfl ?_
        refine sm_puti X 23 .int rfl fd_9_9 (by decide) rfl rfl rfl dX9_opens_20 rfl q_891 (fun σ20 e20 => ?_)
        clear e20
        refine sm_aload_n X 24 0 dX9_opens_23 rfl rfl rfl ?_
        refine sm_dup X 25 dX9_opens_24 rfl rfl ?_
        refine sm_geti X 28 rfl fd_9_6 dX9_opens_25 rfl q_888 ?_
        refine sm_iconst X 29 (1) dX9_opens_28 rfl rfl ?_
        refine sm_iadd X 30 dX9_opens_29 rfl ?_
        refine sm_puti X 33 .int rfl fd_9_6 (by decide) rfl rfl rfl dX9_opens_30 rfl q_888 (fun σ30 e30 => ?_)
        clear e30
        refine sm_iload_n X 34 1 dX9_opens_33 rfl rfl rfl ?_
        refine sm_bipush X 36 (33) dX9_opens_34 rfl rfl ?_
        refine sm_icmp_ne X 39 53 dX9_opens_36 rfl (by decide) (fun h36 => ?_) (fun h36 => ?_)
        · refine sm_aload_n X 40 0 dX9_opens_39 rfl rfl rfl ?_
          refine sm_bind (fun r40 h40 => ?_)
          refine sm_callV0 X 43 [] [] [] (ih.2.2.2.2.2.2 σ30  r40 h40) cw_X9_unit q_999 qs_33 q_997 rfl (by decide) rfl rfl rfl rfl rfl (Nat.le_of_ble_eq_true rfl) ⟨by show _ + _ + 1 ≤ _ + (_ + 1); omega, by show _ + (_ + 64 * _) ≤ _ + 64 * (_ + 1); omega⟩ ⟨Nat.le_refl _, Nat.le_refl _⟩ dX9_opens_40 rfl ?_
          refine sm_aload_n X 44 0 dX9_opens_43 rfl rfl rfl ?_
          refine sm_sipush X 47 (20033) dX9_opens_44 rfl rfl ?_
          refine sm_bind (fun r47 h47 => ?_)
          refine sm_callV0 X 50 [.int 20033] [] [] (c_X9_lay l G r40 (20033 : Int32) r47 h47) cw_X9_lay q_1015 qs_37 q_1013 rfl (by decide) rfl rfl rfl rfl rfl (Nat.le_of_ble_eq_true rfl) ⟨by show _ + 1 ≤ _ + (_ + 1); omega, by show _ ≤ _ + 64 * (_ + 1); omega⟩ ⟨Nat.le_refl _, Nat.le_refl _⟩ dX9_opens_47 rfl ?_
          refine sm_goto X 70 dX9_opens_50 (by decide) ?_
          exact sm_sub [0] rfl (J70 r47)
        · refine sm_aload_n X 54 0 dX9_opens_53 rfl rfl rfl ?_
          refine sm_bind (fun r54 h54 => ?_)
          refine sm_callV0 X 57 [] [] [] (ih.2.2.1 σ30  r54 h54) cw_X9_either q_979 qs_28 q_977 rfl (by decide) rfl rfl rfl rfl rfl (Nat.le_of_ble_eq_true rfl) ⟨by show _ + _ + 1 ≤ _ + (_ + 1); omega, by show _ + (_ + 64 * _) ≤ _ + 64 * (_ + 1); omega⟩ ⟨Nat.le_refl _, Nat.le_refl _⟩ dX9_opens_54 rfl ?_
          refine sm_aload_n X 58 0 dX9_opens_57 rfl rfl rfl ?_
          refine sm_bipush X 60 (41) dX9_opens_58 rfl rfl ?_
          refine sm_bind (fun r60 h60 => ?_)
          refine sm_callV0 X 63 [.int 41] [] [.int (b2i r60.1)] (c_X9_takes l G r54 (41 : Int32) r60 h60) cw_X9_takes q_1019 qs_38 q_1017 rfl (by decide) rfl rfl rfl rfl rfl (Nat.le_of_ble_eq_true rfl) ⟨by show _ + 1 ≤ _ + (_ + 1); omega, by show _ ≤ _ + 64 * (_ + 1); omega⟩ ⟨Nat.le_refl _, Nat.le_refl _⟩ dX9_opens_60 rfl ?_
          refine sm_ifz_ne X 66 70 dX9_opens_63 rfl (by decide) (fun h63 => ?_) (fun h63 => ?_)
          · exact sm_sub [0] rfl (J70 r60.2)
          · refine sm_aload_n X 67 0 dX9_opens_66 rfl rfl rfl ?_
            refine sm_bind (fun r67 h67 => ?_)
            refine sm_callV0 X 70 [] [] [] (c_X9_wrong l G r60.2  r67 h67) cw_X9_wrong q_1011 qs_36 q_1009 rfl (by decide) rfl rfl rfl rfl rfl (Nat.le_of_ble_eq_true rfl) ⟨by show _ + 1 ≤ _ + (_ + 1); omega, by show _ ≤ _ + 64 * (_ + 1); omega⟩ ⟨Nat.le_refl _, Nat.le_refl _⟩ dX9_opens_67 rfl ?_
            exact sm_sub [0] rfl (J70 r67)
    · intro σ r h
      rw [g_X9_both] at h
      refine mw_of RX9 (fiV G) [(0, .ref (gad G 81))] (by decide +kernel) rfl (Nat.le_of_ble_eq_true rfl) rfl h rfl (fun p e s m args below meth c X hr hnm => ?_)
      have J31 : ∀  (K4 : Sto → Option Sto) (hK4 : ∀ (σ' : Sto), Sm p l e { frames := 5 + (d + 1), cells := 0, slots := 0, locals := 169 + 64 * (d + 1) } s m args below meth c G 2 (Qm below args s G 0 0 (fiV G)) 0 0 (wl G σ') 4 [(0, .ref (gad G 81))] [] (K4 σ')) (σ : Sto), Sm p l e { frames := 5 + (d + 1), cells := 0, slots := 0, locals := 169 + 64 * (d + 1) } s m args below meth c G 2 (Qm below args s G 0 0 (fiV G)) 0 0 (wl G σ) 31 [(0, .ref (gad G 81))] [] (f_X9_product_L31 (g_X9_both d) K4 σ) := by
        intro K4 hK4 σ
        rw [f_X9_product_L31]
        refine sm_aload_n X 32 0 dX9_product_31 rfl rfl rfl ?_
        refine sm_bind (fun r32 h32 => ?_)
        refine sm_callV0 X 35 [] [] [.int r32] (c_X9_here l G σ  r32 h32) cw_X9_here q_1003 qs_34 q_1001 rfl (by decide) rfl rfl rfl rfl rfl (Nat.le_of_ble_eq_true rfl) ⟨by show _ + 1 ≤ _ + (_ + 1); omega, by show _ ≤ _ + 64 * (_ + 1); omega⟩ ⟨Nat.le_refl _, Nat.le_refl _⟩ dX9_product_32 rfl ?_
        refine sm_istore_n X 36 [(1, .int r32), (0, .ref (gad G 81))] dX9_product_35 rfl rfl (by decide) rfl ?_
        refine sm_aload_n X 37 1 dX9_product_36 rfl rfl rfl ?_
        refine sm_dup X 38 dX9_product_37 rfl rfl ?_
        refine sm_geti X 41 rfl fd_9_6 dX9_product_38 rfl q_888 ?_
        refine sm_iconst X 42 (1) dX9_product_41 rfl rfl ?_
        refine sm_iadd X 43 dX9_product_42 rfl ?_
        refine sm_puti X 46 .int rfl fd_9_6 (by decide) rfl rfl rfl dX9_product_43 rfl q_888 (fun σ43 e43 => ?_)
        clear e43
        refine sm_aload_n X 47 1 dX9_product_46 rfl rfl rfl ?_
        refine sm_bind (fun r47 h47 => ?_)
        refine sm_callV0 X 50 [] [] [] (ih.2.2.2.2.2.2 σ43  r47 h47) cw_X9_unit q_999 qs_33 q_997 rfl (by decide) rfl rfl rfl rfl rfl (Nat.le_of_ble_eq_true rfl) ⟨by show _ + _ + 1 ≤ _ + (_ + 1); omega, by show _ + (_ + 64 * _) ≤ _ + 64 * (_ + 1); omega⟩ ⟨Nat.le_refl _, Nat.le_refl _⟩ dX9_product_47 rfl ?_
        refine sm_aload_n X 51 1 dX9_product_50 rfl rfl rfl ?_
        refine sm_sipush X 54 (20000) dX9_product_51 rfl rfl ?_
        refine sm_iload_n X 55 0 dX9_product_54 rfl rfl rfl ?_
        refine sm_iadd X 56 dX9_product_55 rfl ?_
        refine sm_bind (fun r56 h56 => ?_)
        refine sm_callV0 X 59 [.int ((20000 : Int32) + r32)] [] [] (c_X9_lay l G r47 ((20000 : Int32) + r32) r56 h56) cw_X9_lay q_1015 qs_37 q_1013 rfl (by decide) rfl rfl rfl rfl rfl (Nat.le_of_ble_eq_true rfl) ⟨by show _ + 1 ≤ _ + (_ + 1); omega, by show _ ≤ _ + 64 * (_ + 1); omega⟩ ⟨Nat.le_refl _, Nat.le_refl _⟩ dX9_product_56 rfl ?_
        refine sm_goto X 4 dX9_product_59 (by decide) ?_
        exact sm_sub [1] rfl (hK4 r56)
      have J4 : ∀   (n : Nat)  (σ : Sto), Sm p l e { frames := 5 + (d + 1), cells := 0, slots := 0, locals := 169 + 64 * (d + 1) } s m args below meth c G 2 (Qm below args s G 0 0 (fiV G)) 0 0 (wl G σ) 4 [(0, .ref (gad G 81))] [] (f_X9_product_L4 (g_X9_both d)   n σ) := by
        intro  n
        induction n with
        | zero => intro σ; rw [f_X9_product_L4]; exact sm_none
        | succ n ihl =>
          intro σ
          rw [f_X9_product_L4]
          refine sm_aload_n X 5 0 dX9_product_4 rfl rfl rfl ?_
          refine sm_bind (fun r5 h5 => ?_)
          refine sm_callV0 X 8 [] [] [.int r5] (c_X9_here l G σ  r5 h5) cw_X9_here q_1003 qs_34 q_1001 rfl (by decide) rfl rfl rfl rfl rfl (Nat.le_of_ble_eq_true rfl) ⟨by show _ + 1 ≤ _ + (_ + 1); omega, by show _ ≤ _ + 64 * (_ + 1); omega⟩ ⟨Nat.le_refl _, Nat.le_refl _⟩ dX9_product_5 rfl ?_
          refine sm_bipush X 10 (42) dX9_product_8 rfl rfl ?_
          refine sm_icmp_eq X 13 31 dX9_product_10 rfl (by decide) (fun h10 => ?_) (fun h10 => ?_)
          · exact sm_sub [0] rfl (J31 (f_X9_product_L4 (g_X9_both d)   n) ihl σ)
          · refine sm_aload_n X 14 0 dX9_product_13 rfl rfl rfl ?_
            refine sm_bind (fun r14 h14 => ?_)
            refine sm_callV0 X 17 [] [] [.int r14] (c_X9_here l G σ  r14 h14) cw_X9_here q_1003 qs_34 q_1001 rfl (by decide) rfl rfl rfl rfl rfl (Nat.le_of_ble_eq_true rfl) ⟨by show _ + 1 ≤ _ + (_ + 1); omega, by show _ ≤ _ + 64 * (_ + 1); omega⟩ ⟨Nat.le_refl _, Nat.le_refl _⟩ dX9_product_14 rfl ?_
            refine sm_bipush X 19 (47) dX9_product_17 rfl rfl ?_
            refine sm_icmp_eq X 22 31 dX9_product_19 rfl (by decide) (fun h19 => ?_) (fun h19 => ?_)
            · exact sm_sub [0] rfl (J31 (f_X9_product_L4 (g_X9_both d)   n) ihl σ)
            · refine sm_aload_n X 23 0 dX9_product_22 rfl rfl rfl ?_
              refine sm_bind (fun r23 h23 => ?_)
              refine sm_callV0 X 26 [] [] [.int r23] (c_X9_here l G σ  r23 h23) cw_X9_here q_1003 qs_34 q_1001 rfl (by decide) rfl rfl rfl rfl rfl (Nat.le_of_ble_eq_true rfl) ⟨by show _ + 1 ≤ _ + (_ + 1); omega, by show _ ≤ _ + 64 * (_ + 1); omega⟩ ⟨Nat.le_refl _, Nat.le_refl _⟩ dX9_product_23 rfl ?_
              refine sm_bipush X 28 (37) dX9_product_26 rfl rfl ?_
              refine sm_icmp_ne X 31 62 dX9_product_28 rfl (by decide) (fun h28 => ?_) (fun h28 => ?_)
              · exact sm_sub [0] rfl (J31 (f_X9_product_L4 (g_X9_both d)   n) ihl σ)
              · exact sm_vret X hr dX9_product_62 rfl
      unfold b_X9_product
      refine sm_aload_n X 1 0 dX9_product_0 rfl rfl rfl ?_
      refine sm_bind (fun r1 h1 => ?_)
      refine sm_callV0 X 4 [] [] [] (ih.2.2.2.2.2.2 σ  r1 h1) cw_X9_unit q_999 qs_33 q_997 rfl (by decide) rfl rfl rfl rfl rfl (Nat.le_of_ble_eq_true rfl) ⟨by show _ + _ + 1 ≤ _ + (_ + 1); omega, by show _ + (_ + 64 * _) ≤ _ + 64 * (_ + 1); omega⟩ ⟨Nat.le_refl _, Nat.le_refl _⟩ dX9_product_1 rfl ?_
      exact sm_sub [0] rfl (J4   FU r1)
    · intro σ r h
      rw [g_X9_both] at h
      refine mw_of RX9 (fiV G) [(0, .ref (gad G 81))] (by decide +kernel) rfl (Nat.le_of_ble_eq_true rfl) rfl h rfl (fun p e s m args below meth c X hr hnm => ?_)
      have J22 : ∀  (K4 : Sto → Option Sto) (hK4 : ∀ (σ' : Sto), Sm p l e { frames := 5 + (d + 1), cells := 0, slots := 0, locals := 169 + 64 * (d + 1) } s m args below meth c G 2 (Qm below args s G 0 0 (fiV G)) 0 0 (wl G σ') 4 [(0, .ref (gad G 81))] [] (K4 σ')) (σ : Sto), Sm p l e { frames := 5 + (d + 1), cells := 0, slots := 0, locals := 169 + 64 * (d + 1) } s m args below meth c G 2 (Qm below args s G 0 0 (fiV G)) 0 0 (wl G σ) 22 [(0, .ref (gad G 81))] [] (f_X9_sum_L22 (g_X9_both d) K4 σ) := by
        intro K4 hK4 σ
        rw [f_X9_sum_L22]
        refine sm_aload_n X 23 0 dX9_sum_22 rfl rfl rfl ?_
        refine sm_bind (fun r23 h23 => ?_)
        refine sm_callV0 X 26 [] [] [.int r23] (c_X9_here l G σ  r23 h23) cw_X9_here q_1003 qs_34 q_1001 rfl (by decide) rfl rfl rfl rfl rfl (Nat.le_of_ble_eq_true rfl) ⟨by show _ + 1 ≤ _ + (_ + 1); omega, by show _ ≤ _ + 64 * (_ + 1); omega⟩ ⟨Nat.le_refl _, Nat.le_refl _⟩ dX9_sum_23 rfl ?_
        refine sm_istore_n X 27 [(1, .int r23), (0, .ref (gad G 81))] dX9_sum_26 rfl rfl (by decide) rfl ?_
        refine sm_aload_n X 28 1 dX9_sum_27 rfl rfl rfl ?_
        refine sm_dup X 29 dX9_sum_28 rfl rfl ?_
        refine sm_geti X 32 rfl fd_9_6 dX9_sum_29 rfl q_888 ?_
        refine sm_iconst X 33 (1) dX9_sum_32 rfl rfl ?_
        refine sm_iadd X 34 dX9_sum_33 rfl ?_
        refine sm_puti X 37 .int rfl fd_9_6 (by decide) rfl rfl rfl dX9_sum_34 rfl q_888 (fun σ34 e34 => ?_)
        clear e34
        refine sm_aload_n X 38 1 dX9_sum_37 rfl rfl rfl ?_
        refine sm_bind (fun r38 h38 => ?_)
        refine sm_callV0 X 41 [] [] [] (ih.2.2.2.2.1 σ34  r38 h38) cw_X9_product q_995 qs_32 q_993 rfl (by decide) rfl rfl rfl rfl rfl (Nat.le_of_ble_eq_true rfl) ⟨by show _ + _ + 1 ≤ _ + (_ + 1); omega, by show _ + (_ + 64 * _) ≤ _ + 64 * (_ + 1); omega⟩ ⟨Nat.le_refl _, Nat.le_refl _⟩ dX9_sum_38 rfl ?_
        refine sm_aload_n X 42 1 dX9_sum_41 rfl rfl rfl ?_
        refine sm_sipush X 45 (20000) dX9_sum_42 rfl rfl ?_
        refine sm_iload_n X 46 0 dX9_sum_45 rfl rfl rfl ?_
        refine sm_iadd X 47 dX9_sum_46 rfl ?_
        refine sm_bind (fun r47 h47 => ?_)
        refine sm_callV0 X 50 [.int ((20000 : Int32) + r23)] [] [] (c_X9_lay l G r38 ((20000 : Int32) + r23) r47 h47) cw_X9_lay q_1015 qs_37 q_1013 rfl (by decide) rfl rfl rfl rfl rfl (Nat.le_of_ble_eq_true rfl) ⟨by show _ + 1 ≤ _ + (_ + 1); omega, by show _ ≤ _ + 64 * (_ + 1); omega⟩ ⟨Nat.le_refl _, Nat.le_refl _⟩ dX9_sum_47 rfl ?_
        refine sm_goto X 4 dX9_sum_50 (by decide) ?_
        exact sm_sub [1] rfl (hK4 r47)
      have J4 : ∀   (n : Nat)  (σ : Sto), Sm p l e { frames := 5 + (d + 1), cells := 0, slots := 0, locals := 169 + 64 * (d + 1) } s m args below meth c G 2 (Qm below args s G 0 0 (fiV G)) 0 0 (wl G σ) 4 [(0, .ref (gad G 81))] [] (f_X9_sum_L4 (g_X9_both d)   n σ) := by
        intro  n
        induction n with
        | zero => intro σ; rw [f_X9_sum_L4]; exact sm_none
        | succ n ihl =>
          intro σ
          rw [f_X9_sum_L4]
          refine sm_aload_n X 5 0 dX9_sum_4 rfl rfl rfl ?_
          refine sm_bind (fun r5 h5 => ?_)
          refine sm_callV0 X 8 [] [] [.int r5] (c_X9_here l G σ  r5 h5) cw_X9_here q_1003 qs_34 q_1001 rfl (by decide) rfl rfl rfl rfl rfl (Nat.le_of_ble_eq_true rfl) ⟨by show _ + 1 ≤ _ + (_ + 1); omega, by show _ ≤ _ + 64 * (_ + 1); omega⟩ ⟨Nat.le_refl _, Nat.le_refl _⟩ dX9_sum_5 rfl ?_
          refine sm_bipush X 10 (43) dX9_sum_8 rfl rfl ?_
          refine sm_icmp_eq X 13 22 dX9_sum_10 rfl (by decide) (fun h10 => ?_) (fun h10 => ?_)
          · exact sm_sub [0] rfl (J22 (f_X9_sum_L4 (g_X9_both d)   n) ihl σ)
          · refine sm_aload_n X 14 0 dX9_sum_13 rfl rfl rfl ?_
            refine sm_bind (fun r14 h14 => ?_)
            refine sm_callV0 X 17 [] [] [.int r14] (c_X9_here l G σ  r14 h14) cw_X9_here q_1003 qs_34 q_1001 rfl (by decide) rfl rfl rfl rfl rfl (Nat.le_of_ble_eq_true rfl) ⟨by show _ + 1 ≤ _ + (_ + 1); omega, by show _ ≤ _ + 64 * (_ + 1); omega⟩ ⟨Nat.le_refl _, Nat.le_refl _⟩ dX9_sum_14 rfl ?_
            refine sm_bipush X 19 (45) dX9_sum_17 rfl rfl ?_
            refine sm_icmp_ne X 22 53 dX9_sum_19 rfl (by decide) (fun h19 => ?_) (fun h19 => ?_)
            · exact sm_sub [0] rfl (J22 (f_X9_sum_L4 (g_X9_both d)   n) ihl σ)
            · exact sm_vret X hr dX9_sum_53 rfl
      unfold b_X9_sum
      refine sm_aload_n X 1 0 dX9_sum_0 rfl rfl rfl ?_
      refine sm_bind (fun r1 h1 => ?_)
      refine sm_callV0 X 4 [] [] [] (ih.2.2.2.2.1 σ  r1 h1) cw_X9_product q_995 qs_32 q_993 rfl (by decide) rfl rfl rfl rfl rfl (Nat.le_of_ble_eq_true rfl) ⟨by show _ + _ + 1 ≤ _ + (_ + 1); omega, by show _ + (_ + 64 * _) ≤ _ + 64 * (_ + 1); omega⟩ ⟨Nat.le_refl _, Nat.le_refl _⟩ dX9_sum_1 rfl ?_
      exact sm_sub [0] rfl (J4   FU r1)
    · intro σ r h
      rw [g_X9_both] at h
      refine mw_of RX9 (fiV G) [(0, .ref (gad G 81))] (by decide +kernel) rfl (Nat.le_of_ble_eq_true rfl) rfl h rfl (fun p e s m args below meth c X hr hnm => ?_)
      have J110 : ∀ (v3 : Int32) (v4 : Int32)  (σ : Sto), Sm p l e { frames := 5 + (d + 1), cells := 0, slots := 0, locals := 169 + 64 * (d + 1) } s m args below meth c G 5 (Qm below args s G 0 0 (fiV G)) 0 0 (wl G σ) 110 [(0, .ref (gad G 81)), (3, .int v3), (4, .int v4)] [] (f_X9_unit_L110 (g_X9_both d)  v3 v4 σ) := by
        intro v3 v4 σ
        rw [f_X9_unit_L110]
        refine sm_iload X 112 2 dX9_unit_110 rfl rfl ?_
        refine sm_if_ne X 115 119 dX9_unit_112 rfl (by decide) (fun h112 => ?_) (fun h112 => ?_)
        · refine sm_aload_n X 116 0 dX9_unit_115 rfl rfl rfl ?_
          refine sm_bind (fun r116 h116 => ?_)
          refine sm_callV0 X 119 [] [] [] (c_X9_wrong l G σ  r116 h116) cw_X9_wrong q_1011 qs_36 q_1009 rfl (by decide) rfl rfl rfl rfl rfl (Nat.le_of_ble_eq_true rfl) ⟨by show _ + 1 ≤ _ + (_ + 1); omega, by show _ ≤ _ + 64 * (_ + 1); omega⟩ ⟨Nat.le_refl _, Nat.le_refl _⟩ dX9_unit_116 rfl ?_
          refine sm_aload_n X 120 0 dX9_unit_119 rfl rfl rfl ?_
          refine sm_iload_n X 121 1 dX9_unit_120 rfl rfl rfl ?_
          refine sm_bind (fun r121 h121 => ?_)
          refine sm_callV0 X 124 [.int v3] [] [] (c_X9_lay l G r116 v3 r121 h121) cw_X9_lay q_1015 qs_37 q_1013 rfl (by decide) rfl rfl rfl rfl rfl (Nat.le_of_ble_eq_true rfl) ⟨by show _ + 1 ≤ _ + (_ + 1); omega, by show _ ≤ _ + 64 * (_ + 1); omega⟩ ⟨Nat.le_refl _, Nat.le_refl _⟩ dX9_unit_121 rfl ?_
          exact sm_vret X hr dX9_unit_124 rfl
        · refine sm_aload_n X 120 0 dX9_unit_119 rfl rfl rfl ?_
          refine sm_iload_n X 121 1 dX9_unit_120 rfl rfl rfl ?_
          refine sm_bind (fun r121 h121 => ?_)
          refine sm_callV0 X 124 [.int v3] [] [] (c_X9_lay l G σ v3 r121 h121) cw_X9_lay q_1015 qs_37 q_1013 rfl (by decide) rfl rfl rfl rfl rfl (Nat.le_of_ble_eq_true rfl) ⟨by show _ + 1 ≤ _ + (_ + 1); omega, by show _ ≤ _ + 64 * (_ + 1); omega⟩ ⟨Nat.le_refl _, Nat.le_refl _⟩ dX9_unit_121 rfl ?_
          exact sm_vret X hr dX9_unit_124 rfl
      have J58 : ∀   (n : Nat) (v3 : Int32) (v4 : Int32) (σ : Sto), Sm p l e { frames := 5 + (d + 1), cells := 0, slots := 0, locals := 169 + 64 * (d + 1) } s m args below meth c G 5 (Qm below args s G 0 0 (fiV G)) 0 0 (wl G σ) 58 [(0, .ref (gad G 81)), (3, .int v3), (4, .int v4)] [] (f_X9_unit_L58 (g_X9_both d)   n v3 v4 σ) := by
        intro  n
        induction n with
        | zero => intro v3 v4 σ; rw [f_X9_unit_L58]; exact sm_none
        | succ n ihl =>
          intro v3 v4 σ
          rw [f_X9_unit_L58]
          refine sm_iload X 60 2 dX9_unit_58 rfl rfl ?_
          refine sm_iconst X 61 (4) dX9_unit_60 rfl rfl ?_
          refine sm_icmp_ge X 64 110 dX9_unit_61 rfl (by decide) (fun h61 => ?_) (fun h61 => ?_)
          · exact sm_sub [0, 1, 2] rfl (J110 v3 v4  σ)
          · refine sm_aload_n X 65 0 dX9_unit_64 rfl rfl rfl ?_
            refine sm_bind (fun r65 h65 => ?_)
            refine sm_callV0 X 68 [] [] [.int r65] (c_X9_here l G σ  r65 h65) cw_X9_here q_1003 qs_34 q_1001 rfl (by decide) rfl rfl rfl rfl rfl (Nat.le_of_ble_eq_true rfl) ⟨by show _ + 1 ≤ _ + (_ + 1); omega, by show _ ≤ _ + 64 * (_ + 1); omega⟩ ⟨Nat.le_refl _, Nat.le_refl _⟩ dX9_unit_65 rfl ?_
            refine sm_i2l X 69 dX9_unit_68 rfl ?_
            refine sm_ldc2 X 72 (48) dX9_unit_69 rfl q_1025 ?_
            refine sm_ldc2 X 75 (57) dX9_unit_72 rfl q_1026 ?_
            refine sm_bind (fun r75 h75 => ?_)
            refine sm_callS0 X 78 [.long (Int32.toInt64 r65), .long (48 : Int64), .long (57 : Int64)] [] [.int (b2i r75)] (c_X9_in l G σ (Int32.toInt64 r65) (48 : Int64) (57 : Int64) r75 h75) cw_X9_in q_961 q_960 rfl rfl rfl (Nat.le_of_ble_eq_true rfl) ⟨by show _ + 1 ≤ _ + (_ + 1); omega, by show _ ≤ _ + 64 * (_ + 1); omega⟩ ⟨Nat.le_refl _, Nat.le_refl _⟩ dX9_unit_75 rfl ?_
            refine sm_ifz_eq X 81 110 dX9_unit_78 rfl (by decide) (fun h78 => ?_) (fun h78 => ?_)
            · refine sm_bipush X 83 (10) dX9_unit_81 rfl rfl ?_
              refine sm_iload_n X 84 1 dX9_unit_83 rfl rfl rfl ?_
              refine sm_imul X 85 dX9_unit_84 rfl ?_
              refine sm_aload_n X 86 0 dX9_unit_85 rfl rfl rfl ?_
              refine sm_bind (fun r86 h86 => ?_)
              refine sm_callV0 X 89 [] [.int ((10 : Int32) * v3)] [.int r86, .int ((10 : Int32) * v3)] (c_X9_here l G σ  r86 h86) cw_X9_here q_1003 qs_34 q_1001 rfl (by decide) rfl rfl rfl rfl rfl (Nat.le_of_ble_eq_true rfl) ⟨by show _ + 1 ≤ _ + (_ + 1); omega, by show _ ≤ _ + 64 * (_ + 1); omega⟩ ⟨Nat.le_refl _, Nat.le_refl _⟩ dX9_unit_86 rfl ?_
              refine sm_iadd X 90 dX9_unit_89 rfl ?_
              refine sm_bipush X 92 (48) dX9_unit_90 rfl rfl ?_
              refine sm_isub X 93 dX9_unit_92 rfl ?_
              refine sm_istore_n X 94 [(3, .int ((((10 : Int32) * v3) + r86) - (48 : Int32))), (0, .ref (gad G 81)), (4, .int v4)] dX9_unit_93 rfl rfl (by decide) rfl ?_
              refine sm_aload_n X 95 1 dX9_unit_94 rfl rfl rfl ?_
              refine sm_dup X 96 dX9_unit_95 rfl rfl ?_
              refine sm_geti X 99 rfl fd_9_6 dX9_unit_96 rfl q_888 ?_
              refine sm_iconst X 100 (1) dX9_unit_99 rfl rfl ?_
              refine sm_iadd X 101 dX9_unit_100 rfl ?_
              refine sm_puti X 104 .int rfl fd_9_6 (by decide) rfl rfl rfl dX9_unit_101 rfl q_888 (fun σ101 e101 => ?_)
              clear e101
              refine sm_iinc X 107 2 (1 : Int32) [(4, .int (v4 + (1 : Int32))), (3, .int ((((10 : Int32) * v3) + r86) - (48 : Int32))), (0, .ref (gad G 81))] dX9_unit_104 rfl rfl rfl (by decide) rfl ?_
              refine sm_goto X 58 dX9_unit_107 (by decide) ?_
              exact sm_sub [2, 1, 0] rfl (ihl ((((10 : Int32) * v3) + r86) - (48 : Int32)) (v4 + (1 : Int32)) σ101)
            · exact sm_sub [0, 1, 2] rfl (J110 v3 v4  σ)
      unfold b_X9_unit
      refine sm_aload_n X 1 0 dX9_unit_0 rfl rfl rfl ?_
      refine sm_bind (fun r1 h1 => ?_)
      refine sm_callV0 X 4 [] [] [.int r1] (c_X9_here l G σ  r1 h1) cw_X9_here q_1003 qs_34 q_1001 rfl (by decide) rfl rfl rfl rfl rfl (Nat.le_of_ble_eq_true rfl) ⟨by show _ + 1 ≤ _ + (_ + 1); omega, by show _ ≤ _ + 64 * (_ + 1); omega⟩ ⟨Nat.le_refl _, Nat.le_refl _⟩ dX9_unit_1 rfl ?_
      refine sm_istore_n X 5 [(1, .int r1), (0, .ref (gad G 81))] dX9_unit_4 rfl rfl (by decide) rfl ?_
      refine sm_iload_n X 6 0 dX9_unit_5 rfl rfl rfl ?_
      refine sm_bipush X 8 (33) dX9_unit_6 rfl rfl ?_
      refine sm_icmp_eq X 11 17 dX9_unit_8 rfl (by decide) (fun h8 => ?_) (fun h8 => ?_)
      · refine sm_aload_n X 18 1 dX9_unit_17 rfl rfl rfl ?_
        refine sm_iload_n X 19 0 dX9_unit_18 rfl rfl rfl ?_
        refine sm_bind (fun r19 h19 => ?_)
        refine sm_callV0 X 22 [.int r1] [] [] (ih.2.2.2.1 σ r1 r19 h19) cw_X9_opens q_1007 qs_35 q_1005 rfl (by decide) rfl rfl rfl rfl rfl (Nat.le_of_ble_eq_true rfl) ⟨by show _ + _ + 1 ≤ _ + (_ + 1); omega, by show _ + (_ + 64 * _) ≤ _ + 64 * (_ + 1); omega⟩ ⟨Nat.le_refl _, Nat.le_refl _⟩ dX9_unit_19 rfl ?_
        exact sm_vret X hr dX9_unit_22 rfl
      · refine sm_iload_n X 12 0 dX9_unit_11 rfl rfl rfl ?_
        refine sm_bipush X 14 (40) dX9_unit_12 rfl rfl ?_
        refine sm_icmp_ne X 17 23 dX9_unit_14 rfl (by decide) (fun h14 => ?_) (fun h14 => ?_)
        · refine sm_aload_n X 18 1 dX9_unit_17 rfl rfl rfl ?_
          refine sm_iload_n X 19 0 dX9_unit_18 rfl rfl rfl ?_
          refine sm_bind (fun r19 h19 => ?_)
          refine sm_callV0 X 22 [.int r1] [] [] (ih.2.2.2.1 σ r1 r19 h19) cw_X9_opens q_1007 qs_35 q_1005 rfl (by decide) rfl rfl rfl rfl rfl (Nat.le_of_ble_eq_true rfl) ⟨by show _ + _ + 1 ≤ _ + (_ + 1); omega, by show _ + (_ + 64 * _) ≤ _ + 64 * (_ + 1); omega⟩ ⟨Nat.le_refl _, Nat.le_refl _⟩ dX9_unit_19 rfl ?_
          exact sm_vret X hr dX9_unit_22 rfl
        · refine sm_aload_n X 24 1 dX9_unit_23 rfl rfl rfl ?_
          refine sm_iload_n X 25 0 dX9_unit_24 rfl rfl rfl ?_
          refine sm_bind (fun r25 h25 => ?_)
          refine sm_callV0 X 28 [.int r1] [] [.int r25] (c_X9_nameOf l G σ r1 r25 h25) cw_X9_nameOf q_1023 qs_39 q_1021 rfl (by decide) rfl rfl rfl rfl rfl (Nat.le_of_ble_eq_true rfl) ⟨by show _ + 1 ≤ _ + (_ + 1); omega, by show _ ≤ _ + 64 * (_ + 1); omega⟩ ⟨Nat.le_refl _, Nat.le_refl _⟩ dX9_unit_25 rfl ?_
          refine sm_istore_n X 29 [(2, .int r25), (1, .int r1), (0, .ref (gad G 81))] dX9_unit_28 rfl rfl (by decide) rfl ?_
          refine sm_iload_n X 30 0 dX9_unit_29 rfl rfl rfl ?_
          refine sm_if_lt X 33 53 dX9_unit_30 rfl (by decide) (fun h30 => ?_) (fun h30 => ?_)
          · refine sm_iconst X 54 (0) dX9_unit_53 rfl rfl ?_
            refine sm_istore_n X 55 [(3, .int 0), (2, .int r25), (1, .int r1), (0, .ref (gad G 81))] dX9_unit_54 rfl rfl (by decide) rfl ?_
            refine sm_iconst X 56 (0) dX9_unit_55 rfl rfl ?_
            refine sm_istore X 58 [(4, .int 0), (3, .int 0), (2, .int r25), (1, .int r1), (0, .ref (gad G 81))] dX9_unit_56 rfl (by decide) rfl ?_
            exact sm_sub [4, 1, 0] rfl (J58   FU (0 : Int32) (0 : Int32) σ)
          · refine sm_aload_n X 34 2 dX9_unit_33 rfl rfl rfl ?_
            refine sm_dup X 35 dX9_unit_34 rfl rfl ?_
            refine sm_geti X 38 rfl fd_9_6 dX9_unit_35 rfl q_888 ?_
            refine sm_iconst X 39 (1) dX9_unit_38 rfl rfl ?_
            refine sm_iadd X 40 dX9_unit_39 rfl ?_
            refine sm_puti X 43 .int rfl fd_9_6 (by decide) rfl rfl rfl dX9_unit_40 rfl q_888 (fun σ40 e40 => ?_)
            clear e40
            refine sm_aload_n X 44 2 dX9_unit_43 rfl rfl rfl ?_
            refine sm_sipush X 47 (10000) dX9_unit_44 rfl rfl ?_
            refine sm_iload_n X 48 0 dX9_unit_47 rfl rfl rfl ?_
            refine sm_iadd X 49 dX9_unit_48 rfl ?_
            refine sm_bind (fun r49 h49 => ?_)
            refine sm_callV0 X 52 [.int ((10000 : Int32) + r25)] [] [] (c_X9_lay l G σ40 ((10000 : Int32) + r25) r49 h49) cw_X9_lay q_1015 qs_37 q_1013 rfl (by decide) rfl rfl rfl rfl rfl (Nat.le_of_ble_eq_true rfl) ⟨by show _ + 1 ≤ _ + (_ + 1); omega, by show _ ≤ _ + 64 * (_ + 1); omega⟩ ⟨Nat.le_refl _, Nat.le_refl _⟩ dX9_unit_49 rfl ?_
            exact sm_vret X hr dX9_unit_52 rfl
set_option maxHeartbeats 4000000 in
set_option maxRecDepth 100000 in
theorem c_X9_both (l : Launch) (G : GT) (σ : Sto)  (r : Sto) (h : g_X9_both 64 0 (0 : Int32) σ = some r) : MW l G (69) (4265) 0 0 yX9_both cX9_both 1 (Option.none : Option Jvm.ClassFile.FieldType) [.ref (gad G 81)] (wl G σ) (none) (wl G r) := (cg_X9_both l G 64).1 σ r h
set_option maxHeartbeats 4000000 in
set_option maxRecDepth 100000 in
theorem c_X9_compared (l : Launch) (G : GT) (σ : Sto)  (r : Sto) (h : g_X9_both 64 1 (0 : Int32) σ = some r) : MW l G (69) (4265) 0 0 yX9_compared cX9_compared 2 (Option.none : Option Jvm.ClassFile.FieldType) [.ref (gad G 81)] (wl G σ) (none) (wl G r) := (cg_X9_both l G 64).2.1 σ r h
set_option maxHeartbeats 4000000 in
set_option maxRecDepth 100000 in
theorem c_X9_either (l : Launch) (G : GT) (σ : Sto)  (r : Sto) (h : g_X9_both 64 2 (0 : Int32) σ = some r) : MW l G (69) (4265) 0 0 yX9_either cX9_either 1 (Option.none : Option Jvm.ClassFile.FieldType) [.ref (gad G 81)] (wl G σ) (none) (wl G r) := (cg_X9_both l G 64).2.2.1 σ r h
set_option maxHeartbeats 4000000 in
set_option maxRecDepth 100000 in
theorem c_X9_opens (l : Launch) (G : GT) (σ : Sto) (a1 : Int32) (r : Sto) (h : g_X9_both 64 3 a1 σ = some r) : MW l G (69) (4265) 0 0 yX9_opens cX9_opens 2 (Option.none : Option Jvm.ClassFile.FieldType) [.ref (gad G 81), .int a1] (wl G σ) (none) (wl G r) := (cg_X9_both l G 64).2.2.2.1 σ a1 r h
set_option maxHeartbeats 4000000 in
set_option maxRecDepth 100000 in
theorem c_X9_product (l : Launch) (G : GT) (σ : Sto)  (r : Sto) (h : g_X9_both 64 4 (0 : Int32) σ = some r) : MW l G (69) (4265) 0 0 yX9_product cX9_product 2 (Option.none : Option Jvm.ClassFile.FieldType) [.ref (gad G 81)] (wl G σ) (none) (wl G r) := (cg_X9_both l G 64).2.2.2.2.1 σ r h
set_option maxHeartbeats 4000000 in
set_option maxRecDepth 100000 in
theorem c_X9_sum (l : Launch) (G : GT) (σ : Sto)  (r : Sto) (h : g_X9_both 64 5 (0 : Int32) σ = some r) : MW l G (69) (4265) 0 0 yX9_sum cX9_sum 2 (Option.none : Option Jvm.ClassFile.FieldType) [.ref (gad G 81)] (wl G σ) (none) (wl G r) := (cg_X9_both l G 64).2.2.2.2.2.1 σ r h
set_option maxHeartbeats 4000000 in
set_option maxRecDepth 100000 in
theorem c_X9_unit (l : Launch) (G : GT) (σ : Sto)  (r : Sto) (h : g_X9_both 64 6 (0 : Int32) σ = some r) : MW l G (69) (4265) 0 0 yX9_unit cX9_unit 5 (Option.none : Option Jvm.ClassFile.FieldType) [.ref (gad G 81)] (wl G σ) (none) (wl G r) := (cg_X9_both l G 64).2.2.2.2.2.2 σ r h
def by_X9_reads_0 : List Nat := [42, 27, 181, 0, 63, 42, 3, 181, 0, 53, 42, 28, 181, 0, 57, 42]
def by_X9_reads_1 : List Nat := [2, 181, 0, 60, 42, 3, 181, 0, 100, 42, 3, 181, 0, 74, 42, 29]
def by_X9_reads_2 : List Nat := [4, 160, 0, 7, 4, 167, 0, 4, 3, 181, 0, 70, 42, 182, 0, 106]
def by_X9_reads_3 : List Nat := [42, 180, 0, 60, 156, 0, 18, 42, 180, 0, 53, 42, 180, 0, 57, 162]
def by_X9_reads_z : List Nat := [0, 7, 42, 182, 0, 103, 177]
def by_X9_reads : List (List Nat) := [by_X9_reads_0, by_X9_reads_1, by_X9_reads_2, by_X9_reads_3]
set_option maxRecDepth 100000 in
theorem byo_X9_reads : cX9_reads.data.toList.map UInt8.toNat = by_X9_reads.flatten ++ by_X9_reads_z := by decide +kernel
theorem byl_X9_reads : by_X9_reads.all (fun r => r.length == 16) = true := by decide +kernel
theorem byr_X9_reads_0 {j v : Nat} (h : by_X9_reads_0[j]? = some v) : RD cX9_reads (0 + j) v := rd_16 byo_X9_reads byl_X9_reads 0 rfl h
theorem byr_X9_reads_1 {j v : Nat} (h : by_X9_reads_1[j]? = some v) : RD cX9_reads (16 + j) v := rd_16 byo_X9_reads byl_X9_reads 1 rfl h
theorem byr_X9_reads_2 {j v : Nat} (h : by_X9_reads_2[j]? = some v) : RD cX9_reads (32 + j) v := rd_16 byo_X9_reads byl_X9_reads 2 rfl h
theorem byr_X9_reads_3 {j v : Nat} (h : by_X9_reads_3[j]? = some v) : RD cX9_reads (48 + j) v := rd_16 byo_X9_reads byl_X9_reads 3 rfl h
theorem byr_X9_reads_4 {j v : Nat} (h : by_X9_reads_z[j]? = some v) : RD cX9_reads (64 + j) v := rd_z byo_X9_reads byl_X9_reads 4 rfl h
theorem dX9_reads_0 : decode cX9_reads 0 = .ok (.aload_n 0, 1) := dk_42 (byr_X9_reads_0 (j := 0) rfl)
theorem dX9_reads_1 : decode cX9_reads 1 = .ok (.iload_n 1, 1) := dk_27 (byr_X9_reads_0 (j := 1) rfl)
theorem dX9_reads_2 : decode cX9_reads 2 = .ok (.putfield 63, 3) := dk_181 (byr_X9_reads_0 (j := 2) rfl) (byr_X9_reads_0 (j := 3) rfl) (byr_X9_reads_0 (j := 4) rfl) (by decide)
theorem dX9_reads_5 : decode cX9_reads 5 = .ok (.aload_n 0, 1) := dk_42 (byr_X9_reads_0 (j := 5) rfl)
theorem dX9_reads_6 : decode cX9_reads 6 = .ok (.iconst 0, 1) := dk_3 (byr_X9_reads_0 (j := 6) rfl)
theorem dX9_reads_7 : decode cX9_reads 7 = .ok (.putfield 53, 3) := dk_181 (byr_X9_reads_0 (j := 7) rfl) (byr_X9_reads_0 (j := 8) rfl) (byr_X9_reads_0 (j := 9) rfl) (by decide)
theorem dX9_reads_10 : decode cX9_reads 10 = .ok (.aload_n 0, 1) := dk_42 (byr_X9_reads_0 (j := 10) rfl)
theorem dX9_reads_11 : decode cX9_reads 11 = .ok (.iload_n 2, 1) := dk_28 (byr_X9_reads_0 (j := 11) rfl)
theorem dX9_reads_12 : decode cX9_reads 12 = .ok (.putfield 57, 3) := dk_181 (byr_X9_reads_0 (j := 12) rfl) (byr_X9_reads_0 (j := 13) rfl) (byr_X9_reads_0 (j := 14) rfl) (by decide)
theorem dX9_reads_15 : decode cX9_reads 15 = .ok (.aload_n 0, 1) := dk_42 (byr_X9_reads_0 (j := 15) rfl)
theorem dX9_reads_16 : decode cX9_reads 16 = .ok (.iconst (-1), 1) := dk_2 (byr_X9_reads_1 (j := 0) rfl)
theorem dX9_reads_17 : decode cX9_reads 17 = .ok (.putfield 60, 3) := dk_181 (byr_X9_reads_1 (j := 1) rfl) (byr_X9_reads_1 (j := 2) rfl) (byr_X9_reads_1 (j := 3) rfl) (by decide)
theorem dX9_reads_20 : decode cX9_reads 20 = .ok (.aload_n 0, 1) := dk_42 (byr_X9_reads_1 (j := 4) rfl)
theorem dX9_reads_21 : decode cX9_reads 21 = .ok (.iconst 0, 1) := dk_3 (byr_X9_reads_1 (j := 5) rfl)
theorem dX9_reads_22 : decode cX9_reads 22 = .ok (.putfield 100, 3) := dk_181 (byr_X9_reads_1 (j := 6) rfl) (byr_X9_reads_1 (j := 7) rfl) (byr_X9_reads_1 (j := 8) rfl) (by decide)
theorem dX9_reads_25 : decode cX9_reads 25 = .ok (.aload_n 0, 1) := dk_42 (byr_X9_reads_1 (j := 9) rfl)
theorem dX9_reads_26 : decode cX9_reads 26 = .ok (.iconst 0, 1) := dk_3 (byr_X9_reads_1 (j := 10) rfl)
theorem dX9_reads_27 : decode cX9_reads 27 = .ok (.putfield 74, 3) := dk_181 (byr_X9_reads_1 (j := 11) rfl) (byr_X9_reads_1 (j := 12) rfl) (byr_X9_reads_1 (j := 13) rfl) (by decide)
theorem dX9_reads_30 : decode cX9_reads 30 = .ok (.aload_n 0, 1) := dk_42 (byr_X9_reads_1 (j := 14) rfl)
theorem dX9_reads_31 : decode cX9_reads 31 = .ok (.iload_n 3, 1) := dk_29 (byr_X9_reads_1 (j := 15) rfl)
theorem dX9_reads_32 : decode cX9_reads 32 = .ok (.iconst 1, 1) := dk_4 (byr_X9_reads_2 (j := 0) rfl)
theorem dX9_reads_33 : decode cX9_reads 33 = .ok (.if_icmp .ne 7, 3) := dk_160 (byr_X9_reads_2 (j := 1) rfl) (byr_X9_reads_2 (j := 2) rfl) (byr_X9_reads_2 (j := 3) rfl) (by decide)
theorem dX9_reads_36 : decode cX9_reads 36 = .ok (.iconst 1, 1) := dk_4 (byr_X9_reads_2 (j := 4) rfl)
theorem dX9_reads_37 : decode cX9_reads 37 = .ok (.goto 4, 3) := dk_167 (byr_X9_reads_2 (j := 5) rfl) (byr_X9_reads_2 (j := 6) rfl) (byr_X9_reads_2 (j := 7) rfl) (by decide)
theorem dX9_reads_40 : decode cX9_reads 40 = .ok (.iconst 0, 1) := dk_3 (byr_X9_reads_2 (j := 8) rfl)
theorem dX9_reads_41 : decode cX9_reads 41 = .ok (.putfield 70, 3) := dk_181 (byr_X9_reads_2 (j := 9) rfl) (byr_X9_reads_2 (j := 10) rfl) (byr_X9_reads_2 (j := 11) rfl) (by decide)
theorem dX9_reads_44 : decode cX9_reads 44 = .ok (.aload_n 0, 1) := dk_42 (byr_X9_reads_2 (j := 12) rfl)
theorem dX9_reads_45 : decode cX9_reads 45 = .ok (.invokevirtual 106, 3) := dk_182 (byr_X9_reads_2 (j := 13) rfl) (byr_X9_reads_2 (j := 14) rfl) (byr_X9_reads_2 (j := 15) rfl) (by decide)
theorem dX9_reads_48 : decode cX9_reads 48 = .ok (.aload_n 0, 1) := dk_42 (byr_X9_reads_3 (j := 0) rfl)
theorem dX9_reads_49 : decode cX9_reads 49 = .ok (.getfield 60, 3) := dk_180 (byr_X9_reads_3 (j := 1) rfl) (byr_X9_reads_3 (j := 2) rfl) (byr_X9_reads_3 (j := 3) rfl) (by decide)
theorem dX9_reads_52 : decode cX9_reads 52 = .ok (.ifCond .ge 18, 3) := dk_156 (byr_X9_reads_3 (j := 4) rfl) (byr_X9_reads_3 (j := 5) rfl) (byr_X9_reads_3 (j := 6) rfl) (by decide)
theorem dX9_reads_55 : decode cX9_reads 55 = .ok (.aload_n 0, 1) := dk_42 (byr_X9_reads_3 (j := 7) rfl)
theorem dX9_reads_56 : decode cX9_reads 56 = .ok (.getfield 53, 3) := dk_180 (byr_X9_reads_3 (j := 8) rfl) (byr_X9_reads_3 (j := 9) rfl) (byr_X9_reads_3 (j := 10) rfl) (by decide)
theorem dX9_reads_59 : decode cX9_reads 59 = .ok (.aload_n 0, 1) := dk_42 (byr_X9_reads_3 (j := 11) rfl)
theorem dX9_reads_60 : decode cX9_reads 60 = .ok (.getfield 57, 3) := dk_180 (byr_X9_reads_3 (j := 12) rfl) (byr_X9_reads_3 (j := 13) rfl) (byr_X9_reads_3 (j := 14) rfl) (by decide)
theorem dX9_reads_63 : decode cX9_reads 63 = .ok (.if_icmp .ge 7, 3) := dk_162 (byr_X9_reads_3 (j := 15) rfl) (byr_X9_reads_4 (j := 0) rfl) (byr_X9_reads_4 (j := 1) rfl) (by decide)
theorem dX9_reads_66 : decode cX9_reads 66 = .ok (.aload_n 0, 1) := dk_42 (byr_X9_reads_4 (j := 2) rfl)
theorem dX9_reads_67 : decode cX9_reads 67 = .ok (.invokevirtual 103, 3) := dk_182 (byr_X9_reads_4 (j := 3) rfl) (byr_X9_reads_4 (j := 4) rfl) (byr_X9_reads_4 (j := 5) rfl) (by decide)
theorem dX9_reads_70 : decode cX9_reads 70 = .ok (.return_, 1) := dk_177 (byr_X9_reads_4 (j := 6) rfl)
set_option maxHeartbeats 4000000 in
set_option maxRecDepth 100000 in
theorem c_X9_reads (l : Launch) (G : GT) (σ : Sto) (a1 : Int32) (a2 : Int32) (a3 : Int32) (r : Sto) (h : f_X9_reads σ a1 a2 a3 = some r) : MW l G (70) (4285) 0 0 yX9_reads cX9_reads 4 (Option.none : Option Jvm.ClassFile.FieldType) [.ref (gad G 81), .int a1, .int a2, .int a3] (wl G σ) (none) (wl G r) := by
  refine mw_of RX9 (fiV G) [(0, .ref (gad G 81)), (1, .int a1), (2, .int a2), (3, .int a3)] (by decide +kernel) rfl (Nat.le_of_ble_eq_true rfl) rfl h rfl (fun p e s m args below meth c X hr hnm => ?_)
  have J41 : ∀ (vs0 : Bool)  (σ : Sto), Sm p l e { frames := 70, cells := 0, slots := 0, locals := 4285 } s m args below meth c G 4 (Qm below args s G 0 0 (fiV G)) 0 0 (wl G σ) 41 [(0, .ref (gad G 81))] [.int (b2i vs0), .ref (gad G 81)] (f_X9_reads_L41  vs0 σ) := by
    intro vs0 σ
    rw [f_X9_reads_L41]
    refine sm_puti X 44 .boolean rfl fd_9_10 (by decide) rfl (by cases vs0 <;> rfl) (by cases vs0 <;> rfl) dX9_reads_41 rfl q_892 (fun σ41 e41 => ?_)
    clear e41
    refine sm_aload_n X 45 0 dX9_reads_44 rfl rfl rfl ?_
    refine sm_bind (fun r45 h45 => ?_)
    refine sm_callV0 X 48 [] [] [] (c_X9_either l G σ41  r45 h45) cw_X9_either q_979 qs_28 q_977 rfl (by decide) rfl rfl rfl rfl rfl (Nat.le_of_ble_eq_true rfl) ⟨Nat.le_of_ble_eq_true rfl, Nat.le_of_ble_eq_true rfl⟩ ⟨Nat.le_refl _, Nat.le_refl _⟩ dX9_reads_45 rfl ?_
    refine sm_aload_n X 49 0 dX9_reads_48 rfl rfl rfl ?_
    refine sm_geti X 52 rfl fd_9_8 dX9_reads_49 rfl q_890 ?_
    refine sm_if_ge X 55 70 dX9_reads_52 rfl (by decide) (fun h52 => ?_) (fun h52 => ?_)
    · exact sm_vret X hr dX9_reads_70 rfl
    · refine sm_aload_n X 56 0 dX9_reads_55 rfl rfl rfl ?_
      refine sm_geti X 59 rfl fd_9_6 dX9_reads_56 rfl q_888 ?_
      refine sm_aload_n X 60 0 dX9_reads_59 rfl rfl rfl ?_
      refine sm_geti X 63 rfl fd_9_7 dX9_reads_60 rfl q_889 ?_
      refine sm_icmp_ge X 66 70 dX9_reads_63 rfl (by decide) (fun h63 => ?_) (fun h63 => ?_)
      · exact sm_vret X hr dX9_reads_70 rfl
      · refine sm_aload_n X 67 0 dX9_reads_66 rfl rfl rfl ?_
        refine sm_bind (fun r67 h67 => ?_)
        refine sm_callV0 X 70 [] [] [] (c_X9_wrong l G r45  r67 h67) cw_X9_wrong q_1011 qs_36 q_1009 rfl (by decide) rfl rfl rfl rfl rfl (Nat.le_of_ble_eq_true rfl) ⟨Nat.le_of_ble_eq_true rfl, Nat.le_of_ble_eq_true rfl⟩ ⟨Nat.le_refl _, Nat.le_refl _⟩ dX9_reads_67 rfl ?_
        exact sm_vret X hr dX9_reads_70 rfl
  unfold f_X9_reads
  refine sm_aload_n X 1 0 dX9_reads_0 rfl rfl rfl ?_
  refine sm_iload_n X 2 1 dX9_reads_1 rfl rfl rfl ?_
  refine sm_puti X 5 .int rfl fd_9_5 (by decide) rfl rfl rfl dX9_reads_2 rfl q_887 (fun σ2 e2 => ?_)
  clear e2
  refine sm_aload_n X 6 0 dX9_reads_5 rfl rfl rfl ?_
  refine sm_iconst X 7 (0) dX9_reads_6 rfl rfl ?_
  refine sm_puti X 10 .int rfl fd_9_6 (by decide) rfl rfl rfl dX9_reads_7 rfl q_888 (fun σ7 e7 => ?_)
  clear e7
  refine sm_aload_n X 11 0 dX9_reads_10 rfl rfl rfl ?_
  refine sm_iload_n X 12 2 dX9_reads_11 rfl rfl rfl ?_
  refine sm_puti X 15 .int rfl fd_9_7 (by decide) rfl rfl rfl dX9_reads_12 rfl q_889 (fun σ12 e12 => ?_)
  clear e12
  refine sm_aload_n X 16 0 dX9_reads_15 rfl rfl rfl ?_
  refine sm_iconst X 17 (-1) dX9_reads_16 rfl rfl ?_
  refine sm_puti X 20 .int rfl fd_9_8 (by decide) rfl rfl rfl dX9_reads_17 rfl q_890 (fun σ17 e17 => ?_)
  clear e17
  refine sm_aload_n X 21 0 dX9_reads_20 rfl rfl rfl ?_
  refine sm_iconst X 22 (0) dX9_reads_21 rfl rfl ?_
  refine sm_puti X 25 .int rfl fd_9_9 (by decide) rfl rfl rfl dX9_reads_22 rfl q_891 (fun σ22 e22 => ?_)
  clear e22
  refine sm_aload_n X 26 0 dX9_reads_25 rfl rfl rfl ?_
  refine sm_iconst X 27 (0) dX9_reads_26 rfl rfl ?_
  refine sm_puti X 30 .int rfl fd_9_13 (by decide) rfl rfl rfl dX9_reads_27 rfl q_895 (fun σ27 e27 => ?_)
  clear e27
  refine sm_aload_n X 31 0 dX9_reads_30 rfl rfl rfl ?_
  refine sm_iload_n X 32 3 dX9_reads_31 rfl rfl rfl ?_
  refine sm_iconst X 33 (1) dX9_reads_32 rfl rfl ?_
  refine sm_icmp_ne X 36 40 dX9_reads_33 rfl (by decide) (fun h33 => ?_) (fun h33 => ?_)
  · refine sm_iconst X 37 (1) dX9_reads_36 rfl rfl ?_
    refine sm_goto X 41 dX9_reads_37 (by decide) ?_
    exact sm_sub [0] rfl (J41 true  σ27)
  · refine sm_iconst X 41 (0) dX9_reads_40 rfl rfl ?_
    exact sm_sub [0] rfl (J41 false  σ27)
def by_X9_done_0 : List Nat := [26, 171, 0, 0, 0, 0, 0, 168, 0, 0, 0, 9, 0, 0, 0, 38]
def by_X9_done_1 : List Nat := [0, 0, 0, 97, 0, 0, 0, 42, 0, 0, 0, 152, 0, 0, 0, 43]
def by_X9_done_2 : List Nat := [0, 0, 0, 144, 0, 0, 0, 45, 0, 0, 0, 148, 0, 0, 0, 47]
def by_X9_done_3 : List Nat := [0, 0, 0, 156, 0, 0, 0, 60, 0, 0, 0, 111, 0, 0, 0, 61]
def by_X9_done_4 : List Nat := [0, 0, 0, 122, 0, 0, 0, 62, 0, 0, 0, 133, 0, 0, 0, 124]
def by_X9_done_5 : List Nat := [0, 0, 0, 83, 27, 154, 0, 7, 28, 153, 0, 7, 4, 167, 0, 4]
def by_X9_done_6 : List Nat := [3, 172, 27, 153, 0, 11, 28, 153, 0, 7, 4, 167, 0, 4, 3, 172]
def by_X9_done_7 : List Nat := [27, 28, 162, 0, 7, 4, 167, 0, 4, 3, 172, 27, 28, 160, 0, 7]
def by_X9_done_8 : List Nat := [4, 167, 0, 4, 3, 172, 27, 28, 164, 0, 7, 4, 167, 0, 4, 3]
def by_X9_done_9 : List Nat := [172, 27, 28, 96, 172, 27, 28, 100, 172, 27, 28, 104, 172, 28, 154, 0]
def by_X9_done_10 : List Nat := [7, 3, 167, 0, 6, 27, 28, 108, 172, 28, 154, 0, 7, 3, 167, 0]
def by_X9_done_z : List Nat := [6, 27, 28, 112, 172]
def by_X9_done : List (List Nat) := [by_X9_done_0, by_X9_done_1, by_X9_done_2, by_X9_done_3, by_X9_done_4, by_X9_done_5, by_X9_done_6, by_X9_done_7, by_X9_done_8, by_X9_done_9, by_X9_done_10]
set_option maxRecDepth 100000 in
theorem byo_X9_done : cX9_done.data.toList.map UInt8.toNat = by_X9_done.flatten ++ by_X9_done_z := by decide +kernel
theorem byl_X9_done : by_X9_done.all (fun r => r.length == 16) = true := by decide +kernel
theorem byr_X9_done_0 {j v : Nat} (h : by_X9_done_0[j]? = some v) : RD cX9_done (0 + j) v := rd_16 byo_X9_done byl_X9_done 0 rfl h
theorem byr_X9_done_1 {j v : Nat} (h : by_X9_done_1[j]? = some v) : RD cX9_done (16 + j) v := rd_16 byo_X9_done byl_X9_done 1 rfl h
theorem byr_X9_done_2 {j v : Nat} (h : by_X9_done_2[j]? = some v) : RD cX9_done (32 + j) v := rd_16 byo_X9_done byl_X9_done 2 rfl h
theorem byr_X9_done_3 {j v : Nat} (h : by_X9_done_3[j]? = some v) : RD cX9_done (48 + j) v := rd_16 byo_X9_done byl_X9_done 3 rfl h
theorem byr_X9_done_4 {j v : Nat} (h : by_X9_done_4[j]? = some v) : RD cX9_done (64 + j) v := rd_16 byo_X9_done byl_X9_done 4 rfl h
theorem byr_X9_done_5 {j v : Nat} (h : by_X9_done_5[j]? = some v) : RD cX9_done (80 + j) v := rd_16 byo_X9_done byl_X9_done 5 rfl h
theorem byr_X9_done_6 {j v : Nat} (h : by_X9_done_6[j]? = some v) : RD cX9_done (96 + j) v := rd_16 byo_X9_done byl_X9_done 6 rfl h
theorem byr_X9_done_7 {j v : Nat} (h : by_X9_done_7[j]? = some v) : RD cX9_done (112 + j) v := rd_16 byo_X9_done byl_X9_done 7 rfl h
theorem byr_X9_done_8 {j v : Nat} (h : by_X9_done_8[j]? = some v) : RD cX9_done (128 + j) v := rd_16 byo_X9_done byl_X9_done 8 rfl h
theorem byr_X9_done_9 {j v : Nat} (h : by_X9_done_9[j]? = some v) : RD cX9_done (144 + j) v := rd_16 byo_X9_done byl_X9_done 9 rfl h
theorem byr_X9_done_10 {j v : Nat} (h : by_X9_done_10[j]? = some v) : RD cX9_done (160 + j) v := rd_16 byo_X9_done byl_X9_done 10 rfl h
theorem byr_X9_done_11 {j v : Nat} (h : by_X9_done_z[j]? = some v) : RD cX9_done (176 + j) v := rd_z byo_X9_done byl_X9_done 11 rfl h
theorem dX9_done_0 : decode cX9_done 0 = .ok (.iload_n 0, 1) := dk_26 (byr_X9_done_0 (j := 0) rfl)
set_option maxRecDepth 20000 in
theorem dX9_done_1 : decode cX9_done 1 = .ok (.lookupswitch 168 #[(38, 97), (42, 152), (43, 144), (45, 148), (47, 156), (60, 111), (61, 122), (62, 133), (124, 83)], 83) := by decide +kernel
theorem dX9_done_84 : decode cX9_done 84 = .ok (.iload_n 1, 1) := dk_27 (byr_X9_done_5 (j := 4) rfl)
theorem dX9_done_85 : decode cX9_done 85 = .ok (.ifCond .ne 7, 3) := dk_154 (byr_X9_done_5 (j := 5) rfl) (byr_X9_done_5 (j := 6) rfl) (byr_X9_done_5 (j := 7) rfl) (by decide)
theorem dX9_done_88 : decode cX9_done 88 = .ok (.iload_n 2, 1) := dk_28 (byr_X9_done_5 (j := 8) rfl)
theorem dX9_done_89 : decode cX9_done 89 = .ok (.ifCond .eq 7, 3) := dk_153 (byr_X9_done_5 (j := 9) rfl) (byr_X9_done_5 (j := 10) rfl) (byr_X9_done_5 (j := 11) rfl) (by decide)
theorem dX9_done_92 : decode cX9_done 92 = .ok (.iconst 1, 1) := dk_4 (byr_X9_done_5 (j := 12) rfl)
theorem dX9_done_93 : decode cX9_done 93 = .ok (.goto 4, 3) := dk_167 (byr_X9_done_5 (j := 13) rfl) (byr_X9_done_5 (j := 14) rfl) (byr_X9_done_5 (j := 15) rfl) (by decide)
theorem dX9_done_96 : decode cX9_done 96 = .ok (.iconst 0, 1) := dk_3 (byr_X9_done_6 (j := 0) rfl)
theorem dX9_done_97 : decode cX9_done 97 = .ok (.ireturn, 1) := dk_172 (byr_X9_done_6 (j := 1) rfl)
theorem dX9_done_98 : decode cX9_done 98 = .ok (.iload_n 1, 1) := dk_27 (byr_X9_done_6 (j := 2) rfl)
theorem dX9_done_99 : decode cX9_done 99 = .ok (.ifCond .eq 11, 3) := dk_153 (byr_X9_done_6 (j := 3) rfl) (byr_X9_done_6 (j := 4) rfl) (byr_X9_done_6 (j := 5) rfl) (by decide)
theorem dX9_done_102 : decode cX9_done 102 = .ok (.iload_n 2, 1) := dk_28 (byr_X9_done_6 (j := 6) rfl)
theorem dX9_done_103 : decode cX9_done 103 = .ok (.ifCond .eq 7, 3) := dk_153 (byr_X9_done_6 (j := 7) rfl) (byr_X9_done_6 (j := 8) rfl) (byr_X9_done_6 (j := 9) rfl) (by decide)
theorem dX9_done_106 : decode cX9_done 106 = .ok (.iconst 1, 1) := dk_4 (byr_X9_done_6 (j := 10) rfl)
theorem dX9_done_107 : decode cX9_done 107 = .ok (.goto 4, 3) := dk_167 (byr_X9_done_6 (j := 11) rfl) (byr_X9_done_6 (j := 12) rfl) (byr_X9_done_6 (j := 13) rfl) (by decide)
theorem dX9_done_110 : decode cX9_done 110 = .ok (.iconst 0, 1) := dk_3 (byr_X9_done_6 (j := 14) rfl)
theorem dX9_done_111 : decode cX9_done 111 = .ok (.ireturn, 1) := dk_172 (byr_X9_done_6 (j := 15) rfl)
theorem dX9_done_112 : decode cX9_done 112 = .ok (.iload_n 1, 1) := dk_27 (byr_X9_done_7 (j := 0) rfl)
theorem dX9_done_113 : decode cX9_done 113 = .ok (.iload_n 2, 1) := dk_28 (byr_X9_done_7 (j := 1) rfl)
theorem dX9_done_114 : decode cX9_done 114 = .ok (.if_icmp .ge 7, 3) := dk_162 (byr_X9_done_7 (j := 2) rfl) (byr_X9_done_7 (j := 3) rfl) (byr_X9_done_7 (j := 4) rfl) (by decide)
theorem dX9_done_117 : decode cX9_done 117 = .ok (.iconst 1, 1) := dk_4 (byr_X9_done_7 (j := 5) rfl)
theorem dX9_done_118 : decode cX9_done 118 = .ok (.goto 4, 3) := dk_167 (byr_X9_done_7 (j := 6) rfl) (byr_X9_done_7 (j := 7) rfl) (byr_X9_done_7 (j := 8) rfl) (by decide)
theorem dX9_done_121 : decode cX9_done 121 = .ok (.iconst 0, 1) := dk_3 (byr_X9_done_7 (j := 9) rfl)
theorem dX9_done_122 : decode cX9_done 122 = .ok (.ireturn, 1) := dk_172 (byr_X9_done_7 (j := 10) rfl)
theorem dX9_done_123 : decode cX9_done 123 = .ok (.iload_n 1, 1) := dk_27 (byr_X9_done_7 (j := 11) rfl)
theorem dX9_done_124 : decode cX9_done 124 = .ok (.iload_n 2, 1) := dk_28 (byr_X9_done_7 (j := 12) rfl)
theorem dX9_done_125 : decode cX9_done 125 = .ok (.if_icmp .ne 7, 3) := dk_160 (byr_X9_done_7 (j := 13) rfl) (byr_X9_done_7 (j := 14) rfl) (byr_X9_done_7 (j := 15) rfl) (by decide)
theorem dX9_done_128 : decode cX9_done 128 = .ok (.iconst 1, 1) := dk_4 (byr_X9_done_8 (j := 0) rfl)
theorem dX9_done_129 : decode cX9_done 129 = .ok (.goto 4, 3) := dk_167 (byr_X9_done_8 (j := 1) rfl) (byr_X9_done_8 (j := 2) rfl) (byr_X9_done_8 (j := 3) rfl) (by decide)
theorem dX9_done_132 : decode cX9_done 132 = .ok (.iconst 0, 1) := dk_3 (byr_X9_done_8 (j := 4) rfl)
theorem dX9_done_133 : decode cX9_done 133 = .ok (.ireturn, 1) := dk_172 (byr_X9_done_8 (j := 5) rfl)
theorem dX9_done_134 : decode cX9_done 134 = .ok (.iload_n 1, 1) := dk_27 (byr_X9_done_8 (j := 6) rfl)
theorem dX9_done_135 : decode cX9_done 135 = .ok (.iload_n 2, 1) := dk_28 (byr_X9_done_8 (j := 7) rfl)
theorem dX9_done_136 : decode cX9_done 136 = .ok (.if_icmp .le 7, 3) := dk_164 (byr_X9_done_8 (j := 8) rfl) (byr_X9_done_8 (j := 9) rfl) (byr_X9_done_8 (j := 10) rfl) (by decide)
theorem dX9_done_139 : decode cX9_done 139 = .ok (.iconst 1, 1) := dk_4 (byr_X9_done_8 (j := 11) rfl)
theorem dX9_done_140 : decode cX9_done 140 = .ok (.goto 4, 3) := dk_167 (byr_X9_done_8 (j := 12) rfl) (byr_X9_done_8 (j := 13) rfl) (byr_X9_done_8 (j := 14) rfl) (by decide)
theorem dX9_done_143 : decode cX9_done 143 = .ok (.iconst 0, 1) := dk_3 (byr_X9_done_8 (j := 15) rfl)
theorem dX9_done_144 : decode cX9_done 144 = .ok (.ireturn, 1) := dk_172 (byr_X9_done_9 (j := 0) rfl)
theorem dX9_done_145 : decode cX9_done 145 = .ok (.iload_n 1, 1) := dk_27 (byr_X9_done_9 (j := 1) rfl)
theorem dX9_done_146 : decode cX9_done 146 = .ok (.iload_n 2, 1) := dk_28 (byr_X9_done_9 (j := 2) rfl)
theorem dX9_done_147 : decode cX9_done 147 = .ok (.iadd, 1) := dk_96 (byr_X9_done_9 (j := 3) rfl)
theorem dX9_done_148 : decode cX9_done 148 = .ok (.ireturn, 1) := dk_172 (byr_X9_done_9 (j := 4) rfl)
theorem dX9_done_149 : decode cX9_done 149 = .ok (.iload_n 1, 1) := dk_27 (byr_X9_done_9 (j := 5) rfl)
theorem dX9_done_150 : decode cX9_done 150 = .ok (.iload_n 2, 1) := dk_28 (byr_X9_done_9 (j := 6) rfl)
theorem dX9_done_151 : decode cX9_done 151 = .ok (.isub, 1) := dk_100 (byr_X9_done_9 (j := 7) rfl)
theorem dX9_done_152 : decode cX9_done 152 = .ok (.ireturn, 1) := dk_172 (byr_X9_done_9 (j := 8) rfl)
theorem dX9_done_153 : decode cX9_done 153 = .ok (.iload_n 1, 1) := dk_27 (byr_X9_done_9 (j := 9) rfl)
theorem dX9_done_154 : decode cX9_done 154 = .ok (.iload_n 2, 1) := dk_28 (byr_X9_done_9 (j := 10) rfl)
theorem dX9_done_155 : decode cX9_done 155 = .ok (.imul, 1) := dk_104 (byr_X9_done_9 (j := 11) rfl)
theorem dX9_done_156 : decode cX9_done 156 = .ok (.ireturn, 1) := dk_172 (byr_X9_done_9 (j := 12) rfl)
theorem dX9_done_157 : decode cX9_done 157 = .ok (.iload_n 2, 1) := dk_28 (byr_X9_done_9 (j := 13) rfl)
theorem dX9_done_158 : decode cX9_done 158 = .ok (.ifCond .ne 7, 3) := dk_154 (byr_X9_done_9 (j := 14) rfl) (byr_X9_done_9 (j := 15) rfl) (byr_X9_done_10 (j := 0) rfl) (by decide)
theorem dX9_done_161 : decode cX9_done 161 = .ok (.iconst 0, 1) := dk_3 (byr_X9_done_10 (j := 1) rfl)
theorem dX9_done_162 : decode cX9_done 162 = .ok (.goto 6, 3) := dk_167 (byr_X9_done_10 (j := 2) rfl) (byr_X9_done_10 (j := 3) rfl) (byr_X9_done_10 (j := 4) rfl) (by decide)
theorem dX9_done_165 : decode cX9_done 165 = .ok (.iload_n 1, 1) := dk_27 (byr_X9_done_10 (j := 5) rfl)
theorem dX9_done_166 : decode cX9_done 166 = .ok (.iload_n 2, 1) := dk_28 (byr_X9_done_10 (j := 6) rfl)
theorem dX9_done_167 : decode cX9_done 167 = .ok (.idiv, 1) := dk_108 (byr_X9_done_10 (j := 7) rfl)
theorem dX9_done_168 : decode cX9_done 168 = .ok (.ireturn, 1) := dk_172 (byr_X9_done_10 (j := 8) rfl)
theorem dX9_done_169 : decode cX9_done 169 = .ok (.iload_n 2, 1) := dk_28 (byr_X9_done_10 (j := 9) rfl)
theorem dX9_done_170 : decode cX9_done 170 = .ok (.ifCond .ne 7, 3) := dk_154 (byr_X9_done_10 (j := 10) rfl) (byr_X9_done_10 (j := 11) rfl) (byr_X9_done_10 (j := 12) rfl) (by decide)
theorem dX9_done_173 : decode cX9_done 173 = .ok (.iconst 0, 1) := dk_3 (byr_X9_done_10 (j := 13) rfl)
theorem dX9_done_174 : decode cX9_done 174 = .ok (.goto 6, 3) := dk_167 (byr_X9_done_10 (j := 14) rfl) (byr_X9_done_10 (j := 15) rfl) (byr_X9_done_11 (j := 0) rfl) (by decide)
theorem dX9_done_177 : decode cX9_done 177 = .ok (.iload_n 1, 1) := dk_27 (byr_X9_done_11 (j := 1) rfl)
theorem dX9_done_178 : decode cX9_done 178 = .ok (.iload_n 2, 1) := dk_28 (byr_X9_done_11 (j := 2) rfl)
theorem dX9_done_179 : decode cX9_done 179 = .ok (.irem, 1) := dk_112 (byr_X9_done_11 (j := 3) rfl)
theorem dX9_done_180 : decode cX9_done 180 = .ok (.ireturn, 1) := dk_172 (byr_X9_done_11 (j := 4) rfl)
set_option maxHeartbeats 4000000 in
set_option maxRecDepth 100000 in
theorem c_X9_done (l : Launch) (G : GT) (σ : Sto) (a0 : Int32) (a1 : Int32) (a2 : Int32) (r : Int32) (h : f_X9_done a0 a1 a2 = some r) : MW l G (2) (64) 0 0 yX9_done cX9_done 3 (Option.some Jvm.ClassFile.FieldType.int) [.int a0, .int a1, .int a2] (wl G σ) (some (.int r)) (wl G σ) := by
  refine mw_of RX9 (fpI G σ) [(0, .int a0), (1, .int a1), (2, .int a2)] (by decide +kernel) rfl (Nat.le_of_ble_eq_true rfl) rfl h rfl (fun p e s m args below meth c X hr hnm => ?_)
  have J92 : ∀ (_ : Unit), Sm p l e { frames := 2, cells := 0, slots := 0, locals := 64 } s m args below meth c G 3 (Qm below args s G 0 0 (fpI G σ)) 0 0 (wl G σ) 92 [] [] (f_X9_done_L92  ) := by
    intro _
    rw [f_X9_done_L92]
    refine sm_iconst X 93 (1) dX9_done_92 rfl rfl ?_
    refine sm_goto X 97 dX9_done_93 (by decide) ?_
    exact sm_iret X hr dX9_done_97 rfl
  unfold f_X9_done
  refine sm_iload_n X 1 0 dX9_done_0 rfl rfl rfl ?_
  refine sm_if (fun h1_0 => ?_) (fun h1_0 => ?_)
  · refine sm_lookup X 98 dX9_done_1 (by decide) (by first | (rw [h1_0]; done) | (rw [h1_0]; rfl)) (by decide) ?_
    refine sm_iload_n X 99 1 dX9_done_98 rfl rfl rfl ?_
    refine sm_if_eq X 102 110 dX9_done_99 rfl (by decide) (fun h99 => ?_) (fun h99 => ?_)
    · refine sm_iconst X 111 (0) dX9_done_110 rfl rfl ?_
      exact sm_iret X hr dX9_done_111 rfl
    · refine sm_iload_n X 103 2 dX9_done_102 rfl rfl rfl ?_
      refine sm_if_eq X 106 110 dX9_done_103 rfl (by decide) (fun h103 => ?_) (fun h103 => ?_)
      · refine sm_iconst X 111 (0) dX9_done_110 rfl rfl ?_
        exact sm_iret X hr dX9_done_111 rfl
      · refine sm_iconst X 107 (1) dX9_done_106 rfl rfl ?_
        refine sm_goto X 111 dX9_done_107 (by decide) ?_
        exact sm_iret X hr dX9_done_111 rfl
  refine sm_if (fun h1_1 => ?_) (fun h1_1 => ?_)
  · refine sm_lookup X 153 dX9_done_1 (by decide) (by first | (rw [h1_1]; done) | (rw [h1_1]; rfl)) (by decide) ?_
    refine sm_iload_n X 154 1 dX9_done_153 rfl rfl rfl ?_
    refine sm_iload_n X 155 2 dX9_done_154 rfl rfl rfl ?_
    refine sm_imul X 156 dX9_done_155 rfl ?_
    exact sm_iret X hr dX9_done_156 rfl
  refine sm_if (fun h1_2 => ?_) (fun h1_2 => ?_)
  · refine sm_lookup X 145 dX9_done_1 (by decide) (by first | (rw [h1_2]; done) | (rw [h1_2]; rfl)) (by decide) ?_
    refine sm_iload_n X 146 1 dX9_done_145 rfl rfl rfl ?_
    refine sm_iload_n X 147 2 dX9_done_146 rfl rfl rfl ?_
    refine sm_iadd X 148 dX9_done_147 rfl ?_
    exact sm_iret X hr dX9_done_148 rfl
  refine sm_if (fun h1_3 => ?_) (fun h1_3 => ?_)
  · refine sm_lookup X 149 dX9_done_1 (by decide) (by first | (rw [h1_3]; done) | (rw [h1_3]; rfl)) (by decide) ?_
    refine sm_iload_n X 150 1 dX9_done_149 rfl rfl rfl ?_
    refine sm_iload_n X 151 2 dX9_done_150 rfl rfl rfl ?_
    refine sm_isub X 152 dX9_done_151 rfl ?_
    exact sm_iret X hr dX9_done_152 rfl
  refine sm_if (fun h1_4 => ?_) (fun h1_4 => ?_)
  · refine sm_lookup X 157 dX9_done_1 (by decide) (by first | (rw [h1_4]; done) | (rw [h1_4]; rfl)) (by decide) ?_
    refine sm_iload_n X 158 2 dX9_done_157 rfl rfl rfl ?_
    refine sm_if_ne X 161 165 dX9_done_158 rfl (by decide) (fun h158 => ?_) (fun h158 => ?_)
    · refine sm_iconst X 162 (0) dX9_done_161 rfl rfl ?_
      refine sm_goto X 168 dX9_done_162 (by decide) ?_
      exact sm_iret X hr dX9_done_168 rfl
    · refine sm_iload_n X 166 1 dX9_done_165 rfl rfl rfl ?_
      refine sm_iload_n X 167 2 dX9_done_166 rfl rfl rfl ?_
      refine sm_idiv X 168 dX9_done_167 rfl (by first | decide | assumption) ?_
      exact sm_iret X hr dX9_done_168 rfl
  refine sm_if (fun h1_5 => ?_) (fun h1_5 => ?_)
  · refine sm_lookup X 112 dX9_done_1 (by decide) (by first | (rw [h1_5]; done) | (rw [h1_5]; rfl)) (by decide) ?_
    refine sm_iload_n X 113 1 dX9_done_112 rfl rfl rfl ?_
    refine sm_iload_n X 114 2 dX9_done_113 rfl rfl rfl ?_
    refine sm_icmp_ge X 117 121 dX9_done_114 rfl (by decide) (fun h114 => ?_) (fun h114 => ?_)
    · refine sm_iconst X 122 (0) dX9_done_121 rfl rfl ?_
      exact sm_iret X hr dX9_done_122 rfl
    · refine sm_iconst X 118 (1) dX9_done_117 rfl rfl ?_
      refine sm_goto X 122 dX9_done_118 (by decide) ?_
      exact sm_iret X hr dX9_done_122 rfl
  refine sm_if (fun h1_6 => ?_) (fun h1_6 => ?_)
  · refine sm_lookup X 123 dX9_done_1 (by decide) (by first | (rw [h1_6]; done) | (rw [h1_6]; rfl)) (by decide) ?_
    refine sm_iload_n X 124 1 dX9_done_123 rfl rfl rfl ?_
    refine sm_iload_n X 125 2 dX9_done_124 rfl rfl rfl ?_
    refine sm_icmp_ne X 128 132 dX9_done_125 rfl (by decide) (fun h125 => ?_) (fun h125 => ?_)
    · refine sm_iconst X 129 (1) dX9_done_128 rfl rfl ?_
      refine sm_goto X 133 dX9_done_129 (by decide) ?_
      exact sm_iret X hr dX9_done_133 rfl
    · refine sm_iconst X 133 (0) dX9_done_132 rfl rfl ?_
      exact sm_iret X hr dX9_done_133 rfl
  refine sm_if (fun h1_7 => ?_) (fun h1_7 => ?_)
  · refine sm_lookup X 134 dX9_done_1 (by decide) (by first | (rw [h1_7]; done) | (rw [h1_7]; rfl)) (by decide) ?_
    refine sm_iload_n X 135 1 dX9_done_134 rfl rfl rfl ?_
    refine sm_iload_n X 136 2 dX9_done_135 rfl rfl rfl ?_
    refine sm_icmp_le X 139 143 dX9_done_136 rfl (by decide) (fun h136 => ?_) (fun h136 => ?_)
    · refine sm_iconst X 144 (0) dX9_done_143 rfl rfl ?_
      exact sm_iret X hr dX9_done_144 rfl
    · refine sm_iconst X 140 (1) dX9_done_139 rfl rfl ?_
      refine sm_goto X 144 dX9_done_140 (by decide) ?_
      exact sm_iret X hr dX9_done_144 rfl
  refine sm_if (fun h1_8 => ?_) (fun h1_8 => ?_)
  · refine sm_lookup X 84 dX9_done_1 (by decide) (by first | (rw [h1_8]; done) | (rw [h1_8]; rfl)) (by decide) ?_
    refine sm_iload_n X 85 1 dX9_done_84 rfl rfl rfl ?_
    refine sm_if_ne X 88 92 dX9_done_85 rfl (by decide) (fun h85 => ?_) (fun h85 => ?_)
    · refine sm_iload_n X 89 2 dX9_done_88 rfl rfl rfl ?_
      refine sm_if_eq X 92 96 dX9_done_89 rfl (by decide) (fun h89 => ?_) (fun h89 => ?_)
      · refine sm_iconst X 97 (0) dX9_done_96 rfl rfl ?_
        exact sm_iret X hr dX9_done_97 rfl
      · exact sm_sub [] rfl (J92 ())
    · exact sm_sub [] rfl (J92 ())
  have q0 : ¬ (a0).toInt = 38 := ne_toInt h1_0
  have q1 : ¬ (a0).toInt = 42 := ne_toInt h1_1
  have q2 : ¬ (a0).toInt = 43 := ne_toInt h1_2
  have q3 : ¬ (a0).toInt = 45 := ne_toInt h1_3
  have q4 : ¬ (a0).toInt = 47 := ne_toInt h1_4
  have q5 : ¬ (a0).toInt = 60 := ne_toInt h1_5
  have q6 : ¬ (a0).toInt = 61 := ne_toInt h1_6
  have q7 : ¬ (a0).toInt = 62 := ne_toInt h1_7
  have q8 : ¬ (a0).toInt = 124 := ne_toInt h1_8
  refine sm_lookup X (off := 168) 169 dX9_done_1 (by decide) (by simp [Op.lookupswitch.offset, q0, Ne.symm q0, q1, Ne.symm q1, q2, Ne.symm q2, q3, Ne.symm q3, q4, Ne.symm q4, q5, Ne.symm q5, q6, Ne.symm q6, q7, Ne.symm q7, q8, Ne.symm q8]) (by decide) ?_
  refine sm_iload_n X 170 2 dX9_done_169 rfl rfl rfl ?_
  refine sm_if_ne X 173 177 dX9_done_170 rfl (by decide) (fun h170 => ?_) (fun h170 => ?_)
  · refine sm_iconst X 174 (0) dX9_done_173 rfl rfl ?_
    refine sm_goto X 180 dX9_done_174 (by decide) ?_
    exact sm_iret X hr dX9_done_180 rfl
  · refine sm_iload_n X 178 1 dX9_done_177 rfl rfl rfl ?_
    refine sm_iload_n X 179 2 dX9_done_178 rfl rfl rfl ?_
    refine sm_irem X 180 dX9_done_179 rfl (by first | decide | assumption) ?_
    exact sm_iret X hr dX9_done_180 rfl
def by_X9_worked_0 : List Nat := [3, 62, 27, 54, 4, 21, 4, 27, 28, 96, 162, 0, 131, 42, 180, 0]
def by_X9_worked_1 : List Nat := [7, 21, 4, 46, 54, 5, 21, 5, 17, 78, 32, 162, 0, 39, 42, 180]
def by_X9_worked_2 : List Nat := [0, 28, 29, 21, 5, 17, 39, 16, 162, 0, 8, 21, 5, 167, 0, 14]
def by_X9_worked_3 : List Nat := [42, 180, 0, 22, 21, 5, 17, 39, 16, 100, 46, 79, 132, 3, 1, 167]
def by_X9_worked_4 : List Nat := [0, 72, 21, 5, 17, 78, 65, 160, 0, 30, 42, 180, 0, 28, 29, 4]
def by_X9_worked_5 : List Nat := [100, 42, 180, 0, 28, 29, 4, 100, 46, 154, 0, 7, 4, 167, 0, 4]
def by_X9_worked_6 : List Nat := [3, 79, 167, 0, 37, 132, 3, 255, 42, 180, 0, 28, 29, 4, 100, 21]
def by_X9_worked_7 : List Nat := [5, 17, 78, 32, 100, 42, 180, 0, 28, 29, 4, 100, 46, 42, 180, 0]
def by_X9_worked_8 : List Nat := [28, 29, 46, 184, 0, 120, 79, 132, 4, 1, 167, 255, 123, 42, 180, 0]
def by_X9_worked_z : List Nat := [28, 3, 46, 172]
def by_X9_worked : List (List Nat) := [by_X9_worked_0, by_X9_worked_1, by_X9_worked_2, by_X9_worked_3, by_X9_worked_4, by_X9_worked_5, by_X9_worked_6, by_X9_worked_7, by_X9_worked_8]
set_option maxRecDepth 100000 in
theorem byo_X9_worked : cX9_worked.data.toList.map UInt8.toNat = by_X9_worked.flatten ++ by_X9_worked_z := by decide +kernel
theorem byl_X9_worked : by_X9_worked.all (fun r => r.length == 16) = true := by decide +kernel
theorem byr_X9_worked_0 {j v : Nat} (h : by_X9_worked_0[j]? = some v) : RD cX9_worked (0 + j) v := rd_16 byo_X9_worked byl_X9_worked 0 rfl h
theorem byr_X9_worked_1 {j v : Nat} (h : by_X9_worked_1[j]? = some v) : RD cX9_worked (16 + j) v := rd_16 byo_X9_worked byl_X9_worked 1 rfl h
theorem byr_X9_worked_2 {j v : Nat} (h : by_X9_worked_2[j]? = some v) : RD cX9_worked (32 + j) v := rd_16 byo_X9_worked byl_X9_worked 2 rfl h
theorem byr_X9_worked_3 {j v : Nat} (h : by_X9_worked_3[j]? = some v) : RD cX9_worked (48 + j) v := rd_16 byo_X9_worked byl_X9_worked 3 rfl h
theorem byr_X9_worked_4 {j v : Nat} (h : by_X9_worked_4[j]? = some v) : RD cX9_worked (64 + j) v := rd_16 byo_X9_worked byl_X9_worked 4 rfl h
theorem byr_X9_worked_5 {j v : Nat} (h : by_X9_worked_5[j]? = some v) : RD cX9_worked (80 + j) v := rd_16 byo_X9_worked byl_X9_worked 5 rfl h
theorem byr_X9_worked_6 {j v : Nat} (h : by_X9_worked_6[j]? = some v) : RD cX9_worked (96 + j) v := rd_16 byo_X9_worked byl_X9_worked 6 rfl h
theorem byr_X9_worked_7 {j v : Nat} (h : by_X9_worked_7[j]? = some v) : RD cX9_worked (112 + j) v := rd_16 byo_X9_worked byl_X9_worked 7 rfl h
theorem byr_X9_worked_8 {j v : Nat} (h : by_X9_worked_8[j]? = some v) : RD cX9_worked (128 + j) v := rd_16 byo_X9_worked byl_X9_worked 8 rfl h
theorem byr_X9_worked_9 {j v : Nat} (h : by_X9_worked_z[j]? = some v) : RD cX9_worked (144 + j) v := rd_z byo_X9_worked byl_X9_worked 9 rfl h
theorem dX9_worked_0 : decode cX9_worked 0 = .ok (.iconst 0, 1) := dk_3 (byr_X9_worked_0 (j := 0) rfl)
theorem dX9_worked_1 : decode cX9_worked 1 = .ok (.istore_n 3, 1) := dk_62 (byr_X9_worked_0 (j := 1) rfl)
theorem dX9_worked_2 : decode cX9_worked 2 = .ok (.iload_n 1, 1) := dk_27 (byr_X9_worked_0 (j := 2) rfl)
theorem dX9_worked_3 : decode cX9_worked 3 = .ok (.istore 4, 2) := dk_54 (byr_X9_worked_0 (j := 3) rfl) (byr_X9_worked_0 (j := 4) rfl)
theorem dX9_worked_5 : decode cX9_worked 5 = .ok (.iload 4, 2) := dk_21 (byr_X9_worked_0 (j := 5) rfl) (byr_X9_worked_0 (j := 6) rfl)
theorem dX9_worked_7 : decode cX9_worked 7 = .ok (.iload_n 1, 1) := dk_27 (byr_X9_worked_0 (j := 7) rfl)
theorem dX9_worked_8 : decode cX9_worked 8 = .ok (.iload_n 2, 1) := dk_28 (byr_X9_worked_0 (j := 8) rfl)
theorem dX9_worked_9 : decode cX9_worked 9 = .ok (.iadd, 1) := dk_96 (byr_X9_worked_0 (j := 9) rfl)
theorem dX9_worked_10 : decode cX9_worked 10 = .ok (.if_icmp .ge 131, 3) := dk_162 (byr_X9_worked_0 (j := 10) rfl) (byr_X9_worked_0 (j := 11) rfl) (byr_X9_worked_0 (j := 12) rfl) (by decide)
theorem dX9_worked_13 : decode cX9_worked 13 = .ok (.aload_n 0, 1) := dk_42 (byr_X9_worked_0 (j := 13) rfl)
theorem dX9_worked_14 : decode cX9_worked 14 = .ok (.getfield 7, 3) := dk_180 (byr_X9_worked_0 (j := 14) rfl) (byr_X9_worked_0 (j := 15) rfl) (byr_X9_worked_1 (j := 0) rfl) (by decide)
theorem dX9_worked_17 : decode cX9_worked 17 = .ok (.iload 4, 2) := dk_21 (byr_X9_worked_1 (j := 1) rfl) (byr_X9_worked_1 (j := 2) rfl)
theorem dX9_worked_19 : decode cX9_worked 19 = .ok (.iaload, 1) := dk_46 (byr_X9_worked_1 (j := 3) rfl)
theorem dX9_worked_20 : decode cX9_worked 20 = .ok (.istore 5, 2) := dk_54 (byr_X9_worked_1 (j := 4) rfl) (byr_X9_worked_1 (j := 5) rfl)
theorem dX9_worked_22 : decode cX9_worked 22 = .ok (.iload 5, 2) := dk_21 (byr_X9_worked_1 (j := 6) rfl) (byr_X9_worked_1 (j := 7) rfl)
theorem dX9_worked_24 : decode cX9_worked 24 = .ok (.sipush 20000, 3) := dk_17 (byr_X9_worked_1 (j := 8) rfl) (byr_X9_worked_1 (j := 9) rfl) (byr_X9_worked_1 (j := 10) rfl) (by decide)
theorem dX9_worked_27 : decode cX9_worked 27 = .ok (.if_icmp .ge 39, 3) := dk_162 (byr_X9_worked_1 (j := 11) rfl) (byr_X9_worked_1 (j := 12) rfl) (byr_X9_worked_1 (j := 13) rfl) (by decide)
theorem dX9_worked_30 : decode cX9_worked 30 = .ok (.aload_n 0, 1) := dk_42 (byr_X9_worked_1 (j := 14) rfl)
theorem dX9_worked_31 : decode cX9_worked 31 = .ok (.getfield 28, 3) := dk_180 (byr_X9_worked_1 (j := 15) rfl) (byr_X9_worked_2 (j := 0) rfl) (byr_X9_worked_2 (j := 1) rfl) (by decide)
theorem dX9_worked_34 : decode cX9_worked 34 = .ok (.iload_n 3, 1) := dk_29 (byr_X9_worked_2 (j := 2) rfl)
theorem dX9_worked_35 : decode cX9_worked 35 = .ok (.iload 5, 2) := dk_21 (byr_X9_worked_2 (j := 3) rfl) (byr_X9_worked_2 (j := 4) rfl)
theorem dX9_worked_37 : decode cX9_worked 37 = .ok (.sipush 10000, 3) := dk_17 (byr_X9_worked_2 (j := 5) rfl) (byr_X9_worked_2 (j := 6) rfl) (byr_X9_worked_2 (j := 7) rfl) (by decide)
theorem dX9_worked_40 : decode cX9_worked 40 = .ok (.if_icmp .ge 8, 3) := dk_162 (byr_X9_worked_2 (j := 8) rfl) (byr_X9_worked_2 (j := 9) rfl) (byr_X9_worked_2 (j := 10) rfl) (by decide)
theorem dX9_worked_43 : decode cX9_worked 43 = .ok (.iload 5, 2) := dk_21 (byr_X9_worked_2 (j := 11) rfl) (byr_X9_worked_2 (j := 12) rfl)
theorem dX9_worked_45 : decode cX9_worked 45 = .ok (.goto 14, 3) := dk_167 (byr_X9_worked_2 (j := 13) rfl) (byr_X9_worked_2 (j := 14) rfl) (byr_X9_worked_2 (j := 15) rfl) (by decide)
theorem dX9_worked_48 : decode cX9_worked 48 = .ok (.aload_n 0, 1) := dk_42 (byr_X9_worked_3 (j := 0) rfl)
theorem dX9_worked_49 : decode cX9_worked 49 = .ok (.getfield 22, 3) := dk_180 (byr_X9_worked_3 (j := 1) rfl) (byr_X9_worked_3 (j := 2) rfl) (byr_X9_worked_3 (j := 3) rfl) (by decide)
theorem dX9_worked_52 : decode cX9_worked 52 = .ok (.iload 5, 2) := dk_21 (byr_X9_worked_3 (j := 4) rfl) (byr_X9_worked_3 (j := 5) rfl)
theorem dX9_worked_54 : decode cX9_worked 54 = .ok (.sipush 10000, 3) := dk_17 (byr_X9_worked_3 (j := 6) rfl) (byr_X9_worked_3 (j := 7) rfl) (byr_X9_worked_3 (j := 8) rfl) (by decide)
theorem dX9_worked_57 : decode cX9_worked 57 = .ok (.isub, 1) := dk_100 (byr_X9_worked_3 (j := 9) rfl)
theorem dX9_worked_58 : decode cX9_worked 58 = .ok (.iaload, 1) := dk_46 (byr_X9_worked_3 (j := 10) rfl)
theorem dX9_worked_59 : decode cX9_worked 59 = .ok (.iastore, 1) := dk_79 (byr_X9_worked_3 (j := 11) rfl)
theorem dX9_worked_60 : decode cX9_worked 60 = .ok (.iinc 3 1, 3) := dk_132 (byr_X9_worked_3 (j := 12) rfl) (byr_X9_worked_3 (j := 13) rfl) (byr_X9_worked_3 (j := 14) rfl) (by decide)
theorem dX9_worked_63 : decode cX9_worked 63 = .ok (.goto 72, 3) := dk_167 (byr_X9_worked_3 (j := 15) rfl) (byr_X9_worked_4 (j := 0) rfl) (byr_X9_worked_4 (j := 1) rfl) (by decide)
theorem dX9_worked_66 : decode cX9_worked 66 = .ok (.iload 5, 2) := dk_21 (byr_X9_worked_4 (j := 2) rfl) (byr_X9_worked_4 (j := 3) rfl)
theorem dX9_worked_68 : decode cX9_worked 68 = .ok (.sipush 20033, 3) := dk_17 (byr_X9_worked_4 (j := 4) rfl) (byr_X9_worked_4 (j := 5) rfl) (byr_X9_worked_4 (j := 6) rfl) (by decide)
theorem dX9_worked_71 : decode cX9_worked 71 = .ok (.if_icmp .ne 30, 3) := dk_160 (byr_X9_worked_4 (j := 7) rfl) (byr_X9_worked_4 (j := 8) rfl) (byr_X9_worked_4 (j := 9) rfl) (by decide)
theorem dX9_worked_74 : decode cX9_worked 74 = .ok (.aload_n 0, 1) := dk_42 (byr_X9_worked_4 (j := 10) rfl)
theorem dX9_worked_75 : decode cX9_worked 75 = .ok (.getfield 28, 3) := dk_180 (byr_X9_worked_4 (j := 11) rfl) (byr_X9_worked_4 (j := 12) rfl) (byr_X9_worked_4 (j := 13) rfl) (by decide)
theorem dX9_worked_78 : decode cX9_worked 78 = .ok (.iload_n 3, 1) := dk_29 (byr_X9_worked_4 (j := 14) rfl)
theorem dX9_worked_79 : decode cX9_worked 79 = .ok (.iconst 1, 1) := dk_4 (byr_X9_worked_4 (j := 15) rfl)
theorem dX9_worked_80 : decode cX9_worked 80 = .ok (.isub, 1) := dk_100 (byr_X9_worked_5 (j := 0) rfl)
theorem dX9_worked_81 : decode cX9_worked 81 = .ok (.aload_n 0, 1) := dk_42 (byr_X9_worked_5 (j := 1) rfl)
theorem dX9_worked_82 : decode cX9_worked 82 = .ok (.getfield 28, 3) := dk_180 (byr_X9_worked_5 (j := 2) rfl) (byr_X9_worked_5 (j := 3) rfl) (byr_X9_worked_5 (j := 4) rfl) (by decide)
theorem dX9_worked_85 : decode cX9_worked 85 = .ok (.iload_n 3, 1) := dk_29 (byr_X9_worked_5 (j := 5) rfl)
theorem dX9_worked_86 : decode cX9_worked 86 = .ok (.iconst 1, 1) := dk_4 (byr_X9_worked_5 (j := 6) rfl)
theorem dX9_worked_87 : decode cX9_worked 87 = .ok (.isub, 1) := dk_100 (byr_X9_worked_5 (j := 7) rfl)
theorem dX9_worked_88 : decode cX9_worked 88 = .ok (.iaload, 1) := dk_46 (byr_X9_worked_5 (j := 8) rfl)
theorem dX9_worked_89 : decode cX9_worked 89 = .ok (.ifCond .ne 7, 3) := dk_154 (byr_X9_worked_5 (j := 9) rfl) (byr_X9_worked_5 (j := 10) rfl) (byr_X9_worked_5 (j := 11) rfl) (by decide)
theorem dX9_worked_92 : decode cX9_worked 92 = .ok (.iconst 1, 1) := dk_4 (byr_X9_worked_5 (j := 12) rfl)
theorem dX9_worked_93 : decode cX9_worked 93 = .ok (.goto 4, 3) := dk_167 (byr_X9_worked_5 (j := 13) rfl) (byr_X9_worked_5 (j := 14) rfl) (byr_X9_worked_5 (j := 15) rfl) (by decide)
theorem dX9_worked_96 : decode cX9_worked 96 = .ok (.iconst 0, 1) := dk_3 (byr_X9_worked_6 (j := 0) rfl)
theorem dX9_worked_97 : decode cX9_worked 97 = .ok (.iastore, 1) := dk_79 (byr_X9_worked_6 (j := 1) rfl)
theorem dX9_worked_98 : decode cX9_worked 98 = .ok (.goto 37, 3) := dk_167 (byr_X9_worked_6 (j := 2) rfl) (byr_X9_worked_6 (j := 3) rfl) (byr_X9_worked_6 (j := 4) rfl) (by decide)
theorem dX9_worked_101 : decode cX9_worked 101 = .ok (.iinc 3 (-1), 3) := dk_132 (byr_X9_worked_6 (j := 5) rfl) (byr_X9_worked_6 (j := 6) rfl) (byr_X9_worked_6 (j := 7) rfl) (by decide)
theorem dX9_worked_104 : decode cX9_worked 104 = .ok (.aload_n 0, 1) := dk_42 (byr_X9_worked_6 (j := 8) rfl)
theorem dX9_worked_105 : decode cX9_worked 105 = .ok (.getfield 28, 3) := dk_180 (byr_X9_worked_6 (j := 9) rfl) (byr_X9_worked_6 (j := 10) rfl) (byr_X9_worked_6 (j := 11) rfl) (by decide)
theorem dX9_worked_108 : decode cX9_worked 108 = .ok (.iload_n 3, 1) := dk_29 (byr_X9_worked_6 (j := 12) rfl)
theorem dX9_worked_109 : decode cX9_worked 109 = .ok (.iconst 1, 1) := dk_4 (byr_X9_worked_6 (j := 13) rfl)
theorem dX9_worked_110 : decode cX9_worked 110 = .ok (.isub, 1) := dk_100 (byr_X9_worked_6 (j := 14) rfl)
theorem dX9_worked_111 : decode cX9_worked 111 = .ok (.iload 5, 2) := dk_21 (byr_X9_worked_6 (j := 15) rfl) (byr_X9_worked_7 (j := 0) rfl)
theorem dX9_worked_113 : decode cX9_worked 113 = .ok (.sipush 20000, 3) := dk_17 (byr_X9_worked_7 (j := 1) rfl) (byr_X9_worked_7 (j := 2) rfl) (byr_X9_worked_7 (j := 3) rfl) (by decide)
theorem dX9_worked_116 : decode cX9_worked 116 = .ok (.isub, 1) := dk_100 (byr_X9_worked_7 (j := 4) rfl)
theorem dX9_worked_117 : decode cX9_worked 117 = .ok (.aload_n 0, 1) := dk_42 (byr_X9_worked_7 (j := 5) rfl)
theorem dX9_worked_118 : decode cX9_worked 118 = .ok (.getfield 28, 3) := dk_180 (byr_X9_worked_7 (j := 6) rfl) (byr_X9_worked_7 (j := 7) rfl) (byr_X9_worked_7 (j := 8) rfl) (by decide)
theorem dX9_worked_121 : decode cX9_worked 121 = .ok (.iload_n 3, 1) := dk_29 (byr_X9_worked_7 (j := 9) rfl)
theorem dX9_worked_122 : decode cX9_worked 122 = .ok (.iconst 1, 1) := dk_4 (byr_X9_worked_7 (j := 10) rfl)
theorem dX9_worked_123 : decode cX9_worked 123 = .ok (.isub, 1) := dk_100 (byr_X9_worked_7 (j := 11) rfl)
theorem dX9_worked_124 : decode cX9_worked 124 = .ok (.iaload, 1) := dk_46 (byr_X9_worked_7 (j := 12) rfl)
theorem dX9_worked_125 : decode cX9_worked 125 = .ok (.aload_n 0, 1) := dk_42 (byr_X9_worked_7 (j := 13) rfl)
theorem dX9_worked_126 : decode cX9_worked 126 = .ok (.getfield 28, 3) := dk_180 (byr_X9_worked_7 (j := 14) rfl) (byr_X9_worked_7 (j := 15) rfl) (byr_X9_worked_8 (j := 0) rfl) (by decide)
theorem dX9_worked_129 : decode cX9_worked 129 = .ok (.iload_n 3, 1) := dk_29 (byr_X9_worked_8 (j := 1) rfl)
theorem dX9_worked_130 : decode cX9_worked 130 = .ok (.iaload, 1) := dk_46 (byr_X9_worked_8 (j := 2) rfl)
theorem dX9_worked_131 : decode cX9_worked 131 = .ok (.invokestatic 120, 3) := dk_184 (byr_X9_worked_8 (j := 3) rfl) (byr_X9_worked_8 (j := 4) rfl) (byr_X9_worked_8 (j := 5) rfl) (by decide)
theorem dX9_worked_134 : decode cX9_worked 134 = .ok (.iastore, 1) := dk_79 (byr_X9_worked_8 (j := 6) rfl)
theorem dX9_worked_135 : decode cX9_worked 135 = .ok (.iinc 4 1, 3) := dk_132 (byr_X9_worked_8 (j := 7) rfl) (byr_X9_worked_8 (j := 8) rfl) (byr_X9_worked_8 (j := 9) rfl) (by decide)
theorem dX9_worked_138 : decode cX9_worked 138 = .ok (.goto (-133), 3) := dk_167 (byr_X9_worked_8 (j := 10) rfl) (byr_X9_worked_8 (j := 11) rfl) (byr_X9_worked_8 (j := 12) rfl) (by decide)
theorem dX9_worked_141 : decode cX9_worked 141 = .ok (.aload_n 0, 1) := dk_42 (byr_X9_worked_8 (j := 13) rfl)
theorem dX9_worked_142 : decode cX9_worked 142 = .ok (.getfield 28, 3) := dk_180 (byr_X9_worked_8 (j := 14) rfl) (byr_X9_worked_8 (j := 15) rfl) (byr_X9_worked_9 (j := 0) rfl) (by decide)
theorem dX9_worked_145 : decode cX9_worked 145 = .ok (.iconst 0, 1) := dk_3 (byr_X9_worked_9 (j := 1) rfl)
theorem dX9_worked_146 : decode cX9_worked 146 = .ok (.iaload, 1) := dk_46 (byr_X9_worked_9 (j := 2) rfl)
theorem dX9_worked_147 : decode cX9_worked 147 = .ok (.ireturn, 1) := dk_172 (byr_X9_worked_9 (j := 3) rfl)
set_option maxHeartbeats 4000000 in
set_option maxRecDepth 100000 in
theorem c_X9_worked (l : Launch) (G : GT) (σ : Sto) (a1 : Int32) (a2 : Int32) (r : (Int32 × Sto)) (h : f_X9_worked σ a1 a2 = some r) : MW l G (3) (86) 0 0 yX9_worked cX9_worked 6 (Option.some Jvm.ClassFile.FieldType.int) [.ref (gad G 81), .int a1, .int a2] (wl G σ) (some (.int r.1)) (wl G r.2) := by
  refine mw_of RX9 (fiI G) [(0, .ref (gad G 81)), (1, .int a1), (2, .int a2)] (by decide +kernel) rfl (Nat.le_of_ble_eq_true rfl) rfl h rfl (fun p e s m args below meth c X hr hnm => ?_)
  have J135 : ∀ (v1 : Int32) (v2 : Int32) (v3 : Int32) (v4 : Int32) (K5 : Int32 → Int32 → Sto → Option (Int32 × Sto)) (hK5 : ∀ (v3' : Int32) (v4' : Int32) (σ' : Sto), Sm p l e { frames := 3, cells := 0, slots := 0, locals := 86 } s m args below meth c G 6 (Qm below args s G 0 0 (fiI G)) 0 0 (wl G σ') 5 [(0, .ref (gad G 81)), (1, .int v1), (2, .int v2), (3, .int v3'), (4, .int v4')] [] (K5 v3' v4' σ')) (σ : Sto), Sm p l e { frames := 3, cells := 0, slots := 0, locals := 86 } s m args below meth c G 6 (Qm below args s G 0 0 (fiI G)) 0 0 (wl G σ) 135 [(0, .ref (gad G 81)), (1, .int v1), (2, .int v2), (3, .int v3), (4, .int v4)] [] (f_X9_worked_L135 K5 v1 v2 v3 v4 σ) := by
    intro v1 v2 v3 v4 K5 hK5 σ
    rw [f_X9_worked_L135]
    refine sm_iinc X 138 4 (1 : Int32) [(4, .int (v4 + (1 : Int32))), (0, .ref (gad G 81)), (1, .int v1), (2, .int v2), (3, .int v3)] dX9_worked_135 rfl rfl rfl (by decide) rfl ?_
    refine sm_goto X 5 dX9_worked_138 (by decide) ?_
    exact sm_sub [1, 2, 3, 4, 0] rfl (hK5 v3 (v4 + (1 : Int32)) σ)
  have J59 : ∀ (v1 : Int32) (v2 : Int32) (v3 : Int32) (v4 : Int32) (vs0 : Int32) (vs1 : Int32) (K5 : Int32 → Int32 → Sto → Option (Int32 × Sto)) (hK5 : ∀ (v3' : Int32) (v4' : Int32) (σ' : Sto), Sm p l e { frames := 3, cells := 0, slots := 0, locals := 86 } s m args below meth c G 6 (Qm below args s G 0 0 (fiI G)) 0 0 (wl G σ') 5 [(0, .ref (gad G 81)), (1, .int v1), (2, .int v2), (3, .int v3'), (4, .int v4')] [] (K5 v3' v4' σ')) (σ : Sto), Sm p l e { frames := 3, cells := 0, slots := 0, locals := 86 } s m args below meth c G 6 (Qm below args s G 0 0 (fiI G)) 0 0 (wl G σ) 59 [(0, .ref (gad G 81)), (1, .int v1), (2, .int v2), (3, .int v3), (4, .int v4)] [.int vs0, .int vs1, .ref (gad G 88)] (f_X9_worked_L59 K5 v1 v2 v3 v4 vs0 vs1 σ) := by
    intro v1 v2 v3 v4 vs0 vs1 K5 hK5 σ
    rw [f_X9_worked_L59]
    refine sm_iast X 60 rfl dX9_worked_59 rfl (fun σ59 e59 => ?_)
    clear e59
    refine sm_iinc X 63 3 (1 : Int32) [(3, .int (v3 + (1 : Int32))), (0, .ref (gad G 81)), (1, .int v1), (2, .int v2), (4, .int v4)] dX9_worked_60 rfl rfl rfl (by decide) rfl ?_
    refine sm_goto X 135 dX9_worked_63 (by decide) ?_
    exact sm_sub [1, 2, 3, 0, 4] rfl (J135 v1 v2 (v3 + (1 : Int32)) v4 K5 hK5 σ59)
  have J97 : ∀ (v1 : Int32) (v2 : Int32) (v3 : Int32) (v4 : Int32) (vs0 : Bool) (vs1 : Int32) (K5 : Int32 → Int32 → Sto → Option (Int32 × Sto)) (hK5 : ∀ (v3' : Int32) (v4' : Int32) (σ' : Sto), Sm p l e { frames := 3, cells := 0, slots := 0, locals := 86 } s m args below meth c G 6 (Qm below args s G 0 0 (fiI G)) 0 0 (wl G σ') 5 [(0, .ref (gad G 81)), (1, .int v1), (2, .int v2), (3, .int v3'), (4, .int v4')] [] (K5 v3' v4' σ')) (σ : Sto), Sm p l e { frames := 3, cells := 0, slots := 0, locals := 86 } s m args below meth c G 6 (Qm below args s G 0 0 (fiI G)) 0 0 (wl G σ) 97 [(0, .ref (gad G 81)), (1, .int v1), (2, .int v2), (3, .int v3), (4, .int v4)] [.int (b2i vs0), .int vs1, .ref (gad G 88)] (f_X9_worked_L97 K5 v1 v2 v3 v4 vs0 vs1 σ) := by
    intro v1 v2 v3 v4 vs0 vs1 K5 hK5 σ
    rw [f_X9_worked_L97]
    refine sm_iast X 98 rfl dX9_worked_97 rfl (fun σ97 e97 => ?_)
    clear e97
    refine sm_goto X 135 dX9_worked_98 (by decide) ?_
    exact sm_sub [0, 1, 2, 3, 4] rfl (J135 v1 v2 v3 v4 K5 hK5 σ97)
  have J5 : ∀ (v1 : Int32) (v2 : Int32)  (n : Nat) (v3 : Int32) (v4 : Int32) (σ : Sto), Sm p l e { frames := 3, cells := 0, slots := 0, locals := 86 } s m args below meth c G 6 (Qm below args s G 0 0 (fiI G)) 0 0 (wl G σ) 5 [(0, .ref (gad G 81)), (1, .int v1), (2, .int v2), (3, .int v3), (4, .int v4)] [] (f_X9_worked_L5  v1 v2 n v3 v4 σ) := by
    intro v1 v2 n
    induction n with
    | zero => intro v3 v4 σ; rw [f_X9_worked_L5]; exact sm_none
    | succ n ihl =>
      intro v3 v4 σ
      rw [f_X9_worked_L5]
      refine sm_iload X 7 4 dX9_worked_5 rfl rfl ?_
      refine sm_iload_n X 8 1 dX9_worked_7 rfl rfl rfl ?_
      refine sm_iload_n X 9 2 dX9_worked_8 rfl rfl rfl ?_
      refine sm_iadd X 10 dX9_worked_9 rfl ?_
      refine sm_icmp_ge X 13 141 dX9_worked_10 rfl (by decide) (fun h10 => ?_) (fun h10 => ?_)
      · refine sm_aload_n X 142 0 dX9_worked_141 rfl rfl rfl ?_
        refine sm_getf X 145 88 rfl fd_9_14 rfl dX9_worked_142 rfl q_896 ?_
        refine sm_iconst X 146 (0) dX9_worked_145 rfl rfl ?_
        refine sm_iald X 147 rfl dX9_worked_146 rfl (fun r146 e146 => ?_)
        clear e146
        exact sm_iret X hr dX9_worked_147 rfl
      · refine sm_aload_n X 14 0 dX9_worked_13 rfl rfl rfl ?_
        refine sm_getf X 17 82 rfl fd_9_0 rfl dX9_worked_14 rfl q_882 ?_
        refine sm_iload X 19 4 dX9_worked_17 rfl rfl ?_
        refine sm_iald X 20 rfl dX9_worked_19 rfl (fun r19 e19 => ?_)
        clear e19
        refine sm_istore X 22 [(5, .int r19), (0, .ref (gad G 81)), (1, .int v1), (2, .int v2), (3, .int v3), (4, .int v4)] dX9_worked_20 rfl (by decide) rfl ?_
        refine sm_iload X 24 0 dX9_worked_22 rfl rfl ?_
        refine sm_sipush X 27 (20000) dX9_worked_24 rfl rfl ?_
        refine sm_icmp_ge X 30 66 dX9_worked_27 rfl (by decide) (fun h27 => ?_) (fun h27 => ?_)
        · refine sm_iload X 68 0 dX9_worked_66 rfl rfl ?_
          refine sm_sipush X 71 (20033) dX9_worked_68 rfl rfl ?_
          refine sm_icmp_ne X 74 101 dX9_worked_71 rfl (by decide) (fun h71 => ?_) (fun h71 => ?_)
          · refine sm_aload_n X 75 1 dX9_worked_74 rfl rfl rfl ?_
            refine sm_getf X 78 88 rfl fd_9_14 rfl dX9_worked_75 rfl q_896 ?_
            refine sm_iload_n X 79 4 dX9_worked_78 rfl rfl rfl ?_
            refine sm_iconst X 80 (1) dX9_worked_79 rfl rfl ?_
            refine sm_isub X 81 dX9_worked_80 rfl ?_
            refine sm_aload_n X 82 1 dX9_worked_81 rfl rfl rfl ?_
            refine sm_getf X 85 88 rfl fd_9_14 rfl dX9_worked_82 rfl q_896 ?_
            refine sm_iload_n X 86 4 dX9_worked_85 rfl rfl rfl ?_
            refine sm_iconst X 87 (1) dX9_worked_86 rfl rfl ?_
            refine sm_isub X 88 dX9_worked_87 rfl ?_
            refine sm_iald X 89 rfl dX9_worked_88 rfl (fun r88 e88 => ?_)
            clear e88
            refine sm_if_ne X 92 96 dX9_worked_89 rfl (by decide) (fun h89 => ?_) (fun h89 => ?_)
            · refine sm_iconst X 93 (1) dX9_worked_92 rfl rfl ?_
              refine sm_goto X 97 dX9_worked_93 (by decide) ?_
              exact sm_sub [1, 2, 3, 4, 5] rfl (J97 v1 v2 v3 v4 true (v3 - (1 : Int32)) (f_X9_worked_L5  v1 v2 n) ihl σ)
            · refine sm_iconst X 97 (0) dX9_worked_96 rfl rfl ?_
              exact sm_sub [1, 2, 3, 4, 5] rfl (J97 v1 v2 v3 v4 false (v3 - (1 : Int32)) (f_X9_worked_L5  v1 v2 n) ihl σ)
          · refine sm_iinc X 104 4 (-1 : Int32) [(3, .int (v3 + (-1 : Int32))), (5, .int r19), (0, .ref (gad G 81)), (1, .int v1), (2, .int v2), (4, .int v4)] dX9_worked_101 rfl rfl rfl (by decide) rfl ?_
            refine sm_aload_n X 105 2 dX9_worked_104 rfl rfl rfl ?_
            refine sm_getf X 108 88 rfl fd_9_14 rfl dX9_worked_105 rfl q_896 ?_
            refine sm_iload_n X 109 0 dX9_worked_108 rfl rfl rfl ?_
            refine sm_iconst X 110 (1) dX9_worked_109 rfl rfl ?_
            refine sm_isub X 111 dX9_worked_110 rfl ?_
            refine sm_iload X 113 1 dX9_worked_111 rfl rfl ?_
            refine sm_sipush X 116 (20000) dX9_worked_113 rfl rfl ?_
            refine sm_isub X 117 dX9_worked_116 rfl ?_
            refine sm_aload_n X 118 2 dX9_worked_117 rfl rfl rfl ?_
            refine sm_getf X 121 88 rfl fd_9_14 rfl dX9_worked_118 rfl q_896 ?_
            refine sm_iload_n X 122 0 dX9_worked_121 rfl rfl rfl ?_
            refine sm_iconst X 123 (1) dX9_worked_122 rfl rfl ?_
            refine sm_isub X 124 dX9_worked_123 rfl ?_
            refine sm_iald X 125 rfl dX9_worked_124 rfl (fun r124 e124 => ?_)
            clear e124
            refine sm_aload_n X 126 2 dX9_worked_125 rfl rfl rfl ?_
            refine sm_getf X 129 88 rfl fd_9_14 rfl dX9_worked_126 rfl q_896 ?_
            refine sm_iload_n X 130 0 dX9_worked_129 rfl rfl rfl ?_
            refine sm_iald X 131 rfl dX9_worked_130 rfl (fun r130 e130 => ?_)
            clear e130
            refine sm_bind (fun r131 h131 => ?_)
            refine sm_callS0 X 134 [.int (r19 - (20000 : Int32)), .int r124, .int r130] [.int ((v3 + (-1 : Int32)) - (1 : Int32)), .ref (gad G 88)] [.int r131, .int ((v3 + (-1 : Int32)) - (1 : Int32)), .ref (gad G 88)] (c_X9_done l G σ (r19 - (20000 : Int32)) r124 r130 r131 h131) cw_X9_done q_1040 q_1039 rfl rfl rfl (Nat.le_of_ble_eq_true rfl) ⟨Nat.le_of_ble_eq_true rfl, Nat.le_of_ble_eq_true rfl⟩ ⟨Nat.le_refl _, Nat.le_refl _⟩ dX9_worked_131 rfl ?_
            refine sm_iast X 135 rfl dX9_worked_134 rfl (fun σ134 e134 => ?_)
            clear e134
            exact sm_sub [2, 3, 4, 0, 5] rfl (J135 v1 v2 (v3 + (-1 : Int32)) v4 (f_X9_worked_L5  v1 v2 n) ihl σ134)
        · refine sm_aload_n X 31 1 dX9_worked_30 rfl rfl rfl ?_
          refine sm_getf X 34 88 rfl fd_9_14 rfl dX9_worked_31 rfl q_896 ?_
          refine sm_iload_n X 35 4 dX9_worked_34 rfl rfl rfl ?_
          refine sm_iload X 37 0 dX9_worked_35 rfl rfl ?_
          refine sm_sipush X 40 (10000) dX9_worked_37 rfl rfl ?_
          refine sm_icmp_ge X 43 48 dX9_worked_40 rfl (by decide) (fun h40 => ?_) (fun h40 => ?_)
          · refine sm_aload_n X 49 1 dX9_worked_48 rfl rfl rfl ?_
            refine sm_getf X 52 86 rfl fd_9_11 rfl dX9_worked_49 rfl q_893 ?_
            refine sm_iload X 54 0 dX9_worked_52 rfl rfl ?_
            refine sm_sipush X 57 (10000) dX9_worked_54 rfl rfl ?_
            refine sm_isub X 58 dX9_worked_57 rfl ?_
            refine sm_iald X 59 rfl dX9_worked_58 rfl (fun r58 e58 => ?_)
            clear e58
            exact sm_sub [1, 2, 3, 4, 5] rfl (J59 v1 v2 v3 v4 r58 v3 (f_X9_worked_L5  v1 v2 n) ihl σ)
          · refine sm_iload X 45 0 dX9_worked_43 rfl rfl ?_
            refine sm_goto X 59 dX9_worked_45 (by decide) ?_
            exact sm_sub [1, 2, 3, 4, 5] rfl (J59 v1 v2 v3 v4 r19 v3 (f_X9_worked_L5  v1 v2 n) ihl σ)
  unfold f_X9_worked
  refine sm_iconst X 1 (0) dX9_worked_0 rfl rfl ?_
  refine sm_istore_n X 2 [(3, .int 0), (0, .ref (gad G 81)), (1, .int a1), (2, .int a2)] dX9_worked_1 rfl rfl (by decide) rfl ?_
  refine sm_iload_n X 3 2 dX9_worked_2 rfl rfl rfl ?_
  refine sm_istore X 5 [(4, .int a1), (3, .int 0), (0, .ref (gad G 81)), (1, .int a1), (2, .int a2)] dX9_worked_3 rfl (by decide) rfl ?_
  exact sm_sub [2, 3, 4, 1, 0] rfl (J5 a1 a2  FU (0 : Int32) a1 σ)
def by_X9_feed_0 : List Nat := [29, 133, 10, 20, 0, 124, 184, 0, 49, 154, 0, 9, 42, 4, 182, 0]
def by_X9_feed_1 : List Nat := [126, 172, 42, 180, 0, 7, 16, 14, 46, 29, 96, 16, 50, 164, 0, 9]
def by_X9_feed_2 : List Nat := [42, 7, 182, 0, 126, 172, 3, 54, 4, 21, 4, 29, 162, 0, 48, 42]
def by_X9_feed_3 : List Nat := [180, 0, 7, 17, 0, 210, 42, 180, 0, 7, 16, 14, 46, 96, 31, 16]
def by_X9_feed_4 : List Nat := [8, 21, 4, 104, 123, 20, 0, 129, 127, 136, 79, 42, 180, 0, 7, 16]
def by_X9_feed_5 : List Nat := [14, 92, 46, 4, 96, 79, 132, 4, 1, 167, 255, 208, 42, 180, 0, 7]
def by_X9_feed_z : List Nat := [16, 14, 46, 172]
def by_X9_feed : List (List Nat) := [by_X9_feed_0, by_X9_feed_1, by_X9_feed_2, by_X9_feed_3, by_X9_feed_4, by_X9_feed_5]
set_option maxRecDepth 100000 in
theorem byo_X9_feed : cX9_feed.data.toList.map UInt8.toNat = by_X9_feed.flatten ++ by_X9_feed_z := by decide +kernel
theorem byl_X9_feed : by_X9_feed.all (fun r => r.length == 16) = true := by decide +kernel
theorem byr_X9_feed_0 {j v : Nat} (h : by_X9_feed_0[j]? = some v) : RD cX9_feed (0 + j) v := rd_16 byo_X9_feed byl_X9_feed 0 rfl h
theorem byr_X9_feed_1 {j v : Nat} (h : by_X9_feed_1[j]? = some v) : RD cX9_feed (16 + j) v := rd_16 byo_X9_feed byl_X9_feed 1 rfl h
theorem byr_X9_feed_2 {j v : Nat} (h : by_X9_feed_2[j]? = some v) : RD cX9_feed (32 + j) v := rd_16 byo_X9_feed byl_X9_feed 2 rfl h
theorem byr_X9_feed_3 {j v : Nat} (h : by_X9_feed_3[j]? = some v) : RD cX9_feed (48 + j) v := rd_16 byo_X9_feed byl_X9_feed 3 rfl h
theorem byr_X9_feed_4 {j v : Nat} (h : by_X9_feed_4[j]? = some v) : RD cX9_feed (64 + j) v := rd_16 byo_X9_feed byl_X9_feed 4 rfl h
theorem byr_X9_feed_5 {j v : Nat} (h : by_X9_feed_5[j]? = some v) : RD cX9_feed (80 + j) v := rd_16 byo_X9_feed byl_X9_feed 5 rfl h
theorem byr_X9_feed_6 {j v : Nat} (h : by_X9_feed_z[j]? = some v) : RD cX9_feed (96 + j) v := rd_z byo_X9_feed byl_X9_feed 6 rfl h
theorem dX9_feed_0 : decode cX9_feed 0 = .ok (.iload_n 3, 1) := dk_29 (byr_X9_feed_0 (j := 0) rfl)
theorem dX9_feed_1 : decode cX9_feed 1 = .ok (.i2l, 1) := dk_133 (byr_X9_feed_0 (j := 1) rfl)
theorem dX9_feed_2 : decode cX9_feed 2 = .ok (.lconst 1, 1) := dk_10 (byr_X9_feed_0 (j := 2) rfl)
theorem dX9_feed_3 : decode cX9_feed 3 = .ok (.ldc2_w 124, 3) := dk_20 (byr_X9_feed_0 (j := 3) rfl) (byr_X9_feed_0 (j := 4) rfl) (byr_X9_feed_0 (j := 5) rfl) (by decide)
theorem dX9_feed_6 : decode cX9_feed 6 = .ok (.invokestatic 49, 3) := dk_184 (byr_X9_feed_0 (j := 6) rfl) (byr_X9_feed_0 (j := 7) rfl) (byr_X9_feed_0 (j := 8) rfl) (by decide)
theorem dX9_feed_9 : decode cX9_feed 9 = .ok (.ifCond .ne 9, 3) := dk_154 (byr_X9_feed_0 (j := 9) rfl) (byr_X9_feed_0 (j := 10) rfl) (byr_X9_feed_0 (j := 11) rfl) (by decide)
theorem dX9_feed_12 : decode cX9_feed 12 = .ok (.aload_n 0, 1) := dk_42 (byr_X9_feed_0 (j := 12) rfl)
theorem dX9_feed_13 : decode cX9_feed 13 = .ok (.iconst 1, 1) := dk_4 (byr_X9_feed_0 (j := 13) rfl)
theorem dX9_feed_14 : decode cX9_feed 14 = .ok (.invokevirtual 126, 3) := dk_182 (byr_X9_feed_0 (j := 14) rfl) (byr_X9_feed_0 (j := 15) rfl) (byr_X9_feed_1 (j := 0) rfl) (by decide)
theorem dX9_feed_17 : decode cX9_feed 17 = .ok (.ireturn, 1) := dk_172 (byr_X9_feed_1 (j := 1) rfl)
theorem dX9_feed_18 : decode cX9_feed 18 = .ok (.aload_n 0, 1) := dk_42 (byr_X9_feed_1 (j := 2) rfl)
theorem dX9_feed_19 : decode cX9_feed 19 = .ok (.getfield 7, 3) := dk_180 (byr_X9_feed_1 (j := 3) rfl) (byr_X9_feed_1 (j := 4) rfl) (byr_X9_feed_1 (j := 5) rfl) (by decide)
theorem dX9_feed_22 : decode cX9_feed 22 = .ok (.bipush 14, 2) := dk_16 (byr_X9_feed_1 (j := 6) rfl) (byr_X9_feed_1 (j := 7) rfl) (by decide)
theorem dX9_feed_24 : decode cX9_feed 24 = .ok (.iaload, 1) := dk_46 (byr_X9_feed_1 (j := 8) rfl)
theorem dX9_feed_25 : decode cX9_feed 25 = .ok (.iload_n 3, 1) := dk_29 (byr_X9_feed_1 (j := 9) rfl)
theorem dX9_feed_26 : decode cX9_feed 26 = .ok (.iadd, 1) := dk_96 (byr_X9_feed_1 (j := 10) rfl)
theorem dX9_feed_27 : decode cX9_feed 27 = .ok (.bipush 50, 2) := dk_16 (byr_X9_feed_1 (j := 11) rfl) (byr_X9_feed_1 (j := 12) rfl) (by decide)
theorem dX9_feed_29 : decode cX9_feed 29 = .ok (.if_icmp .le 9, 3) := dk_164 (byr_X9_feed_1 (j := 13) rfl) (byr_X9_feed_1 (j := 14) rfl) (byr_X9_feed_1 (j := 15) rfl) (by decide)
theorem dX9_feed_32 : decode cX9_feed 32 = .ok (.aload_n 0, 1) := dk_42 (byr_X9_feed_2 (j := 0) rfl)
theorem dX9_feed_33 : decode cX9_feed 33 = .ok (.iconst 4, 1) := dk_7 (byr_X9_feed_2 (j := 1) rfl)
theorem dX9_feed_34 : decode cX9_feed 34 = .ok (.invokevirtual 126, 3) := dk_182 (byr_X9_feed_2 (j := 2) rfl) (byr_X9_feed_2 (j := 3) rfl) (byr_X9_feed_2 (j := 4) rfl) (by decide)
theorem dX9_feed_37 : decode cX9_feed 37 = .ok (.ireturn, 1) := dk_172 (byr_X9_feed_2 (j := 5) rfl)
theorem dX9_feed_38 : decode cX9_feed 38 = .ok (.iconst 0, 1) := dk_3 (byr_X9_feed_2 (j := 6) rfl)
theorem dX9_feed_39 : decode cX9_feed 39 = .ok (.istore 4, 2) := dk_54 (byr_X9_feed_2 (j := 7) rfl) (byr_X9_feed_2 (j := 8) rfl)
theorem dX9_feed_41 : decode cX9_feed 41 = .ok (.iload 4, 2) := dk_21 (byr_X9_feed_2 (j := 9) rfl) (byr_X9_feed_2 (j := 10) rfl)
theorem dX9_feed_43 : decode cX9_feed 43 = .ok (.iload_n 3, 1) := dk_29 (byr_X9_feed_2 (j := 11) rfl)
theorem dX9_feed_44 : decode cX9_feed 44 = .ok (.if_icmp .ge 48, 3) := dk_162 (byr_X9_feed_2 (j := 12) rfl) (byr_X9_feed_2 (j := 13) rfl) (byr_X9_feed_2 (j := 14) rfl) (by decide)
theorem dX9_feed_47 : decode cX9_feed 47 = .ok (.aload_n 0, 1) := dk_42 (byr_X9_feed_2 (j := 15) rfl)
theorem dX9_feed_48 : decode cX9_feed 48 = .ok (.getfield 7, 3) := dk_180 (byr_X9_feed_3 (j := 0) rfl) (byr_X9_feed_3 (j := 1) rfl) (byr_X9_feed_3 (j := 2) rfl) (by decide)
theorem dX9_feed_51 : decode cX9_feed 51 = .ok (.sipush 210, 3) := dk_17 (byr_X9_feed_3 (j := 3) rfl) (byr_X9_feed_3 (j := 4) rfl) (byr_X9_feed_3 (j := 5) rfl) (by decide)
theorem dX9_feed_54 : decode cX9_feed 54 = .ok (.aload_n 0, 1) := dk_42 (byr_X9_feed_3 (j := 6) rfl)
theorem dX9_feed_55 : decode cX9_feed 55 = .ok (.getfield 7, 3) := dk_180 (byr_X9_feed_3 (j := 7) rfl) (byr_X9_feed_3 (j := 8) rfl) (byr_X9_feed_3 (j := 9) rfl) (by decide)
theorem dX9_feed_58 : decode cX9_feed 58 = .ok (.bipush 14, 2) := dk_16 (byr_X9_feed_3 (j := 10) rfl) (byr_X9_feed_3 (j := 11) rfl) (by decide)
theorem dX9_feed_60 : decode cX9_feed 60 = .ok (.iaload, 1) := dk_46 (byr_X9_feed_3 (j := 12) rfl)
theorem dX9_feed_61 : decode cX9_feed 61 = .ok (.iadd, 1) := dk_96 (byr_X9_feed_3 (j := 13) rfl)
theorem dX9_feed_62 : decode cX9_feed 62 = .ok (.lload_n 1, 1) := dk_31 (byr_X9_feed_3 (j := 14) rfl)
theorem dX9_feed_63 : decode cX9_feed 63 = .ok (.bipush 8, 2) := dk_16 (byr_X9_feed_3 (j := 15) rfl) (byr_X9_feed_4 (j := 0) rfl) (by decide)
theorem dX9_feed_65 : decode cX9_feed 65 = .ok (.iload 4, 2) := dk_21 (byr_X9_feed_4 (j := 1) rfl) (byr_X9_feed_4 (j := 2) rfl)
theorem dX9_feed_67 : decode cX9_feed 67 = .ok (.imul, 1) := dk_104 (byr_X9_feed_4 (j := 3) rfl)
theorem dX9_feed_68 : decode cX9_feed 68 = .ok (.lshr, 1) := dk_123 (byr_X9_feed_4 (j := 4) rfl)
theorem dX9_feed_69 : decode cX9_feed 69 = .ok (.ldc2_w 129, 3) := dk_20 (byr_X9_feed_4 (j := 5) rfl) (byr_X9_feed_4 (j := 6) rfl) (byr_X9_feed_4 (j := 7) rfl) (by decide)
theorem dX9_feed_72 : decode cX9_feed 72 = .ok (.land, 1) := dk_127 (byr_X9_feed_4 (j := 8) rfl)
theorem dX9_feed_73 : decode cX9_feed 73 = .ok (.l2i, 1) := dk_136 (byr_X9_feed_4 (j := 9) rfl)
theorem dX9_feed_74 : decode cX9_feed 74 = .ok (.iastore, 1) := dk_79 (byr_X9_feed_4 (j := 10) rfl)
theorem dX9_feed_75 : decode cX9_feed 75 = .ok (.aload_n 0, 1) := dk_42 (byr_X9_feed_4 (j := 11) rfl)
theorem dX9_feed_76 : decode cX9_feed 76 = .ok (.getfield 7, 3) := dk_180 (byr_X9_feed_4 (j := 12) rfl) (byr_X9_feed_4 (j := 13) rfl) (byr_X9_feed_4 (j := 14) rfl) (by decide)
theorem dX9_feed_79 : decode cX9_feed 79 = .ok (.bipush 14, 2) := dk_16 (byr_X9_feed_4 (j := 15) rfl) (byr_X9_feed_5 (j := 0) rfl) (by decide)
theorem dX9_feed_81 : decode cX9_feed 81 = .ok (.dup2, 1) := dk_92 (byr_X9_feed_5 (j := 1) rfl)
theorem dX9_feed_82 : decode cX9_feed 82 = .ok (.iaload, 1) := dk_46 (byr_X9_feed_5 (j := 2) rfl)
theorem dX9_feed_83 : decode cX9_feed 83 = .ok (.iconst 1, 1) := dk_4 (byr_X9_feed_5 (j := 3) rfl)
theorem dX9_feed_84 : decode cX9_feed 84 = .ok (.iadd, 1) := dk_96 (byr_X9_feed_5 (j := 4) rfl)
theorem dX9_feed_85 : decode cX9_feed 85 = .ok (.iastore, 1) := dk_79 (byr_X9_feed_5 (j := 5) rfl)
theorem dX9_feed_86 : decode cX9_feed 86 = .ok (.iinc 4 1, 3) := dk_132 (byr_X9_feed_5 (j := 6) rfl) (byr_X9_feed_5 (j := 7) rfl) (byr_X9_feed_5 (j := 8) rfl) (by decide)
theorem dX9_feed_89 : decode cX9_feed 89 = .ok (.goto (-48), 3) := dk_167 (byr_X9_feed_5 (j := 9) rfl) (byr_X9_feed_5 (j := 10) rfl) (byr_X9_feed_5 (j := 11) rfl) (by decide)
theorem dX9_feed_92 : decode cX9_feed 92 = .ok (.aload_n 0, 1) := dk_42 (byr_X9_feed_5 (j := 12) rfl)
theorem dX9_feed_93 : decode cX9_feed 93 = .ok (.getfield 7, 3) := dk_180 (byr_X9_feed_5 (j := 13) rfl) (byr_X9_feed_5 (j := 14) rfl) (byr_X9_feed_5 (j := 15) rfl) (by decide)
theorem dX9_feed_96 : decode cX9_feed 96 = .ok (.bipush 14, 2) := dk_16 (byr_X9_feed_6 (j := 0) rfl) (byr_X9_feed_6 (j := 1) rfl) (by decide)
theorem dX9_feed_98 : decode cX9_feed 98 = .ok (.iaload, 1) := dk_46 (byr_X9_feed_6 (j := 2) rfl)
theorem dX9_feed_99 : decode cX9_feed 99 = .ok (.ireturn, 1) := dk_172 (byr_X9_feed_6 (j := 3) rfl)
set_option maxHeartbeats 4000000 in
set_option maxRecDepth 100000 in
theorem c_X9_feed (l : Launch) (G : GT) (σ : Sto) (a1 : Int64) (a3 : Int32) (r : (Int32 × Sto)) (h : f_X9_feed σ a1 a3 = some r) : MW l G (3) (89) 0 0 yX9_feed cX9_feed 5 (Option.some Jvm.ClassFile.FieldType.int) [.ref (gad G 81), .long a1, .int a3] (wl G σ) (some (.int r.1)) (wl G r.2) := by
  refine mw_of RX9 (fiI G) [(0, .ref (gad G 81)), (1, .long a1), (3, .int a3)] (by decide +kernel) rfl (Nat.le_of_ble_eq_true rfl) rfl h rfl (fun p e s m args below meth c X hr hnm => ?_)
  have J41 : ∀ (v1 : Int64) (v3 : Int32)  (n : Nat) (v4 : Int32) (σ : Sto), Sm p l e { frames := 3, cells := 0, slots := 0, locals := 89 } s m args below meth c G 5 (Qm below args s G 0 0 (fiI G)) 0 0 (wl G σ) 41 [(0, .ref (gad G 81)), (1, .long v1), (3, .int v3), (4, .int v4)] [] (f_X9_feed_L41  v1 v3 n v4 σ) := by
    intro v1 v3 n
    induction n with
    | zero => intro v4 σ; rw [f_X9_feed_L41]; exact sm_none
    | succ n ihl =>
      intro v4 σ
      rw [f_X9_feed_L41]
      refine sm_iload X 43 3 dX9_feed_41 rfl rfl ?_
      refine sm_iload_n X 44 2 dX9_feed_43 rfl rfl rfl ?_
      refine sm_icmp_ge X 47 92 dX9_feed_44 rfl (by decide) (fun h44 => ?_) (fun h44 => ?_)
      · refine sm_aload_n X 93 0 dX9_feed_92 rfl rfl rfl ?_
        refine sm_getf X 96 82 rfl fd_9_0 rfl dX9_feed_93 rfl q_882 ?_
        refine sm_bipush X 98 (14) dX9_feed_96 rfl rfl ?_
        refine sm_iald X 99 rfl dX9_feed_98 rfl (fun r98 e98 => ?_)
        clear e98
        exact sm_iret X hr dX9_feed_99 rfl
      · refine sm_aload_n X 48 0 dX9_feed_47 rfl rfl rfl ?_
        refine sm_getf X 51 82 rfl fd_9_0 rfl dX9_feed_48 rfl q_882 ?_
        refine sm_sipush X 54 (210) dX9_feed_51 rfl rfl ?_
        refine sm_aload_n X 55 0 dX9_feed_54 rfl rfl rfl ?_
        refine sm_getf X 58 82 rfl fd_9_0 rfl dX9_feed_55 rfl q_882 ?_
        refine sm_bipush X 60 (14) dX9_feed_58 rfl rfl ?_
        refine sm_iald X 61 rfl dX9_feed_60 rfl (fun r60 e60 => ?_)
        clear e60
        refine sm_iadd X 62 dX9_feed_61 rfl ?_
        refine sm_lload_n X 63 1 dX9_feed_62 rfl rfl rfl ?_
        refine sm_bipush X 65 (8) dX9_feed_63 rfl rfl ?_
        refine sm_iload X 67 3 dX9_feed_65 rfl rfl ?_
        refine sm_imul X 68 dX9_feed_67 rfl ?_
        refine sm_lshr X 69 dX9_feed_68 rfl ?_
        refine sm_ldc2 X 72 (255) dX9_feed_69 rfl q_968 ?_
        refine sm_land X 73 dX9_feed_72 rfl ?_
        refine sm_l2i X 74 dX9_feed_73 rfl ?_
        refine sm_iast X 75 rfl dX9_feed_74 rfl (fun σ74 e74 => ?_)
        clear e74
        refine sm_aload_n X 76 0 dX9_feed_75 rfl rfl rfl ?_
        refine sm_getf X 79 82 rfl fd_9_0 rfl dX9_feed_76 rfl q_882 ?_
        refine sm_bipush X 81 (14) dX9_feed_79 rfl rfl ?_
        refine sm_dup2 X 82 dX9_feed_81 rfl rfl rfl ?_
        refine sm_iald X 83 rfl dX9_feed_82 rfl (fun r82 e82 => ?_)
        clear e82
        refine sm_iconst X 84 (1) dX9_feed_83 rfl rfl ?_
        refine sm_iadd X 85 dX9_feed_84 rfl ?_
        refine sm_iast X 86 rfl dX9_feed_85 rfl (fun σ85 e85 => ?_)
        clear e85
        refine sm_iinc X 89 3 (1 : Int32) [(4, .int (v4 + (1 : Int32))), (0, .ref (gad G 81)), (1, .long v1), (3, .int v3)] dX9_feed_86 rfl rfl rfl (by decide) rfl ?_
        refine sm_goto X 41 dX9_feed_89 (by decide) ?_
        exact sm_sub [1, 2, 3, 0] rfl (ihl (v4 + (1 : Int32)) σ85)
  unfold f_X9_feed
  refine sm_iload_n X 1 2 dX9_feed_0 rfl rfl rfl ?_
  refine sm_i2l X 2 dX9_feed_1 rfl ?_
  refine sm_lconst X 3 (1) dX9_feed_2 rfl rfl ?_
  refine sm_ldc2 X 6 (8) dX9_feed_3 rfl q_959 ?_
  refine sm_bind (fun r6 h6 => ?_)
  refine sm_callS0 X 9 [.long (Int32.toInt64 a3), .long (1 : Int64), .long (8 : Int64)] [] [.int (b2i r6)] (c_X9_in l G σ (Int32.toInt64 a3) (1 : Int64) (8 : Int64) r6 h6) cw_X9_in q_961 q_960 rfl rfl rfl (Nat.le_of_ble_eq_true rfl) ⟨Nat.le_of_ble_eq_true rfl, Nat.le_of_ble_eq_true rfl⟩ ⟨Nat.le_refl _, Nat.le_refl _⟩ dX9_feed_6 rfl ?_
  refine sm_ifz_ne X 12 18 dX9_feed_9 rfl (by decide) (fun h9 => ?_) (fun h9 => ?_)
  · refine sm_aload_n X 19 0 dX9_feed_18 rfl rfl rfl ?_
    refine sm_getf X 22 82 rfl fd_9_0 rfl dX9_feed_19 rfl q_882 ?_
    refine sm_bipush X 24 (14) dX9_feed_22 rfl rfl ?_
    refine sm_iald X 25 rfl dX9_feed_24 rfl (fun r24 e24 => ?_)
    clear e24
    refine sm_iload_n X 26 2 dX9_feed_25 rfl rfl rfl ?_
    refine sm_iadd X 27 dX9_feed_26 rfl ?_
    refine sm_bipush X 29 (50) dX9_feed_27 rfl rfl ?_
    refine sm_icmp_le X 32 38 dX9_feed_29 rfl (by decide) (fun h29 => ?_) (fun h29 => ?_)
    · refine sm_iconst X 39 (0) dX9_feed_38 rfl rfl ?_
      refine sm_istore X 41 [(4, .int 0), (0, .ref (gad G 81)), (1, .long a1), (3, .int a3)] dX9_feed_39 rfl (by decide) rfl ?_
      exact sm_sub [1, 2, 3, 0] rfl (J41 a1 a3  FU (0 : Int32) σ)
    · refine sm_aload_n X 33 0 dX9_feed_32 rfl rfl rfl ?_
      refine sm_iconst X 34 (4) dX9_feed_33 rfl rfl ?_
      refine sm_bind (fun r34 h34 => ?_)
      refine sm_callV0 X 37 [.int 4] [] [.int r34.1] (c_X9_finds l G σ (4 : Int32) r34 h34) cw_X9_finds q_965 qs_26 q_963 rfl (by decide) rfl rfl rfl rfl rfl (Nat.le_of_ble_eq_true rfl) ⟨Nat.le_of_ble_eq_true rfl, Nat.le_of_ble_eq_true rfl⟩ ⟨Nat.le_refl _, Nat.le_refl _⟩ dX9_feed_34 rfl ?_
      exact sm_iret X hr dX9_feed_37 rfl
  · refine sm_aload_n X 13 0 dX9_feed_12 rfl rfl rfl ?_
    refine sm_iconst X 14 (1) dX9_feed_13 rfl rfl ?_
    refine sm_bind (fun r14 h14 => ?_)
    refine sm_callV0 X 17 [.int 1] [] [.int r14.1] (c_X9_finds l G σ (1 : Int32) r14 h14) cw_X9_finds q_965 qs_26 q_963 rfl (by decide) rfl rfl rfl rfl rfl (Nat.le_of_ble_eq_true rfl) ⟨Nat.le_of_ble_eq_true rfl, Nat.le_of_ble_eq_true rfl⟩ ⟨Nat.le_refl _, Nat.le_refl _⟩ dX9_feed_14 rfl ?_
    exact sm_iret X hr dX9_feed_17 rfl
def by_X9_text_0 : List Nat := [27, 133, 9, 10, 184, 0, 49, 154, 0, 9, 42, 4, 182, 0, 126, 172]
def by_X9_text_1 : List Nat := [42, 180, 0, 7, 16, 14, 46, 61, 42, 180, 0, 7, 16, 14, 3, 79]
def by_X9_text_2 : List Nat := [42, 17, 0, 210, 28, 27, 182, 0, 131, 42, 180, 0, 60, 155, 0, 11]
def by_X9_text_3 : List Nat := [16, 246, 42, 180, 0, 60, 100, 172, 42, 180, 0, 7, 16, 88, 27, 96]
def by_X9_text_4 : List Nat := [42, 180, 0, 74, 79, 3, 62, 29, 42, 180, 0, 74, 162, 0, 29, 42]
def by_X9_text_5 : List Nat := [180, 0, 7, 16, 110, 16, 50, 27, 104, 96, 29, 96, 42, 180, 0, 25]
def by_X9_text_z : List Nat := [29, 46, 79, 132, 3, 1, 167, 255, 225, 4, 172]
def by_X9_text : List (List Nat) := [by_X9_text_0, by_X9_text_1, by_X9_text_2, by_X9_text_3, by_X9_text_4, by_X9_text_5]
set_option maxRecDepth 100000 in
theorem byo_X9_text : cX9_text.data.toList.map UInt8.toNat = by_X9_text.flatten ++ by_X9_text_z := by decide +kernel
theorem byl_X9_text : by_X9_text.all (fun r => r.length == 16) = true := by decide +kernel
theorem byr_X9_text_0 {j v : Nat} (h : by_X9_text_0[j]? = some v) : RD cX9_text (0 + j) v := rd_16 byo_X9_text byl_X9_text 0 rfl h
theorem byr_X9_text_1 {j v : Nat} (h : by_X9_text_1[j]? = some v) : RD cX9_text (16 + j) v := rd_16 byo_X9_text byl_X9_text 1 rfl h
theorem byr_X9_text_2 {j v : Nat} (h : by_X9_text_2[j]? = some v) : RD cX9_text (32 + j) v := rd_16 byo_X9_text byl_X9_text 2 rfl h
theorem byr_X9_text_3 {j v : Nat} (h : by_X9_text_3[j]? = some v) : RD cX9_text (48 + j) v := rd_16 byo_X9_text byl_X9_text 3 rfl h
theorem byr_X9_text_4 {j v : Nat} (h : by_X9_text_4[j]? = some v) : RD cX9_text (64 + j) v := rd_16 byo_X9_text byl_X9_text 4 rfl h
theorem byr_X9_text_5 {j v : Nat} (h : by_X9_text_5[j]? = some v) : RD cX9_text (80 + j) v := rd_16 byo_X9_text byl_X9_text 5 rfl h
theorem byr_X9_text_6 {j v : Nat} (h : by_X9_text_z[j]? = some v) : RD cX9_text (96 + j) v := rd_z byo_X9_text byl_X9_text 6 rfl h
theorem dX9_text_0 : decode cX9_text 0 = .ok (.iload_n 1, 1) := dk_27 (byr_X9_text_0 (j := 0) rfl)
theorem dX9_text_1 : decode cX9_text 1 = .ok (.i2l, 1) := dk_133 (byr_X9_text_0 (j := 1) rfl)
theorem dX9_text_2 : decode cX9_text 2 = .ok (.lconst 0, 1) := dk_9 (byr_X9_text_0 (j := 2) rfl)
theorem dX9_text_3 : decode cX9_text 3 = .ok (.lconst 1, 1) := dk_10 (byr_X9_text_0 (j := 3) rfl)
theorem dX9_text_4 : decode cX9_text 4 = .ok (.invokestatic 49, 3) := dk_184 (byr_X9_text_0 (j := 4) rfl) (byr_X9_text_0 (j := 5) rfl) (byr_X9_text_0 (j := 6) rfl) (by decide)
theorem dX9_text_7 : decode cX9_text 7 = .ok (.ifCond .ne 9, 3) := dk_154 (byr_X9_text_0 (j := 7) rfl) (byr_X9_text_0 (j := 8) rfl) (byr_X9_text_0 (j := 9) rfl) (by decide)
theorem dX9_text_10 : decode cX9_text 10 = .ok (.aload_n 0, 1) := dk_42 (byr_X9_text_0 (j := 10) rfl)
theorem dX9_text_11 : decode cX9_text 11 = .ok (.iconst 1, 1) := dk_4 (byr_X9_text_0 (j := 11) rfl)
theorem dX9_text_12 : decode cX9_text 12 = .ok (.invokevirtual 126, 3) := dk_182 (byr_X9_text_0 (j := 12) rfl) (byr_X9_text_0 (j := 13) rfl) (byr_X9_text_0 (j := 14) rfl) (by decide)
theorem dX9_text_15 : decode cX9_text 15 = .ok (.ireturn, 1) := dk_172 (byr_X9_text_0 (j := 15) rfl)
theorem dX9_text_16 : decode cX9_text 16 = .ok (.aload_n 0, 1) := dk_42 (byr_X9_text_1 (j := 0) rfl)
theorem dX9_text_17 : decode cX9_text 17 = .ok (.getfield 7, 3) := dk_180 (byr_X9_text_1 (j := 1) rfl) (byr_X9_text_1 (j := 2) rfl) (byr_X9_text_1 (j := 3) rfl) (by decide)
theorem dX9_text_20 : decode cX9_text 20 = .ok (.bipush 14, 2) := dk_16 (byr_X9_text_1 (j := 4) rfl) (byr_X9_text_1 (j := 5) rfl) (by decide)
theorem dX9_text_22 : decode cX9_text 22 = .ok (.iaload, 1) := dk_46 (byr_X9_text_1 (j := 6) rfl)
theorem dX9_text_23 : decode cX9_text 23 = .ok (.istore_n 2, 1) := dk_61 (byr_X9_text_1 (j := 7) rfl)
theorem dX9_text_24 : decode cX9_text 24 = .ok (.aload_n 0, 1) := dk_42 (byr_X9_text_1 (j := 8) rfl)
theorem dX9_text_25 : decode cX9_text 25 = .ok (.getfield 7, 3) := dk_180 (byr_X9_text_1 (j := 9) rfl) (byr_X9_text_1 (j := 10) rfl) (byr_X9_text_1 (j := 11) rfl) (by decide)
theorem dX9_text_28 : decode cX9_text 28 = .ok (.bipush 14, 2) := dk_16 (byr_X9_text_1 (j := 12) rfl) (byr_X9_text_1 (j := 13) rfl) (by decide)
theorem dX9_text_30 : decode cX9_text 30 = .ok (.iconst 0, 1) := dk_3 (byr_X9_text_1 (j := 14) rfl)
theorem dX9_text_31 : decode cX9_text 31 = .ok (.iastore, 1) := dk_79 (byr_X9_text_1 (j := 15) rfl)
theorem dX9_text_32 : decode cX9_text 32 = .ok (.aload_n 0, 1) := dk_42 (byr_X9_text_2 (j := 0) rfl)
theorem dX9_text_33 : decode cX9_text 33 = .ok (.sipush 210, 3) := dk_17 (byr_X9_text_2 (j := 1) rfl) (byr_X9_text_2 (j := 2) rfl) (byr_X9_text_2 (j := 3) rfl) (by decide)
theorem dX9_text_36 : decode cX9_text 36 = .ok (.iload_n 2, 1) := dk_28 (byr_X9_text_2 (j := 4) rfl)
theorem dX9_text_37 : decode cX9_text 37 = .ok (.iload_n 1, 1) := dk_27 (byr_X9_text_2 (j := 5) rfl)
theorem dX9_text_38 : decode cX9_text 38 = .ok (.invokevirtual 131, 3) := dk_182 (byr_X9_text_2 (j := 6) rfl) (byr_X9_text_2 (j := 7) rfl) (byr_X9_text_2 (j := 8) rfl) (by decide)
theorem dX9_text_41 : decode cX9_text 41 = .ok (.aload_n 0, 1) := dk_42 (byr_X9_text_2 (j := 9) rfl)
theorem dX9_text_42 : decode cX9_text 42 = .ok (.getfield 60, 3) := dk_180 (byr_X9_text_2 (j := 10) rfl) (byr_X9_text_2 (j := 11) rfl) (byr_X9_text_2 (j := 12) rfl) (by decide)
theorem dX9_text_45 : decode cX9_text 45 = .ok (.ifCond .lt 11, 3) := dk_155 (byr_X9_text_2 (j := 13) rfl) (byr_X9_text_2 (j := 14) rfl) (byr_X9_text_2 (j := 15) rfl) (by decide)
theorem dX9_text_48 : decode cX9_text 48 = .ok (.bipush (-10), 2) := dk_16 (byr_X9_text_3 (j := 0) rfl) (byr_X9_text_3 (j := 1) rfl) (by decide)
theorem dX9_text_50 : decode cX9_text 50 = .ok (.aload_n 0, 1) := dk_42 (byr_X9_text_3 (j := 2) rfl)
theorem dX9_text_51 : decode cX9_text 51 = .ok (.getfield 60, 3) := dk_180 (byr_X9_text_3 (j := 3) rfl) (byr_X9_text_3 (j := 4) rfl) (byr_X9_text_3 (j := 5) rfl) (by decide)
theorem dX9_text_54 : decode cX9_text 54 = .ok (.isub, 1) := dk_100 (byr_X9_text_3 (j := 6) rfl)
theorem dX9_text_55 : decode cX9_text 55 = .ok (.ireturn, 1) := dk_172 (byr_X9_text_3 (j := 7) rfl)
theorem dX9_text_56 : decode cX9_text 56 = .ok (.aload_n 0, 1) := dk_42 (byr_X9_text_3 (j := 8) rfl)
theorem dX9_text_57 : decode cX9_text 57 = .ok (.getfield 7, 3) := dk_180 (byr_X9_text_3 (j := 9) rfl) (byr_X9_text_3 (j := 10) rfl) (byr_X9_text_3 (j := 11) rfl) (by decide)
theorem dX9_text_60 : decode cX9_text 60 = .ok (.bipush 88, 2) := dk_16 (byr_X9_text_3 (j := 12) rfl) (byr_X9_text_3 (j := 13) rfl) (by decide)
theorem dX9_text_62 : decode cX9_text 62 = .ok (.iload_n 1, 1) := dk_27 (byr_X9_text_3 (j := 14) rfl)
theorem dX9_text_63 : decode cX9_text 63 = .ok (.iadd, 1) := dk_96 (byr_X9_text_3 (j := 15) rfl)
theorem dX9_text_64 : decode cX9_text 64 = .ok (.aload_n 0, 1) := dk_42 (byr_X9_text_4 (j := 0) rfl)
theorem dX9_text_65 : decode cX9_text 65 = .ok (.getfield 74, 3) := dk_180 (byr_X9_text_4 (j := 1) rfl) (byr_X9_text_4 (j := 2) rfl) (byr_X9_text_4 (j := 3) rfl) (by decide)
theorem dX9_text_68 : decode cX9_text 68 = .ok (.iastore, 1) := dk_79 (byr_X9_text_4 (j := 4) rfl)
theorem dX9_text_69 : decode cX9_text 69 = .ok (.iconst 0, 1) := dk_3 (byr_X9_text_4 (j := 5) rfl)
theorem dX9_text_70 : decode cX9_text 70 = .ok (.istore_n 3, 1) := dk_62 (byr_X9_text_4 (j := 6) rfl)
theorem dX9_text_71 : decode cX9_text 71 = .ok (.iload_n 3, 1) := dk_29 (byr_X9_text_4 (j := 7) rfl)
theorem dX9_text_72 : decode cX9_text 72 = .ok (.aload_n 0, 1) := dk_42 (byr_X9_text_4 (j := 8) rfl)
theorem dX9_text_73 : decode cX9_text 73 = .ok (.getfield 74, 3) := dk_180 (byr_X9_text_4 (j := 9) rfl) (byr_X9_text_4 (j := 10) rfl) (byr_X9_text_4 (j := 11) rfl) (by decide)
theorem dX9_text_76 : decode cX9_text 76 = .ok (.if_icmp .ge 29, 3) := dk_162 (byr_X9_text_4 (j := 12) rfl) (byr_X9_text_4 (j := 13) rfl) (byr_X9_text_4 (j := 14) rfl) (by decide)
theorem dX9_text_79 : decode cX9_text 79 = .ok (.aload_n 0, 1) := dk_42 (byr_X9_text_4 (j := 15) rfl)
theorem dX9_text_80 : decode cX9_text 80 = .ok (.getfield 7, 3) := dk_180 (byr_X9_text_5 (j := 0) rfl) (byr_X9_text_5 (j := 1) rfl) (byr_X9_text_5 (j := 2) rfl) (by decide)
theorem dX9_text_83 : decode cX9_text 83 = .ok (.bipush 110, 2) := dk_16 (byr_X9_text_5 (j := 3) rfl) (byr_X9_text_5 (j := 4) rfl) (by decide)
theorem dX9_text_85 : decode cX9_text 85 = .ok (.bipush 50, 2) := dk_16 (byr_X9_text_5 (j := 5) rfl) (byr_X9_text_5 (j := 6) rfl) (by decide)
theorem dX9_text_87 : decode cX9_text 87 = .ok (.iload_n 1, 1) := dk_27 (byr_X9_text_5 (j := 7) rfl)
theorem dX9_text_88 : decode cX9_text 88 = .ok (.imul, 1) := dk_104 (byr_X9_text_5 (j := 8) rfl)
theorem dX9_text_89 : decode cX9_text 89 = .ok (.iadd, 1) := dk_96 (byr_X9_text_5 (j := 9) rfl)
theorem dX9_text_90 : decode cX9_text 90 = .ok (.iload_n 3, 1) := dk_29 (byr_X9_text_5 (j := 10) rfl)
theorem dX9_text_91 : decode cX9_text 91 = .ok (.iadd, 1) := dk_96 (byr_X9_text_5 (j := 11) rfl)
theorem dX9_text_92 : decode cX9_text 92 = .ok (.aload_n 0, 1) := dk_42 (byr_X9_text_5 (j := 12) rfl)
theorem dX9_text_93 : decode cX9_text 93 = .ok (.getfield 25, 3) := dk_180 (byr_X9_text_5 (j := 13) rfl) (byr_X9_text_5 (j := 14) rfl) (byr_X9_text_5 (j := 15) rfl) (by decide)
theorem dX9_text_96 : decode cX9_text 96 = .ok (.iload_n 3, 1) := dk_29 (byr_X9_text_6 (j := 0) rfl)
theorem dX9_text_97 : decode cX9_text 97 = .ok (.iaload, 1) := dk_46 (byr_X9_text_6 (j := 1) rfl)
theorem dX9_text_98 : decode cX9_text 98 = .ok (.iastore, 1) := dk_79 (byr_X9_text_6 (j := 2) rfl)
theorem dX9_text_99 : decode cX9_text 99 = .ok (.iinc 3 1, 3) := dk_132 (byr_X9_text_6 (j := 3) rfl) (byr_X9_text_6 (j := 4) rfl) (byr_X9_text_6 (j := 5) rfl) (by decide)
theorem dX9_text_102 : decode cX9_text 102 = .ok (.goto (-31), 3) := dk_167 (byr_X9_text_6 (j := 6) rfl) (byr_X9_text_6 (j := 7) rfl) (byr_X9_text_6 (j := 8) rfl) (by decide)
theorem dX9_text_105 : decode cX9_text 105 = .ok (.iconst 1, 1) := dk_4 (byr_X9_text_6 (j := 9) rfl)
theorem dX9_text_106 : decode cX9_text 106 = .ok (.ireturn, 1) := dk_172 (byr_X9_text_6 (j := 10) rfl)
set_option maxHeartbeats 4000000 in
set_option maxRecDepth 100000 in
theorem c_X9_text (l : Launch) (G : GT) (σ : Sto) (a1 : Int32) (r : (Int32 × Sto)) (h : f_X9_text σ a1 = some r) : MW l G (71) (4308) 0 0 yX9_text cX9_text 4 (Option.some Jvm.ClassFile.FieldType.int) [.ref (gad G 81), .int a1] (wl G σ) (some (.int r.1)) (wl G r.2) := by
  refine mw_of RX9 (fiI G) [(0, .ref (gad G 81)), (1, .int a1)] (by decide +kernel) rfl (Nat.le_of_ble_eq_true rfl) rfl h rfl (fun p e s m args below meth c X hr hnm => ?_)
  have J71 : ∀ (v1 : Int32)  (n : Nat) (v3 : Int32) (σ : Sto), Sm p l e { frames := 71, cells := 0, slots := 0, locals := 4308 } s m args below meth c G 4 (Qm below args s G 0 0 (fiI G)) 0 0 (wl G σ) 71 [(0, .ref (gad G 81)), (1, .int v1), (3, .int v3)] [] (f_X9_text_L71  v1 n v3 σ) := by
    intro v1 n
    induction n with
    | zero => intro v3 σ; rw [f_X9_text_L71]; exact sm_none
    | succ n ihl =>
      intro v3 σ
      rw [f_X9_text_L71]
      refine sm_iload_n X 72 2 dX9_text_71 rfl rfl rfl ?_
      refine sm_aload_n X 73 0 dX9_text_72 rfl rfl rfl ?_
      refine sm_geti X 76 rfl fd_9_13 dX9_text_73 rfl q_895 ?_
      refine sm_icmp_ge X 79 105 dX9_text_76 rfl (by decide) (fun h76 => ?_) (fun h76 => ?_)
      · refine sm_iconst X 106 (1) dX9_text_105 rfl rfl ?_
        exact sm_iret X hr dX9_text_106 rfl
      · refine sm_aload_n X 80 0 dX9_text_79 rfl rfl rfl ?_
        refine sm_getf X 83 82 rfl fd_9_0 rfl dX9_text_80 rfl q_882 ?_
        refine sm_bipush X 85 (110) dX9_text_83 rfl rfl ?_
        refine sm_bipush X 87 (50) dX9_text_85 rfl rfl ?_
        refine sm_iload_n X 88 1 dX9_text_87 rfl rfl rfl ?_
        refine sm_imul X 89 dX9_text_88 rfl ?_
        refine sm_iadd X 90 dX9_text_89 rfl ?_
        refine sm_iload_n X 91 2 dX9_text_90 rfl rfl rfl ?_
        refine sm_iadd X 92 dX9_text_91 rfl ?_
        refine sm_aload_n X 93 0 dX9_text_92 rfl rfl rfl ?_
        refine sm_getf X 96 87 rfl fd_9_12 rfl dX9_text_93 rfl q_894 ?_
        refine sm_iload_n X 97 2 dX9_text_96 rfl rfl rfl ?_
        refine sm_iald X 98 rfl dX9_text_97 rfl (fun r97 e97 => ?_)
        clear e97
        refine sm_iast X 99 rfl dX9_text_98 rfl (fun σ98 e98 => ?_)
        clear e98
        refine sm_iinc X 102 2 (1 : Int32) [(3, .int (v3 + (1 : Int32))), (0, .ref (gad G 81)), (1, .int v1)] dX9_text_99 rfl rfl rfl (by decide) rfl ?_
        refine sm_goto X 71 dX9_text_102 (by decide) ?_
        exact sm_sub [1, 2, 0] rfl (ihl (v3 + (1 : Int32)) σ98)
  unfold f_X9_text
  refine sm_iload_n X 1 1 dX9_text_0 rfl rfl rfl ?_
  refine sm_i2l X 2 dX9_text_1 rfl ?_
  refine sm_lconst X 3 (0) dX9_text_2 rfl rfl ?_
  refine sm_lconst X 4 (1) dX9_text_3 rfl rfl ?_
  refine sm_bind (fun r4 h4 => ?_)
  refine sm_callS0 X 7 [.long (Int32.toInt64 a1), .long (0 : Int64), .long (1 : Int64)] [] [.int (b2i r4)] (c_X9_in l G σ (Int32.toInt64 a1) (0 : Int64) (1 : Int64) r4 h4) cw_X9_in q_961 q_960 rfl rfl rfl (Nat.le_of_ble_eq_true rfl) ⟨Nat.le_of_ble_eq_true rfl, Nat.le_of_ble_eq_true rfl⟩ ⟨Nat.le_refl _, Nat.le_refl _⟩ dX9_text_4 rfl ?_
  refine sm_ifz_ne X 10 16 dX9_text_7 rfl (by decide) (fun h7 => ?_) (fun h7 => ?_)
  · refine sm_aload_n X 17 0 dX9_text_16 rfl rfl rfl ?_
    refine sm_getf X 20 82 rfl fd_9_0 rfl dX9_text_17 rfl q_882 ?_
    refine sm_bipush X 22 (14) dX9_text_20 rfl rfl ?_
    refine sm_iald X 23 rfl dX9_text_22 rfl (fun r22 e22 => ?_)
    clear e22
    refine sm_istore_n X 24 [(2, .int r22), (0, .ref (gad G 81)), (1, .int a1)] dX9_text_23 rfl rfl (by decide) rfl ?_
    refine sm_aload_n X 25 1 dX9_text_24 rfl rfl rfl ?_
    refine sm_getf X 28 82 rfl fd_9_0 rfl dX9_text_25 rfl q_882 ?_
    refine sm_bipush X 30 (14) dX9_text_28 rfl rfl ?_
    refine sm_iconst X 31 (0) dX9_text_30 rfl rfl ?_
    refine sm_iast X 32 rfl dX9_text_31 rfl (fun σ31 e31 => ?_)
    clear e31
    refine sm_aload_n X 33 1 dX9_text_32 rfl rfl rfl ?_
    refine sm_sipush X 36 (210) dX9_text_33 rfl rfl ?_
    refine sm_iload_n X 37 0 dX9_text_36 rfl rfl rfl ?_
    refine sm_iload_n X 38 2 dX9_text_37 rfl rfl rfl ?_
    refine sm_bind (fun r38 h38 => ?_)
    refine sm_callV0 X 41 [.int 210, .int r22, .int a1] [] [] (c_X9_reads l G σ31 (210 : Int32) r22 a1 r38 h38) cw_X9_reads q_975 qs_27 q_973 rfl (by decide) rfl rfl rfl rfl rfl (Nat.le_of_ble_eq_true rfl) ⟨Nat.le_of_ble_eq_true rfl, Nat.le_of_ble_eq_true rfl⟩ ⟨Nat.le_refl _, Nat.le_refl _⟩ dX9_text_38 rfl ?_
    refine sm_aload_n X 42 1 dX9_text_41 rfl rfl rfl ?_
    refine sm_geti X 45 rfl fd_9_8 dX9_text_42 rfl q_890 ?_
    refine sm_if_lt X 48 56 dX9_text_45 rfl (by decide) (fun h45 => ?_) (fun h45 => ?_)
    · refine sm_aload_n X 57 1 dX9_text_56 rfl rfl rfl ?_
      refine sm_getf X 60 82 rfl fd_9_0 rfl dX9_text_57 rfl q_882 ?_
      refine sm_bipush X 62 (88) dX9_text_60 rfl rfl ?_
      refine sm_iload_n X 63 2 dX9_text_62 rfl rfl rfl ?_
      refine sm_iadd X 64 dX9_text_63 rfl ?_
      refine sm_aload_n X 65 1 dX9_text_64 rfl rfl rfl ?_
      refine sm_geti X 68 rfl fd_9_13 dX9_text_65 rfl q_895 ?_
      refine sm_iast X 69 rfl dX9_text_68 rfl (fun σ68 e68 => ?_)
      clear e68
      refine sm_iconst X 70 (0) dX9_text_69 rfl rfl ?_
      refine sm_istore_n X 71 [(3, .int 0), (2, .int r22), (0, .ref (gad G 81)), (1, .int a1)] dX9_text_70 rfl rfl (by decide) rfl ?_
      exact sm_sub [2, 3, 0] rfl (J71 a1  FU (0 : Int32) σ68)
    · refine sm_bipush X 50 (-10) dX9_text_48 rfl rfl ?_
      refine sm_aload_n X 51 1 dX9_text_50 rfl rfl rfl ?_
      refine sm_geti X 54 rfl fd_9_8 dX9_text_51 rfl q_890 ?_
      refine sm_isub X 55 dX9_text_54 rfl ?_
      exact sm_iret X hr dX9_text_55 rfl
  · refine sm_aload_n X 11 0 dX9_text_10 rfl rfl rfl ?_
    refine sm_iconst X 12 (1) dX9_text_11 rfl rfl ?_
    refine sm_bind (fun r12 h12 => ?_)
    refine sm_callV0 X 15 [.int 1] [] [.int r12.1] (c_X9_finds l G σ (1 : Int32) r12 h12) cw_X9_finds q_965 qs_26 q_963 rfl (by decide) rfl rfl rfl rfl rfl (Nat.le_of_ble_eq_true rfl) ⟨Nat.le_of_ble_eq_true rfl, Nat.le_of_ble_eq_true rfl⟩ ⟨Nat.le_refl _, Nat.le_refl _⟩ dX9_text_12 rfl ?_
    exact sm_iret X hr dX9_text_15 rfl
def by_X9_gives_0 : List Nat := [27, 154, 0, 11, 28, 5, 29, 104, 96, 167, 0, 7, 28, 16, 12, 108]
def by_X9_gives_1 : List Nat := [54, 5, 42, 180, 0, 7, 16, 88, 27, 96, 46, 158, 0, 47, 42, 180]
def by_X9_gives_2 : List Nat := [0, 22, 3, 28, 79, 42, 180, 0, 22, 4, 29, 79, 42, 180, 0, 22]
def by_X9_gives_3 : List Nat := [5, 21, 4, 79, 42, 16, 110, 16, 50, 27, 104, 96, 42, 180, 0, 7]
def by_X9_gives_4 : List Nat := [16, 88, 27, 96, 46, 182, 0, 135, 54, 5, 27, 154, 0, 15, 21, 5]
def by_X9_gives_5 : List Nat := [16, 226, 16, 30, 184, 0, 139, 167, 0, 11, 21, 5, 3, 16, 100, 184]
def by_X9_gives_z : List Nat := [0, 139, 172]
def by_X9_gives : List (List Nat) := [by_X9_gives_0, by_X9_gives_1, by_X9_gives_2, by_X9_gives_3, by_X9_gives_4, by_X9_gives_5]
set_option maxRecDepth 100000 in
theorem byo_X9_gives : cX9_gives.data.toList.map UInt8.toNat = by_X9_gives.flatten ++ by_X9_gives_z := by decide +kernel
theorem byl_X9_gives : by_X9_gives.all (fun r => r.length == 16) = true := by decide +kernel
theorem byr_X9_gives_0 {j v : Nat} (h : by_X9_gives_0[j]? = some v) : RD cX9_gives (0 + j) v := rd_16 byo_X9_gives byl_X9_gives 0 rfl h
theorem byr_X9_gives_1 {j v : Nat} (h : by_X9_gives_1[j]? = some v) : RD cX9_gives (16 + j) v := rd_16 byo_X9_gives byl_X9_gives 1 rfl h
theorem byr_X9_gives_2 {j v : Nat} (h : by_X9_gives_2[j]? = some v) : RD cX9_gives (32 + j) v := rd_16 byo_X9_gives byl_X9_gives 2 rfl h
theorem byr_X9_gives_3 {j v : Nat} (h : by_X9_gives_3[j]? = some v) : RD cX9_gives (48 + j) v := rd_16 byo_X9_gives byl_X9_gives 3 rfl h
theorem byr_X9_gives_4 {j v : Nat} (h : by_X9_gives_4[j]? = some v) : RD cX9_gives (64 + j) v := rd_16 byo_X9_gives byl_X9_gives 4 rfl h
theorem byr_X9_gives_5 {j v : Nat} (h : by_X9_gives_5[j]? = some v) : RD cX9_gives (80 + j) v := rd_16 byo_X9_gives byl_X9_gives 5 rfl h
theorem byr_X9_gives_6 {j v : Nat} (h : by_X9_gives_z[j]? = some v) : RD cX9_gives (96 + j) v := rd_z byo_X9_gives byl_X9_gives 6 rfl h
theorem dX9_gives_0 : decode cX9_gives 0 = .ok (.iload_n 1, 1) := dk_27 (byr_X9_gives_0 (j := 0) rfl)
theorem dX9_gives_1 : decode cX9_gives 1 = .ok (.ifCond .ne 11, 3) := dk_154 (byr_X9_gives_0 (j := 1) rfl) (byr_X9_gives_0 (j := 2) rfl) (byr_X9_gives_0 (j := 3) rfl) (by decide)
theorem dX9_gives_4 : decode cX9_gives 4 = .ok (.iload_n 2, 1) := dk_28 (byr_X9_gives_0 (j := 4) rfl)
theorem dX9_gives_5 : decode cX9_gives 5 = .ok (.iconst 2, 1) := dk_5 (byr_X9_gives_0 (j := 5) rfl)
theorem dX9_gives_6 : decode cX9_gives 6 = .ok (.iload_n 3, 1) := dk_29 (byr_X9_gives_0 (j := 6) rfl)
theorem dX9_gives_7 : decode cX9_gives 7 = .ok (.imul, 1) := dk_104 (byr_X9_gives_0 (j := 7) rfl)
theorem dX9_gives_8 : decode cX9_gives 8 = .ok (.iadd, 1) := dk_96 (byr_X9_gives_0 (j := 8) rfl)
theorem dX9_gives_9 : decode cX9_gives 9 = .ok (.goto 7, 3) := dk_167 (byr_X9_gives_0 (j := 9) rfl) (byr_X9_gives_0 (j := 10) rfl) (byr_X9_gives_0 (j := 11) rfl) (by decide)
theorem dX9_gives_12 : decode cX9_gives 12 = .ok (.iload_n 2, 1) := dk_28 (byr_X9_gives_0 (j := 12) rfl)
theorem dX9_gives_13 : decode cX9_gives 13 = .ok (.bipush 12, 2) := dk_16 (byr_X9_gives_0 (j := 13) rfl) (byr_X9_gives_0 (j := 14) rfl) (by decide)
theorem dX9_gives_15 : decode cX9_gives 15 = .ok (.idiv, 1) := dk_108 (byr_X9_gives_0 (j := 15) rfl)
theorem dX9_gives_16 : decode cX9_gives 16 = .ok (.istore 5, 2) := dk_54 (byr_X9_gives_1 (j := 0) rfl) (byr_X9_gives_1 (j := 1) rfl)
theorem dX9_gives_18 : decode cX9_gives 18 = .ok (.aload_n 0, 1) := dk_42 (byr_X9_gives_1 (j := 2) rfl)
theorem dX9_gives_19 : decode cX9_gives 19 = .ok (.getfield 7, 3) := dk_180 (byr_X9_gives_1 (j := 3) rfl) (byr_X9_gives_1 (j := 4) rfl) (byr_X9_gives_1 (j := 5) rfl) (by decide)
theorem dX9_gives_22 : decode cX9_gives 22 = .ok (.bipush 88, 2) := dk_16 (byr_X9_gives_1 (j := 6) rfl) (byr_X9_gives_1 (j := 7) rfl) (by decide)
theorem dX9_gives_24 : decode cX9_gives 24 = .ok (.iload_n 1, 1) := dk_27 (byr_X9_gives_1 (j := 8) rfl)
theorem dX9_gives_25 : decode cX9_gives 25 = .ok (.iadd, 1) := dk_96 (byr_X9_gives_1 (j := 9) rfl)
theorem dX9_gives_26 : decode cX9_gives 26 = .ok (.iaload, 1) := dk_46 (byr_X9_gives_1 (j := 10) rfl)
theorem dX9_gives_27 : decode cX9_gives 27 = .ok (.ifCond .le 47, 3) := dk_158 (byr_X9_gives_1 (j := 11) rfl) (byr_X9_gives_1 (j := 12) rfl) (byr_X9_gives_1 (j := 13) rfl) (by decide)
theorem dX9_gives_30 : decode cX9_gives 30 = .ok (.aload_n 0, 1) := dk_42 (byr_X9_gives_1 (j := 14) rfl)
theorem dX9_gives_31 : decode cX9_gives 31 = .ok (.getfield 22, 3) := dk_180 (byr_X9_gives_1 (j := 15) rfl) (byr_X9_gives_2 (j := 0) rfl) (byr_X9_gives_2 (j := 1) rfl) (by decide)
theorem dX9_gives_34 : decode cX9_gives 34 = .ok (.iconst 0, 1) := dk_3 (byr_X9_gives_2 (j := 2) rfl)
theorem dX9_gives_35 : decode cX9_gives 35 = .ok (.iload_n 2, 1) := dk_28 (byr_X9_gives_2 (j := 3) rfl)
theorem dX9_gives_36 : decode cX9_gives 36 = .ok (.iastore, 1) := dk_79 (byr_X9_gives_2 (j := 4) rfl)
theorem dX9_gives_37 : decode cX9_gives 37 = .ok (.aload_n 0, 1) := dk_42 (byr_X9_gives_2 (j := 5) rfl)
theorem dX9_gives_38 : decode cX9_gives 38 = .ok (.getfield 22, 3) := dk_180 (byr_X9_gives_2 (j := 6) rfl) (byr_X9_gives_2 (j := 7) rfl) (byr_X9_gives_2 (j := 8) rfl) (by decide)
theorem dX9_gives_41 : decode cX9_gives 41 = .ok (.iconst 1, 1) := dk_4 (byr_X9_gives_2 (j := 9) rfl)
theorem dX9_gives_42 : decode cX9_gives 42 = .ok (.iload_n 3, 1) := dk_29 (byr_X9_gives_2 (j := 10) rfl)
theorem dX9_gives_43 : decode cX9_gives 43 = .ok (.iastore, 1) := dk_79 (byr_X9_gives_2 (j := 11) rfl)
theorem dX9_gives_44 : decode cX9_gives 44 = .ok (.aload_n 0, 1) := dk_42 (byr_X9_gives_2 (j := 12) rfl)
theorem dX9_gives_45 : decode cX9_gives 45 = .ok (.getfield 22, 3) := dk_180 (byr_X9_gives_2 (j := 13) rfl) (byr_X9_gives_2 (j := 14) rfl) (byr_X9_gives_2 (j := 15) rfl) (by decide)
theorem dX9_gives_48 : decode cX9_gives 48 = .ok (.iconst 2, 1) := dk_5 (byr_X9_gives_3 (j := 0) rfl)
theorem dX9_gives_49 : decode cX9_gives 49 = .ok (.iload 4, 2) := dk_21 (byr_X9_gives_3 (j := 1) rfl) (byr_X9_gives_3 (j := 2) rfl)
theorem dX9_gives_51 : decode cX9_gives 51 = .ok (.iastore, 1) := dk_79 (byr_X9_gives_3 (j := 3) rfl)
theorem dX9_gives_52 : decode cX9_gives 52 = .ok (.aload_n 0, 1) := dk_42 (byr_X9_gives_3 (j := 4) rfl)
theorem dX9_gives_53 : decode cX9_gives 53 = .ok (.bipush 110, 2) := dk_16 (byr_X9_gives_3 (j := 5) rfl) (byr_X9_gives_3 (j := 6) rfl) (by decide)
theorem dX9_gives_55 : decode cX9_gives 55 = .ok (.bipush 50, 2) := dk_16 (byr_X9_gives_3 (j := 7) rfl) (byr_X9_gives_3 (j := 8) rfl) (by decide)
theorem dX9_gives_57 : decode cX9_gives 57 = .ok (.iload_n 1, 1) := dk_27 (byr_X9_gives_3 (j := 9) rfl)
theorem dX9_gives_58 : decode cX9_gives 58 = .ok (.imul, 1) := dk_104 (byr_X9_gives_3 (j := 10) rfl)
theorem dX9_gives_59 : decode cX9_gives 59 = .ok (.iadd, 1) := dk_96 (byr_X9_gives_3 (j := 11) rfl)
theorem dX9_gives_60 : decode cX9_gives 60 = .ok (.aload_n 0, 1) := dk_42 (byr_X9_gives_3 (j := 12) rfl)
theorem dX9_gives_61 : decode cX9_gives 61 = .ok (.getfield 7, 3) := dk_180 (byr_X9_gives_3 (j := 13) rfl) (byr_X9_gives_3 (j := 14) rfl) (byr_X9_gives_3 (j := 15) rfl) (by decide)
theorem dX9_gives_64 : decode cX9_gives 64 = .ok (.bipush 88, 2) := dk_16 (byr_X9_gives_4 (j := 0) rfl) (byr_X9_gives_4 (j := 1) rfl) (by decide)
theorem dX9_gives_66 : decode cX9_gives 66 = .ok (.iload_n 1, 1) := dk_27 (byr_X9_gives_4 (j := 2) rfl)
theorem dX9_gives_67 : decode cX9_gives 67 = .ok (.iadd, 1) := dk_96 (byr_X9_gives_4 (j := 3) rfl)
theorem dX9_gives_68 : decode cX9_gives 68 = .ok (.iaload, 1) := dk_46 (byr_X9_gives_4 (j := 4) rfl)
theorem dX9_gives_69 : decode cX9_gives 69 = .ok (.invokevirtual 135, 3) := dk_182 (byr_X9_gives_4 (j := 5) rfl) (byr_X9_gives_4 (j := 6) rfl) (byr_X9_gives_4 (j := 7) rfl) (by decide)
theorem dX9_gives_72 : decode cX9_gives 72 = .ok (.istore 5, 2) := dk_54 (byr_X9_gives_4 (j := 8) rfl) (byr_X9_gives_4 (j := 9) rfl)
theorem dX9_gives_74 : decode cX9_gives 74 = .ok (.iload_n 1, 1) := dk_27 (byr_X9_gives_4 (j := 10) rfl)
theorem dX9_gives_75 : decode cX9_gives 75 = .ok (.ifCond .ne 15, 3) := dk_154 (byr_X9_gives_4 (j := 11) rfl) (byr_X9_gives_4 (j := 12) rfl) (byr_X9_gives_4 (j := 13) rfl) (by decide)
theorem dX9_gives_78 : decode cX9_gives 78 = .ok (.iload 5, 2) := dk_21 (byr_X9_gives_4 (j := 14) rfl) (byr_X9_gives_4 (j := 15) rfl)
theorem dX9_gives_80 : decode cX9_gives 80 = .ok (.bipush (-30), 2) := dk_16 (byr_X9_gives_5 (j := 0) rfl) (byr_X9_gives_5 (j := 1) rfl) (by decide)
theorem dX9_gives_82 : decode cX9_gives 82 = .ok (.bipush 30, 2) := dk_16 (byr_X9_gives_5 (j := 2) rfl) (byr_X9_gives_5 (j := 3) rfl) (by decide)
theorem dX9_gives_84 : decode cX9_gives 84 = .ok (.invokestatic 139, 3) := dk_184 (byr_X9_gives_5 (j := 4) rfl) (byr_X9_gives_5 (j := 5) rfl) (byr_X9_gives_5 (j := 6) rfl) (by decide)
theorem dX9_gives_87 : decode cX9_gives 87 = .ok (.goto 11, 3) := dk_167 (byr_X9_gives_5 (j := 7) rfl) (byr_X9_gives_5 (j := 8) rfl) (byr_X9_gives_5 (j := 9) rfl) (by decide)
theorem dX9_gives_90 : decode cX9_gives 90 = .ok (.iload 5, 2) := dk_21 (byr_X9_gives_5 (j := 10) rfl) (byr_X9_gives_5 (j := 11) rfl)
theorem dX9_gives_92 : decode cX9_gives 92 = .ok (.iconst 0, 1) := dk_3 (byr_X9_gives_5 (j := 12) rfl)
theorem dX9_gives_93 : decode cX9_gives 93 = .ok (.bipush 100, 2) := dk_16 (byr_X9_gives_5 (j := 13) rfl) (byr_X9_gives_5 (j := 14) rfl) (by decide)
theorem dX9_gives_95 : decode cX9_gives 95 = .ok (.invokestatic 139, 3) := dk_184 (byr_X9_gives_5 (j := 15) rfl) (byr_X9_gives_6 (j := 0) rfl) (byr_X9_gives_6 (j := 1) rfl) (by decide)
theorem dX9_gives_98 : decode cX9_gives 98 = .ok (.ireturn, 1) := dk_172 (byr_X9_gives_6 (j := 2) rfl)
set_option maxHeartbeats 4000000 in
set_option maxRecDepth 100000 in
theorem c_X9_gives (l : Launch) (G : GT) (σ : Sto) (a1 : Int32) (a2 : Int32) (a3 : Int32) (a4 : Int32) (r : (Int32 × Sto)) (h : f_X9_gives σ a1 a2 a3 a4 = some r) : MW l G (4) (111) 0 0 yX9_gives cX9_gives 6 (Option.some Jvm.ClassFile.FieldType.int) [.ref (gad G 81), .int a1, .int a2, .int a3, .int a4] (wl G σ) (some (.int r.1)) (wl G r.2) := by
  refine mw_of RX9 (fiI G) [(0, .ref (gad G 81)), (1, .int a1), (2, .int a2), (3, .int a3), (4, .int a4)] (by decide +kernel) rfl (Nat.le_of_ble_eq_true rfl) rfl h rfl (fun p e s m args below meth c X hr hnm => ?_)
  have J74 : ∀ (v1 : Int32) (v5 : Int32)  (σ : Sto), Sm p l e { frames := 4, cells := 0, slots := 0, locals := 111 } s m args below meth c G 6 (Qm below args s G 0 0 (fiI G)) 0 0 (wl G σ) 74 [(1, .int v1), (5, .int v5)] [] (f_X9_gives_L74  v1 v5 σ) := by
    intro v1 v5 σ
    rw [f_X9_gives_L74]
    refine sm_iload_n X 75 0 dX9_gives_74 rfl rfl rfl ?_
    refine sm_if_ne X 78 90 dX9_gives_75 rfl (by decide) (fun h75 => ?_) (fun h75 => ?_)
    · refine sm_iload X 80 1 dX9_gives_78 rfl rfl ?_
      refine sm_bipush X 82 (-30) dX9_gives_80 rfl rfl ?_
      refine sm_bipush X 84 (30) dX9_gives_82 rfl rfl ?_
      refine sm_bind (fun r84 h84 => ?_)
      refine sm_callS0 X 87 [.int v5, .int (-30), .int 30] [] [.int r84] (c_X9_held l G σ v5 (-30 : Int32) (30 : Int32) r84 h84) cw_X9_held q_1043 q_1042 rfl rfl rfl (Nat.le_of_ble_eq_true rfl) ⟨Nat.le_of_ble_eq_true rfl, Nat.le_of_ble_eq_true rfl⟩ ⟨Nat.le_refl _, Nat.le_refl _⟩ dX9_gives_84 rfl ?_
      refine sm_goto X 98 dX9_gives_87 (by decide) ?_
      exact sm_iret X hr dX9_gives_98 rfl
    · refine sm_iload X 92 1 dX9_gives_90 rfl rfl ?_
      refine sm_iconst X 93 (0) dX9_gives_92 rfl rfl ?_
      refine sm_bipush X 95 (100) dX9_gives_93 rfl rfl ?_
      refine sm_bind (fun r95 h95 => ?_)
      refine sm_callS0 X 98 [.int v5, .int 0, .int 100] [] [.int r95] (c_X9_held l G σ v5 (0 : Int32) (100 : Int32) r95 h95) cw_X9_held q_1043 q_1042 rfl rfl rfl (Nat.le_of_ble_eq_true rfl) ⟨Nat.le_of_ble_eq_true rfl, Nat.le_of_ble_eq_true rfl⟩ ⟨Nat.le_refl _, Nat.le_refl _⟩ dX9_gives_95 rfl ?_
      exact sm_iret X hr dX9_gives_98 rfl
  have J16 : ∀ (v1 : Int32) (v2 : Int32) (v3 : Int32) (v4 : Int32) (vs0 : Int32)  (σ : Sto), Sm p l e { frames := 4, cells := 0, slots := 0, locals := 111 } s m args below meth c G 6 (Qm below args s G 0 0 (fiI G)) 0 0 (wl G σ) 16 [(0, .ref (gad G 81)), (1, .int v1), (2, .int v2), (3, .int v3), (4, .int v4)] [.int vs0] (f_X9_gives_L16  v1 v2 v3 v4 vs0 σ) := by
    intro v1 v2 v3 v4 vs0 σ
    rw [f_X9_gives_L16]
    refine sm_istore X 18 [(5, .int vs0), (0, .ref (gad G 81)), (1, .int v1), (2, .int v2), (3, .int v3), (4, .int v4)] dX9_gives_16 rfl (by decide) rfl ?_
    refine sm_aload_n X 19 1 dX9_gives_18 rfl rfl rfl ?_
    refine sm_getf X 22 82 rfl fd_9_0 rfl dX9_gives_19 rfl q_882 ?_
    refine sm_bipush X 24 (88) dX9_gives_22 rfl rfl ?_
    refine sm_iload_n X 25 2 dX9_gives_24 rfl rfl rfl ?_
    refine sm_iadd X 26 dX9_gives_25 rfl ?_
    refine sm_iald X 27 rfl dX9_gives_26 rfl (fun r26 e26 => ?_)
    clear e26
    refine sm_if_le X 30 74 dX9_gives_27 rfl (by decide) (fun h27 => ?_) (fun h27 => ?_)
    · exact sm_sub [2, 0] rfl (J74 v1 vs0  σ)
    · refine sm_aload_n X 31 1 dX9_gives_30 rfl rfl rfl ?_
      refine sm_getf X 34 86 rfl fd_9_11 rfl dX9_gives_31 rfl q_893 ?_
      refine sm_iconst X 35 (0) dX9_gives_34 rfl rfl ?_
      refine sm_iload_n X 36 3 dX9_gives_35 rfl rfl rfl ?_
      refine sm_iast X 37 rfl dX9_gives_36 rfl (fun σ36 e36 => ?_)
      clear e36
      refine sm_aload_n X 38 1 dX9_gives_37 rfl rfl rfl ?_
      refine sm_getf X 41 86 rfl fd_9_11 rfl dX9_gives_38 rfl q_893 ?_
      refine sm_iconst X 42 (1) dX9_gives_41 rfl rfl ?_
      refine sm_iload_n X 43 4 dX9_gives_42 rfl rfl rfl ?_
      refine sm_iast X 44 rfl dX9_gives_43 rfl (fun σ43 e43 => ?_)
      clear e43
      refine sm_aload_n X 45 1 dX9_gives_44 rfl rfl rfl ?_
      refine sm_getf X 48 86 rfl fd_9_11 rfl dX9_gives_45 rfl q_893 ?_
      refine sm_iconst X 49 (2) dX9_gives_48 rfl rfl ?_
      refine sm_iload X 51 5 dX9_gives_49 rfl rfl ?_
      refine sm_iast X 52 rfl dX9_gives_51 rfl (fun σ51 e51 => ?_)
      clear e51
      refine sm_aload_n X 53 1 dX9_gives_52 rfl rfl rfl ?_
      refine sm_bipush X 55 (110) dX9_gives_53 rfl rfl ?_
      refine sm_bipush X 57 (50) dX9_gives_55 rfl rfl ?_
      refine sm_iload_n X 58 2 dX9_gives_57 rfl rfl rfl ?_
      refine sm_imul X 59 dX9_gives_58 rfl ?_
      refine sm_iadd X 60 dX9_gives_59 rfl ?_
      refine sm_aload_n X 61 1 dX9_gives_60 rfl rfl rfl ?_
      refine sm_getf X 64 82 rfl fd_9_0 rfl dX9_gives_61 rfl q_882 ?_
      refine sm_bipush X 66 (88) dX9_gives_64 rfl rfl ?_
      refine sm_iload_n X 67 2 dX9_gives_66 rfl rfl rfl ?_
      refine sm_iadd X 68 dX9_gives_67 rfl ?_
      refine sm_iald X 69 rfl dX9_gives_68 rfl (fun r68 e68 => ?_)
      clear e68
      refine sm_bind (fun r69 h69 => ?_)
      refine sm_callV0 X 72 [.int ((110 : Int32) + ((50 : Int32) * v1)), .int r68] [] [.int r69.1] (c_X9_worked l G σ51 ((110 : Int32) + ((50 : Int32) * v1)) r68 r69 h69) cw_X9_worked q_1037 qs_41 q_1035 rfl (by decide) rfl rfl rfl rfl rfl (Nat.le_of_ble_eq_true rfl) ⟨Nat.le_of_ble_eq_true rfl, Nat.le_of_ble_eq_true rfl⟩ ⟨Nat.le_refl _, Nat.le_refl _⟩ dX9_gives_69 rfl ?_
      refine sm_istore X 74 [(5, .int r69.1), (0, .ref (gad G 81)), (1, .int v1), (2, .int v2), (3, .int v3), (4, .int v4)] dX9_gives_72 rfl (by decide) rfl ?_
      exact sm_sub [2, 0] rfl (J74 v1 r69.1  r69.2)
  unfold f_X9_gives
  refine sm_iload_n X 1 1 dX9_gives_0 rfl rfl rfl ?_
  refine sm_if_ne X 4 12 dX9_gives_1 rfl (by decide) (fun h1 => ?_) (fun h1 => ?_)
  · refine sm_iload_n X 5 2 dX9_gives_4 rfl rfl rfl ?_
    refine sm_iconst X 6 (2) dX9_gives_5 rfl rfl ?_
    refine sm_iload_n X 7 3 dX9_gives_6 rfl rfl rfl ?_
    refine sm_imul X 8 dX9_gives_7 rfl ?_
    refine sm_iadd X 9 dX9_gives_8 rfl ?_
    refine sm_goto X 16 dX9_gives_9 (by decide) ?_
    exact sm_sub [0, 1, 2, 3, 4] rfl (J16 a1 a2 a3 a4 (a2 + ((2 : Int32) * a3))  σ)
  · refine sm_iload_n X 13 2 dX9_gives_12 rfl rfl rfl ?_
    refine sm_bipush X 15 (12) dX9_gives_13 rfl rfl ?_
    refine sm_idiv X 16 dX9_gives_15 rfl (by first | decide | assumption) ?_
    exact sm_sub [0, 1, 2, 3, 4] rfl (J16 a1 a2 a3 a4 (a2 / (12 : Int32))  σ)
def by_X9_law_0 : List Nat := [27, 133, 9, 10, 184, 0, 49, 153, 0, 15, 42, 27, 28, 29, 21, 4]
def by_X9_law_z : List Nat := [182, 0, 142, 167, 0, 8, 42, 4, 182, 0, 126, 172]
def by_X9_law : List (List Nat) := [by_X9_law_0]
set_option maxRecDepth 100000 in
theorem byo_X9_law : cX9_law.data.toList.map UInt8.toNat = by_X9_law.flatten ++ by_X9_law_z := by decide +kernel
theorem byl_X9_law : by_X9_law.all (fun r => r.length == 16) = true := by decide +kernel
theorem byr_X9_law_0 {j v : Nat} (h : by_X9_law_0[j]? = some v) : RD cX9_law (0 + j) v := rd_16 byo_X9_law byl_X9_law 0 rfl h
theorem byr_X9_law_1 {j v : Nat} (h : by_X9_law_z[j]? = some v) : RD cX9_law (16 + j) v := rd_z byo_X9_law byl_X9_law 1 rfl h
theorem dX9_law_0 : decode cX9_law 0 = .ok (.iload_n 1, 1) := dk_27 (byr_X9_law_0 (j := 0) rfl)
theorem dX9_law_1 : decode cX9_law 1 = .ok (.i2l, 1) := dk_133 (byr_X9_law_0 (j := 1) rfl)
theorem dX9_law_2 : decode cX9_law 2 = .ok (.lconst 0, 1) := dk_9 (byr_X9_law_0 (j := 2) rfl)
theorem dX9_law_3 : decode cX9_law 3 = .ok (.lconst 1, 1) := dk_10 (byr_X9_law_0 (j := 3) rfl)
theorem dX9_law_4 : decode cX9_law 4 = .ok (.invokestatic 49, 3) := dk_184 (byr_X9_law_0 (j := 4) rfl) (byr_X9_law_0 (j := 5) rfl) (byr_X9_law_0 (j := 6) rfl) (by decide)
theorem dX9_law_7 : decode cX9_law 7 = .ok (.ifCond .eq 15, 3) := dk_153 (byr_X9_law_0 (j := 7) rfl) (byr_X9_law_0 (j := 8) rfl) (byr_X9_law_0 (j := 9) rfl) (by decide)
theorem dX9_law_10 : decode cX9_law 10 = .ok (.aload_n 0, 1) := dk_42 (byr_X9_law_0 (j := 10) rfl)
theorem dX9_law_11 : decode cX9_law 11 = .ok (.iload_n 1, 1) := dk_27 (byr_X9_law_0 (j := 11) rfl)
theorem dX9_law_12 : decode cX9_law 12 = .ok (.iload_n 2, 1) := dk_28 (byr_X9_law_0 (j := 12) rfl)
theorem dX9_law_13 : decode cX9_law 13 = .ok (.iload_n 3, 1) := dk_29 (byr_X9_law_0 (j := 13) rfl)
theorem dX9_law_14 : decode cX9_law 14 = .ok (.iload 4, 2) := dk_21 (byr_X9_law_0 (j := 14) rfl) (byr_X9_law_0 (j := 15) rfl)
theorem dX9_law_16 : decode cX9_law 16 = .ok (.invokevirtual 142, 3) := dk_182 (byr_X9_law_1 (j := 0) rfl) (byr_X9_law_1 (j := 1) rfl) (byr_X9_law_1 (j := 2) rfl) (by decide)
theorem dX9_law_19 : decode cX9_law 19 = .ok (.goto 8, 3) := dk_167 (byr_X9_law_1 (j := 3) rfl) (byr_X9_law_1 (j := 4) rfl) (byr_X9_law_1 (j := 5) rfl) (by decide)
theorem dX9_law_22 : decode cX9_law 22 = .ok (.aload_n 0, 1) := dk_42 (byr_X9_law_1 (j := 6) rfl)
theorem dX9_law_23 : decode cX9_law 23 = .ok (.iconst 1, 1) := dk_4 (byr_X9_law_1 (j := 7) rfl)
theorem dX9_law_24 : decode cX9_law 24 = .ok (.invokevirtual 126, 3) := dk_182 (byr_X9_law_1 (j := 8) rfl) (byr_X9_law_1 (j := 9) rfl) (byr_X9_law_1 (j := 10) rfl) (by decide)
theorem dX9_law_27 : decode cX9_law 27 = .ok (.ireturn, 1) := dk_172 (byr_X9_law_1 (j := 11) rfl)
set_option maxHeartbeats 4000000 in
set_option maxRecDepth 100000 in
theorem c_X9_law (l : Launch) (G : GT) (σ : Sto) (a1 : Int32) (a2 : Int32) (a3 : Int32) (a4 : Int32) (r : (Int32 × Sto)) (h : f_X9_law σ a1 a2 a3 a4 = some r) : MW l G (5) (136) 0 0 yX9_law cX9_law 5 (Option.some Jvm.ClassFile.FieldType.int) [.ref (gad G 81), .int a1, .int a2, .int a3, .int a4] (wl G σ) (some (.int r.1)) (wl G r.2) := by
  refine mw_of RX9 (fiI G) [(0, .ref (gad G 81)), (1, .int a1), (2, .int a2), (3, .int a3), (4, .int a4)] (by decide +kernel) rfl (Nat.le_of_ble_eq_true rfl) rfl h rfl (fun p e s m args below meth c X hr hnm => ?_)
  unfold f_X9_law
  refine sm_iload_n X 1 1 dX9_law_0 rfl rfl rfl ?_
  refine sm_i2l X 2 dX9_law_1 rfl ?_
  refine sm_lconst X 3 (0) dX9_law_2 rfl rfl ?_
  refine sm_lconst X 4 (1) dX9_law_3 rfl rfl ?_
  refine sm_bind (fun r4 h4 => ?_)
  refine sm_callS0 X 7 [.long (Int32.toInt64 a1), .long (0 : Int64), .long (1 : Int64)] [] [.int (b2i r4)] (c_X9_in l G σ (Int32.toInt64 a1) (0 : Int64) (1 : Int64) r4 h4) cw_X9_in q_961 q_960 rfl rfl rfl (Nat.le_of_ble_eq_true rfl) ⟨Nat.le_of_ble_eq_true rfl, Nat.le_of_ble_eq_true rfl⟩ ⟨Nat.le_refl _, Nat.le_refl _⟩ dX9_law_4 rfl ?_
  refine sm_ifz_eq X 10 22 dX9_law_7 rfl (by decide) (fun h7 => ?_) (fun h7 => ?_)
  · refine sm_aload_n X 11 0 dX9_law_10 rfl rfl rfl ?_
    refine sm_iload_n X 12 1 dX9_law_11 rfl rfl rfl ?_
    refine sm_iload_n X 13 2 dX9_law_12 rfl rfl rfl ?_
    refine sm_iload_n X 14 3 dX9_law_13 rfl rfl rfl ?_
    refine sm_iload X 16 4 dX9_law_14 rfl rfl ?_
    refine sm_bind (fun r16 h16 => ?_)
    refine sm_callV0 X 19 [.int a1, .int a2, .int a3, .int a4] [] [.int r16.1] (c_X9_gives l G σ a1 a2 a3 a4 r16 h16) cw_X9_gives q_1033 qs_40 q_1031 rfl (by decide) rfl rfl rfl rfl rfl (Nat.le_of_ble_eq_true rfl) ⟨Nat.le_of_ble_eq_true rfl, Nat.le_of_ble_eq_true rfl⟩ ⟨Nat.le_refl _, Nat.le_refl _⟩ dX9_law_16 rfl ?_
    refine sm_goto X 27 dX9_law_19 (by decide) ?_
    exact sm_iret X hr dX9_law_27 rfl
  · refine sm_aload_n X 23 0 dX9_law_22 rfl rfl rfl ?_
    refine sm_iconst X 24 (1) dX9_law_23 rfl rfl ?_
    refine sm_bind (fun r24 h24 => ?_)
    refine sm_callV0 X 27 [.int 1] [] [.int r24.1] (c_X9_finds l G σ (1 : Int32) r24 h24) cw_X9_finds q_965 qs_26 q_963 rfl (by decide) rfl rfl rfl rfl rfl (Nat.le_of_ble_eq_true rfl) ⟨Nat.le_of_ble_eq_true rfl, Nat.le_of_ble_eq_true rfl⟩ ⟨Nat.le_refl _, Nat.le_refl _⟩ dX9_law_24 rfl ?_
    exact sm_iret X hr dX9_law_27 rfl
def by_X9_current_0 : List Nat := [27, 184, 0, 146, 153, 0, 17, 28, 133, 20, 0, 149, 20, 0, 151, 184]
def by_X9_current_1 : List Nat := [0, 49, 154, 0, 9, 42, 4, 182, 0, 126, 172, 42, 180, 0, 7, 3]
def by_X9_current_z : List Nat := [27, 96, 46, 62, 42, 180, 0, 7, 3, 27, 96, 28, 79, 29, 172]
def by_X9_current : List (List Nat) := [by_X9_current_0, by_X9_current_1]
set_option maxRecDepth 100000 in
theorem byo_X9_current : cX9_current.data.toList.map UInt8.toNat = by_X9_current.flatten ++ by_X9_current_z := by decide +kernel
theorem byl_X9_current : by_X9_current.all (fun r => r.length == 16) = true := by decide +kernel
theorem byr_X9_current_0 {j v : Nat} (h : by_X9_current_0[j]? = some v) : RD cX9_current (0 + j) v := rd_16 byo_X9_current byl_X9_current 0 rfl h
theorem byr_X9_current_1 {j v : Nat} (h : by_X9_current_1[j]? = some v) : RD cX9_current (16 + j) v := rd_16 byo_X9_current byl_X9_current 1 rfl h
theorem byr_X9_current_2 {j v : Nat} (h : by_X9_current_z[j]? = some v) : RD cX9_current (32 + j) v := rd_z byo_X9_current byl_X9_current 2 rfl h
theorem dX9_current_0 : decode cX9_current 0 = .ok (.iload_n 1, 1) := dk_27 (byr_X9_current_0 (j := 0) rfl)
theorem dX9_current_1 : decode cX9_current 1 = .ok (.invokestatic 146, 3) := dk_184 (byr_X9_current_0 (j := 1) rfl) (byr_X9_current_0 (j := 2) rfl) (byr_X9_current_0 (j := 3) rfl) (by decide)
theorem dX9_current_4 : decode cX9_current 4 = .ok (.ifCond .eq 17, 3) := dk_153 (byr_X9_current_0 (j := 4) rfl) (byr_X9_current_0 (j := 5) rfl) (byr_X9_current_0 (j := 6) rfl) (by decide)
theorem dX9_current_7 : decode cX9_current 7 = .ok (.iload_n 2, 1) := dk_28 (byr_X9_current_0 (j := 7) rfl)
theorem dX9_current_8 : decode cX9_current 8 = .ok (.i2l, 1) := dk_133 (byr_X9_current_0 (j := 8) rfl)
theorem dX9_current_9 : decode cX9_current 9 = .ok (.ldc2_w 149, 3) := dk_20 (byr_X9_current_0 (j := 9) rfl) (byr_X9_current_0 (j := 10) rfl) (byr_X9_current_0 (j := 11) rfl) (by decide)
theorem dX9_current_12 : decode cX9_current 12 = .ok (.ldc2_w 151, 3) := dk_20 (byr_X9_current_0 (j := 12) rfl) (byr_X9_current_0 (j := 13) rfl) (byr_X9_current_0 (j := 14) rfl) (by decide)
theorem dX9_current_15 : decode cX9_current 15 = .ok (.invokestatic 49, 3) := dk_184 (byr_X9_current_0 (j := 15) rfl) (byr_X9_current_1 (j := 0) rfl) (byr_X9_current_1 (j := 1) rfl) (by decide)
theorem dX9_current_18 : decode cX9_current 18 = .ok (.ifCond .ne 9, 3) := dk_154 (byr_X9_current_1 (j := 2) rfl) (byr_X9_current_1 (j := 3) rfl) (byr_X9_current_1 (j := 4) rfl) (by decide)
theorem dX9_current_21 : decode cX9_current 21 = .ok (.aload_n 0, 1) := dk_42 (byr_X9_current_1 (j := 5) rfl)
theorem dX9_current_22 : decode cX9_current 22 = .ok (.iconst 1, 1) := dk_4 (byr_X9_current_1 (j := 6) rfl)
theorem dX9_current_23 : decode cX9_current 23 = .ok (.invokevirtual 126, 3) := dk_182 (byr_X9_current_1 (j := 7) rfl) (byr_X9_current_1 (j := 8) rfl) (byr_X9_current_1 (j := 9) rfl) (by decide)
theorem dX9_current_26 : decode cX9_current 26 = .ok (.ireturn, 1) := dk_172 (byr_X9_current_1 (j := 10) rfl)
theorem dX9_current_27 : decode cX9_current 27 = .ok (.aload_n 0, 1) := dk_42 (byr_X9_current_1 (j := 11) rfl)
theorem dX9_current_28 : decode cX9_current 28 = .ok (.getfield 7, 3) := dk_180 (byr_X9_current_1 (j := 12) rfl) (byr_X9_current_1 (j := 13) rfl) (byr_X9_current_1 (j := 14) rfl) (by decide)
theorem dX9_current_31 : decode cX9_current 31 = .ok (.iconst 0, 1) := dk_3 (byr_X9_current_1 (j := 15) rfl)
theorem dX9_current_32 : decode cX9_current 32 = .ok (.iload_n 1, 1) := dk_27 (byr_X9_current_2 (j := 0) rfl)
theorem dX9_current_33 : decode cX9_current 33 = .ok (.iadd, 1) := dk_96 (byr_X9_current_2 (j := 1) rfl)
theorem dX9_current_34 : decode cX9_current 34 = .ok (.iaload, 1) := dk_46 (byr_X9_current_2 (j := 2) rfl)
theorem dX9_current_35 : decode cX9_current 35 = .ok (.istore_n 3, 1) := dk_62 (byr_X9_current_2 (j := 3) rfl)
theorem dX9_current_36 : decode cX9_current 36 = .ok (.aload_n 0, 1) := dk_42 (byr_X9_current_2 (j := 4) rfl)
theorem dX9_current_37 : decode cX9_current 37 = .ok (.getfield 7, 3) := dk_180 (byr_X9_current_2 (j := 5) rfl) (byr_X9_current_2 (j := 6) rfl) (byr_X9_current_2 (j := 7) rfl) (by decide)
theorem dX9_current_40 : decode cX9_current 40 = .ok (.iconst 0, 1) := dk_3 (byr_X9_current_2 (j := 8) rfl)
theorem dX9_current_41 : decode cX9_current 41 = .ok (.iload_n 1, 1) := dk_27 (byr_X9_current_2 (j := 9) rfl)
theorem dX9_current_42 : decode cX9_current 42 = .ok (.iadd, 1) := dk_96 (byr_X9_current_2 (j := 10) rfl)
theorem dX9_current_43 : decode cX9_current 43 = .ok (.iload_n 2, 1) := dk_28 (byr_X9_current_2 (j := 11) rfl)
theorem dX9_current_44 : decode cX9_current 44 = .ok (.iastore, 1) := dk_79 (byr_X9_current_2 (j := 12) rfl)
theorem dX9_current_45 : decode cX9_current 45 = .ok (.iload_n 3, 1) := dk_29 (byr_X9_current_2 (j := 13) rfl)
theorem dX9_current_46 : decode cX9_current 46 = .ok (.ireturn, 1) := dk_172 (byr_X9_current_2 (j := 14) rfl)
set_option maxHeartbeats 4000000 in
set_option maxRecDepth 100000 in
theorem c_X9_current (l : Launch) (G : GT) (σ : Sto) (a1 : Int32) (a2 : Int32) (r : (Int32 × Sto)) (h : f_X9_current σ a1 a2 = some r) : MW l G (4) (109) 0 0 yX9_current cX9_current 4 (Option.some Jvm.ClassFile.FieldType.int) [.ref (gad G 81), .int a1, .int a2] (wl G σ) (some (.int r.1)) (wl G r.2) := by
  refine mw_of RX9 (fiI G) [(0, .ref (gad G 81)), (1, .int a1), (2, .int a2)] (by decide +kernel) rfl (Nat.le_of_ble_eq_true rfl) rfl h rfl (fun p e s m args below meth c X hr hnm => ?_)
  unfold f_X9_current
  refine sm_iload_n X 1 1 dX9_current_0 rfl rfl rfl ?_
  refine sm_bind (fun r1 h1 => ?_)
  refine sm_callS0 X 4 [.int a1] [] [.int (b2i r1)] (c_X9_isLane l G σ a1 r1 h1) cw_X9_isLane q_1050 q_1049 rfl rfl rfl (Nat.le_of_ble_eq_true rfl) ⟨Nat.le_of_ble_eq_true rfl, Nat.le_of_ble_eq_true rfl⟩ ⟨Nat.le_refl _, Nat.le_refl _⟩ dX9_current_1 rfl ?_
  refine sm_ifz_eq X 7 21 dX9_current_4 rfl (by decide) (fun h4 => ?_) (fun h4 => ?_)
  · refine sm_iload_n X 8 2 dX9_current_7 rfl rfl rfl ?_
    refine sm_i2l X 9 dX9_current_8 rfl ?_
    refine sm_ldc2 X 12 (-9) dX9_current_9 rfl q_1053 ?_
    refine sm_ldc2 X 15 (9) dX9_current_12 rfl q_1054 ?_
    refine sm_bind (fun r15 h15 => ?_)
    refine sm_callS0 X 18 [.long (Int32.toInt64 a2), .long (-9 : Int64), .long (9 : Int64)] [] [.int (b2i r15)] (c_X9_in l G σ (Int32.toInt64 a2) (-9 : Int64) (9 : Int64) r15 h15) cw_X9_in q_961 q_960 rfl rfl rfl (Nat.le_of_ble_eq_true rfl) ⟨Nat.le_of_ble_eq_true rfl, Nat.le_of_ble_eq_true rfl⟩ ⟨Nat.le_refl _, Nat.le_refl _⟩ dX9_current_15 rfl ?_
    refine sm_ifz_ne X 21 27 dX9_current_18 rfl (by decide) (fun h18 => ?_) (fun h18 => ?_)
    · refine sm_aload_n X 28 0 dX9_current_27 rfl rfl rfl ?_
      refine sm_getf X 31 82 rfl fd_9_0 rfl dX9_current_28 rfl q_882 ?_
      refine sm_iconst X 32 (0) dX9_current_31 rfl rfl ?_
      refine sm_iload_n X 33 1 dX9_current_32 rfl rfl rfl ?_
      refine sm_iadd X 34 dX9_current_33 rfl ?_
      refine sm_iald X 35 rfl dX9_current_34 rfl (fun r34 e34 => ?_)
      clear e34
      refine sm_istore_n X 36 [(3, .int r34), (0, .ref (gad G 81)), (1, .int a1), (2, .int a2)] dX9_current_35 rfl rfl (by decide) rfl ?_
      refine sm_aload_n X 37 1 dX9_current_36 rfl rfl rfl ?_
      refine sm_getf X 40 82 rfl fd_9_0 rfl dX9_current_37 rfl q_882 ?_
      refine sm_iconst X 41 (0) dX9_current_40 rfl rfl ?_
      refine sm_iload_n X 42 2 dX9_current_41 rfl rfl rfl ?_
      refine sm_iadd X 43 dX9_current_42 rfl ?_
      refine sm_iload_n X 44 3 dX9_current_43 rfl rfl rfl ?_
      refine sm_iast X 45 rfl dX9_current_44 rfl (fun σ44 e44 => ?_)
      clear e44
      refine sm_iload_n X 46 0 dX9_current_45 rfl rfl rfl ?_
      exact sm_iret X hr dX9_current_46 rfl
    · refine sm_aload_n X 22 0 dX9_current_21 rfl rfl rfl ?_
      refine sm_iconst X 23 (1) dX9_current_22 rfl rfl ?_
      refine sm_bind (fun r23 h23 => ?_)
      refine sm_callV0 X 26 [.int 1] [] [.int r23.1] (c_X9_finds l G σ (1 : Int32) r23 h23) cw_X9_finds q_965 qs_26 q_963 rfl (by decide) rfl rfl rfl rfl rfl (Nat.le_of_ble_eq_true rfl) ⟨Nat.le_of_ble_eq_true rfl, Nat.le_of_ble_eq_true rfl⟩ ⟨Nat.le_refl _, Nat.le_refl _⟩ dX9_current_23 rfl ?_
      exact sm_iret X hr dX9_current_26 rfl
  · refine sm_aload_n X 22 0 dX9_current_21 rfl rfl rfl ?_
    refine sm_iconst X 23 (1) dX9_current_22 rfl rfl ?_
    refine sm_bind (fun r23 h23 => ?_)
    refine sm_callV0 X 26 [.int 1] [] [.int r23.1] (c_X9_finds l G σ (1 : Int32) r23 h23) cw_X9_finds q_965 qs_26 q_963 rfl (by decide) rfl rfl rfl rfl rfl (Nat.le_of_ble_eq_true rfl) ⟨Nat.le_of_ble_eq_true rfl, Nat.le_of_ble_eq_true rfl⟩ ⟨Nat.le_refl _, Nat.le_refl _⟩ dX9_current_23 rfl ?_
    exact sm_iret X hr dX9_current_26 rfl
def by_X9_set_0 : List Nat := [27, 154, 0, 17, 28, 133, 20, 0, 153, 20, 0, 155, 184, 0, 49, 167]
def by_X9_set_1 : List Nat := [0, 42, 27, 4, 160, 0, 15, 28, 133, 9, 20, 0, 157, 184, 0, 49]
def by_X9_set_2 : List Nat := [167, 0, 25, 27, 5, 160, 0, 19, 28, 133, 9, 20, 0, 159, 184, 0]
def by_X9_set_3 : List Nat := [49, 153, 0, 7, 4, 167, 0, 4, 3, 62, 29, 154, 0, 9, 42, 4]
def by_X9_set_4 : List Nat := [182, 0, 126, 172, 42, 180, 0, 7, 16, 6, 27, 96, 46, 54, 4, 42]
def by_X9_set_z : List Nat := [180, 0, 7, 16, 6, 27, 96, 28, 79, 21, 4, 172]
def by_X9_set : List (List Nat) := [by_X9_set_0, by_X9_set_1, by_X9_set_2, by_X9_set_3, by_X9_set_4]
set_option maxRecDepth 100000 in
theorem byo_X9_set : cX9_set.data.toList.map UInt8.toNat = by_X9_set.flatten ++ by_X9_set_z := by decide +kernel
theorem byl_X9_set : by_X9_set.all (fun r => r.length == 16) = true := by decide +kernel
theorem byr_X9_set_0 {j v : Nat} (h : by_X9_set_0[j]? = some v) : RD cX9_set (0 + j) v := rd_16 byo_X9_set byl_X9_set 0 rfl h
theorem byr_X9_set_1 {j v : Nat} (h : by_X9_set_1[j]? = some v) : RD cX9_set (16 + j) v := rd_16 byo_X9_set byl_X9_set 1 rfl h
theorem byr_X9_set_2 {j v : Nat} (h : by_X9_set_2[j]? = some v) : RD cX9_set (32 + j) v := rd_16 byo_X9_set byl_X9_set 2 rfl h
theorem byr_X9_set_3 {j v : Nat} (h : by_X9_set_3[j]? = some v) : RD cX9_set (48 + j) v := rd_16 byo_X9_set byl_X9_set 3 rfl h
theorem byr_X9_set_4 {j v : Nat} (h : by_X9_set_4[j]? = some v) : RD cX9_set (64 + j) v := rd_16 byo_X9_set byl_X9_set 4 rfl h
theorem byr_X9_set_5 {j v : Nat} (h : by_X9_set_z[j]? = some v) : RD cX9_set (80 + j) v := rd_z byo_X9_set byl_X9_set 5 rfl h
theorem dX9_set_0 : decode cX9_set 0 = .ok (.iload_n 1, 1) := dk_27 (byr_X9_set_0 (j := 0) rfl)
theorem dX9_set_1 : decode cX9_set 1 = .ok (.ifCond .ne 17, 3) := dk_154 (byr_X9_set_0 (j := 1) rfl) (byr_X9_set_0 (j := 2) rfl) (byr_X9_set_0 (j := 3) rfl) (by decide)
theorem dX9_set_4 : decode cX9_set 4 = .ok (.iload_n 2, 1) := dk_28 (byr_X9_set_0 (j := 4) rfl)
theorem dX9_set_5 : decode cX9_set 5 = .ok (.i2l, 1) := dk_133 (byr_X9_set_0 (j := 5) rfl)
theorem dX9_set_6 : decode cX9_set 6 = .ok (.ldc2_w 153, 3) := dk_20 (byr_X9_set_0 (j := 6) rfl) (byr_X9_set_0 (j := 7) rfl) (byr_X9_set_0 (j := 8) rfl) (by decide)
theorem dX9_set_9 : decode cX9_set 9 = .ok (.ldc2_w 155, 3) := dk_20 (byr_X9_set_0 (j := 9) rfl) (byr_X9_set_0 (j := 10) rfl) (byr_X9_set_0 (j := 11) rfl) (by decide)
theorem dX9_set_12 : decode cX9_set 12 = .ok (.invokestatic 49, 3) := dk_184 (byr_X9_set_0 (j := 12) rfl) (byr_X9_set_0 (j := 13) rfl) (byr_X9_set_0 (j := 14) rfl) (by decide)
theorem dX9_set_15 : decode cX9_set 15 = .ok (.goto 42, 3) := dk_167 (byr_X9_set_0 (j := 15) rfl) (byr_X9_set_1 (j := 0) rfl) (byr_X9_set_1 (j := 1) rfl) (by decide)
theorem dX9_set_18 : decode cX9_set 18 = .ok (.iload_n 1, 1) := dk_27 (byr_X9_set_1 (j := 2) rfl)
theorem dX9_set_19 : decode cX9_set 19 = .ok (.iconst 1, 1) := dk_4 (byr_X9_set_1 (j := 3) rfl)
theorem dX9_set_20 : decode cX9_set 20 = .ok (.if_icmp .ne 15, 3) := dk_160 (byr_X9_set_1 (j := 4) rfl) (byr_X9_set_1 (j := 5) rfl) (byr_X9_set_1 (j := 6) rfl) (by decide)
theorem dX9_set_23 : decode cX9_set 23 = .ok (.iload_n 2, 1) := dk_28 (byr_X9_set_1 (j := 7) rfl)
theorem dX9_set_24 : decode cX9_set 24 = .ok (.i2l, 1) := dk_133 (byr_X9_set_1 (j := 8) rfl)
theorem dX9_set_25 : decode cX9_set 25 = .ok (.lconst 0, 1) := dk_9 (byr_X9_set_1 (j := 9) rfl)
theorem dX9_set_26 : decode cX9_set 26 = .ok (.ldc2_w 157, 3) := dk_20 (byr_X9_set_1 (j := 10) rfl) (byr_X9_set_1 (j := 11) rfl) (byr_X9_set_1 (j := 12) rfl) (by decide)
theorem dX9_set_29 : decode cX9_set 29 = .ok (.invokestatic 49, 3) := dk_184 (byr_X9_set_1 (j := 13) rfl) (byr_X9_set_1 (j := 14) rfl) (byr_X9_set_1 (j := 15) rfl) (by decide)
theorem dX9_set_32 : decode cX9_set 32 = .ok (.goto 25, 3) := dk_167 (byr_X9_set_2 (j := 0) rfl) (byr_X9_set_2 (j := 1) rfl) (byr_X9_set_2 (j := 2) rfl) (by decide)
theorem dX9_set_35 : decode cX9_set 35 = .ok (.iload_n 1, 1) := dk_27 (byr_X9_set_2 (j := 3) rfl)
theorem dX9_set_36 : decode cX9_set 36 = .ok (.iconst 2, 1) := dk_5 (byr_X9_set_2 (j := 4) rfl)
theorem dX9_set_37 : decode cX9_set 37 = .ok (.if_icmp .ne 19, 3) := dk_160 (byr_X9_set_2 (j := 5) rfl) (byr_X9_set_2 (j := 6) rfl) (byr_X9_set_2 (j := 7) rfl) (by decide)
theorem dX9_set_40 : decode cX9_set 40 = .ok (.iload_n 2, 1) := dk_28 (byr_X9_set_2 (j := 8) rfl)
theorem dX9_set_41 : decode cX9_set 41 = .ok (.i2l, 1) := dk_133 (byr_X9_set_2 (j := 9) rfl)
theorem dX9_set_42 : decode cX9_set 42 = .ok (.lconst 0, 1) := dk_9 (byr_X9_set_2 (j := 10) rfl)
theorem dX9_set_43 : decode cX9_set 43 = .ok (.ldc2_w 159, 3) := dk_20 (byr_X9_set_2 (j := 11) rfl) (byr_X9_set_2 (j := 12) rfl) (byr_X9_set_2 (j := 13) rfl) (by decide)
theorem dX9_set_46 : decode cX9_set 46 = .ok (.invokestatic 49, 3) := dk_184 (byr_X9_set_2 (j := 14) rfl) (byr_X9_set_2 (j := 15) rfl) (byr_X9_set_3 (j := 0) rfl) (by decide)
theorem dX9_set_49 : decode cX9_set 49 = .ok (.ifCond .eq 7, 3) := dk_153 (byr_X9_set_3 (j := 1) rfl) (byr_X9_set_3 (j := 2) rfl) (byr_X9_set_3 (j := 3) rfl) (by decide)
theorem dX9_set_52 : decode cX9_set 52 = .ok (.iconst 1, 1) := dk_4 (byr_X9_set_3 (j := 4) rfl)
theorem dX9_set_53 : decode cX9_set 53 = .ok (.goto 4, 3) := dk_167 (byr_X9_set_3 (j := 5) rfl) (byr_X9_set_3 (j := 6) rfl) (byr_X9_set_3 (j := 7) rfl) (by decide)
theorem dX9_set_56 : decode cX9_set 56 = .ok (.iconst 0, 1) := dk_3 (byr_X9_set_3 (j := 8) rfl)
theorem dX9_set_57 : decode cX9_set 57 = .ok (.istore_n 3, 1) := dk_62 (byr_X9_set_3 (j := 9) rfl)
theorem dX9_set_58 : decode cX9_set 58 = .ok (.iload_n 3, 1) := dk_29 (byr_X9_set_3 (j := 10) rfl)
theorem dX9_set_59 : decode cX9_set 59 = .ok (.ifCond .ne 9, 3) := dk_154 (byr_X9_set_3 (j := 11) rfl) (byr_X9_set_3 (j := 12) rfl) (byr_X9_set_3 (j := 13) rfl) (by decide)
theorem dX9_set_62 : decode cX9_set 62 = .ok (.aload_n 0, 1) := dk_42 (byr_X9_set_3 (j := 14) rfl)
theorem dX9_set_63 : decode cX9_set 63 = .ok (.iconst 1, 1) := dk_4 (byr_X9_set_3 (j := 15) rfl)
theorem dX9_set_64 : decode cX9_set 64 = .ok (.invokevirtual 126, 3) := dk_182 (byr_X9_set_4 (j := 0) rfl) (byr_X9_set_4 (j := 1) rfl) (byr_X9_set_4 (j := 2) rfl) (by decide)
theorem dX9_set_67 : decode cX9_set 67 = .ok (.ireturn, 1) := dk_172 (byr_X9_set_4 (j := 3) rfl)
theorem dX9_set_68 : decode cX9_set 68 = .ok (.aload_n 0, 1) := dk_42 (byr_X9_set_4 (j := 4) rfl)
theorem dX9_set_69 : decode cX9_set 69 = .ok (.getfield 7, 3) := dk_180 (byr_X9_set_4 (j := 5) rfl) (byr_X9_set_4 (j := 6) rfl) (byr_X9_set_4 (j := 7) rfl) (by decide)
theorem dX9_set_72 : decode cX9_set 72 = .ok (.bipush 6, 2) := dk_16 (byr_X9_set_4 (j := 8) rfl) (byr_X9_set_4 (j := 9) rfl) (by decide)
theorem dX9_set_74 : decode cX9_set 74 = .ok (.iload_n 1, 1) := dk_27 (byr_X9_set_4 (j := 10) rfl)
theorem dX9_set_75 : decode cX9_set 75 = .ok (.iadd, 1) := dk_96 (byr_X9_set_4 (j := 11) rfl)
theorem dX9_set_76 : decode cX9_set 76 = .ok (.iaload, 1) := dk_46 (byr_X9_set_4 (j := 12) rfl)
theorem dX9_set_77 : decode cX9_set 77 = .ok (.istore 4, 2) := dk_54 (byr_X9_set_4 (j := 13) rfl) (byr_X9_set_4 (j := 14) rfl)
theorem dX9_set_79 : decode cX9_set 79 = .ok (.aload_n 0, 1) := dk_42 (byr_X9_set_4 (j := 15) rfl)
theorem dX9_set_80 : decode cX9_set 80 = .ok (.getfield 7, 3) := dk_180 (byr_X9_set_5 (j := 0) rfl) (byr_X9_set_5 (j := 1) rfl) (byr_X9_set_5 (j := 2) rfl) (by decide)
theorem dX9_set_83 : decode cX9_set 83 = .ok (.bipush 6, 2) := dk_16 (byr_X9_set_5 (j := 3) rfl) (byr_X9_set_5 (j := 4) rfl) (by decide)
theorem dX9_set_85 : decode cX9_set 85 = .ok (.iload_n 1, 1) := dk_27 (byr_X9_set_5 (j := 5) rfl)
theorem dX9_set_86 : decode cX9_set 86 = .ok (.iadd, 1) := dk_96 (byr_X9_set_5 (j := 6) rfl)
theorem dX9_set_87 : decode cX9_set 87 = .ok (.iload_n 2, 1) := dk_28 (byr_X9_set_5 (j := 7) rfl)
theorem dX9_set_88 : decode cX9_set 88 = .ok (.iastore, 1) := dk_79 (byr_X9_set_5 (j := 8) rfl)
theorem dX9_set_89 : decode cX9_set 89 = .ok (.iload 4, 2) := dk_21 (byr_X9_set_5 (j := 9) rfl) (byr_X9_set_5 (j := 10) rfl)
theorem dX9_set_91 : decode cX9_set 91 = .ok (.ireturn, 1) := dk_172 (byr_X9_set_5 (j := 11) rfl)
set_option maxHeartbeats 4000000 in
set_option maxRecDepth 100000 in
theorem c_X9_set (l : Launch) (G : GT) (σ : Sto) (a1 : Int32) (a2 : Int32) (r : (Int32 × Sto)) (h : f_X9_set σ a1 a2 = some r) : MW l G (3) (89) 0 0 yX9_set cX9_set 5 (Option.some Jvm.ClassFile.FieldType.int) [.ref (gad G 81), .int a1, .int a2] (wl G σ) (some (.int r.1)) (wl G r.2) := by
  refine mw_of RX9 (fiI G) [(0, .ref (gad G 81)), (1, .int a1), (2, .int a2)] (by decide +kernel) rfl (Nat.le_of_ble_eq_true rfl) rfl h rfl (fun p e s m args below meth c X hr hnm => ?_)
  have J57 : ∀ (v1 : Int32) (v2 : Int32) (vs0 : Bool)  (σ : Sto), Sm p l e { frames := 3, cells := 0, slots := 0, locals := 89 } s m args below meth c G 5 (Qm below args s G 0 0 (fiI G)) 0 0 (wl G σ) 57 [(0, .ref (gad G 81)), (1, .int v1), (2, .int v2)] [.int (b2i vs0)] (f_X9_set_L57  v1 v2 vs0 σ) := by
    intro v1 v2 vs0 σ
    rw [f_X9_set_L57]
    refine sm_istore_n X 58 [(3, .int (b2i vs0)), (0, .ref (gad G 81)), (1, .int v1), (2, .int v2)] dX9_set_57 rfl rfl (by decide) rfl ?_
    refine sm_iload_n X 59 0 dX9_set_58 rfl rfl rfl ?_
    refine sm_ifz_ne X 62 68 dX9_set_59 rfl (by decide) (fun h59 => ?_) (fun h59 => ?_)
    · refine sm_aload_n X 69 1 dX9_set_68 rfl rfl rfl ?_
      refine sm_getf X 72 82 rfl fd_9_0 rfl dX9_set_69 rfl q_882 ?_
      refine sm_bipush X 74 (6) dX9_set_72 rfl rfl ?_
      refine sm_iload_n X 75 2 dX9_set_74 rfl rfl rfl ?_
      refine sm_iadd X 76 dX9_set_75 rfl ?_
      refine sm_iald X 77 rfl dX9_set_76 rfl (fun r76 e76 => ?_)
      clear e76
      refine sm_istore X 79 [(4, .int r76), (3, .int (b2i vs0)), (0, .ref (gad G 81)), (1, .int v1), (2, .int v2)] dX9_set_77 rfl (by decide) rfl ?_
      refine sm_aload_n X 80 2 dX9_set_79 rfl rfl rfl ?_
      refine sm_getf X 83 82 rfl fd_9_0 rfl dX9_set_80 rfl q_882 ?_
      refine sm_bipush X 85 (6) dX9_set_83 rfl rfl ?_
      refine sm_iload_n X 86 3 dX9_set_85 rfl rfl rfl ?_
      refine sm_iadd X 87 dX9_set_86 rfl ?_
      refine sm_iload_n X 88 4 dX9_set_87 rfl rfl rfl ?_
      refine sm_iast X 89 rfl dX9_set_88 rfl (fun σ88 e88 => ?_)
      clear e88
      refine sm_iload X 91 0 dX9_set_89 rfl rfl ?_
      exact sm_iret X hr dX9_set_91 rfl
    · refine sm_aload_n X 63 1 dX9_set_62 rfl rfl rfl ?_
      refine sm_iconst X 64 (1) dX9_set_63 rfl rfl ?_
      refine sm_bind (fun r64 h64 => ?_)
      refine sm_callV0 X 67 [.int 1] [] [.int r64.1] (c_X9_finds l G σ (1 : Int32) r64 h64) cw_X9_finds q_965 qs_26 q_963 rfl (by decide) rfl rfl rfl rfl rfl (Nat.le_of_ble_eq_true rfl) ⟨Nat.le_of_ble_eq_true rfl, Nat.le_of_ble_eq_true rfl⟩ ⟨Nat.le_refl _, Nat.le_refl _⟩ dX9_set_64 rfl ?_
      exact sm_iret X hr dX9_set_67 rfl
  have J56 : ∀ (v1 : Int32) (v2 : Int32)  (σ : Sto), Sm p l e { frames := 3, cells := 0, slots := 0, locals := 89 } s m args below meth c G 5 (Qm below args s G 0 0 (fiI G)) 0 0 (wl G σ) 56 [(0, .ref (gad G 81)), (1, .int v1), (2, .int v2)] [] (f_X9_set_L56  v1 v2 σ) := by
    intro v1 v2 σ
    rw [f_X9_set_L56]
    refine sm_iconst X 57 (0) dX9_set_56 rfl rfl ?_
    exact sm_sub [0, 1, 2] rfl (J57 v1 v2 false  σ)
  unfold f_X9_set
  refine sm_iload_n X 1 1 dX9_set_0 rfl rfl rfl ?_
  refine sm_if_ne X 4 18 dX9_set_1 rfl (by decide) (fun h1 => ?_) (fun h1 => ?_)
  · refine sm_iload_n X 5 2 dX9_set_4 rfl rfl rfl ?_
    refine sm_i2l X 6 dX9_set_5 rfl ?_
    refine sm_ldc2 X 9 (-3) dX9_set_6 rfl q_1059 ?_
    refine sm_ldc2 X 12 (3) dX9_set_9 rfl q_1060 ?_
    refine sm_bind (fun r12 h12 => ?_)
    refine sm_callS0 X 15 [.long (Int32.toInt64 a2), .long (-3 : Int64), .long (3 : Int64)] [] [.int (b2i r12)] (c_X9_in l G σ (Int32.toInt64 a2) (-3 : Int64) (3 : Int64) r12 h12) cw_X9_in q_961 q_960 rfl rfl rfl (Nat.le_of_ble_eq_true rfl) ⟨Nat.le_of_ble_eq_true rfl, Nat.le_of_ble_eq_true rfl⟩ ⟨Nat.le_refl _, Nat.le_refl _⟩ dX9_set_12 rfl ?_
    refine sm_goto X 57 dX9_set_15 (by decide) ?_
    exact sm_sub [0, 1, 2] rfl (J57 a1 a2 r12  σ)
  · refine sm_iload_n X 19 1 dX9_set_18 rfl rfl rfl ?_
    refine sm_iconst X 20 (1) dX9_set_19 rfl rfl ?_
    refine sm_icmp_ne X 23 35 dX9_set_20 rfl (by decide) (fun h20 => ?_) (fun h20 => ?_)
    · refine sm_iload_n X 24 2 dX9_set_23 rfl rfl rfl ?_
      refine sm_i2l X 25 dX9_set_24 rfl ?_
      refine sm_lconst X 26 (0) dX9_set_25 rfl rfl ?_
      refine sm_ldc2 X 29 (200) dX9_set_26 rfl q_1061 ?_
      refine sm_bind (fun r29 h29 => ?_)
      refine sm_callS0 X 32 [.long (Int32.toInt64 a2), .long (0 : Int64), .long (200 : Int64)] [] [.int (b2i r29)] (c_X9_in l G σ (Int32.toInt64 a2) (0 : Int64) (200 : Int64) r29 h29) cw_X9_in q_961 q_960 rfl rfl rfl (Nat.le_of_ble_eq_true rfl) ⟨Nat.le_of_ble_eq_true rfl, Nat.le_of_ble_eq_true rfl⟩ ⟨Nat.le_refl _, Nat.le_refl _⟩ dX9_set_29 rfl ?_
      refine sm_goto X 57 dX9_set_32 (by decide) ?_
      exact sm_sub [0, 1, 2] rfl (J57 a1 a2 r29  σ)
    · refine sm_iload_n X 36 1 dX9_set_35 rfl rfl rfl ?_
      refine sm_iconst X 37 (2) dX9_set_36 rfl rfl ?_
      refine sm_icmp_ne X 40 56 dX9_set_37 rfl (by decide) (fun h37 => ?_) (fun h37 => ?_)
      · refine sm_iload_n X 41 2 dX9_set_40 rfl rfl rfl ?_
        refine sm_i2l X 42 dX9_set_41 rfl ?_
        refine sm_lconst X 43 (0) dX9_set_42 rfl rfl ?_
        refine sm_ldc2 X 46 (1200) dX9_set_43 rfl q_1062 ?_
        refine sm_bind (fun r46 h46 => ?_)
        refine sm_callS0 X 49 [.long (Int32.toInt64 a2), .long (0 : Int64), .long (1200 : Int64)] [] [.int (b2i r46)] (c_X9_in l G σ (Int32.toInt64 a2) (0 : Int64) (1200 : Int64) r46 h46) cw_X9_in q_961 q_960 rfl rfl rfl (Nat.le_of_ble_eq_true rfl) ⟨Nat.le_of_ble_eq_true rfl, Nat.le_of_ble_eq_true rfl⟩ ⟨Nat.le_refl _, Nat.le_refl _⟩ dX9_set_46 rfl ?_
        refine sm_ifz_eq X 52 56 dX9_set_49 rfl (by decide) (fun h49 => ?_) (fun h49 => ?_)
        · refine sm_iconst X 53 (1) dX9_set_52 rfl rfl ?_
          refine sm_goto X 57 dX9_set_53 (by decide) ?_
          exact sm_sub [0, 1, 2] rfl (J57 a1 a2 true  σ)
        · exact sm_sub [0, 1, 2] rfl (J56 a1 a2  σ)
      · exact sm_sub [0, 1, 2] rfl (J56 a1 a2  σ)
def by_X9_flowOf_0 : List Nat := [42, 3, 42, 180, 0, 7, 3, 27, 96, 46, 42, 180, 0, 7, 16, 6]
def by_X9_flowOf_z : List Nat := [46, 27, 182, 0, 142, 172]
def by_X9_flowOf : List (List Nat) := [by_X9_flowOf_0]
set_option maxRecDepth 100000 in
theorem byo_X9_flowOf : cX9_flowOf.data.toList.map UInt8.toNat = by_X9_flowOf.flatten ++ by_X9_flowOf_z := by decide +kernel
theorem byl_X9_flowOf : by_X9_flowOf.all (fun r => r.length == 16) = true := by decide +kernel
theorem byr_X9_flowOf_0 {j v : Nat} (h : by_X9_flowOf_0[j]? = some v) : RD cX9_flowOf (0 + j) v := rd_16 byo_X9_flowOf byl_X9_flowOf 0 rfl h
theorem byr_X9_flowOf_1 {j v : Nat} (h : by_X9_flowOf_z[j]? = some v) : RD cX9_flowOf (16 + j) v := rd_z byo_X9_flowOf byl_X9_flowOf 1 rfl h
theorem dX9_flowOf_0 : decode cX9_flowOf 0 = .ok (.aload_n 0, 1) := dk_42 (byr_X9_flowOf_0 (j := 0) rfl)
theorem dX9_flowOf_1 : decode cX9_flowOf 1 = .ok (.iconst 0, 1) := dk_3 (byr_X9_flowOf_0 (j := 1) rfl)
theorem dX9_flowOf_2 : decode cX9_flowOf 2 = .ok (.aload_n 0, 1) := dk_42 (byr_X9_flowOf_0 (j := 2) rfl)
theorem dX9_flowOf_3 : decode cX9_flowOf 3 = .ok (.getfield 7, 3) := dk_180 (byr_X9_flowOf_0 (j := 3) rfl) (byr_X9_flowOf_0 (j := 4) rfl) (byr_X9_flowOf_0 (j := 5) rfl) (by decide)
theorem dX9_flowOf_6 : decode cX9_flowOf 6 = .ok (.iconst 0, 1) := dk_3 (byr_X9_flowOf_0 (j := 6) rfl)
theorem dX9_flowOf_7 : decode cX9_flowOf 7 = .ok (.iload_n 1, 1) := dk_27 (byr_X9_flowOf_0 (j := 7) rfl)
theorem dX9_flowOf_8 : decode cX9_flowOf 8 = .ok (.iadd, 1) := dk_96 (byr_X9_flowOf_0 (j := 8) rfl)
theorem dX9_flowOf_9 : decode cX9_flowOf 9 = .ok (.iaload, 1) := dk_46 (byr_X9_flowOf_0 (j := 9) rfl)
theorem dX9_flowOf_10 : decode cX9_flowOf 10 = .ok (.aload_n 0, 1) := dk_42 (byr_X9_flowOf_0 (j := 10) rfl)
theorem dX9_flowOf_11 : decode cX9_flowOf 11 = .ok (.getfield 7, 3) := dk_180 (byr_X9_flowOf_0 (j := 11) rfl) (byr_X9_flowOf_0 (j := 12) rfl) (byr_X9_flowOf_0 (j := 13) rfl) (by decide)
theorem dX9_flowOf_14 : decode cX9_flowOf 14 = .ok (.bipush 6, 2) := dk_16 (byr_X9_flowOf_0 (j := 14) rfl) (byr_X9_flowOf_0 (j := 15) rfl) (by decide)
theorem dX9_flowOf_16 : decode cX9_flowOf 16 = .ok (.iaload, 1) := dk_46 (byr_X9_flowOf_1 (j := 0) rfl)
theorem dX9_flowOf_17 : decode cX9_flowOf 17 = .ok (.iload_n 1, 1) := dk_27 (byr_X9_flowOf_1 (j := 1) rfl)
theorem dX9_flowOf_18 : decode cX9_flowOf 18 = .ok (.invokevirtual 142, 3) := dk_182 (byr_X9_flowOf_1 (j := 2) rfl) (byr_X9_flowOf_1 (j := 3) rfl) (byr_X9_flowOf_1 (j := 4) rfl) (by decide)
theorem dX9_flowOf_21 : decode cX9_flowOf 21 = .ok (.ireturn, 1) := dk_172 (byr_X9_flowOf_1 (j := 5) rfl)
set_option maxHeartbeats 4000000 in
set_option maxRecDepth 100000 in
theorem c_X9_flowOf (l : Launch) (G : GT) (σ : Sto) (a1 : Int32) (r : (Int32 × Sto)) (h : f_X9_flowOf σ a1 = some r) : MW l G (5) (136) 0 0 yX9_flowOf cX9_flowOf 2 (Option.some Jvm.ClassFile.FieldType.int) [.ref (gad G 81), .int a1] (wl G σ) (some (.int r.1)) (wl G r.2) := by
  refine mw_of RX9 (fiI G) [(0, .ref (gad G 81)), (1, .int a1)] (by decide +kernel) rfl (Nat.le_of_ble_eq_true rfl) rfl h rfl (fun p e s m args below meth c X hr hnm => ?_)
  unfold f_X9_flowOf
  refine sm_aload_n X 1 0 dX9_flowOf_0 rfl rfl rfl ?_
  refine sm_iconst X 2 (0) dX9_flowOf_1 rfl rfl ?_
  refine sm_aload_n X 3 0 dX9_flowOf_2 rfl rfl rfl ?_
  refine sm_getf X 6 82 rfl fd_9_0 rfl dX9_flowOf_3 rfl q_882 ?_
  refine sm_iconst X 7 (0) dX9_flowOf_6 rfl rfl ?_
  refine sm_iload_n X 8 1 dX9_flowOf_7 rfl rfl rfl ?_
  refine sm_iadd X 9 dX9_flowOf_8 rfl ?_
  refine sm_iald X 10 rfl dX9_flowOf_9 rfl (fun r9 e9 => ?_)
  clear e9
  refine sm_aload_n X 11 0 dX9_flowOf_10 rfl rfl rfl ?_
  refine sm_getf X 14 82 rfl fd_9_0 rfl dX9_flowOf_11 rfl q_882 ?_
  refine sm_bipush X 16 (6) dX9_flowOf_14 rfl rfl ?_
  refine sm_iald X 17 rfl dX9_flowOf_16 rfl (fun r16 e16 => ?_)
  clear e16
  refine sm_iload_n X 18 1 dX9_flowOf_17 rfl rfl rfl ?_
  refine sm_bind (fun r18 h18 => ?_)
  refine sm_callV0 X 21 [.int 0, .int r9, .int r16, .int a1] [] [.int r18.1] (c_X9_gives l G σ (0 : Int32) r9 r16 a1 r18 h18) cw_X9_gives q_1033 qs_40 q_1031 rfl (by decide) rfl rfl rfl rfl rfl (Nat.le_of_ble_eq_true rfl) ⟨Nat.le_of_ble_eq_true rfl, Nat.le_of_ble_eq_true rfl⟩ ⟨Nat.le_refl _, Nat.le_refl _⟩ dX9_flowOf_18 rfl ?_
  exact sm_iret X hr dX9_flowOf_21 rfl
def by_X9_flow_0 : List Nat := [27, 184, 0, 146, 153, 0, 11, 42, 27, 182, 0, 161, 167, 0, 8, 42]
def by_X9_flow_z : List Nat := [4, 182, 0, 126, 172]
def by_X9_flow : List (List Nat) := [by_X9_flow_0]
set_option maxRecDepth 100000 in
theorem byo_X9_flow : cX9_flow.data.toList.map UInt8.toNat = by_X9_flow.flatten ++ by_X9_flow_z := by decide +kernel
theorem byl_X9_flow : by_X9_flow.all (fun r => r.length == 16) = true := by decide +kernel
theorem byr_X9_flow_0 {j v : Nat} (h : by_X9_flow_0[j]? = some v) : RD cX9_flow (0 + j) v := rd_16 byo_X9_flow byl_X9_flow 0 rfl h
theorem byr_X9_flow_1 {j v : Nat} (h : by_X9_flow_z[j]? = some v) : RD cX9_flow (16 + j) v := rd_z byo_X9_flow byl_X9_flow 1 rfl h
theorem dX9_flow_0 : decode cX9_flow 0 = .ok (.iload_n 1, 1) := dk_27 (byr_X9_flow_0 (j := 0) rfl)
theorem dX9_flow_1 : decode cX9_flow 1 = .ok (.invokestatic 146, 3) := dk_184 (byr_X9_flow_0 (j := 1) rfl) (byr_X9_flow_0 (j := 2) rfl) (byr_X9_flow_0 (j := 3) rfl) (by decide)
theorem dX9_flow_4 : decode cX9_flow 4 = .ok (.ifCond .eq 11, 3) := dk_153 (byr_X9_flow_0 (j := 4) rfl) (byr_X9_flow_0 (j := 5) rfl) (byr_X9_flow_0 (j := 6) rfl) (by decide)
theorem dX9_flow_7 : decode cX9_flow 7 = .ok (.aload_n 0, 1) := dk_42 (byr_X9_flow_0 (j := 7) rfl)
theorem dX9_flow_8 : decode cX9_flow 8 = .ok (.iload_n 1, 1) := dk_27 (byr_X9_flow_0 (j := 8) rfl)
theorem dX9_flow_9 : decode cX9_flow 9 = .ok (.invokevirtual 161, 3) := dk_182 (byr_X9_flow_0 (j := 9) rfl) (byr_X9_flow_0 (j := 10) rfl) (byr_X9_flow_0 (j := 11) rfl) (by decide)
theorem dX9_flow_12 : decode cX9_flow 12 = .ok (.goto 8, 3) := dk_167 (byr_X9_flow_0 (j := 12) rfl) (byr_X9_flow_0 (j := 13) rfl) (byr_X9_flow_0 (j := 14) rfl) (by decide)
theorem dX9_flow_15 : decode cX9_flow 15 = .ok (.aload_n 0, 1) := dk_42 (byr_X9_flow_0 (j := 15) rfl)
theorem dX9_flow_16 : decode cX9_flow 16 = .ok (.iconst 1, 1) := dk_4 (byr_X9_flow_1 (j := 0) rfl)
theorem dX9_flow_17 : decode cX9_flow 17 = .ok (.invokevirtual 126, 3) := dk_182 (byr_X9_flow_1 (j := 1) rfl) (byr_X9_flow_1 (j := 2) rfl) (byr_X9_flow_1 (j := 3) rfl) (by decide)
theorem dX9_flow_20 : decode cX9_flow 20 = .ok (.ireturn, 1) := dk_172 (byr_X9_flow_1 (j := 4) rfl)
set_option maxHeartbeats 4000000 in
set_option maxRecDepth 100000 in
theorem c_X9_flow (l : Launch) (G : GT) (σ : Sto) (a1 : Int32) (r : (Int32 × Sto)) (h : f_X9_flow σ a1 = some r) : MW l G (6) (157) 0 0 yX9_flow cX9_flow 2 (Option.some Jvm.ClassFile.FieldType.int) [.ref (gad G 81), .int a1] (wl G σ) (some (.int r.1)) (wl G r.2) := by
  refine mw_of RX9 (fiI G) [(0, .ref (gad G 81)), (1, .int a1)] (by decide +kernel) rfl (Nat.le_of_ble_eq_true rfl) rfl h rfl (fun p e s m args below meth c X hr hnm => ?_)
  unfold f_X9_flow
  refine sm_iload_n X 1 1 dX9_flow_0 rfl rfl rfl ?_
  refine sm_bind (fun r1 h1 => ?_)
  refine sm_callS0 X 4 [.int a1] [] [.int (b2i r1)] (c_X9_isLane l G σ a1 r1 h1) cw_X9_isLane q_1050 q_1049 rfl rfl rfl (Nat.le_of_ble_eq_true rfl) ⟨Nat.le_of_ble_eq_true rfl, Nat.le_of_ble_eq_true rfl⟩ ⟨Nat.le_refl _, Nat.le_refl _⟩ dX9_flow_1 rfl ?_
  refine sm_ifz_eq X 7 15 dX9_flow_4 rfl (by decide) (fun h4 => ?_) (fun h4 => ?_)
  · refine sm_aload_n X 8 0 dX9_flow_7 rfl rfl rfl ?_
    refine sm_iload_n X 9 1 dX9_flow_8 rfl rfl rfl ?_
    refine sm_bind (fun r9 h9 => ?_)
    refine sm_callV0 X 12 [.int a1] [] [.int r9.1] (c_X9_flowOf l G σ a1 r9 h9) cw_X9_flowOf q_1069 qs_42 q_1067 rfl (by decide) rfl rfl rfl rfl rfl (Nat.le_of_ble_eq_true rfl) ⟨Nat.le_of_ble_eq_true rfl, Nat.le_of_ble_eq_true rfl⟩ ⟨Nat.le_refl _, Nat.le_refl _⟩ dX9_flow_9 rfl ?_
    refine sm_goto X 20 dX9_flow_12 (by decide) ?_
    exact sm_iret X hr dX9_flow_20 rfl
  · refine sm_aload_n X 16 0 dX9_flow_15 rfl rfl rfl ?_
    refine sm_iconst X 17 (1) dX9_flow_16 rfl rfl ?_
    refine sm_bind (fun r17 h17 => ?_)
    refine sm_callV0 X 20 [.int 1] [] [.int r17.1] (c_X9_finds l G σ (1 : Int32) r17 h17) cw_X9_finds q_965 qs_26 q_963 rfl (by decide) rfl rfl rfl rfl rfl (Nat.le_of_ble_eq_true rfl) ⟨Nat.le_of_ble_eq_true rfl, Nat.le_of_ble_eq_true rfl⟩ ⟨Nat.le_refl _, Nat.le_refl _⟩ dX9_flow_17 rfl ?_
    exact sm_iret X hr dX9_flow_20 rfl
def by_X9_swimmer_0 : List Nat := [27, 133, 9, 20, 0, 164, 184, 0, 49, 153, 0, 13, 28, 133, 9, 10]
def by_X9_swimmer_1 : List Nat := [184, 0, 49, 154, 0, 9, 42, 4, 182, 0, 126, 172, 42, 180, 0, 7]
def by_X9_swimmer_2 : List Nat := [16, 12, 46, 16, 8, 160, 0, 9, 42, 7, 182, 0, 126, 172, 42, 180]
def by_X9_swimmer_3 : List Nat := [0, 7, 16, 12, 46, 62, 42, 29, 3, 27, 16, 10, 108, 182, 0, 166]
def by_X9_swimmer_4 : List Nat := [42, 29, 4, 27, 16, 10, 112, 182, 0, 166, 42, 29, 5, 28, 182, 0]
def by_X9_swimmer_5 : List Nat := [166, 42, 29, 6, 16, 10, 182, 0, 166, 42, 29, 7, 3, 182, 0, 166]
def by_X9_swimmer_6 : List Nat := [3, 54, 4, 21, 4, 7, 162, 0, 19, 42, 29, 8, 21, 4, 96, 3]
def by_X9_swimmer_7 : List Nat := [182, 0, 166, 132, 4, 1, 167, 255, 237, 42, 180, 0, 7, 16, 12, 92]
def by_X9_swimmer_z : List Nat := [46, 4, 96, 79, 29, 172]
def by_X9_swimmer : List (List Nat) := [by_X9_swimmer_0, by_X9_swimmer_1, by_X9_swimmer_2, by_X9_swimmer_3, by_X9_swimmer_4, by_X9_swimmer_5, by_X9_swimmer_6, by_X9_swimmer_7]
set_option maxRecDepth 100000 in
theorem byo_X9_swimmer : cX9_swimmer.data.toList.map UInt8.toNat = by_X9_swimmer.flatten ++ by_X9_swimmer_z := by decide +kernel
theorem byl_X9_swimmer : by_X9_swimmer.all (fun r => r.length == 16) = true := by decide +kernel
theorem byr_X9_swimmer_0 {j v : Nat} (h : by_X9_swimmer_0[j]? = some v) : RD cX9_swimmer (0 + j) v := rd_16 byo_X9_swimmer byl_X9_swimmer 0 rfl h
theorem byr_X9_swimmer_1 {j v : Nat} (h : by_X9_swimmer_1[j]? = some v) : RD cX9_swimmer (16 + j) v := rd_16 byo_X9_swimmer byl_X9_swimmer 1 rfl h
theorem byr_X9_swimmer_2 {j v : Nat} (h : by_X9_swimmer_2[j]? = some v) : RD cX9_swimmer (32 + j) v := rd_16 byo_X9_swimmer byl_X9_swimmer 2 rfl h
theorem byr_X9_swimmer_3 {j v : Nat} (h : by_X9_swimmer_3[j]? = some v) : RD cX9_swimmer (48 + j) v := rd_16 byo_X9_swimmer byl_X9_swimmer 3 rfl h
theorem byr_X9_swimmer_4 {j v : Nat} (h : by_X9_swimmer_4[j]? = some v) : RD cX9_swimmer (64 + j) v := rd_16 byo_X9_swimmer byl_X9_swimmer 4 rfl h
theorem byr_X9_swimmer_5 {j v : Nat} (h : by_X9_swimmer_5[j]? = some v) : RD cX9_swimmer (80 + j) v := rd_16 byo_X9_swimmer byl_X9_swimmer 5 rfl h
theorem byr_X9_swimmer_6 {j v : Nat} (h : by_X9_swimmer_6[j]? = some v) : RD cX9_swimmer (96 + j) v := rd_16 byo_X9_swimmer byl_X9_swimmer 6 rfl h
theorem byr_X9_swimmer_7 {j v : Nat} (h : by_X9_swimmer_7[j]? = some v) : RD cX9_swimmer (112 + j) v := rd_16 byo_X9_swimmer byl_X9_swimmer 7 rfl h
theorem byr_X9_swimmer_8 {j v : Nat} (h : by_X9_swimmer_z[j]? = some v) : RD cX9_swimmer (128 + j) v := rd_z byo_X9_swimmer byl_X9_swimmer 8 rfl h
theorem dX9_swimmer_0 : decode cX9_swimmer 0 = .ok (.iload_n 1, 1) := dk_27 (byr_X9_swimmer_0 (j := 0) rfl)
theorem dX9_swimmer_1 : decode cX9_swimmer 1 = .ok (.i2l, 1) := dk_133 (byr_X9_swimmer_0 (j := 1) rfl)
theorem dX9_swimmer_2 : decode cX9_swimmer 2 = .ok (.lconst 0, 1) := dk_9 (byr_X9_swimmer_0 (j := 2) rfl)
theorem dX9_swimmer_3 : decode cX9_swimmer 3 = .ok (.ldc2_w 164, 3) := dk_20 (byr_X9_swimmer_0 (j := 3) rfl) (byr_X9_swimmer_0 (j := 4) rfl) (byr_X9_swimmer_0 (j := 5) rfl) (by decide)
theorem dX9_swimmer_6 : decode cX9_swimmer 6 = .ok (.invokestatic 49, 3) := dk_184 (byr_X9_swimmer_0 (j := 6) rfl) (byr_X9_swimmer_0 (j := 7) rfl) (byr_X9_swimmer_0 (j := 8) rfl) (by decide)
theorem dX9_swimmer_9 : decode cX9_swimmer 9 = .ok (.ifCond .eq 13, 3) := dk_153 (byr_X9_swimmer_0 (j := 9) rfl) (byr_X9_swimmer_0 (j := 10) rfl) (byr_X9_swimmer_0 (j := 11) rfl) (by decide)
theorem dX9_swimmer_12 : decode cX9_swimmer 12 = .ok (.iload_n 2, 1) := dk_28 (byr_X9_swimmer_0 (j := 12) rfl)
theorem dX9_swimmer_13 : decode cX9_swimmer 13 = .ok (.i2l, 1) := dk_133 (byr_X9_swimmer_0 (j := 13) rfl)
theorem dX9_swimmer_14 : decode cX9_swimmer 14 = .ok (.lconst 0, 1) := dk_9 (byr_X9_swimmer_0 (j := 14) rfl)
theorem dX9_swimmer_15 : decode cX9_swimmer 15 = .ok (.lconst 1, 1) := dk_10 (byr_X9_swimmer_0 (j := 15) rfl)
theorem dX9_swimmer_16 : decode cX9_swimmer 16 = .ok (.invokestatic 49, 3) := dk_184 (byr_X9_swimmer_1 (j := 0) rfl) (byr_X9_swimmer_1 (j := 1) rfl) (byr_X9_swimmer_1 (j := 2) rfl) (by decide)
theorem dX9_swimmer_19 : decode cX9_swimmer 19 = .ok (.ifCond .ne 9, 3) := dk_154 (byr_X9_swimmer_1 (j := 3) rfl) (byr_X9_swimmer_1 (j := 4) rfl) (byr_X9_swimmer_1 (j := 5) rfl) (by decide)
theorem dX9_swimmer_22 : decode cX9_swimmer 22 = .ok (.aload_n 0, 1) := dk_42 (byr_X9_swimmer_1 (j := 6) rfl)
theorem dX9_swimmer_23 : decode cX9_swimmer 23 = .ok (.iconst 1, 1) := dk_4 (byr_X9_swimmer_1 (j := 7) rfl)
theorem dX9_swimmer_24 : decode cX9_swimmer 24 = .ok (.invokevirtual 126, 3) := dk_182 (byr_X9_swimmer_1 (j := 8) rfl) (byr_X9_swimmer_1 (j := 9) rfl) (byr_X9_swimmer_1 (j := 10) rfl) (by decide)
theorem dX9_swimmer_27 : decode cX9_swimmer 27 = .ok (.ireturn, 1) := dk_172 (byr_X9_swimmer_1 (j := 11) rfl)
theorem dX9_swimmer_28 : decode cX9_swimmer 28 = .ok (.aload_n 0, 1) := dk_42 (byr_X9_swimmer_1 (j := 12) rfl)
theorem dX9_swimmer_29 : decode cX9_swimmer 29 = .ok (.getfield 7, 3) := dk_180 (byr_X9_swimmer_1 (j := 13) rfl) (byr_X9_swimmer_1 (j := 14) rfl) (byr_X9_swimmer_1 (j := 15) rfl) (by decide)
theorem dX9_swimmer_32 : decode cX9_swimmer 32 = .ok (.bipush 12, 2) := dk_16 (byr_X9_swimmer_2 (j := 0) rfl) (byr_X9_swimmer_2 (j := 1) rfl) (by decide)
theorem dX9_swimmer_34 : decode cX9_swimmer 34 = .ok (.iaload, 1) := dk_46 (byr_X9_swimmer_2 (j := 2) rfl)
theorem dX9_swimmer_35 : decode cX9_swimmer 35 = .ok (.bipush 8, 2) := dk_16 (byr_X9_swimmer_2 (j := 3) rfl) (byr_X9_swimmer_2 (j := 4) rfl) (by decide)
theorem dX9_swimmer_37 : decode cX9_swimmer 37 = .ok (.if_icmp .ne 9, 3) := dk_160 (byr_X9_swimmer_2 (j := 5) rfl) (byr_X9_swimmer_2 (j := 6) rfl) (byr_X9_swimmer_2 (j := 7) rfl) (by decide)
theorem dX9_swimmer_40 : decode cX9_swimmer 40 = .ok (.aload_n 0, 1) := dk_42 (byr_X9_swimmer_2 (j := 8) rfl)
theorem dX9_swimmer_41 : decode cX9_swimmer 41 = .ok (.iconst 4, 1) := dk_7 (byr_X9_swimmer_2 (j := 9) rfl)
theorem dX9_swimmer_42 : decode cX9_swimmer 42 = .ok (.invokevirtual 126, 3) := dk_182 (byr_X9_swimmer_2 (j := 10) rfl) (byr_X9_swimmer_2 (j := 11) rfl) (byr_X9_swimmer_2 (j := 12) rfl) (by decide)
theorem dX9_swimmer_45 : decode cX9_swimmer 45 = .ok (.ireturn, 1) := dk_172 (byr_X9_swimmer_2 (j := 13) rfl)
theorem dX9_swimmer_46 : decode cX9_swimmer 46 = .ok (.aload_n 0, 1) := dk_42 (byr_X9_swimmer_2 (j := 14) rfl)
theorem dX9_swimmer_47 : decode cX9_swimmer 47 = .ok (.getfield 7, 3) := dk_180 (byr_X9_swimmer_2 (j := 15) rfl) (byr_X9_swimmer_3 (j := 0) rfl) (byr_X9_swimmer_3 (j := 1) rfl) (by decide)
theorem dX9_swimmer_50 : decode cX9_swimmer 50 = .ok (.bipush 12, 2) := dk_16 (byr_X9_swimmer_3 (j := 2) rfl) (byr_X9_swimmer_3 (j := 3) rfl) (by decide)
theorem dX9_swimmer_52 : decode cX9_swimmer 52 = .ok (.iaload, 1) := dk_46 (byr_X9_swimmer_3 (j := 4) rfl)
theorem dX9_swimmer_53 : decode cX9_swimmer 53 = .ok (.istore_n 3, 1) := dk_62 (byr_X9_swimmer_3 (j := 5) rfl)
theorem dX9_swimmer_54 : decode cX9_swimmer 54 = .ok (.aload_n 0, 1) := dk_42 (byr_X9_swimmer_3 (j := 6) rfl)
theorem dX9_swimmer_55 : decode cX9_swimmer 55 = .ok (.iload_n 3, 1) := dk_29 (byr_X9_swimmer_3 (j := 7) rfl)
theorem dX9_swimmer_56 : decode cX9_swimmer 56 = .ok (.iconst 0, 1) := dk_3 (byr_X9_swimmer_3 (j := 8) rfl)
theorem dX9_swimmer_57 : decode cX9_swimmer 57 = .ok (.iload_n 1, 1) := dk_27 (byr_X9_swimmer_3 (j := 9) rfl)
theorem dX9_swimmer_58 : decode cX9_swimmer 58 = .ok (.bipush 10, 2) := dk_16 (byr_X9_swimmer_3 (j := 10) rfl) (byr_X9_swimmer_3 (j := 11) rfl) (by decide)
theorem dX9_swimmer_60 : decode cX9_swimmer 60 = .ok (.idiv, 1) := dk_108 (byr_X9_swimmer_3 (j := 12) rfl)
theorem dX9_swimmer_61 : decode cX9_swimmer 61 = .ok (.invokevirtual 166, 3) := dk_182 (byr_X9_swimmer_3 (j := 13) rfl) (byr_X9_swimmer_3 (j := 14) rfl) (byr_X9_swimmer_3 (j := 15) rfl) (by decide)
theorem dX9_swimmer_64 : decode cX9_swimmer 64 = .ok (.aload_n 0, 1) := dk_42 (byr_X9_swimmer_4 (j := 0) rfl)
theorem dX9_swimmer_65 : decode cX9_swimmer 65 = .ok (.iload_n 3, 1) := dk_29 (byr_X9_swimmer_4 (j := 1) rfl)
theorem dX9_swimmer_66 : decode cX9_swimmer 66 = .ok (.iconst 1, 1) := dk_4 (byr_X9_swimmer_4 (j := 2) rfl)
theorem dX9_swimmer_67 : decode cX9_swimmer 67 = .ok (.iload_n 1, 1) := dk_27 (byr_X9_swimmer_4 (j := 3) rfl)
theorem dX9_swimmer_68 : decode cX9_swimmer 68 = .ok (.bipush 10, 2) := dk_16 (byr_X9_swimmer_4 (j := 4) rfl) (byr_X9_swimmer_4 (j := 5) rfl) (by decide)
theorem dX9_swimmer_70 : decode cX9_swimmer 70 = .ok (.irem, 1) := dk_112 (byr_X9_swimmer_4 (j := 6) rfl)
theorem dX9_swimmer_71 : decode cX9_swimmer 71 = .ok (.invokevirtual 166, 3) := dk_182 (byr_X9_swimmer_4 (j := 7) rfl) (byr_X9_swimmer_4 (j := 8) rfl) (byr_X9_swimmer_4 (j := 9) rfl) (by decide)
theorem dX9_swimmer_74 : decode cX9_swimmer 74 = .ok (.aload_n 0, 1) := dk_42 (byr_X9_swimmer_4 (j := 10) rfl)
theorem dX9_swimmer_75 : decode cX9_swimmer 75 = .ok (.iload_n 3, 1) := dk_29 (byr_X9_swimmer_4 (j := 11) rfl)
theorem dX9_swimmer_76 : decode cX9_swimmer 76 = .ok (.iconst 2, 1) := dk_5 (byr_X9_swimmer_4 (j := 12) rfl)
theorem dX9_swimmer_77 : decode cX9_swimmer 77 = .ok (.iload_n 2, 1) := dk_28 (byr_X9_swimmer_4 (j := 13) rfl)
theorem dX9_swimmer_78 : decode cX9_swimmer 78 = .ok (.invokevirtual 166, 3) := dk_182 (byr_X9_swimmer_4 (j := 14) rfl) (byr_X9_swimmer_4 (j := 15) rfl) (byr_X9_swimmer_5 (j := 0) rfl) (by decide)
theorem dX9_swimmer_81 : decode cX9_swimmer 81 = .ok (.aload_n 0, 1) := dk_42 (byr_X9_swimmer_5 (j := 1) rfl)
theorem dX9_swimmer_82 : decode cX9_swimmer 82 = .ok (.iload_n 3, 1) := dk_29 (byr_X9_swimmer_5 (j := 2) rfl)
theorem dX9_swimmer_83 : decode cX9_swimmer 83 = .ok (.iconst 3, 1) := dk_6 (byr_X9_swimmer_5 (j := 3) rfl)
theorem dX9_swimmer_84 : decode cX9_swimmer 84 = .ok (.bipush 10, 2) := dk_16 (byr_X9_swimmer_5 (j := 4) rfl) (byr_X9_swimmer_5 (j := 5) rfl) (by decide)
theorem dX9_swimmer_86 : decode cX9_swimmer 86 = .ok (.invokevirtual 166, 3) := dk_182 (byr_X9_swimmer_5 (j := 6) rfl) (byr_X9_swimmer_5 (j := 7) rfl) (byr_X9_swimmer_5 (j := 8) rfl) (by decide)
theorem dX9_swimmer_89 : decode cX9_swimmer 89 = .ok (.aload_n 0, 1) := dk_42 (byr_X9_swimmer_5 (j := 9) rfl)
theorem dX9_swimmer_90 : decode cX9_swimmer 90 = .ok (.iload_n 3, 1) := dk_29 (byr_X9_swimmer_5 (j := 10) rfl)
theorem dX9_swimmer_91 : decode cX9_swimmer 91 = .ok (.iconst 4, 1) := dk_7 (byr_X9_swimmer_5 (j := 11) rfl)
theorem dX9_swimmer_92 : decode cX9_swimmer 92 = .ok (.iconst 0, 1) := dk_3 (byr_X9_swimmer_5 (j := 12) rfl)
theorem dX9_swimmer_93 : decode cX9_swimmer 93 = .ok (.invokevirtual 166, 3) := dk_182 (byr_X9_swimmer_5 (j := 13) rfl) (byr_X9_swimmer_5 (j := 14) rfl) (byr_X9_swimmer_5 (j := 15) rfl) (by decide)
theorem dX9_swimmer_96 : decode cX9_swimmer 96 = .ok (.iconst 0, 1) := dk_3 (byr_X9_swimmer_6 (j := 0) rfl)
theorem dX9_swimmer_97 : decode cX9_swimmer 97 = .ok (.istore 4, 2) := dk_54 (byr_X9_swimmer_6 (j := 1) rfl) (byr_X9_swimmer_6 (j := 2) rfl)
theorem dX9_swimmer_99 : decode cX9_swimmer 99 = .ok (.iload 4, 2) := dk_21 (byr_X9_swimmer_6 (j := 3) rfl) (byr_X9_swimmer_6 (j := 4) rfl)
theorem dX9_swimmer_101 : decode cX9_swimmer 101 = .ok (.iconst 4, 1) := dk_7 (byr_X9_swimmer_6 (j := 5) rfl)
theorem dX9_swimmer_102 : decode cX9_swimmer 102 = .ok (.if_icmp .ge 19, 3) := dk_162 (byr_X9_swimmer_6 (j := 6) rfl) (byr_X9_swimmer_6 (j := 7) rfl) (byr_X9_swimmer_6 (j := 8) rfl) (by decide)
theorem dX9_swimmer_105 : decode cX9_swimmer 105 = .ok (.aload_n 0, 1) := dk_42 (byr_X9_swimmer_6 (j := 9) rfl)
theorem dX9_swimmer_106 : decode cX9_swimmer 106 = .ok (.iload_n 3, 1) := dk_29 (byr_X9_swimmer_6 (j := 10) rfl)
theorem dX9_swimmer_107 : decode cX9_swimmer 107 = .ok (.iconst 5, 1) := dk_8 (byr_X9_swimmer_6 (j := 11) rfl)
theorem dX9_swimmer_108 : decode cX9_swimmer 108 = .ok (.iload 4, 2) := dk_21 (byr_X9_swimmer_6 (j := 12) rfl) (byr_X9_swimmer_6 (j := 13) rfl)
theorem dX9_swimmer_110 : decode cX9_swimmer 110 = .ok (.iadd, 1) := dk_96 (byr_X9_swimmer_6 (j := 14) rfl)
theorem dX9_swimmer_111 : decode cX9_swimmer 111 = .ok (.iconst 0, 1) := dk_3 (byr_X9_swimmer_6 (j := 15) rfl)
theorem dX9_swimmer_112 : decode cX9_swimmer 112 = .ok (.invokevirtual 166, 3) := dk_182 (byr_X9_swimmer_7 (j := 0) rfl) (byr_X9_swimmer_7 (j := 1) rfl) (byr_X9_swimmer_7 (j := 2) rfl) (by decide)
theorem dX9_swimmer_115 : decode cX9_swimmer 115 = .ok (.iinc 4 1, 3) := dk_132 (byr_X9_swimmer_7 (j := 3) rfl) (byr_X9_swimmer_7 (j := 4) rfl) (byr_X9_swimmer_7 (j := 5) rfl) (by decide)
theorem dX9_swimmer_118 : decode cX9_swimmer 118 = .ok (.goto (-19), 3) := dk_167 (byr_X9_swimmer_7 (j := 6) rfl) (byr_X9_swimmer_7 (j := 7) rfl) (byr_X9_swimmer_7 (j := 8) rfl) (by decide)
theorem dX9_swimmer_121 : decode cX9_swimmer 121 = .ok (.aload_n 0, 1) := dk_42 (byr_X9_swimmer_7 (j := 9) rfl)
theorem dX9_swimmer_122 : decode cX9_swimmer 122 = .ok (.getfield 7, 3) := dk_180 (byr_X9_swimmer_7 (j := 10) rfl) (byr_X9_swimmer_7 (j := 11) rfl) (byr_X9_swimmer_7 (j := 12) rfl) (by decide)
theorem dX9_swimmer_125 : decode cX9_swimmer 125 = .ok (.bipush 12, 2) := dk_16 (byr_X9_swimmer_7 (j := 13) rfl) (byr_X9_swimmer_7 (j := 14) rfl) (by decide)
theorem dX9_swimmer_127 : decode cX9_swimmer 127 = .ok (.dup2, 1) := dk_92 (byr_X9_swimmer_7 (j := 15) rfl)
theorem dX9_swimmer_128 : decode cX9_swimmer 128 = .ok (.iaload, 1) := dk_46 (byr_X9_swimmer_8 (j := 0) rfl)
theorem dX9_swimmer_129 : decode cX9_swimmer 129 = .ok (.iconst 1, 1) := dk_4 (byr_X9_swimmer_8 (j := 1) rfl)
theorem dX9_swimmer_130 : decode cX9_swimmer 130 = .ok (.iadd, 1) := dk_96 (byr_X9_swimmer_8 (j := 2) rfl)
theorem dX9_swimmer_131 : decode cX9_swimmer 131 = .ok (.iastore, 1) := dk_79 (byr_X9_swimmer_8 (j := 3) rfl)
theorem dX9_swimmer_132 : decode cX9_swimmer 132 = .ok (.iload_n 3, 1) := dk_29 (byr_X9_swimmer_8 (j := 4) rfl)
theorem dX9_swimmer_133 : decode cX9_swimmer 133 = .ok (.ireturn, 1) := dk_172 (byr_X9_swimmer_8 (j := 5) rfl)
set_option maxHeartbeats 4000000 in
set_option maxRecDepth 100000 in
theorem c_X9_swimmer (l : Launch) (G : GT) (σ : Sto) (a1 : Int32) (a2 : Int32) (r : (Int32 × Sto)) (h : f_X9_swimmer σ a1 a2 = some r) : MW l G (3) (89) 0 0 yX9_swimmer cX9_swimmer 5 (Option.some Jvm.ClassFile.FieldType.int) [.ref (gad G 81), .int a1, .int a2] (wl G σ) (some (.int r.1)) (wl G r.2) := by
  refine mw_of RX9 (fiI G) [(0, .ref (gad G 81)), (1, .int a1), (2, .int a2)] (by decide +kernel) rfl (Nat.le_of_ble_eq_true rfl) rfl h rfl (fun p e s m args below meth c X hr hnm => ?_)
  have J99 : ∀ (v3 : Int32)  (n : Nat) (v4 : Int32) (σ : Sto), Sm p l e { frames := 3, cells := 0, slots := 0, locals := 89 } s m args below meth c G 5 (Qm below args s G 0 0 (fiI G)) 0 0 (wl G σ) 99 [(0, .ref (gad G 81)), (3, .int v3), (4, .int v4)] [] (f_X9_swimmer_L99  v3 n v4 σ) := by
    intro v3 n
    induction n with
    | zero => intro v4 σ; rw [f_X9_swimmer_L99]; exact sm_none
    | succ n ihl =>
      intro v4 σ
      rw [f_X9_swimmer_L99]
      refine sm_iload X 101 2 dX9_swimmer_99 rfl rfl ?_
      refine sm_iconst X 102 (4) dX9_swimmer_101 rfl rfl ?_
      refine sm_icmp_ge X 105 121 dX9_swimmer_102 rfl (by decide) (fun h102 => ?_) (fun h102 => ?_)
      · refine sm_aload_n X 122 0 dX9_swimmer_121 rfl rfl rfl ?_
        refine sm_getf X 125 82 rfl fd_9_0 rfl dX9_swimmer_122 rfl q_882 ?_
        refine sm_bipush X 127 (12) dX9_swimmer_125 rfl rfl ?_
        refine sm_dup2 X 128 dX9_swimmer_127 rfl rfl rfl ?_
        refine sm_iald X 129 rfl dX9_swimmer_128 rfl (fun r128 e128 => ?_)
        clear e128
        refine sm_iconst X 130 (1) dX9_swimmer_129 rfl rfl ?_
        refine sm_iadd X 131 dX9_swimmer_130 rfl ?_
        refine sm_iast X 132 rfl dX9_swimmer_131 rfl (fun σ131 e131 => ?_)
        clear e131
        refine sm_iload_n X 133 1 dX9_swimmer_132 rfl rfl rfl ?_
        exact sm_iret X hr dX9_swimmer_133 rfl
      · refine sm_aload_n X 106 0 dX9_swimmer_105 rfl rfl rfl ?_
        refine sm_iload_n X 107 1 dX9_swimmer_106 rfl rfl rfl ?_
        refine sm_iconst X 108 (5) dX9_swimmer_107 rfl rfl ?_
        refine sm_iload X 110 2 dX9_swimmer_108 rfl rfl ?_
        refine sm_iadd X 111 dX9_swimmer_110 rfl ?_
        refine sm_iconst X 112 (0) dX9_swimmer_111 rfl rfl ?_
        refine sm_bind (fun r112 h112 => ?_)
        refine sm_callV0 X 115 [.int v3, .int ((5 : Int32) + v4), .int 0] [] [] (c_X9_becomes l G σ v3 ((5 : Int32) + v4) (0 : Int32) r112 h112) cw_X9_becomes q_1078 qs_43 q_1076 rfl (by decide) rfl rfl rfl rfl rfl (Nat.le_of_ble_eq_true rfl) ⟨Nat.le_of_ble_eq_true rfl, Nat.le_of_ble_eq_true rfl⟩ ⟨Nat.le_refl _, Nat.le_refl _⟩ dX9_swimmer_112 rfl ?_
        refine sm_iinc X 118 2 (1 : Int32) [(4, .int (v4 + (1 : Int32))), (0, .ref (gad G 81)), (3, .int v3)] dX9_swimmer_115 rfl rfl rfl (by decide) rfl ?_
        refine sm_goto X 99 dX9_swimmer_118 (by decide) ?_
        exact sm_sub [1, 2, 0] rfl (ihl (v4 + (1 : Int32)) r112)
  unfold f_X9_swimmer
  refine sm_iload_n X 1 1 dX9_swimmer_0 rfl rfl rfl ?_
  refine sm_i2l X 2 dX9_swimmer_1 rfl ?_
  refine sm_lconst X 3 (0) dX9_swimmer_2 rfl rfl ?_
  refine sm_ldc2 X 6 (69) dX9_swimmer_3 rfl q_1075 ?_
  refine sm_bind (fun r6 h6 => ?_)
  refine sm_callS0 X 9 [.long (Int32.toInt64 a1), .long (0 : Int64), .long (69 : Int64)] [] [.int (b2i r6)] (c_X9_in l G σ (Int32.toInt64 a1) (0 : Int64) (69 : Int64) r6 h6) cw_X9_in q_961 q_960 rfl rfl rfl (Nat.le_of_ble_eq_true rfl) ⟨Nat.le_of_ble_eq_true rfl, Nat.le_of_ble_eq_true rfl⟩ ⟨Nat.le_refl _, Nat.le_refl _⟩ dX9_swimmer_6 rfl ?_
  refine sm_ifz_eq X 12 22 dX9_swimmer_9 rfl (by decide) (fun h9 => ?_) (fun h9 => ?_)
  · refine sm_iload_n X 13 2 dX9_swimmer_12 rfl rfl rfl ?_
    refine sm_i2l X 14 dX9_swimmer_13 rfl ?_
    refine sm_lconst X 15 (0) dX9_swimmer_14 rfl rfl ?_
    refine sm_lconst X 16 (1) dX9_swimmer_15 rfl rfl ?_
    refine sm_bind (fun r16 h16 => ?_)
    refine sm_callS0 X 19 [.long (Int32.toInt64 a2), .long (0 : Int64), .long (1 : Int64)] [] [.int (b2i r16)] (c_X9_in l G σ (Int32.toInt64 a2) (0 : Int64) (1 : Int64) r16 h16) cw_X9_in q_961 q_960 rfl rfl rfl (Nat.le_of_ble_eq_true rfl) ⟨Nat.le_of_ble_eq_true rfl, Nat.le_of_ble_eq_true rfl⟩ ⟨Nat.le_refl _, Nat.le_refl _⟩ dX9_swimmer_16 rfl ?_
    refine sm_ifz_ne X 22 28 dX9_swimmer_19 rfl (by decide) (fun h19 => ?_) (fun h19 => ?_)
    · refine sm_aload_n X 29 0 dX9_swimmer_28 rfl rfl rfl ?_
      refine sm_getf X 32 82 rfl fd_9_0 rfl dX9_swimmer_29 rfl q_882 ?_
      refine sm_bipush X 34 (12) dX9_swimmer_32 rfl rfl ?_
      refine sm_iald X 35 rfl dX9_swimmer_34 rfl (fun r34 e34 => ?_)
      clear e34
      refine sm_bipush X 37 (8) dX9_swimmer_35 rfl rfl ?_
      refine sm_icmp_ne X 40 46 dX9_swimmer_37 rfl (by decide) (fun h37 => ?_) (fun h37 => ?_)
      · refine sm_aload_n X 41 0 dX9_swimmer_40 rfl rfl rfl ?_
        refine sm_iconst X 42 (4) dX9_swimmer_41 rfl rfl ?_
        refine sm_bind (fun r42 h42 => ?_)
        refine sm_callV0 X 45 [.int 4] [] [.int r42.1] (c_X9_finds l G σ (4 : Int32) r42 h42) cw_X9_finds q_965 qs_26 q_963 rfl (by decide) rfl rfl rfl rfl rfl (Nat.le_of_ble_eq_true rfl) ⟨Nat.le_of_ble_eq_true rfl, Nat.le_of_ble_eq_true rfl⟩ ⟨Nat.le_refl _, Nat.le_refl _⟩ dX9_swimmer_42 rfl ?_
        exact sm_iret X hr dX9_swimmer_45 rfl
      · refine sm_aload_n X 47 0 dX9_swimmer_46 rfl rfl rfl ?_
        refine sm_getf X 50 82 rfl fd_9_0 rfl dX9_swimmer_47 rfl q_882 ?_
        refine sm_bipush X 52 (12) dX9_swimmer_50 rfl rfl ?_
        refine sm_iald X 53 rfl dX9_swimmer_52 rfl (fun r52 e52 => ?_)
        clear e52
        refine sm_istore_n X 54 [(3, .int r52), (0, .ref (gad G 81)), (1, .int a1), (2, .int a2)] dX9_swimmer_53 rfl rfl (by decide) rfl ?_
        refine sm_aload_n X 55 1 dX9_swimmer_54 rfl rfl rfl ?_
        refine sm_iload_n X 56 0 dX9_swimmer_55 rfl rfl rfl ?_
        refine sm_iconst X 57 (0) dX9_swimmer_56 rfl rfl ?_
        refine sm_iload_n X 58 2 dX9_swimmer_57 rfl rfl rfl ?_
        refine sm_bipush X 60 (10) dX9_swimmer_58 rfl rfl ?_
        refine sm_idiv X 61 dX9_swimmer_60 rfl (by first | decide | assumption) ?_
        refine sm_bind (fun r61 h61 => ?_)
        refine sm_callV0 X 64 [.int r52, .int 0, .int (a1 / (10 : Int32))] [] [] (c_X9_becomes l G σ r52 (0 : Int32) (a1 / (10 : Int32)) r61 h61) cw_X9_becomes q_1078 qs_43 q_1076 rfl (by decide) rfl rfl rfl rfl rfl (Nat.le_of_ble_eq_true rfl) ⟨Nat.le_of_ble_eq_true rfl, Nat.le_of_ble_eq_true rfl⟩ ⟨Nat.le_refl _, Nat.le_refl _⟩ dX9_swimmer_61 rfl ?_
        refine sm_aload_n X 65 1 dX9_swimmer_64 rfl rfl rfl ?_
        refine sm_iload_n X 66 0 dX9_swimmer_65 rfl rfl rfl ?_
        refine sm_iconst X 67 (1) dX9_swimmer_66 rfl rfl ?_
        refine sm_iload_n X 68 2 dX9_swimmer_67 rfl rfl rfl ?_
        refine sm_bipush X 70 (10) dX9_swimmer_68 rfl rfl ?_
        refine sm_irem X 71 dX9_swimmer_70 rfl (by first | decide | assumption) ?_
        refine sm_bind (fun r71 h71 => ?_)
        refine sm_callV0 X 74 [.int r52, .int 1, .int (irem a1 (10 : Int32))] [] [] (c_X9_becomes l G r61 r52 (1 : Int32) (irem a1 (10 : Int32)) r71 h71) cw_X9_becomes q_1078 qs_43 q_1076 rfl (by decide) rfl rfl rfl rfl rfl (Nat.le_of_ble_eq_true rfl) ⟨Nat.le_of_ble_eq_true rfl, Nat.le_of_ble_eq_true rfl⟩ ⟨Nat.le_refl _, Nat.le_refl _⟩ dX9_swimmer_71 rfl ?_
        refine sm_aload_n X 75 1 dX9_swimmer_74 rfl rfl rfl ?_
        refine sm_iload_n X 76 0 dX9_swimmer_75 rfl rfl rfl ?_
        refine sm_iconst X 77 (2) dX9_swimmer_76 rfl rfl ?_
        refine sm_iload_n X 78 3 dX9_swimmer_77 rfl rfl rfl ?_
        refine sm_bind (fun r78 h78 => ?_)
        refine sm_callV0 X 81 [.int r52, .int 2, .int a2] [] [] (c_X9_becomes l G r71 r52 (2 : Int32) a2 r78 h78) cw_X9_becomes q_1078 qs_43 q_1076 rfl (by decide) rfl rfl rfl rfl rfl (Nat.le_of_ble_eq_true rfl) ⟨Nat.le_of_ble_eq_true rfl, Nat.le_of_ble_eq_true rfl⟩ ⟨Nat.le_refl _, Nat.le_refl _⟩ dX9_swimmer_78 rfl ?_
        refine sm_aload_n X 82 1 dX9_swimmer_81 rfl rfl rfl ?_
        refine sm_iload_n X 83 0 dX9_swimmer_82 rfl rfl rfl ?_
        refine sm_iconst X 84 (3) dX9_swimmer_83 rfl rfl ?_
        refine sm_bipush X 86 (10) dX9_swimmer_84 rfl rfl ?_
        refine sm_bind (fun r86 h86 => ?_)
        refine sm_callV0 X 89 [.int r52, .int 3, .int 10] [] [] (c_X9_becomes l G r78 r52 (3 : Int32) (10 : Int32) r86 h86) cw_X9_becomes q_1078 qs_43 q_1076 rfl (by decide) rfl rfl rfl rfl rfl (Nat.le_of_ble_eq_true rfl) ⟨Nat.le_of_ble_eq_true rfl, Nat.le_of_ble_eq_true rfl⟩ ⟨Nat.le_refl _, Nat.le_refl _⟩ dX9_swimmer_86 rfl ?_
        refine sm_aload_n X 90 1 dX9_swimmer_89 rfl rfl rfl ?_
        refine sm_iload_n X 91 0 dX9_swimmer_90 rfl rfl rfl ?_
        refine sm_iconst X 92 (4) dX9_swimmer_91 rfl rfl ?_
        refine sm_iconst X 93 (0) dX9_swimmer_92 rfl rfl ?_
        refine sm_bind (fun r93 h93 => ?_)
        refine sm_callV0 X 96 [.int r52, .int 4, .int 0] [] [] (c_X9_becomes l G r86 r52 (4 : Int32) (0 : Int32) r93 h93) cw_X9_becomes q_1078 qs_43 q_1076 rfl (by decide) rfl rfl rfl rfl rfl (Nat.le_of_ble_eq_true rfl) ⟨Nat.le_of_ble_eq_true rfl, Nat.le_of_ble_eq_true rfl⟩ ⟨Nat.le_refl _, Nat.le_refl _⟩ dX9_swimmer_93 rfl ?_
        refine sm_iconst X 97 (0) dX9_swimmer_96 rfl rfl ?_
        refine sm_istore X 99 [(4, .int 0), (3, .int r52), (0, .ref (gad G 81)), (1, .int a1), (2, .int a2)] dX9_swimmer_97 rfl (by decide) rfl ?_
        exact sm_sub [2, 1, 0] rfl (J99 r52  FU (0 : Int32) r93)
    · refine sm_aload_n X 23 0 dX9_swimmer_22 rfl rfl rfl ?_
      refine sm_iconst X 24 (1) dX9_swimmer_23 rfl rfl ?_
      refine sm_bind (fun r24 h24 => ?_)
      refine sm_callV0 X 27 [.int 1] [] [.int r24.1] (c_X9_finds l G σ (1 : Int32) r24 h24) cw_X9_finds q_965 qs_26 q_963 rfl (by decide) rfl rfl rfl rfl rfl (Nat.le_of_ble_eq_true rfl) ⟨Nat.le_of_ble_eq_true rfl, Nat.le_of_ble_eq_true rfl⟩ ⟨Nat.le_refl _, Nat.le_refl _⟩ dX9_swimmer_24 rfl ?_
      exact sm_iret X hr dX9_swimmer_27 rfl
  · refine sm_aload_n X 23 0 dX9_swimmer_22 rfl rfl rfl ?_
    refine sm_iconst X 24 (1) dX9_swimmer_23 rfl rfl ?_
    refine sm_bind (fun r24 h24 => ?_)
    refine sm_callV0 X 27 [.int 1] [] [.int r24.1] (c_X9_finds l G σ (1 : Int32) r24 h24) cw_X9_finds q_965 qs_26 q_963 rfl (by decide) rfl rfl rfl rfl rfl (Nat.le_of_ble_eq_true rfl) ⟨Nat.le_of_ble_eq_true rfl, Nat.le_of_ble_eq_true rfl⟩ ⟨Nat.le_refl _, Nat.le_refl _⟩ dX9_swimmer_24 rfl ?_
    exact sm_iret X hr dX9_swimmer_27 rfl
