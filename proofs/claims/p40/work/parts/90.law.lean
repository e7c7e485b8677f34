def R_law : String := "LakeSwimmersLaw"
def lw_P (b : Addr) (xs : List Int32) (args : Array Value) (s : State) : Prop := args = #[.ref b] ∧ s.IntsAt b xs ∧ xs.length ≤ 3072 ∧ (Jvm.Cond.and given_1 narrow_1).before args s = true
def lw_Q (_ : Array Value) (s : State) (o : Outcome) (t : State) : Prop := o = .returned (some (.int 1)) ∧ Framed s o t [] 600000 7302249
def lw_Z (below : List Frame) (a : Array Value) (s : State) : State → Prop := fun t => ∃ o, t.status = .running ∧ Ended t below o ∧ lw_Q a s o t
/-- the law's own end, with 1 on the stack, nothing written that was there before, its room as the claim has it -/
theorem lw_ret {p : Program} {l : Launch} {e : Env} {s : State} {m : MethodId} {below : List Frame} {meth : Method} {c : Code} {b : Nat} (hx : p.tables.exec = Jvm.exec) (hb : c.code = code) (hr : meth.sig.returnType = ret) (hlocks : meth.locks = false) {pc : Nat} {H : Heap} {ls : Array Slot} (hdg : decode code pc = .ok (.ireturn, 1)) : W p l e room_1 s m #[Value.ref b] below meth c H [] 600000 7302249 (lw_Z below #[Value.ref b] s) (F0 m pc ls [.int 1]) := by
  intro T hT X
  obtain ⟨fs, hret, hrun, hended, hW, hframe⟩ := X.leave (v := some (.int 1)) (hlocks := hlocks) (fun h => by rw [hr] at h; cases h)
  have hmeth' : T.vm.method? m = some meth := X.method'
  refine ⟨T.setFrames fs, ?_, .returned (some (.int 1)), hrun, hended, rfl, ⟨_, rfl⟩, hW, hframe⟩
  jvm_step X.here [X.here.top, hx, hb, hdg, hmeth', hr, ret, narrow_b1]
  (try refine ⟨rfl, ?_⟩); (try refine ⟨rfl, ?_⟩)
  first | (intro acts; rw [hret _ acts rfl rfl rfl]) | rw [hret _ _ rfl rfl rfl]
  exact Steps.refl _
/-- what holds at the law's entry: the machine, the code, the tables' words (any of lw_tbl by 'hts w (by decide +kernel)'), the script of L ints xs at the cell b, what the Statement gives of the start (any of its parts by flat_of_before) -/
def lw_At (p : Program) (s : State) (m : MethodId) (meth : Method) (c : Code) (b L : Nat) (xs : Nat → Int32) : Prop :=
  p.tables.exec = Jvm.exec ∧ c.code = code ∧ meth.sig.returnType = ret ∧ c.maxLocals = 4 ∧ s.vm.findClass R_law = some m.cls ∧ (∀ w ∈ lw_tbl, w.before #[Value.ref b] s = true) ∧ va_X b L xs s s.heap ∧ b < s.heap.size ∧ meth.locks = false ∧ (Jvm.Cond.and given_1 narrow_1).before #[Value.ref b] s = true
def by_L_law_0 : List Nat := [187, 0, 7, 89, 183, 0, 9, 76, 187, 0, 10, 89, 183, 0, 12, 77]
def by_L_law_1 : List Nat := [3, 62, 29, 42, 190, 16, 6, 100, 163, 5, 253, 42, 29, 46, 16, 63]
def by_L_law_2 : List Nat := [126, 170, 0, 0, 0, 0, 5, 238, 0, 0, 0, 0, 0, 0, 0, 38]
def by_L_law_3 : List Nat := [0, 0, 0, 171, 0, 0, 0, 204, 0, 0, 0, 237, 0, 0, 1, 4]
def by_L_law_4 : List Nat := [0, 0, 1, 37, 0, 0, 1, 70, 0, 0, 1, 103, 0, 0, 1, 146]
def by_L_law_5 : List Nat := [0, 0, 1, 179, 0, 0, 1, 212, 0, 0, 1, 245, 0, 0, 2, 52]
def by_L_law_6 : List Nat := [0, 0, 2, 75, 0, 0, 2, 128, 0, 0, 2, 161, 0, 0, 2, 204]
def by_L_law_7 : List Nat := [0, 0, 2, 237, 0, 0, 3, 14, 0, 0, 3, 57, 0, 0, 3, 100]
def by_L_law_8 : List Nat := [0, 0, 3, 133, 0, 0, 3, 166, 0, 0, 3, 189, 0, 0, 3, 252]
def by_L_law_9 : List Nat := [0, 0, 4, 39, 0, 0, 4, 72, 0, 0, 4, 95, 0, 0, 4, 138]
def by_L_law_10 : List Nat := [0, 0, 4, 161, 0, 0, 4, 204, 0, 0, 4, 247, 0, 0, 5, 54]
def by_L_law_11 : List Nat := [0, 0, 5, 77, 0, 0, 5, 110, 0, 0, 5, 123, 0, 0, 5, 136]
def by_L_law_12 : List Nat := [0, 0, 5, 159, 0, 0, 5, 192, 0, 0, 5, 215, 43, 42, 29, 4]
def by_L_law_13 : List Nat := [96, 46, 42, 29, 5, 96, 46, 182, 0, 13, 87, 44, 42, 29, 4, 96]
def by_L_law_14 : List Nat := [46, 42, 29, 5, 96, 46, 182, 0, 17, 87, 167, 5, 37, 43, 42, 29]
def by_L_law_15 : List Nat := [4, 96, 46, 42, 29, 5, 96, 46, 182, 0, 18, 87, 44, 42, 29, 4]
def by_L_law_16 : List Nat := [96, 46, 42, 29, 5, 96, 46, 182, 0, 21, 87, 167, 5, 4, 43, 42]
def by_L_law_17 : List Nat := [29, 4, 96, 46, 182, 0, 22, 87, 44, 42, 29, 4, 96, 46, 182, 0]
def by_L_law_18 : List Nat := [26, 87, 167, 4, 237, 43, 42, 29, 4, 96, 46, 42, 29, 5, 96, 46]
def by_L_law_19 : List Nat := [182, 0, 27, 87, 44, 42, 29, 4, 96, 46, 42, 29, 5, 96, 46, 182]
def by_L_law_20 : List Nat := [0, 30, 87, 167, 4, 204, 43, 42, 29, 4, 96, 46, 42, 29, 5, 96]
def by_L_law_21 : List Nat := [46, 182, 0, 31, 87, 44, 42, 29, 4, 96, 46, 42, 29, 5, 96, 46]
def by_L_law_22 : List Nat := [182, 0, 34, 87, 167, 4, 171, 43, 42, 29, 4, 96, 46, 42, 29, 5]
def by_L_law_23 : List Nat := [96, 46, 182, 0, 35, 87, 44, 42, 29, 4, 96, 46, 42, 29, 5, 96]
def by_L_law_24 : List Nat := [46, 182, 0, 38, 87, 167, 4, 138, 43, 42, 29, 4, 96, 46, 42, 29]
def by_L_law_25 : List Nat := [5, 96, 46, 42, 29, 6, 96, 46, 182, 0, 39, 87, 44, 42, 29, 4]
def by_L_law_26 : List Nat := [96, 46, 42, 29, 5, 96, 46, 42, 29, 6, 96, 46, 182, 0, 43, 87]
def by_L_law_27 : List Nat := [167, 4, 95, 43, 42, 29, 4, 96, 46, 42, 29, 5, 96, 46, 182, 0]
def by_L_law_28 : List Nat := [44, 87, 44, 42, 29, 4, 96, 46, 42, 29, 5, 96, 46, 182, 0, 47]
def by_L_law_29 : List Nat := [87, 167, 4, 62, 43, 42, 29, 4, 96, 46, 42, 29, 5, 96, 46, 182]
def by_L_law_30 : List Nat := [0, 48, 87, 44, 42, 29, 4, 96, 46, 42, 29, 5, 96, 46, 182, 0]
def by_L_law_31 : List Nat := [51, 87, 167, 4, 29, 43, 42, 29, 4, 96, 46, 42, 29, 5, 96, 46]
def by_L_law_32 : List Nat := [182, 0, 52, 87, 44, 42, 29, 4, 96, 46, 42, 29, 5, 96, 46, 182]
def by_L_law_33 : List Nat := [0, 55, 87, 167, 3, 252, 43, 42, 29, 4, 96, 46, 133, 16, 32, 121]
def by_L_law_34 : List Nat := [42, 29, 5, 96, 46, 133, 20, 0, 56, 127, 129, 42, 29, 6, 96, 46]
def by_L_law_35 : List Nat := [182, 0, 58, 87, 44, 42, 29, 4, 96, 46, 133, 16, 32, 121, 42, 29]
def by_L_law_36 : List Nat := [5, 96, 46, 133, 20, 0, 56, 127, 129, 42, 29, 6, 96, 46, 182, 0]
def by_L_law_37 : List Nat := [62, 87, 167, 3, 189, 43, 42, 29, 4, 96, 46, 182, 0, 63, 87, 44]
def by_L_law_38 : List Nat := [42, 29, 4, 96, 46, 182, 0, 66, 87, 167, 3, 166, 43, 42, 29, 4]
def by_L_law_39 : List Nat := [96, 46, 42, 29, 5, 96, 46, 42, 29, 6, 96, 46, 42, 29, 7, 96]
def by_L_law_40 : List Nat := [46, 182, 0, 67, 87, 44, 42, 29, 4, 96, 46, 42, 29, 5, 96, 46]
def by_L_law_41 : List Nat := [42, 29, 6, 96, 46, 42, 29, 7, 96, 46, 182, 0, 71, 87, 167, 3]
def by_L_law_42 : List Nat := [113, 43, 42, 29, 4, 96, 46, 42, 29, 5, 96, 46, 182, 0, 72, 87]
def by_L_law_43 : List Nat := [44, 42, 29, 4, 96, 46, 42, 29, 5, 96, 46, 182, 0, 75, 87, 167]
def by_L_law_44 : List Nat := [3, 80, 43, 42, 29, 4, 96, 46, 42, 29, 5, 96, 46, 42, 29, 6]
def by_L_law_45 : List Nat := [96, 46, 182, 0, 76, 87, 44, 42, 29, 4, 96, 46, 42, 29, 5, 96]
def by_L_law_46 : List Nat := [46, 42, 29, 6, 96, 46, 182, 0, 79, 87, 167, 3, 37, 43, 42, 29]
def by_L_law_47 : List Nat := [4, 96, 46, 42, 29, 5, 96, 46, 182, 0, 80, 87, 44, 42, 29, 4]
def by_L_law_48 : List Nat := [96, 46, 42, 29, 5, 96, 46, 182, 0, 83, 87, 167, 3, 4, 43, 42]
def by_L_law_49 : List Nat := [29, 4, 96, 46, 42, 29, 5, 96, 46, 182, 0, 84, 87, 44, 42, 29]
def by_L_law_50 : List Nat := [4, 96, 46, 42, 29, 5, 96, 46, 182, 0, 87, 87, 167, 2, 227, 43]
def by_L_law_51 : List Nat := [42, 29, 4, 96, 46, 42, 29, 5, 96, 46, 42, 29, 6, 96, 46, 182]
def by_L_law_52 : List Nat := [0, 88, 87, 44, 42, 29, 4, 96, 46, 42, 29, 5, 96, 46, 42, 29]
def by_L_law_53 : List Nat := [6, 96, 46, 182, 0, 91, 87, 167, 2, 184, 43, 42, 29, 4, 96, 46]
def by_L_law_54 : List Nat := [42, 29, 5, 96, 46, 42, 29, 6, 96, 46, 182, 0, 92, 87, 44, 42]
def by_L_law_55 : List Nat := [29, 4, 96, 46, 42, 29, 5, 96, 46, 42, 29, 6, 96, 46, 182, 0]
def by_L_law_56 : List Nat := [95, 87, 167, 2, 141, 43, 42, 29, 4, 96, 46, 42, 29, 5, 96, 46]
def by_L_law_57 : List Nat := [182, 0, 96, 87, 44, 42, 29, 4, 96, 46, 42, 29, 5, 96, 46, 182]
def by_L_law_58 : List Nat := [0, 99, 87, 167, 2, 108, 43, 42, 29, 4, 96, 46, 42, 29, 5, 96]
def by_L_law_59 : List Nat := [46, 182, 0, 100, 87, 44, 42, 29, 4, 96, 46, 42, 29, 5, 96, 46]
def by_L_law_60 : List Nat := [182, 0, 103, 87, 167, 2, 75, 43, 42, 29, 4, 96, 46, 182, 0, 104]
def by_L_law_61 : List Nat := [87, 44, 42, 29, 4, 96, 46, 182, 0, 107, 87, 167, 2, 52, 43, 42]
def by_L_law_62 : List Nat := [29, 4, 96, 46, 42, 29, 5, 96, 46, 42, 29, 6, 96, 46, 42, 29]
def by_L_law_63 : List Nat := [7, 96, 46, 42, 29, 8, 96, 46, 182, 0, 108, 87, 44, 42, 29, 4]
def by_L_law_64 : List Nat := [96, 46, 42, 29, 5, 96, 46, 42, 29, 6, 96, 46, 42, 29, 7, 96]
def by_L_law_65 : List Nat := [46, 42, 29, 8, 96, 46, 182, 0, 112, 87, 167, 1, 245, 43, 42, 29]
def by_L_law_66 : List Nat := [4, 96, 46, 42, 29, 5, 96, 46, 42, 29, 6, 96, 46, 182, 0, 113]
def by_L_law_67 : List Nat := [87, 44, 42, 29, 4, 96, 46, 42, 29, 5, 96, 46, 42, 29, 6, 96]
def by_L_law_68 : List Nat := [46, 182, 0, 116, 87, 167, 1, 202, 43, 42, 29, 4, 96, 46, 42, 29]
def by_L_law_69 : List Nat := [5, 96, 46, 182, 0, 117, 87, 44, 42, 29, 4, 96, 46, 42, 29, 5]
def by_L_law_70 : List Nat := [96, 46, 182, 0, 120, 87, 167, 1, 169, 43, 42, 29, 4, 96, 46, 182]
def by_L_law_71 : List Nat := [0, 121, 87, 44, 42, 29, 4, 96, 46, 182, 0, 124, 87, 167, 1, 146]
def by_L_law_72 : List Nat := [43, 42, 29, 4, 96, 46, 42, 29, 5, 96, 46, 42, 29, 6, 96, 46]
def by_L_law_73 : List Nat := [182, 0, 125, 87, 44, 42, 29, 4, 96, 46, 42, 29, 5, 96, 46, 42]
def by_L_law_74 : List Nat := [29, 6, 96, 46, 182, 0, 128, 87, 167, 1, 103, 43, 42, 29, 4, 96]
def by_L_law_75 : List Nat := [46, 182, 0, 129, 87, 44, 42, 29, 4, 96, 46, 182, 0, 132, 87, 167]
def by_L_law_76 : List Nat := [1, 80, 43, 42, 29, 4, 96, 46, 42, 29, 5, 96, 46, 42, 29, 6]
def by_L_law_77 : List Nat := [96, 46, 182, 0, 133, 87, 44, 42, 29, 4, 96, 46, 42, 29, 5, 96]
def by_L_law_78 : List Nat := [46, 42, 29, 6, 96, 46, 182, 0, 136, 87, 167, 1, 37, 43, 42, 29]
def by_L_law_79 : List Nat := [4, 96, 46, 42, 29, 5, 96, 46, 42, 29, 6, 96, 46, 182, 0, 137]
def by_L_law_80 : List Nat := [87, 44, 42, 29, 4, 96, 46, 42, 29, 5, 96, 46, 42, 29, 6, 96]
def by_L_law_81 : List Nat := [46, 182, 0, 140, 87, 167, 0, 250, 43, 42, 29, 4, 96, 46, 42, 29]
def by_L_law_82 : List Nat := [5, 96, 46, 42, 29, 6, 96, 46, 42, 29, 7, 96, 46, 42, 29, 8]
def by_L_law_83 : List Nat := [96, 46, 182, 0, 141, 87, 44, 42, 29, 4, 96, 46, 42, 29, 5, 96]
def by_L_law_84 : List Nat := [46, 42, 29, 6, 96, 46, 42, 29, 7, 96, 46, 42, 29, 8, 96, 46]
def by_L_law_85 : List Nat := [182, 0, 144, 87, 167, 0, 187, 43, 42, 29, 4, 96, 46, 182, 0, 145]
def by_L_law_86 : List Nat := [87, 44, 42, 29, 4, 96, 46, 182, 0, 148, 87, 167, 0, 164, 43, 42]
def by_L_law_87 : List Nat := [29, 4, 96, 46, 42, 29, 5, 96, 46, 182, 0, 149, 87, 44, 42, 29]
def by_L_law_88 : List Nat := [4, 96, 46, 42, 29, 5, 96, 46, 182, 0, 152, 87, 167, 0, 131, 43]
def by_L_law_89 : List Nat := [182, 0, 153, 87, 44, 182, 0, 157, 87, 167, 0, 118, 43, 182, 0, 158]
def by_L_law_90 : List Nat := [87, 44, 182, 0, 161, 87, 167, 0, 105, 43, 42, 29, 4, 96, 46, 182]
def by_L_law_91 : List Nat := [0, 162, 87, 44, 42, 29, 4, 96, 46, 182, 0, 165, 87, 167, 0, 82]
def by_L_law_92 : List Nat := [43, 42, 29, 4, 96, 46, 42, 29, 5, 96, 46, 182, 0, 166, 87, 44]
def by_L_law_93 : List Nat := [42, 29, 4, 96, 46, 42, 29, 5, 96, 46, 182, 0, 169, 87, 167, 0]
def by_L_law_94 : List Nat := [49, 43, 42, 29, 4, 96, 46, 182, 0, 170, 87, 44, 42, 29, 4, 96]
def by_L_law_95 : List Nat := [46, 182, 0, 173, 87, 167, 0, 26, 43, 42, 29, 4, 96, 46, 182, 0]
def by_L_law_96 : List Nat := [174, 44, 42, 29, 4, 96, 46, 182, 0, 177, 159, 0, 5, 3, 172, 132]
def by_L_law_z : List Nat := [3, 6, 167, 250, 0, 4, 172]
def by_L_law : List (List Nat) := [by_L_law_0, by_L_law_1, by_L_law_2, by_L_law_3, by_L_law_4, by_L_law_5, by_L_law_6, by_L_law_7, by_L_law_8, by_L_law_9, by_L_law_10, by_L_law_11, by_L_law_12, by_L_law_13, by_L_law_14, by_L_law_15, by_L_law_16, by_L_law_17, by_L_law_18, by_L_law_19, by_L_law_20, by_L_law_21, by_L_law_22, by_L_law_23, by_L_law_24, by_L_law_25, by_L_law_26, by_L_law_27, by_L_law_28, by_L_law_29, by_L_law_30, by_L_law_31, by_L_law_32, by_L_law_33, by_L_law_34, by_L_law_35, by_L_law_36, by_L_law_37, by_L_law_38, by_L_law_39, by_L_law_40, by_L_law_41, by_L_law_42, by_L_law_43, by_L_law_44, by_L_law_45, by_L_law_46, by_L_law_47, by_L_law_48, by_L_law_49, by_L_law_50, by_L_law_51, by_L_law_52, by_L_law_53, by_L_law_54, by_L_law_55, by_L_law_56, by_L_law_57, by_L_law_58, by_L_law_59, by_L_law_60, by_L_law_61, by_L_law_62, by_L_law_63, by_L_law_64, by_L_law_65, by_L_law_66, by_L_law_67, by_L_law_68, by_L_law_69, by_L_law_70, by_L_law_71, by_L_law_72, by_L_law_73, by_L_law_74, by_L_law_75, by_L_law_76, by_L_law_77, by_L_law_78, by_L_law_79, by_L_law_80, by_L_law_81, by_L_law_82, by_L_law_83, by_L_law_84, by_L_law_85, by_L_law_86, by_L_law_87, by_L_law_88, by_L_law_89, by_L_law_90, by_L_law_91, by_L_law_92, by_L_law_93, by_L_law_94, by_L_law_95, by_L_law_96]
set_option maxRecDepth 100000 in
theorem byo_L_law : cL_law.data.toList.map UInt8.toNat = by_L_law.flatten ++ by_L_law_z := by decide +kernel
theorem byl_L_law : by_L_law.all (fun r => r.length == 16) = true := by decide +kernel
theorem byr_L_law_0 {j v : Nat} (h : by_L_law_0[j]? = some v) : RD cL_law (0 + j) v := rd_16 byo_L_law byl_L_law 0 rfl h
theorem byr_L_law_1 {j v : Nat} (h : by_L_law_1[j]? = some v) : RD cL_law (16 + j) v := rd_16 byo_L_law byl_L_law 1 rfl h
theorem byr_L_law_2 {j v : Nat} (h : by_L_law_2[j]? = some v) : RD cL_law (32 + j) v := rd_16 byo_L_law byl_L_law 2 rfl h
theorem byr_L_law_3 {j v : Nat} (h : by_L_law_3[j]? = some v) : RD cL_law (48 + j) v := rd_16 byo_L_law byl_L_law 3 rfl h
theorem byr_L_law_4 {j v : Nat} (h : by_L_law_4[j]? = some v) : RD cL_law (64 + j) v := rd_16 byo_L_law byl_L_law 4 rfl h
theorem byr_L_law_5 {j v : Nat} (h : by_L_law_5[j]? = some v) : RD cL_law (80 + j) v := rd_16 byo_L_law byl_L_law 5 rfl h
theorem byr_L_law_6 {j v : Nat} (h : by_L_law_6[j]? = some v) : RD cL_law (96 + j) v := rd_16 byo_L_law byl_L_law 6 rfl h
theorem byr_L_law_7 {j v : Nat} (h : by_L_law_7[j]? = some v) : RD cL_law (112 + j) v := rd_16 byo_L_law byl_L_law 7 rfl h
theorem byr_L_law_8 {j v : Nat} (h : by_L_law_8[j]? = some v) : RD cL_law (128 + j) v := rd_16 byo_L_law byl_L_law 8 rfl h
theorem byr_L_law_9 {j v : Nat} (h : by_L_law_9[j]? = some v) : RD cL_law (144 + j) v := rd_16 byo_L_law byl_L_law 9 rfl h
theorem byr_L_law_10 {j v : Nat} (h : by_L_law_10[j]? = some v) : RD cL_law (160 + j) v := rd_16 byo_L_law byl_L_law 10 rfl h
theorem byr_L_law_11 {j v : Nat} (h : by_L_law_11[j]? = some v) : RD cL_law (176 + j) v := rd_16 byo_L_law byl_L_law 11 rfl h
theorem byr_L_law_12 {j v : Nat} (h : by_L_law_12[j]? = some v) : RD cL_law (192 + j) v := rd_16 byo_L_law byl_L_law 12 rfl h
theorem byr_L_law_13 {j v : Nat} (h : by_L_law_13[j]? = some v) : RD cL_law (208 + j) v := rd_16 byo_L_law byl_L_law 13 rfl h
theorem byr_L_law_14 {j v : Nat} (h : by_L_law_14[j]? = some v) : RD cL_law (224 + j) v := rd_16 byo_L_law byl_L_law 14 rfl h
theorem byr_L_law_15 {j v : Nat} (h : by_L_law_15[j]? = some v) : RD cL_law (240 + j) v := rd_16 byo_L_law byl_L_law 15 rfl h
theorem byr_L_law_16 {j v : Nat} (h : by_L_law_16[j]? = some v) : RD cL_law (256 + j) v := rd_16 byo_L_law byl_L_law 16 rfl h
theorem byr_L_law_17 {j v : Nat} (h : by_L_law_17[j]? = some v) : RD cL_law (272 + j) v := rd_16 byo_L_law byl_L_law 17 rfl h
theorem byr_L_law_18 {j v : Nat} (h : by_L_law_18[j]? = some v) : RD cL_law (288 + j) v := rd_16 byo_L_law byl_L_law 18 rfl h
theorem byr_L_law_19 {j v : Nat} (h : by_L_law_19[j]? = some v) : RD cL_law (304 + j) v := rd_16 byo_L_law byl_L_law 19 rfl h
theorem byr_L_law_20 {j v : Nat} (h : by_L_law_20[j]? = some v) : RD cL_law (320 + j) v := rd_16 byo_L_law byl_L_law 20 rfl h
theorem byr_L_law_21 {j v : Nat} (h : by_L_law_21[j]? = some v) : RD cL_law (336 + j) v := rd_16 byo_L_law byl_L_law 21 rfl h
theorem byr_L_law_22 {j v : Nat} (h : by_L_law_22[j]? = some v) : RD cL_law (352 + j) v := rd_16 byo_L_law byl_L_law 22 rfl h
theorem byr_L_law_23 {j v : Nat} (h : by_L_law_23[j]? = some v) : RD cL_law (368 + j) v := rd_16 byo_L_law byl_L_law 23 rfl h
theorem byr_L_law_24 {j v : Nat} (h : by_L_law_24[j]? = some v) : RD cL_law (384 + j) v := rd_16 byo_L_law byl_L_law 24 rfl h
theorem byr_L_law_25 {j v : Nat} (h : by_L_law_25[j]? = some v) : RD cL_law (400 + j) v := rd_16 byo_L_law byl_L_law 25 rfl h
theorem byr_L_law_26 {j v : Nat} (h : by_L_law_26[j]? = some v) : RD cL_law (416 + j) v := rd_16 byo_L_law byl_L_law 26 rfl h
theorem byr_L_law_27 {j v : Nat} (h : by_L_law_27[j]? = some v) : RD cL_law (432 + j) v := rd_16 byo_L_law byl_L_law 27 rfl h
theorem byr_L_law_28 {j v : Nat} (h : by_L_law_28[j]? = some v) : RD cL_law (448 + j) v := rd_16 byo_L_law byl_L_law 28 rfl h
theorem byr_L_law_29 {j v : Nat} (h : by_L_law_29[j]? = some v) : RD cL_law (464 + j) v := rd_16 byo_L_law byl_L_law 29 rfl h
theorem byr_L_law_30 {j v : Nat} (h : by_L_law_30[j]? = some v) : RD cL_law (480 + j) v := rd_16 byo_L_law byl_L_law 30 rfl h
theorem byr_L_law_31 {j v : Nat} (h : by_L_law_31[j]? = some v) : RD cL_law (496 + j) v := rd_16 byo_L_law byl_L_law 31 rfl h
theorem byr_L_law_32 {j v : Nat} (h : by_L_law_32[j]? = some v) : RD cL_law (512 + j) v := rd_16 byo_L_law byl_L_law 32 rfl h
theorem byr_L_law_33 {j v : Nat} (h : by_L_law_33[j]? = some v) : RD cL_law (528 + j) v := rd_16 byo_L_law byl_L_law 33 rfl h
theorem byr_L_law_34 {j v : Nat} (h : by_L_law_34[j]? = some v) : RD cL_law (544 + j) v := rd_16 byo_L_law byl_L_law 34 rfl h
theorem byr_L_law_35 {j v : Nat} (h : by_L_law_35[j]? = some v) : RD cL_law (560 + j) v := rd_16 byo_L_law byl_L_law 35 rfl h
theorem byr_L_law_36 {j v : Nat} (h : by_L_law_36[j]? = some v) : RD cL_law (576 + j) v := rd_16 byo_L_law byl_L_law 36 rfl h
theorem byr_L_law_37 {j v : Nat} (h : by_L_law_37[j]? = some v) : RD cL_law (592 + j) v := rd_16 byo_L_law byl_L_law 37 rfl h
theorem byr_L_law_38 {j v : Nat} (h : by_L_law_38[j]? = some v) : RD cL_law (608 + j) v := rd_16 byo_L_law byl_L_law 38 rfl h
theorem byr_L_law_39 {j v : Nat} (h : by_L_law_39[j]? = some v) : RD cL_law (624 + j) v := rd_16 byo_L_law byl_L_law 39 rfl h
theorem byr_L_law_40 {j v : Nat} (h : by_L_law_40[j]? = some v) : RD cL_law (640 + j) v := rd_16 byo_L_law byl_L_law 40 rfl h
theorem byr_L_law_41 {j v : Nat} (h : by_L_law_41[j]? = some v) : RD cL_law (656 + j) v := rd_16 byo_L_law byl_L_law 41 rfl h
theorem byr_L_law_42 {j v : Nat} (h : by_L_law_42[j]? = some v) : RD cL_law (672 + j) v := rd_16 byo_L_law byl_L_law 42 rfl h
theorem byr_L_law_43 {j v : Nat} (h : by_L_law_43[j]? = some v) : RD cL_law (688 + j) v := rd_16 byo_L_law byl_L_law 43 rfl h
theorem byr_L_law_44 {j v : Nat} (h : by_L_law_44[j]? = some v) : RD cL_law (704 + j) v := rd_16 byo_L_law byl_L_law 44 rfl h
theorem byr_L_law_45 {j v : Nat} (h : by_L_law_45[j]? = some v) : RD cL_law (720 + j) v := rd_16 byo_L_law byl_L_law 45 rfl h
theorem byr_L_law_46 {j v : Nat} (h : by_L_law_46[j]? = some v) : RD cL_law (736 + j) v := rd_16 byo_L_law byl_L_law 46 rfl h
theorem byr_L_law_47 {j v : Nat} (h : by_L_law_47[j]? = some v) : RD cL_law (752 + j) v := rd_16 byo_L_law byl_L_law 47 rfl h
theorem byr_L_law_48 {j v : Nat} (h : by_L_law_48[j]? = some v) : RD cL_law (768 + j) v := rd_16 byo_L_law byl_L_law 48 rfl h
theorem byr_L_law_49 {j v : Nat} (h : by_L_law_49[j]? = some v) : RD cL_law (784 + j) v := rd_16 byo_L_law byl_L_law 49 rfl h
theorem byr_L_law_50 {j v : Nat} (h : by_L_law_50[j]? = some v) : RD cL_law (800 + j) v := rd_16 byo_L_law byl_L_law 50 rfl h
theorem byr_L_law_51 {j v : Nat} (h : by_L_law_51[j]? = some v) : RD cL_law (816 + j) v := rd_16 byo_L_law byl_L_law 51 rfl h
theorem byr_L_law_52 {j v : Nat} (h : by_L_law_52[j]? = some v) : RD cL_law (832 + j) v := rd_16 byo_L_law byl_L_law 52 rfl h
theorem byr_L_law_53 {j v : Nat} (h : by_L_law_53[j]? = some v) : RD cL_law (848 + j) v := rd_16 byo_L_law byl_L_law 53 rfl h
theorem byr_L_law_54 {j v : Nat} (h : by_L_law_54[j]? = some v) : RD cL_law (864 + j) v := rd_16 byo_L_law byl_L_law 54 rfl h
theorem byr_L_law_55 {j v : Nat} (h : by_L_law_55[j]? = some v) : RD cL_law (880 + j) v := rd_16 byo_L_law byl_L_law 55 rfl h
theorem byr_L_law_56 {j v : Nat} (h : by_L_law_56[j]? = some v) : RD cL_law (896 + j) v := rd_16 byo_L_law byl_L_law 56 rfl h
theorem byr_L_law_57 {j v : Nat} (h : by_L_law_57[j]? = some v) : RD cL_law (912 + j) v := rd_16 byo_L_law byl_L_law 57 rfl h
theorem byr_L_law_58 {j v : Nat} (h : by_L_law_58[j]? = some v) : RD cL_law (928 + j) v := rd_16 byo_L_law byl_L_law 58 rfl h
theorem byr_L_law_59 {j v : Nat} (h : by_L_law_59[j]? = some v) : RD cL_law (944 + j) v := rd_16 byo_L_law byl_L_law 59 rfl h
theorem byr_L_law_60 {j v : Nat} (h : by_L_law_60[j]? = some v) : RD cL_law (960 + j) v := rd_16 byo_L_law byl_L_law 60 rfl h
theorem byr_L_law_61 {j v : Nat} (h : by_L_law_61[j]? = some v) : RD cL_law (976 + j) v := rd_16 byo_L_law byl_L_law 61 rfl h
theorem byr_L_law_62 {j v : Nat} (h : by_L_law_62[j]? = some v) : RD cL_law (992 + j) v := rd_16 byo_L_law byl_L_law 62 rfl h
theorem byr_L_law_63 {j v : Nat} (h : by_L_law_63[j]? = some v) : RD cL_law (1008 + j) v := rd_16 byo_L_law byl_L_law 63 rfl h
theorem byr_L_law_64 {j v : Nat} (h : by_L_law_64[j]? = some v) : RD cL_law (1024 + j) v := rd_16 byo_L_law byl_L_law 64 rfl h
theorem byr_L_law_65 {j v : Nat} (h : by_L_law_65[j]? = some v) : RD cL_law (1040 + j) v := rd_16 byo_L_law byl_L_law 65 rfl h
theorem byr_L_law_66 {j v : Nat} (h : by_L_law_66[j]? = some v) : RD cL_law (1056 + j) v := rd_16 byo_L_law byl_L_law 66 rfl h
theorem byr_L_law_67 {j v : Nat} (h : by_L_law_67[j]? = some v) : RD cL_law (1072 + j) v := rd_16 byo_L_law byl_L_law 67 rfl h
theorem byr_L_law_68 {j v : Nat} (h : by_L_law_68[j]? = some v) : RD cL_law (1088 + j) v := rd_16 byo_L_law byl_L_law 68 rfl h
theorem byr_L_law_69 {j v : Nat} (h : by_L_law_69[j]? = some v) : RD cL_law (1104 + j) v := rd_16 byo_L_law byl_L_law 69 rfl h
theorem byr_L_law_70 {j v : Nat} (h : by_L_law_70[j]? = some v) : RD cL_law (1120 + j) v := rd_16 byo_L_law byl_L_law 70 rfl h
theorem byr_L_law_71 {j v : Nat} (h : by_L_law_71[j]? = some v) : RD cL_law (1136 + j) v := rd_16 byo_L_law byl_L_law 71 rfl h
theorem byr_L_law_72 {j v : Nat} (h : by_L_law_72[j]? = some v) : RD cL_law (1152 + j) v := rd_16 byo_L_law byl_L_law 72 rfl h
theorem byr_L_law_73 {j v : Nat} (h : by_L_law_73[j]? = some v) : RD cL_law (1168 + j) v := rd_16 byo_L_law byl_L_law 73 rfl h
theorem byr_L_law_74 {j v : Nat} (h : by_L_law_74[j]? = some v) : RD cL_law (1184 + j) v := rd_16 byo_L_law byl_L_law 74 rfl h
theorem byr_L_law_75 {j v : Nat} (h : by_L_law_75[j]? = some v) : RD cL_law (1200 + j) v := rd_16 byo_L_law byl_L_law 75 rfl h
theorem byr_L_law_76 {j v : Nat} (h : by_L_law_76[j]? = some v) : RD cL_law (1216 + j) v := rd_16 byo_L_law byl_L_law 76 rfl h
theorem byr_L_law_77 {j v : Nat} (h : by_L_law_77[j]? = some v) : RD cL_law (1232 + j) v := rd_16 byo_L_law byl_L_law 77 rfl h
theorem byr_L_law_78 {j v : Nat} (h : by_L_law_78[j]? = some v) : RD cL_law (1248 + j) v := rd_16 byo_L_law byl_L_law 78 rfl h
theorem byr_L_law_79 {j v : Nat} (h : by_L_law_79[j]? = some v) : RD cL_law (1264 + j) v := rd_16 byo_L_law byl_L_law 79 rfl h
theorem byr_L_law_80 {j v : Nat} (h : by_L_law_80[j]? = some v) : RD cL_law (1280 + j) v := rd_16 byo_L_law byl_L_law 80 rfl h
theorem byr_L_law_81 {j v : Nat} (h : by_L_law_81[j]? = some v) : RD cL_law (1296 + j) v := rd_16 byo_L_law byl_L_law 81 rfl h
theorem byr_L_law_82 {j v : Nat} (h : by_L_law_82[j]? = some v) : RD cL_law (1312 + j) v := rd_16 byo_L_law byl_L_law 82 rfl h
theorem byr_L_law_83 {j v : Nat} (h : by_L_law_83[j]? = some v) : RD cL_law (1328 + j) v := rd_16 byo_L_law byl_L_law 83 rfl h
theorem byr_L_law_84 {j v : Nat} (h : by_L_law_84[j]? = some v) : RD cL_law (1344 + j) v := rd_16 byo_L_law byl_L_law 84 rfl h
theorem byr_L_law_85 {j v : Nat} (h : by_L_law_85[j]? = some v) : RD cL_law (1360 + j) v := rd_16 byo_L_law byl_L_law 85 rfl h
theorem byr_L_law_86 {j v : Nat} (h : by_L_law_86[j]? = some v) : RD cL_law (1376 + j) v := rd_16 byo_L_law byl_L_law 86 rfl h
theorem byr_L_law_87 {j v : Nat} (h : by_L_law_87[j]? = some v) : RD cL_law (1392 + j) v := rd_16 byo_L_law byl_L_law 87 rfl h
theorem byr_L_law_88 {j v : Nat} (h : by_L_law_88[j]? = some v) : RD cL_law (1408 + j) v := rd_16 byo_L_law byl_L_law 88 rfl h
theorem byr_L_law_89 {j v : Nat} (h : by_L_law_89[j]? = some v) : RD cL_law (1424 + j) v := rd_16 byo_L_law byl_L_law 89 rfl h
theorem byr_L_law_90 {j v : Nat} (h : by_L_law_90[j]? = some v) : RD cL_law (1440 + j) v := rd_16 byo_L_law byl_L_law 90 rfl h
theorem byr_L_law_91 {j v : Nat} (h : by_L_law_91[j]? = some v) : RD cL_law (1456 + j) v := rd_16 byo_L_law byl_L_law 91 rfl h
theorem byr_L_law_92 {j v : Nat} (h : by_L_law_92[j]? = some v) : RD cL_law (1472 + j) v := rd_16 byo_L_law byl_L_law 92 rfl h
theorem byr_L_law_93 {j v : Nat} (h : by_L_law_93[j]? = some v) : RD cL_law (1488 + j) v := rd_16 byo_L_law byl_L_law 93 rfl h
theorem byr_L_law_94 {j v : Nat} (h : by_L_law_94[j]? = some v) : RD cL_law (1504 + j) v := rd_16 byo_L_law byl_L_law 94 rfl h
theorem byr_L_law_95 {j v : Nat} (h : by_L_law_95[j]? = some v) : RD cL_law (1520 + j) v := rd_16 byo_L_law byl_L_law 95 rfl h
theorem byr_L_law_96 {j v : Nat} (h : by_L_law_96[j]? = some v) : RD cL_law (1536 + j) v := rd_16 byo_L_law byl_L_law 96 rfl h
theorem byr_L_law_97 {j v : Nat} (h : by_L_law_z[j]? = some v) : RD cL_law (1552 + j) v := rd_z byo_L_law byl_L_law 97 rfl h
theorem dL_law_0 : decode cL_law 0 = .ok (.new 7, 3) := dk_187 (byr_L_law_0 (j := 0) rfl) (byr_L_law_0 (j := 1) rfl) (byr_L_law_0 (j := 2) rfl) (by decide)
theorem dL_law_3 : decode cL_law 3 = .ok (.dup, 1) := dk_89 (byr_L_law_0 (j := 3) rfl)
theorem dL_law_4 : decode cL_law 4 = .ok (.invokespecial 9, 3) := dk_183 (byr_L_law_0 (j := 4) rfl) (byr_L_law_0 (j := 5) rfl) (byr_L_law_0 (j := 6) rfl) (by decide)
theorem dL_law_7 : decode cL_law 7 = .ok (.astore_n 1, 1) := dk_76 (byr_L_law_0 (j := 7) rfl)
theorem dL_law_8 : decode cL_law 8 = .ok (.new 10, 3) := dk_187 (byr_L_law_0 (j := 8) rfl) (byr_L_law_0 (j := 9) rfl) (byr_L_law_0 (j := 10) rfl) (by decide)
theorem dL_law_11 : decode cL_law 11 = .ok (.dup, 1) := dk_89 (byr_L_law_0 (j := 11) rfl)
theorem dL_law_12 : decode cL_law 12 = .ok (.invokespecial 12, 3) := dk_183 (byr_L_law_0 (j := 12) rfl) (byr_L_law_0 (j := 13) rfl) (byr_L_law_0 (j := 14) rfl) (by decide)
theorem dL_law_15 : decode cL_law 15 = .ok (.astore_n 2, 1) := dk_77 (byr_L_law_0 (j := 15) rfl)
theorem dL_law_16 : decode cL_law 16 = .ok (.iconst 0, 1) := dk_3 (byr_L_law_1 (j := 0) rfl)
theorem dL_law_17 : decode cL_law 17 = .ok (.istore_n 3, 1) := dk_62 (byr_L_law_1 (j := 1) rfl)
theorem dL_law_18 : decode cL_law 18 = .ok (.iload_n 3, 1) := dk_29 (byr_L_law_1 (j := 2) rfl)
theorem dL_law_19 : decode cL_law 19 = .ok (.aload_n 0, 1) := dk_42 (byr_L_law_1 (j := 3) rfl)
theorem dL_law_20 : decode cL_law 20 = .ok (.arraylength, 1) := dk_190 (byr_L_law_1 (j := 4) rfl)
theorem dL_law_21 : decode cL_law 21 = .ok (.bipush 6, 2) := dk_16 (byr_L_law_1 (j := 5) rfl) (byr_L_law_1 (j := 6) rfl) (by decide)
theorem dL_law_23 : decode cL_law 23 = .ok (.isub, 1) := dk_100 (byr_L_law_1 (j := 7) rfl)
theorem dL_law_24 : decode cL_law 24 = .ok (.if_icmp .gt 1533, 3) := dk_163 (byr_L_law_1 (j := 8) rfl) (byr_L_law_1 (j := 9) rfl) (byr_L_law_1 (j := 10) rfl) (by decide)
theorem dL_law_27 : decode cL_law 27 = .ok (.aload_n 0, 1) := dk_42 (byr_L_law_1 (j := 11) rfl)
theorem dL_law_28 : decode cL_law 28 = .ok (.iload_n 3, 1) := dk_29 (byr_L_law_1 (j := 12) rfl)
theorem dL_law_29 : decode cL_law 29 = .ok (.iaload, 1) := dk_46 (byr_L_law_1 (j := 13) rfl)
theorem dL_law_30 : decode cL_law 30 = .ok (.bipush 63, 2) := dk_16 (byr_L_law_1 (j := 14) rfl) (byr_L_law_1 (j := 15) rfl) (by decide)
theorem dL_law_32 : decode cL_law 32 = .ok (.iand, 1) := dk_126 (byr_L_law_2 (j := 0) rfl)
set_option maxRecDepth 20000 in
theorem dL_law_33 : decode cL_law 33 = .ok (.tableswitch 1518 0 38 #[171, 204, 237, 260, 293, 326, 359, 402, 435, 468, 501, 564, 587, 640, 673, 716, 749, 782, 825, 868, 901, 934, 957, 1020, 1063, 1096, 1119, 1162, 1185, 1228, 1271, 1334, 1357, 1390, 1403, 1416, 1439, 1472, 1495], 171) := by decide +kernel
theorem dL_law_204 : decode cL_law 204 = .ok (.aload_n 1, 1) := dk_43 (byr_L_law_12 (j := 12) rfl)
theorem dL_law_205 : decode cL_law 205 = .ok (.aload_n 0, 1) := dk_42 (byr_L_law_12 (j := 13) rfl)
theorem dL_law_206 : decode cL_law 206 = .ok (.iload_n 3, 1) := dk_29 (byr_L_law_12 (j := 14) rfl)
theorem dL_law_207 : decode cL_law 207 = .ok (.iconst 1, 1) := dk_4 (byr_L_law_12 (j := 15) rfl)
theorem dL_law_208 : decode cL_law 208 = .ok (.iadd, 1) := dk_96 (byr_L_law_13 (j := 0) rfl)
theorem dL_law_209 : decode cL_law 209 = .ok (.iaload, 1) := dk_46 (byr_L_law_13 (j := 1) rfl)
theorem dL_law_210 : decode cL_law 210 = .ok (.aload_n 0, 1) := dk_42 (byr_L_law_13 (j := 2) rfl)
theorem dL_law_211 : decode cL_law 211 = .ok (.iload_n 3, 1) := dk_29 (byr_L_law_13 (j := 3) rfl)
theorem dL_law_212 : decode cL_law 212 = .ok (.iconst 2, 1) := dk_5 (byr_L_law_13 (j := 4) rfl)
theorem dL_law_213 : decode cL_law 213 = .ok (.iadd, 1) := dk_96 (byr_L_law_13 (j := 5) rfl)
theorem dL_law_214 : decode cL_law 214 = .ok (.iaload, 1) := dk_46 (byr_L_law_13 (j := 6) rfl)
theorem dL_law_215 : decode cL_law 215 = .ok (.invokevirtual 13, 3) := dk_182 (byr_L_law_13 (j := 7) rfl) (byr_L_law_13 (j := 8) rfl) (byr_L_law_13 (j := 9) rfl) (by decide)
theorem dL_law_218 : decode cL_law 218 = .ok (.pop, 1) := dk_87 (byr_L_law_13 (j := 10) rfl)
theorem dL_law_219 : decode cL_law 219 = .ok (.aload_n 2, 1) := dk_44 (byr_L_law_13 (j := 11) rfl)
theorem dL_law_220 : decode cL_law 220 = .ok (.aload_n 0, 1) := dk_42 (byr_L_law_13 (j := 12) rfl)
theorem dL_law_221 : decode cL_law 221 = .ok (.iload_n 3, 1) := dk_29 (byr_L_law_13 (j := 13) rfl)
theorem dL_law_222 : decode cL_law 222 = .ok (.iconst 1, 1) := dk_4 (byr_L_law_13 (j := 14) rfl)
theorem dL_law_223 : decode cL_law 223 = .ok (.iadd, 1) := dk_96 (byr_L_law_13 (j := 15) rfl)
theorem dL_law_224 : decode cL_law 224 = .ok (.iaload, 1) := dk_46 (byr_L_law_14 (j := 0) rfl)
theorem dL_law_225 : decode cL_law 225 = .ok (.aload_n 0, 1) := dk_42 (byr_L_law_14 (j := 1) rfl)
theorem dL_law_226 : decode cL_law 226 = .ok (.iload_n 3, 1) := dk_29 (byr_L_law_14 (j := 2) rfl)
theorem dL_law_227 : decode cL_law 227 = .ok (.iconst 2, 1) := dk_5 (byr_L_law_14 (j := 3) rfl)
theorem dL_law_228 : decode cL_law 228 = .ok (.iadd, 1) := dk_96 (byr_L_law_14 (j := 4) rfl)
theorem dL_law_229 : decode cL_law 229 = .ok (.iaload, 1) := dk_46 (byr_L_law_14 (j := 5) rfl)
theorem dL_law_230 : decode cL_law 230 = .ok (.invokevirtual 17, 3) := dk_182 (byr_L_law_14 (j := 6) rfl) (byr_L_law_14 (j := 7) rfl) (byr_L_law_14 (j := 8) rfl) (by decide)
theorem dL_law_233 : decode cL_law 233 = .ok (.pop, 1) := dk_87 (byr_L_law_14 (j := 9) rfl)
theorem dL_law_234 : decode cL_law 234 = .ok (.goto 1317, 3) := dk_167 (byr_L_law_14 (j := 10) rfl) (byr_L_law_14 (j := 11) rfl) (byr_L_law_14 (j := 12) rfl) (by decide)
theorem dL_law_237 : decode cL_law 237 = .ok (.aload_n 1, 1) := dk_43 (byr_L_law_14 (j := 13) rfl)
theorem dL_law_238 : decode cL_law 238 = .ok (.aload_n 0, 1) := dk_42 (byr_L_law_14 (j := 14) rfl)
theorem dL_law_239 : decode cL_law 239 = .ok (.iload_n 3, 1) := dk_29 (byr_L_law_14 (j := 15) rfl)
theorem dL_law_240 : decode cL_law 240 = .ok (.iconst 1, 1) := dk_4 (byr_L_law_15 (j := 0) rfl)
theorem dL_law_241 : decode cL_law 241 = .ok (.iadd, 1) := dk_96 (byr_L_law_15 (j := 1) rfl)
theorem dL_law_242 : decode cL_law 242 = .ok (.iaload, 1) := dk_46 (byr_L_law_15 (j := 2) rfl)
theorem dL_law_243 : decode cL_law 243 = .ok (.aload_n 0, 1) := dk_42 (byr_L_law_15 (j := 3) rfl)
theorem dL_law_244 : decode cL_law 244 = .ok (.iload_n 3, 1) := dk_29 (byr_L_law_15 (j := 4) rfl)
theorem dL_law_245 : decode cL_law 245 = .ok (.iconst 2, 1) := dk_5 (byr_L_law_15 (j := 5) rfl)
theorem dL_law_246 : decode cL_law 246 = .ok (.iadd, 1) := dk_96 (byr_L_law_15 (j := 6) rfl)
theorem dL_law_247 : decode cL_law 247 = .ok (.iaload, 1) := dk_46 (byr_L_law_15 (j := 7) rfl)
theorem dL_law_248 : decode cL_law 248 = .ok (.invokevirtual 18, 3) := dk_182 (byr_L_law_15 (j := 8) rfl) (byr_L_law_15 (j := 9) rfl) (byr_L_law_15 (j := 10) rfl) (by decide)
theorem dL_law_251 : decode cL_law 251 = .ok (.pop, 1) := dk_87 (byr_L_law_15 (j := 11) rfl)
theorem dL_law_252 : decode cL_law 252 = .ok (.aload_n 2, 1) := dk_44 (byr_L_law_15 (j := 12) rfl)
theorem dL_law_253 : decode cL_law 253 = .ok (.aload_n 0, 1) := dk_42 (byr_L_law_15 (j := 13) rfl)
theorem dL_law_254 : decode cL_law 254 = .ok (.iload_n 3, 1) := dk_29 (byr_L_law_15 (j := 14) rfl)
theorem dL_law_255 : decode cL_law 255 = .ok (.iconst 1, 1) := dk_4 (byr_L_law_15 (j := 15) rfl)
theorem dL_law_256 : decode cL_law 256 = .ok (.iadd, 1) := dk_96 (byr_L_law_16 (j := 0) rfl)
theorem dL_law_257 : decode cL_law 257 = .ok (.iaload, 1) := dk_46 (byr_L_law_16 (j := 1) rfl)
theorem dL_law_258 : decode cL_law 258 = .ok (.aload_n 0, 1) := dk_42 (byr_L_law_16 (j := 2) rfl)
theorem dL_law_259 : decode cL_law 259 = .ok (.iload_n 3, 1) := dk_29 (byr_L_law_16 (j := 3) rfl)
theorem dL_law_260 : decode cL_law 260 = .ok (.iconst 2, 1) := dk_5 (byr_L_law_16 (j := 4) rfl)
theorem dL_law_261 : decode cL_law 261 = .ok (.iadd, 1) := dk_96 (byr_L_law_16 (j := 5) rfl)
theorem dL_law_262 : decode cL_law 262 = .ok (.iaload, 1) := dk_46 (byr_L_law_16 (j := 6) rfl)
theorem dL_law_263 : decode cL_law 263 = .ok (.invokevirtual 21, 3) := dk_182 (byr_L_law_16 (j := 7) rfl) (byr_L_law_16 (j := 8) rfl) (byr_L_law_16 (j := 9) rfl) (by decide)
theorem dL_law_266 : decode cL_law 266 = .ok (.pop, 1) := dk_87 (byr_L_law_16 (j := 10) rfl)
theorem dL_law_267 : decode cL_law 267 = .ok (.goto 1284, 3) := dk_167 (byr_L_law_16 (j := 11) rfl) (byr_L_law_16 (j := 12) rfl) (byr_L_law_16 (j := 13) rfl) (by decide)
theorem dL_law_270 : decode cL_law 270 = .ok (.aload_n 1, 1) := dk_43 (byr_L_law_16 (j := 14) rfl)
theorem dL_law_271 : decode cL_law 271 = .ok (.aload_n 0, 1) := dk_42 (byr_L_law_16 (j := 15) rfl)
theorem dL_law_272 : decode cL_law 272 = .ok (.iload_n 3, 1) := dk_29 (byr_L_law_17 (j := 0) rfl)
theorem dL_law_273 : decode cL_law 273 = .ok (.iconst 1, 1) := dk_4 (byr_L_law_17 (j := 1) rfl)
theorem dL_law_274 : decode cL_law 274 = .ok (.iadd, 1) := dk_96 (byr_L_law_17 (j := 2) rfl)
theorem dL_law_275 : decode cL_law 275 = .ok (.iaload, 1) := dk_46 (byr_L_law_17 (j := 3) rfl)
theorem dL_law_276 : decode cL_law 276 = .ok (.invokevirtual 22, 3) := dk_182 (byr_L_law_17 (j := 4) rfl) (byr_L_law_17 (j := 5) rfl) (byr_L_law_17 (j := 6) rfl) (by decide)
theorem dL_law_279 : decode cL_law 279 = .ok (.pop, 1) := dk_87 (byr_L_law_17 (j := 7) rfl)
theorem dL_law_280 : decode cL_law 280 = .ok (.aload_n 2, 1) := dk_44 (byr_L_law_17 (j := 8) rfl)
theorem dL_law_281 : decode cL_law 281 = .ok (.aload_n 0, 1) := dk_42 (byr_L_law_17 (j := 9) rfl)
theorem dL_law_282 : decode cL_law 282 = .ok (.iload_n 3, 1) := dk_29 (byr_L_law_17 (j := 10) rfl)
theorem dL_law_283 : decode cL_law 283 = .ok (.iconst 1, 1) := dk_4 (byr_L_law_17 (j := 11) rfl)
theorem dL_law_284 : decode cL_law 284 = .ok (.iadd, 1) := dk_96 (byr_L_law_17 (j := 12) rfl)
theorem dL_law_285 : decode cL_law 285 = .ok (.iaload, 1) := dk_46 (byr_L_law_17 (j := 13) rfl)
theorem dL_law_286 : decode cL_law 286 = .ok (.invokevirtual 26, 3) := dk_182 (byr_L_law_17 (j := 14) rfl) (byr_L_law_17 (j := 15) rfl) (byr_L_law_18 (j := 0) rfl) (by decide)
theorem dL_law_289 : decode cL_law 289 = .ok (.pop, 1) := dk_87 (byr_L_law_18 (j := 1) rfl)
theorem dL_law_290 : decode cL_law 290 = .ok (.goto 1261, 3) := dk_167 (byr_L_law_18 (j := 2) rfl) (byr_L_law_18 (j := 3) rfl) (byr_L_law_18 (j := 4) rfl) (by decide)
theorem dL_law_293 : decode cL_law 293 = .ok (.aload_n 1, 1) := dk_43 (byr_L_law_18 (j := 5) rfl)
theorem dL_law_294 : decode cL_law 294 = .ok (.aload_n 0, 1) := dk_42 (byr_L_law_18 (j := 6) rfl)
theorem dL_law_295 : decode cL_law 295 = .ok (.iload_n 3, 1) := dk_29 (byr_L_law_18 (j := 7) rfl)
theorem dL_law_296 : decode cL_law 296 = .ok (.iconst 1, 1) := dk_4 (byr_L_law_18 (j := 8) rfl)
theorem dL_law_297 : decode cL_law 297 = .ok (.iadd, 1) := dk_96 (byr_L_law_18 (j := 9) rfl)
theorem dL_law_298 : decode cL_law 298 = .ok (.iaload, 1) := dk_46 (byr_L_law_18 (j := 10) rfl)
theorem dL_law_299 : decode cL_law 299 = .ok (.aload_n 0, 1) := dk_42 (byr_L_law_18 (j := 11) rfl)
theorem dL_law_300 : decode cL_law 300 = .ok (.iload_n 3, 1) := dk_29 (byr_L_law_18 (j := 12) rfl)
theorem dL_law_301 : decode cL_law 301 = .ok (.iconst 2, 1) := dk_5 (byr_L_law_18 (j := 13) rfl)
theorem dL_law_302 : decode cL_law 302 = .ok (.iadd, 1) := dk_96 (byr_L_law_18 (j := 14) rfl)
theorem dL_law_303 : decode cL_law 303 = .ok (.iaload, 1) := dk_46 (byr_L_law_18 (j := 15) rfl)
theorem dL_law_304 : decode cL_law 304 = .ok (.invokevirtual 27, 3) := dk_182 (byr_L_law_19 (j := 0) rfl) (byr_L_law_19 (j := 1) rfl) (byr_L_law_19 (j := 2) rfl) (by decide)
theorem dL_law_307 : decode cL_law 307 = .ok (.pop, 1) := dk_87 (byr_L_law_19 (j := 3) rfl)
theorem dL_law_308 : decode cL_law 308 = .ok (.aload_n 2, 1) := dk_44 (byr_L_law_19 (j := 4) rfl)
theorem dL_law_309 : decode cL_law 309 = .ok (.aload_n 0, 1) := dk_42 (byr_L_law_19 (j := 5) rfl)
theorem dL_law_310 : decode cL_law 310 = .ok (.iload_n 3, 1) := dk_29 (byr_L_law_19 (j := 6) rfl)
theorem dL_law_311 : decode cL_law 311 = .ok (.iconst 1, 1) := dk_4 (byr_L_law_19 (j := 7) rfl)
theorem dL_law_312 : decode cL_law 312 = .ok (.iadd, 1) := dk_96 (byr_L_law_19 (j := 8) rfl)
theorem dL_law_313 : decode cL_law 313 = .ok (.iaload, 1) := dk_46 (byr_L_law_19 (j := 9) rfl)
theorem dL_law_314 : decode cL_law 314 = .ok (.aload_n 0, 1) := dk_42 (byr_L_law_19 (j := 10) rfl)
theorem dL_law_315 : decode cL_law 315 = .ok (.iload_n 3, 1) := dk_29 (byr_L_law_19 (j := 11) rfl)
theorem dL_law_316 : decode cL_law 316 = .ok (.iconst 2, 1) := dk_5 (byr_L_law_19 (j := 12) rfl)
theorem dL_law_317 : decode cL_law 317 = .ok (.iadd, 1) := dk_96 (byr_L_law_19 (j := 13) rfl)
theorem dL_law_318 : decode cL_law 318 = .ok (.iaload, 1) := dk_46 (byr_L_law_19 (j := 14) rfl)
theorem dL_law_319 : decode cL_law 319 = .ok (.invokevirtual 30, 3) := dk_182 (byr_L_law_19 (j := 15) rfl) (byr_L_law_20 (j := 0) rfl) (byr_L_law_20 (j := 1) rfl) (by decide)
theorem dL_law_322 : decode cL_law 322 = .ok (.pop, 1) := dk_87 (byr_L_law_20 (j := 2) rfl)
theorem dL_law_323 : decode cL_law 323 = .ok (.goto 1228, 3) := dk_167 (byr_L_law_20 (j := 3) rfl) (byr_L_law_20 (j := 4) rfl) (byr_L_law_20 (j := 5) rfl) (by decide)
theorem dL_law_326 : decode cL_law 326 = .ok (.aload_n 1, 1) := dk_43 (byr_L_law_20 (j := 6) rfl)
theorem dL_law_327 : decode cL_law 327 = .ok (.aload_n 0, 1) := dk_42 (byr_L_law_20 (j := 7) rfl)
theorem dL_law_328 : decode cL_law 328 = .ok (.iload_n 3, 1) := dk_29 (byr_L_law_20 (j := 8) rfl)
theorem dL_law_329 : decode cL_law 329 = .ok (.iconst 1, 1) := dk_4 (byr_L_law_20 (j := 9) rfl)
theorem dL_law_330 : decode cL_law 330 = .ok (.iadd, 1) := dk_96 (byr_L_law_20 (j := 10) rfl)
theorem dL_law_331 : decode cL_law 331 = .ok (.iaload, 1) := dk_46 (byr_L_law_20 (j := 11) rfl)
theorem dL_law_332 : decode cL_law 332 = .ok (.aload_n 0, 1) := dk_42 (byr_L_law_20 (j := 12) rfl)
theorem dL_law_333 : decode cL_law 333 = .ok (.iload_n 3, 1) := dk_29 (byr_L_law_20 (j := 13) rfl)
theorem dL_law_334 : decode cL_law 334 = .ok (.iconst 2, 1) := dk_5 (byr_L_law_20 (j := 14) rfl)
theorem dL_law_335 : decode cL_law 335 = .ok (.iadd, 1) := dk_96 (byr_L_law_20 (j := 15) rfl)
theorem dL_law_336 : decode cL_law 336 = .ok (.iaload, 1) := dk_46 (byr_L_law_21 (j := 0) rfl)
theorem dL_law_337 : decode cL_law 337 = .ok (.invokevirtual 31, 3) := dk_182 (byr_L_law_21 (j := 1) rfl) (byr_L_law_21 (j := 2) rfl) (byr_L_law_21 (j := 3) rfl) (by decide)
theorem dL_law_340 : decode cL_law 340 = .ok (.pop, 1) := dk_87 (byr_L_law_21 (j := 4) rfl)
theorem dL_law_341 : decode cL_law 341 = .ok (.aload_n 2, 1) := dk_44 (byr_L_law_21 (j := 5) rfl)
theorem dL_law_342 : decode cL_law 342 = .ok (.aload_n 0, 1) := dk_42 (byr_L_law_21 (j := 6) rfl)
theorem dL_law_343 : decode cL_law 343 = .ok (.iload_n 3, 1) := dk_29 (byr_L_law_21 (j := 7) rfl)
theorem dL_law_344 : decode cL_law 344 = .ok (.iconst 1, 1) := dk_4 (byr_L_law_21 (j := 8) rfl)
theorem dL_law_345 : decode cL_law 345 = .ok (.iadd, 1) := dk_96 (byr_L_law_21 (j := 9) rfl)
theorem dL_law_346 : decode cL_law 346 = .ok (.iaload, 1) := dk_46 (byr_L_law_21 (j := 10) rfl)
theorem dL_law_347 : decode cL_law 347 = .ok (.aload_n 0, 1) := dk_42 (byr_L_law_21 (j := 11) rfl)
theorem dL_law_348 : decode cL_law 348 = .ok (.iload_n 3, 1) := dk_29 (byr_L_law_21 (j := 12) rfl)
theorem dL_law_349 : decode cL_law 349 = .ok (.iconst 2, 1) := dk_5 (byr_L_law_21 (j := 13) rfl)
theorem dL_law_350 : decode cL_law 350 = .ok (.iadd, 1) := dk_96 (byr_L_law_21 (j := 14) rfl)
theorem dL_law_351 : decode cL_law 351 = .ok (.iaload, 1) := dk_46 (byr_L_law_21 (j := 15) rfl)
theorem dL_law_352 : decode cL_law 352 = .ok (.invokevirtual 34, 3) := dk_182 (byr_L_law_22 (j := 0) rfl) (byr_L_law_22 (j := 1) rfl) (byr_L_law_22 (j := 2) rfl) (by decide)
theorem dL_law_355 : decode cL_law 355 = .ok (.pop, 1) := dk_87 (byr_L_law_22 (j := 3) rfl)
theorem dL_law_356 : decode cL_law 356 = .ok (.goto 1195, 3) := dk_167 (byr_L_law_22 (j := 4) rfl) (byr_L_law_22 (j := 5) rfl) (byr_L_law_22 (j := 6) rfl) (by decide)
theorem dL_law_359 : decode cL_law 359 = .ok (.aload_n 1, 1) := dk_43 (byr_L_law_22 (j := 7) rfl)
theorem dL_law_360 : decode cL_law 360 = .ok (.aload_n 0, 1) := dk_42 (byr_L_law_22 (j := 8) rfl)
theorem dL_law_361 : decode cL_law 361 = .ok (.iload_n 3, 1) := dk_29 (byr_L_law_22 (j := 9) rfl)
theorem dL_law_362 : decode cL_law 362 = .ok (.iconst 1, 1) := dk_4 (byr_L_law_22 (j := 10) rfl)
theorem dL_law_363 : decode cL_law 363 = .ok (.iadd, 1) := dk_96 (byr_L_law_22 (j := 11) rfl)
theorem dL_law_364 : decode cL_law 364 = .ok (.iaload, 1) := dk_46 (byr_L_law_22 (j := 12) rfl)
theorem dL_law_365 : decode cL_law 365 = .ok (.aload_n 0, 1) := dk_42 (byr_L_law_22 (j := 13) rfl)
theorem dL_law_366 : decode cL_law 366 = .ok (.iload_n 3, 1) := dk_29 (byr_L_law_22 (j := 14) rfl)
theorem dL_law_367 : decode cL_law 367 = .ok (.iconst 2, 1) := dk_5 (byr_L_law_22 (j := 15) rfl)
theorem dL_law_368 : decode cL_law 368 = .ok (.iadd, 1) := dk_96 (byr_L_law_23 (j := 0) rfl)
theorem dL_law_369 : decode cL_law 369 = .ok (.iaload, 1) := dk_46 (byr_L_law_23 (j := 1) rfl)
theorem dL_law_370 : decode cL_law 370 = .ok (.invokevirtual 35, 3) := dk_182 (byr_L_law_23 (j := 2) rfl) (byr_L_law_23 (j := 3) rfl) (byr_L_law_23 (j := 4) rfl) (by decide)
theorem dL_law_373 : decode cL_law 373 = .ok (.pop, 1) := dk_87 (byr_L_law_23 (j := 5) rfl)
theorem dL_law_374 : decode cL_law 374 = .ok (.aload_n 2, 1) := dk_44 (byr_L_law_23 (j := 6) rfl)
theorem dL_law_375 : decode cL_law 375 = .ok (.aload_n 0, 1) := dk_42 (byr_L_law_23 (j := 7) rfl)
theorem dL_law_376 : decode cL_law 376 = .ok (.iload_n 3, 1) := dk_29 (byr_L_law_23 (j := 8) rfl)
theorem dL_law_377 : decode cL_law 377 = .ok (.iconst 1, 1) := dk_4 (byr_L_law_23 (j := 9) rfl)
theorem dL_law_378 : decode cL_law 378 = .ok (.iadd, 1) := dk_96 (byr_L_law_23 (j := 10) rfl)
theorem dL_law_379 : decode cL_law 379 = .ok (.iaload, 1) := dk_46 (byr_L_law_23 (j := 11) rfl)
theorem dL_law_380 : decode cL_law 380 = .ok (.aload_n 0, 1) := dk_42 (byr_L_law_23 (j := 12) rfl)
theorem dL_law_381 : decode cL_law 381 = .ok (.iload_n 3, 1) := dk_29 (byr_L_law_23 (j := 13) rfl)
theorem dL_law_382 : decode cL_law 382 = .ok (.iconst 2, 1) := dk_5 (byr_L_law_23 (j := 14) rfl)
theorem dL_law_383 : decode cL_law 383 = .ok (.iadd, 1) := dk_96 (byr_L_law_23 (j := 15) rfl)
theorem dL_law_384 : decode cL_law 384 = .ok (.iaload, 1) := dk_46 (byr_L_law_24 (j := 0) rfl)
theorem dL_law_385 : decode cL_law 385 = .ok (.invokevirtual 38, 3) := dk_182 (byr_L_law_24 (j := 1) rfl) (byr_L_law_24 (j := 2) rfl) (byr_L_law_24 (j := 3) rfl) (by decide)
theorem dL_law_388 : decode cL_law 388 = .ok (.pop, 1) := dk_87 (byr_L_law_24 (j := 4) rfl)
theorem dL_law_389 : decode cL_law 389 = .ok (.goto 1162, 3) := dk_167 (byr_L_law_24 (j := 5) rfl) (byr_L_law_24 (j := 6) rfl) (byr_L_law_24 (j := 7) rfl) (by decide)
theorem dL_law_392 : decode cL_law 392 = .ok (.aload_n 1, 1) := dk_43 (byr_L_law_24 (j := 8) rfl)
theorem dL_law_393 : decode cL_law 393 = .ok (.aload_n 0, 1) := dk_42 (byr_L_law_24 (j := 9) rfl)
theorem dL_law_394 : decode cL_law 394 = .ok (.iload_n 3, 1) := dk_29 (byr_L_law_24 (j := 10) rfl)
theorem dL_law_395 : decode cL_law 395 = .ok (.iconst 1, 1) := dk_4 (byr_L_law_24 (j := 11) rfl)
theorem dL_law_396 : decode cL_law 396 = .ok (.iadd, 1) := dk_96 (byr_L_law_24 (j := 12) rfl)
theorem dL_law_397 : decode cL_law 397 = .ok (.iaload, 1) := dk_46 (byr_L_law_24 (j := 13) rfl)
theorem dL_law_398 : decode cL_law 398 = .ok (.aload_n 0, 1) := dk_42 (byr_L_law_24 (j := 14) rfl)
theorem dL_law_399 : decode cL_law 399 = .ok (.iload_n 3, 1) := dk_29 (byr_L_law_24 (j := 15) rfl)
theorem dL_law_400 : decode cL_law 400 = .ok (.iconst 2, 1) := dk_5 (byr_L_law_25 (j := 0) rfl)
theorem dL_law_401 : decode cL_law 401 = .ok (.iadd, 1) := dk_96 (byr_L_law_25 (j := 1) rfl)
theorem dL_law_402 : decode cL_law 402 = .ok (.iaload, 1) := dk_46 (byr_L_law_25 (j := 2) rfl)
theorem dL_law_403 : decode cL_law 403 = .ok (.aload_n 0, 1) := dk_42 (byr_L_law_25 (j := 3) rfl)
theorem dL_law_404 : decode cL_law 404 = .ok (.iload_n 3, 1) := dk_29 (byr_L_law_25 (j := 4) rfl)
theorem dL_law_405 : decode cL_law 405 = .ok (.iconst 3, 1) := dk_6 (byr_L_law_25 (j := 5) rfl)
theorem dL_law_406 : decode cL_law 406 = .ok (.iadd, 1) := dk_96 (byr_L_law_25 (j := 6) rfl)
theorem dL_law_407 : decode cL_law 407 = .ok (.iaload, 1) := dk_46 (byr_L_law_25 (j := 7) rfl)
theorem dL_law_408 : decode cL_law 408 = .ok (.invokevirtual 39, 3) := dk_182 (byr_L_law_25 (j := 8) rfl) (byr_L_law_25 (j := 9) rfl) (byr_L_law_25 (j := 10) rfl) (by decide)
theorem dL_law_411 : decode cL_law 411 = .ok (.pop, 1) := dk_87 (byr_L_law_25 (j := 11) rfl)
theorem dL_law_412 : decode cL_law 412 = .ok (.aload_n 2, 1) := dk_44 (byr_L_law_25 (j := 12) rfl)
theorem dL_law_413 : decode cL_law 413 = .ok (.aload_n 0, 1) := dk_42 (byr_L_law_25 (j := 13) rfl)
theorem dL_law_414 : decode cL_law 414 = .ok (.iload_n 3, 1) := dk_29 (byr_L_law_25 (j := 14) rfl)
theorem dL_law_415 : decode cL_law 415 = .ok (.iconst 1, 1) := dk_4 (byr_L_law_25 (j := 15) rfl)
theorem dL_law_416 : decode cL_law 416 = .ok (.iadd, 1) := dk_96 (byr_L_law_26 (j := 0) rfl)
theorem dL_law_417 : decode cL_law 417 = .ok (.iaload, 1) := dk_46 (byr_L_law_26 (j := 1) rfl)
theorem dL_law_418 : decode cL_law 418 = .ok (.aload_n 0, 1) := dk_42 (byr_L_law_26 (j := 2) rfl)
theorem dL_law_419 : decode cL_law 419 = .ok (.iload_n 3, 1) := dk_29 (byr_L_law_26 (j := 3) rfl)
theorem dL_law_420 : decode cL_law 420 = .ok (.iconst 2, 1) := dk_5 (byr_L_law_26 (j := 4) rfl)
theorem dL_law_421 : decode cL_law 421 = .ok (.iadd, 1) := dk_96 (byr_L_law_26 (j := 5) rfl)
theorem dL_law_422 : decode cL_law 422 = .ok (.iaload, 1) := dk_46 (byr_L_law_26 (j := 6) rfl)
theorem dL_law_423 : decode cL_law 423 = .ok (.aload_n 0, 1) := dk_42 (byr_L_law_26 (j := 7) rfl)
theorem dL_law_424 : decode cL_law 424 = .ok (.iload_n 3, 1) := dk_29 (byr_L_law_26 (j := 8) rfl)
theorem dL_law_425 : decode cL_law 425 = .ok (.iconst 3, 1) := dk_6 (byr_L_law_26 (j := 9) rfl)
theorem dL_law_426 : decode cL_law 426 = .ok (.iadd, 1) := dk_96 (byr_L_law_26 (j := 10) rfl)
theorem dL_law_427 : decode cL_law 427 = .ok (.iaload, 1) := dk_46 (byr_L_law_26 (j := 11) rfl)
theorem dL_law_428 : decode cL_law 428 = .ok (.invokevirtual 43, 3) := dk_182 (byr_L_law_26 (j := 12) rfl) (byr_L_law_26 (j := 13) rfl) (byr_L_law_26 (j := 14) rfl) (by decide)
theorem dL_law_431 : decode cL_law 431 = .ok (.pop, 1) := dk_87 (byr_L_law_26 (j := 15) rfl)
theorem dL_law_432 : decode cL_law 432 = .ok (.goto 1119, 3) := dk_167 (byr_L_law_27 (j := 0) rfl) (byr_L_law_27 (j := 1) rfl) (byr_L_law_27 (j := 2) rfl) (by decide)
theorem dL_law_435 : decode cL_law 435 = .ok (.aload_n 1, 1) := dk_43 (byr_L_law_27 (j := 3) rfl)
theorem dL_law_436 : decode cL_law 436 = .ok (.aload_n 0, 1) := dk_42 (byr_L_law_27 (j := 4) rfl)
theorem dL_law_437 : decode cL_law 437 = .ok (.iload_n 3, 1) := dk_29 (byr_L_law_27 (j := 5) rfl)
theorem dL_law_438 : decode cL_law 438 = .ok (.iconst 1, 1) := dk_4 (byr_L_law_27 (j := 6) rfl)
theorem dL_law_439 : decode cL_law 439 = .ok (.iadd, 1) := dk_96 (byr_L_law_27 (j := 7) rfl)
theorem dL_law_440 : decode cL_law 440 = .ok (.iaload, 1) := dk_46 (byr_L_law_27 (j := 8) rfl)
theorem dL_law_441 : decode cL_law 441 = .ok (.aload_n 0, 1) := dk_42 (byr_L_law_27 (j := 9) rfl)
theorem dL_law_442 : decode cL_law 442 = .ok (.iload_n 3, 1) := dk_29 (byr_L_law_27 (j := 10) rfl)
theorem dL_law_443 : decode cL_law 443 = .ok (.iconst 2, 1) := dk_5 (byr_L_law_27 (j := 11) rfl)
theorem dL_law_444 : decode cL_law 444 = .ok (.iadd, 1) := dk_96 (byr_L_law_27 (j := 12) rfl)
theorem dL_law_445 : decode cL_law 445 = .ok (.iaload, 1) := dk_46 (byr_L_law_27 (j := 13) rfl)
theorem dL_law_446 : decode cL_law 446 = .ok (.invokevirtual 44, 3) := dk_182 (byr_L_law_27 (j := 14) rfl) (byr_L_law_27 (j := 15) rfl) (byr_L_law_28 (j := 0) rfl) (by decide)
theorem dL_law_449 : decode cL_law 449 = .ok (.pop, 1) := dk_87 (byr_L_law_28 (j := 1) rfl)
theorem dL_law_450 : decode cL_law 450 = .ok (.aload_n 2, 1) := dk_44 (byr_L_law_28 (j := 2) rfl)
theorem dL_law_451 : decode cL_law 451 = .ok (.aload_n 0, 1) := dk_42 (byr_L_law_28 (j := 3) rfl)
theorem dL_law_452 : decode cL_law 452 = .ok (.iload_n 3, 1) := dk_29 (byr_L_law_28 (j := 4) rfl)
theorem dL_law_453 : decode cL_law 453 = .ok (.iconst 1, 1) := dk_4 (byr_L_law_28 (j := 5) rfl)
theorem dL_law_454 : decode cL_law 454 = .ok (.iadd, 1) := dk_96 (byr_L_law_28 (j := 6) rfl)
theorem dL_law_455 : decode cL_law 455 = .ok (.iaload, 1) := dk_46 (byr_L_law_28 (j := 7) rfl)
theorem dL_law_456 : decode cL_law 456 = .ok (.aload_n 0, 1) := dk_42 (byr_L_law_28 (j := 8) rfl)
theorem dL_law_457 : decode cL_law 457 = .ok (.iload_n 3, 1) := dk_29 (byr_L_law_28 (j := 9) rfl)
theorem dL_law_458 : decode cL_law 458 = .ok (.iconst 2, 1) := dk_5 (byr_L_law_28 (j := 10) rfl)
theorem dL_law_459 : decode cL_law 459 = .ok (.iadd, 1) := dk_96 (byr_L_law_28 (j := 11) rfl)
theorem dL_law_460 : decode cL_law 460 = .ok (.iaload, 1) := dk_46 (byr_L_law_28 (j := 12) rfl)
theorem dL_law_461 : decode cL_law 461 = .ok (.invokevirtual 47, 3) := dk_182 (byr_L_law_28 (j := 13) rfl) (byr_L_law_28 (j := 14) rfl) (byr_L_law_28 (j := 15) rfl) (by decide)
theorem dL_law_464 : decode cL_law 464 = .ok (.pop, 1) := dk_87 (byr_L_law_29 (j := 0) rfl)
theorem dL_law_465 : decode cL_law 465 = .ok (.goto 1086, 3) := dk_167 (byr_L_law_29 (j := 1) rfl) (byr_L_law_29 (j := 2) rfl) (byr_L_law_29 (j := 3) rfl) (by decide)
theorem dL_law_468 : decode cL_law 468 = .ok (.aload_n 1, 1) := dk_43 (byr_L_law_29 (j := 4) rfl)
theorem dL_law_469 : decode cL_law 469 = .ok (.aload_n 0, 1) := dk_42 (byr_L_law_29 (j := 5) rfl)
theorem dL_law_470 : decode cL_law 470 = .ok (.iload_n 3, 1) := dk_29 (byr_L_law_29 (j := 6) rfl)
theorem dL_law_471 : decode cL_law 471 = .ok (.iconst 1, 1) := dk_4 (byr_L_law_29 (j := 7) rfl)
theorem dL_law_472 : decode cL_law 472 = .ok (.iadd, 1) := dk_96 (byr_L_law_29 (j := 8) rfl)
theorem dL_law_473 : decode cL_law 473 = .ok (.iaload, 1) := dk_46 (byr_L_law_29 (j := 9) rfl)
theorem dL_law_474 : decode cL_law 474 = .ok (.aload_n 0, 1) := dk_42 (byr_L_law_29 (j := 10) rfl)
theorem dL_law_475 : decode cL_law 475 = .ok (.iload_n 3, 1) := dk_29 (byr_L_law_29 (j := 11) rfl)
theorem dL_law_476 : decode cL_law 476 = .ok (.iconst 2, 1) := dk_5 (byr_L_law_29 (j := 12) rfl)
theorem dL_law_477 : decode cL_law 477 = .ok (.iadd, 1) := dk_96 (byr_L_law_29 (j := 13) rfl)
theorem dL_law_478 : decode cL_law 478 = .ok (.iaload, 1) := dk_46 (byr_L_law_29 (j := 14) rfl)
theorem dL_law_479 : decode cL_law 479 = .ok (.invokevirtual 48, 3) := dk_182 (byr_L_law_29 (j := 15) rfl) (byr_L_law_30 (j := 0) rfl) (byr_L_law_30 (j := 1) rfl) (by decide)
theorem dL_law_482 : decode cL_law 482 = .ok (.pop, 1) := dk_87 (byr_L_law_30 (j := 2) rfl)
theorem dL_law_483 : decode cL_law 483 = .ok (.aload_n 2, 1) := dk_44 (byr_L_law_30 (j := 3) rfl)
theorem dL_law_484 : decode cL_law 484 = .ok (.aload_n 0, 1) := dk_42 (byr_L_law_30 (j := 4) rfl)
theorem dL_law_485 : decode cL_law 485 = .ok (.iload_n 3, 1) := dk_29 (byr_L_law_30 (j := 5) rfl)
theorem dL_law_486 : decode cL_law 486 = .ok (.iconst 1, 1) := dk_4 (byr_L_law_30 (j := 6) rfl)
theorem dL_law_487 : decode cL_law 487 = .ok (.iadd, 1) := dk_96 (byr_L_law_30 (j := 7) rfl)
theorem dL_law_488 : decode cL_law 488 = .ok (.iaload, 1) := dk_46 (byr_L_law_30 (j := 8) rfl)
theorem dL_law_489 : decode cL_law 489 = .ok (.aload_n 0, 1) := dk_42 (byr_L_law_30 (j := 9) rfl)
theorem dL_law_490 : decode cL_law 490 = .ok (.iload_n 3, 1) := dk_29 (byr_L_law_30 (j := 10) rfl)
theorem dL_law_491 : decode cL_law 491 = .ok (.iconst 2, 1) := dk_5 (byr_L_law_30 (j := 11) rfl)
theorem dL_law_492 : decode cL_law 492 = .ok (.iadd, 1) := dk_96 (byr_L_law_30 (j := 12) rfl)
theorem dL_law_493 : decode cL_law 493 = .ok (.iaload, 1) := dk_46 (byr_L_law_30 (j := 13) rfl)
theorem dL_law_494 : decode cL_law 494 = .ok (.invokevirtual 51, 3) := dk_182 (byr_L_law_30 (j := 14) rfl) (byr_L_law_30 (j := 15) rfl) (byr_L_law_31 (j := 0) rfl) (by decide)
theorem dL_law_497 : decode cL_law 497 = .ok (.pop, 1) := dk_87 (byr_L_law_31 (j := 1) rfl)
theorem dL_law_498 : decode cL_law 498 = .ok (.goto 1053, 3) := dk_167 (byr_L_law_31 (j := 2) rfl) (byr_L_law_31 (j := 3) rfl) (byr_L_law_31 (j := 4) rfl) (by decide)
theorem dL_law_501 : decode cL_law 501 = .ok (.aload_n 1, 1) := dk_43 (byr_L_law_31 (j := 5) rfl)
theorem dL_law_502 : decode cL_law 502 = .ok (.aload_n 0, 1) := dk_42 (byr_L_law_31 (j := 6) rfl)
theorem dL_law_503 : decode cL_law 503 = .ok (.iload_n 3, 1) := dk_29 (byr_L_law_31 (j := 7) rfl)
theorem dL_law_504 : decode cL_law 504 = .ok (.iconst 1, 1) := dk_4 (byr_L_law_31 (j := 8) rfl)
theorem dL_law_505 : decode cL_law 505 = .ok (.iadd, 1) := dk_96 (byr_L_law_31 (j := 9) rfl)
theorem dL_law_506 : decode cL_law 506 = .ok (.iaload, 1) := dk_46 (byr_L_law_31 (j := 10) rfl)
theorem dL_law_507 : decode cL_law 507 = .ok (.aload_n 0, 1) := dk_42 (byr_L_law_31 (j := 11) rfl)
theorem dL_law_508 : decode cL_law 508 = .ok (.iload_n 3, 1) := dk_29 (byr_L_law_31 (j := 12) rfl)
theorem dL_law_509 : decode cL_law 509 = .ok (.iconst 2, 1) := dk_5 (byr_L_law_31 (j := 13) rfl)
theorem dL_law_510 : decode cL_law 510 = .ok (.iadd, 1) := dk_96 (byr_L_law_31 (j := 14) rfl)
theorem dL_law_511 : decode cL_law 511 = .ok (.iaload, 1) := dk_46 (byr_L_law_31 (j := 15) rfl)
theorem dL_law_512 : decode cL_law 512 = .ok (.invokevirtual 52, 3) := dk_182 (byr_L_law_32 (j := 0) rfl) (byr_L_law_32 (j := 1) rfl) (byr_L_law_32 (j := 2) rfl) (by decide)
theorem dL_law_515 : decode cL_law 515 = .ok (.pop, 1) := dk_87 (byr_L_law_32 (j := 3) rfl)
theorem dL_law_516 : decode cL_law 516 = .ok (.aload_n 2, 1) := dk_44 (byr_L_law_32 (j := 4) rfl)
theorem dL_law_517 : decode cL_law 517 = .ok (.aload_n 0, 1) := dk_42 (byr_L_law_32 (j := 5) rfl)
theorem dL_law_518 : decode cL_law 518 = .ok (.iload_n 3, 1) := dk_29 (byr_L_law_32 (j := 6) rfl)
theorem dL_law_519 : decode cL_law 519 = .ok (.iconst 1, 1) := dk_4 (byr_L_law_32 (j := 7) rfl)
theorem dL_law_520 : decode cL_law 520 = .ok (.iadd, 1) := dk_96 (byr_L_law_32 (j := 8) rfl)
theorem dL_law_521 : decode cL_law 521 = .ok (.iaload, 1) := dk_46 (byr_L_law_32 (j := 9) rfl)
theorem dL_law_522 : decode cL_law 522 = .ok (.aload_n 0, 1) := dk_42 (byr_L_law_32 (j := 10) rfl)
theorem dL_law_523 : decode cL_law 523 = .ok (.iload_n 3, 1) := dk_29 (byr_L_law_32 (j := 11) rfl)
theorem dL_law_524 : decode cL_law 524 = .ok (.iconst 2, 1) := dk_5 (byr_L_law_32 (j := 12) rfl)
theorem dL_law_525 : decode cL_law 525 = .ok (.iadd, 1) := dk_96 (byr_L_law_32 (j := 13) rfl)
theorem dL_law_526 : decode cL_law 526 = .ok (.iaload, 1) := dk_46 (byr_L_law_32 (j := 14) rfl)
theorem dL_law_527 : decode cL_law 527 = .ok (.invokevirtual 55, 3) := dk_182 (byr_L_law_32 (j := 15) rfl) (byr_L_law_33 (j := 0) rfl) (byr_L_law_33 (j := 1) rfl) (by decide)
theorem dL_law_530 : decode cL_law 530 = .ok (.pop, 1) := dk_87 (byr_L_law_33 (j := 2) rfl)
theorem dL_law_531 : decode cL_law 531 = .ok (.goto 1020, 3) := dk_167 (byr_L_law_33 (j := 3) rfl) (byr_L_law_33 (j := 4) rfl) (byr_L_law_33 (j := 5) rfl) (by decide)
theorem dL_law_534 : decode cL_law 534 = .ok (.aload_n 1, 1) := dk_43 (byr_L_law_33 (j := 6) rfl)
theorem dL_law_535 : decode cL_law 535 = .ok (.aload_n 0, 1) := dk_42 (byr_L_law_33 (j := 7) rfl)
theorem dL_law_536 : decode cL_law 536 = .ok (.iload_n 3, 1) := dk_29 (byr_L_law_33 (j := 8) rfl)
theorem dL_law_537 : decode cL_law 537 = .ok (.iconst 1, 1) := dk_4 (byr_L_law_33 (j := 9) rfl)
theorem dL_law_538 : decode cL_law 538 = .ok (.iadd, 1) := dk_96 (byr_L_law_33 (j := 10) rfl)
theorem dL_law_539 : decode cL_law 539 = .ok (.iaload, 1) := dk_46 (byr_L_law_33 (j := 11) rfl)
theorem dL_law_540 : decode cL_law 540 = .ok (.i2l, 1) := dk_133 (byr_L_law_33 (j := 12) rfl)
theorem dL_law_541 : decode cL_law 541 = .ok (.bipush 32, 2) := dk_16 (byr_L_law_33 (j := 13) rfl) (byr_L_law_33 (j := 14) rfl) (by decide)
theorem dL_law_543 : decode cL_law 543 = .ok (.lshl, 1) := dk_121 (byr_L_law_33 (j := 15) rfl)
theorem dL_law_544 : decode cL_law 544 = .ok (.aload_n 0, 1) := dk_42 (byr_L_law_34 (j := 0) rfl)
theorem dL_law_545 : decode cL_law 545 = .ok (.iload_n 3, 1) := dk_29 (byr_L_law_34 (j := 1) rfl)
theorem dL_law_546 : decode cL_law 546 = .ok (.iconst 2, 1) := dk_5 (byr_L_law_34 (j := 2) rfl)
theorem dL_law_547 : decode cL_law 547 = .ok (.iadd, 1) := dk_96 (byr_L_law_34 (j := 3) rfl)
theorem dL_law_548 : decode cL_law 548 = .ok (.iaload, 1) := dk_46 (byr_L_law_34 (j := 4) rfl)
theorem dL_law_549 : decode cL_law 549 = .ok (.i2l, 1) := dk_133 (byr_L_law_34 (j := 5) rfl)
theorem dL_law_550 : decode cL_law 550 = .ok (.ldc2_w 56, 3) := dk_20 (byr_L_law_34 (j := 6) rfl) (byr_L_law_34 (j := 7) rfl) (byr_L_law_34 (j := 8) rfl) (by decide)
theorem dL_law_553 : decode cL_law 553 = .ok (.land, 1) := dk_127 (byr_L_law_34 (j := 9) rfl)
theorem dL_law_554 : decode cL_law 554 = .ok (.lor, 1) := dk_129 (byr_L_law_34 (j := 10) rfl)
theorem dL_law_555 : decode cL_law 555 = .ok (.aload_n 0, 1) := dk_42 (byr_L_law_34 (j := 11) rfl)
theorem dL_law_556 : decode cL_law 556 = .ok (.iload_n 3, 1) := dk_29 (byr_L_law_34 (j := 12) rfl)
theorem dL_law_557 : decode cL_law 557 = .ok (.iconst 3, 1) := dk_6 (byr_L_law_34 (j := 13) rfl)
theorem dL_law_558 : decode cL_law 558 = .ok (.iadd, 1) := dk_96 (byr_L_law_34 (j := 14) rfl)
theorem dL_law_559 : decode cL_law 559 = .ok (.iaload, 1) := dk_46 (byr_L_law_34 (j := 15) rfl)
theorem dL_law_560 : decode cL_law 560 = .ok (.invokevirtual 58, 3) := dk_182 (byr_L_law_35 (j := 0) rfl) (byr_L_law_35 (j := 1) rfl) (byr_L_law_35 (j := 2) rfl) (by decide)
theorem dL_law_563 : decode cL_law 563 = .ok (.pop, 1) := dk_87 (byr_L_law_35 (j := 3) rfl)
theorem dL_law_564 : decode cL_law 564 = .ok (.aload_n 2, 1) := dk_44 (byr_L_law_35 (j := 4) rfl)
theorem dL_law_565 : decode cL_law 565 = .ok (.aload_n 0, 1) := dk_42 (byr_L_law_35 (j := 5) rfl)
theorem dL_law_566 : decode cL_law 566 = .ok (.iload_n 3, 1) := dk_29 (byr_L_law_35 (j := 6) rfl)
theorem dL_law_567 : decode cL_law 567 = .ok (.iconst 1, 1) := dk_4 (byr_L_law_35 (j := 7) rfl)
theorem dL_law_568 : decode cL_law 568 = .ok (.iadd, 1) := dk_96 (byr_L_law_35 (j := 8) rfl)
theorem dL_law_569 : decode cL_law 569 = .ok (.iaload, 1) := dk_46 (byr_L_law_35 (j := 9) rfl)
theorem dL_law_570 : decode cL_law 570 = .ok (.i2l, 1) := dk_133 (byr_L_law_35 (j := 10) rfl)
theorem dL_law_571 : decode cL_law 571 = .ok (.bipush 32, 2) := dk_16 (byr_L_law_35 (j := 11) rfl) (byr_L_law_35 (j := 12) rfl) (by decide)
theorem dL_law_573 : decode cL_law 573 = .ok (.lshl, 1) := dk_121 (byr_L_law_35 (j := 13) rfl)
theorem dL_law_574 : decode cL_law 574 = .ok (.aload_n 0, 1) := dk_42 (byr_L_law_35 (j := 14) rfl)
theorem dL_law_575 : decode cL_law 575 = .ok (.iload_n 3, 1) := dk_29 (byr_L_law_35 (j := 15) rfl)
theorem dL_law_576 : decode cL_law 576 = .ok (.iconst 2, 1) := dk_5 (byr_L_law_36 (j := 0) rfl)
theorem dL_law_577 : decode cL_law 577 = .ok (.iadd, 1) := dk_96 (byr_L_law_36 (j := 1) rfl)
theorem dL_law_578 : decode cL_law 578 = .ok (.iaload, 1) := dk_46 (byr_L_law_36 (j := 2) rfl)
theorem dL_law_579 : decode cL_law 579 = .ok (.i2l, 1) := dk_133 (byr_L_law_36 (j := 3) rfl)
theorem dL_law_580 : decode cL_law 580 = .ok (.ldc2_w 56, 3) := dk_20 (byr_L_law_36 (j := 4) rfl) (byr_L_law_36 (j := 5) rfl) (byr_L_law_36 (j := 6) rfl) (by decide)
theorem dL_law_583 : decode cL_law 583 = .ok (.land, 1) := dk_127 (byr_L_law_36 (j := 7) rfl)
theorem dL_law_584 : decode cL_law 584 = .ok (.lor, 1) := dk_129 (byr_L_law_36 (j := 8) rfl)
theorem dL_law_585 : decode cL_law 585 = .ok (.aload_n 0, 1) := dk_42 (byr_L_law_36 (j := 9) rfl)
theorem dL_law_586 : decode cL_law 586 = .ok (.iload_n 3, 1) := dk_29 (byr_L_law_36 (j := 10) rfl)
theorem dL_law_587 : decode cL_law 587 = .ok (.iconst 3, 1) := dk_6 (byr_L_law_36 (j := 11) rfl)
theorem dL_law_588 : decode cL_law 588 = .ok (.iadd, 1) := dk_96 (byr_L_law_36 (j := 12) rfl)
theorem dL_law_589 : decode cL_law 589 = .ok (.iaload, 1) := dk_46 (byr_L_law_36 (j := 13) rfl)
theorem dL_law_590 : decode cL_law 590 = .ok (.invokevirtual 62, 3) := dk_182 (byr_L_law_36 (j := 14) rfl) (byr_L_law_36 (j := 15) rfl) (byr_L_law_37 (j := 0) rfl) (by decide)
theorem dL_law_593 : decode cL_law 593 = .ok (.pop, 1) := dk_87 (byr_L_law_37 (j := 1) rfl)
theorem dL_law_594 : decode cL_law 594 = .ok (.goto 957, 3) := dk_167 (byr_L_law_37 (j := 2) rfl) (byr_L_law_37 (j := 3) rfl) (byr_L_law_37 (j := 4) rfl) (by decide)
theorem dL_law_597 : decode cL_law 597 = .ok (.aload_n 1, 1) := dk_43 (byr_L_law_37 (j := 5) rfl)
theorem dL_law_598 : decode cL_law 598 = .ok (.aload_n 0, 1) := dk_42 (byr_L_law_37 (j := 6) rfl)
theorem dL_law_599 : decode cL_law 599 = .ok (.iload_n 3, 1) := dk_29 (byr_L_law_37 (j := 7) rfl)
theorem dL_law_600 : decode cL_law 600 = .ok (.iconst 1, 1) := dk_4 (byr_L_law_37 (j := 8) rfl)
theorem dL_law_601 : decode cL_law 601 = .ok (.iadd, 1) := dk_96 (byr_L_law_37 (j := 9) rfl)
theorem dL_law_602 : decode cL_law 602 = .ok (.iaload, 1) := dk_46 (byr_L_law_37 (j := 10) rfl)
theorem dL_law_603 : decode cL_law 603 = .ok (.invokevirtual 63, 3) := dk_182 (byr_L_law_37 (j := 11) rfl) (byr_L_law_37 (j := 12) rfl) (byr_L_law_37 (j := 13) rfl) (by decide)
theorem dL_law_606 : decode cL_law 606 = .ok (.pop, 1) := dk_87 (byr_L_law_37 (j := 14) rfl)
theorem dL_law_607 : decode cL_law 607 = .ok (.aload_n 2, 1) := dk_44 (byr_L_law_37 (j := 15) rfl)
theorem dL_law_608 : decode cL_law 608 = .ok (.aload_n 0, 1) := dk_42 (byr_L_law_38 (j := 0) rfl)
theorem dL_law_609 : decode cL_law 609 = .ok (.iload_n 3, 1) := dk_29 (byr_L_law_38 (j := 1) rfl)
theorem dL_law_610 : decode cL_law 610 = .ok (.iconst 1, 1) := dk_4 (byr_L_law_38 (j := 2) rfl)
theorem dL_law_611 : decode cL_law 611 = .ok (.iadd, 1) := dk_96 (byr_L_law_38 (j := 3) rfl)
theorem dL_law_612 : decode cL_law 612 = .ok (.iaload, 1) := dk_46 (byr_L_law_38 (j := 4) rfl)
theorem dL_law_613 : decode cL_law 613 = .ok (.invokevirtual 66, 3) := dk_182 (byr_L_law_38 (j := 5) rfl) (byr_L_law_38 (j := 6) rfl) (byr_L_law_38 (j := 7) rfl) (by decide)
theorem dL_law_616 : decode cL_law 616 = .ok (.pop, 1) := dk_87 (byr_L_law_38 (j := 8) rfl)
theorem dL_law_617 : decode cL_law 617 = .ok (.goto 934, 3) := dk_167 (byr_L_law_38 (j := 9) rfl) (byr_L_law_38 (j := 10) rfl) (byr_L_law_38 (j := 11) rfl) (by decide)
theorem dL_law_620 : decode cL_law 620 = .ok (.aload_n 1, 1) := dk_43 (byr_L_law_38 (j := 12) rfl)
theorem dL_law_621 : decode cL_law 621 = .ok (.aload_n 0, 1) := dk_42 (byr_L_law_38 (j := 13) rfl)
theorem dL_law_622 : decode cL_law 622 = .ok (.iload_n 3, 1) := dk_29 (byr_L_law_38 (j := 14) rfl)
theorem dL_law_623 : decode cL_law 623 = .ok (.iconst 1, 1) := dk_4 (byr_L_law_38 (j := 15) rfl)
theorem dL_law_624 : decode cL_law 624 = .ok (.iadd, 1) := dk_96 (byr_L_law_39 (j := 0) rfl)
theorem dL_law_625 : decode cL_law 625 = .ok (.iaload, 1) := dk_46 (byr_L_law_39 (j := 1) rfl)
theorem dL_law_626 : decode cL_law 626 = .ok (.aload_n 0, 1) := dk_42 (byr_L_law_39 (j := 2) rfl)
theorem dL_law_627 : decode cL_law 627 = .ok (.iload_n 3, 1) := dk_29 (byr_L_law_39 (j := 3) rfl)
theorem dL_law_628 : decode cL_law 628 = .ok (.iconst 2, 1) := dk_5 (byr_L_law_39 (j := 4) rfl)
theorem dL_law_629 : decode cL_law 629 = .ok (.iadd, 1) := dk_96 (byr_L_law_39 (j := 5) rfl)
theorem dL_law_630 : decode cL_law 630 = .ok (.iaload, 1) := dk_46 (byr_L_law_39 (j := 6) rfl)
theorem dL_law_631 : decode cL_law 631 = .ok (.aload_n 0, 1) := dk_42 (byr_L_law_39 (j := 7) rfl)
theorem dL_law_632 : decode cL_law 632 = .ok (.iload_n 3, 1) := dk_29 (byr_L_law_39 (j := 8) rfl)
theorem dL_law_633 : decode cL_law 633 = .ok (.iconst 3, 1) := dk_6 (byr_L_law_39 (j := 9) rfl)
theorem dL_law_634 : decode cL_law 634 = .ok (.iadd, 1) := dk_96 (byr_L_law_39 (j := 10) rfl)
theorem dL_law_635 : decode cL_law 635 = .ok (.iaload, 1) := dk_46 (byr_L_law_39 (j := 11) rfl)
theorem dL_law_636 : decode cL_law 636 = .ok (.aload_n 0, 1) := dk_42 (byr_L_law_39 (j := 12) rfl)
theorem dL_law_637 : decode cL_law 637 = .ok (.iload_n 3, 1) := dk_29 (byr_L_law_39 (j := 13) rfl)
theorem dL_law_638 : decode cL_law 638 = .ok (.iconst 4, 1) := dk_7 (byr_L_law_39 (j := 14) rfl)
theorem dL_law_639 : decode cL_law 639 = .ok (.iadd, 1) := dk_96 (byr_L_law_39 (j := 15) rfl)
theorem dL_law_640 : decode cL_law 640 = .ok (.iaload, 1) := dk_46 (byr_L_law_40 (j := 0) rfl)
theorem dL_law_641 : decode cL_law 641 = .ok (.invokevirtual 67, 3) := dk_182 (byr_L_law_40 (j := 1) rfl) (byr_L_law_40 (j := 2) rfl) (byr_L_law_40 (j := 3) rfl) (by decide)
theorem dL_law_644 : decode cL_law 644 = .ok (.pop, 1) := dk_87 (byr_L_law_40 (j := 4) rfl)
theorem dL_law_645 : decode cL_law 645 = .ok (.aload_n 2, 1) := dk_44 (byr_L_law_40 (j := 5) rfl)
theorem dL_law_646 : decode cL_law 646 = .ok (.aload_n 0, 1) := dk_42 (byr_L_law_40 (j := 6) rfl)
theorem dL_law_647 : decode cL_law 647 = .ok (.iload_n 3, 1) := dk_29 (byr_L_law_40 (j := 7) rfl)
theorem dL_law_648 : decode cL_law 648 = .ok (.iconst 1, 1) := dk_4 (byr_L_law_40 (j := 8) rfl)
theorem dL_law_649 : decode cL_law 649 = .ok (.iadd, 1) := dk_96 (byr_L_law_40 (j := 9) rfl)
theorem dL_law_650 : decode cL_law 650 = .ok (.iaload, 1) := dk_46 (byr_L_law_40 (j := 10) rfl)
theorem dL_law_651 : decode cL_law 651 = .ok (.aload_n 0, 1) := dk_42 (byr_L_law_40 (j := 11) rfl)
theorem dL_law_652 : decode cL_law 652 = .ok (.iload_n 3, 1) := dk_29 (byr_L_law_40 (j := 12) rfl)
theorem dL_law_653 : decode cL_law 653 = .ok (.iconst 2, 1) := dk_5 (byr_L_law_40 (j := 13) rfl)
theorem dL_law_654 : decode cL_law 654 = .ok (.iadd, 1) := dk_96 (byr_L_law_40 (j := 14) rfl)
theorem dL_law_655 : decode cL_law 655 = .ok (.iaload, 1) := dk_46 (byr_L_law_40 (j := 15) rfl)
theorem dL_law_656 : decode cL_law 656 = .ok (.aload_n 0, 1) := dk_42 (byr_L_law_41 (j := 0) rfl)
theorem dL_law_657 : decode cL_law 657 = .ok (.iload_n 3, 1) := dk_29 (byr_L_law_41 (j := 1) rfl)
theorem dL_law_658 : decode cL_law 658 = .ok (.iconst 3, 1) := dk_6 (byr_L_law_41 (j := 2) rfl)
theorem dL_law_659 : decode cL_law 659 = .ok (.iadd, 1) := dk_96 (byr_L_law_41 (j := 3) rfl)
theorem dL_law_660 : decode cL_law 660 = .ok (.iaload, 1) := dk_46 (byr_L_law_41 (j := 4) rfl)
theorem dL_law_661 : decode cL_law 661 = .ok (.aload_n 0, 1) := dk_42 (byr_L_law_41 (j := 5) rfl)
theorem dL_law_662 : decode cL_law 662 = .ok (.iload_n 3, 1) := dk_29 (byr_L_law_41 (j := 6) rfl)
theorem dL_law_663 : decode cL_law 663 = .ok (.iconst 4, 1) := dk_7 (byr_L_law_41 (j := 7) rfl)
theorem dL_law_664 : decode cL_law 664 = .ok (.iadd, 1) := dk_96 (byr_L_law_41 (j := 8) rfl)
theorem dL_law_665 : decode cL_law 665 = .ok (.iaload, 1) := dk_46 (byr_L_law_41 (j := 9) rfl)
theorem dL_law_666 : decode cL_law 666 = .ok (.invokevirtual 71, 3) := dk_182 (byr_L_law_41 (j := 10) rfl) (byr_L_law_41 (j := 11) rfl) (byr_L_law_41 (j := 12) rfl) (by decide)
theorem dL_law_669 : decode cL_law 669 = .ok (.pop, 1) := dk_87 (byr_L_law_41 (j := 13) rfl)
theorem dL_law_670 : decode cL_law 670 = .ok (.goto 881, 3) := dk_167 (byr_L_law_41 (j := 14) rfl) (byr_L_law_41 (j := 15) rfl) (byr_L_law_42 (j := 0) rfl) (by decide)
theorem dL_law_673 : decode cL_law 673 = .ok (.aload_n 1, 1) := dk_43 (byr_L_law_42 (j := 1) rfl)
theorem dL_law_674 : decode cL_law 674 = .ok (.aload_n 0, 1) := dk_42 (byr_L_law_42 (j := 2) rfl)
theorem dL_law_675 : decode cL_law 675 = .ok (.iload_n 3, 1) := dk_29 (byr_L_law_42 (j := 3) rfl)
theorem dL_law_676 : decode cL_law 676 = .ok (.iconst 1, 1) := dk_4 (byr_L_law_42 (j := 4) rfl)
theorem dL_law_677 : decode cL_law 677 = .ok (.iadd, 1) := dk_96 (byr_L_law_42 (j := 5) rfl)
theorem dL_law_678 : decode cL_law 678 = .ok (.iaload, 1) := dk_46 (byr_L_law_42 (j := 6) rfl)
theorem dL_law_679 : decode cL_law 679 = .ok (.aload_n 0, 1) := dk_42 (byr_L_law_42 (j := 7) rfl)
theorem dL_law_680 : decode cL_law 680 = .ok (.iload_n 3, 1) := dk_29 (byr_L_law_42 (j := 8) rfl)
theorem dL_law_681 : decode cL_law 681 = .ok (.iconst 2, 1) := dk_5 (byr_L_law_42 (j := 9) rfl)
theorem dL_law_682 : decode cL_law 682 = .ok (.iadd, 1) := dk_96 (byr_L_law_42 (j := 10) rfl)
theorem dL_law_683 : decode cL_law 683 = .ok (.iaload, 1) := dk_46 (byr_L_law_42 (j := 11) rfl)
theorem dL_law_684 : decode cL_law 684 = .ok (.invokevirtual 72, 3) := dk_182 (byr_L_law_42 (j := 12) rfl) (byr_L_law_42 (j := 13) rfl) (byr_L_law_42 (j := 14) rfl) (by decide)
theorem dL_law_687 : decode cL_law 687 = .ok (.pop, 1) := dk_87 (byr_L_law_42 (j := 15) rfl)
theorem dL_law_688 : decode cL_law 688 = .ok (.aload_n 2, 1) := dk_44 (byr_L_law_43 (j := 0) rfl)
theorem dL_law_689 : decode cL_law 689 = .ok (.aload_n 0, 1) := dk_42 (byr_L_law_43 (j := 1) rfl)
theorem dL_law_690 : decode cL_law 690 = .ok (.iload_n 3, 1) := dk_29 (byr_L_law_43 (j := 2) rfl)
theorem dL_law_691 : decode cL_law 691 = .ok (.iconst 1, 1) := dk_4 (byr_L_law_43 (j := 3) rfl)
theorem dL_law_692 : decode cL_law 692 = .ok (.iadd, 1) := dk_96 (byr_L_law_43 (j := 4) rfl)
theorem dL_law_693 : decode cL_law 693 = .ok (.iaload, 1) := dk_46 (byr_L_law_43 (j := 5) rfl)
theorem dL_law_694 : decode cL_law 694 = .ok (.aload_n 0, 1) := dk_42 (byr_L_law_43 (j := 6) rfl)
theorem dL_law_695 : decode cL_law 695 = .ok (.iload_n 3, 1) := dk_29 (byr_L_law_43 (j := 7) rfl)
theorem dL_law_696 : decode cL_law 696 = .ok (.iconst 2, 1) := dk_5 (byr_L_law_43 (j := 8) rfl)
theorem dL_law_697 : decode cL_law 697 = .ok (.iadd, 1) := dk_96 (byr_L_law_43 (j := 9) rfl)
theorem dL_law_698 : decode cL_law 698 = .ok (.iaload, 1) := dk_46 (byr_L_law_43 (j := 10) rfl)
theorem dL_law_699 : decode cL_law 699 = .ok (.invokevirtual 75, 3) := dk_182 (byr_L_law_43 (j := 11) rfl) (byr_L_law_43 (j := 12) rfl) (byr_L_law_43 (j := 13) rfl) (by decide)
theorem dL_law_702 : decode cL_law 702 = .ok (.pop, 1) := dk_87 (byr_L_law_43 (j := 14) rfl)
theorem dL_law_703 : decode cL_law 703 = .ok (.goto 848, 3) := dk_167 (byr_L_law_43 (j := 15) rfl) (byr_L_law_44 (j := 0) rfl) (byr_L_law_44 (j := 1) rfl) (by decide)
theorem dL_law_706 : decode cL_law 706 = .ok (.aload_n 1, 1) := dk_43 (byr_L_law_44 (j := 2) rfl)
theorem dL_law_707 : decode cL_law 707 = .ok (.aload_n 0, 1) := dk_42 (byr_L_law_44 (j := 3) rfl)
theorem dL_law_708 : decode cL_law 708 = .ok (.iload_n 3, 1) := dk_29 (byr_L_law_44 (j := 4) rfl)
theorem dL_law_709 : decode cL_law 709 = .ok (.iconst 1, 1) := dk_4 (byr_L_law_44 (j := 5) rfl)
theorem dL_law_710 : decode cL_law 710 = .ok (.iadd, 1) := dk_96 (byr_L_law_44 (j := 6) rfl)
theorem dL_law_711 : decode cL_law 711 = .ok (.iaload, 1) := dk_46 (byr_L_law_44 (j := 7) rfl)
theorem dL_law_712 : decode cL_law 712 = .ok (.aload_n 0, 1) := dk_42 (byr_L_law_44 (j := 8) rfl)
theorem dL_law_713 : decode cL_law 713 = .ok (.iload_n 3, 1) := dk_29 (byr_L_law_44 (j := 9) rfl)
theorem dL_law_714 : decode cL_law 714 = .ok (.iconst 2, 1) := dk_5 (byr_L_law_44 (j := 10) rfl)
theorem dL_law_715 : decode cL_law 715 = .ok (.iadd, 1) := dk_96 (byr_L_law_44 (j := 11) rfl)
theorem dL_law_716 : decode cL_law 716 = .ok (.iaload, 1) := dk_46 (byr_L_law_44 (j := 12) rfl)
theorem dL_law_717 : decode cL_law 717 = .ok (.aload_n 0, 1) := dk_42 (byr_L_law_44 (j := 13) rfl)
theorem dL_law_718 : decode cL_law 718 = .ok (.iload_n 3, 1) := dk_29 (byr_L_law_44 (j := 14) rfl)
theorem dL_law_719 : decode cL_law 719 = .ok (.iconst 3, 1) := dk_6 (byr_L_law_44 (j := 15) rfl)
theorem dL_law_720 : decode cL_law 720 = .ok (.iadd, 1) := dk_96 (byr_L_law_45 (j := 0) rfl)
theorem dL_law_721 : decode cL_law 721 = .ok (.iaload, 1) := dk_46 (byr_L_law_45 (j := 1) rfl)
theorem dL_law_722 : decode cL_law 722 = .ok (.invokevirtual 76, 3) := dk_182 (byr_L_law_45 (j := 2) rfl) (byr_L_law_45 (j := 3) rfl) (byr_L_law_45 (j := 4) rfl) (by decide)
theorem dL_law_725 : decode cL_law 725 = .ok (.pop, 1) := dk_87 (byr_L_law_45 (j := 5) rfl)
theorem dL_law_726 : decode cL_law 726 = .ok (.aload_n 2, 1) := dk_44 (byr_L_law_45 (j := 6) rfl)
theorem dL_law_727 : decode cL_law 727 = .ok (.aload_n 0, 1) := dk_42 (byr_L_law_45 (j := 7) rfl)
theorem dL_law_728 : decode cL_law 728 = .ok (.iload_n 3, 1) := dk_29 (byr_L_law_45 (j := 8) rfl)
theorem dL_law_729 : decode cL_law 729 = .ok (.iconst 1, 1) := dk_4 (byr_L_law_45 (j := 9) rfl)
theorem dL_law_730 : decode cL_law 730 = .ok (.iadd, 1) := dk_96 (byr_L_law_45 (j := 10) rfl)
theorem dL_law_731 : decode cL_law 731 = .ok (.iaload, 1) := dk_46 (byr_L_law_45 (j := 11) rfl)
theorem dL_law_732 : decode cL_law 732 = .ok (.aload_n 0, 1) := dk_42 (byr_L_law_45 (j := 12) rfl)
theorem dL_law_733 : decode cL_law 733 = .ok (.iload_n 3, 1) := dk_29 (byr_L_law_45 (j := 13) rfl)
theorem dL_law_734 : decode cL_law 734 = .ok (.iconst 2, 1) := dk_5 (byr_L_law_45 (j := 14) rfl)
theorem dL_law_735 : decode cL_law 735 = .ok (.iadd, 1) := dk_96 (byr_L_law_45 (j := 15) rfl)
theorem dL_law_736 : decode cL_law 736 = .ok (.iaload, 1) := dk_46 (byr_L_law_46 (j := 0) rfl)
theorem dL_law_737 : decode cL_law 737 = .ok (.aload_n 0, 1) := dk_42 (byr_L_law_46 (j := 1) rfl)
theorem dL_law_738 : decode cL_law 738 = .ok (.iload_n 3, 1) := dk_29 (byr_L_law_46 (j := 2) rfl)
theorem dL_law_739 : decode cL_law 739 = .ok (.iconst 3, 1) := dk_6 (byr_L_law_46 (j := 3) rfl)
theorem dL_law_740 : decode cL_law 740 = .ok (.iadd, 1) := dk_96 (byr_L_law_46 (j := 4) rfl)
theorem dL_law_741 : decode cL_law 741 = .ok (.iaload, 1) := dk_46 (byr_L_law_46 (j := 5) rfl)
theorem dL_law_742 : decode cL_law 742 = .ok (.invokevirtual 79, 3) := dk_182 (byr_L_law_46 (j := 6) rfl) (byr_L_law_46 (j := 7) rfl) (byr_L_law_46 (j := 8) rfl) (by decide)
theorem dL_law_745 : decode cL_law 745 = .ok (.pop, 1) := dk_87 (byr_L_law_46 (j := 9) rfl)
theorem dL_law_746 : decode cL_law 746 = .ok (.goto 805, 3) := dk_167 (byr_L_law_46 (j := 10) rfl) (byr_L_law_46 (j := 11) rfl) (byr_L_law_46 (j := 12) rfl) (by decide)
theorem dL_law_749 : decode cL_law 749 = .ok (.aload_n 1, 1) := dk_43 (byr_L_law_46 (j := 13) rfl)
theorem dL_law_750 : decode cL_law 750 = .ok (.aload_n 0, 1) := dk_42 (byr_L_law_46 (j := 14) rfl)
theorem dL_law_751 : decode cL_law 751 = .ok (.iload_n 3, 1) := dk_29 (byr_L_law_46 (j := 15) rfl)
theorem dL_law_752 : decode cL_law 752 = .ok (.iconst 1, 1) := dk_4 (byr_L_law_47 (j := 0) rfl)
theorem dL_law_753 : decode cL_law 753 = .ok (.iadd, 1) := dk_96 (byr_L_law_47 (j := 1) rfl)
theorem dL_law_754 : decode cL_law 754 = .ok (.iaload, 1) := dk_46 (byr_L_law_47 (j := 2) rfl)
theorem dL_law_755 : decode cL_law 755 = .ok (.aload_n 0, 1) := dk_42 (byr_L_law_47 (j := 3) rfl)
theorem dL_law_756 : decode cL_law 756 = .ok (.iload_n 3, 1) := dk_29 (byr_L_law_47 (j := 4) rfl)
theorem dL_law_757 : decode cL_law 757 = .ok (.iconst 2, 1) := dk_5 (byr_L_law_47 (j := 5) rfl)
theorem dL_law_758 : decode cL_law 758 = .ok (.iadd, 1) := dk_96 (byr_L_law_47 (j := 6) rfl)
theorem dL_law_759 : decode cL_law 759 = .ok (.iaload, 1) := dk_46 (byr_L_law_47 (j := 7) rfl)
theorem dL_law_760 : decode cL_law 760 = .ok (.invokevirtual 80, 3) := dk_182 (byr_L_law_47 (j := 8) rfl) (byr_L_law_47 (j := 9) rfl) (byr_L_law_47 (j := 10) rfl) (by decide)
theorem dL_law_763 : decode cL_law 763 = .ok (.pop, 1) := dk_87 (byr_L_law_47 (j := 11) rfl)
theorem dL_law_764 : decode cL_law 764 = .ok (.aload_n 2, 1) := dk_44 (byr_L_law_47 (j := 12) rfl)
theorem dL_law_765 : decode cL_law 765 = .ok (.aload_n 0, 1) := dk_42 (byr_L_law_47 (j := 13) rfl)
theorem dL_law_766 : decode cL_law 766 = .ok (.iload_n 3, 1) := dk_29 (byr_L_law_47 (j := 14) rfl)
theorem dL_law_767 : decode cL_law 767 = .ok (.iconst 1, 1) := dk_4 (byr_L_law_47 (j := 15) rfl)
theorem dL_law_768 : decode cL_law 768 = .ok (.iadd, 1) := dk_96 (byr_L_law_48 (j := 0) rfl)
theorem dL_law_769 : decode cL_law 769 = .ok (.iaload, 1) := dk_46 (byr_L_law_48 (j := 1) rfl)
theorem dL_law_770 : decode cL_law 770 = .ok (.aload_n 0, 1) := dk_42 (byr_L_law_48 (j := 2) rfl)
theorem dL_law_771 : decode cL_law 771 = .ok (.iload_n 3, 1) := dk_29 (byr_L_law_48 (j := 3) rfl)
theorem dL_law_772 : decode cL_law 772 = .ok (.iconst 2, 1) := dk_5 (byr_L_law_48 (j := 4) rfl)
theorem dL_law_773 : decode cL_law 773 = .ok (.iadd, 1) := dk_96 (byr_L_law_48 (j := 5) rfl)
theorem dL_law_774 : decode cL_law 774 = .ok (.iaload, 1) := dk_46 (byr_L_law_48 (j := 6) rfl)
theorem dL_law_775 : decode cL_law 775 = .ok (.invokevirtual 83, 3) := dk_182 (byr_L_law_48 (j := 7) rfl) (byr_L_law_48 (j := 8) rfl) (byr_L_law_48 (j := 9) rfl) (by decide)
theorem dL_law_778 : decode cL_law 778 = .ok (.pop, 1) := dk_87 (byr_L_law_48 (j := 10) rfl)
theorem dL_law_779 : decode cL_law 779 = .ok (.goto 772, 3) := dk_167 (byr_L_law_48 (j := 11) rfl) (byr_L_law_48 (j := 12) rfl) (byr_L_law_48 (j := 13) rfl) (by decide)
theorem dL_law_782 : decode cL_law 782 = .ok (.aload_n 1, 1) := dk_43 (byr_L_law_48 (j := 14) rfl)
theorem dL_law_783 : decode cL_law 783 = .ok (.aload_n 0, 1) := dk_42 (byr_L_law_48 (j := 15) rfl)
theorem dL_law_784 : decode cL_law 784 = .ok (.iload_n 3, 1) := dk_29 (byr_L_law_49 (j := 0) rfl)
theorem dL_law_785 : decode cL_law 785 = .ok (.iconst 1, 1) := dk_4 (byr_L_law_49 (j := 1) rfl)
theorem dL_law_786 : decode cL_law 786 = .ok (.iadd, 1) := dk_96 (byr_L_law_49 (j := 2) rfl)
theorem dL_law_787 : decode cL_law 787 = .ok (.iaload, 1) := dk_46 (byr_L_law_49 (j := 3) rfl)
theorem dL_law_788 : decode cL_law 788 = .ok (.aload_n 0, 1) := dk_42 (byr_L_law_49 (j := 4) rfl)
theorem dL_law_789 : decode cL_law 789 = .ok (.iload_n 3, 1) := dk_29 (byr_L_law_49 (j := 5) rfl)
theorem dL_law_790 : decode cL_law 790 = .ok (.iconst 2, 1) := dk_5 (byr_L_law_49 (j := 6) rfl)
theorem dL_law_791 : decode cL_law 791 = .ok (.iadd, 1) := dk_96 (byr_L_law_49 (j := 7) rfl)
theorem dL_law_792 : decode cL_law 792 = .ok (.iaload, 1) := dk_46 (byr_L_law_49 (j := 8) rfl)
theorem dL_law_793 : decode cL_law 793 = .ok (.invokevirtual 84, 3) := dk_182 (byr_L_law_49 (j := 9) rfl) (byr_L_law_49 (j := 10) rfl) (byr_L_law_49 (j := 11) rfl) (by decide)
theorem dL_law_796 : decode cL_law 796 = .ok (.pop, 1) := dk_87 (byr_L_law_49 (j := 12) rfl)
theorem dL_law_797 : decode cL_law 797 = .ok (.aload_n 2, 1) := dk_44 (byr_L_law_49 (j := 13) rfl)
theorem dL_law_798 : decode cL_law 798 = .ok (.aload_n 0, 1) := dk_42 (byr_L_law_49 (j := 14) rfl)
theorem dL_law_799 : decode cL_law 799 = .ok (.iload_n 3, 1) := dk_29 (byr_L_law_49 (j := 15) rfl)
theorem dL_law_800 : decode cL_law 800 = .ok (.iconst 1, 1) := dk_4 (byr_L_law_50 (j := 0) rfl)
theorem dL_law_801 : decode cL_law 801 = .ok (.iadd, 1) := dk_96 (byr_L_law_50 (j := 1) rfl)
theorem dL_law_802 : decode cL_law 802 = .ok (.iaload, 1) := dk_46 (byr_L_law_50 (j := 2) rfl)
theorem dL_law_803 : decode cL_law 803 = .ok (.aload_n 0, 1) := dk_42 (byr_L_law_50 (j := 3) rfl)
theorem dL_law_804 : decode cL_law 804 = .ok (.iload_n 3, 1) := dk_29 (byr_L_law_50 (j := 4) rfl)
theorem dL_law_805 : decode cL_law 805 = .ok (.iconst 2, 1) := dk_5 (byr_L_law_50 (j := 5) rfl)
theorem dL_law_806 : decode cL_law 806 = .ok (.iadd, 1) := dk_96 (byr_L_law_50 (j := 6) rfl)
theorem dL_law_807 : decode cL_law 807 = .ok (.iaload, 1) := dk_46 (byr_L_law_50 (j := 7) rfl)
theorem dL_law_808 : decode cL_law 808 = .ok (.invokevirtual 87, 3) := dk_182 (byr_L_law_50 (j := 8) rfl) (byr_L_law_50 (j := 9) rfl) (byr_L_law_50 (j := 10) rfl) (by decide)
theorem dL_law_811 : decode cL_law 811 = .ok (.pop, 1) := dk_87 (byr_L_law_50 (j := 11) rfl)
theorem dL_law_812 : decode cL_law 812 = .ok (.goto 739, 3) := dk_167 (byr_L_law_50 (j := 12) rfl) (byr_L_law_50 (j := 13) rfl) (byr_L_law_50 (j := 14) rfl) (by decide)
theorem dL_law_815 : decode cL_law 815 = .ok (.aload_n 1, 1) := dk_43 (byr_L_law_50 (j := 15) rfl)
theorem dL_law_816 : decode cL_law 816 = .ok (.aload_n 0, 1) := dk_42 (byr_L_law_51 (j := 0) rfl)
theorem dL_law_817 : decode cL_law 817 = .ok (.iload_n 3, 1) := dk_29 (byr_L_law_51 (j := 1) rfl)
theorem dL_law_818 : decode cL_law 818 = .ok (.iconst 1, 1) := dk_4 (byr_L_law_51 (j := 2) rfl)
theorem dL_law_819 : decode cL_law 819 = .ok (.iadd, 1) := dk_96 (byr_L_law_51 (j := 3) rfl)
theorem dL_law_820 : decode cL_law 820 = .ok (.iaload, 1) := dk_46 (byr_L_law_51 (j := 4) rfl)
theorem dL_law_821 : decode cL_law 821 = .ok (.aload_n 0, 1) := dk_42 (byr_L_law_51 (j := 5) rfl)
theorem dL_law_822 : decode cL_law 822 = .ok (.iload_n 3, 1) := dk_29 (byr_L_law_51 (j := 6) rfl)
theorem dL_law_823 : decode cL_law 823 = .ok (.iconst 2, 1) := dk_5 (byr_L_law_51 (j := 7) rfl)
theorem dL_law_824 : decode cL_law 824 = .ok (.iadd, 1) := dk_96 (byr_L_law_51 (j := 8) rfl)
theorem dL_law_825 : decode cL_law 825 = .ok (.iaload, 1) := dk_46 (byr_L_law_51 (j := 9) rfl)
theorem dL_law_826 : decode cL_law 826 = .ok (.aload_n 0, 1) := dk_42 (byr_L_law_51 (j := 10) rfl)
theorem dL_law_827 : decode cL_law 827 = .ok (.iload_n 3, 1) := dk_29 (byr_L_law_51 (j := 11) rfl)
theorem dL_law_828 : decode cL_law 828 = .ok (.iconst 3, 1) := dk_6 (byr_L_law_51 (j := 12) rfl)
theorem dL_law_829 : decode cL_law 829 = .ok (.iadd, 1) := dk_96 (byr_L_law_51 (j := 13) rfl)
theorem dL_law_830 : decode cL_law 830 = .ok (.iaload, 1) := dk_46 (byr_L_law_51 (j := 14) rfl)
theorem dL_law_831 : decode cL_law 831 = .ok (.invokevirtual 88, 3) := dk_182 (byr_L_law_51 (j := 15) rfl) (byr_L_law_52 (j := 0) rfl) (byr_L_law_52 (j := 1) rfl) (by decide)
theorem dL_law_834 : decode cL_law 834 = .ok (.pop, 1) := dk_87 (byr_L_law_52 (j := 2) rfl)
theorem dL_law_835 : decode cL_law 835 = .ok (.aload_n 2, 1) := dk_44 (byr_L_law_52 (j := 3) rfl)
theorem dL_law_836 : decode cL_law 836 = .ok (.aload_n 0, 1) := dk_42 (byr_L_law_52 (j := 4) rfl)
theorem dL_law_837 : decode cL_law 837 = .ok (.iload_n 3, 1) := dk_29 (byr_L_law_52 (j := 5) rfl)
theorem dL_law_838 : decode cL_law 838 = .ok (.iconst 1, 1) := dk_4 (byr_L_law_52 (j := 6) rfl)
theorem dL_law_839 : decode cL_law 839 = .ok (.iadd, 1) := dk_96 (byr_L_law_52 (j := 7) rfl)
theorem dL_law_840 : decode cL_law 840 = .ok (.iaload, 1) := dk_46 (byr_L_law_52 (j := 8) rfl)
theorem dL_law_841 : decode cL_law 841 = .ok (.aload_n 0, 1) := dk_42 (byr_L_law_52 (j := 9) rfl)
theorem dL_law_842 : decode cL_law 842 = .ok (.iload_n 3, 1) := dk_29 (byr_L_law_52 (j := 10) rfl)
theorem dL_law_843 : decode cL_law 843 = .ok (.iconst 2, 1) := dk_5 (byr_L_law_52 (j := 11) rfl)
theorem dL_law_844 : decode cL_law 844 = .ok (.iadd, 1) := dk_96 (byr_L_law_52 (j := 12) rfl)
theorem dL_law_845 : decode cL_law 845 = .ok (.iaload, 1) := dk_46 (byr_L_law_52 (j := 13) rfl)
theorem dL_law_846 : decode cL_law 846 = .ok (.aload_n 0, 1) := dk_42 (byr_L_law_52 (j := 14) rfl)
theorem dL_law_847 : decode cL_law 847 = .ok (.iload_n 3, 1) := dk_29 (byr_L_law_52 (j := 15) rfl)
theorem dL_law_848 : decode cL_law 848 = .ok (.iconst 3, 1) := dk_6 (byr_L_law_53 (j := 0) rfl)
theorem dL_law_849 : decode cL_law 849 = .ok (.iadd, 1) := dk_96 (byr_L_law_53 (j := 1) rfl)
theorem dL_law_850 : decode cL_law 850 = .ok (.iaload, 1) := dk_46 (byr_L_law_53 (j := 2) rfl)
theorem dL_law_851 : decode cL_law 851 = .ok (.invokevirtual 91, 3) := dk_182 (byr_L_law_53 (j := 3) rfl) (byr_L_law_53 (j := 4) rfl) (byr_L_law_53 (j := 5) rfl) (by decide)
theorem dL_law_854 : decode cL_law 854 = .ok (.pop, 1) := dk_87 (byr_L_law_53 (j := 6) rfl)
theorem dL_law_855 : decode cL_law 855 = .ok (.goto 696, 3) := dk_167 (byr_L_law_53 (j := 7) rfl) (byr_L_law_53 (j := 8) rfl) (byr_L_law_53 (j := 9) rfl) (by decide)
theorem dL_law_858 : decode cL_law 858 = .ok (.aload_n 1, 1) := dk_43 (byr_L_law_53 (j := 10) rfl)
theorem dL_law_859 : decode cL_law 859 = .ok (.aload_n 0, 1) := dk_42 (byr_L_law_53 (j := 11) rfl)
theorem dL_law_860 : decode cL_law 860 = .ok (.iload_n 3, 1) := dk_29 (byr_L_law_53 (j := 12) rfl)
theorem dL_law_861 : decode cL_law 861 = .ok (.iconst 1, 1) := dk_4 (byr_L_law_53 (j := 13) rfl)
theorem dL_law_862 : decode cL_law 862 = .ok (.iadd, 1) := dk_96 (byr_L_law_53 (j := 14) rfl)
theorem dL_law_863 : decode cL_law 863 = .ok (.iaload, 1) := dk_46 (byr_L_law_53 (j := 15) rfl)
theorem dL_law_864 : decode cL_law 864 = .ok (.aload_n 0, 1) := dk_42 (byr_L_law_54 (j := 0) rfl)
theorem dL_law_865 : decode cL_law 865 = .ok (.iload_n 3, 1) := dk_29 (byr_L_law_54 (j := 1) rfl)
theorem dL_law_866 : decode cL_law 866 = .ok (.iconst 2, 1) := dk_5 (byr_L_law_54 (j := 2) rfl)
theorem dL_law_867 : decode cL_law 867 = .ok (.iadd, 1) := dk_96 (byr_L_law_54 (j := 3) rfl)
theorem dL_law_868 : decode cL_law 868 = .ok (.iaload, 1) := dk_46 (byr_L_law_54 (j := 4) rfl)
theorem dL_law_869 : decode cL_law 869 = .ok (.aload_n 0, 1) := dk_42 (byr_L_law_54 (j := 5) rfl)
theorem dL_law_870 : decode cL_law 870 = .ok (.iload_n 3, 1) := dk_29 (byr_L_law_54 (j := 6) rfl)
theorem dL_law_871 : decode cL_law 871 = .ok (.iconst 3, 1) := dk_6 (byr_L_law_54 (j := 7) rfl)
theorem dL_law_872 : decode cL_law 872 = .ok (.iadd, 1) := dk_96 (byr_L_law_54 (j := 8) rfl)
theorem dL_law_873 : decode cL_law 873 = .ok (.iaload, 1) := dk_46 (byr_L_law_54 (j := 9) rfl)
theorem dL_law_874 : decode cL_law 874 = .ok (.invokevirtual 92, 3) := dk_182 (byr_L_law_54 (j := 10) rfl) (byr_L_law_54 (j := 11) rfl) (byr_L_law_54 (j := 12) rfl) (by decide)
theorem dL_law_877 : decode cL_law 877 = .ok (.pop, 1) := dk_87 (byr_L_law_54 (j := 13) rfl)
theorem dL_law_878 : decode cL_law 878 = .ok (.aload_n 2, 1) := dk_44 (byr_L_law_54 (j := 14) rfl)
theorem dL_law_879 : decode cL_law 879 = .ok (.aload_n 0, 1) := dk_42 (byr_L_law_54 (j := 15) rfl)
theorem dL_law_880 : decode cL_law 880 = .ok (.iload_n 3, 1) := dk_29 (byr_L_law_55 (j := 0) rfl)
theorem dL_law_881 : decode cL_law 881 = .ok (.iconst 1, 1) := dk_4 (byr_L_law_55 (j := 1) rfl)
theorem dL_law_882 : decode cL_law 882 = .ok (.iadd, 1) := dk_96 (byr_L_law_55 (j := 2) rfl)
theorem dL_law_883 : decode cL_law 883 = .ok (.iaload, 1) := dk_46 (byr_L_law_55 (j := 3) rfl)
theorem dL_law_884 : decode cL_law 884 = .ok (.aload_n 0, 1) := dk_42 (byr_L_law_55 (j := 4) rfl)
theorem dL_law_885 : decode cL_law 885 = .ok (.iload_n 3, 1) := dk_29 (byr_L_law_55 (j := 5) rfl)
theorem dL_law_886 : decode cL_law 886 = .ok (.iconst 2, 1) := dk_5 (byr_L_law_55 (j := 6) rfl)
theorem dL_law_887 : decode cL_law 887 = .ok (.iadd, 1) := dk_96 (byr_L_law_55 (j := 7) rfl)
theorem dL_law_888 : decode cL_law 888 = .ok (.iaload, 1) := dk_46 (byr_L_law_55 (j := 8) rfl)
theorem dL_law_889 : decode cL_law 889 = .ok (.aload_n 0, 1) := dk_42 (byr_L_law_55 (j := 9) rfl)
theorem dL_law_890 : decode cL_law 890 = .ok (.iload_n 3, 1) := dk_29 (byr_L_law_55 (j := 10) rfl)
theorem dL_law_891 : decode cL_law 891 = .ok (.iconst 3, 1) := dk_6 (byr_L_law_55 (j := 11) rfl)
theorem dL_law_892 : decode cL_law 892 = .ok (.iadd, 1) := dk_96 (byr_L_law_55 (j := 12) rfl)
theorem dL_law_893 : decode cL_law 893 = .ok (.iaload, 1) := dk_46 (byr_L_law_55 (j := 13) rfl)
theorem dL_law_894 : decode cL_law 894 = .ok (.invokevirtual 95, 3) := dk_182 (byr_L_law_55 (j := 14) rfl) (byr_L_law_55 (j := 15) rfl) (byr_L_law_56 (j := 0) rfl) (by decide)
theorem dL_law_897 : decode cL_law 897 = .ok (.pop, 1) := dk_87 (byr_L_law_56 (j := 1) rfl)
theorem dL_law_898 : decode cL_law 898 = .ok (.goto 653, 3) := dk_167 (byr_L_law_56 (j := 2) rfl) (byr_L_law_56 (j := 3) rfl) (byr_L_law_56 (j := 4) rfl) (by decide)
theorem dL_law_901 : decode cL_law 901 = .ok (.aload_n 1, 1) := dk_43 (byr_L_law_56 (j := 5) rfl)
theorem dL_law_902 : decode cL_law 902 = .ok (.aload_n 0, 1) := dk_42 (byr_L_law_56 (j := 6) rfl)
theorem dL_law_903 : decode cL_law 903 = .ok (.iload_n 3, 1) := dk_29 (byr_L_law_56 (j := 7) rfl)
theorem dL_law_904 : decode cL_law 904 = .ok (.iconst 1, 1) := dk_4 (byr_L_law_56 (j := 8) rfl)
theorem dL_law_905 : decode cL_law 905 = .ok (.iadd, 1) := dk_96 (byr_L_law_56 (j := 9) rfl)
theorem dL_law_906 : decode cL_law 906 = .ok (.iaload, 1) := dk_46 (byr_L_law_56 (j := 10) rfl)
theorem dL_law_907 : decode cL_law 907 = .ok (.aload_n 0, 1) := dk_42 (byr_L_law_56 (j := 11) rfl)
theorem dL_law_908 : decode cL_law 908 = .ok (.iload_n 3, 1) := dk_29 (byr_L_law_56 (j := 12) rfl)
theorem dL_law_909 : decode cL_law 909 = .ok (.iconst 2, 1) := dk_5 (byr_L_law_56 (j := 13) rfl)
theorem dL_law_910 : decode cL_law 910 = .ok (.iadd, 1) := dk_96 (byr_L_law_56 (j := 14) rfl)
theorem dL_law_911 : decode cL_law 911 = .ok (.iaload, 1) := dk_46 (byr_L_law_56 (j := 15) rfl)
theorem dL_law_912 : decode cL_law 912 = .ok (.invokevirtual 96, 3) := dk_182 (byr_L_law_57 (j := 0) rfl) (byr_L_law_57 (j := 1) rfl) (byr_L_law_57 (j := 2) rfl) (by decide)
theorem dL_law_915 : decode cL_law 915 = .ok (.pop, 1) := dk_87 (byr_L_law_57 (j := 3) rfl)
theorem dL_law_916 : decode cL_law 916 = .ok (.aload_n 2, 1) := dk_44 (byr_L_law_57 (j := 4) rfl)
theorem dL_law_917 : decode cL_law 917 = .ok (.aload_n 0, 1) := dk_42 (byr_L_law_57 (j := 5) rfl)
theorem dL_law_918 : decode cL_law 918 = .ok (.iload_n 3, 1) := dk_29 (byr_L_law_57 (j := 6) rfl)
theorem dL_law_919 : decode cL_law 919 = .ok (.iconst 1, 1) := dk_4 (byr_L_law_57 (j := 7) rfl)
theorem dL_law_920 : decode cL_law 920 = .ok (.iadd, 1) := dk_96 (byr_L_law_57 (j := 8) rfl)
theorem dL_law_921 : decode cL_law 921 = .ok (.iaload, 1) := dk_46 (byr_L_law_57 (j := 9) rfl)
theorem dL_law_922 : decode cL_law 922 = .ok (.aload_n 0, 1) := dk_42 (byr_L_law_57 (j := 10) rfl)
theorem dL_law_923 : decode cL_law 923 = .ok (.iload_n 3, 1) := dk_29 (byr_L_law_57 (j := 11) rfl)
theorem dL_law_924 : decode cL_law 924 = .ok (.iconst 2, 1) := dk_5 (byr_L_law_57 (j := 12) rfl)
theorem dL_law_925 : decode cL_law 925 = .ok (.iadd, 1) := dk_96 (byr_L_law_57 (j := 13) rfl)
theorem dL_law_926 : decode cL_law 926 = .ok (.iaload, 1) := dk_46 (byr_L_law_57 (j := 14) rfl)
theorem dL_law_927 : decode cL_law 927 = .ok (.invokevirtual 99, 3) := dk_182 (byr_L_law_57 (j := 15) rfl) (byr_L_law_58 (j := 0) rfl) (byr_L_law_58 (j := 1) rfl) (by decide)
theorem dL_law_930 : decode cL_law 930 = .ok (.pop, 1) := dk_87 (byr_L_law_58 (j := 2) rfl)
theorem dL_law_931 : decode cL_law 931 = .ok (.goto 620, 3) := dk_167 (byr_L_law_58 (j := 3) rfl) (byr_L_law_58 (j := 4) rfl) (byr_L_law_58 (j := 5) rfl) (by decide)
theorem dL_law_934 : decode cL_law 934 = .ok (.aload_n 1, 1) := dk_43 (byr_L_law_58 (j := 6) rfl)
theorem dL_law_935 : decode cL_law 935 = .ok (.aload_n 0, 1) := dk_42 (byr_L_law_58 (j := 7) rfl)
theorem dL_law_936 : decode cL_law 936 = .ok (.iload_n 3, 1) := dk_29 (byr_L_law_58 (j := 8) rfl)
theorem dL_law_937 : decode cL_law 937 = .ok (.iconst 1, 1) := dk_4 (byr_L_law_58 (j := 9) rfl)
theorem dL_law_938 : decode cL_law 938 = .ok (.iadd, 1) := dk_96 (byr_L_law_58 (j := 10) rfl)
theorem dL_law_939 : decode cL_law 939 = .ok (.iaload, 1) := dk_46 (byr_L_law_58 (j := 11) rfl)
theorem dL_law_940 : decode cL_law 940 = .ok (.aload_n 0, 1) := dk_42 (byr_L_law_58 (j := 12) rfl)
theorem dL_law_941 : decode cL_law 941 = .ok (.iload_n 3, 1) := dk_29 (byr_L_law_58 (j := 13) rfl)
theorem dL_law_942 : decode cL_law 942 = .ok (.iconst 2, 1) := dk_5 (byr_L_law_58 (j := 14) rfl)
theorem dL_law_943 : decode cL_law 943 = .ok (.iadd, 1) := dk_96 (byr_L_law_58 (j := 15) rfl)
theorem dL_law_944 : decode cL_law 944 = .ok (.iaload, 1) := dk_46 (byr_L_law_59 (j := 0) rfl)
theorem dL_law_945 : decode cL_law 945 = .ok (.invokevirtual 100, 3) := dk_182 (byr_L_law_59 (j := 1) rfl) (byr_L_law_59 (j := 2) rfl) (byr_L_law_59 (j := 3) rfl) (by decide)
theorem dL_law_948 : decode cL_law 948 = .ok (.pop, 1) := dk_87 (byr_L_law_59 (j := 4) rfl)
theorem dL_law_949 : decode cL_law 949 = .ok (.aload_n 2, 1) := dk_44 (byr_L_law_59 (j := 5) rfl)
theorem dL_law_950 : decode cL_law 950 = .ok (.aload_n 0, 1) := dk_42 (byr_L_law_59 (j := 6) rfl)
theorem dL_law_951 : decode cL_law 951 = .ok (.iload_n 3, 1) := dk_29 (byr_L_law_59 (j := 7) rfl)
theorem dL_law_952 : decode cL_law 952 = .ok (.iconst 1, 1) := dk_4 (byr_L_law_59 (j := 8) rfl)
theorem dL_law_953 : decode cL_law 953 = .ok (.iadd, 1) := dk_96 (byr_L_law_59 (j := 9) rfl)
theorem dL_law_954 : decode cL_law 954 = .ok (.iaload, 1) := dk_46 (byr_L_law_59 (j := 10) rfl)
theorem dL_law_955 : decode cL_law 955 = .ok (.aload_n 0, 1) := dk_42 (byr_L_law_59 (j := 11) rfl)
theorem dL_law_956 : decode cL_law 956 = .ok (.iload_n 3, 1) := dk_29 (byr_L_law_59 (j := 12) rfl)
theorem dL_law_957 : decode cL_law 957 = .ok (.iconst 2, 1) := dk_5 (byr_L_law_59 (j := 13) rfl)
theorem dL_law_958 : decode cL_law 958 = .ok (.iadd, 1) := dk_96 (byr_L_law_59 (j := 14) rfl)
theorem dL_law_959 : decode cL_law 959 = .ok (.iaload, 1) := dk_46 (byr_L_law_59 (j := 15) rfl)
theorem dL_law_960 : decode cL_law 960 = .ok (.invokevirtual 103, 3) := dk_182 (byr_L_law_60 (j := 0) rfl) (byr_L_law_60 (j := 1) rfl) (byr_L_law_60 (j := 2) rfl) (by decide)
theorem dL_law_963 : decode cL_law 963 = .ok (.pop, 1) := dk_87 (byr_L_law_60 (j := 3) rfl)
theorem dL_law_964 : decode cL_law 964 = .ok (.goto 587, 3) := dk_167 (byr_L_law_60 (j := 4) rfl) (byr_L_law_60 (j := 5) rfl) (byr_L_law_60 (j := 6) rfl) (by decide)
theorem dL_law_967 : decode cL_law 967 = .ok (.aload_n 1, 1) := dk_43 (byr_L_law_60 (j := 7) rfl)
theorem dL_law_968 : decode cL_law 968 = .ok (.aload_n 0, 1) := dk_42 (byr_L_law_60 (j := 8) rfl)
theorem dL_law_969 : decode cL_law 969 = .ok (.iload_n 3, 1) := dk_29 (byr_L_law_60 (j := 9) rfl)
theorem dL_law_970 : decode cL_law 970 = .ok (.iconst 1, 1) := dk_4 (byr_L_law_60 (j := 10) rfl)
theorem dL_law_971 : decode cL_law 971 = .ok (.iadd, 1) := dk_96 (byr_L_law_60 (j := 11) rfl)
theorem dL_law_972 : decode cL_law 972 = .ok (.iaload, 1) := dk_46 (byr_L_law_60 (j := 12) rfl)
theorem dL_law_973 : decode cL_law 973 = .ok (.invokevirtual 104, 3) := dk_182 (byr_L_law_60 (j := 13) rfl) (byr_L_law_60 (j := 14) rfl) (byr_L_law_60 (j := 15) rfl) (by decide)
theorem dL_law_976 : decode cL_law 976 = .ok (.pop, 1) := dk_87 (byr_L_law_61 (j := 0) rfl)
theorem dL_law_977 : decode cL_law 977 = .ok (.aload_n 2, 1) := dk_44 (byr_L_law_61 (j := 1) rfl)
theorem dL_law_978 : decode cL_law 978 = .ok (.aload_n 0, 1) := dk_42 (byr_L_law_61 (j := 2) rfl)
theorem dL_law_979 : decode cL_law 979 = .ok (.iload_n 3, 1) := dk_29 (byr_L_law_61 (j := 3) rfl)
theorem dL_law_980 : decode cL_law 980 = .ok (.iconst 1, 1) := dk_4 (byr_L_law_61 (j := 4) rfl)
theorem dL_law_981 : decode cL_law 981 = .ok (.iadd, 1) := dk_96 (byr_L_law_61 (j := 5) rfl)
theorem dL_law_982 : decode cL_law 982 = .ok (.iaload, 1) := dk_46 (byr_L_law_61 (j := 6) rfl)
theorem dL_law_983 : decode cL_law 983 = .ok (.invokevirtual 107, 3) := dk_182 (byr_L_law_61 (j := 7) rfl) (byr_L_law_61 (j := 8) rfl) (byr_L_law_61 (j := 9) rfl) (by decide)
theorem dL_law_986 : decode cL_law 986 = .ok (.pop, 1) := dk_87 (byr_L_law_61 (j := 10) rfl)
theorem dL_law_987 : decode cL_law 987 = .ok (.goto 564, 3) := dk_167 (byr_L_law_61 (j := 11) rfl) (byr_L_law_61 (j := 12) rfl) (byr_L_law_61 (j := 13) rfl) (by decide)
theorem dL_law_990 : decode cL_law 990 = .ok (.aload_n 1, 1) := dk_43 (byr_L_law_61 (j := 14) rfl)
theorem dL_law_991 : decode cL_law 991 = .ok (.aload_n 0, 1) := dk_42 (byr_L_law_61 (j := 15) rfl)
theorem dL_law_992 : decode cL_law 992 = .ok (.iload_n 3, 1) := dk_29 (byr_L_law_62 (j := 0) rfl)
theorem dL_law_993 : decode cL_law 993 = .ok (.iconst 1, 1) := dk_4 (byr_L_law_62 (j := 1) rfl)
theorem dL_law_994 : decode cL_law 994 = .ok (.iadd, 1) := dk_96 (byr_L_law_62 (j := 2) rfl)
theorem dL_law_995 : decode cL_law 995 = .ok (.iaload, 1) := dk_46 (byr_L_law_62 (j := 3) rfl)
theorem dL_law_996 : decode cL_law 996 = .ok (.aload_n 0, 1) := dk_42 (byr_L_law_62 (j := 4) rfl)
theorem dL_law_997 : decode cL_law 997 = .ok (.iload_n 3, 1) := dk_29 (byr_L_law_62 (j := 5) rfl)
theorem dL_law_998 : decode cL_law 998 = .ok (.iconst 2, 1) := dk_5 (byr_L_law_62 (j := 6) rfl)
theorem dL_law_999 : decode cL_law 999 = .ok (.iadd, 1) := dk_96 (byr_L_law_62 (j := 7) rfl)
theorem dL_law_1000 : decode cL_law 1000 = .ok (.iaload, 1) := dk_46 (byr_L_law_62 (j := 8) rfl)
theorem dL_law_1001 : decode cL_law 1001 = .ok (.aload_n 0, 1) := dk_42 (byr_L_law_62 (j := 9) rfl)
theorem dL_law_1002 : decode cL_law 1002 = .ok (.iload_n 3, 1) := dk_29 (byr_L_law_62 (j := 10) rfl)
theorem dL_law_1003 : decode cL_law 1003 = .ok (.iconst 3, 1) := dk_6 (byr_L_law_62 (j := 11) rfl)
theorem dL_law_1004 : decode cL_law 1004 = .ok (.iadd, 1) := dk_96 (byr_L_law_62 (j := 12) rfl)
theorem dL_law_1005 : decode cL_law 1005 = .ok (.iaload, 1) := dk_46 (byr_L_law_62 (j := 13) rfl)
theorem dL_law_1006 : decode cL_law 1006 = .ok (.aload_n 0, 1) := dk_42 (byr_L_law_62 (j := 14) rfl)
theorem dL_law_1007 : decode cL_law 1007 = .ok (.iload_n 3, 1) := dk_29 (byr_L_law_62 (j := 15) rfl)
theorem dL_law_1008 : decode cL_law 1008 = .ok (.iconst 4, 1) := dk_7 (byr_L_law_63 (j := 0) rfl)
theorem dL_law_1009 : decode cL_law 1009 = .ok (.iadd, 1) := dk_96 (byr_L_law_63 (j := 1) rfl)
theorem dL_law_1010 : decode cL_law 1010 = .ok (.iaload, 1) := dk_46 (byr_L_law_63 (j := 2) rfl)
theorem dL_law_1011 : decode cL_law 1011 = .ok (.aload_n 0, 1) := dk_42 (byr_L_law_63 (j := 3) rfl)
theorem dL_law_1012 : decode cL_law 1012 = .ok (.iload_n 3, 1) := dk_29 (byr_L_law_63 (j := 4) rfl)
theorem dL_law_1013 : decode cL_law 1013 = .ok (.iconst 5, 1) := dk_8 (byr_L_law_63 (j := 5) rfl)
theorem dL_law_1014 : decode cL_law 1014 = .ok (.iadd, 1) := dk_96 (byr_L_law_63 (j := 6) rfl)
theorem dL_law_1015 : decode cL_law 1015 = .ok (.iaload, 1) := dk_46 (byr_L_law_63 (j := 7) rfl)
theorem dL_law_1016 : decode cL_law 1016 = .ok (.invokevirtual 108, 3) := dk_182 (byr_L_law_63 (j := 8) rfl) (byr_L_law_63 (j := 9) rfl) (byr_L_law_63 (j := 10) rfl) (by decide)
theorem dL_law_1019 : decode cL_law 1019 = .ok (.pop, 1) := dk_87 (byr_L_law_63 (j := 11) rfl)
theorem dL_law_1020 : decode cL_law 1020 = .ok (.aload_n 2, 1) := dk_44 (byr_L_law_63 (j := 12) rfl)
theorem dL_law_1021 : decode cL_law 1021 = .ok (.aload_n 0, 1) := dk_42 (byr_L_law_63 (j := 13) rfl)
theorem dL_law_1022 : decode cL_law 1022 = .ok (.iload_n 3, 1) := dk_29 (byr_L_law_63 (j := 14) rfl)
theorem dL_law_1023 : decode cL_law 1023 = .ok (.iconst 1, 1) := dk_4 (byr_L_law_63 (j := 15) rfl)
theorem dL_law_1024 : decode cL_law 1024 = .ok (.iadd, 1) := dk_96 (byr_L_law_64 (j := 0) rfl)
theorem dL_law_1025 : decode cL_law 1025 = .ok (.iaload, 1) := dk_46 (byr_L_law_64 (j := 1) rfl)
theorem dL_law_1026 : decode cL_law 1026 = .ok (.aload_n 0, 1) := dk_42 (byr_L_law_64 (j := 2) rfl)
theorem dL_law_1027 : decode cL_law 1027 = .ok (.iload_n 3, 1) := dk_29 (byr_L_law_64 (j := 3) rfl)
theorem dL_law_1028 : decode cL_law 1028 = .ok (.iconst 2, 1) := dk_5 (byr_L_law_64 (j := 4) rfl)
theorem dL_law_1029 : decode cL_law 1029 = .ok (.iadd, 1) := dk_96 (byr_L_law_64 (j := 5) rfl)
theorem dL_law_1030 : decode cL_law 1030 = .ok (.iaload, 1) := dk_46 (byr_L_law_64 (j := 6) rfl)
theorem dL_law_1031 : decode cL_law 1031 = .ok (.aload_n 0, 1) := dk_42 (byr_L_law_64 (j := 7) rfl)
theorem dL_law_1032 : decode cL_law 1032 = .ok (.iload_n 3, 1) := dk_29 (byr_L_law_64 (j := 8) rfl)
theorem dL_law_1033 : decode cL_law 1033 = .ok (.iconst 3, 1) := dk_6 (byr_L_law_64 (j := 9) rfl)
theorem dL_law_1034 : decode cL_law 1034 = .ok (.iadd, 1) := dk_96 (byr_L_law_64 (j := 10) rfl)
theorem dL_law_1035 : decode cL_law 1035 = .ok (.iaload, 1) := dk_46 (byr_L_law_64 (j := 11) rfl)
theorem dL_law_1036 : decode cL_law 1036 = .ok (.aload_n 0, 1) := dk_42 (byr_L_law_64 (j := 12) rfl)
theorem dL_law_1037 : decode cL_law 1037 = .ok (.iload_n 3, 1) := dk_29 (byr_L_law_64 (j := 13) rfl)
theorem dL_law_1038 : decode cL_law 1038 = .ok (.iconst 4, 1) := dk_7 (byr_L_law_64 (j := 14) rfl)
theorem dL_law_1039 : decode cL_law 1039 = .ok (.iadd, 1) := dk_96 (byr_L_law_64 (j := 15) rfl)
theorem dL_law_1040 : decode cL_law 1040 = .ok (.iaload, 1) := dk_46 (byr_L_law_65 (j := 0) rfl)
theorem dL_law_1041 : decode cL_law 1041 = .ok (.aload_n 0, 1) := dk_42 (byr_L_law_65 (j := 1) rfl)
theorem dL_law_1042 : decode cL_law 1042 = .ok (.iload_n 3, 1) := dk_29 (byr_L_law_65 (j := 2) rfl)
theorem dL_law_1043 : decode cL_law 1043 = .ok (.iconst 5, 1) := dk_8 (byr_L_law_65 (j := 3) rfl)
theorem dL_law_1044 : decode cL_law 1044 = .ok (.iadd, 1) := dk_96 (byr_L_law_65 (j := 4) rfl)
theorem dL_law_1045 : decode cL_law 1045 = .ok (.iaload, 1) := dk_46 (byr_L_law_65 (j := 5) rfl)
theorem dL_law_1046 : decode cL_law 1046 = .ok (.invokevirtual 112, 3) := dk_182 (byr_L_law_65 (j := 6) rfl) (byr_L_law_65 (j := 7) rfl) (byr_L_law_65 (j := 8) rfl) (by decide)
theorem dL_law_1049 : decode cL_law 1049 = .ok (.pop, 1) := dk_87 (byr_L_law_65 (j := 9) rfl)
theorem dL_law_1050 : decode cL_law 1050 = .ok (.goto 501, 3) := dk_167 (byr_L_law_65 (j := 10) rfl) (byr_L_law_65 (j := 11) rfl) (byr_L_law_65 (j := 12) rfl) (by decide)
theorem dL_law_1053 : decode cL_law 1053 = .ok (.aload_n 1, 1) := dk_43 (byr_L_law_65 (j := 13) rfl)
theorem dL_law_1054 : decode cL_law 1054 = .ok (.aload_n 0, 1) := dk_42 (byr_L_law_65 (j := 14) rfl)
theorem dL_law_1055 : decode cL_law 1055 = .ok (.iload_n 3, 1) := dk_29 (byr_L_law_65 (j := 15) rfl)
theorem dL_law_1056 : decode cL_law 1056 = .ok (.iconst 1, 1) := dk_4 (byr_L_law_66 (j := 0) rfl)
theorem dL_law_1057 : decode cL_law 1057 = .ok (.iadd, 1) := dk_96 (byr_L_law_66 (j := 1) rfl)
theorem dL_law_1058 : decode cL_law 1058 = .ok (.iaload, 1) := dk_46 (byr_L_law_66 (j := 2) rfl)
theorem dL_law_1059 : decode cL_law 1059 = .ok (.aload_n 0, 1) := dk_42 (byr_L_law_66 (j := 3) rfl)
theorem dL_law_1060 : decode cL_law 1060 = .ok (.iload_n 3, 1) := dk_29 (byr_L_law_66 (j := 4) rfl)
theorem dL_law_1061 : decode cL_law 1061 = .ok (.iconst 2, 1) := dk_5 (byr_L_law_66 (j := 5) rfl)
theorem dL_law_1062 : decode cL_law 1062 = .ok (.iadd, 1) := dk_96 (byr_L_law_66 (j := 6) rfl)
theorem dL_law_1063 : decode cL_law 1063 = .ok (.iaload, 1) := dk_46 (byr_L_law_66 (j := 7) rfl)
theorem dL_law_1064 : decode cL_law 1064 = .ok (.aload_n 0, 1) := dk_42 (byr_L_law_66 (j := 8) rfl)
theorem dL_law_1065 : decode cL_law 1065 = .ok (.iload_n 3, 1) := dk_29 (byr_L_law_66 (j := 9) rfl)
theorem dL_law_1066 : decode cL_law 1066 = .ok (.iconst 3, 1) := dk_6 (byr_L_law_66 (j := 10) rfl)
theorem dL_law_1067 : decode cL_law 1067 = .ok (.iadd, 1) := dk_96 (byr_L_law_66 (j := 11) rfl)
theorem dL_law_1068 : decode cL_law 1068 = .ok (.iaload, 1) := dk_46 (byr_L_law_66 (j := 12) rfl)
theorem dL_law_1069 : decode cL_law 1069 = .ok (.invokevirtual 113, 3) := dk_182 (byr_L_law_66 (j := 13) rfl) (byr_L_law_66 (j := 14) rfl) (byr_L_law_66 (j := 15) rfl) (by decide)
theorem dL_law_1072 : decode cL_law 1072 = .ok (.pop, 1) := dk_87 (byr_L_law_67 (j := 0) rfl)
theorem dL_law_1073 : decode cL_law 1073 = .ok (.aload_n 2, 1) := dk_44 (byr_L_law_67 (j := 1) rfl)
theorem dL_law_1074 : decode cL_law 1074 = .ok (.aload_n 0, 1) := dk_42 (byr_L_law_67 (j := 2) rfl)
theorem dL_law_1075 : decode cL_law 1075 = .ok (.iload_n 3, 1) := dk_29 (byr_L_law_67 (j := 3) rfl)
theorem dL_law_1076 : decode cL_law 1076 = .ok (.iconst 1, 1) := dk_4 (byr_L_law_67 (j := 4) rfl)
theorem dL_law_1077 : decode cL_law 1077 = .ok (.iadd, 1) := dk_96 (byr_L_law_67 (j := 5) rfl)
theorem dL_law_1078 : decode cL_law 1078 = .ok (.iaload, 1) := dk_46 (byr_L_law_67 (j := 6) rfl)
theorem dL_law_1079 : decode cL_law 1079 = .ok (.aload_n 0, 1) := dk_42 (byr_L_law_67 (j := 7) rfl)
theorem dL_law_1080 : decode cL_law 1080 = .ok (.iload_n 3, 1) := dk_29 (byr_L_law_67 (j := 8) rfl)
theorem dL_law_1081 : decode cL_law 1081 = .ok (.iconst 2, 1) := dk_5 (byr_L_law_67 (j := 9) rfl)
theorem dL_law_1082 : decode cL_law 1082 = .ok (.iadd, 1) := dk_96 (byr_L_law_67 (j := 10) rfl)
theorem dL_law_1083 : decode cL_law 1083 = .ok (.iaload, 1) := dk_46 (byr_L_law_67 (j := 11) rfl)
theorem dL_law_1084 : decode cL_law 1084 = .ok (.aload_n 0, 1) := dk_42 (byr_L_law_67 (j := 12) rfl)
theorem dL_law_1085 : decode cL_law 1085 = .ok (.iload_n 3, 1) := dk_29 (byr_L_law_67 (j := 13) rfl)
theorem dL_law_1086 : decode cL_law 1086 = .ok (.iconst 3, 1) := dk_6 (byr_L_law_67 (j := 14) rfl)
theorem dL_law_1087 : decode cL_law 1087 = .ok (.iadd, 1) := dk_96 (byr_L_law_67 (j := 15) rfl)
theorem dL_law_1088 : decode cL_law 1088 = .ok (.iaload, 1) := dk_46 (byr_L_law_68 (j := 0) rfl)
theorem dL_law_1089 : decode cL_law 1089 = .ok (.invokevirtual 116, 3) := dk_182 (byr_L_law_68 (j := 1) rfl) (byr_L_law_68 (j := 2) rfl) (byr_L_law_68 (j := 3) rfl) (by decide)
theorem dL_law_1092 : decode cL_law 1092 = .ok (.pop, 1) := dk_87 (byr_L_law_68 (j := 4) rfl)
theorem dL_law_1093 : decode cL_law 1093 = .ok (.goto 458, 3) := dk_167 (byr_L_law_68 (j := 5) rfl) (byr_L_law_68 (j := 6) rfl) (byr_L_law_68 (j := 7) rfl) (by decide)
theorem dL_law_1096 : decode cL_law 1096 = .ok (.aload_n 1, 1) := dk_43 (byr_L_law_68 (j := 8) rfl)
theorem dL_law_1097 : decode cL_law 1097 = .ok (.aload_n 0, 1) := dk_42 (byr_L_law_68 (j := 9) rfl)
theorem dL_law_1098 : decode cL_law 1098 = .ok (.iload_n 3, 1) := dk_29 (byr_L_law_68 (j := 10) rfl)
theorem dL_law_1099 : decode cL_law 1099 = .ok (.iconst 1, 1) := dk_4 (byr_L_law_68 (j := 11) rfl)
theorem dL_law_1100 : decode cL_law 1100 = .ok (.iadd, 1) := dk_96 (byr_L_law_68 (j := 12) rfl)
theorem dL_law_1101 : decode cL_law 1101 = .ok (.iaload, 1) := dk_46 (byr_L_law_68 (j := 13) rfl)
theorem dL_law_1102 : decode cL_law 1102 = .ok (.aload_n 0, 1) := dk_42 (byr_L_law_68 (j := 14) rfl)
theorem dL_law_1103 : decode cL_law 1103 = .ok (.iload_n 3, 1) := dk_29 (byr_L_law_68 (j := 15) rfl)
theorem dL_law_1104 : decode cL_law 1104 = .ok (.iconst 2, 1) := dk_5 (byr_L_law_69 (j := 0) rfl)
theorem dL_law_1105 : decode cL_law 1105 = .ok (.iadd, 1) := dk_96 (byr_L_law_69 (j := 1) rfl)
theorem dL_law_1106 : decode cL_law 1106 = .ok (.iaload, 1) := dk_46 (byr_L_law_69 (j := 2) rfl)
theorem dL_law_1107 : decode cL_law 1107 = .ok (.invokevirtual 117, 3) := dk_182 (byr_L_law_69 (j := 3) rfl) (byr_L_law_69 (j := 4) rfl) (byr_L_law_69 (j := 5) rfl) (by decide)
theorem dL_law_1110 : decode cL_law 1110 = .ok (.pop, 1) := dk_87 (byr_L_law_69 (j := 6) rfl)
theorem dL_law_1111 : decode cL_law 1111 = .ok (.aload_n 2, 1) := dk_44 (byr_L_law_69 (j := 7) rfl)
theorem dL_law_1112 : decode cL_law 1112 = .ok (.aload_n 0, 1) := dk_42 (byr_L_law_69 (j := 8) rfl)
theorem dL_law_1113 : decode cL_law 1113 = .ok (.iload_n 3, 1) := dk_29 (byr_L_law_69 (j := 9) rfl)
theorem dL_law_1114 : decode cL_law 1114 = .ok (.iconst 1, 1) := dk_4 (byr_L_law_69 (j := 10) rfl)
theorem dL_law_1115 : decode cL_law 1115 = .ok (.iadd, 1) := dk_96 (byr_L_law_69 (j := 11) rfl)
theorem dL_law_1116 : decode cL_law 1116 = .ok (.iaload, 1) := dk_46 (byr_L_law_69 (j := 12) rfl)
theorem dL_law_1117 : decode cL_law 1117 = .ok (.aload_n 0, 1) := dk_42 (byr_L_law_69 (j := 13) rfl)
theorem dL_law_1118 : decode cL_law 1118 = .ok (.iload_n 3, 1) := dk_29 (byr_L_law_69 (j := 14) rfl)
theorem dL_law_1119 : decode cL_law 1119 = .ok (.iconst 2, 1) := dk_5 (byr_L_law_69 (j := 15) rfl)
theorem dL_law_1120 : decode cL_law 1120 = .ok (.iadd, 1) := dk_96 (byr_L_law_70 (j := 0) rfl)
theorem dL_law_1121 : decode cL_law 1121 = .ok (.iaload, 1) := dk_46 (byr_L_law_70 (j := 1) rfl)
theorem dL_law_1122 : decode cL_law 1122 = .ok (.invokevirtual 120, 3) := dk_182 (byr_L_law_70 (j := 2) rfl) (byr_L_law_70 (j := 3) rfl) (byr_L_law_70 (j := 4) rfl) (by decide)
theorem dL_law_1125 : decode cL_law 1125 = .ok (.pop, 1) := dk_87 (byr_L_law_70 (j := 5) rfl)
theorem dL_law_1126 : decode cL_law 1126 = .ok (.goto 425, 3) := dk_167 (byr_L_law_70 (j := 6) rfl) (byr_L_law_70 (j := 7) rfl) (byr_L_law_70 (j := 8) rfl) (by decide)
theorem dL_law_1129 : decode cL_law 1129 = .ok (.aload_n 1, 1) := dk_43 (byr_L_law_70 (j := 9) rfl)
theorem dL_law_1130 : decode cL_law 1130 = .ok (.aload_n 0, 1) := dk_42 (byr_L_law_70 (j := 10) rfl)
theorem dL_law_1131 : decode cL_law 1131 = .ok (.iload_n 3, 1) := dk_29 (byr_L_law_70 (j := 11) rfl)
theorem dL_law_1132 : decode cL_law 1132 = .ok (.iconst 1, 1) := dk_4 (byr_L_law_70 (j := 12) rfl)
theorem dL_law_1133 : decode cL_law 1133 = .ok (.iadd, 1) := dk_96 (byr_L_law_70 (j := 13) rfl)
theorem dL_law_1134 : decode cL_law 1134 = .ok (.iaload, 1) := dk_46 (byr_L_law_70 (j := 14) rfl)
theorem dL_law_1135 : decode cL_law 1135 = .ok (.invokevirtual 121, 3) := dk_182 (byr_L_law_70 (j := 15) rfl) (byr_L_law_71 (j := 0) rfl) (byr_L_law_71 (j := 1) rfl) (by decide)
theorem dL_law_1138 : decode cL_law 1138 = .ok (.pop, 1) := dk_87 (byr_L_law_71 (j := 2) rfl)
theorem dL_law_1139 : decode cL_law 1139 = .ok (.aload_n 2, 1) := dk_44 (byr_L_law_71 (j := 3) rfl)
theorem dL_law_1140 : decode cL_law 1140 = .ok (.aload_n 0, 1) := dk_42 (byr_L_law_71 (j := 4) rfl)
theorem dL_law_1141 : decode cL_law 1141 = .ok (.iload_n 3, 1) := dk_29 (byr_L_law_71 (j := 5) rfl)
theorem dL_law_1142 : decode cL_law 1142 = .ok (.iconst 1, 1) := dk_4 (byr_L_law_71 (j := 6) rfl)
theorem dL_law_1143 : decode cL_law 1143 = .ok (.iadd, 1) := dk_96 (byr_L_law_71 (j := 7) rfl)
theorem dL_law_1144 : decode cL_law 1144 = .ok (.iaload, 1) := dk_46 (byr_L_law_71 (j := 8) rfl)
theorem dL_law_1145 : decode cL_law 1145 = .ok (.invokevirtual 124, 3) := dk_182 (byr_L_law_71 (j := 9) rfl) (byr_L_law_71 (j := 10) rfl) (byr_L_law_71 (j := 11) rfl) (by decide)
theorem dL_law_1148 : decode cL_law 1148 = .ok (.pop, 1) := dk_87 (byr_L_law_71 (j := 12) rfl)
theorem dL_law_1149 : decode cL_law 1149 = .ok (.goto 402, 3) := dk_167 (byr_L_law_71 (j := 13) rfl) (byr_L_law_71 (j := 14) rfl) (byr_L_law_71 (j := 15) rfl) (by decide)
theorem dL_law_1152 : decode cL_law 1152 = .ok (.aload_n 1, 1) := dk_43 (byr_L_law_72 (j := 0) rfl)
theorem dL_law_1153 : decode cL_law 1153 = .ok (.aload_n 0, 1) := dk_42 (byr_L_law_72 (j := 1) rfl)
theorem dL_law_1154 : decode cL_law 1154 = .ok (.iload_n 3, 1) := dk_29 (byr_L_law_72 (j := 2) rfl)
theorem dL_law_1155 : decode cL_law 1155 = .ok (.iconst 1, 1) := dk_4 (byr_L_law_72 (j := 3) rfl)
theorem dL_law_1156 : decode cL_law 1156 = .ok (.iadd, 1) := dk_96 (byr_L_law_72 (j := 4) rfl)
theorem dL_law_1157 : decode cL_law 1157 = .ok (.iaload, 1) := dk_46 (byr_L_law_72 (j := 5) rfl)
theorem dL_law_1158 : decode cL_law 1158 = .ok (.aload_n 0, 1) := dk_42 (byr_L_law_72 (j := 6) rfl)
theorem dL_law_1159 : decode cL_law 1159 = .ok (.iload_n 3, 1) := dk_29 (byr_L_law_72 (j := 7) rfl)
theorem dL_law_1160 : decode cL_law 1160 = .ok (.iconst 2, 1) := dk_5 (byr_L_law_72 (j := 8) rfl)
theorem dL_law_1161 : decode cL_law 1161 = .ok (.iadd, 1) := dk_96 (byr_L_law_72 (j := 9) rfl)
theorem dL_law_1162 : decode cL_law 1162 = .ok (.iaload, 1) := dk_46 (byr_L_law_72 (j := 10) rfl)
theorem dL_law_1163 : decode cL_law 1163 = .ok (.aload_n 0, 1) := dk_42 (byr_L_law_72 (j := 11) rfl)
theorem dL_law_1164 : decode cL_law 1164 = .ok (.iload_n 3, 1) := dk_29 (byr_L_law_72 (j := 12) rfl)
theorem dL_law_1165 : decode cL_law 1165 = .ok (.iconst 3, 1) := dk_6 (byr_L_law_72 (j := 13) rfl)
theorem dL_law_1166 : decode cL_law 1166 = .ok (.iadd, 1) := dk_96 (byr_L_law_72 (j := 14) rfl)
theorem dL_law_1167 : decode cL_law 1167 = .ok (.iaload, 1) := dk_46 (byr_L_law_72 (j := 15) rfl)
theorem dL_law_1168 : decode cL_law 1168 = .ok (.invokevirtual 125, 3) := dk_182 (byr_L_law_73 (j := 0) rfl) (byr_L_law_73 (j := 1) rfl) (byr_L_law_73 (j := 2) rfl) (by decide)
theorem dL_law_1171 : decode cL_law 1171 = .ok (.pop, 1) := dk_87 (byr_L_law_73 (j := 3) rfl)
theorem dL_law_1172 : decode cL_law 1172 = .ok (.aload_n 2, 1) := dk_44 (byr_L_law_73 (j := 4) rfl)
theorem dL_law_1173 : decode cL_law 1173 = .ok (.aload_n 0, 1) := dk_42 (byr_L_law_73 (j := 5) rfl)
theorem dL_law_1174 : decode cL_law 1174 = .ok (.iload_n 3, 1) := dk_29 (byr_L_law_73 (j := 6) rfl)
theorem dL_law_1175 : decode cL_law 1175 = .ok (.iconst 1, 1) := dk_4 (byr_L_law_73 (j := 7) rfl)
theorem dL_law_1176 : decode cL_law 1176 = .ok (.iadd, 1) := dk_96 (byr_L_law_73 (j := 8) rfl)
theorem dL_law_1177 : decode cL_law 1177 = .ok (.iaload, 1) := dk_46 (byr_L_law_73 (j := 9) rfl)
theorem dL_law_1178 : decode cL_law 1178 = .ok (.aload_n 0, 1) := dk_42 (byr_L_law_73 (j := 10) rfl)
theorem dL_law_1179 : decode cL_law 1179 = .ok (.iload_n 3, 1) := dk_29 (byr_L_law_73 (j := 11) rfl)
theorem dL_law_1180 : decode cL_law 1180 = .ok (.iconst 2, 1) := dk_5 (byr_L_law_73 (j := 12) rfl)
theorem dL_law_1181 : decode cL_law 1181 = .ok (.iadd, 1) := dk_96 (byr_L_law_73 (j := 13) rfl)
theorem dL_law_1182 : decode cL_law 1182 = .ok (.iaload, 1) := dk_46 (byr_L_law_73 (j := 14) rfl)
theorem dL_law_1183 : decode cL_law 1183 = .ok (.aload_n 0, 1) := dk_42 (byr_L_law_73 (j := 15) rfl)
theorem dL_law_1184 : decode cL_law 1184 = .ok (.iload_n 3, 1) := dk_29 (byr_L_law_74 (j := 0) rfl)
theorem dL_law_1185 : decode cL_law 1185 = .ok (.iconst 3, 1) := dk_6 (byr_L_law_74 (j := 1) rfl)
theorem dL_law_1186 : decode cL_law 1186 = .ok (.iadd, 1) := dk_96 (byr_L_law_74 (j := 2) rfl)
theorem dL_law_1187 : decode cL_law 1187 = .ok (.iaload, 1) := dk_46 (byr_L_law_74 (j := 3) rfl)
theorem dL_law_1188 : decode cL_law 1188 = .ok (.invokevirtual 128, 3) := dk_182 (byr_L_law_74 (j := 4) rfl) (byr_L_law_74 (j := 5) rfl) (byr_L_law_74 (j := 6) rfl) (by decide)
theorem dL_law_1191 : decode cL_law 1191 = .ok (.pop, 1) := dk_87 (byr_L_law_74 (j := 7) rfl)
theorem dL_law_1192 : decode cL_law 1192 = .ok (.goto 359, 3) := dk_167 (byr_L_law_74 (j := 8) rfl) (byr_L_law_74 (j := 9) rfl) (byr_L_law_74 (j := 10) rfl) (by decide)
theorem dL_law_1195 : decode cL_law 1195 = .ok (.aload_n 1, 1) := dk_43 (byr_L_law_74 (j := 11) rfl)
theorem dL_law_1196 : decode cL_law 1196 = .ok (.aload_n 0, 1) := dk_42 (byr_L_law_74 (j := 12) rfl)
theorem dL_law_1197 : decode cL_law 1197 = .ok (.iload_n 3, 1) := dk_29 (byr_L_law_74 (j := 13) rfl)
theorem dL_law_1198 : decode cL_law 1198 = .ok (.iconst 1, 1) := dk_4 (byr_L_law_74 (j := 14) rfl)
theorem dL_law_1199 : decode cL_law 1199 = .ok (.iadd, 1) := dk_96 (byr_L_law_74 (j := 15) rfl)
theorem dL_law_1200 : decode cL_law 1200 = .ok (.iaload, 1) := dk_46 (byr_L_law_75 (j := 0) rfl)
theorem dL_law_1201 : decode cL_law 1201 = .ok (.invokevirtual 129, 3) := dk_182 (byr_L_law_75 (j := 1) rfl) (byr_L_law_75 (j := 2) rfl) (byr_L_law_75 (j := 3) rfl) (by decide)
theorem dL_law_1204 : decode cL_law 1204 = .ok (.pop, 1) := dk_87 (byr_L_law_75 (j := 4) rfl)
theorem dL_law_1205 : decode cL_law 1205 = .ok (.aload_n 2, 1) := dk_44 (byr_L_law_75 (j := 5) rfl)
theorem dL_law_1206 : decode cL_law 1206 = .ok (.aload_n 0, 1) := dk_42 (byr_L_law_75 (j := 6) rfl)
theorem dL_law_1207 : decode cL_law 1207 = .ok (.iload_n 3, 1) := dk_29 (byr_L_law_75 (j := 7) rfl)
theorem dL_law_1208 : decode cL_law 1208 = .ok (.iconst 1, 1) := dk_4 (byr_L_law_75 (j := 8) rfl)
theorem dL_law_1209 : decode cL_law 1209 = .ok (.iadd, 1) := dk_96 (byr_L_law_75 (j := 9) rfl)
theorem dL_law_1210 : decode cL_law 1210 = .ok (.iaload, 1) := dk_46 (byr_L_law_75 (j := 10) rfl)
theorem dL_law_1211 : decode cL_law 1211 = .ok (.invokevirtual 132, 3) := dk_182 (byr_L_law_75 (j := 11) rfl) (byr_L_law_75 (j := 12) rfl) (byr_L_law_75 (j := 13) rfl) (by decide)
theorem dL_law_1214 : decode cL_law 1214 = .ok (.pop, 1) := dk_87 (byr_L_law_75 (j := 14) rfl)
theorem dL_law_1215 : decode cL_law 1215 = .ok (.goto 336, 3) := dk_167 (byr_L_law_75 (j := 15) rfl) (byr_L_law_76 (j := 0) rfl) (byr_L_law_76 (j := 1) rfl) (by decide)
theorem dL_law_1218 : decode cL_law 1218 = .ok (.aload_n 1, 1) := dk_43 (byr_L_law_76 (j := 2) rfl)
theorem dL_law_1219 : decode cL_law 1219 = .ok (.aload_n 0, 1) := dk_42 (byr_L_law_76 (j := 3) rfl)
theorem dL_law_1220 : decode cL_law 1220 = .ok (.iload_n 3, 1) := dk_29 (byr_L_law_76 (j := 4) rfl)
theorem dL_law_1221 : decode cL_law 1221 = .ok (.iconst 1, 1) := dk_4 (byr_L_law_76 (j := 5) rfl)
theorem dL_law_1222 : decode cL_law 1222 = .ok (.iadd, 1) := dk_96 (byr_L_law_76 (j := 6) rfl)
theorem dL_law_1223 : decode cL_law 1223 = .ok (.iaload, 1) := dk_46 (byr_L_law_76 (j := 7) rfl)
theorem dL_law_1224 : decode cL_law 1224 = .ok (.aload_n 0, 1) := dk_42 (byr_L_law_76 (j := 8) rfl)
theorem dL_law_1225 : decode cL_law 1225 = .ok (.iload_n 3, 1) := dk_29 (byr_L_law_76 (j := 9) rfl)
theorem dL_law_1226 : decode cL_law 1226 = .ok (.iconst 2, 1) := dk_5 (byr_L_law_76 (j := 10) rfl)
theorem dL_law_1227 : decode cL_law 1227 = .ok (.iadd, 1) := dk_96 (byr_L_law_76 (j := 11) rfl)
theorem dL_law_1228 : decode cL_law 1228 = .ok (.iaload, 1) := dk_46 (byr_L_law_76 (j := 12) rfl)
theorem dL_law_1229 : decode cL_law 1229 = .ok (.aload_n 0, 1) := dk_42 (byr_L_law_76 (j := 13) rfl)
theorem dL_law_1230 : decode cL_law 1230 = .ok (.iload_n 3, 1) := dk_29 (byr_L_law_76 (j := 14) rfl)
theorem dL_law_1231 : decode cL_law 1231 = .ok (.iconst 3, 1) := dk_6 (byr_L_law_76 (j := 15) rfl)
theorem dL_law_1232 : decode cL_law 1232 = .ok (.iadd, 1) := dk_96 (byr_L_law_77 (j := 0) rfl)
theorem dL_law_1233 : decode cL_law 1233 = .ok (.iaload, 1) := dk_46 (byr_L_law_77 (j := 1) rfl)
theorem dL_law_1234 : decode cL_law 1234 = .ok (.invokevirtual 133, 3) := dk_182 (byr_L_law_77 (j := 2) rfl) (byr_L_law_77 (j := 3) rfl) (byr_L_law_77 (j := 4) rfl) (by decide)
theorem dL_law_1237 : decode cL_law 1237 = .ok (.pop, 1) := dk_87 (byr_L_law_77 (j := 5) rfl)
theorem dL_law_1238 : decode cL_law 1238 = .ok (.aload_n 2, 1) := dk_44 (byr_L_law_77 (j := 6) rfl)
theorem dL_law_1239 : decode cL_law 1239 = .ok (.aload_n 0, 1) := dk_42 (byr_L_law_77 (j := 7) rfl)
theorem dL_law_1240 : decode cL_law 1240 = .ok (.iload_n 3, 1) := dk_29 (byr_L_law_77 (j := 8) rfl)
theorem dL_law_1241 : decode cL_law 1241 = .ok (.iconst 1, 1) := dk_4 (byr_L_law_77 (j := 9) rfl)
theorem dL_law_1242 : decode cL_law 1242 = .ok (.iadd, 1) := dk_96 (byr_L_law_77 (j := 10) rfl)
theorem dL_law_1243 : decode cL_law 1243 = .ok (.iaload, 1) := dk_46 (byr_L_law_77 (j := 11) rfl)
theorem dL_law_1244 : decode cL_law 1244 = .ok (.aload_n 0, 1) := dk_42 (byr_L_law_77 (j := 12) rfl)
theorem dL_law_1245 : decode cL_law 1245 = .ok (.iload_n 3, 1) := dk_29 (byr_L_law_77 (j := 13) rfl)
theorem dL_law_1246 : decode cL_law 1246 = .ok (.iconst 2, 1) := dk_5 (byr_L_law_77 (j := 14) rfl)
theorem dL_law_1247 : decode cL_law 1247 = .ok (.iadd, 1) := dk_96 (byr_L_law_77 (j := 15) rfl)
theorem dL_law_1248 : decode cL_law 1248 = .ok (.iaload, 1) := dk_46 (byr_L_law_78 (j := 0) rfl)
theorem dL_law_1249 : decode cL_law 1249 = .ok (.aload_n 0, 1) := dk_42 (byr_L_law_78 (j := 1) rfl)
theorem dL_law_1250 : decode cL_law 1250 = .ok (.iload_n 3, 1) := dk_29 (byr_L_law_78 (j := 2) rfl)
theorem dL_law_1251 : decode cL_law 1251 = .ok (.iconst 3, 1) := dk_6 (byr_L_law_78 (j := 3) rfl)
theorem dL_law_1252 : decode cL_law 1252 = .ok (.iadd, 1) := dk_96 (byr_L_law_78 (j := 4) rfl)
theorem dL_law_1253 : decode cL_law 1253 = .ok (.iaload, 1) := dk_46 (byr_L_law_78 (j := 5) rfl)
theorem dL_law_1254 : decode cL_law 1254 = .ok (.invokevirtual 136, 3) := dk_182 (byr_L_law_78 (j := 6) rfl) (byr_L_law_78 (j := 7) rfl) (byr_L_law_78 (j := 8) rfl) (by decide)
theorem dL_law_1257 : decode cL_law 1257 = .ok (.pop, 1) := dk_87 (byr_L_law_78 (j := 9) rfl)
theorem dL_law_1258 : decode cL_law 1258 = .ok (.goto 293, 3) := dk_167 (byr_L_law_78 (j := 10) rfl) (byr_L_law_78 (j := 11) rfl) (byr_L_law_78 (j := 12) rfl) (by decide)
theorem dL_law_1261 : decode cL_law 1261 = .ok (.aload_n 1, 1) := dk_43 (byr_L_law_78 (j := 13) rfl)
theorem dL_law_1262 : decode cL_law 1262 = .ok (.aload_n 0, 1) := dk_42 (byr_L_law_78 (j := 14) rfl)
theorem dL_law_1263 : decode cL_law 1263 = .ok (.iload_n 3, 1) := dk_29 (byr_L_law_78 (j := 15) rfl)
theorem dL_law_1264 : decode cL_law 1264 = .ok (.iconst 1, 1) := dk_4 (byr_L_law_79 (j := 0) rfl)
theorem dL_law_1265 : decode cL_law 1265 = .ok (.iadd, 1) := dk_96 (byr_L_law_79 (j := 1) rfl)
theorem dL_law_1266 : decode cL_law 1266 = .ok (.iaload, 1) := dk_46 (byr_L_law_79 (j := 2) rfl)
theorem dL_law_1267 : decode cL_law 1267 = .ok (.aload_n 0, 1) := dk_42 (byr_L_law_79 (j := 3) rfl)
theorem dL_law_1268 : decode cL_law 1268 = .ok (.iload_n 3, 1) := dk_29 (byr_L_law_79 (j := 4) rfl)
theorem dL_law_1269 : decode cL_law 1269 = .ok (.iconst 2, 1) := dk_5 (byr_L_law_79 (j := 5) rfl)
theorem dL_law_1270 : decode cL_law 1270 = .ok (.iadd, 1) := dk_96 (byr_L_law_79 (j := 6) rfl)
theorem dL_law_1271 : decode cL_law 1271 = .ok (.iaload, 1) := dk_46 (byr_L_law_79 (j := 7) rfl)
theorem dL_law_1272 : decode cL_law 1272 = .ok (.aload_n 0, 1) := dk_42 (byr_L_law_79 (j := 8) rfl)
theorem dL_law_1273 : decode cL_law 1273 = .ok (.iload_n 3, 1) := dk_29 (byr_L_law_79 (j := 9) rfl)
theorem dL_law_1274 : decode cL_law 1274 = .ok (.iconst 3, 1) := dk_6 (byr_L_law_79 (j := 10) rfl)
theorem dL_law_1275 : decode cL_law 1275 = .ok (.iadd, 1) := dk_96 (byr_L_law_79 (j := 11) rfl)
theorem dL_law_1276 : decode cL_law 1276 = .ok (.iaload, 1) := dk_46 (byr_L_law_79 (j := 12) rfl)
theorem dL_law_1277 : decode cL_law 1277 = .ok (.invokevirtual 137, 3) := dk_182 (byr_L_law_79 (j := 13) rfl) (byr_L_law_79 (j := 14) rfl) (byr_L_law_79 (j := 15) rfl) (by decide)
theorem dL_law_1280 : decode cL_law 1280 = .ok (.pop, 1) := dk_87 (byr_L_law_80 (j := 0) rfl)
theorem dL_law_1281 : decode cL_law 1281 = .ok (.aload_n 2, 1) := dk_44 (byr_L_law_80 (j := 1) rfl)
theorem dL_law_1282 : decode cL_law 1282 = .ok (.aload_n 0, 1) := dk_42 (byr_L_law_80 (j := 2) rfl)
theorem dL_law_1283 : decode cL_law 1283 = .ok (.iload_n 3, 1) := dk_29 (byr_L_law_80 (j := 3) rfl)
theorem dL_law_1284 : decode cL_law 1284 = .ok (.iconst 1, 1) := dk_4 (byr_L_law_80 (j := 4) rfl)
theorem dL_law_1285 : decode cL_law 1285 = .ok (.iadd, 1) := dk_96 (byr_L_law_80 (j := 5) rfl)
theorem dL_law_1286 : decode cL_law 1286 = .ok (.iaload, 1) := dk_46 (byr_L_law_80 (j := 6) rfl)
theorem dL_law_1287 : decode cL_law 1287 = .ok (.aload_n 0, 1) := dk_42 (byr_L_law_80 (j := 7) rfl)
theorem dL_law_1288 : decode cL_law 1288 = .ok (.iload_n 3, 1) := dk_29 (byr_L_law_80 (j := 8) rfl)
theorem dL_law_1289 : decode cL_law 1289 = .ok (.iconst 2, 1) := dk_5 (byr_L_law_80 (j := 9) rfl)
theorem dL_law_1290 : decode cL_law 1290 = .ok (.iadd, 1) := dk_96 (byr_L_law_80 (j := 10) rfl)
theorem dL_law_1291 : decode cL_law 1291 = .ok (.iaload, 1) := dk_46 (byr_L_law_80 (j := 11) rfl)
theorem dL_law_1292 : decode cL_law 1292 = .ok (.aload_n 0, 1) := dk_42 (byr_L_law_80 (j := 12) rfl)
theorem dL_law_1293 : decode cL_law 1293 = .ok (.iload_n 3, 1) := dk_29 (byr_L_law_80 (j := 13) rfl)
theorem dL_law_1294 : decode cL_law 1294 = .ok (.iconst 3, 1) := dk_6 (byr_L_law_80 (j := 14) rfl)
theorem dL_law_1295 : decode cL_law 1295 = .ok (.iadd, 1) := dk_96 (byr_L_law_80 (j := 15) rfl)
theorem dL_law_1296 : decode cL_law 1296 = .ok (.iaload, 1) := dk_46 (byr_L_law_81 (j := 0) rfl)
theorem dL_law_1297 : decode cL_law 1297 = .ok (.invokevirtual 140, 3) := dk_182 (byr_L_law_81 (j := 1) rfl) (byr_L_law_81 (j := 2) rfl) (byr_L_law_81 (j := 3) rfl) (by decide)
theorem dL_law_1300 : decode cL_law 1300 = .ok (.pop, 1) := dk_87 (byr_L_law_81 (j := 4) rfl)
theorem dL_law_1301 : decode cL_law 1301 = .ok (.goto 250, 3) := dk_167 (byr_L_law_81 (j := 5) rfl) (byr_L_law_81 (j := 6) rfl) (byr_L_law_81 (j := 7) rfl) (by decide)
theorem dL_law_1304 : decode cL_law 1304 = .ok (.aload_n 1, 1) := dk_43 (byr_L_law_81 (j := 8) rfl)
theorem dL_law_1305 : decode cL_law 1305 = .ok (.aload_n 0, 1) := dk_42 (byr_L_law_81 (j := 9) rfl)
theorem dL_law_1306 : decode cL_law 1306 = .ok (.iload_n 3, 1) := dk_29 (byr_L_law_81 (j := 10) rfl)
theorem dL_law_1307 : decode cL_law 1307 = .ok (.iconst 1, 1) := dk_4 (byr_L_law_81 (j := 11) rfl)
theorem dL_law_1308 : decode cL_law 1308 = .ok (.iadd, 1) := dk_96 (byr_L_law_81 (j := 12) rfl)
theorem dL_law_1309 : decode cL_law 1309 = .ok (.iaload, 1) := dk_46 (byr_L_law_81 (j := 13) rfl)
theorem dL_law_1310 : decode cL_law 1310 = .ok (.aload_n 0, 1) := dk_42 (byr_L_law_81 (j := 14) rfl)
theorem dL_law_1311 : decode cL_law 1311 = .ok (.iload_n 3, 1) := dk_29 (byr_L_law_81 (j := 15) rfl)
theorem dL_law_1312 : decode cL_law 1312 = .ok (.iconst 2, 1) := dk_5 (byr_L_law_82 (j := 0) rfl)
theorem dL_law_1313 : decode cL_law 1313 = .ok (.iadd, 1) := dk_96 (byr_L_law_82 (j := 1) rfl)
theorem dL_law_1314 : decode cL_law 1314 = .ok (.iaload, 1) := dk_46 (byr_L_law_82 (j := 2) rfl)
theorem dL_law_1315 : decode cL_law 1315 = .ok (.aload_n 0, 1) := dk_42 (byr_L_law_82 (j := 3) rfl)
theorem dL_law_1316 : decode cL_law 1316 = .ok (.iload_n 3, 1) := dk_29 (byr_L_law_82 (j := 4) rfl)
theorem dL_law_1317 : decode cL_law 1317 = .ok (.iconst 3, 1) := dk_6 (byr_L_law_82 (j := 5) rfl)
theorem dL_law_1318 : decode cL_law 1318 = .ok (.iadd, 1) := dk_96 (byr_L_law_82 (j := 6) rfl)
theorem dL_law_1319 : decode cL_law 1319 = .ok (.iaload, 1) := dk_46 (byr_L_law_82 (j := 7) rfl)
theorem dL_law_1320 : decode cL_law 1320 = .ok (.aload_n 0, 1) := dk_42 (byr_L_law_82 (j := 8) rfl)
theorem dL_law_1321 : decode cL_law 1321 = .ok (.iload_n 3, 1) := dk_29 (byr_L_law_82 (j := 9) rfl)
theorem dL_law_1322 : decode cL_law 1322 = .ok (.iconst 4, 1) := dk_7 (byr_L_law_82 (j := 10) rfl)
theorem dL_law_1323 : decode cL_law 1323 = .ok (.iadd, 1) := dk_96 (byr_L_law_82 (j := 11) rfl)
theorem dL_law_1324 : decode cL_law 1324 = .ok (.iaload, 1) := dk_46 (byr_L_law_82 (j := 12) rfl)
theorem dL_law_1325 : decode cL_law 1325 = .ok (.aload_n 0, 1) := dk_42 (byr_L_law_82 (j := 13) rfl)
theorem dL_law_1326 : decode cL_law 1326 = .ok (.iload_n 3, 1) := dk_29 (byr_L_law_82 (j := 14) rfl)
theorem dL_law_1327 : decode cL_law 1327 = .ok (.iconst 5, 1) := dk_8 (byr_L_law_82 (j := 15) rfl)
theorem dL_law_1328 : decode cL_law 1328 = .ok (.iadd, 1) := dk_96 (byr_L_law_83 (j := 0) rfl)
theorem dL_law_1329 : decode cL_law 1329 = .ok (.iaload, 1) := dk_46 (byr_L_law_83 (j := 1) rfl)
theorem dL_law_1330 : decode cL_law 1330 = .ok (.invokevirtual 141, 3) := dk_182 (byr_L_law_83 (j := 2) rfl) (byr_L_law_83 (j := 3) rfl) (byr_L_law_83 (j := 4) rfl) (by decide)
theorem dL_law_1333 : decode cL_law 1333 = .ok (.pop, 1) := dk_87 (byr_L_law_83 (j := 5) rfl)
theorem dL_law_1334 : decode cL_law 1334 = .ok (.aload_n 2, 1) := dk_44 (byr_L_law_83 (j := 6) rfl)
theorem dL_law_1335 : decode cL_law 1335 = .ok (.aload_n 0, 1) := dk_42 (byr_L_law_83 (j := 7) rfl)
theorem dL_law_1336 : decode cL_law 1336 = .ok (.iload_n 3, 1) := dk_29 (byr_L_law_83 (j := 8) rfl)
theorem dL_law_1337 : decode cL_law 1337 = .ok (.iconst 1, 1) := dk_4 (byr_L_law_83 (j := 9) rfl)
theorem dL_law_1338 : decode cL_law 1338 = .ok (.iadd, 1) := dk_96 (byr_L_law_83 (j := 10) rfl)
theorem dL_law_1339 : decode cL_law 1339 = .ok (.iaload, 1) := dk_46 (byr_L_law_83 (j := 11) rfl)
theorem dL_law_1340 : decode cL_law 1340 = .ok (.aload_n 0, 1) := dk_42 (byr_L_law_83 (j := 12) rfl)
theorem dL_law_1341 : decode cL_law 1341 = .ok (.iload_n 3, 1) := dk_29 (byr_L_law_83 (j := 13) rfl)
theorem dL_law_1342 : decode cL_law 1342 = .ok (.iconst 2, 1) := dk_5 (byr_L_law_83 (j := 14) rfl)
theorem dL_law_1343 : decode cL_law 1343 = .ok (.iadd, 1) := dk_96 (byr_L_law_83 (j := 15) rfl)
theorem dL_law_1344 : decode cL_law 1344 = .ok (.iaload, 1) := dk_46 (byr_L_law_84 (j := 0) rfl)
theorem dL_law_1345 : decode cL_law 1345 = .ok (.aload_n 0, 1) := dk_42 (byr_L_law_84 (j := 1) rfl)
theorem dL_law_1346 : decode cL_law 1346 = .ok (.iload_n 3, 1) := dk_29 (byr_L_law_84 (j := 2) rfl)
theorem dL_law_1347 : decode cL_law 1347 = .ok (.iconst 3, 1) := dk_6 (byr_L_law_84 (j := 3) rfl)
theorem dL_law_1348 : decode cL_law 1348 = .ok (.iadd, 1) := dk_96 (byr_L_law_84 (j := 4) rfl)
theorem dL_law_1349 : decode cL_law 1349 = .ok (.iaload, 1) := dk_46 (byr_L_law_84 (j := 5) rfl)
theorem dL_law_1350 : decode cL_law 1350 = .ok (.aload_n 0, 1) := dk_42 (byr_L_law_84 (j := 6) rfl)
theorem dL_law_1351 : decode cL_law 1351 = .ok (.iload_n 3, 1) := dk_29 (byr_L_law_84 (j := 7) rfl)
theorem dL_law_1352 : decode cL_law 1352 = .ok (.iconst 4, 1) := dk_7 (byr_L_law_84 (j := 8) rfl)
theorem dL_law_1353 : decode cL_law 1353 = .ok (.iadd, 1) := dk_96 (byr_L_law_84 (j := 9) rfl)
theorem dL_law_1354 : decode cL_law 1354 = .ok (.iaload, 1) := dk_46 (byr_L_law_84 (j := 10) rfl)
theorem dL_law_1355 : decode cL_law 1355 = .ok (.aload_n 0, 1) := dk_42 (byr_L_law_84 (j := 11) rfl)
theorem dL_law_1356 : decode cL_law 1356 = .ok (.iload_n 3, 1) := dk_29 (byr_L_law_84 (j := 12) rfl)
theorem dL_law_1357 : decode cL_law 1357 = .ok (.iconst 5, 1) := dk_8 (byr_L_law_84 (j := 13) rfl)
theorem dL_law_1358 : decode cL_law 1358 = .ok (.iadd, 1) := dk_96 (byr_L_law_84 (j := 14) rfl)
theorem dL_law_1359 : decode cL_law 1359 = .ok (.iaload, 1) := dk_46 (byr_L_law_84 (j := 15) rfl)
theorem dL_law_1360 : decode cL_law 1360 = .ok (.invokevirtual 144, 3) := dk_182 (byr_L_law_85 (j := 0) rfl) (byr_L_law_85 (j := 1) rfl) (byr_L_law_85 (j := 2) rfl) (by decide)
theorem dL_law_1363 : decode cL_law 1363 = .ok (.pop, 1) := dk_87 (byr_L_law_85 (j := 3) rfl)
theorem dL_law_1364 : decode cL_law 1364 = .ok (.goto 187, 3) := dk_167 (byr_L_law_85 (j := 4) rfl) (byr_L_law_85 (j := 5) rfl) (byr_L_law_85 (j := 6) rfl) (by decide)
theorem dL_law_1367 : decode cL_law 1367 = .ok (.aload_n 1, 1) := dk_43 (byr_L_law_85 (j := 7) rfl)
theorem dL_law_1368 : decode cL_law 1368 = .ok (.aload_n 0, 1) := dk_42 (byr_L_law_85 (j := 8) rfl)
theorem dL_law_1369 : decode cL_law 1369 = .ok (.iload_n 3, 1) := dk_29 (byr_L_law_85 (j := 9) rfl)
theorem dL_law_1370 : decode cL_law 1370 = .ok (.iconst 1, 1) := dk_4 (byr_L_law_85 (j := 10) rfl)
theorem dL_law_1371 : decode cL_law 1371 = .ok (.iadd, 1) := dk_96 (byr_L_law_85 (j := 11) rfl)
theorem dL_law_1372 : decode cL_law 1372 = .ok (.iaload, 1) := dk_46 (byr_L_law_85 (j := 12) rfl)
theorem dL_law_1373 : decode cL_law 1373 = .ok (.invokevirtual 145, 3) := dk_182 (byr_L_law_85 (j := 13) rfl) (byr_L_law_85 (j := 14) rfl) (byr_L_law_85 (j := 15) rfl) (by decide)
theorem dL_law_1376 : decode cL_law 1376 = .ok (.pop, 1) := dk_87 (byr_L_law_86 (j := 0) rfl)
theorem dL_law_1377 : decode cL_law 1377 = .ok (.aload_n 2, 1) := dk_44 (byr_L_law_86 (j := 1) rfl)
theorem dL_law_1378 : decode cL_law 1378 = .ok (.aload_n 0, 1) := dk_42 (byr_L_law_86 (j := 2) rfl)
theorem dL_law_1379 : decode cL_law 1379 = .ok (.iload_n 3, 1) := dk_29 (byr_L_law_86 (j := 3) rfl)
theorem dL_law_1380 : decode cL_law 1380 = .ok (.iconst 1, 1) := dk_4 (byr_L_law_86 (j := 4) rfl)
theorem dL_law_1381 : decode cL_law 1381 = .ok (.iadd, 1) := dk_96 (byr_L_law_86 (j := 5) rfl)
theorem dL_law_1382 : decode cL_law 1382 = .ok (.iaload, 1) := dk_46 (byr_L_law_86 (j := 6) rfl)
theorem dL_law_1383 : decode cL_law 1383 = .ok (.invokevirtual 148, 3) := dk_182 (byr_L_law_86 (j := 7) rfl) (byr_L_law_86 (j := 8) rfl) (byr_L_law_86 (j := 9) rfl) (by decide)
theorem dL_law_1386 : decode cL_law 1386 = .ok (.pop, 1) := dk_87 (byr_L_law_86 (j := 10) rfl)
theorem dL_law_1387 : decode cL_law 1387 = .ok (.goto 164, 3) := dk_167 (byr_L_law_86 (j := 11) rfl) (byr_L_law_86 (j := 12) rfl) (byr_L_law_86 (j := 13) rfl) (by decide)
theorem dL_law_1390 : decode cL_law 1390 = .ok (.aload_n 1, 1) := dk_43 (byr_L_law_86 (j := 14) rfl)
theorem dL_law_1391 : decode cL_law 1391 = .ok (.aload_n 0, 1) := dk_42 (byr_L_law_86 (j := 15) rfl)
theorem dL_law_1392 : decode cL_law 1392 = .ok (.iload_n 3, 1) := dk_29 (byr_L_law_87 (j := 0) rfl)
theorem dL_law_1393 : decode cL_law 1393 = .ok (.iconst 1, 1) := dk_4 (byr_L_law_87 (j := 1) rfl)
theorem dL_law_1394 : decode cL_law 1394 = .ok (.iadd, 1) := dk_96 (byr_L_law_87 (j := 2) rfl)
theorem dL_law_1395 : decode cL_law 1395 = .ok (.iaload, 1) := dk_46 (byr_L_law_87 (j := 3) rfl)
theorem dL_law_1396 : decode cL_law 1396 = .ok (.aload_n 0, 1) := dk_42 (byr_L_law_87 (j := 4) rfl)
theorem dL_law_1397 : decode cL_law 1397 = .ok (.iload_n 3, 1) := dk_29 (byr_L_law_87 (j := 5) rfl)
theorem dL_law_1398 : decode cL_law 1398 = .ok (.iconst 2, 1) := dk_5 (byr_L_law_87 (j := 6) rfl)
theorem dL_law_1399 : decode cL_law 1399 = .ok (.iadd, 1) := dk_96 (byr_L_law_87 (j := 7) rfl)
theorem dL_law_1400 : decode cL_law 1400 = .ok (.iaload, 1) := dk_46 (byr_L_law_87 (j := 8) rfl)
theorem dL_law_1401 : decode cL_law 1401 = .ok (.invokevirtual 149, 3) := dk_182 (byr_L_law_87 (j := 9) rfl) (byr_L_law_87 (j := 10) rfl) (byr_L_law_87 (j := 11) rfl) (by decide)
theorem dL_law_1404 : decode cL_law 1404 = .ok (.pop, 1) := dk_87 (byr_L_law_87 (j := 12) rfl)
theorem dL_law_1405 : decode cL_law 1405 = .ok (.aload_n 2, 1) := dk_44 (byr_L_law_87 (j := 13) rfl)
theorem dL_law_1406 : decode cL_law 1406 = .ok (.aload_n 0, 1) := dk_42 (byr_L_law_87 (j := 14) rfl)
theorem dL_law_1407 : decode cL_law 1407 = .ok (.iload_n 3, 1) := dk_29 (byr_L_law_87 (j := 15) rfl)
theorem dL_law_1408 : decode cL_law 1408 = .ok (.iconst 1, 1) := dk_4 (byr_L_law_88 (j := 0) rfl)
theorem dL_law_1409 : decode cL_law 1409 = .ok (.iadd, 1) := dk_96 (byr_L_law_88 (j := 1) rfl)
theorem dL_law_1410 : decode cL_law 1410 = .ok (.iaload, 1) := dk_46 (byr_L_law_88 (j := 2) rfl)
theorem dL_law_1411 : decode cL_law 1411 = .ok (.aload_n 0, 1) := dk_42 (byr_L_law_88 (j := 3) rfl)
theorem dL_law_1412 : decode cL_law 1412 = .ok (.iload_n 3, 1) := dk_29 (byr_L_law_88 (j := 4) rfl)
theorem dL_law_1413 : decode cL_law 1413 = .ok (.iconst 2, 1) := dk_5 (byr_L_law_88 (j := 5) rfl)
theorem dL_law_1414 : decode cL_law 1414 = .ok (.iadd, 1) := dk_96 (byr_L_law_88 (j := 6) rfl)
theorem dL_law_1415 : decode cL_law 1415 = .ok (.iaload, 1) := dk_46 (byr_L_law_88 (j := 7) rfl)
theorem dL_law_1416 : decode cL_law 1416 = .ok (.invokevirtual 152, 3) := dk_182 (byr_L_law_88 (j := 8) rfl) (byr_L_law_88 (j := 9) rfl) (byr_L_law_88 (j := 10) rfl) (by decide)
theorem dL_law_1419 : decode cL_law 1419 = .ok (.pop, 1) := dk_87 (byr_L_law_88 (j := 11) rfl)
theorem dL_law_1420 : decode cL_law 1420 = .ok (.goto 131, 3) := dk_167 (byr_L_law_88 (j := 12) rfl) (byr_L_law_88 (j := 13) rfl) (byr_L_law_88 (j := 14) rfl) (by decide)
theorem dL_law_1423 : decode cL_law 1423 = .ok (.aload_n 1, 1) := dk_43 (byr_L_law_88 (j := 15) rfl)
theorem dL_law_1424 : decode cL_law 1424 = .ok (.invokevirtual 153, 3) := dk_182 (byr_L_law_89 (j := 0) rfl) (byr_L_law_89 (j := 1) rfl) (byr_L_law_89 (j := 2) rfl) (by decide)
theorem dL_law_1427 : decode cL_law 1427 = .ok (.pop, 1) := dk_87 (byr_L_law_89 (j := 3) rfl)
theorem dL_law_1428 : decode cL_law 1428 = .ok (.aload_n 2, 1) := dk_44 (byr_L_law_89 (j := 4) rfl)
theorem dL_law_1429 : decode cL_law 1429 = .ok (.invokevirtual 157, 3) := dk_182 (byr_L_law_89 (j := 5) rfl) (byr_L_law_89 (j := 6) rfl) (byr_L_law_89 (j := 7) rfl) (by decide)
theorem dL_law_1432 : decode cL_law 1432 = .ok (.pop, 1) := dk_87 (byr_L_law_89 (j := 8) rfl)
theorem dL_law_1433 : decode cL_law 1433 = .ok (.goto 118, 3) := dk_167 (byr_L_law_89 (j := 9) rfl) (byr_L_law_89 (j := 10) rfl) (byr_L_law_89 (j := 11) rfl) (by decide)
theorem dL_law_1436 : decode cL_law 1436 = .ok (.aload_n 1, 1) := dk_43 (byr_L_law_89 (j := 12) rfl)
theorem dL_law_1437 : decode cL_law 1437 = .ok (.invokevirtual 158, 3) := dk_182 (byr_L_law_89 (j := 13) rfl) (byr_L_law_89 (j := 14) rfl) (byr_L_law_89 (j := 15) rfl) (by decide)
theorem dL_law_1440 : decode cL_law 1440 = .ok (.pop, 1) := dk_87 (byr_L_law_90 (j := 0) rfl)
theorem dL_law_1441 : decode cL_law 1441 = .ok (.aload_n 2, 1) := dk_44 (byr_L_law_90 (j := 1) rfl)
theorem dL_law_1442 : decode cL_law 1442 = .ok (.invokevirtual 161, 3) := dk_182 (byr_L_law_90 (j := 2) rfl) (byr_L_law_90 (j := 3) rfl) (byr_L_law_90 (j := 4) rfl) (by decide)
theorem dL_law_1445 : decode cL_law 1445 = .ok (.pop, 1) := dk_87 (byr_L_law_90 (j := 5) rfl)
theorem dL_law_1446 : decode cL_law 1446 = .ok (.goto 105, 3) := dk_167 (byr_L_law_90 (j := 6) rfl) (byr_L_law_90 (j := 7) rfl) (byr_L_law_90 (j := 8) rfl) (by decide)
theorem dL_law_1449 : decode cL_law 1449 = .ok (.aload_n 1, 1) := dk_43 (byr_L_law_90 (j := 9) rfl)
theorem dL_law_1450 : decode cL_law 1450 = .ok (.aload_n 0, 1) := dk_42 (byr_L_law_90 (j := 10) rfl)
theorem dL_law_1451 : decode cL_law 1451 = .ok (.iload_n 3, 1) := dk_29 (byr_L_law_90 (j := 11) rfl)
theorem dL_law_1452 : decode cL_law 1452 = .ok (.iconst 1, 1) := dk_4 (byr_L_law_90 (j := 12) rfl)
theorem dL_law_1453 : decode cL_law 1453 = .ok (.iadd, 1) := dk_96 (byr_L_law_90 (j := 13) rfl)
theorem dL_law_1454 : decode cL_law 1454 = .ok (.iaload, 1) := dk_46 (byr_L_law_90 (j := 14) rfl)
theorem dL_law_1455 : decode cL_law 1455 = .ok (.invokevirtual 162, 3) := dk_182 (byr_L_law_90 (j := 15) rfl) (byr_L_law_91 (j := 0) rfl) (byr_L_law_91 (j := 1) rfl) (by decide)
theorem dL_law_1458 : decode cL_law 1458 = .ok (.pop, 1) := dk_87 (byr_L_law_91 (j := 2) rfl)
theorem dL_law_1459 : decode cL_law 1459 = .ok (.aload_n 2, 1) := dk_44 (byr_L_law_91 (j := 3) rfl)
theorem dL_law_1460 : decode cL_law 1460 = .ok (.aload_n 0, 1) := dk_42 (byr_L_law_91 (j := 4) rfl)
theorem dL_law_1461 : decode cL_law 1461 = .ok (.iload_n 3, 1) := dk_29 (byr_L_law_91 (j := 5) rfl)
theorem dL_law_1462 : decode cL_law 1462 = .ok (.iconst 1, 1) := dk_4 (byr_L_law_91 (j := 6) rfl)
theorem dL_law_1463 : decode cL_law 1463 = .ok (.iadd, 1) := dk_96 (byr_L_law_91 (j := 7) rfl)
theorem dL_law_1464 : decode cL_law 1464 = .ok (.iaload, 1) := dk_46 (byr_L_law_91 (j := 8) rfl)
theorem dL_law_1465 : decode cL_law 1465 = .ok (.invokevirtual 165, 3) := dk_182 (byr_L_law_91 (j := 9) rfl) (byr_L_law_91 (j := 10) rfl) (byr_L_law_91 (j := 11) rfl) (by decide)
theorem dL_law_1468 : decode cL_law 1468 = .ok (.pop, 1) := dk_87 (byr_L_law_91 (j := 12) rfl)
theorem dL_law_1469 : decode cL_law 1469 = .ok (.goto 82, 3) := dk_167 (byr_L_law_91 (j := 13) rfl) (byr_L_law_91 (j := 14) rfl) (byr_L_law_91 (j := 15) rfl) (by decide)
theorem dL_law_1472 : decode cL_law 1472 = .ok (.aload_n 1, 1) := dk_43 (byr_L_law_92 (j := 0) rfl)
theorem dL_law_1473 : decode cL_law 1473 = .ok (.aload_n 0, 1) := dk_42 (byr_L_law_92 (j := 1) rfl)
theorem dL_law_1474 : decode cL_law 1474 = .ok (.iload_n 3, 1) := dk_29 (byr_L_law_92 (j := 2) rfl)
theorem dL_law_1475 : decode cL_law 1475 = .ok (.iconst 1, 1) := dk_4 (byr_L_law_92 (j := 3) rfl)
theorem dL_law_1476 : decode cL_law 1476 = .ok (.iadd, 1) := dk_96 (byr_L_law_92 (j := 4) rfl)
theorem dL_law_1477 : decode cL_law 1477 = .ok (.iaload, 1) := dk_46 (byr_L_law_92 (j := 5) rfl)
theorem dL_law_1478 : decode cL_law 1478 = .ok (.aload_n 0, 1) := dk_42 (byr_L_law_92 (j := 6) rfl)
theorem dL_law_1479 : decode cL_law 1479 = .ok (.iload_n 3, 1) := dk_29 (byr_L_law_92 (j := 7) rfl)
theorem dL_law_1480 : decode cL_law 1480 = .ok (.iconst 2, 1) := dk_5 (byr_L_law_92 (j := 8) rfl)
theorem dL_law_1481 : decode cL_law 1481 = .ok (.iadd, 1) := dk_96 (byr_L_law_92 (j := 9) rfl)
theorem dL_law_1482 : decode cL_law 1482 = .ok (.iaload, 1) := dk_46 (byr_L_law_92 (j := 10) rfl)
theorem dL_law_1483 : decode cL_law 1483 = .ok (.invokevirtual 166, 3) := dk_182 (byr_L_law_92 (j := 11) rfl) (byr_L_law_92 (j := 12) rfl) (byr_L_law_92 (j := 13) rfl) (by decide)
theorem dL_law_1486 : decode cL_law 1486 = .ok (.pop, 1) := dk_87 (byr_L_law_92 (j := 14) rfl)
theorem dL_law_1487 : decode cL_law 1487 = .ok (.aload_n 2, 1) := dk_44 (byr_L_law_92 (j := 15) rfl)
theorem dL_law_1488 : decode cL_law 1488 = .ok (.aload_n 0, 1) := dk_42 (byr_L_law_93 (j := 0) rfl)
theorem dL_law_1489 : decode cL_law 1489 = .ok (.iload_n 3, 1) := dk_29 (byr_L_law_93 (j := 1) rfl)
theorem dL_law_1490 : decode cL_law 1490 = .ok (.iconst 1, 1) := dk_4 (byr_L_law_93 (j := 2) rfl)
theorem dL_law_1491 : decode cL_law 1491 = .ok (.iadd, 1) := dk_96 (byr_L_law_93 (j := 3) rfl)
theorem dL_law_1492 : decode cL_law 1492 = .ok (.iaload, 1) := dk_46 (byr_L_law_93 (j := 4) rfl)
theorem dL_law_1493 : decode cL_law 1493 = .ok (.aload_n 0, 1) := dk_42 (byr_L_law_93 (j := 5) rfl)
theorem dL_law_1494 : decode cL_law 1494 = .ok (.iload_n 3, 1) := dk_29 (byr_L_law_93 (j := 6) rfl)
theorem dL_law_1495 : decode cL_law 1495 = .ok (.iconst 2, 1) := dk_5 (byr_L_law_93 (j := 7) rfl)
theorem dL_law_1496 : decode cL_law 1496 = .ok (.iadd, 1) := dk_96 (byr_L_law_93 (j := 8) rfl)
theorem dL_law_1497 : decode cL_law 1497 = .ok (.iaload, 1) := dk_46 (byr_L_law_93 (j := 9) rfl)
theorem dL_law_1498 : decode cL_law 1498 = .ok (.invokevirtual 169, 3) := dk_182 (byr_L_law_93 (j := 10) rfl) (byr_L_law_93 (j := 11) rfl) (byr_L_law_93 (j := 12) rfl) (by decide)
theorem dL_law_1501 : decode cL_law 1501 = .ok (.pop, 1) := dk_87 (byr_L_law_93 (j := 13) rfl)
theorem dL_law_1502 : decode cL_law 1502 = .ok (.goto 49, 3) := dk_167 (byr_L_law_93 (j := 14) rfl) (byr_L_law_93 (j := 15) rfl) (byr_L_law_94 (j := 0) rfl) (by decide)
theorem dL_law_1505 : decode cL_law 1505 = .ok (.aload_n 1, 1) := dk_43 (byr_L_law_94 (j := 1) rfl)
theorem dL_law_1506 : decode cL_law 1506 = .ok (.aload_n 0, 1) := dk_42 (byr_L_law_94 (j := 2) rfl)
theorem dL_law_1507 : decode cL_law 1507 = .ok (.iload_n 3, 1) := dk_29 (byr_L_law_94 (j := 3) rfl)
theorem dL_law_1508 : decode cL_law 1508 = .ok (.iconst 1, 1) := dk_4 (byr_L_law_94 (j := 4) rfl)
theorem dL_law_1509 : decode cL_law 1509 = .ok (.iadd, 1) := dk_96 (byr_L_law_94 (j := 5) rfl)
theorem dL_law_1510 : decode cL_law 1510 = .ok (.iaload, 1) := dk_46 (byr_L_law_94 (j := 6) rfl)
theorem dL_law_1511 : decode cL_law 1511 = .ok (.invokevirtual 170, 3) := dk_182 (byr_L_law_94 (j := 7) rfl) (byr_L_law_94 (j := 8) rfl) (byr_L_law_94 (j := 9) rfl) (by decide)
theorem dL_law_1514 : decode cL_law 1514 = .ok (.pop, 1) := dk_87 (byr_L_law_94 (j := 10) rfl)
theorem dL_law_1515 : decode cL_law 1515 = .ok (.aload_n 2, 1) := dk_44 (byr_L_law_94 (j := 11) rfl)
theorem dL_law_1516 : decode cL_law 1516 = .ok (.aload_n 0, 1) := dk_42 (byr_L_law_94 (j := 12) rfl)
theorem dL_law_1517 : decode cL_law 1517 = .ok (.iload_n 3, 1) := dk_29 (byr_L_law_94 (j := 13) rfl)
theorem dL_law_1518 : decode cL_law 1518 = .ok (.iconst 1, 1) := dk_4 (byr_L_law_94 (j := 14) rfl)
theorem dL_law_1519 : decode cL_law 1519 = .ok (.iadd, 1) := dk_96 (byr_L_law_94 (j := 15) rfl)
theorem dL_law_1520 : decode cL_law 1520 = .ok (.iaload, 1) := dk_46 (byr_L_law_95 (j := 0) rfl)
theorem dL_law_1521 : decode cL_law 1521 = .ok (.invokevirtual 173, 3) := dk_182 (byr_L_law_95 (j := 1) rfl) (byr_L_law_95 (j := 2) rfl) (byr_L_law_95 (j := 3) rfl) (by decide)
theorem dL_law_1524 : decode cL_law 1524 = .ok (.pop, 1) := dk_87 (byr_L_law_95 (j := 4) rfl)
theorem dL_law_1525 : decode cL_law 1525 = .ok (.goto 26, 3) := dk_167 (byr_L_law_95 (j := 5) rfl) (byr_L_law_95 (j := 6) rfl) (byr_L_law_95 (j := 7) rfl) (by decide)
theorem dL_law_1528 : decode cL_law 1528 = .ok (.aload_n 1, 1) := dk_43 (byr_L_law_95 (j := 8) rfl)
theorem dL_law_1529 : decode cL_law 1529 = .ok (.aload_n 0, 1) := dk_42 (byr_L_law_95 (j := 9) rfl)
theorem dL_law_1530 : decode cL_law 1530 = .ok (.iload_n 3, 1) := dk_29 (byr_L_law_95 (j := 10) rfl)
theorem dL_law_1531 : decode cL_law 1531 = .ok (.iconst 1, 1) := dk_4 (byr_L_law_95 (j := 11) rfl)
theorem dL_law_1532 : decode cL_law 1532 = .ok (.iadd, 1) := dk_96 (byr_L_law_95 (j := 12) rfl)
theorem dL_law_1533 : decode cL_law 1533 = .ok (.iaload, 1) := dk_46 (byr_L_law_95 (j := 13) rfl)
theorem dL_law_1534 : decode cL_law 1534 = .ok (.invokevirtual 174, 3) := dk_182 (byr_L_law_95 (j := 14) rfl) (byr_L_law_95 (j := 15) rfl) (byr_L_law_96 (j := 0) rfl) (by decide)
theorem dL_law_1537 : decode cL_law 1537 = .ok (.aload_n 2, 1) := dk_44 (byr_L_law_96 (j := 1) rfl)
theorem dL_law_1538 : decode cL_law 1538 = .ok (.aload_n 0, 1) := dk_42 (byr_L_law_96 (j := 2) rfl)
theorem dL_law_1539 : decode cL_law 1539 = .ok (.iload_n 3, 1) := dk_29 (byr_L_law_96 (j := 3) rfl)
theorem dL_law_1540 : decode cL_law 1540 = .ok (.iconst 1, 1) := dk_4 (byr_L_law_96 (j := 4) rfl)
theorem dL_law_1541 : decode cL_law 1541 = .ok (.iadd, 1) := dk_96 (byr_L_law_96 (j := 5) rfl)
theorem dL_law_1542 : decode cL_law 1542 = .ok (.iaload, 1) := dk_46 (byr_L_law_96 (j := 6) rfl)
theorem dL_law_1543 : decode cL_law 1543 = .ok (.invokevirtual 177, 3) := dk_182 (byr_L_law_96 (j := 7) rfl) (byr_L_law_96 (j := 8) rfl) (byr_L_law_96 (j := 9) rfl) (by decide)
theorem dL_law_1546 : decode cL_law 1546 = .ok (.if_icmp .eq 5, 3) := dk_159 (byr_L_law_96 (j := 10) rfl) (byr_L_law_96 (j := 11) rfl) (byr_L_law_96 (j := 12) rfl) (by decide)
theorem dL_law_1549 : decode cL_law 1549 = .ok (.iconst 0, 1) := dk_3 (byr_L_law_96 (j := 13) rfl)
theorem dL_law_1550 : decode cL_law 1550 = .ok (.ireturn, 1) := dk_172 (byr_L_law_96 (j := 14) rfl)
theorem dL_law_1551 : decode cL_law 1551 = .ok (.iinc 3 6, 3) := dk_132 (byr_L_law_96 (j := 15) rfl) (byr_L_law_97 (j := 0) rfl) (byr_L_law_97 (j := 1) rfl) (by decide)
theorem dL_law_1554 : decode cL_law 1554 = .ok (.goto (-1536), 3) := dk_167 (byr_L_law_97 (j := 2) rfl) (byr_L_law_97 (j := 3) rfl) (byr_L_law_97 (j := 4) rfl) (by decide)
theorem dL_law_1557 : decode cL_law 1557 = .ok (.iconst 1, 1) := dk_4 (byr_L_law_97 (j := 5) rfl)
theorem dL_law_1558 : decode cL_law 1558 = .ok (.ireturn, 1) := dk_172 (byr_L_law_97 (j := 6) rfl)
set_option maxHeartbeats 4000000 in
set_option maxRecDepth 100000 in
theorem law_c0 {p : Program} {e : Env} {s : State} {m : MethodId} {below : List Frame} {meth : Method} {c : Code} (l : Launch) {G : GT} {b L : Nat} {xs : Nat → Int32} (c3 s3 : Nat) (hc3 : c3 ≤ 600000 ∧ s3 ≤ 7302249) (X : Cx p s m #[Value.ref b] meth c code 4 RL G) (hX : va_X b L xs s s.heap) (hbl : b < s.heap.size) (hbA : ¬ smA G b) {I I' : Sto → Prop} (hst : LSt law_eqs I I') (σ : Sto) (hI : I σ) (i : Int32) (hv0 : vp_in i L) (hv1 : vp_in (i + 1) L) (hv2 : vp_in (i + 2) L) (hv3 : vp_in (i + 3) L) (hv4 : vp_in (i + 4) L) (hv5 : vp_in (i + 5) L) (hend : ∀ σ', I' σ' → Sm p l e room_1 s m #[Value.ref b] below meth c G 4 (fun _ : Unit => lw_Z below #[Value.ref b] s) c3 s3 (wl G σ') 1551 [(0, .ref b), (1, .ref (gad G 0)), (2, .ref (gad G 81)), (3, .int i)] [] (some ())) : Sm p l e room_1 s m #[Value.ref b] below meth c G 4 (fun _ : Unit => lw_Z below #[Value.ref b] s) c3 s3 (wl G σ) 204 [(0, .ref b), (1, .ref (gad G 0)), (2, .ref (gad G 81)), (3, .int i)] [] (some ()) := by
  obtain ⟨r, z, hr8, hs9, he, hI1⟩ := (hst).2.1 (xs (i + 1).toNatClampNeg) (xs (i + 2).toNatClampNeg) σ hI
  refine sm_aload_n X 205 1 dL_law_204 rfl rfl rfl ?_
  refine sm_aload_n X 206 0 dL_law_205 rfl rfl rfl ?_
  refine sm_iload_n X 207 3 dL_law_206 rfl rfl rfl ?_
  refine sm_iconst X 208 (1) dL_law_207 rfl rfl ?_
  refine sm_iadd X 209 dL_law_208 rfl ?_
  refine sm_sld X 210 hX hbl hbA hv1 dL_law_209 rfl ?_
  refine sm_aload_n X 211 0 dL_law_210 rfl rfl rfl ?_
  refine sm_iload_n X 212 3 dL_law_211 rfl rfl rfl ?_
  refine sm_iconst X 213 (2) dL_law_212 rfl rfl ?_
  refine sm_iadd X 214 dL_law_213 rfl ?_
  refine sm_sld X 215 hX hbl hbA hv2 dL_law_214 rfl ?_
  refine sm_callV0 X 218 [.int (xs (i + 1).toNatClampNeg), .int (xs (i + 2).toNatClampNeg)] [] [.int r.1] (c_X8_current l G σ (xs (i + 1).toNatClampNeg) (xs (i + 2).toNatClampNeg) r hr8) cw_X8_current q_324 q_325 q_323 (by decide : K0 0 = 8) (by decide) rfl rfl rfl rfl rfl (Nat.le_of_ble_eq_true rfl) ⟨(Nat.le_of_ble_eq_true rfl), (Nat.le_of_ble_eq_true rfl)⟩ hc3 dL_law_215 rfl ?_
  refine sm_pop X 219 dL_law_218 rfl rfl ?_
  refine sm_aload_n X 220 2 dL_law_219 rfl rfl rfl ?_
  refine sm_aload_n X 221 0 dL_law_220 rfl rfl rfl ?_
  refine sm_iload_n X 222 3 dL_law_221 rfl rfl rfl ?_
  refine sm_iconst X 223 (1) dL_law_222 rfl rfl ?_
  refine sm_iadd X 224 dL_law_223 rfl ?_
  refine sm_sld X 225 hX hbl hbA hv1 dL_law_224 rfl ?_
  refine sm_aload_n X 226 0 dL_law_225 rfl rfl rfl ?_
  refine sm_iload_n X 227 3 dL_law_226 rfl rfl rfl ?_
  refine sm_iconst X 228 (2) dL_law_227 rfl rfl ?_
  refine sm_iadd X 229 dL_law_228 rfl ?_
  refine sm_sld X 230 hX hbl hbA hv2 dL_law_229 rfl ?_
  refine sm_callV0 X 233 [.int (xs (i + 1).toNatClampNeg), .int (xs (i + 2).toNatClampNeg)] [] [.int z.1] (c_X9_current l G r.2 (xs (i + 1).toNatClampNeg) (xs (i + 2).toNatClampNeg) z hs9) cw_X9_current q_1046 q_1047 q_1045 (by decide : K0 81 = 9) (by decide) rfl rfl rfl rfl rfl (Nat.le_of_ble_eq_true rfl) ⟨(Nat.le_of_ble_eq_true rfl), (Nat.le_of_ble_eq_true rfl)⟩ hc3 dL_law_230 rfl ?_
  refine sm_pop X 234 dL_law_233 rfl rfl ?_
  refine sm_goto X 1551 dL_law_234 (by decide) ?_
  exact hend z.2 hI1
set_option maxHeartbeats 4000000 in
set_option maxRecDepth 100000 in
theorem law_c1 {p : Program} {e : Env} {s : State} {m : MethodId} {below : List Frame} {meth : Method} {c : Code} (l : Launch) {G : GT} {b L : Nat} {xs : Nat → Int32} (c3 s3 : Nat) (hc3 : c3 ≤ 600000 ∧ s3 ≤ 7302249) (X : Cx p s m #[Value.ref b] meth c code 4 RL G) (hX : va_X b L xs s s.heap) (hbl : b < s.heap.size) (hbA : ¬ smA G b) {I I' : Sto → Prop} (hst : LSt law_eqs I I') (σ : Sto) (hI : I σ) (i : Int32) (hv0 : vp_in i L) (hv1 : vp_in (i + 1) L) (hv2 : vp_in (i + 2) L) (hv3 : vp_in (i + 3) L) (hv4 : vp_in (i + 4) L) (hv5 : vp_in (i + 5) L) (hend : ∀ σ', I' σ' → Sm p l e room_1 s m #[Value.ref b] below meth c G 4 (fun _ : Unit => lw_Z below #[Value.ref b] s) c3 s3 (wl G σ') 1551 [(0, .ref b), (1, .ref (gad G 0)), (2, .ref (gad G 81)), (3, .int i)] [] (some ())) : Sm p l e room_1 s m #[Value.ref b] below meth c G 4 (fun _ : Unit => lw_Z below #[Value.ref b] s) c3 s3 (wl G σ) 237 [(0, .ref b), (1, .ref (gad G 0)), (2, .ref (gad G 81)), (3, .int i)] [] (some ()) := by
  obtain ⟨r, z, hr8, hs9, he, hI1⟩ := (hst).2.2.1 (xs (i + 1).toNatClampNeg) (xs (i + 2).toNatClampNeg) σ hI
  refine sm_aload_n X 238 1 dL_law_237 rfl rfl rfl ?_
  refine sm_aload_n X 239 0 dL_law_238 rfl rfl rfl ?_
  refine sm_iload_n X 240 3 dL_law_239 rfl rfl rfl ?_
  refine sm_iconst X 241 (1) dL_law_240 rfl rfl ?_
  refine sm_iadd X 242 dL_law_241 rfl ?_
  refine sm_sld X 243 hX hbl hbA hv1 dL_law_242 rfl ?_
  refine sm_aload_n X 244 0 dL_law_243 rfl rfl rfl ?_
  refine sm_iload_n X 245 3 dL_law_244 rfl rfl rfl ?_
  refine sm_iconst X 246 (2) dL_law_245 rfl rfl ?_
  refine sm_iadd X 247 dL_law_246 rfl ?_
  refine sm_sld X 248 hX hbl hbA hv2 dL_law_247 rfl ?_
  refine sm_callV0 X 251 [.int (xs (i + 1).toNatClampNeg), .int (xs (i + 2).toNatClampNeg)] [] [.int r.1] (c_X8_set l G σ (xs (i + 1).toNatClampNeg) (xs (i + 2).toNatClampNeg) r hr8) cw_X8_set q_336 q_337 q_335 (by decide : K0 0 = 8) (by decide) rfl rfl rfl rfl rfl (Nat.le_of_ble_eq_true rfl) ⟨(Nat.le_of_ble_eq_true rfl), (Nat.le_of_ble_eq_true rfl)⟩ hc3 dL_law_248 rfl ?_
  refine sm_pop X 252 dL_law_251 rfl rfl ?_
  refine sm_aload_n X 253 2 dL_law_252 rfl rfl rfl ?_
  refine sm_aload_n X 254 0 dL_law_253 rfl rfl rfl ?_
  refine sm_iload_n X 255 3 dL_law_254 rfl rfl rfl ?_
  refine sm_iconst X 256 (1) dL_law_255 rfl rfl ?_
  refine sm_iadd X 257 dL_law_256 rfl ?_
  refine sm_sld X 258 hX hbl hbA hv1 dL_law_257 rfl ?_
  refine sm_aload_n X 259 0 dL_law_258 rfl rfl rfl ?_
  refine sm_iload_n X 260 3 dL_law_259 rfl rfl rfl ?_
  refine sm_iconst X 261 (2) dL_law_260 rfl rfl ?_
  refine sm_iadd X 262 dL_law_261 rfl ?_
  refine sm_sld X 263 hX hbl hbA hv2 dL_law_262 rfl ?_
  refine sm_callV0 X 266 [.int (xs (i + 1).toNatClampNeg), .int (xs (i + 2).toNatClampNeg)] [] [.int z.1] (c_X9_set l G r.2 (xs (i + 1).toNatClampNeg) (xs (i + 2).toNatClampNeg) z hs9) cw_X9_set q_1056 q_1057 q_1055 (by decide : K0 81 = 9) (by decide) rfl rfl rfl rfl rfl (Nat.le_of_ble_eq_true rfl) ⟨(Nat.le_of_ble_eq_true rfl), (Nat.le_of_ble_eq_true rfl)⟩ hc3 dL_law_263 rfl ?_
  refine sm_pop X 267 dL_law_266 rfl rfl ?_
  refine sm_goto X 1551 dL_law_267 (by decide) ?_
  exact hend z.2 hI1
set_option maxHeartbeats 4000000 in
set_option maxRecDepth 100000 in
theorem law_c2 {p : Program} {e : Env} {s : State} {m : MethodId} {below : List Frame} {meth : Method} {c : Code} (l : Launch) {G : GT} {b L : Nat} {xs : Nat → Int32} (c3 s3 : Nat) (hc3 : c3 ≤ 600000 ∧ s3 ≤ 7302249) (X : Cx p s m #[Value.ref b] meth c code 4 RL G) (hX : va_X b L xs s s.heap) (hbl : b < s.heap.size) (hbA : ¬ smA G b) {I I' : Sto → Prop} (hst : LSt law_eqs I I') (σ : Sto) (hI : I σ) (i : Int32) (hv0 : vp_in i L) (hv1 : vp_in (i + 1) L) (hv2 : vp_in (i + 2) L) (hv3 : vp_in (i + 3) L) (hv4 : vp_in (i + 4) L) (hv5 : vp_in (i + 5) L) (hend : ∀ σ', I' σ' → Sm p l e room_1 s m #[Value.ref b] below meth c G 4 (fun _ : Unit => lw_Z below #[Value.ref b] s) c3 s3 (wl G σ') 1551 [(0, .ref b), (1, .ref (gad G 0)), (2, .ref (gad G 81)), (3, .int i)] [] (some ())) : Sm p l e room_1 s m #[Value.ref b] below meth c G 4 (fun _ : Unit => lw_Z below #[Value.ref b] s) c3 s3 (wl G σ) 270 [(0, .ref b), (1, .ref (gad G 0)), (2, .ref (gad G 81)), (3, .int i)] [] (some ()) := by
  obtain ⟨r, z, hr8, hs9, he, hI1⟩ := (hst).2.2.2.1 (xs (i + 1).toNatClampNeg) σ hI
  refine sm_aload_n X 271 1 dL_law_270 rfl rfl rfl ?_
  refine sm_aload_n X 272 0 dL_law_271 rfl rfl rfl ?_
  refine sm_iload_n X 273 3 dL_law_272 rfl rfl rfl ?_
  refine sm_iconst X 274 (1) dL_law_273 rfl rfl ?_
  refine sm_iadd X 275 dL_law_274 rfl ?_
  refine sm_sld X 276 hX hbl hbA hv1 dL_law_275 rfl ?_
  refine sm_callV0 X 279 [.int (xs (i + 1).toNatClampNeg)] [] [.int r.1] (c_X8_flow l G σ (xs (i + 1).toNatClampNeg) r hr8) cw_X8_flow q_340 q_341 q_339 (by decide : K0 0 = 8) (by decide) rfl rfl rfl rfl rfl (Nat.le_of_ble_eq_true rfl) ⟨(Nat.le_of_ble_eq_true rfl), (Nat.le_of_ble_eq_true rfl)⟩ hc3 dL_law_276 rfl ?_
  refine sm_pop X 280 dL_law_279 rfl rfl ?_
  refine sm_aload_n X 281 2 dL_law_280 rfl rfl rfl ?_
  refine sm_aload_n X 282 0 dL_law_281 rfl rfl rfl ?_
  refine sm_iload_n X 283 3 dL_law_282 rfl rfl rfl ?_
  refine sm_iconst X 284 (1) dL_law_283 rfl rfl ?_
  refine sm_iadd X 285 dL_law_284 rfl ?_
  refine sm_sld X 286 hX hbl hbA hv1 dL_law_285 rfl ?_
  refine sm_callV0 X 289 [.int (xs (i + 1).toNatClampNeg)] [] [.int z.1] (c_X9_flow l G r.2 (xs (i + 1).toNatClampNeg) z hs9) cw_X9_flow q_1064 q_1065 q_1063 (by decide : K0 81 = 9) (by decide) rfl rfl rfl rfl rfl (Nat.le_of_ble_eq_true rfl) ⟨(Nat.le_of_ble_eq_true rfl), (Nat.le_of_ble_eq_true rfl)⟩ hc3 dL_law_286 rfl ?_
  refine sm_pop X 290 dL_law_289 rfl rfl ?_
  refine sm_goto X 1551 dL_law_290 (by decide) ?_
  exact hend z.2 hI1
set_option maxHeartbeats 4000000 in
set_option maxRecDepth 100000 in
theorem law_c3 {p : Program} {e : Env} {s : State} {m : MethodId} {below : List Frame} {meth : Method} {c : Code} (l : Launch) {G : GT} {b L : Nat} {xs : Nat → Int32} (c3 s3 : Nat) (hc3 : c3 ≤ 600000 ∧ s3 ≤ 7302249) (X : Cx p s m #[Value.ref b] meth c code 4 RL G) (hX : va_X b L xs s s.heap) (hbl : b < s.heap.size) (hbA : ¬ smA G b) {I I' : Sto → Prop} (hst : LSt law_eqs I I') (σ : Sto) (hI : I σ) (i : Int32) (hv0 : vp_in i L) (hv1 : vp_in (i + 1) L) (hv2 : vp_in (i + 2) L) (hv3 : vp_in (i + 3) L) (hv4 : vp_in (i + 4) L) (hv5 : vp_in (i + 5) L) (hend : ∀ σ', I' σ' → Sm p l e room_1 s m #[Value.ref b] below meth c G 4 (fun _ : Unit => lw_Z below #[Value.ref b] s) c3 s3 (wl G σ') 1551 [(0, .ref b), (1, .ref (gad G 0)), (2, .ref (gad G 81)), (3, .int i)] [] (some ())) : Sm p l e room_1 s m #[Value.ref b] below meth c G 4 (fun _ : Unit => lw_Z below #[Value.ref b] s) c3 s3 (wl G σ) 293 [(0, .ref b), (1, .ref (gad G 0)), (2, .ref (gad G 81)), (3, .int i)] [] (some ()) := by
  obtain ⟨r, z, hr8, hs9, he, hI1⟩ := (hst).2.2.2.2.1 (xs (i + 1).toNatClampNeg) (xs (i + 2).toNatClampNeg) σ hI
  refine sm_aload_n X 294 1 dL_law_293 rfl rfl rfl ?_
  refine sm_aload_n X 295 0 dL_law_294 rfl rfl rfl ?_
  refine sm_iload_n X 296 3 dL_law_295 rfl rfl rfl ?_
  refine sm_iconst X 297 (1) dL_law_296 rfl rfl ?_
  refine sm_iadd X 298 dL_law_297 rfl ?_
  refine sm_sld X 299 hX hbl hbA hv1 dL_law_298 rfl ?_
  refine sm_aload_n X 300 0 dL_law_299 rfl rfl rfl ?_
  refine sm_iload_n X 301 3 dL_law_300 rfl rfl rfl ?_
  refine sm_iconst X 302 (2) dL_law_301 rfl rfl ?_
  refine sm_iadd X 303 dL_law_302 rfl ?_
  refine sm_sld X 304 hX hbl hbA hv2 dL_law_303 rfl ?_
  refine sm_callV0 X 307 [.int (xs (i + 1).toNatClampNeg), .int (xs (i + 2).toNatClampNeg)] [] [.int r.1] (c_X8_swimmer l G σ (xs (i + 1).toNatClampNeg) (xs (i + 2).toNatClampNeg) r hr8) cw_X8_swimmer q_372 q_373 q_371 (by decide : K0 0 = 8) (by decide) rfl rfl rfl rfl rfl (Nat.le_of_ble_eq_true rfl) ⟨(Nat.le_of_ble_eq_true rfl), (Nat.le_of_ble_eq_true rfl)⟩ hc3 dL_law_304 rfl ?_
  refine sm_pop X 308 dL_law_307 rfl rfl ?_
  refine sm_aload_n X 309 2 dL_law_308 rfl rfl rfl ?_
  refine sm_aload_n X 310 0 dL_law_309 rfl rfl rfl ?_
  refine sm_iload_n X 311 3 dL_law_310 rfl rfl rfl ?_
  refine sm_iconst X 312 (1) dL_law_311 rfl rfl ?_
  refine sm_iadd X 313 dL_law_312 rfl ?_
  refine sm_sld X 314 hX hbl hbA hv1 dL_law_313 rfl ?_
  refine sm_aload_n X 315 0 dL_law_314 rfl rfl rfl ?_
  refine sm_iload_n X 316 3 dL_law_315 rfl rfl rfl ?_
  refine sm_iconst X 317 (2) dL_law_316 rfl rfl ?_
  refine sm_iadd X 318 dL_law_317 rfl ?_
  refine sm_sld X 319 hX hbl hbA hv2 dL_law_318 rfl ?_
  refine sm_callV0 X 322 [.int (xs (i + 1).toNatClampNeg), .int (xs (i + 2).toNatClampNeg)] [] [.int z.1] (c_X9_swimmer l G r.2 (xs (i + 1).toNatClampNeg) (xs (i + 2).toNatClampNeg) z hs9) cw_X9_swimmer q_1072 q_1073 q_1071 (by decide : K0 81 = 9) (by decide) rfl rfl rfl rfl rfl (Nat.le_of_ble_eq_true rfl) ⟨(Nat.le_of_ble_eq_true rfl), (Nat.le_of_ble_eq_true rfl)⟩ hc3 dL_law_319 rfl ?_
  refine sm_pop X 323 dL_law_322 rfl rfl ?_
  refine sm_goto X 1551 dL_law_323 (by decide) ?_
  exact hend z.2 hI1
set_option maxHeartbeats 4000000 in
set_option maxRecDepth 100000 in
theorem law_c4 {p : Program} {e : Env} {s : State} {m : MethodId} {below : List Frame} {meth : Method} {c : Code} (l : Launch) {G : GT} {b L : Nat} {xs : Nat → Int32} (c3 s3 : Nat) (hc3 : c3 ≤ 600000 ∧ s3 ≤ 7302249) (X : Cx p s m #[Value.ref b] meth c code 4 RL G) (hX : va_X b L xs s s.heap) (hbl : b < s.heap.size) (hbA : ¬ smA G b) {I I' : Sto → Prop} (hst : LSt law_eqs I I') (σ : Sto) (hI : I σ) (i : Int32) (hv0 : vp_in i L) (hv1 : vp_in (i + 1) L) (hv2 : vp_in (i + 2) L) (hv3 : vp_in (i + 3) L) (hv4 : vp_in (i + 4) L) (hv5 : vp_in (i + 5) L) (hend : ∀ σ', I' σ' → Sm p l e room_1 s m #[Value.ref b] below meth c G 4 (fun _ : Unit => lw_Z below #[Value.ref b] s) c3 s3 (wl G σ') 1551 [(0, .ref b), (1, .ref (gad G 0)), (2, .ref (gad G 81)), (3, .int i)] [] (some ())) : Sm p l e room_1 s m #[Value.ref b] below meth c G 4 (fun _ : Unit => lw_Z below #[Value.ref b] s) c3 s3 (wl G σ) 326 [(0, .ref b), (1, .ref (gad G 0)), (2, .ref (gad G 81)), (3, .int i)] [] (some ()) := by
  obtain ⟨r, z, hr8, hs9, he, hI1⟩ := (hst).2.2.2.2.2.1 (xs (i + 1).toNatClampNeg) (xs (i + 2).toNatClampNeg) σ hI
  refine sm_aload_n X 327 1 dL_law_326 rfl rfl rfl ?_
  refine sm_aload_n X 328 0 dL_law_327 rfl rfl rfl ?_
  refine sm_iload_n X 329 3 dL_law_328 rfl rfl rfl ?_
  refine sm_iconst X 330 (1) dL_law_329 rfl rfl ?_
  refine sm_iadd X 331 dL_law_330 rfl ?_
  refine sm_sld X 332 hX hbl hbA hv1 dL_law_331 rfl ?_
  refine sm_aload_n X 333 0 dL_law_332 rfl rfl rfl ?_
  refine sm_iload_n X 334 3 dL_law_333 rfl rfl rfl ?_
  refine sm_iconst X 335 (2) dL_law_334 rfl rfl ?_
  refine sm_iadd X 336 dL_law_335 rfl ?_
  refine sm_sld X 337 hX hbl hbA hv2 dL_law_336 rfl ?_
  refine sm_callV0 X 340 [.int (xs (i + 1).toNatClampNeg), .int (xs (i + 2).toNatClampNeg)] [] [.int r.1] (c_X8_ofSwimmer l G σ (xs (i + 1).toNatClampNeg) (xs (i + 2).toNatClampNeg) r hr8) cw_X8_ofSwimmer q_392 q_393 q_391 (by decide : K0 0 = 8) (by decide) rfl rfl rfl rfl rfl (Nat.le_of_ble_eq_true rfl) ⟨(Nat.le_of_ble_eq_true rfl), (Nat.le_of_ble_eq_true rfl)⟩ hc3 dL_law_337 rfl ?_
  refine sm_pop X 341 dL_law_340 rfl rfl ?_
  refine sm_aload_n X 342 2 dL_law_341 rfl rfl rfl ?_
  refine sm_aload_n X 343 0 dL_law_342 rfl rfl rfl ?_
  refine sm_iload_n X 344 3 dL_law_343 rfl rfl rfl ?_
  refine sm_iconst X 345 (1) dL_law_344 rfl rfl ?_
  refine sm_iadd X 346 dL_law_345 rfl ?_
  refine sm_sld X 347 hX hbl hbA hv1 dL_law_346 rfl ?_
  refine sm_aload_n X 348 0 dL_law_347 rfl rfl rfl ?_
  refine sm_iload_n X 349 3 dL_law_348 rfl rfl rfl ?_
  refine sm_iconst X 350 (2) dL_law_349 rfl rfl ?_
  refine sm_iadd X 351 dL_law_350 rfl ?_
  refine sm_sld X 352 hX hbl hbA hv2 dL_law_351 rfl ?_
  refine sm_callV0 X 355 [.int (xs (i + 1).toNatClampNeg), .int (xs (i + 2).toNatClampNeg)] [] [.int z.1] (c_X9_ofSwimmer l G r.2 (xs (i + 1).toNatClampNeg) (xs (i + 2).toNatClampNeg) z hs9) cw_X9_ofSwimmer q_1081 q_1082 q_1080 (by decide : K0 81 = 9) (by decide) rfl rfl rfl rfl rfl (Nat.le_of_ble_eq_true rfl) ⟨(Nat.le_of_ble_eq_true rfl), (Nat.le_of_ble_eq_true rfl)⟩ hc3 dL_law_352 rfl ?_
  refine sm_pop X 356 dL_law_355 rfl rfl ?_
  refine sm_goto X 1551 dL_law_356 (by decide) ?_
  exact hend z.2 hI1
set_option maxHeartbeats 4000000 in
set_option maxRecDepth 100000 in
theorem law_c5 {p : Program} {e : Env} {s : State} {m : MethodId} {below : List Frame} {meth : Method} {c : Code} (l : Launch) {G : GT} {b L : Nat} {xs : Nat → Int32} (c3 s3 : Nat) (hc3 : c3 ≤ 600000 ∧ s3 ≤ 7302249) (X : Cx p s m #[Value.ref b] meth c code 4 RL G) (hX : va_X b L xs s s.heap) (hbl : b < s.heap.size) (hbA : ¬ smA G b) {I I' : Sto → Prop} (hst : LSt law_eqs I I') (σ : Sto) (hI : I σ) (i : Int32) (hv0 : vp_in i L) (hv1 : vp_in (i + 1) L) (hv2 : vp_in (i + 2) L) (hv3 : vp_in (i + 3) L) (hv4 : vp_in (i + 4) L) (hv5 : vp_in (i + 5) L) (hend : ∀ σ', I' σ' → Sm p l e room_1 s m #[Value.ref b] below meth c G 4 (fun _ : Unit => lw_Z below #[Value.ref b] s) c3 s3 (wl G σ') 1551 [(0, .ref b), (1, .ref (gad G 0)), (2, .ref (gad G 81)), (3, .int i)] [] (some ())) : Sm p l e room_1 s m #[Value.ref b] below meth c G 4 (fun _ : Unit => lw_Z below #[Value.ref b] s) c3 s3 (wl G σ) 359 [(0, .ref b), (1, .ref (gad G 0)), (2, .ref (gad G 81)), (3, .int i)] [] (some ()) := by
  obtain ⟨r, z, hr8, hs9, he, hI1⟩ := (hst).2.2.2.2.2.2.1 (xs (i + 1).toNatClampNeg) (xs (i + 2).toNatClampNeg) σ hI
  refine sm_aload_n X 360 1 dL_law_359 rfl rfl rfl ?_
  refine sm_aload_n X 361 0 dL_law_360 rfl rfl rfl ?_
  refine sm_iload_n X 362 3 dL_law_361 rfl rfl rfl ?_
  refine sm_iconst X 363 (1) dL_law_362 rfl rfl ?_
  refine sm_iadd X 364 dL_law_363 rfl ?_
  refine sm_sld X 365 hX hbl hbA hv1 dL_law_364 rfl ?_
  refine sm_aload_n X 366 0 dL_law_365 rfl rfl rfl ?_
  refine sm_iload_n X 367 3 dL_law_366 rfl rfl rfl ?_
  refine sm_iconst X 368 (2) dL_law_367 rfl rfl ?_
  refine sm_iadd X 369 dL_law_368 rfl ?_
  refine sm_sld X 370 hX hbl hbA hv2 dL_law_369 rfl ?_
  refine sm_callV0 X 373 [.int (xs (i + 1).toNatClampNeg), .int (xs (i + 2).toNatClampNeg)] [] [.int r.1] (c_X8_train l G σ (xs (i + 1).toNatClampNeg) (xs (i + 2).toNatClampNeg) r hr8) cw_X8_train q_400 q_401 q_399 (by decide : K0 0 = 8) (by decide) rfl rfl rfl rfl rfl (Nat.le_of_ble_eq_true rfl) ⟨(Nat.le_of_ble_eq_true rfl), (Nat.le_of_ble_eq_true rfl)⟩ hc3 dL_law_370 rfl ?_
  refine sm_pop X 374 dL_law_373 rfl rfl ?_
  refine sm_aload_n X 375 2 dL_law_374 rfl rfl rfl ?_
  refine sm_aload_n X 376 0 dL_law_375 rfl rfl rfl ?_
  refine sm_iload_n X 377 3 dL_law_376 rfl rfl rfl ?_
  refine sm_iconst X 378 (1) dL_law_377 rfl rfl ?_
  refine sm_iadd X 379 dL_law_378 rfl ?_
  refine sm_sld X 380 hX hbl hbA hv1 dL_law_379 rfl ?_
  refine sm_aload_n X 381 0 dL_law_380 rfl rfl rfl ?_
  refine sm_iload_n X 382 3 dL_law_381 rfl rfl rfl ?_
  refine sm_iconst X 383 (2) dL_law_382 rfl rfl ?_
  refine sm_iadd X 384 dL_law_383 rfl ?_
  refine sm_sld X 385 hX hbl hbA hv2 dL_law_384 rfl ?_
  refine sm_callV0 X 388 [.int (xs (i + 1).toNatClampNeg), .int (xs (i + 2).toNatClampNeg)] [] [.int z.1] (c_X9_train l G r.2 (xs (i + 1).toNatClampNeg) (xs (i + 2).toNatClampNeg) z hs9) cw_X9_train q_1093 q_1094 q_1092 (by decide : K0 81 = 9) (by decide) rfl rfl rfl rfl rfl (Nat.le_of_ble_eq_true rfl) ⟨(Nat.le_of_ble_eq_true rfl), (Nat.le_of_ble_eq_true rfl)⟩ hc3 dL_law_385 rfl ?_
  refine sm_pop X 389 dL_law_388 rfl rfl ?_
  refine sm_goto X 1551 dL_law_389 (by decide) ?_
  exact hend z.2 hI1
set_option maxHeartbeats 4000000 in
set_option maxRecDepth 100000 in
theorem law_c6 {p : Program} {e : Env} {s : State} {m : MethodId} {below : List Frame} {meth : Method} {c : Code} (l : Launch) {G : GT} {b L : Nat} {xs : Nat → Int32} (c3 s3 : Nat) (hc3 : c3 ≤ 600000 ∧ s3 ≤ 7302249) (X : Cx p s m #[Value.ref b] meth c code 4 RL G) (hX : va_X b L xs s s.heap) (hbl : b < s.heap.size) (hbA : ¬ smA G b) {I I' : Sto → Prop} (hst : LSt law_eqs I I') (σ : Sto) (hI : I σ) (i : Int32) (hv0 : vp_in i L) (hv1 : vp_in (i + 1) L) (hv2 : vp_in (i + 2) L) (hv3 : vp_in (i + 3) L) (hv4 : vp_in (i + 4) L) (hv5 : vp_in (i + 5) L) (hend : ∀ σ', I' σ' → Sm p l e room_1 s m #[Value.ref b] below meth c G 4 (fun _ : Unit => lw_Z below #[Value.ref b] s) c3 s3 (wl G σ') 1551 [(0, .ref b), (1, .ref (gad G 0)), (2, .ref (gad G 81)), (3, .int i)] [] (some ())) : Sm p l e room_1 s m #[Value.ref b] below meth c G 4 (fun _ : Unit => lw_Z below #[Value.ref b] s) c3 s3 (wl G σ) 392 [(0, .ref b), (1, .ref (gad G 0)), (2, .ref (gad G 81)), (3, .int i)] [] (some ()) := by
  obtain ⟨r, z, hr8, hs9, he, hI1⟩ := (hst).2.2.2.2.2.2.2.1 (xs (i + 1).toNatClampNeg) (xs (i + 2).toNatClampNeg) (xs (i + 3).toNatClampNeg) σ hI
  refine sm_aload_n X 393 1 dL_law_392 rfl rfl rfl ?_
  refine sm_aload_n X 394 0 dL_law_393 rfl rfl rfl ?_
  refine sm_iload_n X 395 3 dL_law_394 rfl rfl rfl ?_
  refine sm_iconst X 396 (1) dL_law_395 rfl rfl ?_
  refine sm_iadd X 397 dL_law_396 rfl ?_
  refine sm_sld X 398 hX hbl hbA hv1 dL_law_397 rfl ?_
  refine sm_aload_n X 399 0 dL_law_398 rfl rfl rfl ?_
  refine sm_iload_n X 400 3 dL_law_399 rfl rfl rfl ?_
  refine sm_iconst X 401 (2) dL_law_400 rfl rfl ?_
  refine sm_iadd X 402 dL_law_401 rfl ?_
  refine sm_sld X 403 hX hbl hbA hv2 dL_law_402 rfl ?_
  refine sm_aload_n X 404 0 dL_law_403 rfl rfl rfl ?_
  refine sm_iload_n X 405 3 dL_law_404 rfl rfl rfl ?_
  refine sm_iconst X 406 (3) dL_law_405 rfl rfl ?_
  refine sm_iadd X 407 dL_law_406 rfl ?_
  refine sm_sld X 408 hX hbl hbA hv3 dL_law_407 rfl ?_
  refine sm_callV0 X 411 [.int (xs (i + 1).toNatClampNeg), .int (xs (i + 2).toNatClampNeg), .int (xs (i + 3).toNatClampNeg)] [] [.int r.1] (c_X8_plan l G σ (xs (i + 1).toNatClampNeg) (xs (i + 2).toNatClampNeg) (xs (i + 3).toNatClampNeg) r hr8) cw_X8_plan q_404 q_405 q_403 (by decide : K0 0 = 8) (by decide) rfl rfl rfl rfl rfl (Nat.le_of_ble_eq_true rfl) ⟨(Nat.le_of_ble_eq_true rfl), (Nat.le_of_ble_eq_true rfl)⟩ hc3 dL_law_408 rfl ?_
  refine sm_pop X 412 dL_law_411 rfl rfl ?_
  refine sm_aload_n X 413 2 dL_law_412 rfl rfl rfl ?_
  refine sm_aload_n X 414 0 dL_law_413 rfl rfl rfl ?_
  refine sm_iload_n X 415 3 dL_law_414 rfl rfl rfl ?_
  refine sm_iconst X 416 (1) dL_law_415 rfl rfl ?_
  refine sm_iadd X 417 dL_law_416 rfl ?_
  refine sm_sld X 418 hX hbl hbA hv1 dL_law_417 rfl ?_
  refine sm_aload_n X 419 0 dL_law_418 rfl rfl rfl ?_
  refine sm_iload_n X 420 3 dL_law_419 rfl rfl rfl ?_
  refine sm_iconst X 421 (2) dL_law_420 rfl rfl ?_
  refine sm_iadd X 422 dL_law_421 rfl ?_
  refine sm_sld X 423 hX hbl hbA hv2 dL_law_422 rfl ?_
  refine sm_aload_n X 424 0 dL_law_423 rfl rfl rfl ?_
  refine sm_iload_n X 425 3 dL_law_424 rfl rfl rfl ?_
  refine sm_iconst X 426 (3) dL_law_425 rfl rfl ?_
  refine sm_iadd X 427 dL_law_426 rfl ?_
  refine sm_sld X 428 hX hbl hbA hv3 dL_law_427 rfl ?_
  refine sm_callV0 X 431 [.int (xs (i + 1).toNatClampNeg), .int (xs (i + 2).toNatClampNeg), .int (xs (i + 3).toNatClampNeg)] [] [.int z.1] (c_X9_plan l G r.2 (xs (i + 1).toNatClampNeg) (xs (i + 2).toNatClampNeg) (xs (i + 3).toNatClampNeg) z hs9) cw_X9_plan q_1098 q_1099 q_1097 (by decide : K0 81 = 9) (by decide) rfl rfl rfl rfl rfl (Nat.le_of_ble_eq_true rfl) ⟨(Nat.le_of_ble_eq_true rfl), (Nat.le_of_ble_eq_true rfl)⟩ hc3 dL_law_428 rfl ?_
  refine sm_pop X 432 dL_law_431 rfl rfl ?_
  refine sm_goto X 1551 dL_law_432 (by decide) ?_
  exact hend z.2 hI1
set_option maxHeartbeats 4000000 in
set_option maxRecDepth 100000 in
theorem law_c7 {p : Program} {e : Env} {s : State} {m : MethodId} {below : List Frame} {meth : Method} {c : Code} (l : Launch) {G : GT} {b L : Nat} {xs : Nat → Int32} (c3 s3 : Nat) (hc3 : c3 ≤ 600000 ∧ s3 ≤ 7302249) (X : Cx p s m #[Value.ref b] meth c code 4 RL G) (hX : va_X b L xs s s.heap) (hbl : b < s.heap.size) (hbA : ¬ smA G b) {I I' : Sto → Prop} (hst : LSt law_eqs I I') (σ : Sto) (hI : I σ) (i : Int32) (hv0 : vp_in i L) (hv1 : vp_in (i + 1) L) (hv2 : vp_in (i + 2) L) (hv3 : vp_in (i + 3) L) (hv4 : vp_in (i + 4) L) (hv5 : vp_in (i + 5) L) (hend : ∀ σ', I' σ' → Sm p l e room_1 s m #[Value.ref b] below meth c G 4 (fun _ : Unit => lw_Z below #[Value.ref b] s) c3 s3 (wl G σ') 1551 [(0, .ref b), (1, .ref (gad G 0)), (2, .ref (gad G 81)), (3, .int i)] [] (some ())) : Sm p l e room_1 s m #[Value.ref b] below meth c G 4 (fun _ : Unit => lw_Z below #[Value.ref b] s) c3 s3 (wl G σ) 435 [(0, .ref b), (1, .ref (gad G 0)), (2, .ref (gad G 81)), (3, .int i)] [] (some ()) := by
  obtain ⟨r, z, hr8, hs9, he, hI1⟩ := (hst).2.2.2.2.2.2.2.2.1 (xs (i + 1).toNatClampNeg) (xs (i + 2).toNatClampNeg) σ hI
  refine sm_aload_n X 436 1 dL_law_435 rfl rfl rfl ?_
  refine sm_aload_n X 437 0 dL_law_436 rfl rfl rfl ?_
  refine sm_iload_n X 438 3 dL_law_437 rfl rfl rfl ?_
  refine sm_iconst X 439 (1) dL_law_438 rfl rfl ?_
  refine sm_iadd X 440 dL_law_439 rfl ?_
  refine sm_sld X 441 hX hbl hbA hv1 dL_law_440 rfl ?_
  refine sm_aload_n X 442 0 dL_law_441 rfl rfl rfl ?_
  refine sm_iload_n X 443 3 dL_law_442 rfl rfl rfl ?_
  refine sm_iconst X 444 (2) dL_law_443 rfl rfl ?_
  refine sm_iadd X 445 dL_law_444 rfl ?_
  refine sm_sld X 446 hX hbl hbA hv2 dL_law_445 rfl ?_
  refine sm_callV0 X 449 [.int (xs (i + 1).toNatClampNeg), .int (xs (i + 2).toNatClampNeg)] [] [.int r.1] (c_X8_become l G σ (xs (i + 1).toNatClampNeg) (xs (i + 2).toNatClampNeg) r hr8) cw_X8_become q_408 q_409 q_407 (by decide : K0 0 = 8) (by decide) rfl rfl rfl rfl rfl (Nat.le_of_ble_eq_true rfl) ⟨(Nat.le_of_ble_eq_true rfl), (Nat.le_of_ble_eq_true rfl)⟩ hc3 dL_law_446 rfl ?_
  refine sm_pop X 450 dL_law_449 rfl rfl ?_
  refine sm_aload_n X 451 2 dL_law_450 rfl rfl rfl ?_
  refine sm_aload_n X 452 0 dL_law_451 rfl rfl rfl ?_
  refine sm_iload_n X 453 3 dL_law_452 rfl rfl rfl ?_
  refine sm_iconst X 454 (1) dL_law_453 rfl rfl ?_
  refine sm_iadd X 455 dL_law_454 rfl ?_
  refine sm_sld X 456 hX hbl hbA hv1 dL_law_455 rfl ?_
  refine sm_aload_n X 457 0 dL_law_456 rfl rfl rfl ?_
  refine sm_iload_n X 458 3 dL_law_457 rfl rfl rfl ?_
  refine sm_iconst X 459 (2) dL_law_458 rfl rfl ?_
  refine sm_iadd X 460 dL_law_459 rfl ?_
  refine sm_sld X 461 hX hbl hbA hv2 dL_law_460 rfl ?_
  refine sm_callV0 X 464 [.int (xs (i + 1).toNatClampNeg), .int (xs (i + 2).toNatClampNeg)] [] [.int z.1] (c_X9_become l G r.2 (xs (i + 1).toNatClampNeg) (xs (i + 2).toNatClampNeg) z hs9) cw_X9_become q_1102 q_1103 q_1101 (by decide : K0 81 = 9) (by decide) rfl rfl rfl rfl rfl (Nat.le_of_ble_eq_true rfl) ⟨(Nat.le_of_ble_eq_true rfl), (Nat.le_of_ble_eq_true rfl)⟩ hc3 dL_law_461 rfl ?_
  refine sm_pop X 465 dL_law_464 rfl rfl ?_
  refine sm_goto X 1551 dL_law_465 (by decide) ?_
  exact hend z.2 hI1
set_option maxHeartbeats 4000000 in
set_option maxRecDepth 100000 in
theorem law_c8 {p : Program} {e : Env} {s : State} {m : MethodId} {below : List Frame} {meth : Method} {c : Code} (l : Launch) {G : GT} {b L : Nat} {xs : Nat → Int32} (c3 s3 : Nat) (hc3 : c3 ≤ 600000 ∧ s3 ≤ 7302249) (X : Cx p s m #[Value.ref b] meth c code 4 RL G) (hX : va_X b L xs s s.heap) (hbl : b < s.heap.size) (hbA : ¬ smA G b) {I I' : Sto → Prop} (hst : LSt law_eqs I I') (σ : Sto) (hI : I σ) (i : Int32) (hv0 : vp_in i L) (hv1 : vp_in (i + 1) L) (hv2 : vp_in (i + 2) L) (hv3 : vp_in (i + 3) L) (hv4 : vp_in (i + 4) L) (hv5 : vp_in (i + 5) L) (hend : ∀ σ', I' σ' → Sm p l e room_1 s m #[Value.ref b] below meth c G 4 (fun _ : Unit => lw_Z below #[Value.ref b] s) c3 s3 (wl G σ') 1551 [(0, .ref b), (1, .ref (gad G 0)), (2, .ref (gad G 81)), (3, .int i)] [] (some ())) : Sm p l e room_1 s m #[Value.ref b] below meth c G 4 (fun _ : Unit => lw_Z below #[Value.ref b] s) c3 s3 (wl G σ) 468 [(0, .ref b), (1, .ref (gad G 0)), (2, .ref (gad G 81)), (3, .int i)] [] (some ()) := by
  obtain ⟨r, z, hr8, hs9, he, hI1⟩ := (hst).2.2.2.2.2.2.2.2.2.1 (xs (i + 1).toNatClampNeg) (xs (i + 2).toNatClampNeg) σ hI
  refine sm_aload_n X 469 1 dL_law_468 rfl rfl rfl ?_
  refine sm_aload_n X 470 0 dL_law_469 rfl rfl rfl ?_
  refine sm_iload_n X 471 3 dL_law_470 rfl rfl rfl ?_
  refine sm_iconst X 472 (1) dL_law_471 rfl rfl ?_
  refine sm_iadd X 473 dL_law_472 rfl ?_
  refine sm_sld X 474 hX hbl hbA hv1 dL_law_473 rfl ?_
  refine sm_aload_n X 475 0 dL_law_474 rfl rfl rfl ?_
  refine sm_iload_n X 476 3 dL_law_475 rfl rfl rfl ?_
  refine sm_iconst X 477 (2) dL_law_476 rfl rfl ?_
  refine sm_iadd X 478 dL_law_477 rfl ?_
  refine sm_sld X 479 hX hbl hbA hv2 dL_law_478 rfl ?_
  refine sm_callV0 X 482 [.int (xs (i + 1).toNatClampNeg), .int (xs (i + 2).toNatClampNeg)] [] [.int r.1] (c_X8_as l G σ (xs (i + 1).toNatClampNeg) (xs (i + 2).toNatClampNeg) r hr8) cw_X8_as q_413 q_414 q_412 (by decide : K0 0 = 8) (by decide) rfl rfl rfl rfl rfl (Nat.le_of_ble_eq_true rfl) ⟨(Nat.le_of_ble_eq_true rfl), (Nat.le_of_ble_eq_true rfl)⟩ hc3 dL_law_479 rfl ?_
  refine sm_pop X 483 dL_law_482 rfl rfl ?_
  refine sm_aload_n X 484 2 dL_law_483 rfl rfl rfl ?_
  refine sm_aload_n X 485 0 dL_law_484 rfl rfl rfl ?_
  refine sm_iload_n X 486 3 dL_law_485 rfl rfl rfl ?_
  refine sm_iconst X 487 (1) dL_law_486 rfl rfl ?_
  refine sm_iadd X 488 dL_law_487 rfl ?_
  refine sm_sld X 489 hX hbl hbA hv1 dL_law_488 rfl ?_
  refine sm_aload_n X 490 0 dL_law_489 rfl rfl rfl ?_
  refine sm_iload_n X 491 3 dL_law_490 rfl rfl rfl ?_
  refine sm_iconst X 492 (2) dL_law_491 rfl rfl ?_
  refine sm_iadd X 493 dL_law_492 rfl ?_
  refine sm_sld X 494 hX hbl hbA hv2 dL_law_493 rfl ?_
  refine sm_callV0 X 497 [.int (xs (i + 1).toNatClampNeg), .int (xs (i + 2).toNatClampNeg)] [] [.int z.1] (c_X9_as l G r.2 (xs (i + 1).toNatClampNeg) (xs (i + 2).toNatClampNeg) z hs9) cw_X9_as q_1106 q_1107 q_1105 (by decide : K0 81 = 9) (by decide) rfl rfl rfl rfl rfl (Nat.le_of_ble_eq_true rfl) ⟨(Nat.le_of_ble_eq_true rfl), (Nat.le_of_ble_eq_true rfl)⟩ hc3 dL_law_494 rfl ?_
  refine sm_pop X 498 dL_law_497 rfl rfl ?_
  refine sm_goto X 1551 dL_law_498 (by decide) ?_
  exact hend z.2 hI1
set_option maxHeartbeats 4000000 in
set_option maxRecDepth 100000 in
theorem law_c9 {p : Program} {e : Env} {s : State} {m : MethodId} {below : List Frame} {meth : Method} {c : Code} (l : Launch) {G : GT} {b L : Nat} {xs : Nat → Int32} (c3 s3 : Nat) (hc3 : c3 ≤ 600000 ∧ s3 ≤ 7302249) (X : Cx p s m #[Value.ref b] meth c code 4 RL G) (hX : va_X b L xs s s.heap) (hbl : b < s.heap.size) (hbA : ¬ smA G b) {I I' : Sto → Prop} (hst : LSt law_eqs I I') (σ : Sto) (hI : I σ) (i : Int32) (hv0 : vp_in i L) (hv1 : vp_in (i + 1) L) (hv2 : vp_in (i + 2) L) (hv3 : vp_in (i + 3) L) (hv4 : vp_in (i + 4) L) (hv5 : vp_in (i + 5) L) (hend : ∀ σ', I' σ' → Sm p l e room_1 s m #[Value.ref b] below meth c G 4 (fun _ : Unit => lw_Z below #[Value.ref b] s) c3 s3 (wl G σ') 1551 [(0, .ref b), (1, .ref (gad G 0)), (2, .ref (gad G 81)), (3, .int i)] [] (some ())) : Sm p l e room_1 s m #[Value.ref b] below meth c G 4 (fun _ : Unit => lw_Z below #[Value.ref b] s) c3 s3 (wl G σ) 501 [(0, .ref b), (1, .ref (gad G 0)), (2, .ref (gad G 81)), (3, .int i)] [] (some ()) := by
  obtain ⟨r, z, hr8, hs9, he, hI1⟩ := (hst).2.2.2.2.2.2.2.2.2.2.1 (xs (i + 1).toNatClampNeg) (xs (i + 2).toNatClampNeg) σ hI
  refine sm_aload_n X 502 1 dL_law_501 rfl rfl rfl ?_
  refine sm_aload_n X 503 0 dL_law_502 rfl rfl rfl ?_
  refine sm_iload_n X 504 3 dL_law_503 rfl rfl rfl ?_
  refine sm_iconst X 505 (1) dL_law_504 rfl rfl ?_
  refine sm_iadd X 506 dL_law_505 rfl ?_
  refine sm_sld X 507 hX hbl hbA hv1 dL_law_506 rfl ?_
  refine sm_aload_n X 508 0 dL_law_507 rfl rfl rfl ?_
  refine sm_iload_n X 509 3 dL_law_508 rfl rfl rfl ?_
  refine sm_iconst X 510 (2) dL_law_509 rfl rfl ?_
  refine sm_iadd X 511 dL_law_510 rfl ?_
  refine sm_sld X 512 hX hbl hbA hv2 dL_law_511 rfl ?_
  refine sm_callV0 X 515 [.int (xs (i + 1).toNatClampNeg), .int (xs (i + 2).toNatClampNeg)] [] [.int r.1] (c_X8_pace l G σ (xs (i + 1).toNatClampNeg) (xs (i + 2).toNatClampNeg) r hr8) cw_X8_pace q_422 q_423 q_421 (by decide : K0 0 = 8) (by decide) rfl rfl rfl rfl rfl (Nat.le_of_ble_eq_true rfl) ⟨(Nat.le_of_ble_eq_true rfl), (Nat.le_of_ble_eq_true rfl)⟩ hc3 dL_law_512 rfl ?_
  refine sm_pop X 516 dL_law_515 rfl rfl ?_
  refine sm_aload_n X 517 2 dL_law_516 rfl rfl rfl ?_
  refine sm_aload_n X 518 0 dL_law_517 rfl rfl rfl ?_
  refine sm_iload_n X 519 3 dL_law_518 rfl rfl rfl ?_
  refine sm_iconst X 520 (1) dL_law_519 rfl rfl ?_
  refine sm_iadd X 521 dL_law_520 rfl ?_
  refine sm_sld X 522 hX hbl hbA hv1 dL_law_521 rfl ?_
  refine sm_aload_n X 523 0 dL_law_522 rfl rfl rfl ?_
  refine sm_iload_n X 524 3 dL_law_523 rfl rfl rfl ?_
  refine sm_iconst X 525 (2) dL_law_524 rfl rfl ?_
  refine sm_iadd X 526 dL_law_525 rfl ?_
  refine sm_sld X 527 hX hbl hbA hv2 dL_law_526 rfl ?_
  refine sm_callV0 X 530 [.int (xs (i + 1).toNatClampNeg), .int (xs (i + 2).toNatClampNeg)] [] [.int z.1] (c_X9_pace l G r.2 (xs (i + 1).toNatClampNeg) (xs (i + 2).toNatClampNeg) z hs9) cw_X9_pace q_1114 q_1115 q_1113 (by decide : K0 81 = 9) (by decide) rfl rfl rfl rfl rfl (Nat.le_of_ble_eq_true rfl) ⟨(Nat.le_of_ble_eq_true rfl), (Nat.le_of_ble_eq_true rfl)⟩ hc3 dL_law_527 rfl ?_
  refine sm_pop X 531 dL_law_530 rfl rfl ?_
  refine sm_goto X 1551 dL_law_531 (by decide) ?_
  exact hend z.2 hI1
set_option maxHeartbeats 4000000 in
set_option maxRecDepth 100000 in
theorem law_c10 {p : Program} {e : Env} {s : State} {m : MethodId} {below : List Frame} {meth : Method} {c : Code} (l : Launch) {G : GT} {b L : Nat} {xs : Nat → Int32} (c3 s3 : Nat) (hc3 : c3 ≤ 600000 ∧ s3 ≤ 7302249) (X : Cx p s m #[Value.ref b] meth c code 4 RL G) (hX : va_X b L xs s s.heap) (hbl : b < s.heap.size) (hbA : ¬ smA G b) {I I' : Sto → Prop} (hst : LSt law_eqs I I') (σ : Sto) (hI : I σ) (i : Int32) (hv0 : vp_in i L) (hv1 : vp_in (i + 1) L) (hv2 : vp_in (i + 2) L) (hv3 : vp_in (i + 3) L) (hv4 : vp_in (i + 4) L) (hv5 : vp_in (i + 5) L) (hend : ∀ σ', I' σ' → Sm p l e room_1 s m #[Value.ref b] below meth c G 4 (fun _ : Unit => lw_Z below #[Value.ref b] s) c3 s3 (wl G σ') 1551 [(0, .ref b), (1, .ref (gad G 0)), (2, .ref (gad G 81)), (3, .int i)] [] (some ())) : Sm p l e room_1 s m #[Value.ref b] below meth c G 4 (fun _ : Unit => lw_Z below #[Value.ref b] s) c3 s3 (wl G σ) 534 [(0, .ref b), (1, .ref (gad G 0)), (2, .ref (gad G 81)), (3, .int i)] [] (some ()) := by
  obtain ⟨r, z, hr8, hs9, he, hI1⟩ := (hst).2.2.2.2.2.2.2.2.2.2.2.1 ((lshl ((xs (i + 1).toNatClampNeg).toInt64) 32) ||| (((xs (i + 2).toNatClampNeg).toInt64) &&& ((4294967295 : Int64)))) (xs (i + 3).toNatClampNeg) σ hI
  refine sm_aload_n X 535 1 dL_law_534 rfl rfl rfl ?_
  refine sm_aload_n X 536 0 dL_law_535 rfl rfl rfl ?_
  refine sm_iload_n X 537 3 dL_law_536 rfl rfl rfl ?_
  refine sm_iconst X 538 (1) dL_law_537 rfl rfl ?_
  refine sm_iadd X 539 dL_law_538 rfl ?_
  refine sm_sld X 540 hX hbl hbA hv1 dL_law_539 rfl ?_
  refine sm_i2l X 541 dL_law_540 rfl ?_
  refine sm_bipush X 543 (32) dL_law_541 rfl rfl ?_
  refine sm_lshl X 544 dL_law_543 rfl ?_
  refine sm_aload_n X 545 0 dL_law_544 rfl rfl rfl ?_
  refine sm_iload_n X 546 3 dL_law_545 rfl rfl rfl ?_
  refine sm_iconst X 547 (2) dL_law_546 rfl rfl ?_
  refine sm_iadd X 548 dL_law_547 rfl ?_
  refine sm_sld X 549 hX hbl hbA hv2 dL_law_548 rfl ?_
  refine sm_i2l X 550 dL_law_549 rfl ?_
  refine sm_ldc2 X 553 (4294967295) dL_law_550 rfl q_1313 ?_
  refine sm_land X 554 dL_law_553 rfl ?_
  refine sm_lor X 555 dL_law_554 rfl ?_
  refine sm_aload_n X 556 0 dL_law_555 rfl rfl rfl ?_
  refine sm_iload_n X 557 3 dL_law_556 rfl rfl rfl ?_
  refine sm_iconst X 558 (3) dL_law_557 rfl rfl ?_
  refine sm_iadd X 559 dL_law_558 rfl ?_
  refine sm_sld X 560 hX hbl hbA hv3 dL_law_559 rfl ?_
  refine sm_callV0 X 563 [.long ((lshl ((xs (i + 1).toNatClampNeg).toInt64) 32) ||| (((xs (i + 2).toNatClampNeg).toInt64) &&& ((4294967295 : Int64)))), .int (xs (i + 3).toNatClampNeg)] [] [.int r.1] (c_X8_feed l G σ ((lshl ((xs (i + 1).toNatClampNeg).toInt64) 32) ||| (((xs (i + 2).toNatClampNeg).toInt64) &&& ((4294967295 : Int64)))) (xs (i + 3).toNatClampNeg) r hr8) cw_X8_feed q_434 q_435 q_433 (by decide : K0 0 = 8) (by decide) rfl rfl rfl rfl rfl (Nat.le_of_ble_eq_true rfl) ⟨(Nat.le_of_ble_eq_true rfl), (Nat.le_of_ble_eq_true rfl)⟩ hc3 dL_law_560 rfl ?_
  refine sm_pop X 564 dL_law_563 rfl rfl ?_
  refine sm_aload_n X 565 2 dL_law_564 rfl rfl rfl ?_
  refine sm_aload_n X 566 0 dL_law_565 rfl rfl rfl ?_
  refine sm_iload_n X 567 3 dL_law_566 rfl rfl rfl ?_
  refine sm_iconst X 568 (1) dL_law_567 rfl rfl ?_
  refine sm_iadd X 569 dL_law_568 rfl ?_
  refine sm_sld X 570 hX hbl hbA hv1 dL_law_569 rfl ?_
  refine sm_i2l X 571 dL_law_570 rfl ?_
  refine sm_bipush X 573 (32) dL_law_571 rfl rfl ?_
  refine sm_lshl X 574 dL_law_573 rfl ?_
  refine sm_aload_n X 575 0 dL_law_574 rfl rfl rfl ?_
  refine sm_iload_n X 576 3 dL_law_575 rfl rfl rfl ?_
  refine sm_iconst X 577 (2) dL_law_576 rfl rfl ?_
  refine sm_iadd X 578 dL_law_577 rfl ?_
  refine sm_sld X 579 hX hbl hbA hv2 dL_law_578 rfl ?_
  refine sm_i2l X 580 dL_law_579 rfl ?_
  refine sm_ldc2 X 583 (4294967295) dL_law_580 rfl q_1313 ?_
  refine sm_land X 584 dL_law_583 rfl ?_
  refine sm_lor X 585 dL_law_584 rfl ?_
  refine sm_aload_n X 586 0 dL_law_585 rfl rfl rfl ?_
  refine sm_iload_n X 587 3 dL_law_586 rfl rfl rfl ?_
  refine sm_iconst X 588 (3) dL_law_587 rfl rfl ?_
  refine sm_iadd X 589 dL_law_588 rfl ?_
  refine sm_sld X 590 hX hbl hbA hv3 dL_law_589 rfl ?_
  refine sm_callV0 X 593 [.long ((lshl ((xs (i + 1).toNatClampNeg).toInt64) 32) ||| (((xs (i + 2).toNatClampNeg).toInt64) &&& ((4294967295 : Int64)))), .int (xs (i + 3).toNatClampNeg)] [] [.int z.1] (c_X9_feed l G r.2 ((lshl ((xs (i + 1).toNatClampNeg).toInt64) 32) ||| (((xs (i + 2).toNatClampNeg).toInt64) &&& ((4294967295 : Int64)))) (xs (i + 3).toNatClampNeg) z hs9) cw_X9_feed q_956 q_957 q_955 (by decide : K0 81 = 9) (by decide) rfl rfl rfl rfl rfl (Nat.le_of_ble_eq_true rfl) ⟨(Nat.le_of_ble_eq_true rfl), (Nat.le_of_ble_eq_true rfl)⟩ hc3 dL_law_590 rfl ?_
  refine sm_pop X 594 dL_law_593 rfl rfl ?_
  refine sm_goto X 1551 dL_law_594 (by decide) ?_
  exact hend z.2 hI1
set_option maxHeartbeats 4000000 in
set_option maxRecDepth 100000 in
theorem law_c11 {p : Program} {e : Env} {s : State} {m : MethodId} {below : List Frame} {meth : Method} {c : Code} (l : Launch) {G : GT} {b L : Nat} {xs : Nat → Int32} (c3 s3 : Nat) (hc3 : c3 ≤ 600000 ∧ s3 ≤ 7302249) (X : Cx p s m #[Value.ref b] meth c code 4 RL G) (hX : va_X b L xs s s.heap) (hbl : b < s.heap.size) (hbA : ¬ smA G b) {I I' : Sto → Prop} (hst : LSt law_eqs I I') (σ : Sto) (hI : I σ) (i : Int32) (hv0 : vp_in i L) (hv1 : vp_in (i + 1) L) (hv2 : vp_in (i + 2) L) (hv3 : vp_in (i + 3) L) (hv4 : vp_in (i + 4) L) (hv5 : vp_in (i + 5) L) (hend : ∀ σ', I' σ' → Sm p l e room_1 s m #[Value.ref b] below meth c G 4 (fun _ : Unit => lw_Z below #[Value.ref b] s) c3 s3 (wl G σ') 1551 [(0, .ref b), (1, .ref (gad G 0)), (2, .ref (gad G 81)), (3, .int i)] [] (some ())) : Sm p l e room_1 s m #[Value.ref b] below meth c G 4 (fun _ : Unit => lw_Z below #[Value.ref b] s) c3 s3 (wl G σ) 597 [(0, .ref b), (1, .ref (gad G 0)), (2, .ref (gad G 81)), (3, .int i)] [] (some ()) := by
  obtain ⟨r, z, hr8, hs9, he, hI1⟩ := (hst).2.2.2.2.2.2.2.2.2.2.2.2.1 (xs (i + 1).toNatClampNeg) σ hI
  refine sm_aload_n X 598 1 dL_law_597 rfl rfl rfl ?_
  refine sm_aload_n X 599 0 dL_law_598 rfl rfl rfl ?_
  refine sm_iload_n X 600 3 dL_law_599 rfl rfl rfl ?_
  refine sm_iconst X 601 (1) dL_law_600 rfl rfl ?_
  refine sm_iadd X 602 dL_law_601 rfl ?_
  refine sm_sld X 603 hX hbl hbA hv1 dL_law_602 rfl ?_
  refine sm_callV0 X 606 [.int (xs (i + 1).toNatClampNeg)] [] [.int r.1] (c_X8_text l G σ (xs (i + 1).toNatClampNeg) r hr8) cw_X8_text q_442 q_443 q_441 (by decide : K0 0 = 8) (by decide) rfl rfl rfl rfl rfl (Nat.le_of_ble_eq_true rfl) ⟨(Nat.le_of_ble_eq_true rfl), (Nat.le_of_ble_eq_true rfl)⟩ hc3 dL_law_603 rfl ?_
  refine sm_pop X 607 dL_law_606 rfl rfl ?_
  refine sm_aload_n X 608 2 dL_law_607 rfl rfl rfl ?_
  refine sm_aload_n X 609 0 dL_law_608 rfl rfl rfl ?_
  refine sm_iload_n X 610 3 dL_law_609 rfl rfl rfl ?_
  refine sm_iconst X 611 (1) dL_law_610 rfl rfl ?_
  refine sm_iadd X 612 dL_law_611 rfl ?_
  refine sm_sld X 613 hX hbl hbA hv1 dL_law_612 rfl ?_
  refine sm_callV0 X 616 [.int (xs (i + 1).toNatClampNeg)] [] [.int z.1] (c_X9_text l G r.2 (xs (i + 1).toNatClampNeg) z hs9) cw_X9_text q_970 q_971 q_969 (by decide : K0 81 = 9) (by decide) rfl rfl rfl rfl rfl (Nat.le_of_ble_eq_true rfl) ⟨(Nat.le_of_ble_eq_true rfl), (Nat.le_of_ble_eq_true rfl)⟩ hc3 dL_law_613 rfl ?_
  refine sm_pop X 617 dL_law_616 rfl rfl ?_
  refine sm_goto X 1551 dL_law_617 (by decide) ?_
  exact hend z.2 hI1
set_option maxHeartbeats 4000000 in
set_option maxRecDepth 100000 in
theorem law_c12 {p : Program} {e : Env} {s : State} {m : MethodId} {below : List Frame} {meth : Method} {c : Code} (l : Launch) {G : GT} {b L : Nat} {xs : Nat → Int32} (c3 s3 : Nat) (hc3 : c3 ≤ 600000 ∧ s3 ≤ 7302249) (X : Cx p s m #[Value.ref b] meth c code 4 RL G) (hX : va_X b L xs s s.heap) (hbl : b < s.heap.size) (hbA : ¬ smA G b) {I I' : Sto → Prop} (hst : LSt law_eqs I I') (σ : Sto) (hI : I σ) (i : Int32) (hv0 : vp_in i L) (hv1 : vp_in (i + 1) L) (hv2 : vp_in (i + 2) L) (hv3 : vp_in (i + 3) L) (hv4 : vp_in (i + 4) L) (hv5 : vp_in (i + 5) L) (hend : ∀ σ', I' σ' → Sm p l e room_1 s m #[Value.ref b] below meth c G 4 (fun _ : Unit => lw_Z below #[Value.ref b] s) c3 s3 (wl G σ') 1551 [(0, .ref b), (1, .ref (gad G 0)), (2, .ref (gad G 81)), (3, .int i)] [] (some ())) : Sm p l e room_1 s m #[Value.ref b] below meth c G 4 (fun _ : Unit => lw_Z below #[Value.ref b] s) c3 s3 (wl G σ) 620 [(0, .ref b), (1, .ref (gad G 0)), (2, .ref (gad G 81)), (3, .int i)] [] (some ()) := by
  obtain ⟨r, z, hr8, hs9, he, hI1⟩ := (hst).2.2.2.2.2.2.2.2.2.2.2.2.2.1 (xs (i + 1).toNatClampNeg) (xs (i + 2).toNatClampNeg) (xs (i + 3).toNatClampNeg) (xs (i + 4).toNatClampNeg) σ hI
  refine sm_aload_n X 621 1 dL_law_620 rfl rfl rfl ?_
  refine sm_aload_n X 622 0 dL_law_621 rfl rfl rfl ?_
  refine sm_iload_n X 623 3 dL_law_622 rfl rfl rfl ?_
  refine sm_iconst X 624 (1) dL_law_623 rfl rfl ?_
  refine sm_iadd X 625 dL_law_624 rfl ?_
  refine sm_sld X 626 hX hbl hbA hv1 dL_law_625 rfl ?_
  refine sm_aload_n X 627 0 dL_law_626 rfl rfl rfl ?_
  refine sm_iload_n X 628 3 dL_law_627 rfl rfl rfl ?_
  refine sm_iconst X 629 (2) dL_law_628 rfl rfl ?_
  refine sm_iadd X 630 dL_law_629 rfl ?_
  refine sm_sld X 631 hX hbl hbA hv2 dL_law_630 rfl ?_
  refine sm_aload_n X 632 0 dL_law_631 rfl rfl rfl ?_
  refine sm_iload_n X 633 3 dL_law_632 rfl rfl rfl ?_
  refine sm_iconst X 634 (3) dL_law_633 rfl rfl ?_
  refine sm_iadd X 635 dL_law_634 rfl ?_
  refine sm_sld X 636 hX hbl hbA hv3 dL_law_635 rfl ?_
  refine sm_aload_n X 637 0 dL_law_636 rfl rfl rfl ?_
  refine sm_iload_n X 638 3 dL_law_637 rfl rfl rfl ?_
  refine sm_iconst X 639 (4) dL_law_638 rfl rfl ?_
  refine sm_iadd X 640 dL_law_639 rfl ?_
  refine sm_sld X 641 hX hbl hbA hv4 dL_law_640 rfl ?_
  refine sm_callV0 X 644 [.int (xs (i + 1).toNatClampNeg), .int (xs (i + 2).toNatClampNeg), .int (xs (i + 3).toNatClampNeg), .int (xs (i + 4).toNatClampNeg)] [] [.int r.1] (c_X8_law l G σ (xs (i + 1).toNatClampNeg) (xs (i + 2).toNatClampNeg) (xs (i + 3).toNatClampNeg) (xs (i + 4).toNatClampNeg) r hr8) cw_X8_law q_594 q_595 q_593 (by decide : K0 0 = 8) (by decide) rfl rfl rfl rfl rfl (Nat.le_of_ble_eq_true rfl) ⟨(Nat.le_of_ble_eq_true rfl), (Nat.le_of_ble_eq_true rfl)⟩ hc3 dL_law_641 rfl ?_
  refine sm_pop X 645 dL_law_644 rfl rfl ?_
  refine sm_aload_n X 646 2 dL_law_645 rfl rfl rfl ?_
  refine sm_aload_n X 647 0 dL_law_646 rfl rfl rfl ?_
  refine sm_iload_n X 648 3 dL_law_647 rfl rfl rfl ?_
  refine sm_iconst X 649 (1) dL_law_648 rfl rfl ?_
  refine sm_iadd X 650 dL_law_649 rfl ?_
  refine sm_sld X 651 hX hbl hbA hv1 dL_law_650 rfl ?_
  refine sm_aload_n X 652 0 dL_law_651 rfl rfl rfl ?_
  refine sm_iload_n X 653 3 dL_law_652 rfl rfl rfl ?_
  refine sm_iconst X 654 (2) dL_law_653 rfl rfl ?_
  refine sm_iadd X 655 dL_law_654 rfl ?_
  refine sm_sld X 656 hX hbl hbA hv2 dL_law_655 rfl ?_
  refine sm_aload_n X 657 0 dL_law_656 rfl rfl rfl ?_
  refine sm_iload_n X 658 3 dL_law_657 rfl rfl rfl ?_
  refine sm_iconst X 659 (3) dL_law_658 rfl rfl ?_
  refine sm_iadd X 660 dL_law_659 rfl ?_
  refine sm_sld X 661 hX hbl hbA hv3 dL_law_660 rfl ?_
  refine sm_aload_n X 662 0 dL_law_661 rfl rfl rfl ?_
  refine sm_iload_n X 663 3 dL_law_662 rfl rfl rfl ?_
  refine sm_iconst X 664 (4) dL_law_663 rfl rfl ?_
  refine sm_iadd X 665 dL_law_664 rfl ?_
  refine sm_sld X 666 hX hbl hbA hv4 dL_law_665 rfl ?_
  refine sm_callV0 X 669 [.int (xs (i + 1).toNatClampNeg), .int (xs (i + 2).toNatClampNeg), .int (xs (i + 3).toNatClampNeg), .int (xs (i + 4).toNatClampNeg)] [] [.int z.1] (c_X9_law l G r.2 (xs (i + 1).toNatClampNeg) (xs (i + 2).toNatClampNeg) (xs (i + 3).toNatClampNeg) (xs (i + 4).toNatClampNeg) z hs9) cw_X9_law q_1028 q_1029 q_1027 (by decide : K0 81 = 9) (by decide) rfl rfl rfl rfl rfl (Nat.le_of_ble_eq_true rfl) ⟨(Nat.le_of_ble_eq_true rfl), (Nat.le_of_ble_eq_true rfl)⟩ hc3 dL_law_666 rfl ?_
  refine sm_pop X 670 dL_law_669 rfl rfl ?_
  refine sm_goto X 1551 dL_law_670 (by decide) ?_
  exact hend z.2 hI1
set_option maxHeartbeats 4000000 in
set_option maxRecDepth 100000 in
theorem law_c13 {p : Program} {e : Env} {s : State} {m : MethodId} {below : List Frame} {meth : Method} {c : Code} (l : Launch) {G : GT} {b L : Nat} {xs : Nat → Int32} (c3 s3 : Nat) (hc3 : c3 ≤ 600000 ∧ s3 ≤ 7302249) (X : Cx p s m #[Value.ref b] meth c code 4 RL G) (hX : va_X b L xs s s.heap) (hbl : b < s.heap.size) (hbA : ¬ smA G b) {I I' : Sto → Prop} (hst : LSt law_eqs I I') (σ : Sto) (hI : I σ) (i : Int32) (hv0 : vp_in i L) (hv1 : vp_in (i + 1) L) (hv2 : vp_in (i + 2) L) (hv3 : vp_in (i + 3) L) (hv4 : vp_in (i + 4) L) (hv5 : vp_in (i + 5) L) (hend : ∀ σ', I' σ' → Sm p l e room_1 s m #[Value.ref b] below meth c G 4 (fun _ : Unit => lw_Z below #[Value.ref b] s) c3 s3 (wl G σ') 1551 [(0, .ref b), (1, .ref (gad G 0)), (2, .ref (gad G 81)), (3, .int i)] [] (some ())) : Sm p l e room_1 s m #[Value.ref b] below meth c G 4 (fun _ : Unit => lw_Z below #[Value.ref b] s) c3 s3 (wl G σ) 673 [(0, .ref b), (1, .ref (gad G 0)), (2, .ref (gad G 81)), (3, .int i)] [] (some ()) := by
  obtain ⟨r, z, hr8, hs9, he, hI1⟩ := (hst).2.2.2.2.2.2.2.2.2.2.2.2.2.2.1 (xs (i + 1).toNatClampNeg) (xs (i + 2).toNatClampNeg) σ hI
  refine sm_aload_n X 674 1 dL_law_673 rfl rfl rfl ?_
  refine sm_aload_n X 675 0 dL_law_674 rfl rfl rfl ?_
  refine sm_iload_n X 676 3 dL_law_675 rfl rfl rfl ?_
  refine sm_iconst X 677 (1) dL_law_676 rfl rfl ?_
  refine sm_iadd X 678 dL_law_677 rfl ?_
  refine sm_sld X 679 hX hbl hbA hv1 dL_law_678 rfl ?_
  refine sm_aload_n X 680 0 dL_law_679 rfl rfl rfl ?_
  refine sm_iload_n X 681 3 dL_law_680 rfl rfl rfl ?_
  refine sm_iconst X 682 (2) dL_law_681 rfl rfl ?_
  refine sm_iadd X 683 dL_law_682 rfl ?_
  refine sm_sld X 684 hX hbl hbA hv2 dL_law_683 rfl ?_
  refine sm_callV0 X 687 [.int (xs (i + 1).toNatClampNeg), .int (xs (i + 2).toNatClampNeg)] [] [.int r.1] (c_X8_where l G σ (xs (i + 1).toNatClampNeg) (xs (i + 2).toNatClampNeg) r hr8) cw_X8_where q_599 q_600 q_598 (by decide : K0 0 = 8) (by decide) rfl rfl rfl rfl rfl (Nat.le_of_ble_eq_true rfl) ⟨(Nat.le_of_ble_eq_true rfl), (Nat.le_of_ble_eq_true rfl)⟩ hc3 dL_law_684 rfl ?_
  refine sm_pop X 688 dL_law_687 rfl rfl ?_
  refine sm_aload_n X 689 2 dL_law_688 rfl rfl rfl ?_
  refine sm_aload_n X 690 0 dL_law_689 rfl rfl rfl ?_
  refine sm_iload_n X 691 3 dL_law_690 rfl rfl rfl ?_
  refine sm_iconst X 692 (1) dL_law_691 rfl rfl ?_
  refine sm_iadd X 693 dL_law_692 rfl ?_
  refine sm_sld X 694 hX hbl hbA hv1 dL_law_693 rfl ?_
  refine sm_aload_n X 695 0 dL_law_694 rfl rfl rfl ?_
  refine sm_iload_n X 696 3 dL_law_695 rfl rfl rfl ?_
  refine sm_iconst X 697 (2) dL_law_696 rfl rfl ?_
  refine sm_iadd X 698 dL_law_697 rfl ?_
  refine sm_sld X 699 hX hbl hbA hv2 dL_law_698 rfl ?_
  refine sm_callV0 X 702 [.int (xs (i + 1).toNatClampNeg), .int (xs (i + 2).toNatClampNeg)] [] [.int z.1] (c_X9_where l G r.2 (xs (i + 1).toNatClampNeg) (xs (i + 2).toNatClampNeg) z hs9) cw_X9_where q_1126 q_1127 q_1125 (by decide : K0 81 = 9) (by decide) rfl rfl rfl rfl rfl (Nat.le_of_ble_eq_true rfl) ⟨(Nat.le_of_ble_eq_true rfl), (Nat.le_of_ble_eq_true rfl)⟩ hc3 dL_law_699 rfl ?_
  refine sm_pop X 703 dL_law_702 rfl rfl ?_
  refine sm_goto X 1551 dL_law_703 (by decide) ?_
  exact hend z.2 hI1
set_option maxHeartbeats 4000000 in
set_option maxRecDepth 100000 in
theorem law_c14 {p : Program} {e : Env} {s : State} {m : MethodId} {below : List Frame} {meth : Method} {c : Code} (l : Launch) {G : GT} {b L : Nat} {xs : Nat → Int32} (c3 s3 : Nat) (hc3 : c3 ≤ 600000 ∧ s3 ≤ 7302249) (X : Cx p s m #[Value.ref b] meth c code 4 RL G) (hX : va_X b L xs s s.heap) (hbl : b < s.heap.size) (hbA : ¬ smA G b) {I I' : Sto → Prop} (hst : LSt law_eqs I I') (σ : Sto) (hI : I σ) (i : Int32) (hv0 : vp_in i L) (hv1 : vp_in (i + 1) L) (hv2 : vp_in (i + 2) L) (hv3 : vp_in (i + 3) L) (hv4 : vp_in (i + 4) L) (hv5 : vp_in (i + 5) L) (hend : ∀ σ', I' σ' → Sm p l e room_1 s m #[Value.ref b] below meth c G 4 (fun _ : Unit => lw_Z below #[Value.ref b] s) c3 s3 (wl G σ') 1551 [(0, .ref b), (1, .ref (gad G 0)), (2, .ref (gad G 81)), (3, .int i)] [] (some ())) : Sm p l e room_1 s m #[Value.ref b] below meth c G 4 (fun _ : Unit => lw_Z below #[Value.ref b] s) c3 s3 (wl G σ) 706 [(0, .ref b), (1, .ref (gad G 0)), (2, .ref (gad G 81)), (3, .int i)] [] (some ()) := by
  obtain ⟨r, z, hr8, hs9, he, hI1⟩ := (hst).2.2.2.2.2.2.2.2.2.2.2.2.2.2.2.1 (xs (i + 1).toNatClampNeg) (xs (i + 2).toNatClampNeg) (xs (i + 3).toNatClampNeg) σ hI
  refine sm_aload_n X 707 1 dL_law_706 rfl rfl rfl ?_
  refine sm_aload_n X 708 0 dL_law_707 rfl rfl rfl ?_
  refine sm_iload_n X 709 3 dL_law_708 rfl rfl rfl ?_
  refine sm_iconst X 710 (1) dL_law_709 rfl rfl ?_
  refine sm_iadd X 711 dL_law_710 rfl ?_
  refine sm_sld X 712 hX hbl hbA hv1 dL_law_711 rfl ?_
  refine sm_aload_n X 713 0 dL_law_712 rfl rfl rfl ?_
  refine sm_iload_n X 714 3 dL_law_713 rfl rfl rfl ?_
  refine sm_iconst X 715 (2) dL_law_714 rfl rfl ?_
  refine sm_iadd X 716 dL_law_715 rfl ?_
  refine sm_sld X 717 hX hbl hbA hv2 dL_law_716 rfl ?_
  refine sm_aload_n X 718 0 dL_law_717 rfl rfl rfl ?_
  refine sm_iload_n X 719 3 dL_law_718 rfl rfl rfl ?_
  refine sm_iconst X 720 (3) dL_law_719 rfl rfl ?_
  refine sm_iadd X 721 dL_law_720 rfl ?_
  refine sm_sld X 722 hX hbl hbA hv3 dL_law_721 rfl ?_
  refine sm_callV0 X 725 [.int (xs (i + 1).toNatClampNeg), .int (xs (i + 2).toNatClampNeg), .int (xs (i + 3).toNatClampNeg)] [] [.int r.1] (c_X8_meet l G σ (xs (i + 1).toNatClampNeg) (xs (i + 2).toNatClampNeg) (xs (i + 3).toNatClampNeg) r hr8) cw_X8_meet q_632 q_633 q_631 (by decide : K0 0 = 8) (by decide) rfl rfl rfl rfl rfl (Nat.le_of_ble_eq_true rfl) ⟨(Nat.le_of_ble_eq_true rfl), (Nat.le_of_ble_eq_true rfl)⟩ hc3 dL_law_722 rfl ?_
  refine sm_pop X 726 dL_law_725 rfl rfl ?_
  refine sm_aload_n X 727 2 dL_law_726 rfl rfl rfl ?_
  refine sm_aload_n X 728 0 dL_law_727 rfl rfl rfl ?_
  refine sm_iload_n X 729 3 dL_law_728 rfl rfl rfl ?_
  refine sm_iconst X 730 (1) dL_law_729 rfl rfl ?_
  refine sm_iadd X 731 dL_law_730 rfl ?_
  refine sm_sld X 732 hX hbl hbA hv1 dL_law_731 rfl ?_
  refine sm_aload_n X 733 0 dL_law_732 rfl rfl rfl ?_
  refine sm_iload_n X 734 3 dL_law_733 rfl rfl rfl ?_
  refine sm_iconst X 735 (2) dL_law_734 rfl rfl ?_
  refine sm_iadd X 736 dL_law_735 rfl ?_
  refine sm_sld X 737 hX hbl hbA hv2 dL_law_736 rfl ?_
  refine sm_aload_n X 738 0 dL_law_737 rfl rfl rfl ?_
  refine sm_iload_n X 739 3 dL_law_738 rfl rfl rfl ?_
  refine sm_iconst X 740 (3) dL_law_739 rfl rfl ?_
  refine sm_iadd X 741 dL_law_740 rfl ?_
  refine sm_sld X 742 hX hbl hbA hv3 dL_law_741 rfl ?_
  refine sm_callV0 X 745 [.int (xs (i + 1).toNatClampNeg), .int (xs (i + 2).toNatClampNeg), .int (xs (i + 3).toNatClampNeg)] [] [.int z.1] (c_X9_meet l G r.2 (xs (i + 1).toNatClampNeg) (xs (i + 2).toNatClampNeg) (xs (i + 3).toNatClampNeg) z hs9) cw_X9_meet q_1142 q_1143 q_1141 (by decide : K0 81 = 9) (by decide) rfl rfl rfl rfl rfl (Nat.le_of_ble_eq_true rfl) ⟨(Nat.le_of_ble_eq_true rfl), (Nat.le_of_ble_eq_true rfl)⟩ hc3 dL_law_742 rfl ?_
  refine sm_pop X 746 dL_law_745 rfl rfl ?_
  refine sm_goto X 1551 dL_law_746 (by decide) ?_
  exact hend z.2 hI1
set_option maxHeartbeats 4000000 in
set_option maxRecDepth 100000 in
theorem law_c15 {p : Program} {e : Env} {s : State} {m : MethodId} {below : List Frame} {meth : Method} {c : Code} (l : Launch) {G : GT} {b L : Nat} {xs : Nat → Int32} (c3 s3 : Nat) (hc3 : c3 ≤ 600000 ∧ s3 ≤ 7302249) (X : Cx p s m #[Value.ref b] meth c code 4 RL G) (hX : va_X b L xs s s.heap) (hbl : b < s.heap.size) (hbA : ¬ smA G b) {I I' : Sto → Prop} (hst : LSt law_eqs I I') (σ : Sto) (hI : I σ) (i : Int32) (hv0 : vp_in i L) (hv1 : vp_in (i + 1) L) (hv2 : vp_in (i + 2) L) (hv3 : vp_in (i + 3) L) (hv4 : vp_in (i + 4) L) (hv5 : vp_in (i + 5) L) (hend : ∀ σ', I' σ' → Sm p l e room_1 s m #[Value.ref b] below meth c G 4 (fun _ : Unit => lw_Z below #[Value.ref b] s) c3 s3 (wl G σ') 1551 [(0, .ref b), (1, .ref (gad G 0)), (2, .ref (gad G 81)), (3, .int i)] [] (some ())) : Sm p l e room_1 s m #[Value.ref b] below meth c G 4 (fun _ : Unit => lw_Z below #[Value.ref b] s) c3 s3 (wl G σ) 749 [(0, .ref b), (1, .ref (gad G 0)), (2, .ref (gad G 81)), (3, .int i)] [] (some ()) := by
  obtain ⟨r, z, hr8, hs9, he, hI1⟩ := (hst).2.2.2.2.2.2.2.2.2.2.2.2.2.2.2.2.1 (xs (i + 1).toNatClampNeg) (xs (i + 2).toNatClampNeg) σ hI
  refine sm_aload_n X 750 1 dL_law_749 rfl rfl rfl ?_
  refine sm_aload_n X 751 0 dL_law_750 rfl rfl rfl ?_
  refine sm_iload_n X 752 3 dL_law_751 rfl rfl rfl ?_
  refine sm_iconst X 753 (1) dL_law_752 rfl rfl ?_
  refine sm_iadd X 754 dL_law_753 rfl ?_
  refine sm_sld X 755 hX hbl hbA hv1 dL_law_754 rfl ?_
  refine sm_aload_n X 756 0 dL_law_755 rfl rfl rfl ?_
  refine sm_iload_n X 757 3 dL_law_756 rfl rfl rfl ?_
  refine sm_iconst X 758 (2) dL_law_757 rfl rfl ?_
  refine sm_iadd X 759 dL_law_758 rfl ?_
  refine sm_sld X 760 hX hbl hbA hv2 dL_law_759 rfl ?_
  refine sm_callV0 X 763 [.int (xs (i + 1).toNatClampNeg), .int (xs (i + 2).toNatClampNeg)] [] [.int r.1] (c_X8_year l G σ (xs (i + 1).toNatClampNeg) (xs (i + 2).toNatClampNeg) r hr8) cw_X8_year q_651 q_652 q_650 (by decide : K0 0 = 8) (by decide) rfl rfl rfl rfl rfl (Nat.le_of_ble_eq_true rfl) ⟨(Nat.le_of_ble_eq_true rfl), (Nat.le_of_ble_eq_true rfl)⟩ hc3 dL_law_760 rfl ?_
  refine sm_pop X 764 dL_law_763 rfl rfl ?_
  refine sm_aload_n X 765 2 dL_law_764 rfl rfl rfl ?_
  refine sm_aload_n X 766 0 dL_law_765 rfl rfl rfl ?_
  refine sm_iload_n X 767 3 dL_law_766 rfl rfl rfl ?_
  refine sm_iconst X 768 (1) dL_law_767 rfl rfl ?_
  refine sm_iadd X 769 dL_law_768 rfl ?_
  refine sm_sld X 770 hX hbl hbA hv1 dL_law_769 rfl ?_
  refine sm_aload_n X 771 0 dL_law_770 rfl rfl rfl ?_
  refine sm_iload_n X 772 3 dL_law_771 rfl rfl rfl ?_
  refine sm_iconst X 773 (2) dL_law_772 rfl rfl ?_
  refine sm_iadd X 774 dL_law_773 rfl ?_
  refine sm_sld X 775 hX hbl hbA hv2 dL_law_774 rfl ?_
  refine sm_callV0 X 778 [.int (xs (i + 1).toNatClampNeg), .int (xs (i + 2).toNatClampNeg)] [] [.int z.1] (c_X9_year l G r.2 (xs (i + 1).toNatClampNeg) (xs (i + 2).toNatClampNeg) z hs9) cw_X9_year q_1155 q_1156 q_1154 (by decide : K0 81 = 9) (by decide) rfl rfl rfl rfl rfl (Nat.le_of_ble_eq_true rfl) ⟨(Nat.le_of_ble_eq_true rfl), (Nat.le_of_ble_eq_true rfl)⟩ hc3 dL_law_775 rfl ?_
  refine sm_pop X 779 dL_law_778 rfl rfl ?_
  refine sm_goto X 1551 dL_law_779 (by decide) ?_
  exact hend z.2 hI1
set_option maxHeartbeats 4000000 in
set_option maxRecDepth 100000 in
theorem law_c16 {p : Program} {e : Env} {s : State} {m : MethodId} {below : List Frame} {meth : Method} {c : Code} (l : Launch) {G : GT} {b L : Nat} {xs : Nat → Int32} (c3 s3 : Nat) (hc3 : c3 ≤ 600000 ∧ s3 ≤ 7302249) (X : Cx p s m #[Value.ref b] meth c code 4 RL G) (hX : va_X b L xs s s.heap) (hbl : b < s.heap.size) (hbA : ¬ smA G b) {I I' : Sto → Prop} (hst : LSt law_eqs I I') (σ : Sto) (hI : I σ) (i : Int32) (hv0 : vp_in i L) (hv1 : vp_in (i + 1) L) (hv2 : vp_in (i + 2) L) (hv3 : vp_in (i + 3) L) (hv4 : vp_in (i + 4) L) (hv5 : vp_in (i + 5) L) (hend : ∀ σ', I' σ' → Sm p l e room_1 s m #[Value.ref b] below meth c G 4 (fun _ : Unit => lw_Z below #[Value.ref b] s) c3 s3 (wl G σ') 1551 [(0, .ref b), (1, .ref (gad G 0)), (2, .ref (gad G 81)), (3, .int i)] [] (some ())) : Sm p l e room_1 s m #[Value.ref b] below meth c G 4 (fun _ : Unit => lw_Z below #[Value.ref b] s) c3 s3 (wl G σ) 782 [(0, .ref b), (1, .ref (gad G 0)), (2, .ref (gad G 81)), (3, .int i)] [] (some ()) := by
  obtain ⟨r, z, hr8, hs9, he, hI1⟩ := (hst).2.2.2.2.2.2.2.2.2.2.2.2.2.2.2.2.2.1 (xs (i + 1).toNatClampNeg) (xs (i + 2).toNatClampNeg) σ hI
  refine sm_aload_n X 783 1 dL_law_782 rfl rfl rfl ?_
  refine sm_aload_n X 784 0 dL_law_783 rfl rfl rfl ?_
  refine sm_iload_n X 785 3 dL_law_784 rfl rfl rfl ?_
  refine sm_iconst X 786 (1) dL_law_785 rfl rfl ?_
  refine sm_iadd X 787 dL_law_786 rfl ?_
  refine sm_sld X 788 hX hbl hbA hv1 dL_law_787 rfl ?_
  refine sm_aload_n X 789 0 dL_law_788 rfl rfl rfl ?_
  refine sm_iload_n X 790 3 dL_law_789 rfl rfl rfl ?_
  refine sm_iconst X 791 (2) dL_law_790 rfl rfl ?_
  refine sm_iadd X 792 dL_law_791 rfl ?_
  refine sm_sld X 793 hX hbl hbA hv2 dL_law_792 rfl ?_
  refine sm_callV0 X 796 [.int (xs (i + 1).toNatClampNeg), .int (xs (i + 2).toNatClampNeg)] [] [.int r.1] (c_X8_loose l G σ (xs (i + 1).toNatClampNeg) (xs (i + 2).toNatClampNeg) r hr8) cw_X8_loose q_669 q_670 q_668 (by decide : K0 0 = 8) (by decide) rfl rfl rfl rfl rfl (Nat.le_of_ble_eq_true rfl) ⟨(Nat.le_of_ble_eq_true rfl), (Nat.le_of_ble_eq_true rfl)⟩ hc3 dL_law_793 rfl ?_
  refine sm_pop X 797 dL_law_796 rfl rfl ?_
  refine sm_aload_n X 798 2 dL_law_797 rfl rfl rfl ?_
  refine sm_aload_n X 799 0 dL_law_798 rfl rfl rfl ?_
  refine sm_iload_n X 800 3 dL_law_799 rfl rfl rfl ?_
  refine sm_iconst X 801 (1) dL_law_800 rfl rfl ?_
  refine sm_iadd X 802 dL_law_801 rfl ?_
  refine sm_sld X 803 hX hbl hbA hv1 dL_law_802 rfl ?_
  refine sm_aload_n X 804 0 dL_law_803 rfl rfl rfl ?_
  refine sm_iload_n X 805 3 dL_law_804 rfl rfl rfl ?_
  refine sm_iconst X 806 (2) dL_law_805 rfl rfl ?_
  refine sm_iadd X 807 dL_law_806 rfl ?_
  refine sm_sld X 808 hX hbl hbA hv2 dL_law_807 rfl ?_
  refine sm_callV0 X 811 [.int (xs (i + 1).toNatClampNeg), .int (xs (i + 2).toNatClampNeg)] [] [.int z.1] (c_X9_loose l G r.2 (xs (i + 1).toNatClampNeg) (xs (i + 2).toNatClampNeg) z hs9) cw_X9_loose q_1173 q_1174 q_1172 (by decide : K0 81 = 9) (by decide) rfl rfl rfl rfl rfl (Nat.le_of_ble_eq_true rfl) ⟨(Nat.le_of_ble_eq_true rfl), (Nat.le_of_ble_eq_true rfl)⟩ hc3 dL_law_808 rfl ?_
  refine sm_pop X 812 dL_law_811 rfl rfl ?_
  refine sm_goto X 1551 dL_law_812 (by decide) ?_
  exact hend z.2 hI1
set_option maxHeartbeats 4000000 in
set_option maxRecDepth 100000 in
theorem law_c17 {p : Program} {e : Env} {s : State} {m : MethodId} {below : List Frame} {meth : Method} {c : Code} (l : Launch) {G : GT} {b L : Nat} {xs : Nat → Int32} (c3 s3 : Nat) (hc3 : c3 ≤ 600000 ∧ s3 ≤ 7302249) (X : Cx p s m #[Value.ref b] meth c code 4 RL G) (hX : va_X b L xs s s.heap) (hbl : b < s.heap.size) (hbA : ¬ smA G b) {I I' : Sto → Prop} (hst : LSt law_eqs I I') (σ : Sto) (hI : I σ) (i : Int32) (hv0 : vp_in i L) (hv1 : vp_in (i + 1) L) (hv2 : vp_in (i + 2) L) (hv3 : vp_in (i + 3) L) (hv4 : vp_in (i + 4) L) (hv5 : vp_in (i + 5) L) (hend : ∀ σ', I' σ' → Sm p l e room_1 s m #[Value.ref b] below meth c G 4 (fun _ : Unit => lw_Z below #[Value.ref b] s) c3 s3 (wl G σ') 1551 [(0, .ref b), (1, .ref (gad G 0)), (2, .ref (gad G 81)), (3, .int i)] [] (some ())) : Sm p l e room_1 s m #[Value.ref b] below meth c G 4 (fun _ : Unit => lw_Z below #[Value.ref b] s) c3 s3 (wl G σ) 815 [(0, .ref b), (1, .ref (gad G 0)), (2, .ref (gad G 81)), (3, .int i)] [] (some ()) := by
  obtain ⟨r, z, hr8, hs9, he, hI1⟩ := (hst).2.2.2.2.2.2.2.2.2.2.2.2.2.2.2.2.2.2.1 (xs (i + 1).toNatClampNeg) (xs (i + 2).toNatClampNeg) (xs (i + 3).toNatClampNeg) σ hI
  refine sm_aload_n X 816 1 dL_law_815 rfl rfl rfl ?_
  refine sm_aload_n X 817 0 dL_law_816 rfl rfl rfl ?_
  refine sm_iload_n X 818 3 dL_law_817 rfl rfl rfl ?_
  refine sm_iconst X 819 (1) dL_law_818 rfl rfl ?_
  refine sm_iadd X 820 dL_law_819 rfl ?_
  refine sm_sld X 821 hX hbl hbA hv1 dL_law_820 rfl ?_
  refine sm_aload_n X 822 0 dL_law_821 rfl rfl rfl ?_
  refine sm_iload_n X 823 3 dL_law_822 rfl rfl rfl ?_
  refine sm_iconst X 824 (2) dL_law_823 rfl rfl ?_
  refine sm_iadd X 825 dL_law_824 rfl ?_
  refine sm_sld X 826 hX hbl hbA hv2 dL_law_825 rfl ?_
  refine sm_aload_n X 827 0 dL_law_826 rfl rfl rfl ?_
  refine sm_iload_n X 828 3 dL_law_827 rfl rfl rfl ?_
  refine sm_iconst X 829 (3) dL_law_828 rfl rfl ?_
  refine sm_iadd X 830 dL_law_829 rfl ?_
  refine sm_sld X 831 hX hbl hbA hv3 dL_law_830 rfl ?_
  refine sm_callV0 X 834 [.int (xs (i + 1).toNatClampNeg), .int (xs (i + 2).toNatClampNeg), .int (xs (i + 3).toNatClampNeg)] [] [.int r.1] (c_X8_bestPlan l G σ (xs (i + 1).toNatClampNeg) (xs (i + 2).toNatClampNeg) (xs (i + 3).toNatClampNeg) r hr8) cw_X8_bestPlan q_678 q_679 q_677 (by decide : K0 0 = 8) (by decide) rfl rfl rfl rfl rfl (Nat.le_of_ble_eq_true rfl) ⟨(Nat.le_of_ble_eq_true rfl), (Nat.le_of_ble_eq_true rfl)⟩ hc3 dL_law_831 rfl ?_
  refine sm_pop X 835 dL_law_834 rfl rfl ?_
  refine sm_aload_n X 836 2 dL_law_835 rfl rfl rfl ?_
  refine sm_aload_n X 837 0 dL_law_836 rfl rfl rfl ?_
  refine sm_iload_n X 838 3 dL_law_837 rfl rfl rfl ?_
  refine sm_iconst X 839 (1) dL_law_838 rfl rfl ?_
  refine sm_iadd X 840 dL_law_839 rfl ?_
  refine sm_sld X 841 hX hbl hbA hv1 dL_law_840 rfl ?_
  refine sm_aload_n X 842 0 dL_law_841 rfl rfl rfl ?_
  refine sm_iload_n X 843 3 dL_law_842 rfl rfl rfl ?_
  refine sm_iconst X 844 (2) dL_law_843 rfl rfl ?_
  refine sm_iadd X 845 dL_law_844 rfl ?_
  refine sm_sld X 846 hX hbl hbA hv2 dL_law_845 rfl ?_
  refine sm_aload_n X 847 0 dL_law_846 rfl rfl rfl ?_
  refine sm_iload_n X 848 3 dL_law_847 rfl rfl rfl ?_
  refine sm_iconst X 849 (3) dL_law_848 rfl rfl ?_
  refine sm_iadd X 850 dL_law_849 rfl ?_
  refine sm_sld X 851 hX hbl hbA hv3 dL_law_850 rfl ?_
  refine sm_callV0 X 854 [.int (xs (i + 1).toNatClampNeg), .int (xs (i + 2).toNatClampNeg), .int (xs (i + 3).toNatClampNeg)] [] [.int z.1] (c_X9_bestPlan l G r.2 (xs (i + 1).toNatClampNeg) (xs (i + 2).toNatClampNeg) (xs (i + 3).toNatClampNeg) z hs9) cw_X9_bestPlan q_1177 q_1178 q_1176 (by decide : K0 81 = 9) (by decide) rfl rfl rfl rfl rfl (Nat.le_of_ble_eq_true rfl) ⟨(Nat.le_of_ble_eq_true rfl), (Nat.le_of_ble_eq_true rfl)⟩ hc3 dL_law_851 rfl ?_
  refine sm_pop X 855 dL_law_854 rfl rfl ?_
  refine sm_goto X 1551 dL_law_855 (by decide) ?_
  exact hend z.2 hI1
set_option maxHeartbeats 4000000 in
set_option maxRecDepth 100000 in
theorem law_c18 {p : Program} {e : Env} {s : State} {m : MethodId} {below : List Frame} {meth : Method} {c : Code} (l : Launch) {G : GT} {b L : Nat} {xs : Nat → Int32} (c3 s3 : Nat) (hc3 : c3 ≤ 600000 ∧ s3 ≤ 7302249) (X : Cx p s m #[Value.ref b] meth c code 4 RL G) (hX : va_X b L xs s s.heap) (hbl : b < s.heap.size) (hbA : ¬ smA G b) {I I' : Sto → Prop} (hst : LSt law_eqs I I') (σ : Sto) (hI : I σ) (i : Int32) (hv0 : vp_in i L) (hv1 : vp_in (i + 1) L) (hv2 : vp_in (i + 2) L) (hv3 : vp_in (i + 3) L) (hv4 : vp_in (i + 4) L) (hv5 : vp_in (i + 5) L) (hend : ∀ σ', I' σ' → Sm p l e room_1 s m #[Value.ref b] below meth c G 4 (fun _ : Unit => lw_Z below #[Value.ref b] s) c3 s3 (wl G σ') 1551 [(0, .ref b), (1, .ref (gad G 0)), (2, .ref (gad G 81)), (3, .int i)] [] (some ())) : Sm p l e room_1 s m #[Value.ref b] below meth c G 4 (fun _ : Unit => lw_Z below #[Value.ref b] s) c3 s3 (wl G σ) 858 [(0, .ref b), (1, .ref (gad G 0)), (2, .ref (gad G 81)), (3, .int i)] [] (some ()) := by
  obtain ⟨r, z, hr8, hs9, he, hI1⟩ := (hst).2.2.2.2.2.2.2.2.2.2.2.2.2.2.2.2.2.2.2.1 (xs (i + 1).toNatClampNeg) (xs (i + 2).toNatClampNeg) (xs (i + 3).toNatClampNeg) σ hI
  refine sm_aload_n X 859 1 dL_law_858 rfl rfl rfl ?_
  refine sm_aload_n X 860 0 dL_law_859 rfl rfl rfl ?_
  refine sm_iload_n X 861 3 dL_law_860 rfl rfl rfl ?_
  refine sm_iconst X 862 (1) dL_law_861 rfl rfl ?_
  refine sm_iadd X 863 dL_law_862 rfl ?_
  refine sm_sld X 864 hX hbl hbA hv1 dL_law_863 rfl ?_
  refine sm_aload_n X 865 0 dL_law_864 rfl rfl rfl ?_
  refine sm_iload_n X 866 3 dL_law_865 rfl rfl rfl ?_
  refine sm_iconst X 867 (2) dL_law_866 rfl rfl ?_
  refine sm_iadd X 868 dL_law_867 rfl ?_
  refine sm_sld X 869 hX hbl hbA hv2 dL_law_868 rfl ?_
  refine sm_aload_n X 870 0 dL_law_869 rfl rfl rfl ?_
  refine sm_iload_n X 871 3 dL_law_870 rfl rfl rfl ?_
  refine sm_iconst X 872 (3) dL_law_871 rfl rfl ?_
  refine sm_iadd X 873 dL_law_872 rfl ?_
  refine sm_sld X 874 hX hbl hbA hv3 dL_law_873 rfl ?_
  refine sm_callV0 X 877 [.int (xs (i + 1).toNatClampNeg), .int (xs (i + 2).toNatClampNeg), .int (xs (i + 3).toNatClampNeg)] [] [.int r.1] (c_X8_hold l G σ (xs (i + 1).toNatClampNeg) (xs (i + 2).toNatClampNeg) (xs (i + 3).toNatClampNeg) r hr8) cw_X8_hold q_717 q_718 q_716 (by decide : K0 0 = 8) (by decide) rfl rfl rfl rfl rfl (Nat.le_of_ble_eq_true rfl) ⟨(Nat.le_of_ble_eq_true rfl), (Nat.le_of_ble_eq_true rfl)⟩ hc3 dL_law_874 rfl ?_
  refine sm_pop X 878 dL_law_877 rfl rfl ?_
  refine sm_aload_n X 879 2 dL_law_878 rfl rfl rfl ?_
  refine sm_aload_n X 880 0 dL_law_879 rfl rfl rfl ?_
  refine sm_iload_n X 881 3 dL_law_880 rfl rfl rfl ?_
  refine sm_iconst X 882 (1) dL_law_881 rfl rfl ?_
  refine sm_iadd X 883 dL_law_882 rfl ?_
  refine sm_sld X 884 hX hbl hbA hv1 dL_law_883 rfl ?_
  refine sm_aload_n X 885 0 dL_law_884 rfl rfl rfl ?_
  refine sm_iload_n X 886 3 dL_law_885 rfl rfl rfl ?_
  refine sm_iconst X 887 (2) dL_law_886 rfl rfl ?_
  refine sm_iadd X 888 dL_law_887 rfl ?_
  refine sm_sld X 889 hX hbl hbA hv2 dL_law_888 rfl ?_
  refine sm_aload_n X 890 0 dL_law_889 rfl rfl rfl ?_
  refine sm_iload_n X 891 3 dL_law_890 rfl rfl rfl ?_
  refine sm_iconst X 892 (3) dL_law_891 rfl rfl ?_
  refine sm_iadd X 893 dL_law_892 rfl ?_
  refine sm_sld X 894 hX hbl hbA hv3 dL_law_893 rfl ?_
  refine sm_callV0 X 897 [.int (xs (i + 1).toNatClampNeg), .int (xs (i + 2).toNatClampNeg), .int (xs (i + 3).toNatClampNeg)] [] [.int z.1] (c_X9_hold l G r.2 (xs (i + 1).toNatClampNeg) (xs (i + 2).toNatClampNeg) (xs (i + 3).toNatClampNeg) z hs9) cw_X9_hold q_1195 q_1196 q_1194 (by decide : K0 81 = 9) (by decide) rfl rfl rfl rfl rfl (Nat.le_of_ble_eq_true rfl) ⟨(Nat.le_of_ble_eq_true rfl), (Nat.le_of_ble_eq_true rfl)⟩ hc3 dL_law_894 rfl ?_
  refine sm_pop X 898 dL_law_897 rfl rfl ?_
  refine sm_goto X 1551 dL_law_898 (by decide) ?_
  exact hend z.2 hI1
set_option maxHeartbeats 4000000 in
set_option maxRecDepth 100000 in
theorem law_c19 {p : Program} {e : Env} {s : State} {m : MethodId} {below : List Frame} {meth : Method} {c : Code} (l : Launch) {G : GT} {b L : Nat} {xs : Nat → Int32} (c3 s3 : Nat) (hc3 : c3 ≤ 600000 ∧ s3 ≤ 7302249) (X : Cx p s m #[Value.ref b] meth c code 4 RL G) (hX : va_X b L xs s s.heap) (hbl : b < s.heap.size) (hbA : ¬ smA G b) {I I' : Sto → Prop} (hst : LSt law_eqs I I') (σ : Sto) (hI : I σ) (i : Int32) (hv0 : vp_in i L) (hv1 : vp_in (i + 1) L) (hv2 : vp_in (i + 2) L) (hv3 : vp_in (i + 3) L) (hv4 : vp_in (i + 4) L) (hv5 : vp_in (i + 5) L) (hend : ∀ σ', I' σ' → Sm p l e room_1 s m #[Value.ref b] below meth c G 4 (fun _ : Unit => lw_Z below #[Value.ref b] s) c3 s3 (wl G σ') 1551 [(0, .ref b), (1, .ref (gad G 0)), (2, .ref (gad G 81)), (3, .int i)] [] (some ())) : Sm p l e room_1 s m #[Value.ref b] below meth c G 4 (fun _ : Unit => lw_Z below #[Value.ref b] s) c3 s3 (wl G σ) 901 [(0, .ref b), (1, .ref (gad G 0)), (2, .ref (gad G 81)), (3, .int i)] [] (some ()) := by
  obtain ⟨r, z, hr8, hs9, he, hI1⟩ := (hst).2.2.2.2.2.2.2.2.2.2.2.2.2.2.2.2.2.2.2.2.1 (xs (i + 1).toNatClampNeg) (xs (i + 2).toNatClampNeg) σ hI
  refine sm_aload_n X 902 1 dL_law_901 rfl rfl rfl ?_
  refine sm_aload_n X 903 0 dL_law_902 rfl rfl rfl ?_
  refine sm_iload_n X 904 3 dL_law_903 rfl rfl rfl ?_
  refine sm_iconst X 905 (1) dL_law_904 rfl rfl ?_
  refine sm_iadd X 906 dL_law_905 rfl ?_
  refine sm_sld X 907 hX hbl hbA hv1 dL_law_906 rfl ?_
  refine sm_aload_n X 908 0 dL_law_907 rfl rfl rfl ?_
  refine sm_iload_n X 909 3 dL_law_908 rfl rfl rfl ?_
  refine sm_iconst X 910 (2) dL_law_909 rfl rfl ?_
  refine sm_iadd X 911 dL_law_910 rfl ?_
  refine sm_sld X 912 hX hbl hbA hv2 dL_law_911 rfl ?_
  refine sm_callV0 X 915 [.int (xs (i + 1).toNatClampNeg), .int (xs (i + 2).toNatClampNeg)] [] [.int r.1] (c_X8_ask l G σ (xs (i + 1).toNatClampNeg) (xs (i + 2).toNatClampNeg) r hr8) cw_X8_ask q_732 q_733 q_731 (by decide : K0 0 = 8) (by decide) rfl rfl rfl rfl rfl (Nat.le_of_ble_eq_true rfl) ⟨(Nat.le_of_ble_eq_true rfl), (Nat.le_of_ble_eq_true rfl)⟩ hc3 dL_law_912 rfl ?_
  refine sm_pop X 916 dL_law_915 rfl rfl ?_
  refine sm_aload_n X 917 2 dL_law_916 rfl rfl rfl ?_
  refine sm_aload_n X 918 0 dL_law_917 rfl rfl rfl ?_
  refine sm_iload_n X 919 3 dL_law_918 rfl rfl rfl ?_
  refine sm_iconst X 920 (1) dL_law_919 rfl rfl ?_
  refine sm_iadd X 921 dL_law_920 rfl ?_
  refine sm_sld X 922 hX hbl hbA hv1 dL_law_921 rfl ?_
  refine sm_aload_n X 923 0 dL_law_922 rfl rfl rfl ?_
  refine sm_iload_n X 924 3 dL_law_923 rfl rfl rfl ?_
  refine sm_iconst X 925 (2) dL_law_924 rfl rfl ?_
  refine sm_iadd X 926 dL_law_925 rfl ?_
  refine sm_sld X 927 hX hbl hbA hv2 dL_law_926 rfl ?_
  refine sm_callV0 X 930 [.int (xs (i + 1).toNatClampNeg), .int (xs (i + 2).toNatClampNeg)] [] [.int z.1] (c_X9_ask l G r.2 (xs (i + 1).toNatClampNeg) (xs (i + 2).toNatClampNeg) z hs9) cw_X9_ask q_1203 q_1204 q_1202 (by decide : K0 81 = 9) (by decide) rfl rfl rfl rfl rfl (Nat.le_of_ble_eq_true rfl) ⟨(Nat.le_of_ble_eq_true rfl), (Nat.le_of_ble_eq_true rfl)⟩ hc3 dL_law_927 rfl ?_
  refine sm_pop X 931 dL_law_930 rfl rfl ?_
  refine sm_goto X 1551 dL_law_931 (by decide) ?_
  exact hend z.2 hI1
set_option maxHeartbeats 4000000 in
set_option maxRecDepth 100000 in
theorem law_c20 {p : Program} {e : Env} {s : State} {m : MethodId} {below : List Frame} {meth : Method} {c : Code} (l : Launch) {G : GT} {b L : Nat} {xs : Nat → Int32} (c3 s3 : Nat) (hc3 : c3 ≤ 600000 ∧ s3 ≤ 7302249) (X : Cx p s m #[Value.ref b] meth c code 4 RL G) (hX : va_X b L xs s s.heap) (hbl : b < s.heap.size) (hbA : ¬ smA G b) {I I' : Sto → Prop} (hst : LSt law_eqs I I') (σ : Sto) (hI : I σ) (i : Int32) (hv0 : vp_in i L) (hv1 : vp_in (i + 1) L) (hv2 : vp_in (i + 2) L) (hv3 : vp_in (i + 3) L) (hv4 : vp_in (i + 4) L) (hv5 : vp_in (i + 5) L) (hend : ∀ σ', I' σ' → Sm p l e room_1 s m #[Value.ref b] below meth c G 4 (fun _ : Unit => lw_Z below #[Value.ref b] s) c3 s3 (wl G σ') 1551 [(0, .ref b), (1, .ref (gad G 0)), (2, .ref (gad G 81)), (3, .int i)] [] (some ())) : Sm p l e room_1 s m #[Value.ref b] below meth c G 4 (fun _ : Unit => lw_Z below #[Value.ref b] s) c3 s3 (wl G σ) 934 [(0, .ref b), (1, .ref (gad G 0)), (2, .ref (gad G 81)), (3, .int i)] [] (some ()) := by
  obtain ⟨r, z, hr8, hs9, he, hI1⟩ := (hst).2.2.2.2.2.2.2.2.2.2.2.2.2.2.2.2.2.2.2.2.2.1 (xs (i + 1).toNatClampNeg) (xs (i + 2).toNatClampNeg) σ hI
  refine sm_aload_n X 935 1 dL_law_934 rfl rfl rfl ?_
  refine sm_aload_n X 936 0 dL_law_935 rfl rfl rfl ?_
  refine sm_iload_n X 937 3 dL_law_936 rfl rfl rfl ?_
  refine sm_iconst X 938 (1) dL_law_937 rfl rfl ?_
  refine sm_iadd X 939 dL_law_938 rfl ?_
  refine sm_sld X 940 hX hbl hbA hv1 dL_law_939 rfl ?_
  refine sm_aload_n X 941 0 dL_law_940 rfl rfl rfl ?_
  refine sm_iload_n X 942 3 dL_law_941 rfl rfl rfl ?_
  refine sm_iconst X 943 (2) dL_law_942 rfl rfl ?_
  refine sm_iadd X 944 dL_law_943 rfl ?_
  refine sm_sld X 945 hX hbl hbA hv2 dL_law_944 rfl ?_
  refine sm_callV0 X 948 [.int (xs (i + 1).toNatClampNeg), .int (xs (i + 2).toNatClampNeg)] [] [.int r.1] (c_X8_leastSight l G σ (xs (i + 1).toNatClampNeg) (xs (i + 2).toNatClampNeg) r hr8) cw_X8_leastSight q_736 q_737 q_735 (by decide : K0 0 = 8) (by decide) rfl rfl rfl rfl rfl (Nat.le_of_ble_eq_true rfl) ⟨(Nat.le_of_ble_eq_true rfl), (Nat.le_of_ble_eq_true rfl)⟩ hc3 dL_law_945 rfl ?_
  refine sm_pop X 949 dL_law_948 rfl rfl ?_
  refine sm_aload_n X 950 2 dL_law_949 rfl rfl rfl ?_
  refine sm_aload_n X 951 0 dL_law_950 rfl rfl rfl ?_
  refine sm_iload_n X 952 3 dL_law_951 rfl rfl rfl ?_
  refine sm_iconst X 953 (1) dL_law_952 rfl rfl ?_
  refine sm_iadd X 954 dL_law_953 rfl ?_
  refine sm_sld X 955 hX hbl hbA hv1 dL_law_954 rfl ?_
  refine sm_aload_n X 956 0 dL_law_955 rfl rfl rfl ?_
  refine sm_iload_n X 957 3 dL_law_956 rfl rfl rfl ?_
  refine sm_iconst X 958 (2) dL_law_957 rfl rfl ?_
  refine sm_iadd X 959 dL_law_958 rfl ?_
  refine sm_sld X 960 hX hbl hbA hv2 dL_law_959 rfl ?_
  refine sm_callV0 X 963 [.int (xs (i + 1).toNatClampNeg), .int (xs (i + 2).toNatClampNeg)] [] [.int z.1] (c_X9_leastSight l G r.2 (xs (i + 1).toNatClampNeg) (xs (i + 2).toNatClampNeg) z hs9) cw_X9_leastSight q_1207 q_1208 q_1206 (by decide : K0 81 = 9) (by decide) rfl rfl rfl rfl rfl (Nat.le_of_ble_eq_true rfl) ⟨(Nat.le_of_ble_eq_true rfl), (Nat.le_of_ble_eq_true rfl)⟩ hc3 dL_law_960 rfl ?_
  refine sm_pop X 964 dL_law_963 rfl rfl ?_
  refine sm_goto X 1551 dL_law_964 (by decide) ?_
  exact hend z.2 hI1
set_option maxHeartbeats 4000000 in
set_option maxRecDepth 100000 in
theorem law_c21 {p : Program} {e : Env} {s : State} {m : MethodId} {below : List Frame} {meth : Method} {c : Code} (l : Launch) {G : GT} {b L : Nat} {xs : Nat → Int32} (c3 s3 : Nat) (hc3 : c3 ≤ 600000 ∧ s3 ≤ 7302249) (X : Cx p s m #[Value.ref b] meth c code 4 RL G) (hX : va_X b L xs s s.heap) (hbl : b < s.heap.size) (hbA : ¬ smA G b) {I I' : Sto → Prop} (hst : LSt law_eqs I I') (σ : Sto) (hI : I σ) (i : Int32) (hv0 : vp_in i L) (hv1 : vp_in (i + 1) L) (hv2 : vp_in (i + 2) L) (hv3 : vp_in (i + 3) L) (hv4 : vp_in (i + 4) L) (hv5 : vp_in (i + 5) L) (hend : ∀ σ', I' σ' → Sm p l e room_1 s m #[Value.ref b] below meth c G 4 (fun _ : Unit => lw_Z below #[Value.ref b] s) c3 s3 (wl G σ') 1551 [(0, .ref b), (1, .ref (gad G 0)), (2, .ref (gad G 81)), (3, .int i)] [] (some ())) : Sm p l e room_1 s m #[Value.ref b] below meth c G 4 (fun _ : Unit => lw_Z below #[Value.ref b] s) c3 s3 (wl G σ) 967 [(0, .ref b), (1, .ref (gad G 0)), (2, .ref (gad G 81)), (3, .int i)] [] (some ()) := by
  obtain ⟨r, z, hr8, hs9, he, hI1⟩ := (hst).2.2.2.2.2.2.2.2.2.2.2.2.2.2.2.2.2.2.2.2.2.2.1 (xs (i + 1).toNatClampNeg) σ hI
  refine sm_aload_n X 968 1 dL_law_967 rfl rfl rfl ?_
  refine sm_aload_n X 969 0 dL_law_968 rfl rfl rfl ?_
  refine sm_iload_n X 970 3 dL_law_969 rfl rfl rfl ?_
  refine sm_iconst X 971 (1) dL_law_970 rfl rfl ?_
  refine sm_iadd X 972 dL_law_971 rfl ?_
  refine sm_sld X 973 hX hbl hbA hv1 dL_law_972 rfl ?_
  refine sm_callV0 X 976 [.int (xs (i + 1).toNatClampNeg)] [] [.int r.1] (c_X8_send l G σ (xs (i + 1).toNatClampNeg) r hr8) cw_X8_send q_746 q_747 q_745 (by decide : K0 0 = 8) (by decide) rfl rfl rfl rfl rfl (Nat.le_of_ble_eq_true rfl) ⟨(Nat.le_of_ble_eq_true rfl), (Nat.le_of_ble_eq_true rfl)⟩ hc3 dL_law_973 rfl ?_
  refine sm_pop X 977 dL_law_976 rfl rfl ?_
  refine sm_aload_n X 978 2 dL_law_977 rfl rfl rfl ?_
  refine sm_aload_n X 979 0 dL_law_978 rfl rfl rfl ?_
  refine sm_iload_n X 980 3 dL_law_979 rfl rfl rfl ?_
  refine sm_iconst X 981 (1) dL_law_980 rfl rfl ?_
  refine sm_iadd X 982 dL_law_981 rfl ?_
  refine sm_sld X 983 hX hbl hbA hv1 dL_law_982 rfl ?_
  refine sm_callV0 X 986 [.int (xs (i + 1).toNatClampNeg)] [] [.int z.1] (c_X9_send l G r.2 (xs (i + 1).toNatClampNeg) z hs9) cw_X9_send q_1211 q_1212 q_1210 (by decide : K0 81 = 9) (by decide) rfl rfl rfl rfl rfl (Nat.le_of_ble_eq_true rfl) ⟨(Nat.le_of_ble_eq_true rfl), (Nat.le_of_ble_eq_true rfl)⟩ hc3 dL_law_983 rfl ?_
  refine sm_pop X 987 dL_law_986 rfl rfl ?_
  refine sm_goto X 1551 dL_law_987 (by decide) ?_
  exact hend z.2 hI1
set_option maxHeartbeats 4000000 in
set_option maxRecDepth 100000 in
theorem law_c22 {p : Program} {e : Env} {s : State} {m : MethodId} {below : List Frame} {meth : Method} {c : Code} (l : Launch) {G : GT} {b L : Nat} {xs : Nat → Int32} (c3 s3 : Nat) (hc3 : c3 ≤ 600000 ∧ s3 ≤ 7302249) (X : Cx p s m #[Value.ref b] meth c code 4 RL G) (hX : va_X b L xs s s.heap) (hbl : b < s.heap.size) (hbA : ¬ smA G b) {I I' : Sto → Prop} (hst : LSt law_eqs I I') (σ : Sto) (hI : I σ) (i : Int32) (hv0 : vp_in i L) (hv1 : vp_in (i + 1) L) (hv2 : vp_in (i + 2) L) (hv3 : vp_in (i + 3) L) (hv4 : vp_in (i + 4) L) (hv5 : vp_in (i + 5) L) (hend : ∀ σ', I' σ' → Sm p l e room_1 s m #[Value.ref b] below meth c G 4 (fun _ : Unit => lw_Z below #[Value.ref b] s) c3 s3 (wl G σ') 1551 [(0, .ref b), (1, .ref (gad G 0)), (2, .ref (gad G 81)), (3, .int i)] [] (some ())) : Sm p l e room_1 s m #[Value.ref b] below meth c G 4 (fun _ : Unit => lw_Z below #[Value.ref b] s) c3 s3 (wl G σ) 990 [(0, .ref b), (1, .ref (gad G 0)), (2, .ref (gad G 81)), (3, .int i)] [] (some ()) := by
  obtain ⟨r, z, hr8, hs9, he, hI1⟩ := (hst).2.2.2.2.2.2.2.2.2.2.2.2.2.2.2.2.2.2.2.2.2.2.2.1 (xs (i + 1).toNatClampNeg) (xs (i + 2).toNatClampNeg) (xs (i + 3).toNatClampNeg) (xs (i + 4).toNatClampNeg) (xs (i + 5).toNatClampNeg) σ hI
  refine sm_aload_n X 991 1 dL_law_990 rfl rfl rfl ?_
  refine sm_aload_n X 992 0 dL_law_991 rfl rfl rfl ?_
  refine sm_iload_n X 993 3 dL_law_992 rfl rfl rfl ?_
  refine sm_iconst X 994 (1) dL_law_993 rfl rfl ?_
  refine sm_iadd X 995 dL_law_994 rfl ?_
  refine sm_sld X 996 hX hbl hbA hv1 dL_law_995 rfl ?_
  refine sm_aload_n X 997 0 dL_law_996 rfl rfl rfl ?_
  refine sm_iload_n X 998 3 dL_law_997 rfl rfl rfl ?_
  refine sm_iconst X 999 (2) dL_law_998 rfl rfl ?_
  refine sm_iadd X 1000 dL_law_999 rfl ?_
  refine sm_sld X 1001 hX hbl hbA hv2 dL_law_1000 rfl ?_
  refine sm_aload_n X 1002 0 dL_law_1001 rfl rfl rfl ?_
  refine sm_iload_n X 1003 3 dL_law_1002 rfl rfl rfl ?_
  refine sm_iconst X 1004 (3) dL_law_1003 rfl rfl ?_
  refine sm_iadd X 1005 dL_law_1004 rfl ?_
  refine sm_sld X 1006 hX hbl hbA hv3 dL_law_1005 rfl ?_
  refine sm_aload_n X 1007 0 dL_law_1006 rfl rfl rfl ?_
  refine sm_iload_n X 1008 3 dL_law_1007 rfl rfl rfl ?_
  refine sm_iconst X 1009 (4) dL_law_1008 rfl rfl ?_
  refine sm_iadd X 1010 dL_law_1009 rfl ?_
  refine sm_sld X 1011 hX hbl hbA hv4 dL_law_1010 rfl ?_
  refine sm_aload_n X 1012 0 dL_law_1011 rfl rfl rfl ?_
  refine sm_iload_n X 1013 3 dL_law_1012 rfl rfl rfl ?_
  refine sm_iconst X 1014 (5) dL_law_1013 rfl rfl ?_
  refine sm_iadd X 1015 dL_law_1014 rfl ?_
  refine sm_sld X 1016 hX hbl hbA hv5 dL_law_1015 rfl ?_
  refine sm_callV0 X 1019 [.int (xs (i + 1).toNatClampNeg), .int (xs (i + 2).toNatClampNeg), .int (xs (i + 3).toNatClampNeg), .int (xs (i + 4).toNatClampNeg), .int (xs (i + 5).toNatClampNeg)] [] [.int r.1] (c_X8_diary l G σ (xs (i + 1).toNatClampNeg) (xs (i + 2).toNatClampNeg) (xs (i + 3).toNatClampNeg) (xs (i + 4).toNatClampNeg) (xs (i + 5).toNatClampNeg) r hr8) cw_X8_diary q_750 q_751 q_749 (by decide : K0 0 = 8) (by decide) rfl rfl rfl rfl rfl (Nat.le_of_ble_eq_true rfl) ⟨(Nat.le_of_ble_eq_true rfl), (Nat.le_of_ble_eq_true rfl)⟩ hc3 dL_law_1016 rfl ?_
  refine sm_pop X 1020 dL_law_1019 rfl rfl ?_
  refine sm_aload_n X 1021 2 dL_law_1020 rfl rfl rfl ?_
  refine sm_aload_n X 1022 0 dL_law_1021 rfl rfl rfl ?_
  refine sm_iload_n X 1023 3 dL_law_1022 rfl rfl rfl ?_
  refine sm_iconst X 1024 (1) dL_law_1023 rfl rfl ?_
  refine sm_iadd X 1025 dL_law_1024 rfl ?_
  refine sm_sld X 1026 hX hbl hbA hv1 dL_law_1025 rfl ?_
  refine sm_aload_n X 1027 0 dL_law_1026 rfl rfl rfl ?_
  refine sm_iload_n X 1028 3 dL_law_1027 rfl rfl rfl ?_
  refine sm_iconst X 1029 (2) dL_law_1028 rfl rfl ?_
  refine sm_iadd X 1030 dL_law_1029 rfl ?_
  refine sm_sld X 1031 hX hbl hbA hv2 dL_law_1030 rfl ?_
  refine sm_aload_n X 1032 0 dL_law_1031 rfl rfl rfl ?_
  refine sm_iload_n X 1033 3 dL_law_1032 rfl rfl rfl ?_
  refine sm_iconst X 1034 (3) dL_law_1033 rfl rfl ?_
  refine sm_iadd X 1035 dL_law_1034 rfl ?_
  refine sm_sld X 1036 hX hbl hbA hv3 dL_law_1035 rfl ?_
  refine sm_aload_n X 1037 0 dL_law_1036 rfl rfl rfl ?_
  refine sm_iload_n X 1038 3 dL_law_1037 rfl rfl rfl ?_
  refine sm_iconst X 1039 (4) dL_law_1038 rfl rfl ?_
  refine sm_iadd X 1040 dL_law_1039 rfl ?_
  refine sm_sld X 1041 hX hbl hbA hv4 dL_law_1040 rfl ?_
  refine sm_aload_n X 1042 0 dL_law_1041 rfl rfl rfl ?_
  refine sm_iload_n X 1043 3 dL_law_1042 rfl rfl rfl ?_
  refine sm_iconst X 1044 (5) dL_law_1043 rfl rfl ?_
  refine sm_iadd X 1045 dL_law_1044 rfl ?_
  refine sm_sld X 1046 hX hbl hbA hv5 dL_law_1045 rfl ?_
  refine sm_callV0 X 1049 [.int (xs (i + 1).toNatClampNeg), .int (xs (i + 2).toNatClampNeg), .int (xs (i + 3).toNatClampNeg), .int (xs (i + 4).toNatClampNeg), .int (xs (i + 5).toNatClampNeg)] [] [.int z.1] (c_X9_diary l G r.2 (xs (i + 1).toNatClampNeg) (xs (i + 2).toNatClampNeg) (xs (i + 3).toNatClampNeg) (xs (i + 4).toNatClampNeg) (xs (i + 5).toNatClampNeg) z hs9) cw_X9_diary q_1215 q_1216 q_1214 (by decide : K0 81 = 9) (by decide) rfl rfl rfl rfl rfl (Nat.le_of_ble_eq_true rfl) ⟨(Nat.le_of_ble_eq_true rfl), (Nat.le_of_ble_eq_true rfl)⟩ hc3 dL_law_1046 rfl ?_
  refine sm_pop X 1050 dL_law_1049 rfl rfl ?_
  refine sm_goto X 1551 dL_law_1050 (by decide) ?_
  exact hend z.2 hI1
set_option maxHeartbeats 4000000 in
set_option maxRecDepth 100000 in
theorem law_c23 {p : Program} {e : Env} {s : State} {m : MethodId} {below : List Frame} {meth : Method} {c : Code} (l : Launch) {G : GT} {b L : Nat} {xs : Nat → Int32} (c3 s3 : Nat) (hc3 : c3 ≤ 600000 ∧ s3 ≤ 7302249) (X : Cx p s m #[Value.ref b] meth c code 4 RL G) (hX : va_X b L xs s s.heap) (hbl : b < s.heap.size) (hbA : ¬ smA G b) {I I' : Sto → Prop} (hst : LSt law_eqs I I') (σ : Sto) (hI : I σ) (i : Int32) (hv0 : vp_in i L) (hv1 : vp_in (i + 1) L) (hv2 : vp_in (i + 2) L) (hv3 : vp_in (i + 3) L) (hv4 : vp_in (i + 4) L) (hv5 : vp_in (i + 5) L) (hend : ∀ σ', I' σ' → Sm p l e room_1 s m #[Value.ref b] below meth c G 4 (fun _ : Unit => lw_Z below #[Value.ref b] s) c3 s3 (wl G σ') 1551 [(0, .ref b), (1, .ref (gad G 0)), (2, .ref (gad G 81)), (3, .int i)] [] (some ())) : Sm p l e room_1 s m #[Value.ref b] below meth c G 4 (fun _ : Unit => lw_Z below #[Value.ref b] s) c3 s3 (wl G σ) 1053 [(0, .ref b), (1, .ref (gad G 0)), (2, .ref (gad G 81)), (3, .int i)] [] (some ()) := by
  obtain ⟨r, z, hr8, hs9, he, hI1⟩ := (hst).2.2.2.2.2.2.2.2.2.2.2.2.2.2.2.2.2.2.2.2.2.2.2.2.1 (xs (i + 1).toNatClampNeg) (xs (i + 2).toNatClampNeg) (xs (i + 3).toNatClampNeg) σ hI
  refine sm_aload_n X 1054 1 dL_law_1053 rfl rfl rfl ?_
  refine sm_aload_n X 1055 0 dL_law_1054 rfl rfl rfl ?_
  refine sm_iload_n X 1056 3 dL_law_1055 rfl rfl rfl ?_
  refine sm_iconst X 1057 (1) dL_law_1056 rfl rfl ?_
  refine sm_iadd X 1058 dL_law_1057 rfl ?_
  refine sm_sld X 1059 hX hbl hbA hv1 dL_law_1058 rfl ?_
  refine sm_aload_n X 1060 0 dL_law_1059 rfl rfl rfl ?_
  refine sm_iload_n X 1061 3 dL_law_1060 rfl rfl rfl ?_
  refine sm_iconst X 1062 (2) dL_law_1061 rfl rfl ?_
  refine sm_iadd X 1063 dL_law_1062 rfl ?_
  refine sm_sld X 1064 hX hbl hbA hv2 dL_law_1063 rfl ?_
  refine sm_aload_n X 1065 0 dL_law_1064 rfl rfl rfl ?_
  refine sm_iload_n X 1066 3 dL_law_1065 rfl rfl rfl ?_
  refine sm_iconst X 1067 (3) dL_law_1066 rfl rfl ?_
  refine sm_iadd X 1068 dL_law_1067 rfl ?_
  refine sm_sld X 1069 hX hbl hbA hv3 dL_law_1068 rfl ?_
  refine sm_callV0 X 1072 [.int (xs (i + 1).toNatClampNeg), .int (xs (i + 2).toNatClampNeg), .int (xs (i + 3).toNatClampNeg)] [] [.int r.1] (c_X8_training l G σ (xs (i + 1).toNatClampNeg) (xs (i + 2).toNatClampNeg) (xs (i + 3).toNatClampNeg) r hr8) cw_X8_training q_754 q_755 q_753 (by decide : K0 0 = 8) (by decide) rfl rfl rfl rfl rfl (Nat.le_of_ble_eq_true rfl) ⟨(Nat.le_of_ble_eq_true rfl), (Nat.le_of_ble_eq_true rfl)⟩ hc3 dL_law_1069 rfl ?_
  refine sm_pop X 1073 dL_law_1072 rfl rfl ?_
  refine sm_aload_n X 1074 2 dL_law_1073 rfl rfl rfl ?_
  refine sm_aload_n X 1075 0 dL_law_1074 rfl rfl rfl ?_
  refine sm_iload_n X 1076 3 dL_law_1075 rfl rfl rfl ?_
  refine sm_iconst X 1077 (1) dL_law_1076 rfl rfl ?_
  refine sm_iadd X 1078 dL_law_1077 rfl ?_
  refine sm_sld X 1079 hX hbl hbA hv1 dL_law_1078 rfl ?_
  refine sm_aload_n X 1080 0 dL_law_1079 rfl rfl rfl ?_
  refine sm_iload_n X 1081 3 dL_law_1080 rfl rfl rfl ?_
  refine sm_iconst X 1082 (2) dL_law_1081 rfl rfl ?_
  refine sm_iadd X 1083 dL_law_1082 rfl ?_
  refine sm_sld X 1084 hX hbl hbA hv2 dL_law_1083 rfl ?_
  refine sm_aload_n X 1085 0 dL_law_1084 rfl rfl rfl ?_
  refine sm_iload_n X 1086 3 dL_law_1085 rfl rfl rfl ?_
  refine sm_iconst X 1087 (3) dL_law_1086 rfl rfl ?_
  refine sm_iadd X 1088 dL_law_1087 rfl ?_
  refine sm_sld X 1089 hX hbl hbA hv3 dL_law_1088 rfl ?_
  refine sm_callV0 X 1092 [.int (xs (i + 1).toNatClampNeg), .int (xs (i + 2).toNatClampNeg), .int (xs (i + 3).toNatClampNeg)] [] [.int z.1] (c_X9_training l G r.2 (xs (i + 1).toNatClampNeg) (xs (i + 2).toNatClampNeg) (xs (i + 3).toNatClampNeg) z hs9) cw_X9_training q_1219 q_1220 q_1218 (by decide : K0 81 = 9) (by decide) rfl rfl rfl rfl rfl (Nat.le_of_ble_eq_true rfl) ⟨(Nat.le_of_ble_eq_true rfl), (Nat.le_of_ble_eq_true rfl)⟩ hc3 dL_law_1089 rfl ?_
  refine sm_pop X 1093 dL_law_1092 rfl rfl ?_
  refine sm_goto X 1551 dL_law_1093 (by decide) ?_
  exact hend z.2 hI1
set_option maxHeartbeats 4000000 in
set_option maxRecDepth 100000 in
theorem law_c24 {p : Program} {e : Env} {s : State} {m : MethodId} {below : List Frame} {meth : Method} {c : Code} (l : Launch) {G : GT} {b L : Nat} {xs : Nat → Int32} (c3 s3 : Nat) (hc3 : c3 ≤ 600000 ∧ s3 ≤ 7302249) (X : Cx p s m #[Value.ref b] meth c code 4 RL G) (hX : va_X b L xs s s.heap) (hbl : b < s.heap.size) (hbA : ¬ smA G b) {I I' : Sto → Prop} (hst : LSt law_eqs I I') (σ : Sto) (hI : I σ) (i : Int32) (hv0 : vp_in i L) (hv1 : vp_in (i + 1) L) (hv2 : vp_in (i + 2) L) (hv3 : vp_in (i + 3) L) (hv4 : vp_in (i + 4) L) (hv5 : vp_in (i + 5) L) (hend : ∀ σ', I' σ' → Sm p l e room_1 s m #[Value.ref b] below meth c G 4 (fun _ : Unit => lw_Z below #[Value.ref b] s) c3 s3 (wl G σ') 1551 [(0, .ref b), (1, .ref (gad G 0)), (2, .ref (gad G 81)), (3, .int i)] [] (some ())) : Sm p l e room_1 s m #[Value.ref b] below meth c G 4 (fun _ : Unit => lw_Z below #[Value.ref b] s) c3 s3 (wl G σ) 1096 [(0, .ref b), (1, .ref (gad G 0)), (2, .ref (gad G 81)), (3, .int i)] [] (some ()) := by
  obtain ⟨r, z, hr8, hs9, he, hI1⟩ := (hst).2.2.2.2.2.2.2.2.2.2.2.2.2.2.2.2.2.2.2.2.2.2.2.2.2.1 (xs (i + 1).toNatClampNeg) (xs (i + 2).toNatClampNeg) σ hI
  refine sm_aload_n X 1097 1 dL_law_1096 rfl rfl rfl ?_
  refine sm_aload_n X 1098 0 dL_law_1097 rfl rfl rfl ?_
  refine sm_iload_n X 1099 3 dL_law_1098 rfl rfl rfl ?_
  refine sm_iconst X 1100 (1) dL_law_1099 rfl rfl ?_
  refine sm_iadd X 1101 dL_law_1100 rfl ?_
  refine sm_sld X 1102 hX hbl hbA hv1 dL_law_1101 rfl ?_
  refine sm_aload_n X 1103 0 dL_law_1102 rfl rfl rfl ?_
  refine sm_iload_n X 1104 3 dL_law_1103 rfl rfl rfl ?_
  refine sm_iconst X 1105 (2) dL_law_1104 rfl rfl ?_
  refine sm_iadd X 1106 dL_law_1105 rfl ?_
  refine sm_sld X 1107 hX hbl hbA hv2 dL_law_1106 rfl ?_
  refine sm_callV0 X 1110 [.int (xs (i + 1).toNatClampNeg), .int (xs (i + 2).toNatClampNeg)] [] [.int r.1] (c_X8_fair l G σ (xs (i + 1).toNatClampNeg) (xs (i + 2).toNatClampNeg) r hr8) cw_X8_fair q_758 q_759 q_757 (by decide : K0 0 = 8) (by decide) rfl rfl rfl rfl rfl (Nat.le_of_ble_eq_true rfl) ⟨(Nat.le_of_ble_eq_true rfl), (Nat.le_of_ble_eq_true rfl)⟩ hc3 dL_law_1107 rfl ?_
  refine sm_pop X 1111 dL_law_1110 rfl rfl ?_
  refine sm_aload_n X 1112 2 dL_law_1111 rfl rfl rfl ?_
  refine sm_aload_n X 1113 0 dL_law_1112 rfl rfl rfl ?_
  refine sm_iload_n X 1114 3 dL_law_1113 rfl rfl rfl ?_
  refine sm_iconst X 1115 (1) dL_law_1114 rfl rfl ?_
  refine sm_iadd X 1116 dL_law_1115 rfl ?_
  refine sm_sld X 1117 hX hbl hbA hv1 dL_law_1116 rfl ?_
  refine sm_aload_n X 1118 0 dL_law_1117 rfl rfl rfl ?_
  refine sm_iload_n X 1119 3 dL_law_1118 rfl rfl rfl ?_
  refine sm_iconst X 1120 (2) dL_law_1119 rfl rfl ?_
  refine sm_iadd X 1121 dL_law_1120 rfl ?_
  refine sm_sld X 1122 hX hbl hbA hv2 dL_law_1121 rfl ?_
  refine sm_callV0 X 1125 [.int (xs (i + 1).toNatClampNeg), .int (xs (i + 2).toNatClampNeg)] [] [.int z.1] (c_X9_fair l G r.2 (xs (i + 1).toNatClampNeg) (xs (i + 2).toNatClampNeg) z hs9) cw_X9_fair q_1223 q_1224 q_1222 (by decide : K0 81 = 9) (by decide) rfl rfl rfl rfl rfl (Nat.le_of_ble_eq_true rfl) ⟨(Nat.le_of_ble_eq_true rfl), (Nat.le_of_ble_eq_true rfl)⟩ hc3 dL_law_1122 rfl ?_
  refine sm_pop X 1126 dL_law_1125 rfl rfl ?_
  refine sm_goto X 1551 dL_law_1126 (by decide) ?_
  exact hend z.2 hI1
set_option maxHeartbeats 4000000 in
set_option maxRecDepth 100000 in
theorem law_c25 {p : Program} {e : Env} {s : State} {m : MethodId} {below : List Frame} {meth : Method} {c : Code} (l : Launch) {G : GT} {b L : Nat} {xs : Nat → Int32} (c3 s3 : Nat) (hc3 : c3 ≤ 600000 ∧ s3 ≤ 7302249) (X : Cx p s m #[Value.ref b] meth c code 4 RL G) (hX : va_X b L xs s s.heap) (hbl : b < s.heap.size) (hbA : ¬ smA G b) {I I' : Sto → Prop} (hst : LSt law_eqs I I') (σ : Sto) (hI : I σ) (i : Int32) (hv0 : vp_in i L) (hv1 : vp_in (i + 1) L) (hv2 : vp_in (i + 2) L) (hv3 : vp_in (i + 3) L) (hv4 : vp_in (i + 4) L) (hv5 : vp_in (i + 5) L) (hend : ∀ σ', I' σ' → Sm p l e room_1 s m #[Value.ref b] below meth c G 4 (fun _ : Unit => lw_Z below #[Value.ref b] s) c3 s3 (wl G σ') 1551 [(0, .ref b), (1, .ref (gad G 0)), (2, .ref (gad G 81)), (3, .int i)] [] (some ())) : Sm p l e room_1 s m #[Value.ref b] below meth c G 4 (fun _ : Unit => lw_Z below #[Value.ref b] s) c3 s3 (wl G σ) 1129 [(0, .ref b), (1, .ref (gad G 0)), (2, .ref (gad G 81)), (3, .int i)] [] (some ()) := by
  obtain ⟨r, z, hr8, hs9, he, hI1⟩ := (hst).2.2.2.2.2.2.2.2.2.2.2.2.2.2.2.2.2.2.2.2.2.2.2.2.2.2.1 (xs (i + 1).toNatClampNeg) σ hI
  refine sm_aload_n X 1130 1 dL_law_1129 rfl rfl rfl ?_
  refine sm_aload_n X 1131 0 dL_law_1130 rfl rfl rfl ?_
  refine sm_iload_n X 1132 3 dL_law_1131 rfl rfl rfl ?_
  refine sm_iconst X 1133 (1) dL_law_1132 rfl rfl ?_
  refine sm_iadd X 1134 dL_law_1133 rfl ?_
  refine sm_sld X 1135 hX hbl hbA hv1 dL_law_1134 rfl ?_
  refine sm_callV0 X 1138 [.int (xs (i + 1).toNatClampNeg)] [] [.int r.1] (c_X8_seed l G σ (xs (i + 1).toNatClampNeg) r hr8) cw_X8_seed q_762 q_763 q_761 (by decide : K0 0 = 8) (by decide) rfl rfl rfl rfl rfl (Nat.le_of_ble_eq_true rfl) ⟨(Nat.le_of_ble_eq_true rfl), (Nat.le_of_ble_eq_true rfl)⟩ hc3 dL_law_1135 rfl ?_
  refine sm_pop X 1139 dL_law_1138 rfl rfl ?_
  refine sm_aload_n X 1140 2 dL_law_1139 rfl rfl rfl ?_
  refine sm_aload_n X 1141 0 dL_law_1140 rfl rfl rfl ?_
  refine sm_iload_n X 1142 3 dL_law_1141 rfl rfl rfl ?_
  refine sm_iconst X 1143 (1) dL_law_1142 rfl rfl ?_
  refine sm_iadd X 1144 dL_law_1143 rfl ?_
  refine sm_sld X 1145 hX hbl hbA hv1 dL_law_1144 rfl ?_
  refine sm_callV0 X 1148 [.int (xs (i + 1).toNatClampNeg)] [] [.int z.1] (c_X9_seed l G r.2 (xs (i + 1).toNatClampNeg) z hs9) cw_X9_seed q_1231 q_1232 q_1230 (by decide : K0 81 = 9) (by decide) rfl rfl rfl rfl rfl (Nat.le_of_ble_eq_true rfl) ⟨(Nat.le_of_ble_eq_true rfl), (Nat.le_of_ble_eq_true rfl)⟩ hc3 dL_law_1145 rfl ?_
  refine sm_pop X 1149 dL_law_1148 rfl rfl ?_
  refine sm_goto X 1551 dL_law_1149 (by decide) ?_
  exact hend z.2 hI1
set_option maxHeartbeats 4000000 in
set_option maxRecDepth 100000 in
theorem law_c26 {p : Program} {e : Env} {s : State} {m : MethodId} {below : List Frame} {meth : Method} {c : Code} (l : Launch) {G : GT} {b L : Nat} {xs : Nat → Int32} (c3 s3 : Nat) (hc3 : c3 ≤ 600000 ∧ s3 ≤ 7302249) (X : Cx p s m #[Value.ref b] meth c code 4 RL G) (hX : va_X b L xs s s.heap) (hbl : b < s.heap.size) (hbA : ¬ smA G b) {I I' : Sto → Prop} (hst : LSt law_eqs I I') (σ : Sto) (hI : I σ) (i : Int32) (hv0 : vp_in i L) (hv1 : vp_in (i + 1) L) (hv2 : vp_in (i + 2) L) (hv3 : vp_in (i + 3) L) (hv4 : vp_in (i + 4) L) (hv5 : vp_in (i + 5) L) (hend : ∀ σ', I' σ' → Sm p l e room_1 s m #[Value.ref b] below meth c G 4 (fun _ : Unit => lw_Z below #[Value.ref b] s) c3 s3 (wl G σ') 1551 [(0, .ref b), (1, .ref (gad G 0)), (2, .ref (gad G 81)), (3, .int i)] [] (some ())) : Sm p l e room_1 s m #[Value.ref b] below meth c G 4 (fun _ : Unit => lw_Z below #[Value.ref b] s) c3 s3 (wl G σ) 1152 [(0, .ref b), (1, .ref (gad G 0)), (2, .ref (gad G 81)), (3, .int i)] [] (some ()) := by
  obtain ⟨r, z, hr8, hs9, he, hI1⟩ := (hst).2.2.2.2.2.2.2.2.2.2.2.2.2.2.2.2.2.2.2.2.2.2.2.2.2.2.2.1 (xs (i + 1).toNatClampNeg) (xs (i + 2).toNatClampNeg) (xs (i + 3).toNatClampNeg) σ hI
  refine sm_aload_n X 1153 1 dL_law_1152 rfl rfl rfl ?_
  refine sm_aload_n X 1154 0 dL_law_1153 rfl rfl rfl ?_
  refine sm_iload_n X 1155 3 dL_law_1154 rfl rfl rfl ?_
  refine sm_iconst X 1156 (1) dL_law_1155 rfl rfl ?_
  refine sm_iadd X 1157 dL_law_1156 rfl ?_
  refine sm_sld X 1158 hX hbl hbA hv1 dL_law_1157 rfl ?_
  refine sm_aload_n X 1159 0 dL_law_1158 rfl rfl rfl ?_
  refine sm_iload_n X 1160 3 dL_law_1159 rfl rfl rfl ?_
  refine sm_iconst X 1161 (2) dL_law_1160 rfl rfl ?_
  refine sm_iadd X 1162 dL_law_1161 rfl ?_
  refine sm_sld X 1163 hX hbl hbA hv2 dL_law_1162 rfl ?_
  refine sm_aload_n X 1164 0 dL_law_1163 rfl rfl rfl ?_
  refine sm_iload_n X 1165 3 dL_law_1164 rfl rfl rfl ?_
  refine sm_iconst X 1166 (3) dL_law_1165 rfl rfl ?_
  refine sm_iadd X 1167 dL_law_1166 rfl ?_
  refine sm_sld X 1168 hX hbl hbA hv3 dL_law_1167 rfl ?_
  refine sm_callV0 X 1171 [.int (xs (i + 1).toNatClampNeg), .int (xs (i + 2).toNatClampNeg), .int (xs (i + 3).toNatClampNeg)] [] [.int r.1] (c_X8_voice l G σ (xs (i + 1).toNatClampNeg) (xs (i + 2).toNatClampNeg) (xs (i + 3).toNatClampNeg) r hr8) cw_X8_voice q_766 q_767 q_765 (by decide : K0 0 = 8) (by decide) rfl rfl rfl rfl rfl (Nat.le_of_ble_eq_true rfl) ⟨(Nat.le_of_ble_eq_true rfl), (Nat.le_of_ble_eq_true rfl)⟩ hc3 dL_law_1168 rfl ?_
  refine sm_pop X 1172 dL_law_1171 rfl rfl ?_
  refine sm_aload_n X 1173 2 dL_law_1172 rfl rfl rfl ?_
  refine sm_aload_n X 1174 0 dL_law_1173 rfl rfl rfl ?_
  refine sm_iload_n X 1175 3 dL_law_1174 rfl rfl rfl ?_
  refine sm_iconst X 1176 (1) dL_law_1175 rfl rfl ?_
  refine sm_iadd X 1177 dL_law_1176 rfl ?_
  refine sm_sld X 1178 hX hbl hbA hv1 dL_law_1177 rfl ?_
  refine sm_aload_n X 1179 0 dL_law_1178 rfl rfl rfl ?_
  refine sm_iload_n X 1180 3 dL_law_1179 rfl rfl rfl ?_
  refine sm_iconst X 1181 (2) dL_law_1180 rfl rfl ?_
  refine sm_iadd X 1182 dL_law_1181 rfl ?_
  refine sm_sld X 1183 hX hbl hbA hv2 dL_law_1182 rfl ?_
  refine sm_aload_n X 1184 0 dL_law_1183 rfl rfl rfl ?_
  refine sm_iload_n X 1185 3 dL_law_1184 rfl rfl rfl ?_
  refine sm_iconst X 1186 (3) dL_law_1185 rfl rfl ?_
  refine sm_iadd X 1187 dL_law_1186 rfl ?_
  refine sm_sld X 1188 hX hbl hbA hv3 dL_law_1187 rfl ?_
  refine sm_callV0 X 1191 [.int (xs (i + 1).toNatClampNeg), .int (xs (i + 2).toNatClampNeg), .int (xs (i + 3).toNatClampNeg)] [] [.int z.1] (c_X9_voice l G r.2 (xs (i + 1).toNatClampNeg) (xs (i + 2).toNatClampNeg) (xs (i + 3).toNatClampNeg) z hs9) cw_X9_voice q_1235 q_1236 q_1234 (by decide : K0 81 = 9) (by decide) rfl rfl rfl rfl rfl (Nat.le_of_ble_eq_true rfl) ⟨(Nat.le_of_ble_eq_true rfl), (Nat.le_of_ble_eq_true rfl)⟩ hc3 dL_law_1188 rfl ?_
  refine sm_pop X 1192 dL_law_1191 rfl rfl ?_
  refine sm_goto X 1551 dL_law_1192 (by decide) ?_
  exact hend z.2 hI1
set_option maxHeartbeats 4000000 in
set_option maxRecDepth 100000 in
theorem law_c27 {p : Program} {e : Env} {s : State} {m : MethodId} {below : List Frame} {meth : Method} {c : Code} (l : Launch) {G : GT} {b L : Nat} {xs : Nat → Int32} (c3 s3 : Nat) (hc3 : c3 ≤ 600000 ∧ s3 ≤ 7302249) (X : Cx p s m #[Value.ref b] meth c code 4 RL G) (hX : va_X b L xs s s.heap) (hbl : b < s.heap.size) (hbA : ¬ smA G b) {I I' : Sto → Prop} (hst : LSt law_eqs I I') (σ : Sto) (hI : I σ) (i : Int32) (hv0 : vp_in i L) (hv1 : vp_in (i + 1) L) (hv2 : vp_in (i + 2) L) (hv3 : vp_in (i + 3) L) (hv4 : vp_in (i + 4) L) (hv5 : vp_in (i + 5) L) (hend : ∀ σ', I' σ' → Sm p l e room_1 s m #[Value.ref b] below meth c G 4 (fun _ : Unit => lw_Z below #[Value.ref b] s) c3 s3 (wl G σ') 1551 [(0, .ref b), (1, .ref (gad G 0)), (2, .ref (gad G 81)), (3, .int i)] [] (some ())) : Sm p l e room_1 s m #[Value.ref b] below meth c G 4 (fun _ : Unit => lw_Z below #[Value.ref b] s) c3 s3 (wl G σ) 1195 [(0, .ref b), (1, .ref (gad G 0)), (2, .ref (gad G 81)), (3, .int i)] [] (some ()) := by
  obtain ⟨r, z, hr8, hs9, he, hI1⟩ := (hst).2.2.2.2.2.2.2.2.2.2.2.2.2.2.2.2.2.2.2.2.2.2.2.2.2.2.2.2.1 (xs (i + 1).toNatClampNeg) σ hI
  refine sm_aload_n X 1196 1 dL_law_1195 rfl rfl rfl ?_
  refine sm_aload_n X 1197 0 dL_law_1196 rfl rfl rfl ?_
  refine sm_iload_n X 1198 3 dL_law_1197 rfl rfl rfl ?_
  refine sm_iconst X 1199 (1) dL_law_1198 rfl rfl ?_
  refine sm_iadd X 1200 dL_law_1199 rfl ?_
  refine sm_sld X 1201 hX hbl hbA hv1 dL_law_1200 rfl ?_
  refine sm_callV0 X 1204 [.int (xs (i + 1).toNatClampNeg)] [] [.int r.1] (c_X8_trace l G σ (xs (i + 1).toNatClampNeg) r hr8) cw_X8_trace q_789 q_790 q_788 (by decide : K0 0 = 8) (by decide) rfl rfl rfl rfl rfl (Nat.le_of_ble_eq_true rfl) ⟨(Nat.le_of_ble_eq_true rfl), (Nat.le_of_ble_eq_true rfl)⟩ hc3 dL_law_1201 rfl ?_
  refine sm_pop X 1205 dL_law_1204 rfl rfl ?_
  refine sm_aload_n X 1206 2 dL_law_1205 rfl rfl rfl ?_
  refine sm_aload_n X 1207 0 dL_law_1206 rfl rfl rfl ?_
  refine sm_iload_n X 1208 3 dL_law_1207 rfl rfl rfl ?_
  refine sm_iconst X 1209 (1) dL_law_1208 rfl rfl ?_
  refine sm_iadd X 1210 dL_law_1209 rfl ?_
  refine sm_sld X 1211 hX hbl hbA hv1 dL_law_1210 rfl ?_
  refine sm_callV0 X 1214 [.int (xs (i + 1).toNatClampNeg)] [] [.int z.1] (c_X9_trace l G r.2 (xs (i + 1).toNatClampNeg) z hs9) cw_X9_trace q_1263 q_1264 q_1262 (by decide : K0 81 = 9) (by decide) rfl rfl rfl rfl rfl (Nat.le_of_ble_eq_true rfl) ⟨(Nat.le_of_ble_eq_true rfl), (Nat.le_of_ble_eq_true rfl)⟩ hc3 dL_law_1211 rfl ?_
  refine sm_pop X 1215 dL_law_1214 rfl rfl ?_
  refine sm_goto X 1551 dL_law_1215 (by decide) ?_
  exact hend z.2 hI1
set_option maxHeartbeats 4000000 in
set_option maxRecDepth 100000 in
theorem law_c28 {p : Program} {e : Env} {s : State} {m : MethodId} {below : List Frame} {meth : Method} {c : Code} (l : Launch) {G : GT} {b L : Nat} {xs : Nat → Int32} (c3 s3 : Nat) (hc3 : c3 ≤ 600000 ∧ s3 ≤ 7302249) (X : Cx p s m #[Value.ref b] meth c code 4 RL G) (hX : va_X b L xs s s.heap) (hbl : b < s.heap.size) (hbA : ¬ smA G b) {I I' : Sto → Prop} (hst : LSt law_eqs I I') (σ : Sto) (hI : I σ) (i : Int32) (hv0 : vp_in i L) (hv1 : vp_in (i + 1) L) (hv2 : vp_in (i + 2) L) (hv3 : vp_in (i + 3) L) (hv4 : vp_in (i + 4) L) (hv5 : vp_in (i + 5) L) (hend : ∀ σ', I' σ' → Sm p l e room_1 s m #[Value.ref b] below meth c G 4 (fun _ : Unit => lw_Z below #[Value.ref b] s) c3 s3 (wl G σ') 1551 [(0, .ref b), (1, .ref (gad G 0)), (2, .ref (gad G 81)), (3, .int i)] [] (some ())) : Sm p l e room_1 s m #[Value.ref b] below meth c G 4 (fun _ : Unit => lw_Z below #[Value.ref b] s) c3 s3 (wl G σ) 1218 [(0, .ref b), (1, .ref (gad G 0)), (2, .ref (gad G 81)), (3, .int i)] [] (some ()) := by
  obtain ⟨r, z, hr8, hs9, he, hI1⟩ := (hst).2.2.2.2.2.2.2.2.2.2.2.2.2.2.2.2.2.2.2.2.2.2.2.2.2.2.2.2.2.1 (xs (i + 1).toNatClampNeg) (xs (i + 2).toNatClampNeg) (xs (i + 3).toNatClampNeg) σ hI
  refine sm_aload_n X 1219 1 dL_law_1218 rfl rfl rfl ?_
  refine sm_aload_n X 1220 0 dL_law_1219 rfl rfl rfl ?_
  refine sm_iload_n X 1221 3 dL_law_1220 rfl rfl rfl ?_
  refine sm_iconst X 1222 (1) dL_law_1221 rfl rfl ?_
  refine sm_iadd X 1223 dL_law_1222 rfl ?_
  refine sm_sld X 1224 hX hbl hbA hv1 dL_law_1223 rfl ?_
  refine sm_aload_n X 1225 0 dL_law_1224 rfl rfl rfl ?_
  refine sm_iload_n X 1226 3 dL_law_1225 rfl rfl rfl ?_
  refine sm_iconst X 1227 (2) dL_law_1226 rfl rfl ?_
  refine sm_iadd X 1228 dL_law_1227 rfl ?_
  refine sm_sld X 1229 hX hbl hbA hv2 dL_law_1228 rfl ?_
  refine sm_aload_n X 1230 0 dL_law_1229 rfl rfl rfl ?_
  refine sm_iload_n X 1231 3 dL_law_1230 rfl rfl rfl ?_
  refine sm_iconst X 1232 (3) dL_law_1231 rfl rfl ?_
  refine sm_iadd X 1233 dL_law_1232 rfl ?_
  refine sm_sld X 1234 hX hbl hbA hv3 dL_law_1233 rfl ?_
  refine sm_callV0 X 1237 [.int (xs (i + 1).toNatClampNeg), .int (xs (i + 2).toNatClampNeg), .int (xs (i + 3).toNatClampNeg)] [] [.int r.1] (c_X8_sheet l G σ (xs (i + 1).toNatClampNeg) (xs (i + 2).toNatClampNeg) (xs (i + 3).toNatClampNeg) r hr8) cw_X8_sheet q_793 q_794 q_792 (by decide : K0 0 = 8) (by decide) rfl rfl rfl rfl rfl (Nat.le_of_ble_eq_true rfl) ⟨(Nat.le_of_ble_eq_true rfl), (Nat.le_of_ble_eq_true rfl)⟩ hc3 dL_law_1234 rfl ?_
  refine sm_pop X 1238 dL_law_1237 rfl rfl ?_
  refine sm_aload_n X 1239 2 dL_law_1238 rfl rfl rfl ?_
  refine sm_aload_n X 1240 0 dL_law_1239 rfl rfl rfl ?_
  refine sm_iload_n X 1241 3 dL_law_1240 rfl rfl rfl ?_
  refine sm_iconst X 1242 (1) dL_law_1241 rfl rfl ?_
  refine sm_iadd X 1243 dL_law_1242 rfl ?_
  refine sm_sld X 1244 hX hbl hbA hv1 dL_law_1243 rfl ?_
  refine sm_aload_n X 1245 0 dL_law_1244 rfl rfl rfl ?_
  refine sm_iload_n X 1246 3 dL_law_1245 rfl rfl rfl ?_
  refine sm_iconst X 1247 (2) dL_law_1246 rfl rfl ?_
  refine sm_iadd X 1248 dL_law_1247 rfl ?_
  refine sm_sld X 1249 hX hbl hbA hv2 dL_law_1248 rfl ?_
  refine sm_aload_n X 1250 0 dL_law_1249 rfl rfl rfl ?_
  refine sm_iload_n X 1251 3 dL_law_1250 rfl rfl rfl ?_
  refine sm_iconst X 1252 (3) dL_law_1251 rfl rfl ?_
  refine sm_iadd X 1253 dL_law_1252 rfl ?_
  refine sm_sld X 1254 hX hbl hbA hv3 dL_law_1253 rfl ?_
  refine sm_callV0 X 1257 [.int (xs (i + 1).toNatClampNeg), .int (xs (i + 2).toNatClampNeg), .int (xs (i + 3).toNatClampNeg)] [] [.int z.1] (c_X9_sheet l G r.2 (xs (i + 1).toNatClampNeg) (xs (i + 2).toNatClampNeg) (xs (i + 3).toNatClampNeg) z hs9) cw_X9_sheet q_1267 q_1268 q_1266 (by decide : K0 81 = 9) (by decide) rfl rfl rfl rfl rfl (Nat.le_of_ble_eq_true rfl) ⟨(Nat.le_of_ble_eq_true rfl), (Nat.le_of_ble_eq_true rfl)⟩ hc3 dL_law_1254 rfl ?_
  refine sm_pop X 1258 dL_law_1257 rfl rfl ?_
  refine sm_goto X 1551 dL_law_1258 (by decide) ?_
  exact hend z.2 hI1
set_option maxHeartbeats 4000000 in
set_option maxRecDepth 100000 in
theorem law_c29 {p : Program} {e : Env} {s : State} {m : MethodId} {below : List Frame} {meth : Method} {c : Code} (l : Launch) {G : GT} {b L : Nat} {xs : Nat → Int32} (c3 s3 : Nat) (hc3 : c3 ≤ 600000 ∧ s3 ≤ 7302249) (X : Cx p s m #[Value.ref b] meth c code 4 RL G) (hX : va_X b L xs s s.heap) (hbl : b < s.heap.size) (hbA : ¬ smA G b) {I I' : Sto → Prop} (hst : LSt law_eqs I I') (σ : Sto) (hI : I σ) (i : Int32) (hv0 : vp_in i L) (hv1 : vp_in (i + 1) L) (hv2 : vp_in (i + 2) L) (hv3 : vp_in (i + 3) L) (hv4 : vp_in (i + 4) L) (hv5 : vp_in (i + 5) L) (hend : ∀ σ', I' σ' → Sm p l e room_1 s m #[Value.ref b] below meth c G 4 (fun _ : Unit => lw_Z below #[Value.ref b] s) c3 s3 (wl G σ') 1551 [(0, .ref b), (1, .ref (gad G 0)), (2, .ref (gad G 81)), (3, .int i)] [] (some ())) : Sm p l e room_1 s m #[Value.ref b] below meth c G 4 (fun _ : Unit => lw_Z below #[Value.ref b] s) c3 s3 (wl G σ) 1261 [(0, .ref b), (1, .ref (gad G 0)), (2, .ref (gad G 81)), (3, .int i)] [] (some ()) := by
  obtain ⟨r, z, hr8, hs9, he, hI1⟩ := (hst).2.2.2.2.2.2.2.2.2.2.2.2.2.2.2.2.2.2.2.2.2.2.2.2.2.2.2.2.2.2.1 (xs (i + 1).toNatClampNeg) (xs (i + 2).toNatClampNeg) (xs (i + 3).toNatClampNeg) σ hI
  refine sm_aload_n X 1262 1 dL_law_1261 rfl rfl rfl ?_
  refine sm_aload_n X 1263 0 dL_law_1262 rfl rfl rfl ?_
  refine sm_iload_n X 1264 3 dL_law_1263 rfl rfl rfl ?_
  refine sm_iconst X 1265 (1) dL_law_1264 rfl rfl ?_
  refine sm_iadd X 1266 dL_law_1265 rfl ?_
  refine sm_sld X 1267 hX hbl hbA hv1 dL_law_1266 rfl ?_
  refine sm_aload_n X 1268 0 dL_law_1267 rfl rfl rfl ?_
  refine sm_iload_n X 1269 3 dL_law_1268 rfl rfl rfl ?_
  refine sm_iconst X 1270 (2) dL_law_1269 rfl rfl ?_
  refine sm_iadd X 1271 dL_law_1270 rfl ?_
  refine sm_sld X 1272 hX hbl hbA hv2 dL_law_1271 rfl ?_
  refine sm_aload_n X 1273 0 dL_law_1272 rfl rfl rfl ?_
  refine sm_iload_n X 1274 3 dL_law_1273 rfl rfl rfl ?_
  refine sm_iconst X 1275 (3) dL_law_1274 rfl rfl ?_
  refine sm_iadd X 1276 dL_law_1275 rfl ?_
  refine sm_sld X 1277 hX hbl hbA hv3 dL_law_1276 rfl ?_
  refine sm_callV0 X 1280 [.int (xs (i + 1).toNatClampNeg), .int (xs (i + 2).toNatClampNeg), .int (xs (i + 3).toNatClampNeg)] [] [.int r.1] (c_X8_put l G σ (xs (i + 1).toNatClampNeg) (xs (i + 2).toNatClampNeg) (xs (i + 3).toNatClampNeg) r hr8) cw_X8_put q_806 q_807 q_805 (by decide : K0 0 = 8) (by decide) rfl rfl rfl rfl rfl (Nat.le_of_ble_eq_true rfl) ⟨(Nat.le_of_ble_eq_true rfl), (Nat.le_of_ble_eq_true rfl)⟩ hc3 dL_law_1277 rfl ?_
  refine sm_pop X 1281 dL_law_1280 rfl rfl ?_
  refine sm_aload_n X 1282 2 dL_law_1281 rfl rfl rfl ?_
  refine sm_aload_n X 1283 0 dL_law_1282 rfl rfl rfl ?_
  refine sm_iload_n X 1284 3 dL_law_1283 rfl rfl rfl ?_
  refine sm_iconst X 1285 (1) dL_law_1284 rfl rfl ?_
  refine sm_iadd X 1286 dL_law_1285 rfl ?_
  refine sm_sld X 1287 hX hbl hbA hv1 dL_law_1286 rfl ?_
  refine sm_aload_n X 1288 0 dL_law_1287 rfl rfl rfl ?_
  refine sm_iload_n X 1289 3 dL_law_1288 rfl rfl rfl ?_
  refine sm_iconst X 1290 (2) dL_law_1289 rfl rfl ?_
  refine sm_iadd X 1291 dL_law_1290 rfl ?_
  refine sm_sld X 1292 hX hbl hbA hv2 dL_law_1291 rfl ?_
  refine sm_aload_n X 1293 0 dL_law_1292 rfl rfl rfl ?_
  refine sm_iload_n X 1294 3 dL_law_1293 rfl rfl rfl ?_
  refine sm_iconst X 1295 (3) dL_law_1294 rfl rfl ?_
  refine sm_iadd X 1296 dL_law_1295 rfl ?_
  refine sm_sld X 1297 hX hbl hbA hv3 dL_law_1296 rfl ?_
  refine sm_callV0 X 1300 [.int (xs (i + 1).toNatClampNeg), .int (xs (i + 2).toNatClampNeg), .int (xs (i + 3).toNatClampNeg)] [] [.int z.1] (c_X9_put l G r.2 (xs (i + 1).toNatClampNeg) (xs (i + 2).toNatClampNeg) (xs (i + 3).toNatClampNeg) z hs9) cw_X9_put q_1274 q_1275 q_1273 (by decide : K0 81 = 9) (by decide) rfl rfl rfl rfl rfl (Nat.le_of_ble_eq_true rfl) ⟨(Nat.le_of_ble_eq_true rfl), (Nat.le_of_ble_eq_true rfl)⟩ hc3 dL_law_1297 rfl ?_
  refine sm_pop X 1301 dL_law_1300 rfl rfl ?_
  refine sm_goto X 1551 dL_law_1301 (by decide) ?_
  exact hend z.2 hI1
set_option maxHeartbeats 4000000 in
set_option maxRecDepth 100000 in
theorem law_c30 {p : Program} {e : Env} {s : State} {m : MethodId} {below : List Frame} {meth : Method} {c : Code} (l : Launch) {G : GT} {b L : Nat} {xs : Nat → Int32} (c3 s3 : Nat) (hc3 : c3 ≤ 600000 ∧ s3 ≤ 7302249) (X : Cx p s m #[Value.ref b] meth c code 4 RL G) (hX : va_X b L xs s s.heap) (hbl : b < s.heap.size) (hbA : ¬ smA G b) {I I' : Sto → Prop} (hst : LSt law_eqs I I') (σ : Sto) (hI : I σ) (i : Int32) (hv0 : vp_in i L) (hv1 : vp_in (i + 1) L) (hv2 : vp_in (i + 2) L) (hv3 : vp_in (i + 3) L) (hv4 : vp_in (i + 4) L) (hv5 : vp_in (i + 5) L) (hend : ∀ σ', I' σ' → Sm p l e room_1 s m #[Value.ref b] below meth c G 4 (fun _ : Unit => lw_Z below #[Value.ref b] s) c3 s3 (wl G σ') 1551 [(0, .ref b), (1, .ref (gad G 0)), (2, .ref (gad G 81)), (3, .int i)] [] (some ())) : Sm p l e room_1 s m #[Value.ref b] below meth c G 4 (fun _ : Unit => lw_Z below #[Value.ref b] s) c3 s3 (wl G σ) 1304 [(0, .ref b), (1, .ref (gad G 0)), (2, .ref (gad G 81)), (3, .int i)] [] (some ()) := by
  obtain ⟨r, z, hr8, hs9, he, hI1⟩ := (hst).2.2.2.2.2.2.2.2.2.2.2.2.2.2.2.2.2.2.2.2.2.2.2.2.2.2.2.2.2.2.2.1 (xs (i + 1).toNatClampNeg) (xs (i + 2).toNatClampNeg) (xs (i + 3).toNatClampNeg) (xs (i + 4).toNatClampNeg) (xs (i + 5).toNatClampNeg) σ hI
  refine sm_aload_n X 1305 1 dL_law_1304 rfl rfl rfl ?_
  refine sm_aload_n X 1306 0 dL_law_1305 rfl rfl rfl ?_
  refine sm_iload_n X 1307 3 dL_law_1306 rfl rfl rfl ?_
  refine sm_iconst X 1308 (1) dL_law_1307 rfl rfl ?_
  refine sm_iadd X 1309 dL_law_1308 rfl ?_
  refine sm_sld X 1310 hX hbl hbA hv1 dL_law_1309 rfl ?_
  refine sm_aload_n X 1311 0 dL_law_1310 rfl rfl rfl ?_
  refine sm_iload_n X 1312 3 dL_law_1311 rfl rfl rfl ?_
  refine sm_iconst X 1313 (2) dL_law_1312 rfl rfl ?_
  refine sm_iadd X 1314 dL_law_1313 rfl ?_
  refine sm_sld X 1315 hX hbl hbA hv2 dL_law_1314 rfl ?_
  refine sm_aload_n X 1316 0 dL_law_1315 rfl rfl rfl ?_
  refine sm_iload_n X 1317 3 dL_law_1316 rfl rfl rfl ?_
  refine sm_iconst X 1318 (3) dL_law_1317 rfl rfl ?_
  refine sm_iadd X 1319 dL_law_1318 rfl ?_
  refine sm_sld X 1320 hX hbl hbA hv3 dL_law_1319 rfl ?_
  refine sm_aload_n X 1321 0 dL_law_1320 rfl rfl rfl ?_
  refine sm_iload_n X 1322 3 dL_law_1321 rfl rfl rfl ?_
  refine sm_iconst X 1323 (4) dL_law_1322 rfl rfl ?_
  refine sm_iadd X 1324 dL_law_1323 rfl ?_
  refine sm_sld X 1325 hX hbl hbA hv4 dL_law_1324 rfl ?_
  refine sm_aload_n X 1326 0 dL_law_1325 rfl rfl rfl ?_
  refine sm_iload_n X 1327 3 dL_law_1326 rfl rfl rfl ?_
  refine sm_iconst X 1328 (5) dL_law_1327 rfl rfl ?_
  refine sm_iadd X 1329 dL_law_1328 rfl ?_
  refine sm_sld X 1330 hX hbl hbA hv5 dL_law_1329 rfl ?_
  refine sm_callV0 X 1333 [.int (xs (i + 1).toNatClampNeg), .int (xs (i + 2).toNatClampNeg), .int (xs (i + 3).toNatClampNeg), .int (xs (i + 4).toNatClampNeg), .int (xs (i + 5).toNatClampNeg)] [] [.int r.1] (c_X8_move l G σ (xs (i + 1).toNatClampNeg) (xs (i + 2).toNatClampNeg) (xs (i + 3).toNatClampNeg) (xs (i + 4).toNatClampNeg) (xs (i + 5).toNatClampNeg) r hr8) cw_X8_move q_819 q_820 q_818 (by decide : K0 0 = 8) (by decide) rfl rfl rfl rfl rfl (Nat.le_of_ble_eq_true rfl) ⟨(Nat.le_of_ble_eq_true rfl), (Nat.le_of_ble_eq_true rfl)⟩ hc3 dL_law_1330 rfl ?_
  refine sm_pop X 1334 dL_law_1333 rfl rfl ?_
  refine sm_aload_n X 1335 2 dL_law_1334 rfl rfl rfl ?_
  refine sm_aload_n X 1336 0 dL_law_1335 rfl rfl rfl ?_
  refine sm_iload_n X 1337 3 dL_law_1336 rfl rfl rfl ?_
  refine sm_iconst X 1338 (1) dL_law_1337 rfl rfl ?_
  refine sm_iadd X 1339 dL_law_1338 rfl ?_
  refine sm_sld X 1340 hX hbl hbA hv1 dL_law_1339 rfl ?_
  refine sm_aload_n X 1341 0 dL_law_1340 rfl rfl rfl ?_
  refine sm_iload_n X 1342 3 dL_law_1341 rfl rfl rfl ?_
  refine sm_iconst X 1343 (2) dL_law_1342 rfl rfl ?_
  refine sm_iadd X 1344 dL_law_1343 rfl ?_
  refine sm_sld X 1345 hX hbl hbA hv2 dL_law_1344 rfl ?_
  refine sm_aload_n X 1346 0 dL_law_1345 rfl rfl rfl ?_
  refine sm_iload_n X 1347 3 dL_law_1346 rfl rfl rfl ?_
  refine sm_iconst X 1348 (3) dL_law_1347 rfl rfl ?_
  refine sm_iadd X 1349 dL_law_1348 rfl ?_
  refine sm_sld X 1350 hX hbl hbA hv3 dL_law_1349 rfl ?_
  refine sm_aload_n X 1351 0 dL_law_1350 rfl rfl rfl ?_
  refine sm_iload_n X 1352 3 dL_law_1351 rfl rfl rfl ?_
  refine sm_iconst X 1353 (4) dL_law_1352 rfl rfl ?_
  refine sm_iadd X 1354 dL_law_1353 rfl ?_
  refine sm_sld X 1355 hX hbl hbA hv4 dL_law_1354 rfl ?_
  refine sm_aload_n X 1356 0 dL_law_1355 rfl rfl rfl ?_
  refine sm_iload_n X 1357 3 dL_law_1356 rfl rfl rfl ?_
  refine sm_iconst X 1358 (5) dL_law_1357 rfl rfl ?_
  refine sm_iadd X 1359 dL_law_1358 rfl ?_
  refine sm_sld X 1360 hX hbl hbA hv5 dL_law_1359 rfl ?_
  refine sm_callV0 X 1363 [.int (xs (i + 1).toNatClampNeg), .int (xs (i + 2).toNatClampNeg), .int (xs (i + 3).toNatClampNeg), .int (xs (i + 4).toNatClampNeg), .int (xs (i + 5).toNatClampNeg)] [] [.int z.1] (c_X9_move l G r.2 (xs (i + 1).toNatClampNeg) (xs (i + 2).toNatClampNeg) (xs (i + 3).toNatClampNeg) (xs (i + 4).toNatClampNeg) (xs (i + 5).toNatClampNeg) z hs9) cw_X9_move q_1278 q_1279 q_1277 (by decide : K0 81 = 9) (by decide) rfl rfl rfl rfl rfl (Nat.le_of_ble_eq_true rfl) ⟨(Nat.le_of_ble_eq_true rfl), (Nat.le_of_ble_eq_true rfl)⟩ hc3 dL_law_1360 rfl ?_
  refine sm_pop X 1364 dL_law_1363 rfl rfl ?_
  refine sm_goto X 1551 dL_law_1364 (by decide) ?_
  exact hend z.2 hI1
set_option maxHeartbeats 4000000 in
set_option maxRecDepth 100000 in
theorem law_c31 {p : Program} {e : Env} {s : State} {m : MethodId} {below : List Frame} {meth : Method} {c : Code} (l : Launch) {G : GT} {b L : Nat} {xs : Nat → Int32} (c3 s3 : Nat) (hc3 : c3 ≤ 600000 ∧ s3 ≤ 7302249) (X : Cx p s m #[Value.ref b] meth c code 4 RL G) (hX : va_X b L xs s s.heap) (hbl : b < s.heap.size) (hbA : ¬ smA G b) {I I' : Sto → Prop} (hst : LSt law_eqs I I') (σ : Sto) (hI : I σ) (i : Int32) (hv0 : vp_in i L) (hv1 : vp_in (i + 1) L) (hv2 : vp_in (i + 2) L) (hv3 : vp_in (i + 3) L) (hv4 : vp_in (i + 4) L) (hv5 : vp_in (i + 5) L) (hend : ∀ σ', I' σ' → Sm p l e room_1 s m #[Value.ref b] below meth c G 4 (fun _ : Unit => lw_Z below #[Value.ref b] s) c3 s3 (wl G σ') 1551 [(0, .ref b), (1, .ref (gad G 0)), (2, .ref (gad G 81)), (3, .int i)] [] (some ())) : Sm p l e room_1 s m #[Value.ref b] below meth c G 4 (fun _ : Unit => lw_Z below #[Value.ref b] s) c3 s3 (wl G σ) 1367 [(0, .ref b), (1, .ref (gad G 0)), (2, .ref (gad G 81)), (3, .int i)] [] (some ()) := by
  obtain ⟨r, z, hr8, hs9, he, hI1⟩ := (hst).2.2.2.2.2.2.2.2.2.2.2.2.2.2.2.2.2.2.2.2.2.2.2.2.2.2.2.2.2.2.2.2.1 (xs (i + 1).toNatClampNeg) σ hI
  refine sm_aload_n X 1368 1 dL_law_1367 rfl rfl rfl ?_
  refine sm_aload_n X 1369 0 dL_law_1368 rfl rfl rfl ?_
  refine sm_iload_n X 1370 3 dL_law_1369 rfl rfl rfl ?_
  refine sm_iconst X 1371 (1) dL_law_1370 rfl rfl ?_
  refine sm_iadd X 1372 dL_law_1371 rfl ?_
  refine sm_sld X 1373 hX hbl hbA hv1 dL_law_1372 rfl ?_
  refine sm_callV0 X 1376 [.int (xs (i + 1).toNatClampNeg)] [] [.int r.1] (c_X8_years l G σ (xs (i + 1).toNatClampNeg) r hr8) cw_X8_years q_828 q_829 q_827 (by decide : K0 0 = 8) (by decide) rfl rfl rfl rfl rfl (Nat.le_of_ble_eq_true rfl) ⟨(Nat.le_of_ble_eq_true rfl), (Nat.le_of_ble_eq_true rfl)⟩ hc3 dL_law_1373 rfl ?_
  refine sm_pop X 1377 dL_law_1376 rfl rfl ?_
  refine sm_aload_n X 1378 2 dL_law_1377 rfl rfl rfl ?_
  refine sm_aload_n X 1379 0 dL_law_1378 rfl rfl rfl ?_
  refine sm_iload_n X 1380 3 dL_law_1379 rfl rfl rfl ?_
  refine sm_iconst X 1381 (1) dL_law_1380 rfl rfl ?_
  refine sm_iadd X 1382 dL_law_1381 rfl ?_
  refine sm_sld X 1383 hX hbl hbA hv1 dL_law_1382 rfl ?_
  refine sm_callV0 X 1386 [.int (xs (i + 1).toNatClampNeg)] [] [.int z.1] (c_X9_years l G r.2 (xs (i + 1).toNatClampNeg) z hs9) cw_X9_years q_1282 q_1283 q_1281 (by decide : K0 81 = 9) (by decide) rfl rfl rfl rfl rfl (Nat.le_of_ble_eq_true rfl) ⟨(Nat.le_of_ble_eq_true rfl), (Nat.le_of_ble_eq_true rfl)⟩ hc3 dL_law_1383 rfl ?_
  refine sm_pop X 1387 dL_law_1386 rfl rfl ?_
  refine sm_goto X 1551 dL_law_1387 (by decide) ?_
  exact hend z.2 hI1
set_option maxHeartbeats 4000000 in
set_option maxRecDepth 100000 in
theorem law_c32 {p : Program} {e : Env} {s : State} {m : MethodId} {below : List Frame} {meth : Method} {c : Code} (l : Launch) {G : GT} {b L : Nat} {xs : Nat → Int32} (c3 s3 : Nat) (hc3 : c3 ≤ 600000 ∧ s3 ≤ 7302249) (X : Cx p s m #[Value.ref b] meth c code 4 RL G) (hX : va_X b L xs s s.heap) (hbl : b < s.heap.size) (hbA : ¬ smA G b) {I I' : Sto → Prop} (hst : LSt law_eqs I I') (σ : Sto) (hI : I σ) (i : Int32) (hv0 : vp_in i L) (hv1 : vp_in (i + 1) L) (hv2 : vp_in (i + 2) L) (hv3 : vp_in (i + 3) L) (hv4 : vp_in (i + 4) L) (hv5 : vp_in (i + 5) L) (hend : ∀ σ', I' σ' → Sm p l e room_1 s m #[Value.ref b] below meth c G 4 (fun _ : Unit => lw_Z below #[Value.ref b] s) c3 s3 (wl G σ') 1551 [(0, .ref b), (1, .ref (gad G 0)), (2, .ref (gad G 81)), (3, .int i)] [] (some ())) : Sm p l e room_1 s m #[Value.ref b] below meth c G 4 (fun _ : Unit => lw_Z below #[Value.ref b] s) c3 s3 (wl G σ) 1390 [(0, .ref b), (1, .ref (gad G 0)), (2, .ref (gad G 81)), (3, .int i)] [] (some ()) := by
  obtain ⟨r, z, hr8, hs9, he, hI1⟩ := (hst).2.2.2.2.2.2.2.2.2.2.2.2.2.2.2.2.2.2.2.2.2.2.2.2.2.2.2.2.2.2.2.2.2.1 (xs (i + 1).toNatClampNeg) (xs (i + 2).toNatClampNeg) σ hI
  refine sm_aload_n X 1391 1 dL_law_1390 rfl rfl rfl ?_
  refine sm_aload_n X 1392 0 dL_law_1391 rfl rfl rfl ?_
  refine sm_iload_n X 1393 3 dL_law_1392 rfl rfl rfl ?_
  refine sm_iconst X 1394 (1) dL_law_1393 rfl rfl ?_
  refine sm_iadd X 1395 dL_law_1394 rfl ?_
  refine sm_sld X 1396 hX hbl hbA hv1 dL_law_1395 rfl ?_
  refine sm_aload_n X 1397 0 dL_law_1396 rfl rfl rfl ?_
  refine sm_iload_n X 1398 3 dL_law_1397 rfl rfl rfl ?_
  refine sm_iconst X 1399 (2) dL_law_1398 rfl rfl ?_
  refine sm_iadd X 1400 dL_law_1399 rfl ?_
  refine sm_sld X 1401 hX hbl hbA hv2 dL_law_1400 rfl ?_
  refine sm_callV0 X 1404 [.int (xs (i + 1).toNatClampNeg), .int (xs (i + 2).toNatClampNeg)] [] [.int r.1] (c_X8_judge l G σ (xs (i + 1).toNatClampNeg) (xs (i + 2).toNatClampNeg) r hr8) cw_X8_judge q_836 q_837 q_835 (by decide : K0 0 = 8) (by decide) rfl rfl rfl rfl rfl (Nat.le_of_ble_eq_true rfl) ⟨(Nat.le_of_ble_eq_true rfl), (Nat.le_of_ble_eq_true rfl)⟩ hc3 dL_law_1401 rfl ?_
  refine sm_pop X 1405 dL_law_1404 rfl rfl ?_
  refine sm_aload_n X 1406 2 dL_law_1405 rfl rfl rfl ?_
  refine sm_aload_n X 1407 0 dL_law_1406 rfl rfl rfl ?_
  refine sm_iload_n X 1408 3 dL_law_1407 rfl rfl rfl ?_
  refine sm_iconst X 1409 (1) dL_law_1408 rfl rfl ?_
  refine sm_iadd X 1410 dL_law_1409 rfl ?_
  refine sm_sld X 1411 hX hbl hbA hv1 dL_law_1410 rfl ?_
  refine sm_aload_n X 1412 0 dL_law_1411 rfl rfl rfl ?_
  refine sm_iload_n X 1413 3 dL_law_1412 rfl rfl rfl ?_
  refine sm_iconst X 1414 (2) dL_law_1413 rfl rfl ?_
  refine sm_iadd X 1415 dL_law_1414 rfl ?_
  refine sm_sld X 1416 hX hbl hbA hv2 dL_law_1415 rfl ?_
  refine sm_callV0 X 1419 [.int (xs (i + 1).toNatClampNeg), .int (xs (i + 2).toNatClampNeg)] [] [.int z.1] (c_X9_judge l G r.2 (xs (i + 1).toNatClampNeg) (xs (i + 2).toNatClampNeg) z hs9) cw_X9_judge q_1286 q_1287 q_1285 (by decide : K0 81 = 9) (by decide) rfl rfl rfl rfl rfl (Nat.le_of_ble_eq_true rfl) ⟨(Nat.le_of_ble_eq_true rfl), (Nat.le_of_ble_eq_true rfl)⟩ hc3 dL_law_1416 rfl ?_
  refine sm_pop X 1420 dL_law_1419 rfl rfl ?_
  refine sm_goto X 1551 dL_law_1420 (by decide) ?_
  exact hend z.2 hI1
set_option maxHeartbeats 4000000 in
set_option maxRecDepth 100000 in
theorem law_c33 {p : Program} {e : Env} {s : State} {m : MethodId} {below : List Frame} {meth : Method} {c : Code} (l : Launch) {G : GT} {b L : Nat} {xs : Nat → Int32} (c3 s3 : Nat) (hc3 : c3 ≤ 600000 ∧ s3 ≤ 7302249) (X : Cx p s m #[Value.ref b] meth c code 4 RL G) (hX : va_X b L xs s s.heap) (hbl : b < s.heap.size) (hbA : ¬ smA G b) {I I' : Sto → Prop} (hst : LSt law_eqs I I') (σ : Sto) (hI : I σ) (i : Int32) (hv0 : vp_in i L) (hv1 : vp_in (i + 1) L) (hv2 : vp_in (i + 2) L) (hv3 : vp_in (i + 3) L) (hv4 : vp_in (i + 4) L) (hv5 : vp_in (i + 5) L) (hend : ∀ σ', I' σ' → Sm p l e room_1 s m #[Value.ref b] below meth c G 4 (fun _ : Unit => lw_Z below #[Value.ref b] s) c3 s3 (wl G σ') 1551 [(0, .ref b), (1, .ref (gad G 0)), (2, .ref (gad G 81)), (3, .int i)] [] (some ())) : Sm p l e room_1 s m #[Value.ref b] below meth c G 4 (fun _ : Unit => lw_Z below #[Value.ref b] s) c3 s3 (wl G σ) 1423 [(0, .ref b), (1, .ref (gad G 0)), (2, .ref (gad G 81)), (3, .int i)] [] (some ()) := by
  obtain ⟨r, z, hr8, hs9, he, hI1⟩ := (hst).2.2.2.2.2.2.2.2.2.2.2.2.2.2.2.2.2.2.2.2.2.2.2.2.2.2.2.2.2.2.2.2.2.2.1 σ hI
  refine sm_aload_n X 1424 1 dL_law_1423 rfl rfl rfl ?_
  refine sm_callV0 X 1427 [] [] [.int r.1] (c_X8_image l G σ  r hr8) cw_X8_image q_842 q_843 q_841 (by decide : K0 0 = 8) (by decide) rfl rfl rfl rfl rfl (Nat.le_of_ble_eq_true rfl) ⟨(Nat.le_of_ble_eq_true rfl), (Nat.le_of_ble_eq_true rfl)⟩ hc3 dL_law_1424 rfl ?_
  refine sm_pop X 1428 dL_law_1427 rfl rfl ?_
  refine sm_aload_n X 1429 2 dL_law_1428 rfl rfl rfl ?_
  refine sm_callV0 X 1432 [] [] [.int z.1] (c_X9_image l G r.2  z hs9) cw_X9_image q_1290 q_1291 q_1289 (by decide : K0 81 = 9) (by decide) rfl rfl rfl rfl rfl (Nat.le_of_ble_eq_true rfl) ⟨(Nat.le_of_ble_eq_true rfl), (Nat.le_of_ble_eq_true rfl)⟩ hc3 dL_law_1429 rfl ?_
  refine sm_pop X 1433 dL_law_1432 rfl rfl ?_
  refine sm_goto X 1551 dL_law_1433 (by decide) ?_
  exact hend z.2 hI1
set_option maxHeartbeats 4000000 in
set_option maxRecDepth 100000 in
theorem law_c34 {p : Program} {e : Env} {s : State} {m : MethodId} {below : List Frame} {meth : Method} {c : Code} (l : Launch) {G : GT} {b L : Nat} {xs : Nat → Int32} (c3 s3 : Nat) (hc3 : c3 ≤ 600000 ∧ s3 ≤ 7302249) (X : Cx p s m #[Value.ref b] meth c code 4 RL G) (hX : va_X b L xs s s.heap) (hbl : b < s.heap.size) (hbA : ¬ smA G b) {I I' : Sto → Prop} (hst : LSt law_eqs I I') (σ : Sto) (hI : I σ) (i : Int32) (hv0 : vp_in i L) (hv1 : vp_in (i + 1) L) (hv2 : vp_in (i + 2) L) (hv3 : vp_in (i + 3) L) (hv4 : vp_in (i + 4) L) (hv5 : vp_in (i + 5) L) (hend : ∀ σ', I' σ' → Sm p l e room_1 s m #[Value.ref b] below meth c G 4 (fun _ : Unit => lw_Z below #[Value.ref b] s) c3 s3 (wl G σ') 1551 [(0, .ref b), (1, .ref (gad G 0)), (2, .ref (gad G 81)), (3, .int i)] [] (some ())) : Sm p l e room_1 s m #[Value.ref b] below meth c G 4 (fun _ : Unit => lw_Z below #[Value.ref b] s) c3 s3 (wl G σ) 1436 [(0, .ref b), (1, .ref (gad G 0)), (2, .ref (gad G 81)), (3, .int i)] [] (some ()) := by
  obtain ⟨r, z, hr8, hs9, he, hI1⟩ := (hst).2.2.2.2.2.2.2.2.2.2.2.2.2.2.2.2.2.2.2.2.2.2.2.2.2.2.2.2.2.2.2.2.2.2.2.1 σ hI
  refine sm_aload_n X 1437 1 dL_law_1436 rfl rfl rfl ?_
  refine sm_callV0 X 1440 [] [] [.int r.1] (c_X8_restore l G σ  r hr8) cw_X8_restore q_857 q_858 q_856 (by decide : K0 0 = 8) (by decide) rfl rfl rfl rfl rfl (Nat.le_of_ble_eq_true rfl) ⟨(Nat.le_of_ble_eq_true rfl), (Nat.le_of_ble_eq_true rfl)⟩ hc3 dL_law_1437 rfl ?_
  refine sm_pop X 1441 dL_law_1440 rfl rfl ?_
  refine sm_aload_n X 1442 2 dL_law_1441 rfl rfl rfl ?_
  refine sm_callV0 X 1445 [] [] [.int z.1] (c_X9_restore l G r.2  z hs9) cw_X9_restore q_1294 q_1295 q_1293 (by decide : K0 81 = 9) (by decide) rfl rfl rfl rfl rfl (Nat.le_of_ble_eq_true rfl) ⟨(Nat.le_of_ble_eq_true rfl), (Nat.le_of_ble_eq_true rfl)⟩ hc3 dL_law_1442 rfl ?_
  refine sm_pop X 1446 dL_law_1445 rfl rfl ?_
  refine sm_goto X 1551 dL_law_1446 (by decide) ?_
  exact hend z.2 hI1
set_option maxHeartbeats 4000000 in
set_option maxRecDepth 100000 in
theorem law_c35 {p : Program} {e : Env} {s : State} {m : MethodId} {below : List Frame} {meth : Method} {c : Code} (l : Launch) {G : GT} {b L : Nat} {xs : Nat → Int32} (c3 s3 : Nat) (hc3 : c3 ≤ 600000 ∧ s3 ≤ 7302249) (X : Cx p s m #[Value.ref b] meth c code 4 RL G) (hX : va_X b L xs s s.heap) (hbl : b < s.heap.size) (hbA : ¬ smA G b) {I I' : Sto → Prop} (hst : LSt law_eqs I I') (σ : Sto) (hI : I σ) (i : Int32) (hv0 : vp_in i L) (hv1 : vp_in (i + 1) L) (hv2 : vp_in (i + 2) L) (hv3 : vp_in (i + 3) L) (hv4 : vp_in (i + 4) L) (hv5 : vp_in (i + 5) L) (hend : ∀ σ', I' σ' → Sm p l e room_1 s m #[Value.ref b] below meth c G 4 (fun _ : Unit => lw_Z below #[Value.ref b] s) c3 s3 (wl G σ') 1551 [(0, .ref b), (1, .ref (gad G 0)), (2, .ref (gad G 81)), (3, .int i)] [] (some ())) : Sm p l e room_1 s m #[Value.ref b] below meth c G 4 (fun _ : Unit => lw_Z below #[Value.ref b] s) c3 s3 (wl G σ) 1449 [(0, .ref b), (1, .ref (gad G 0)), (2, .ref (gad G 81)), (3, .int i)] [] (some ()) := by
  obtain ⟨r, z, hr8, hs9, he, hI1⟩ := (hst).2.2.2.2.2.2.2.2.2.2.2.2.2.2.2.2.2.2.2.2.2.2.2.2.2.2.2.2.2.2.2.2.2.2.2.2.1 (xs (i + 1).toNatClampNeg) σ hI
  refine sm_aload_n X 1450 1 dL_law_1449 rfl rfl rfl ?_
  refine sm_aload_n X 1451 0 dL_law_1450 rfl rfl rfl ?_
  refine sm_iload_n X 1452 3 dL_law_1451 rfl rfl rfl ?_
  refine sm_iconst X 1453 (1) dL_law_1452 rfl rfl ?_
  refine sm_iadd X 1454 dL_law_1453 rfl ?_
  refine sm_sld X 1455 hX hbl hbA hv1 dL_law_1454 rfl ?_
  refine sm_callV0 X 1458 [.int (xs (i + 1).toNatClampNeg)] [] [.int r.1] (c_X8_tell l G σ (xs (i + 1).toNatClampNeg) r hr8) cw_X8_tell q_861 q_862 q_860 (by decide : K0 0 = 8) (by decide) rfl rfl rfl rfl rfl (Nat.le_of_ble_eq_true rfl) ⟨(Nat.le_of_ble_eq_true rfl), (Nat.le_of_ble_eq_true rfl)⟩ hc3 dL_law_1455 rfl ?_
  refine sm_pop X 1459 dL_law_1458 rfl rfl ?_
  refine sm_aload_n X 1460 2 dL_law_1459 rfl rfl rfl ?_
  refine sm_aload_n X 1461 0 dL_law_1460 rfl rfl rfl ?_
  refine sm_iload_n X 1462 3 dL_law_1461 rfl rfl rfl ?_
  refine sm_iconst X 1463 (1) dL_law_1462 rfl rfl ?_
  refine sm_iadd X 1464 dL_law_1463 rfl ?_
  refine sm_sld X 1465 hX hbl hbA hv1 dL_law_1464 rfl ?_
  refine sm_callV0 X 1468 [.int (xs (i + 1).toNatClampNeg)] [] [.int z.1] (c_X9_tell l G r.2 (xs (i + 1).toNatClampNeg) z hs9) cw_X9_tell q_1298 q_1299 q_1297 (by decide : K0 81 = 9) (by decide) rfl rfl rfl rfl rfl (Nat.le_of_ble_eq_true rfl) ⟨(Nat.le_of_ble_eq_true rfl), (Nat.le_of_ble_eq_true rfl)⟩ hc3 dL_law_1465 rfl ?_
  refine sm_pop X 1469 dL_law_1468 rfl rfl ?_
  refine sm_goto X 1551 dL_law_1469 (by decide) ?_
  exact hend z.2 hI1
set_option maxHeartbeats 4000000 in
set_option maxRecDepth 100000 in
theorem law_c36 {p : Program} {e : Env} {s : State} {m : MethodId} {below : List Frame} {meth : Method} {c : Code} (l : Launch) {G : GT} {b L : Nat} {xs : Nat → Int32} (c3 s3 : Nat) (hc3 : c3 ≤ 600000 ∧ s3 ≤ 7302249) (X : Cx p s m #[Value.ref b] meth c code 4 RL G) (hX : va_X b L xs s s.heap) (hbl : b < s.heap.size) (hbA : ¬ smA G b) {I I' : Sto → Prop} (hst : LSt law_eqs I I') (σ : Sto) (hI : I σ) (i : Int32) (hv0 : vp_in i L) (hv1 : vp_in (i + 1) L) (hv2 : vp_in (i + 2) L) (hv3 : vp_in (i + 3) L) (hv4 : vp_in (i + 4) L) (hv5 : vp_in (i + 5) L) (hend : ∀ σ', I' σ' → Sm p l e room_1 s m #[Value.ref b] below meth c G 4 (fun _ : Unit => lw_Z below #[Value.ref b] s) c3 s3 (wl G σ') 1551 [(0, .ref b), (1, .ref (gad G 0)), (2, .ref (gad G 81)), (3, .int i)] [] (some ())) : Sm p l e room_1 s m #[Value.ref b] below meth c G 4 (fun _ : Unit => lw_Z below #[Value.ref b] s) c3 s3 (wl G σ) 1472 [(0, .ref b), (1, .ref (gad G 0)), (2, .ref (gad G 81)), (3, .int i)] [] (some ()) := by
  obtain ⟨r, z, hr8, hs9, he, hI1⟩ := (hst).2.2.2.2.2.2.2.2.2.2.2.2.2.2.2.2.2.2.2.2.2.2.2.2.2.2.2.2.2.2.2.2.2.2.2.2.2.1 (xs (i + 1).toNatClampNeg) (xs (i + 2).toNatClampNeg) σ hI
  refine sm_aload_n X 1473 1 dL_law_1472 rfl rfl rfl ?_
  refine sm_aload_n X 1474 0 dL_law_1473 rfl rfl rfl ?_
  refine sm_iload_n X 1475 3 dL_law_1474 rfl rfl rfl ?_
  refine sm_iconst X 1476 (1) dL_law_1475 rfl rfl ?_
  refine sm_iadd X 1477 dL_law_1476 rfl ?_
  refine sm_sld X 1478 hX hbl hbA hv1 dL_law_1477 rfl ?_
  refine sm_aload_n X 1479 0 dL_law_1478 rfl rfl rfl ?_
  refine sm_iload_n X 1480 3 dL_law_1479 rfl rfl rfl ?_
  refine sm_iconst X 1481 (2) dL_law_1480 rfl rfl ?_
  refine sm_iadd X 1482 dL_law_1481 rfl ?_
  refine sm_sld X 1483 hX hbl hbA hv2 dL_law_1482 rfl ?_
  refine sm_callV0 X 1486 [.int (xs (i + 1).toNatClampNeg), .int (xs (i + 2).toNatClampNeg)] [] [.int r.1] (c_X8_check l G σ (xs (i + 1).toNatClampNeg) (xs (i + 2).toNatClampNeg) r hr8) cw_X8_check q_865 q_866 q_864 (by decide : K0 0 = 8) (by decide) rfl rfl rfl rfl rfl (Nat.le_of_ble_eq_true rfl) ⟨(Nat.le_of_ble_eq_true rfl), (Nat.le_of_ble_eq_true rfl)⟩ hc3 dL_law_1483 rfl ?_
  refine sm_pop X 1487 dL_law_1486 rfl rfl ?_
  refine sm_aload_n X 1488 2 dL_law_1487 rfl rfl rfl ?_
  refine sm_aload_n X 1489 0 dL_law_1488 rfl rfl rfl ?_
  refine sm_iload_n X 1490 3 dL_law_1489 rfl rfl rfl ?_
  refine sm_iconst X 1491 (1) dL_law_1490 rfl rfl ?_
  refine sm_iadd X 1492 dL_law_1491 rfl ?_
  refine sm_sld X 1493 hX hbl hbA hv1 dL_law_1492 rfl ?_
  refine sm_aload_n X 1494 0 dL_law_1493 rfl rfl rfl ?_
  refine sm_iload_n X 1495 3 dL_law_1494 rfl rfl rfl ?_
  refine sm_iconst X 1496 (2) dL_law_1495 rfl rfl ?_
  refine sm_iadd X 1497 dL_law_1496 rfl ?_
  refine sm_sld X 1498 hX hbl hbA hv2 dL_law_1497 rfl ?_
  refine sm_callV0 X 1501 [.int (xs (i + 1).toNatClampNeg), .int (xs (i + 2).toNatClampNeg)] [] [.int z.1] (c_X9_check l G r.2 (xs (i + 1).toNatClampNeg) (xs (i + 2).toNatClampNeg) z hs9) cw_X9_check q_1302 q_1303 q_1301 (by decide : K0 81 = 9) (by decide) rfl rfl rfl rfl rfl (Nat.le_of_ble_eq_true rfl) ⟨(Nat.le_of_ble_eq_true rfl), (Nat.le_of_ble_eq_true rfl)⟩ hc3 dL_law_1498 rfl ?_
  refine sm_pop X 1502 dL_law_1501 rfl rfl ?_
  refine sm_goto X 1551 dL_law_1502 (by decide) ?_
  exact hend z.2 hI1
set_option maxHeartbeats 4000000 in
set_option maxRecDepth 100000 in
theorem law_c37 {p : Program} {e : Env} {s : State} {m : MethodId} {below : List Frame} {meth : Method} {c : Code} (l : Launch) {G : GT} {b L : Nat} {xs : Nat → Int32} (c3 s3 : Nat) (hc3 : c3 ≤ 600000 ∧ s3 ≤ 7302249) (X : Cx p s m #[Value.ref b] meth c code 4 RL G) (hX : va_X b L xs s s.heap) (hbl : b < s.heap.size) (hbA : ¬ smA G b) {I I' : Sto → Prop} (hst : LSt law_eqs I I') (σ : Sto) (hI : I σ) (i : Int32) (hv0 : vp_in i L) (hv1 : vp_in (i + 1) L) (hv2 : vp_in (i + 2) L) (hv3 : vp_in (i + 3) L) (hv4 : vp_in (i + 4) L) (hv5 : vp_in (i + 5) L) (hend : ∀ σ', I' σ' → Sm p l e room_1 s m #[Value.ref b] below meth c G 4 (fun _ : Unit => lw_Z below #[Value.ref b] s) c3 s3 (wl G σ') 1551 [(0, .ref b), (1, .ref (gad G 0)), (2, .ref (gad G 81)), (3, .int i)] [] (some ())) : Sm p l e room_1 s m #[Value.ref b] below meth c G 4 (fun _ : Unit => lw_Z below #[Value.ref b] s) c3 s3 (wl G σ) 1505 [(0, .ref b), (1, .ref (gad G 0)), (2, .ref (gad G 81)), (3, .int i)] [] (some ()) := by
  obtain ⟨r, z, hr8, hs9, he, hI1⟩ := (hst).2.2.2.2.2.2.2.2.2.2.2.2.2.2.2.2.2.2.2.2.2.2.2.2.2.2.2.2.2.2.2.2.2.2.2.2.2.2.1 (xs (i + 1).toNatClampNeg) σ hI
  refine sm_aload_n X 1506 1 dL_law_1505 rfl rfl rfl ?_
  refine sm_aload_n X 1507 0 dL_law_1506 rfl rfl rfl ?_
  refine sm_iload_n X 1508 3 dL_law_1507 rfl rfl rfl ?_
  refine sm_iconst X 1509 (1) dL_law_1508 rfl rfl ?_
  refine sm_iadd X 1510 dL_law_1509 rfl ?_
  refine sm_sld X 1511 hX hbl hbA hv1 dL_law_1510 rfl ?_
  refine sm_callV0 X 1514 [.int (xs (i + 1).toNatClampNeg)] [] [.int r.1] (c_X8_count l G σ (xs (i + 1).toNatClampNeg) r hr8) cw_X8_count q_869 q_870 q_868 (by decide : K0 0 = 8) (by decide) rfl rfl rfl rfl rfl (Nat.le_of_ble_eq_true rfl) ⟨(Nat.le_of_ble_eq_true rfl), (Nat.le_of_ble_eq_true rfl)⟩ hc3 dL_law_1511 rfl ?_
  refine sm_pop X 1515 dL_law_1514 rfl rfl ?_
  refine sm_aload_n X 1516 2 dL_law_1515 rfl rfl rfl ?_
  refine sm_aload_n X 1517 0 dL_law_1516 rfl rfl rfl ?_
  refine sm_iload_n X 1518 3 dL_law_1517 rfl rfl rfl ?_
  refine sm_iconst X 1519 (1) dL_law_1518 rfl rfl ?_
  refine sm_iadd X 1520 dL_law_1519 rfl ?_
  refine sm_sld X 1521 hX hbl hbA hv1 dL_law_1520 rfl ?_
  refine sm_callV0 X 1524 [.int (xs (i + 1).toNatClampNeg)] [] [.int z.1] (c_X9_count l G r.2 (xs (i + 1).toNatClampNeg) z hs9) cw_X9_count q_1306 q_1307 q_1305 (by decide : K0 81 = 9) (by decide) rfl rfl rfl rfl rfl (Nat.le_of_ble_eq_true rfl) ⟨(Nat.le_of_ble_eq_true rfl), (Nat.le_of_ble_eq_true rfl)⟩ hc3 dL_law_1521 rfl ?_
  refine sm_pop X 1525 dL_law_1524 rfl rfl ?_
  refine sm_goto X 1551 dL_law_1525 (by decide) ?_
  exact hend z.2 hI1
set_option maxHeartbeats 4000000 in
set_option maxRecDepth 100000 in
theorem law_c38 {p : Program} {e : Env} {s : State} {m : MethodId} {below : List Frame} {meth : Method} {c : Code} (l : Launch) {G : GT} {b L : Nat} {xs : Nat → Int32} (c3 s3 : Nat) (hc3 : c3 ≤ 600000 ∧ s3 ≤ 7302249) (X : Cx p s m #[Value.ref b] meth c code 4 RL G) (hX : va_X b L xs s s.heap) (hbl : b < s.heap.size) (hbA : ¬ smA G b) {I I' : Sto → Prop} (hst : LSt law_eqs I I') (σ : Sto) (hI : I σ) (i : Int32) (hv0 : vp_in i L) (hv1 : vp_in (i + 1) L) (hv2 : vp_in (i + 2) L) (hv3 : vp_in (i + 3) L) (hv4 : vp_in (i + 4) L) (hv5 : vp_in (i + 5) L) (hend : ∀ σ', I' σ' → Sm p l e room_1 s m #[Value.ref b] below meth c G 4 (fun _ : Unit => lw_Z below #[Value.ref b] s) c3 s3 (wl G σ') 1551 [(0, .ref b), (1, .ref (gad G 0)), (2, .ref (gad G 81)), (3, .int i)] [] (some ())) : Sm p l e room_1 s m #[Value.ref b] below meth c G 4 (fun _ : Unit => lw_Z below #[Value.ref b] s) c3 s3 (wl G σ) 1528 [(0, .ref b), (1, .ref (gad G 0)), (2, .ref (gad G 81)), (3, .int i)] [] (some ()) := by
  obtain ⟨r, z, hr8, hs9, he, hI1⟩ := (hst).2.2.2.2.2.2.2.2.2.2.2.2.2.2.2.2.2.2.2.2.2.2.2.2.2.2.2.2.2.2.2.2.2.2.2.2.2.2.2 (xs (i + 1).toNatClampNeg) σ hI
  refine sm_aload_n X 1529 1 dL_law_1528 rfl rfl rfl ?_
  refine sm_aload_n X 1530 0 dL_law_1529 rfl rfl rfl ?_
  refine sm_iload_n X 1531 3 dL_law_1530 rfl rfl rfl ?_
  refine sm_iconst X 1532 (1) dL_law_1531 rfl rfl ?_
  refine sm_iadd X 1533 dL_law_1532 rfl ?_
  refine sm_sld X 1534 hX hbl hbA hv1 dL_law_1533 rfl ?_
  refine sm_callV0 X 1537 [.int (xs (i + 1).toNatClampNeg)] [] [.int r.1] (c_X8_told l G σ (xs (i + 1).toNatClampNeg) r hr8) cw_X8_told q_873 q_874 q_872 (by decide : K0 0 = 8) (by decide) rfl rfl rfl rfl rfl (Nat.le_of_ble_eq_true rfl) ⟨(Nat.le_of_ble_eq_true rfl), (Nat.le_of_ble_eq_true rfl)⟩ hc3 dL_law_1534 rfl ?_
  refine sm_aload_n X 1538 2 dL_law_1537 rfl rfl rfl ?_
  refine sm_aload_n X 1539 0 dL_law_1538 rfl rfl rfl ?_
  refine sm_iload_n X 1540 3 dL_law_1539 rfl rfl rfl ?_
  refine sm_iconst X 1541 (1) dL_law_1540 rfl rfl ?_
  refine sm_iadd X 1542 dL_law_1541 rfl ?_
  refine sm_sld X 1543 hX hbl hbA hv1 dL_law_1542 rfl ?_
  refine sm_callV0 X 1546 [.int (xs (i + 1).toNatClampNeg)] [.int r.1] [.int z.1, .int r.1] (c_X9_told l G r.2 (xs (i + 1).toNatClampNeg) z hs9) cw_X9_told q_1310 q_1311 q_1309 (by decide : K0 81 = 9) (by decide) rfl rfl rfl rfl rfl (Nat.le_of_ble_eq_true rfl) ⟨(Nat.le_of_ble_eq_true rfl), (Nat.le_of_ble_eq_true rfl)⟩ hc3 dL_law_1543 rfl ?_
  refine sb_eq X 1549 1551 dL_law_1546 rfl (by decide) (he rfl) ?_
  exact hend z.2 hI1
set_option maxHeartbeats 4000000 in
set_option maxRecDepth 100000 in
theorem law_loop {p : Program} {e : Env} {s : State} {m : MethodId} {below : List Frame} {meth : Method} {c : Code} (l : Launch) {G : GT} {b L : Nat} {xs : Nat → Int32} (c3 s3 : Nat) (hc3 : c3 ≤ 600000 ∧ s3 ≤ 7302249) (X : Cx p s m #[Value.ref b] meth c code 4 RL G) (hX : va_X b L xs s s.heap) (hbl : b < s.heap.size) (hbA : ¬ smA G b) (hgb : gb G = s.heap.size) (hL : L ≤ 3072) (hr : meth.sig.returnType = ret) (hlocks : meth.locks = false) (Iv : Nat → Sto → Prop) (hst : ∀ j, 6 * j + 6 ≤ L → LSt law_eqs (Iv j) (Iv (j + 1))) : ∀ (n j : Nat) (σ : Sto) (i : Int32), L + 1 ≤ n + 6 * j → 6 * j ≤ L + 5 → i = nI (6 * j) → Iv j σ → Sm p l e room_1 s m #[Value.ref b] below meth c G 4 (fun _ : Unit => lw_Z below #[Value.ref b] s) c3 s3 (wl G σ) 18 [(0, .ref b), (1, .ref (gad G 0)), (2, .ref (gad G 81)), (3, .int i)] [] (some ()) := by
  have hgs : ∀ q : Loc, smA G q.base → s.heap.size ≤ q.base := fun q hq => hgb ▸ hq
  intro n
  induction n with
  | zero =>
    intro j σ i h1 h2 h3 hI
    refine sm_iload_n X 19 3 dL_law_18 rfl rfl rfl ?_
    refine sm_aload_n X 20 0 dL_law_19 rfl rfl rfl ?_
    refine sm_slen X 21 hX hbl hbA dL_law_20 rfl ?_
    refine sm_bipush X 23 (6) dL_law_21 rfl rfl ?_
    refine sm_isub X 24 dL_law_23 rfl ?_
    refine sb_gt X 27 1557 dL_law_24 rfl (by decide) (fun _ => ?_) (fun hgt => ?_)
    · refine sm_iconst X 1558 (1) dL_law_1557 rfl rfl ?_
      intro a ha H locs ls g1 g2 g3 g4 g5
      refine va_forget (fun q hq => hgs q (g4.2.2 q hq)) ?_
      refine W.widen (k := 600000) (n := 7302249) hc3.1 hc3.2 ?_
      exact lw_ret X.1 X.2.1 hr hlocks dL_law_1558
    · exact absurd (law_le (by omega) (by omega) (h3 ▸ hgt)) (by omega)
  | succ n ih =>
    intro j σ i h1 h2 h3 hI
    refine sm_iload_n X 19 3 dL_law_18 rfl rfl rfl ?_
    refine sm_aload_n X 20 0 dL_law_19 rfl rfl rfl ?_
    refine sm_slen X 21 hX hbl hbA dL_law_20 rfl ?_
    refine sm_bipush X 23 (6) dL_law_21 rfl rfl ?_
    refine sm_isub X 24 dL_law_23 rfl ?_
    refine sb_gt X 27 1557 dL_law_24 rfl (by decide) (fun _ => ?_) (fun hgt => ?_)
    · refine sm_iconst X 1558 (1) dL_law_1557 rfl rfl ?_
      intro a ha H locs ls g1 g2 g3 g4 g5
      refine va_forget (fun q hq => hgs q (g4.2.2 q hq)) ?_
      refine W.widen (k := 600000) (n := 7302249) hc3.1 hc3.2 ?_
      exact lw_ret X.1 X.2.1 hr hlocks dL_law_1558
    · have h6 : 6 * j + 6 ≤ L := law_le (by omega) (by omega) (h3 ▸ hgt)
      have hv0 : vp_in (i) L := by rw [h3]; exact vp_in_nI (by omega) (by omega)
      have hv1 : vp_in (i + 1) L := by rw [h3, show (1 : Int32) = nI 1 from rfl, nI_add]; exact vp_in_nI (by omega) (by omega)
      have hv2 : vp_in (i + 2) L := by rw [h3, show (2 : Int32) = nI 2 from rfl, nI_add]; exact vp_in_nI (by omega) (by omega)
      have hv3 : vp_in (i + 3) L := by rw [h3, show (3 : Int32) = nI 3 from rfl, nI_add]; exact vp_in_nI (by omega) (by omega)
      have hv4 : vp_in (i + 4) L := by rw [h3, show (4 : Int32) = nI 4 from rfl, nI_add]; exact vp_in_nI (by omega) (by omega)
      have hv5 : vp_in (i + 5) L := by rw [h3, show (5 : Int32) = nI 5 from rfl, nI_add]; exact vp_in_nI (by omega) (by omega)
      have hend : ∀ σ', Iv (j + 1) σ' → Sm p l e room_1 s m #[Value.ref b] below meth c G 4 (fun _ : Unit => lw_Z below #[Value.ref b] s) c3 s3 (wl G σ') 1551 [(0, .ref b), (1, .ref (gad G 0)), (2, .ref (gad G 81)), (3, .int i)] [] (some ()) := by
        intro σ1 hI1
        refine sm_iinc X 1554 3 (6) [(3, .int (i + 6)), (0, .ref b), (1, .ref (gad G 0)), (2, .ref (gad G 81))] dL_law_1551 rfl rfl rfl (by decide) rfl ?_
        refine sm_goto X 18 dL_law_1554 (by decide) ?_
        refine sm_sub [1, 2, 3, 0] rfl ?_
        exact ih (j + 1) σ1 (i + 6) (by omega) (by omega) (by rw [h3, show (6 : Int32) = nI 6 from rfl, nI_add]; congr 1) hI1
      refine sm_aload_n X 28 0 dL_law_27 rfl rfl rfl ?_
      refine sm_iload_n X 29 3 dL_law_28 rfl rfl rfl ?_
      refine sm_sld X 30 hX hbl hbA hv0 dL_law_29 rfl ?_
      refine sm_bipush X 32 (63) dL_law_30 rfl rfl ?_
      refine sm_iand X 33 dL_law_32 rfl ?_
      generalize xs i.toNatClampNeg &&& 63 = x
      by_cases q0 : x = 0
      · refine sm_table X 204 dL_law_33 (by rw [q0]; decide) (by rw [q0]; decide) (by first | (rw [q0]; done) | (rw [q0]; rfl)) (by decide) ?_
        exact law_c0 l c3 s3 hc3 X hX hbl hbA (hst j h6) σ hI i hv0 hv1 hv2 hv3 hv4 hv5 hend
      by_cases q1 : x = 1
      · refine sm_table X 237 dL_law_33 (by rw [q1]; decide) (by rw [q1]; decide) (by first | (rw [q1]; done) | (rw [q1]; rfl)) (by decide) ?_
        exact law_c1 l c3 s3 hc3 X hX hbl hbA (hst j h6) σ hI i hv0 hv1 hv2 hv3 hv4 hv5 hend
      by_cases q2 : x = 2
      · refine sm_table X 270 dL_law_33 (by rw [q2]; decide) (by rw [q2]; decide) (by first | (rw [q2]; done) | (rw [q2]; rfl)) (by decide) ?_
        exact law_c2 l c3 s3 hc3 X hX hbl hbA (hst j h6) σ hI i hv0 hv1 hv2 hv3 hv4 hv5 hend
      by_cases q3 : x = 3
      · refine sm_table X 293 dL_law_33 (by rw [q3]; decide) (by rw [q3]; decide) (by first | (rw [q3]; done) | (rw [q3]; rfl)) (by decide) ?_
        exact law_c3 l c3 s3 hc3 X hX hbl hbA (hst j h6) σ hI i hv0 hv1 hv2 hv3 hv4 hv5 hend
      by_cases q4 : x = 4
      · refine sm_table X 326 dL_law_33 (by rw [q4]; decide) (by rw [q4]; decide) (by first | (rw [q4]; done) | (rw [q4]; rfl)) (by decide) ?_
        exact law_c4 l c3 s3 hc3 X hX hbl hbA (hst j h6) σ hI i hv0 hv1 hv2 hv3 hv4 hv5 hend
      by_cases q5 : x = 5
      · refine sm_table X 359 dL_law_33 (by rw [q5]; decide) (by rw [q5]; decide) (by first | (rw [q5]; done) | (rw [q5]; rfl)) (by decide) ?_
        exact law_c5 l c3 s3 hc3 X hX hbl hbA (hst j h6) σ hI i hv0 hv1 hv2 hv3 hv4 hv5 hend
      by_cases q6 : x = 6
      · refine sm_table X 392 dL_law_33 (by rw [q6]; decide) (by rw [q6]; decide) (by first | (rw [q6]; done) | (rw [q6]; rfl)) (by decide) ?_
        exact law_c6 l c3 s3 hc3 X hX hbl hbA (hst j h6) σ hI i hv0 hv1 hv2 hv3 hv4 hv5 hend
      by_cases q7 : x = 7
      · refine sm_table X 435 dL_law_33 (by rw [q7]; decide) (by rw [q7]; decide) (by first | (rw [q7]; done) | (rw [q7]; rfl)) (by decide) ?_
        exact law_c7 l c3 s3 hc3 X hX hbl hbA (hst j h6) σ hI i hv0 hv1 hv2 hv3 hv4 hv5 hend
      by_cases q8 : x = 8
      · refine sm_table X 468 dL_law_33 (by rw [q8]; decide) (by rw [q8]; decide) (by first | (rw [q8]; done) | (rw [q8]; rfl)) (by decide) ?_
        exact law_c8 l c3 s3 hc3 X hX hbl hbA (hst j h6) σ hI i hv0 hv1 hv2 hv3 hv4 hv5 hend
      by_cases q9 : x = 9
      · refine sm_table X 501 dL_law_33 (by rw [q9]; decide) (by rw [q9]; decide) (by first | (rw [q9]; done) | (rw [q9]; rfl)) (by decide) ?_
        exact law_c9 l c3 s3 hc3 X hX hbl hbA (hst j h6) σ hI i hv0 hv1 hv2 hv3 hv4 hv5 hend
      by_cases q10 : x = 10
      · refine sm_table X 534 dL_law_33 (by rw [q10]; decide) (by rw [q10]; decide) (by first | (rw [q10]; done) | (rw [q10]; rfl)) (by decide) ?_
        exact law_c10 l c3 s3 hc3 X hX hbl hbA (hst j h6) σ hI i hv0 hv1 hv2 hv3 hv4 hv5 hend
      by_cases q11 : x = 11
      · refine sm_table X 597 dL_law_33 (by rw [q11]; decide) (by rw [q11]; decide) (by first | (rw [q11]; done) | (rw [q11]; rfl)) (by decide) ?_
        exact law_c11 l c3 s3 hc3 X hX hbl hbA (hst j h6) σ hI i hv0 hv1 hv2 hv3 hv4 hv5 hend
      by_cases q12 : x = 12
      · refine sm_table X 620 dL_law_33 (by rw [q12]; decide) (by rw [q12]; decide) (by first | (rw [q12]; done) | (rw [q12]; rfl)) (by decide) ?_
        exact law_c12 l c3 s3 hc3 X hX hbl hbA (hst j h6) σ hI i hv0 hv1 hv2 hv3 hv4 hv5 hend
      by_cases q13 : x = 13
      · refine sm_table X 673 dL_law_33 (by rw [q13]; decide) (by rw [q13]; decide) (by first | (rw [q13]; done) | (rw [q13]; rfl)) (by decide) ?_
        exact law_c13 l c3 s3 hc3 X hX hbl hbA (hst j h6) σ hI i hv0 hv1 hv2 hv3 hv4 hv5 hend
      by_cases q14 : x = 14
      · refine sm_table X 706 dL_law_33 (by rw [q14]; decide) (by rw [q14]; decide) (by first | (rw [q14]; done) | (rw [q14]; rfl)) (by decide) ?_
        exact law_c14 l c3 s3 hc3 X hX hbl hbA (hst j h6) σ hI i hv0 hv1 hv2 hv3 hv4 hv5 hend
      by_cases q15 : x = 15
      · refine sm_table X 749 dL_law_33 (by rw [q15]; decide) (by rw [q15]; decide) (by first | (rw [q15]; done) | (rw [q15]; rfl)) (by decide) ?_
        exact law_c15 l c3 s3 hc3 X hX hbl hbA (hst j h6) σ hI i hv0 hv1 hv2 hv3 hv4 hv5 hend
      by_cases q16 : x = 16
      · refine sm_table X 782 dL_law_33 (by rw [q16]; decide) (by rw [q16]; decide) (by first | (rw [q16]; done) | (rw [q16]; rfl)) (by decide) ?_
        exact law_c16 l c3 s3 hc3 X hX hbl hbA (hst j h6) σ hI i hv0 hv1 hv2 hv3 hv4 hv5 hend
      by_cases q17 : x = 17
      · refine sm_table X 815 dL_law_33 (by rw [q17]; decide) (by rw [q17]; decide) (by first | (rw [q17]; done) | (rw [q17]; rfl)) (by decide) ?_
        exact law_c17 l c3 s3 hc3 X hX hbl hbA (hst j h6) σ hI i hv0 hv1 hv2 hv3 hv4 hv5 hend
      by_cases q18 : x = 18
      · refine sm_table X 858 dL_law_33 (by rw [q18]; decide) (by rw [q18]; decide) (by first | (rw [q18]; done) | (rw [q18]; rfl)) (by decide) ?_
        exact law_c18 l c3 s3 hc3 X hX hbl hbA (hst j h6) σ hI i hv0 hv1 hv2 hv3 hv4 hv5 hend
      by_cases q19 : x = 19
      · refine sm_table X 901 dL_law_33 (by rw [q19]; decide) (by rw [q19]; decide) (by first | (rw [q19]; done) | (rw [q19]; rfl)) (by decide) ?_
        exact law_c19 l c3 s3 hc3 X hX hbl hbA (hst j h6) σ hI i hv0 hv1 hv2 hv3 hv4 hv5 hend
      by_cases q20 : x = 20
      · refine sm_table X 934 dL_law_33 (by rw [q20]; decide) (by rw [q20]; decide) (by first | (rw [q20]; done) | (rw [q20]; rfl)) (by decide) ?_
        exact law_c20 l c3 s3 hc3 X hX hbl hbA (hst j h6) σ hI i hv0 hv1 hv2 hv3 hv4 hv5 hend
      by_cases q21 : x = 21
      · refine sm_table X 967 dL_law_33 (by rw [q21]; decide) (by rw [q21]; decide) (by first | (rw [q21]; done) | (rw [q21]; rfl)) (by decide) ?_
        exact law_c21 l c3 s3 hc3 X hX hbl hbA (hst j h6) σ hI i hv0 hv1 hv2 hv3 hv4 hv5 hend
      by_cases q22 : x = 22
      · refine sm_table X 990 dL_law_33 (by rw [q22]; decide) (by rw [q22]; decide) (by first | (rw [q22]; done) | (rw [q22]; rfl)) (by decide) ?_
        exact law_c22 l c3 s3 hc3 X hX hbl hbA (hst j h6) σ hI i hv0 hv1 hv2 hv3 hv4 hv5 hend
      by_cases q23 : x = 23
      · refine sm_table X 1053 dL_law_33 (by rw [q23]; decide) (by rw [q23]; decide) (by first | (rw [q23]; done) | (rw [q23]; rfl)) (by decide) ?_
        exact law_c23 l c3 s3 hc3 X hX hbl hbA (hst j h6) σ hI i hv0 hv1 hv2 hv3 hv4 hv5 hend
      by_cases q24 : x = 24
      · refine sm_table X 1096 dL_law_33 (by rw [q24]; decide) (by rw [q24]; decide) (by first | (rw [q24]; done) | (rw [q24]; rfl)) (by decide) ?_
        exact law_c24 l c3 s3 hc3 X hX hbl hbA (hst j h6) σ hI i hv0 hv1 hv2 hv3 hv4 hv5 hend
      by_cases q25 : x = 25
      · refine sm_table X 1129 dL_law_33 (by rw [q25]; decide) (by rw [q25]; decide) (by first | (rw [q25]; done) | (rw [q25]; rfl)) (by decide) ?_
        exact law_c25 l c3 s3 hc3 X hX hbl hbA (hst j h6) σ hI i hv0 hv1 hv2 hv3 hv4 hv5 hend
      by_cases q26 : x = 26
      · refine sm_table X 1152 dL_law_33 (by rw [q26]; decide) (by rw [q26]; decide) (by first | (rw [q26]; done) | (rw [q26]; rfl)) (by decide) ?_
        exact law_c26 l c3 s3 hc3 X hX hbl hbA (hst j h6) σ hI i hv0 hv1 hv2 hv3 hv4 hv5 hend
      by_cases q27 : x = 27
      · refine sm_table X 1195 dL_law_33 (by rw [q27]; decide) (by rw [q27]; decide) (by first | (rw [q27]; done) | (rw [q27]; rfl)) (by decide) ?_
        exact law_c27 l c3 s3 hc3 X hX hbl hbA (hst j h6) σ hI i hv0 hv1 hv2 hv3 hv4 hv5 hend
      by_cases q28 : x = 28
      · refine sm_table X 1218 dL_law_33 (by rw [q28]; decide) (by rw [q28]; decide) (by first | (rw [q28]; done) | (rw [q28]; rfl)) (by decide) ?_
        exact law_c28 l c3 s3 hc3 X hX hbl hbA (hst j h6) σ hI i hv0 hv1 hv2 hv3 hv4 hv5 hend
      by_cases q29 : x = 29
      · refine sm_table X 1261 dL_law_33 (by rw [q29]; decide) (by rw [q29]; decide) (by first | (rw [q29]; done) | (rw [q29]; rfl)) (by decide) ?_
        exact law_c29 l c3 s3 hc3 X hX hbl hbA (hst j h6) σ hI i hv0 hv1 hv2 hv3 hv4 hv5 hend
      by_cases q30 : x = 30
      · refine sm_table X 1304 dL_law_33 (by rw [q30]; decide) (by rw [q30]; decide) (by first | (rw [q30]; done) | (rw [q30]; rfl)) (by decide) ?_
        exact law_c30 l c3 s3 hc3 X hX hbl hbA (hst j h6) σ hI i hv0 hv1 hv2 hv3 hv4 hv5 hend
      by_cases q31 : x = 31
      · refine sm_table X 1367 dL_law_33 (by rw [q31]; decide) (by rw [q31]; decide) (by first | (rw [q31]; done) | (rw [q31]; rfl)) (by decide) ?_
        exact law_c31 l c3 s3 hc3 X hX hbl hbA (hst j h6) σ hI i hv0 hv1 hv2 hv3 hv4 hv5 hend
      by_cases q32 : x = 32
      · refine sm_table X 1390 dL_law_33 (by rw [q32]; decide) (by rw [q32]; decide) (by first | (rw [q32]; done) | (rw [q32]; rfl)) (by decide) ?_
        exact law_c32 l c3 s3 hc3 X hX hbl hbA (hst j h6) σ hI i hv0 hv1 hv2 hv3 hv4 hv5 hend
      by_cases q33 : x = 33
      · refine sm_table X 1423 dL_law_33 (by rw [q33]; decide) (by rw [q33]; decide) (by first | (rw [q33]; done) | (rw [q33]; rfl)) (by decide) ?_
        exact law_c33 l c3 s3 hc3 X hX hbl hbA (hst j h6) σ hI i hv0 hv1 hv2 hv3 hv4 hv5 hend
      by_cases q34 : x = 34
      · refine sm_table X 1436 dL_law_33 (by rw [q34]; decide) (by rw [q34]; decide) (by first | (rw [q34]; done) | (rw [q34]; rfl)) (by decide) ?_
        exact law_c34 l c3 s3 hc3 X hX hbl hbA (hst j h6) σ hI i hv0 hv1 hv2 hv3 hv4 hv5 hend
      by_cases q35 : x = 35
      · refine sm_table X 1449 dL_law_33 (by rw [q35]; decide) (by rw [q35]; decide) (by first | (rw [q35]; done) | (rw [q35]; rfl)) (by decide) ?_
        exact law_c35 l c3 s3 hc3 X hX hbl hbA (hst j h6) σ hI i hv0 hv1 hv2 hv3 hv4 hv5 hend
      by_cases q36 : x = 36
      · refine sm_table X 1472 dL_law_33 (by rw [q36]; decide) (by rw [q36]; decide) (by first | (rw [q36]; done) | (rw [q36]; rfl)) (by decide) ?_
        exact law_c36 l c3 s3 hc3 X hX hbl hbA (hst j h6) σ hI i hv0 hv1 hv2 hv3 hv4 hv5 hend
      by_cases q37 : x = 37
      · refine sm_table X 1505 dL_law_33 (by rw [q37]; decide) (by rw [q37]; decide) (by first | (rw [q37]; done) | (rw [q37]; rfl)) (by decide) ?_
        exact law_c37 l c3 s3 hc3 X hX hbl hbA (hst j h6) σ hI i hv0 hv1 hv2 hv3 hv4 hv5 hend
      by_cases q38 : x = 38
      · refine sm_table X 1528 dL_law_33 (by rw [q38]; decide) (by rw [q38]; decide) (by first | (rw [q38]; done) | (rw [q38]; rfl)) (by decide) ?_
        exact law_c38 l c3 s3 hc3 X hX hbl hbA (hst j h6) σ hI i hv0 hv1 hv2 hv3 hv4 hv5 hend
      have t0 := ne_toInt q0
      have t1 := ne_toInt q1
      have t2 := ne_toInt q2
      have t3 := ne_toInt q3
      have t4 := ne_toInt q4
      have t5 := ne_toInt q5
      have t6 := ne_toInt q6
      have t7 := ne_toInt q7
      have t8 := ne_toInt q8
      have t9 := ne_toInt q9
      have t10 := ne_toInt q10
      have t11 := ne_toInt q11
      have t12 := ne_toInt q12
      have t13 := ne_toInt q13
      have t14 := ne_toInt q14
      have t15 := ne_toInt q15
      have t16 := ne_toInt q16
      have t17 := ne_toInt q17
      have t18 := ne_toInt q18
      have t19 := ne_toInt q19
      have t20 := ne_toInt q20
      have t21 := ne_toInt q21
      have t22 := ne_toInt q22
      have t23 := ne_toInt q23
      have t24 := ne_toInt q24
      have t25 := ne_toInt q25
      have t26 := ne_toInt q26
      have t27 := ne_toInt q27
      have t28 := ne_toInt q28
      have t29 := ne_toInt q29
      have t30 := ne_toInt q30
      have t31 := ne_toInt q31
      have t32 := ne_toInt q32
      have t33 := ne_toInt q33
      have t34 := ne_toInt q34
      have t35 := ne_toInt q35
      have t36 := ne_toInt q36
      have t37 := ne_toInt q37
      have t38 := ne_toInt q38
      have hlo : x.toInt < 0 ∨ 38 < x.toInt := by
        simp only [show (0 : Int32).toInt = 0 from rfl, show (1 : Int32).toInt = 1 from rfl, show (2 : Int32).toInt = 2 from rfl, show (3 : Int32).toInt = 3 from rfl, show (4 : Int32).toInt = 4 from rfl, show (5 : Int32).toInt = 5 from rfl, show (6 : Int32).toInt = 6 from rfl, show (7 : Int32).toInt = 7 from rfl, show (8 : Int32).toInt = 8 from rfl, show (9 : Int32).toInt = 9 from rfl, show (10 : Int32).toInt = 10 from rfl, show (11 : Int32).toInt = 11 from rfl, show (12 : Int32).toInt = 12 from rfl, show (13 : Int32).toInt = 13 from rfl, show (14 : Int32).toInt = 14 from rfl, show (15 : Int32).toInt = 15 from rfl, show (16 : Int32).toInt = 16 from rfl, show (17 : Int32).toInt = 17 from rfl, show (18 : Int32).toInt = 18 from rfl, show (19 : Int32).toInt = 19 from rfl, show (20 : Int32).toInt = 20 from rfl, show (21 : Int32).toInt = 21 from rfl, show (22 : Int32).toInt = 22 from rfl, show (23 : Int32).toInt = 23 from rfl, show (24 : Int32).toInt = 24 from rfl, show (25 : Int32).toInt = 25 from rfl, show (26 : Int32).toInt = 26 from rfl, show (27 : Int32).toInt = 27 from rfl, show (28 : Int32).toInt = 28 from rfl, show (29 : Int32).toInt = 29 from rfl, show (30 : Int32).toInt = 30 from rfl, show (31 : Int32).toInt = 31 from rfl, show (32 : Int32).toInt = 32 from rfl, show (33 : Int32).toInt = 33 from rfl, show (34 : Int32).toInt = 34 from rfl, show (35 : Int32).toInt = 35 from rfl, show (36 : Int32).toInt = 36 from rfl, show (37 : Int32).toInt = 37 from rfl, show (38 : Int32).toInt = 38 from rfl] at t0 t1 t2 t3 t4 t5 t6 t7 t8 t9 t10 t11 t12 t13 t14 t15 t16 t17 t18 t19 t20 t21 t22 t23 t24 t25 t26 t27 t28 t29 t30 t31 t32 t33 t34 t35 t36 t37 t38
        omega
      refine sm_tableD X 1551 dL_law_33 hlo (by decide) ?_
      exact hend σ ((hst j h6).1 σ hI)
