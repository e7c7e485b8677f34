/-! java/lang/String's indexOf over the three texts. -/
theorem cw_ixS : CalW yJ0_indexOf_0f7a4 cJ0_indexOf_0f7a4 2 (some .int) 1 := ⟨q_501, q_13, by decide +kernel⟩
section STX
variable {p : Program} {l : Launch} {e : Env} {R : Room} {s : State} {m : MethodId} {args : Array Value} {below : List Frame} {meth : Method} {c : Code} {cells slots : Nat}
variable {cc : ByteArray} {nL : Nat} {own : String} {G : GT} {α : Type} {Q : α → State → Prop} {ws : va_W} {pc : Nat} {L : List (Nat × Value)} {st : List Value} {o : Option α}
theorem sx_ite {P : Prop} {inst : Decidable P} (h : Sm p l e R s m args below meth c G nL Q cells slots ws pc L st (@ite _ P inst o o)) : Sm p l e R s m args below meth c G nL Q cells slots ws pc L st o := by rwa [ite_self] at h
theorem sx_sf (X : Cx p s m args meth c cc nL own G) : vk_S 3 sLen sByt (fun i => gad G (1003 + i)) (fun i => gad G (1006 + i)) (smA G) s s.heap := X.2.2.2.2.2.2.2.1.2.2.2.2.2.2.2.2.2
theorem sx_coder (X : Cx p s m args meth c cc nL own G) (pc1 : Nat) {i index : Nat} (hi : i < 3) (hd : decode cc pc = .ok (.getfield index, 3)) (hp : pc + 3 = pc1) (hq : Cond.fieldLink own index "java/lang/String" "coder" "B" ∈ TB) (kk : Sm p l e R s m args below meth c G nL Q cells slots ws pc1 L (.int 0 :: st) o) : Sm p l e R s m args below meth c G nL Q cells slots ws pc L (.ref (gad G (1003 + i)) :: st) o := by
  subst hp
  exact fun a ha H locs ls h1 h2 h3 h4 h5 => vk_getf X.1 X.2.1 ((sx_sf X).1 i hi).2.1 h4 X.2.2.2.2.2.1 (X.2.2.2.2.1 _ hq) (fun _ h => h) hd (kk a ha H locs ls h1 h2 h3 h4 h5)
theorem sx_value (X : Cx p s m args meth c cc nL own G) (pc1 : Nat) {i index : Nat} (hi : i < 3) (hd : decode cc pc = .ok (.getfield index, 3)) (hp : pc + 3 = pc1) (hq : Cond.fieldLink own index "java/lang/String" "value" "[B" ∈ TB) (kk : Sm p l e R s m args below meth c G nL Q cells slots ws pc1 L (.ref (gad G (1006 + i)) :: st) o) : Sm p l e R s m args below meth c G nL Q cells slots ws pc L (.ref (gad G (1003 + i)) :: st) o := by
  subst hp
  exact fun a ha H locs ls h1 h2 h3 h4 h5 => vk_getf X.1 X.2.1 ((sx_sf X).1 i hi).2.2.1 h4 X.2.2.2.2.2.1 (X.2.2.2.2.1 _ hq) (fun _ h => h) hd (kk a ha H locs ls h1 h2 h3 h4 h5)
theorem sx_comp (X : Cx p s m args meth c cc nL own G) (pc1 : Nat) {index : Nat} (hd : decode cc pc = .ok (.getstatic index, 3)) (hp : pc + 3 = pc1) (hq : Cond.fieldLink own index "java/lang/String" "COMPACT_STRINGS" "Z" ∈ TB) (kk : Sm p l e R s m args below meth c G nL Q cells slots ws pc1 L (.int 1 :: st) o) : Sm p l e R s m args below meth c G nL Q cells slots ws pc L st o := by
  subst hp
  exact fun a ha H locs ls h1 h2 h3 h4 h5 => va_gets X.1 X.2.1 (X.2.2.2.2.2.2.2.1.2.2.2.2.2.2.2.1) h4 X.2.2.2.2.2.1 (X.2.2.2.2.1 _ hq) (fun _ h => h) hd (kk a ha H locs ls h1 h2 h3 h4 h5)
theorem sx_len (X : Cx p s m args meth c cc nL own G) (pc1 : Nat) {i : Nat} (v : Int32) (hi : i < 3) (hv : Int32.ofNat (sLen.getD i 0) = v) (hd : decode cc pc = .ok (.arraylength, 1)) (hp : pc + 1 = pc1) (kk : Sm p l e R s m args below meth c G nL Q cells slots ws pc1 L (.int v :: st) o) : Sm p l e R s m args below meth c G nL Q cells slots ws pc L (.ref (gad G (1006 + i)) :: st) o := by
  subst hp
  exact fun a ha H locs ls h1 h2 h3 h4 h5 => va_tlen X.1 X.2.1 ((sx_sf X).1 i hi).2.2.2 h4 hv hd (kk a ha H locs ls h1 h2 h3 h4 h5)
theorem sx_byte (X : Cx p s m args meth c cc nL own G) (pc1 : Nat) {i : Nat} {j : Int32} (v : Int32) (hi : i < 3) (hin : inB j (sLen.getD i 0) = true) (hv : (sByt.getD i []).getD j.toNatClampNeg 0 = v) (hd : decode cc pc = .ok (.baload, 1)) (hp : pc + 1 = pc1) (kk : Sm p l e R s m args below meth c G nL Q cells slots ws pc1 L (.int v :: st) o) : Sm p l e R s m args below meth c G nL Q cells slots ws pc L (.int j :: .ref (gad G (1006 + i)) :: st) o := by
  subst hp
  exact fun a ha H locs ls h1 h2 h3 h4 h5 => va_tb X.1 X.2.1 ((sx_sf X).1 i hi).2.2.2 h4 (inB_vp hin) (by rw [hv]) hd (kk a ha H locs ls h1 h2 h3 h4 h5)
theorem sx_ret {fin : α → Option Value × va_W} {a : α} {v : Int32} (ty : FieldType) (X : Cx p s m args meth c cc nL own G) (hr : meth.sig.returnType = some ty) (hn : narrow ty (.int v) = .int v) (hd : decode cc pc = .ok (.ireturn, 1)) (hf : fin a = (some (.int v), ws)) : Sm p l e R s m args below meth c G nL (Qm below args s G cells slots fin) cells slots ws pc L [.int v] (some a) := by
  intro a' ha H locs ls h1 h2 h3 h4 h5
  cases ha
  unfold Qm
  rw [hf]
  exact W.zret X.1 X.2.1 hr hn (fun t ht hW => ⟨rfl, WV.at X h1 h2 h3 h4 ht hW, h4.F ht⟩) h4.2.2 hd X.2.2.2.1
end STX
theorem sx_i2b : ∀ n, n < 256 → (i2b (nI n) = 99 → n = 99) ∧ (i2b (nI n) = 119 → n = 119) ∧ (i2b (nI n) = 108 → n = 108) ∧ (i2b (nI n) = 98 → n = 98) ∧ (i2b (nI n) = 121 → n = 121) := by decide +kernel
theorem sx_i2bI {ch v : Int32} (h1 : ¬ ch < 0) (h2 : ¬ 255 < ch) (hv : v = 99 ∨ v = 119 ∨ v = 108 ∨ v = 98 ∨ v = 121) (h : v = i2b ch) : ch = v := by
  have h2' : ch ≤ 255 := Int32.not_lt.mp h2
  obtain ⟨n, hn, rfl⟩ := nI_of2 (n := 255) (M := 255) rfl h1 h2'
  obtain ⟨q1, q2, q3, q4, q5⟩ := sx_i2b n (by omega)
  rcases hv with rfl | rfl | rfl | rfl | rfl
  · rw [q1 h.symm]; rfl
  · rw [q2 h.symm]; rfl
  · rw [q3 h.symm]; rfl
  · rw [q4 h.symm]; rfl
  · rw [q5 h.symm]; rfl
theorem sx_in {i : Nat} (hi : i < 3) {v : Int32} (h : v ∈ sByt.getD i []) : v = 99 ∨ v = 119 ∨ v = 108 ∨ v = 98 ∨ v = 121 := by
  rcases (show i = 0 ∨ i = 1 ∨ i = 2 by omega) with rfl | rfl | rfl
  · simp [sByt] at h
  · simp [sByt] at h; rcases h with h | h | h <;> simp [h]
  · simp [sByt] at h; rcases h with h | h | h <;> simp [h]
theorem sx_none {i : Nat} {ch r : Int32} (hn : ch ∉ sByt.getD i []) (h : f_ixS i ch = some r) : r = -1 := by
  unfold f_ixS at h
  have e : (sByt.getD i []).idxOf? ch = none := List.idxOf?_eq_none_iff.mpr hn
  rw [e] at h
  exact (Option.some.inj h).symm
theorem sx_out {i : Nat} (hi : i < 3) {ch r : Int32} (hn : ch < 0 ∨ 255 < ch) (h : f_ixS i ch = some r) : r = -1 := by
  refine sx_none (fun hm => ?_) h
  rcases sx_in hi hm with rfl | rfl | rfl | rfl | rfl <;> revert hn <;> decide
set_option maxRecDepth 20000 in
theorem dJ0_coder_7d493_0 : decode cJ0_coder_7d493 0 = .ok (.getstatic 38, 3) := by decide +kernel
set_option maxRecDepth 20000 in
theorem dJ0_coder_7d493_3 : decode cJ0_coder_7d493 3 = .ok (.ifCond .eq 10, 3) := by decide +kernel
set_option maxRecDepth 20000 in
theorem dJ0_coder_7d493_6 : decode cJ0_coder_7d493 6 = .ok (.aload_n 0, 1) := by decide +kernel
set_option maxRecDepth 20000 in
theorem dJ0_coder_7d493_7 : decode cJ0_coder_7d493 7 = .ok (.getfield 15, 3) := by decide +kernel
set_option maxRecDepth 20000 in
theorem dJ0_coder_7d493_10 : decode cJ0_coder_7d493 10 = .ok (.goto 4, 3) := by decide +kernel
set_option maxRecDepth 20000 in
theorem dJ0_coder_7d493_13 : decode cJ0_coder_7d493 13 = .ok (.iconst 1, 1) := by decide +kernel
set_option maxRecDepth 20000 in
theorem dJ0_coder_7d493_14 : decode cJ0_coder_7d493 14 = .ok (.ireturn, 1) := by decide +kernel
set_option maxHeartbeats 4000000 in
set_option maxRecDepth 100000 in
theorem sx_c_coder (l : Launch) (G : GT) (ws : va_W) (i : Nat) (hi : i < 3) : MW l G 2 64 0 0 yJ0_coder_7d493 cJ0_coder_7d493 1 (Option.some Jvm.ClassFile.FieldType.byte) [.ref (gad G (1003 + i))] ws (some (.int 0)) ws := by
  refine mw_of RJ0 (fun _ : Unit => (some (.int 0), ws)) [(0, .ref (gad G (1003 + i)))] (by decide +kernel) rfl (Nat.le_of_ble_eq_true rfl) rfl (o := some ()) rfl rfl (fun p e s m args below meth c X hr hnm => ?_)
  refine sx_comp X 3 dJ0_coder_7d493_0 rfl q_510 ?_
  refine sx_ite (sm_if_eq X 6 13 dJ0_coder_7d493_3 rfl (by decide) (fun q => absurd q (by decide)) (fun _ => ?_))
  refine sm_aload_n X 7 0 dJ0_coder_7d493_6 rfl rfl rfl ?_
  refine sx_coder X 10 hi dJ0_coder_7d493_7 rfl q_1314 ?_
  refine sm_goto X 14 dJ0_coder_7d493_10 (by decide) ?_
  exact sx_ret .byte X hr rfl dJ0_coder_7d493_14 rfl
set_option maxRecDepth 20000 in
theorem dJ0_isLatin1_aae02_0 : decode cJ0_isLatin1_aae02 0 = .ok (.getstatic 38, 3) := by decide +kernel
set_option maxRecDepth 20000 in
theorem dJ0_isLatin1_aae02_3 : decode cJ0_isLatin1_aae02 3 = .ok (.ifCond .eq 14, 3) := by decide +kernel
set_option maxRecDepth 20000 in
theorem dJ0_isLatin1_aae02_6 : decode cJ0_isLatin1_aae02 6 = .ok (.aload_n 0, 1) := by decide +kernel
set_option maxRecDepth 20000 in
theorem dJ0_isLatin1_aae02_7 : decode cJ0_isLatin1_aae02 7 = .ok (.getfield 15, 3) := by decide +kernel
set_option maxRecDepth 20000 in
theorem dJ0_isLatin1_aae02_10 : decode cJ0_isLatin1_aae02 10 = .ok (.ifCond .ne 7, 3) := by decide +kernel
set_option maxRecDepth 20000 in
theorem dJ0_isLatin1_aae02_13 : decode cJ0_isLatin1_aae02 13 = .ok (.iconst 1, 1) := by decide +kernel
set_option maxRecDepth 20000 in
theorem dJ0_isLatin1_aae02_14 : decode cJ0_isLatin1_aae02 14 = .ok (.goto 4, 3) := by decide +kernel
set_option maxRecDepth 20000 in
theorem dJ0_isLatin1_aae02_17 : decode cJ0_isLatin1_aae02 17 = .ok (.iconst 0, 1) := by decide +kernel
set_option maxRecDepth 20000 in
theorem dJ0_isLatin1_aae02_18 : decode cJ0_isLatin1_aae02 18 = .ok (.ireturn, 1) := by decide +kernel
set_option maxHeartbeats 4000000 in
set_option maxRecDepth 100000 in
theorem sx_c_isLatin1 (l : Launch) (G : GT) (ws : va_W) (i : Nat) (hi : i < 3) : MW l G 2 64 0 0 yJ0_isLatin1_aae02 cJ0_isLatin1_aae02 1 (Option.some Jvm.ClassFile.FieldType.boolean) [.ref (gad G (1003 + i))] ws (some (.int 1)) ws := by
  refine mw_of RJ0 (fun _ : Unit => (some (.int 1), ws)) [(0, .ref (gad G (1003 + i)))] (by decide +kernel) rfl (Nat.le_of_ble_eq_true rfl) rfl (o := some ()) rfl rfl (fun p e s m args below meth c X hr hnm => ?_)
  refine sx_comp X 3 dJ0_isLatin1_aae02_0 rfl q_510 ?_
  refine sx_ite (sm_if_eq X 6 17 dJ0_isLatin1_aae02_3 rfl (by decide) (fun q => absurd q (by decide)) (fun _ => ?_))
  refine sm_aload_n X 7 0 dJ0_isLatin1_aae02_6 rfl rfl rfl ?_
  refine sx_coder X 10 hi dJ0_isLatin1_aae02_7 rfl q_1314 ?_
  refine sx_ite (sm_if_ne X 13 17 dJ0_isLatin1_aae02_10 rfl (by decide) (fun _ => ?_) (fun q => absurd rfl q))
  refine sm_iconst X 14 (1) dJ0_isLatin1_aae02_13 rfl rfl ?_
  refine sm_goto X 18 dJ0_isLatin1_aae02_14 (by decide) ?_
  exact sx_ret .boolean X hr rfl dJ0_isLatin1_aae02_18 rfl
set_option maxRecDepth 20000 in
theorem dJ0_length_8abf5_0 : decode cJ0_length_8abf5 0 = .ok (.aload_n 0, 1) := by decide +kernel
set_option maxRecDepth 20000 in
theorem dJ0_length_8abf5_1 : decode cJ0_length_8abf5 1 = .ok (.getfield 9, 3) := by decide +kernel
set_option maxRecDepth 20000 in
theorem dJ0_length_8abf5_4 : decode cJ0_length_8abf5 4 = .ok (.arraylength, 1) := by decide +kernel
set_option maxRecDepth 20000 in
theorem dJ0_length_8abf5_5 : decode cJ0_length_8abf5 5 = .ok (.aload_n 0, 1) := by decide +kernel
set_option maxRecDepth 20000 in
theorem dJ0_length_8abf5_6 : decode cJ0_length_8abf5 6 = .ok (.invokevirtual 335, 3) := by decide +kernel
set_option maxRecDepth 20000 in
theorem dJ0_length_8abf5_9 : decode cJ0_length_8abf5 9 = .ok (.ishr, 1) := by decide +kernel
set_option maxRecDepth 20000 in
theorem dJ0_length_8abf5_10 : decode cJ0_length_8abf5 10 = .ok (.ireturn, 1) := by decide +kernel
section STX2
variable {p : Program} {l : Launch} {e : Env} {R : Room} {s : State} {m : MethodId} {args : Array Value} {below : List Frame} {meth : Method} {c : Code} {cells slots : Nat}
variable {cc : ByteArray} {nL : Nat} {own : String} {G : GT} {α : Type} {Q : α → State → Prop} {ws : va_W} {pc : Nat} {L : List (Nat × Value)} {o : Option α}
theorem sx_callV (X : Cx p s m args meth c cc nL own G) (pc1 : Nat) {y : MethodName} {cy : ByteArray} {nLy fr lo n i index : Nat} {ret : Option FieldType} {rv : Option Value} (As : List Value) (rest : List Value) {st0 : List Value} (st1 : List Value)
    (hM : MW l G fr lo 0 0 y cy nLy ret (.ref (gad G (1003 + i)) :: As) ws rv ws) (hi : i < 3) (hw : CalW y cy nLy ret n) (hin : Cond.instanceMethod y ∈ TB) (hsel : Cond.selects y.cls y y ∈ TB) (hlk : Cond.methodLink own index y ∈ TB) (hy : y.cls = "java/lang/String")
    (hn : As.length = n) (hst : st0 = As.reverse ++ .ref (gad G (1003 + i)) :: rest) (hst1 : rv.toList ++ rest = st1) (hsum : (rest.map fun v => v.category).sum ≤ 8) (hR : fr + 1 ≤ R.frames ∧ 8 + (nLy + 11) + lo ≤ R.locals) (hf : cells ≤ R.cells ∧ slots ≤ R.slots) (hd : decode cc pc = .ok (.invokevirtual index, 3)) (hp : pc + 3 = pc1)
    (kk : Sm p l e R s m args below meth c G nL Q cells slots ws pc1 L st1 o) : Sm p l e R s m args below meth c G nL Q cells slots ws pc L st0 o := by
  subst hp
  subst hst
  subst hst1
  intro a ha H locs ls h1 h2 h3 h4 h5
  have ht := X.2.2.2.2.1
  have hE := X.2.2.2.2.2.2.2.1.2.2.2.2.2.2.2.2.2
  have hrun := va_runV (e := e) (below := below) (meth := meth) (As := As) (rest := rest) (C := y.cls) (g := F0 m pc ls (As.reverse ++ .ref (gad G (1003 + i)) :: rest)) (cells := cells) (slots := slots) (locs := locs) (H := H) ⟨X.1, X.2.1, X.2.2.1, X.2.2.2.2.2.1, ht⟩ hM
    ⟨callB_of n ht (tb_GoodIn hw.1) rfl rfl rfl (ht _ hw.2.1) (ht _ hlk) hw.2.2 hR, ht _ hin, ht _ hsel⟩
    ⟨WV.blind _, by rw [hy]; exact vk_recv (adK := fun i => gad G (1003 + i)) (i := i) hE hi h4, fun U hU hW => ⟨rfl, WV.at X h1 h2 h3 h4 hU hW⟩⟩ rfl hn h5.1 rfl (lv_room hsum) hd hf
  exact sm_ran (y := y) X h4 hrun (fun H1 locs1 g1 g2 g3 g4 => kk a ha H1 locs1 ls g1 g2 g3 g4 h5)
theorem sx_callS (X : Cx p s m args meth c cc nL own G) (pc1 : Nat) {y : MethodName} {cy : ByteArray} {nLy fr lo n index : Nat} {ret : Option FieldType} {rv : Option Value} (As : List Value) (rest : List Value) {st0 : List Value} (st1 : List Value)
    (hM : MW l G fr lo 0 0 y cy nLy ret As ws rv ws) (hw : CalW y cy nLy ret n) (hin : Cond.static y ∈ TB) (hlk : Cond.methodLink own index y ∈ TB)
    (hn : As.length = n) (hst : st0 = As.reverse ++ rest) (hst1 : rv.toList ++ rest = st1) (hsum : (rest.map fun v => v.category).sum ≤ 8) (hR : fr + 1 ≤ R.frames ∧ 8 + (nLy + 11) + lo ≤ R.locals) (hf : cells ≤ R.cells ∧ slots ≤ R.slots) (hd : decode cc pc = .ok (.invokestatic index, 3)) (hp : pc + 3 = pc1)
    (kk : Sm p l e R s m args below meth c G nL Q cells slots ws pc1 L st1 o) : Sm p l e R s m args below meth c G nL Q cells slots ws pc L st0 o :=
  sm_callS X pc1 As rest hM hw hin hlk hn hst hsum hR hf hd hp (hst1 ▸ kk)
end STX2
set_option maxHeartbeats 4000000 in
set_option maxRecDepth 100000 in
theorem sx_c_length (l : Launch) (G : GT) (ws : va_W) (i : Nat) (hi : i < 3) (v : Int32) (hv : Int32.ofNat (sLen.getD i 0) = v) (hs : v >>> ((0 : Int32) &&& 31) = v) : MW l G 3 84 0 0 yJ0_length_8abf5 cJ0_length_8abf5 1 (Option.some Jvm.ClassFile.FieldType.int) [.ref (gad G (1003 + i))] ws (some (.int v)) ws := by
  refine mw_of RJ0 (fun _ : Unit => (some (.int v), ws)) [(0, .ref (gad G (1003 + i)))] (by decide +kernel) rfl (Nat.le_of_ble_eq_true rfl) rfl (o := some ()) rfl rfl (fun p e s m args below meth c X hr hnm => ?_)
  refine sm_aload_n X 1 0 dJ0_length_8abf5_0 rfl rfl rfl ?_
  refine sx_value X 4 hi dJ0_length_8abf5_1 rfl q_1315 ?_
  refine sx_len X 5 v hi hv dJ0_length_8abf5_4 rfl ?_
  refine sm_aload_n X 6 0 dJ0_length_8abf5_5 rfl rfl rfl ?_
  refine sx_callV X 9 [] [.int v] [.int 0, .int v] (sx_c_coder l G ws i hi) hi (⟨q_519, q_13, by decide +kernel⟩ : CalW yJ0_coder_7d493 cJ0_coder_7d493 1 (Option.some Jvm.ClassFile.FieldType.byte) 0) q_517 q_518 q_516 rfl rfl rfl rfl (Nat.le_of_ble_eq_true rfl) ⟨(Nat.le_of_ble_eq_true rfl), (Nat.le_of_ble_eq_true rfl)⟩ ⟨(Nat.le_of_ble_eq_true rfl), (Nat.le_of_ble_eq_true rfl)⟩ dJ0_length_8abf5_6 rfl ?_
  refine sm_ishr X 10 dJ0_length_8abf5_9 rfl ?_
  rw [hs]
  exact sx_ret .int X hr rfl dJ0_length_8abf5_10 rfl
set_option maxRecDepth 20000 in
theorem dJ1_canEncode_9a6ad_0 : decode cJ1_canEncode_9a6ad 0 = .ok (.iload_n 0, 1) := by decide +kernel
set_option maxRecDepth 20000 in
theorem dJ1_canEncode_9a6ad_1 : decode cJ1_canEncode_9a6ad 1 = .ok (.ifCond .lt 14, 3) := by decide +kernel
set_option maxRecDepth 20000 in
theorem dJ1_canEncode_9a6ad_4 : decode cJ1_canEncode_9a6ad 4 = .ok (.iload_n 0, 1) := by decide +kernel
set_option maxRecDepth 20000 in
theorem dJ1_canEncode_9a6ad_5 : decode cJ1_canEncode_9a6ad 5 = .ok (.sipush 255, 3) := by decide +kernel
set_option maxRecDepth 20000 in
theorem dJ1_canEncode_9a6ad_8 : decode cJ1_canEncode_9a6ad 8 = .ok (.if_icmp .gt 7, 3) := by decide +kernel
set_option maxRecDepth 20000 in
theorem dJ1_canEncode_9a6ad_11 : decode cJ1_canEncode_9a6ad 11 = .ok (.iconst 1, 1) := by decide +kernel
set_option maxRecDepth 20000 in
theorem dJ1_canEncode_9a6ad_12 : decode cJ1_canEncode_9a6ad 12 = .ok (.goto 4, 3) := by decide +kernel
set_option maxRecDepth 20000 in
theorem dJ1_canEncode_9a6ad_15 : decode cJ1_canEncode_9a6ad 15 = .ok (.iconst 0, 1) := by decide +kernel
set_option maxRecDepth 20000 in
theorem dJ1_canEncode_9a6ad_16 : decode cJ1_canEncode_9a6ad 16 = .ok (.ireturn, 1) := by decide +kernel
set_option maxHeartbeats 4000000 in
set_option maxRecDepth 100000 in
theorem sx_c_can (l : Launch) (G : GT) (ws : va_W) (ch : Int32) (b : Bool) (hb : b = true ↔ ¬ ch < 0 ∧ ¬ 255 < ch) : MW l G 2 64 0 0 yJ1_canEncode_9a6ad cJ1_canEncode_9a6ad 1 (Option.some Jvm.ClassFile.FieldType.boolean) [.int ch] ws (some (.int (b2i b))) ws := by
  refine mw_of RJ1 (fun _ : Unit => (some (.int (b2i b)), ws)) [(0, .int ch)] (by decide +kernel) rfl (Nat.le_of_ble_eq_true rfl) rfl (o := some ()) rfl rfl (fun p e s m args below meth c X hr hnm => ?_)
  refine sm_iload_n X 1 0 dJ1_canEncode_9a6ad_0 rfl rfl rfl ?_
  refine sx_ite (sm_if_lt X 4 15 dJ1_canEncode_9a6ad_1 rfl (by decide) (fun q => ?_) (fun q => ?_))
  · have e : b = false := by cases b with
      | false => rfl
      | true => exact absurd q (hb.mp rfl).1
    subst e
    refine sm_iconst X 16 (0) dJ1_canEncode_9a6ad_15 rfl rfl ?_
    exact sx_ret .boolean X hr rfl dJ1_canEncode_9a6ad_16 rfl
  refine sm_iload_n X 5 0 dJ1_canEncode_9a6ad_4 rfl rfl rfl ?_
  refine sm_sipush X 8 (255) dJ1_canEncode_9a6ad_5 rfl rfl ?_
  refine sx_ite (sm_icmp_gt X 11 15 dJ1_canEncode_9a6ad_8 rfl (by decide) (fun q2 => ?_) (fun q2 => ?_))
  · have e : b = false := by cases b with
      | false => rfl
      | true => exact absurd q2 (hb.mp rfl).2
    subst e
    refine sm_iconst X 16 (0) dJ1_canEncode_9a6ad_15 rfl rfl ?_
    exact sx_ret .boolean X hr rfl dJ1_canEncode_9a6ad_16 rfl
  have e : b = true := hb.mpr ⟨q, q2⟩
  subst e
  refine sm_iconst X 12 (1) dJ1_canEncode_9a6ad_11 rfl rfl ?_
  refine sm_goto X 16 dJ1_canEncode_9a6ad_12 (by decide) ?_
  exact sx_ret .boolean X hr rfl dJ1_canEncode_9a6ad_16 rfl
set_option maxRecDepth 20000 in
theorem dJ1_indexOfChar_4cfef_0 : decode cJ1_indexOfChar_4cfef 0 = .ok (.iload_n 1, 1) := by decide +kernel
set_option maxRecDepth 20000 in
theorem dJ1_indexOfChar_4cfef_1 : decode cJ1_indexOfChar_4cfef 1 = .ok (.i2b, 1) := by decide +kernel
set_option maxRecDepth 20000 in
theorem dJ1_indexOfChar_4cfef_2 : decode cJ1_indexOfChar_4cfef 2 = .ok (.istore 4, 2) := by decide +kernel
set_option maxRecDepth 20000 in
theorem dJ1_indexOfChar_4cfef_4 : decode cJ1_indexOfChar_4cfef 4 = .ok (.iload_n 2, 1) := by decide +kernel
set_option maxRecDepth 20000 in
theorem dJ1_indexOfChar_4cfef_5 : decode cJ1_indexOfChar_4cfef 5 = .ok (.istore 5, 2) := by decide +kernel
set_option maxRecDepth 20000 in
theorem dJ1_indexOfChar_4cfef_7 : decode cJ1_indexOfChar_4cfef 7 = .ok (.iload 5, 2) := by decide +kernel
set_option maxRecDepth 20000 in
theorem dJ1_indexOfChar_4cfef_9 : decode cJ1_indexOfChar_4cfef 9 = .ok (.iload_n 3, 1) := by decide +kernel
set_option maxRecDepth 20000 in
theorem dJ1_indexOfChar_4cfef_10 : decode cJ1_indexOfChar_4cfef 10 = .ok (.if_icmp .ge 21, 3) := by decide +kernel
set_option maxRecDepth 20000 in
theorem dJ1_indexOfChar_4cfef_13 : decode cJ1_indexOfChar_4cfef 13 = .ok (.aload_n 0, 1) := by decide +kernel
set_option maxRecDepth 20000 in
theorem dJ1_indexOfChar_4cfef_14 : decode cJ1_indexOfChar_4cfef 14 = .ok (.iload 5, 2) := by decide +kernel
set_option maxRecDepth 20000 in
theorem dJ1_indexOfChar_4cfef_16 : decode cJ1_indexOfChar_4cfef 16 = .ok (.baload, 1) := by decide +kernel
set_option maxRecDepth 20000 in
theorem dJ1_indexOfChar_4cfef_17 : decode cJ1_indexOfChar_4cfef 17 = .ok (.iload 4, 2) := by decide +kernel
set_option maxRecDepth 20000 in
theorem dJ1_indexOfChar_4cfef_19 : decode cJ1_indexOfChar_4cfef 19 = .ok (.if_icmp .ne 6, 3) := by decide +kernel
set_option maxRecDepth 20000 in
theorem dJ1_indexOfChar_4cfef_22 : decode cJ1_indexOfChar_4cfef 22 = .ok (.iload 5, 2) := by decide +kernel
set_option maxRecDepth 20000 in
theorem dJ1_indexOfChar_4cfef_24 : decode cJ1_indexOfChar_4cfef 24 = .ok (.ireturn, 1) := by decide +kernel
set_option maxRecDepth 20000 in
theorem dJ1_indexOfChar_4cfef_25 : decode cJ1_indexOfChar_4cfef 25 = .ok (.iinc 5 1, 3) := by decide +kernel
set_option maxRecDepth 20000 in
theorem dJ1_indexOfChar_4cfef_28 : decode cJ1_indexOfChar_4cfef 28 = .ok (.goto (-21), 3) := by decide +kernel
set_option maxRecDepth 20000 in
theorem dJ1_indexOfChar_4cfef_31 : decode cJ1_indexOfChar_4cfef 31 = .ok (.iconst (-1), 1) := by decide +kernel
set_option maxRecDepth 20000 in
theorem dJ1_indexOfChar_4cfef_32 : decode cJ1_indexOfChar_4cfef 32 = .ok (.ireturn, 1) := by decide +kernel
set_option maxHeartbeats 4000000 in
set_option maxRecDepth 100000 in
theorem sx_c_ixc (l : Launch) (G : GT) (ws : va_W) (i : Nat) (hi : i = 1 ∨ i = 2) (ch r : Int32) (h1 : ¬ ch < 0) (h2 : ¬ 255 < ch) (hr0 : f_ixS i ch = some r) : MW l G 2 64 0 0 yJ1_indexOfChar_4cfef cJ1_indexOfChar_4cfef 6 (Option.some Jvm.ClassFile.FieldType.int) [.ref (gad G (1006 + i)), .int ch, .int 0, .int 3] ws (some (.int r)) ws := by
  refine mw_of RJ1 (fun _ : Unit => (some (.int r), ws)) [(0, .ref (gad G (1006 + i))), (1, .int ch), (2, .int 0), (3, .int 3)] (by decide +kernel) rfl (Nat.le_of_ble_eq_true rfl) rfl (o := some ()) rfl rfl (fun p e s m args below meth c X hr hnm => ?_)
  have hi3 : i < 3 := by omega
  have hln : sLen.getD i 0 = 3 := by rcases hi with rfl | rfl <;> rfl
  obtain ⟨v0, v1, v2, hbs⟩ : ∃ v0 v1 v2, sByt.getD i [] = [v0, v1, v2] := by rcases hi with rfl | rfl <;> exact ⟨_, _, _, rfl⟩
  have m0 := sx_in hi3 (v := v0) (by rw [hbs]; simp)
  have m1 := sx_in hi3 (v := v1) (by rw [hbs]; simp)
  have m2 := sx_in hi3 (v := v2) (by rw [hbs]; simp)
  unfold f_ixS at hr0
  rw [hbs] at hr0
  have hr1 := Option.some.inj hr0
  simp only [List.idxOf?_cons, List.idxOf?_nil] at hr1
  refine sm_iload_n X 1 1 dJ1_indexOfChar_4cfef_0 rfl rfl rfl ?_
  refine sm_i2b X 2 dJ1_indexOfChar_4cfef_1 rfl ?_
  refine sm_istore X 4 [(4, .int (i2b ch)), (0, .ref (gad G (1006 + i))), (1, .int ch), (2, .int 0), (3, .int 3)] dJ1_indexOfChar_4cfef_2 rfl (by decide) rfl ?_
  refine sm_iload_n X 5 3 dJ1_indexOfChar_4cfef_4 rfl rfl rfl ?_
  refine sm_istore X 7 [(5, .int 0), (4, .int (i2b ch)), (0, .ref (gad G (1006 + i))), (1, .int ch), (2, .int 0), (3, .int 3)] dJ1_indexOfChar_4cfef_5 rfl (by decide) rfl ?_
  refine sm_sub [0, 2, 3, 4, 5, 1] rfl ?_
  refine sm_iload X 9 0 dJ1_indexOfChar_4cfef_7 rfl rfl ?_
  refine sm_iload_n X 10 4 dJ1_indexOfChar_4cfef_9 rfl rfl rfl ?_
  refine sx_ite (sm_icmp_ge X 13 31 dJ1_indexOfChar_4cfef_10 rfl (by decide) (fun q => absurd q (by decide)) (fun _ => ?_))
  refine sm_aload_n X 14 1 dJ1_indexOfChar_4cfef_13 rfl rfl rfl ?_
  refine sm_iload X 16 0 dJ1_indexOfChar_4cfef_14 rfl rfl ?_
  refine sx_byte X 17 v0 hi3 (by rw [hln]; decide) (by rw [hbs]; rfl) dJ1_indexOfChar_4cfef_16 rfl ?_
  refine sm_iload X 19 5 dJ1_indexOfChar_4cfef_17 rfl rfl ?_
  refine sx_ite (sm_icmp_ne X 22 25 dJ1_indexOfChar_4cfef_19 rfl (by decide) (fun c0 => ?_) (fun c0 => ?_))
  · have hc := sx_i2bI h1 h2 m0 c0
    have e : r = 0 := by
      have z0 : (v0 == ch) = true := by rw [hc]; exact beq_self_eq_true _
      rw [← hr1]; simp [z0]
    subst e
    refine sm_iload X 24 0 dJ1_indexOfChar_4cfef_22 rfl rfl ?_
    exact sx_ret .int X hr rfl dJ1_indexOfChar_4cfef_24 rfl
  refine sm_iinc X 28 0 (1) [(5, .int 1), (0, .ref (gad G (1006 + i))), (1, .int ch), (2, .int 0), (3, .int 3), (4, .int (i2b ch))] dJ1_indexOfChar_4cfef_25 rfl rfl rfl (by decide) rfl ?_
  refine sm_goto X 7 dJ1_indexOfChar_4cfef_28 (by decide) ?_
  refine sm_iload X 9 0 dJ1_indexOfChar_4cfef_7 rfl rfl ?_
  refine sm_iload_n X 10 4 dJ1_indexOfChar_4cfef_9 rfl rfl rfl ?_
  refine sx_ite (sm_icmp_ge X 13 31 dJ1_indexOfChar_4cfef_10 rfl (by decide) (fun q => absurd q (by decide)) (fun _ => ?_))
  refine sm_aload_n X 14 1 dJ1_indexOfChar_4cfef_13 rfl rfl rfl ?_
  refine sm_iload X 16 0 dJ1_indexOfChar_4cfef_14 rfl rfl ?_
  refine sx_byte X 17 v1 hi3 (by rw [hln]; decide) (by rw [hbs]; rfl) dJ1_indexOfChar_4cfef_16 rfl ?_
  refine sm_iload X 19 5 dJ1_indexOfChar_4cfef_17 rfl rfl ?_
  refine sx_ite (sm_icmp_ne X 22 25 dJ1_indexOfChar_4cfef_19 rfl (by decide) (fun c1 => ?_) (fun c1 => ?_))
  · have hc := sx_i2bI h1 h2 m1 c1
    have e : r = 1 := by
      have z0 : (v0 == ch) = false := by
        cases hz : v0 == ch with
        | false => rfl
        | true => have e := eq_of_beq hz; exact absurd (by subst e; rcases m0 with rfl | rfl | rfl | rfl | rfl <;> decide) c0
      have z1 : (v1 == ch) = true := by rw [hc]; exact beq_self_eq_true _
      rw [← hr1]; simp [z0, z1]
    subst e
    refine sm_iload X 24 0 dJ1_indexOfChar_4cfef_22 rfl rfl ?_
    exact sx_ret .int X hr rfl dJ1_indexOfChar_4cfef_24 rfl
  refine sm_iinc X 28 0 (1) [(5, .int 2), (0, .ref (gad G (1006 + i))), (1, .int ch), (2, .int 0), (3, .int 3), (4, .int (i2b ch))] dJ1_indexOfChar_4cfef_25 rfl rfl rfl (by decide) rfl ?_
  refine sm_goto X 7 dJ1_indexOfChar_4cfef_28 (by decide) ?_
  refine sm_iload X 9 0 dJ1_indexOfChar_4cfef_7 rfl rfl ?_
  refine sm_iload_n X 10 4 dJ1_indexOfChar_4cfef_9 rfl rfl rfl ?_
  refine sx_ite (sm_icmp_ge X 13 31 dJ1_indexOfChar_4cfef_10 rfl (by decide) (fun q => absurd q (by decide)) (fun _ => ?_))
  refine sm_aload_n X 14 1 dJ1_indexOfChar_4cfef_13 rfl rfl rfl ?_
  refine sm_iload X 16 0 dJ1_indexOfChar_4cfef_14 rfl rfl ?_
  refine sx_byte X 17 v2 hi3 (by rw [hln]; decide) (by rw [hbs]; rfl) dJ1_indexOfChar_4cfef_16 rfl ?_
  refine sm_iload X 19 5 dJ1_indexOfChar_4cfef_17 rfl rfl ?_
  refine sx_ite (sm_icmp_ne X 22 25 dJ1_indexOfChar_4cfef_19 rfl (by decide) (fun c2 => ?_) (fun c2 => ?_))
  · have hc := sx_i2bI h1 h2 m2 c2
    have e : r = 2 := by
      have z0 : (v0 == ch) = false := by
        cases hz : v0 == ch with
        | false => rfl
        | true => have e := eq_of_beq hz; exact absurd (by subst e; rcases m0 with rfl | rfl | rfl | rfl | rfl <;> decide) c0
      have z1 : (v1 == ch) = false := by
        cases hz : v1 == ch with
        | false => rfl
        | true => have e := eq_of_beq hz; exact absurd (by subst e; rcases m1 with rfl | rfl | rfl | rfl | rfl <;> decide) c1
      have z2 : (v2 == ch) = true := by rw [hc]; exact beq_self_eq_true _
      rw [← hr1]; simp [z0, z1, z2]
    subst e
    refine sm_iload X 24 0 dJ1_indexOfChar_4cfef_22 rfl rfl ?_
    exact sx_ret .int X hr rfl dJ1_indexOfChar_4cfef_24 rfl
  refine sm_iinc X 28 0 (1) [(5, .int 3), (0, .ref (gad G (1006 + i))), (1, .int ch), (2, .int 0), (3, .int 3), (4, .int (i2b ch))] dJ1_indexOfChar_4cfef_25 rfl rfl rfl (by decide) rfl ?_
  refine sm_goto X 7 dJ1_indexOfChar_4cfef_28 (by decide) ?_
  refine sm_iload X 9 0 dJ1_indexOfChar_4cfef_7 rfl rfl ?_
  refine sm_iload_n X 10 4 dJ1_indexOfChar_4cfef_9 rfl rfl rfl ?_
  refine sx_ite (sm_icmp_ge X 13 31 dJ1_indexOfChar_4cfef_10 rfl (by decide) (fun _ => ?_) (fun q => absurd (by decide) q))
  refine sm_iconst X 32 (-1) dJ1_indexOfChar_4cfef_31 rfl rfl ?_
  have e : r = -1 := by
    have z0 : (v0 == ch) = false := by
      cases hz : v0 == ch with
      | false => rfl
      | true => have e := eq_of_beq hz; exact absurd (by subst e; rcases m0 with rfl | rfl | rfl | rfl | rfl <;> decide) c0
    have z1 : (v1 == ch) = false := by
      cases hz : v1 == ch with
      | false => rfl
      | true => have e := eq_of_beq hz; exact absurd (by subst e; rcases m1 with rfl | rfl | rfl | rfl | rfl <;> decide) c1
    have z2 : (v2 == ch) = false := by
      cases hz : v2 == ch with
      | false => rfl
      | true => have e := eq_of_beq hz; exact absurd (by subst e; rcases m2 with rfl | rfl | rfl | rfl | rfl <;> decide) c2
    rw [← hr1]; simp [z0, z1, z2]
  subst e
  exact sx_ret .int X hr rfl dJ1_indexOfChar_4cfef_32 rfl
set_option maxRecDepth 20000 in
theorem dJ1_indexOf_4cfef_0 : decode cJ1_indexOf_4cfef 0 = .ok (.iload_n 1, 1) := by decide +kernel
set_option maxRecDepth 20000 in
theorem dJ1_indexOf_4cfef_1 : decode cJ1_indexOf_4cfef 1 = .ok (.invokestatic 88, 3) := by decide +kernel
set_option maxRecDepth 20000 in
theorem dJ1_indexOf_4cfef_4 : decode cJ1_indexOf_4cfef 4 = .ok (.ifCond .ne 5, 3) := by decide +kernel
set_option maxRecDepth 20000 in
theorem dJ1_indexOf_4cfef_7 : decode cJ1_indexOf_4cfef 7 = .ok (.iconst (-1), 1) := by decide +kernel
set_option maxRecDepth 20000 in
theorem dJ1_indexOf_4cfef_8 : decode cJ1_indexOf_4cfef 8 = .ok (.ireturn, 1) := by decide +kernel
set_option maxRecDepth 20000 in
theorem dJ1_indexOf_4cfef_9 : decode cJ1_indexOf_4cfef 9 = .ok (.iload_n 2, 1) := by decide +kernel
set_option maxRecDepth 20000 in
theorem dJ1_indexOf_4cfef_10 : decode cJ1_indexOf_4cfef 10 = .ok (.iconst 0, 1) := by decide +kernel
set_option maxRecDepth 20000 in
theorem dJ1_indexOf_4cfef_11 : decode cJ1_indexOf_4cfef 11 = .ok (.invokestatic 92, 3) := by decide +kernel
set_option maxRecDepth 20000 in
theorem dJ1_indexOf_4cfef_14 : decode cJ1_indexOf_4cfef 14 = .ok (.istore_n 2, 1) := by decide +kernel
set_option maxRecDepth 20000 in
theorem dJ1_indexOf_4cfef_15 : decode cJ1_indexOf_4cfef 15 = .ok (.iload_n 3, 1) := by decide +kernel
set_option maxRecDepth 20000 in
theorem dJ1_indexOf_4cfef_16 : decode cJ1_indexOf_4cfef 16 = .ok (.aload_n 0, 1) := by decide +kernel
set_option maxRecDepth 20000 in
theorem dJ1_indexOf_4cfef_17 : decode cJ1_indexOf_4cfef 17 = .ok (.arraylength, 1) := by decide +kernel
set_option maxRecDepth 20000 in
theorem dJ1_indexOf_4cfef_18 : decode cJ1_indexOf_4cfef 18 = .ok (.invokestatic 38, 3) := by decide +kernel
set_option maxRecDepth 20000 in
theorem dJ1_indexOf_4cfef_21 : decode cJ1_indexOf_4cfef 21 = .ok (.istore_n 3, 1) := by decide +kernel
set_option maxRecDepth 20000 in
theorem dJ1_indexOf_4cfef_22 : decode cJ1_indexOf_4cfef 22 = .ok (.iload_n 2, 1) := by decide +kernel
set_option maxRecDepth 20000 in
theorem dJ1_indexOf_4cfef_23 : decode cJ1_indexOf_4cfef 23 = .ok (.iload_n 3, 1) := by decide +kernel
set_option maxRecDepth 20000 in
theorem dJ1_indexOf_4cfef_24 : decode cJ1_indexOf_4cfef 24 = .ok (.if_icmp .lt 5, 3) := by decide +kernel
set_option maxRecDepth 20000 in
theorem dJ1_indexOf_4cfef_27 : decode cJ1_indexOf_4cfef 27 = .ok (.iconst (-1), 1) := by decide +kernel
set_option maxRecDepth 20000 in
theorem dJ1_indexOf_4cfef_28 : decode cJ1_indexOf_4cfef 28 = .ok (.ireturn, 1) := by decide +kernel
set_option maxRecDepth 20000 in
theorem dJ1_indexOf_4cfef_29 : decode cJ1_indexOf_4cfef 29 = .ok (.aload_n 0, 1) := by decide +kernel
set_option maxRecDepth 20000 in
theorem dJ1_indexOf_4cfef_30 : decode cJ1_indexOf_4cfef 30 = .ok (.iload_n 1, 1) := by decide +kernel
set_option maxRecDepth 20000 in
theorem dJ1_indexOf_4cfef_31 : decode cJ1_indexOf_4cfef 31 = .ok (.iload_n 2, 1) := by decide +kernel
set_option maxRecDepth 20000 in
theorem dJ1_indexOf_4cfef_32 : decode cJ1_indexOf_4cfef 32 = .ok (.iload_n 3, 1) := by decide +kernel
set_option maxRecDepth 20000 in
theorem dJ1_indexOf_4cfef_33 : decode cJ1_indexOf_4cfef 33 = .ok (.invokestatic 95, 3) := by decide +kernel
set_option maxRecDepth 20000 in
theorem dJ1_indexOf_4cfef_36 : decode cJ1_indexOf_4cfef 36 = .ok (.ireturn, 1) := by decide +kernel
set_option maxHeartbeats 4000000 in
set_option maxRecDepth 100000 in
theorem sx_c_ixl (l : Launch) (G : GT) (ws : va_W) (i : Nat) (hi : i < 3) (ch r v : Int32) (hv : Int32.ofNat (sLen.getD i 0) = v) (hr0 : f_ixS i ch = some r) : MW l G 3 90 0 0 yJ1_indexOf_4cfef cJ1_indexOf_4cfef 4 (Option.some Jvm.ClassFile.FieldType.int) [.ref (gad G (1006 + i)), .int ch, .int 0, .int v] ws (some (.int r)) ws := by
  refine mw_of RJ1 (fun _ : Unit => (some (.int r), ws)) [(0, .ref (gad G (1006 + i))), (1, .int ch), (2, .int 0), (3, .int v)] (by decide +kernel) rfl (Nat.le_of_ble_eq_true rfl) rfl (o := some ()) rfl rfl (fun p e s m args below meth c X hr hnm => ?_)
  refine sm_iload_n X 1 1 dJ1_indexOf_4cfef_0 rfl rfl rfl ?_
  obtain ⟨b, hb⟩ : ∃ b : Bool, b = true ↔ ¬ ch < 0 ∧ ¬ 255 < ch := ⟨decide (¬ ch < 0 ∧ ¬ 255 < ch), decide_eq_true_iff⟩
  refine sx_callS X 4 [.int ch] [] [.int (b2i b)] (sx_c_can l G ws ch b hb) (⟨q_525, q_14, by decide +kernel⟩ : CalW yJ1_canEncode_9a6ad cJ1_canEncode_9a6ad 1 (Option.some Jvm.ClassFile.FieldType.boolean) 1) q_524 q_523 rfl rfl rfl (Nat.le_of_ble_eq_true rfl) ⟨(Nat.le_of_ble_eq_true rfl), (Nat.le_of_ble_eq_true rfl)⟩ ⟨(Nat.le_of_ble_eq_true rfl), (Nat.le_of_ble_eq_true rfl)⟩ dJ1_indexOf_4cfef_1 rfl ?_
  refine sx_ite (P := b = true) (sm_ifz_ne X 7 9 dJ1_indexOf_4cfef_4 rfl (by decide) (fun q => ?_) (fun q => ?_))
  rotate_left
  · have e : r = -1 := by
      refine sx_out hi ?_ hr0
      have hnb : ¬ (¬ ch < 0 ∧ ¬ 255 < ch) := fun z => q (hb.mpr z)
      by_cases z : ch < 0
      · exact Or.inl z
      · exact Or.inr (Decidable.of_not_not (fun z2 => hnb ⟨z, z2⟩))
    subst e
    refine sm_iconst X 8 (-1) dJ1_indexOf_4cfef_7 rfl rfl ?_
    exact sx_ret .int X hr rfl dJ1_indexOf_4cfef_8 rfl
  obtain ⟨h1, h2⟩ := hb.mp q
  refine sm_iload_n X 10 2 dJ1_indexOf_4cfef_9 rfl rfl rfl ?_
  refine sm_iconst X 11 (0) dJ1_indexOf_4cfef_10 rfl rfl ?_
  refine sm_mmax X 14 dJ1_indexOf_4cfef_11 rfl q_526 q_369 q_370 q_11 ⟨(Nat.le_of_ble_eq_true rfl), (Nat.le_of_ble_eq_true rfl), (Nat.le_of_ble_eq_true rfl), (Nat.le_of_ble_eq_true rfl)⟩ ?_
  rw [show imax 0 0 = 0 from rfl]
  refine sm_istore_n X 15 [(2, .int 0), (0, .ref (gad G (1006 + i))), (1, .int ch), (3, .int v)] dJ1_indexOf_4cfef_14 rfl rfl (by decide) rfl ?_
  refine sm_iload_n X 16 3 dJ1_indexOf_4cfef_15 rfl rfl rfl ?_
  refine sm_aload_n X 17 1 dJ1_indexOf_4cfef_16 rfl rfl rfl ?_
  refine sx_len X 18 v hi hv dJ1_indexOf_4cfef_17 rfl ?_
  refine sm_mmin X 21 dJ1_indexOf_4cfef_18 rfl q_527 q_366 q_367 q_11 ⟨(Nat.le_of_ble_eq_true rfl), (Nat.le_of_ble_eq_true rfl), (Nat.le_of_ble_eq_true rfl), (Nat.le_of_ble_eq_true rfl)⟩ ?_
  rw [show imin v v = v from ite_self _]
  refine sm_istore_n X 22 [(3, .int v), (2, .int 0), (0, .ref (gad G (1006 + i))), (1, .int ch)] dJ1_indexOf_4cfef_21 rfl rfl (by decide) rfl ?_
  refine sm_iload_n X 23 1 dJ1_indexOf_4cfef_22 rfl rfl rfl ?_
  refine sm_iload_n X 24 0 dJ1_indexOf_4cfef_23 rfl rfl rfl ?_
  by_cases h0 : i = 0
  · subst h0
    have e0 : v = 0 := hv.symm
    subst e0
    refine sx_ite (sm_icmp_lt X 27 29 dJ1_indexOf_4cfef_24 rfl (by decide) (fun q => absurd q (by decide)) (fun _ => ?_))
    have e : r = -1 := sx_none (by simp [sByt]) hr0
    subst e
    refine sm_iconst X 28 (-1) dJ1_indexOf_4cfef_27 rfl rfl ?_
    exact sx_ret .int X hr rfl dJ1_indexOf_4cfef_28 rfl
  have hi2 : i = 1 ∨ i = 2 := by omega
  have ev : v = 3 := by rcases hi2 with rfl | rfl <;> exact hv.symm
  subst ev
  refine sx_ite (sm_icmp_lt X 27 29 dJ1_indexOf_4cfef_24 rfl (by decide) (fun _ => ?_) (fun q => absurd (by decide) q))
  refine sm_aload_n X 30 2 dJ1_indexOf_4cfef_29 rfl rfl rfl ?_
  refine sm_iload_n X 31 3 dJ1_indexOf_4cfef_30 rfl rfl rfl ?_
  refine sm_iload_n X 32 1 dJ1_indexOf_4cfef_31 rfl rfl rfl ?_
  refine sm_iload_n X 33 0 dJ1_indexOf_4cfef_32 rfl rfl rfl ?_
  refine sx_callS X 36 [.ref (gad G (1006 + i)), .int ch, .int 0, .int 3] [] [.int r] (sx_c_ixc l G ws i hi2 ch r h1 h2 hr0) (⟨q_530, q_14, by decide +kernel⟩ : CalW yJ1_indexOfChar_4cfef cJ1_indexOfChar_4cfef 6 (Option.some Jvm.ClassFile.FieldType.int) 4) q_529 q_528 rfl rfl rfl (Nat.le_of_ble_eq_true rfl) ⟨(Nat.le_of_ble_eq_true rfl), (Nat.le_of_ble_eq_true rfl)⟩ ⟨(Nat.le_of_ble_eq_true rfl), (Nat.le_of_ble_eq_true rfl)⟩ dJ1_indexOf_4cfef_33 rfl ?_
  exact sx_ret .int X hr rfl dJ1_indexOf_4cfef_36 rfl
set_option maxRecDepth 20000 in
theorem dJ0_indexOf_7cf53_0 : decode cJ0_indexOf_7cf53 0 = .ok (.aload_n 0, 1) := by decide +kernel
set_option maxRecDepth 20000 in
theorem dJ0_indexOf_7cf53_1 : decode cJ0_indexOf_7cf53 1 = .ok (.invokevirtual 492, 3) := by decide +kernel
set_option maxRecDepth 20000 in
theorem dJ0_indexOf_7cf53_4 : decode cJ0_indexOf_7cf53 4 = .ok (.ifCond .eq 19, 3) := by decide +kernel
set_option maxRecDepth 20000 in
theorem dJ0_indexOf_7cf53_7 : decode cJ0_indexOf_7cf53 7 = .ok (.aload_n 0, 1) := by decide +kernel
set_option maxRecDepth 20000 in
theorem dJ0_indexOf_7cf53_8 : decode cJ0_indexOf_7cf53 8 = .ok (.getfield 9, 3) := by decide +kernel
set_option maxRecDepth 20000 in
theorem dJ0_indexOf_7cf53_11 : decode cJ0_indexOf_7cf53 11 = .ok (.iload_n 1, 1) := by decide +kernel
set_option maxRecDepth 20000 in
theorem dJ0_indexOf_7cf53_12 : decode cJ0_indexOf_7cf53 12 = .ok (.iload_n 2, 1) := by decide +kernel
set_option maxRecDepth 20000 in
theorem dJ0_indexOf_7cf53_13 : decode cJ0_indexOf_7cf53 13 = .ok (.aload_n 0, 1) := by decide +kernel
set_option maxRecDepth 20000 in
theorem dJ0_indexOf_7cf53_14 : decode cJ0_indexOf_7cf53 14 = .ok (.invokevirtual 505, 3) := by decide +kernel
set_option maxRecDepth 20000 in
theorem dJ0_indexOf_7cf53_17 : decode cJ0_indexOf_7cf53 17 = .ok (.invokestatic 637, 3) := by decide +kernel
set_option maxRecDepth 20000 in
theorem dJ0_indexOf_7cf53_20 : decode cJ0_indexOf_7cf53 20 = .ok (.goto 16, 3) := by decide +kernel
set_option maxRecDepth 20000 in
theorem dJ0_indexOf_7cf53_23 : decode cJ0_indexOf_7cf53 23 = .ok (.aload_n 0, 1) := by decide +kernel
set_option maxRecDepth 20000 in
theorem dJ0_indexOf_7cf53_24 : decode cJ0_indexOf_7cf53 24 = .ok (.getfield 9, 3) := by decide +kernel
set_option maxRecDepth 20000 in
theorem dJ0_indexOf_7cf53_27 : decode cJ0_indexOf_7cf53 27 = .ok (.iload_n 1, 1) := by decide +kernel
set_option maxRecDepth 20000 in
theorem dJ0_indexOf_7cf53_28 : decode cJ0_indexOf_7cf53 28 = .ok (.iload_n 2, 1) := by decide +kernel
set_option maxRecDepth 20000 in
theorem dJ0_indexOf_7cf53_29 : decode cJ0_indexOf_7cf53 29 = .ok (.aload_n 0, 1) := by decide +kernel
set_option maxRecDepth 20000 in
theorem dJ0_indexOf_7cf53_30 : decode cJ0_indexOf_7cf53 30 = .ok (.invokevirtual 505, 3) := by decide +kernel
set_option maxRecDepth 20000 in
theorem dJ0_indexOf_7cf53_33 : decode cJ0_indexOf_7cf53 33 = .ok (.invokestatic 640, 3) := by decide +kernel
set_option maxRecDepth 20000 in
theorem dJ0_indexOf_7cf53_36 : decode cJ0_indexOf_7cf53 36 = .ok (.ireturn, 1) := by decide +kernel
set_option maxHeartbeats 4000000 in
set_option maxRecDepth 100000 in
theorem sx_c_ix2 (l : Launch) (G : GT) (ws : va_W) (i : Nat) (hi : i < 3) (ch r : Int32) (hr0 : f_ixS i ch = some r) : MW l G 4 120 0 0 yJ0_indexOf_7cf53 cJ0_indexOf_7cf53 3 (Option.some Jvm.ClassFile.FieldType.int) [.ref (gad G (1003 + i)), .int ch, .int 0] ws (some (.int r)) ws := by
  refine mw_of RJ0 (fun _ : Unit => (some (.int r), ws)) [(0, .ref (gad G (1003 + i))), (1, .int ch), (2, .int 0)] (by decide +kernel) rfl (Nat.le_of_ble_eq_true rfl) rfl (o := some ()) rfl rfl (fun p e s m args below meth c X hr hnm => ?_)
  obtain ⟨v, hv, hs⟩ : ∃ v : Int32, Int32.ofNat (sLen.getD i 0) = v ∧ v >>> ((0 : Int32) &&& 31) = v := by
    rcases (show i = 0 ∨ i = 1 ∨ i = 2 by omega) with rfl | rfl | rfl <;> exact ⟨_, rfl, by decide⟩
  refine sm_aload_n X 1 0 dJ0_indexOf_7cf53_0 rfl rfl rfl ?_
  refine sx_callV X 4 [] [] [.int 1] (sx_c_isLatin1 l G ws i hi) hi (⟨q_509, q_13, by decide +kernel⟩ : CalW yJ0_isLatin1_aae02 cJ0_isLatin1_aae02 1 (Option.some Jvm.ClassFile.FieldType.boolean) 0) q_507 q_508 q_506 rfl rfl rfl rfl (Nat.le_of_ble_eq_true rfl) ⟨(Nat.le_of_ble_eq_true rfl), (Nat.le_of_ble_eq_true rfl)⟩ ⟨(Nat.le_of_ble_eq_true rfl), (Nat.le_of_ble_eq_true rfl)⟩ dJ0_indexOf_7cf53_1 rfl ?_
  refine sx_ite (sm_if_eq X 7 23 dJ0_indexOf_7cf53_4 rfl (by decide) (fun q => absurd q (by decide)) (fun _ => ?_))
  refine sm_aload_n X 8 0 dJ0_indexOf_7cf53_7 rfl rfl rfl ?_
  refine sx_value X 11 hi dJ0_indexOf_7cf53_8 rfl q_1315 ?_
  refine sm_iload_n X 12 1 dJ0_indexOf_7cf53_11 rfl rfl rfl ?_
  refine sm_iload_n X 13 2 dJ0_indexOf_7cf53_12 rfl rfl rfl ?_
  refine sm_aload_n X 14 0 dJ0_indexOf_7cf53_13 rfl rfl rfl ?_
  refine sx_callV X 17 [] [.int 0, .int ch, .ref (gad G (1006 + i))] [.int v, .int 0, .int ch, .ref (gad G (1006 + i))] (sx_c_length l G ws i hi v hv hs) hi (⟨q_515, q_13, by decide +kernel⟩ : CalW yJ0_length_8abf5 cJ0_length_8abf5 1 (Option.some Jvm.ClassFile.FieldType.int) 0) q_513 q_514 q_512 rfl rfl rfl rfl (Nat.le_of_ble_eq_true rfl) ⟨(Nat.le_of_ble_eq_true rfl), (Nat.le_of_ble_eq_true rfl)⟩ ⟨(Nat.le_of_ble_eq_true rfl), (Nat.le_of_ble_eq_true rfl)⟩ dJ0_indexOf_7cf53_14 rfl ?_
  refine sx_callS X 20 [.ref (gad G (1006 + i)), .int ch, .int 0, .int v] [] [.int r] (sx_c_ixl l G ws i hi ch r v hv hr0) (⟨q_522, q_14, by decide +kernel⟩ : CalW yJ1_indexOf_4cfef cJ1_indexOf_4cfef 4 (Option.some Jvm.ClassFile.FieldType.int) 4) q_521 q_520 rfl rfl rfl (Nat.le_of_ble_eq_true rfl) ⟨(Nat.le_of_ble_eq_true rfl), (Nat.le_of_ble_eq_true rfl)⟩ ⟨(Nat.le_of_ble_eq_true rfl), (Nat.le_of_ble_eq_true rfl)⟩ dJ0_indexOf_7cf53_17 rfl ?_
  refine sm_goto X 36 dJ0_indexOf_7cf53_20 (by decide) ?_
  exact sx_ret .int X hr rfl dJ0_indexOf_7cf53_36 rfl
set_option maxRecDepth 20000 in
theorem dJ0_indexOf_0f7a4_0 : decode cJ0_indexOf_0f7a4 0 = .ok (.aload_n 0, 1) := by decide +kernel
set_option maxRecDepth 20000 in
theorem dJ0_indexOf_0f7a4_1 : decode cJ0_indexOf_0f7a4 1 = .ok (.iload_n 1, 1) := by decide +kernel
set_option maxRecDepth 20000 in
theorem dJ0_indexOf_0f7a4_2 : decode cJ0_indexOf_0f7a4 2 = .ok (.iconst 0, 1) := by decide +kernel
set_option maxRecDepth 20000 in
theorem dJ0_indexOf_0f7a4_3 : decode cJ0_indexOf_0f7a4 3 = .ok (.invokevirtual 633, 3) := by decide +kernel
set_option maxRecDepth 20000 in
theorem dJ0_indexOf_0f7a4_6 : decode cJ0_indexOf_0f7a4 6 = .ok (.ireturn, 1) := by decide +kernel
set_option maxHeartbeats 4000000 in
set_option maxRecDepth 100000 in
theorem c_ixS (l : Launch) (G : GT) (σ : Sto) (i : Nat) (ch : Int32) (r : Int32) (hi : i < 3) (h : f_ixS i ch = some r) : MW l G (8) (400) 0 0 yJ0_indexOf_0f7a4 cJ0_indexOf_0f7a4 2 (some .int) [.ref (gad G (1003 + i)), .int ch] (wl G σ) (some (.int r)) (wl G σ) := by
  refine mw_of RJ0 (fun _ : Unit => (some (.int r), wl G σ)) [(0, .ref (gad G (1003 + i))), (1, .int ch)] (by decide +kernel) rfl (Nat.le_of_ble_eq_true rfl) rfl (o := some ()) rfl rfl (fun p e s m args below meth c X hr hnm => ?_)
  refine sm_aload_n X 1 0 dJ0_indexOf_0f7a4_0 rfl rfl rfl ?_
  refine sm_iload_n X 2 1 dJ0_indexOf_0f7a4_1 rfl rfl rfl ?_
  refine sm_iconst X 3 (0) dJ0_indexOf_0f7a4_2 rfl rfl ?_
  refine sx_callV X 6 [.int ch, .int 0] [] [.int r] (sx_c_ix2 l G (wl G σ) i hi ch r h) hi (⟨q_505, q_13, by decide +kernel⟩ : CalW yJ0_indexOf_7cf53 cJ0_indexOf_7cf53 3 (Option.some Jvm.ClassFile.FieldType.int) 2) q_503 q_504 q_502 rfl rfl rfl rfl (Nat.le_of_ble_eq_true rfl) ⟨(Nat.le_of_ble_eq_true rfl), (Nat.le_of_ble_eq_true rfl)⟩ ⟨(Nat.le_of_ble_eq_true rfl), (Nat.le_of_ble_eq_true rfl)⟩ dJ0_indexOf_0f7a4_3 rfl ?_
  exact sx_ret .int X hr rfl dJ0_indexOf_0f7a4_6 rfl
