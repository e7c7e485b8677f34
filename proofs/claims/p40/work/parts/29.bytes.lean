/-! A long method's bytes, read by sixteens: what stands at a place is looked up, not counted through. -/
def RD (c : ByteArray) (i v : Nat) : Prop := ∃ h : i < c.size, (c[i]'h).toNat = v
theorem rd_u1 {c : ByteArray} {p v : Nat} (h : RD c p v) : (Jvm.ClassFile.Reader.u1 : Jvm.ClassFile.Decoder Nat) c p = .ok (v, p + 1) := by
  obtain ⟨h1, h2⟩ := h
  show (dite (p < c.size) (fun h => ((do set (p + 1); Pure.pure (c[p]'h).toNat) : Jvm.ClassFile.Decoder Nat)) (fun _ => throw (Jvm.ClassFile.HasTruncated.truncated p))) c p = _
  rw [dif_pos h1]
  show Except.ok ((c[p]'h1).toNat, p + 1) = _
  rw [h2]
theorem rd_bind {α β : Type} {r : Jvm.ClassFile.Decoder α} {K : α → Jvm.ClassFile.Decoder β} {c : ByteArray} {p q : Nat} {v : α} (h : r c p = .ok (v, q)) : (r >>= K) c p = K v c q := by
  show Except.bind (r c p) (fun x => K x.1 c x.2) = _
  rw [h]
  rfl
theorem rd_u2 {c : ByteArray} {p a b : Nat} (h : RD c p a) (h' : RD c (p + 1) b) : (Jvm.ClassFile.Reader.u2 : Jvm.ClassFile.Decoder Nat) c p = .ok (a * 256 + b, p + 2) :=
  (rd_bind (rd_u1 h)).trans ((rd_bind (rd_u1 h')).trans rfl)
theorem rd_s2 {c : ByteArray} {p a b : Nat} (h : RD c p a) (h' : RD c (p + 1) b) : (Jvm.ClassFile.Reader.s2 : Jvm.ClassFile.Decoder Int) c p = .ok (Jvm.ClassFile.Reader.signed 16 (a * 256 + b), p + 2) := by
  show Except.bind ((Jvm.ClassFile.Reader.u2 : Jvm.ClassFile.Decoder Nat) c p) (fun x => .ok (Jvm.ClassFile.Reader.signed 16 x.1, x.2)) = _
  rw [rd_u2 h h']
  rfl
theorem rd_dec {c : ByteArray} {pc q n : Nat} {I : Instr} (h : Jvm.ClassFile.Decoder.instr pc c pc = .ok (I, q)) (hq : q - pc = n) : decode c pc = .ok (I, n) := by
  show Except.bind (Jvm.ClassFile.Decoder.instr pc c pc) (fun x => .ok (x.1, x.2 - pc)) = _
  rw [h, ← hq]
  rfl
theorem rd_1 {c : ByteArray} {pc v : Nat} {I : Instr} {K : Nat → Jvm.ClassFile.Decoder Instr} (hK : Jvm.ClassFile.Decoder.instr pc = Jvm.ClassFile.Reader.u1 >>= K) (h : RD c pc v) (hv : K v = Pure.pure I) : decode c pc = .ok (I, 1) := by
  refine rd_dec (q := pc + 1) ?_ (by omega)
  rw [hK, rd_bind (rd_u1 h), hv]
  rfl
theorem rd_3 {α : Type} {c : ByteArray} {pc v : Nat} {x : α} {I : Instr} {r : Jvm.ClassFile.Decoder α} {J : α → Jvm.ClassFile.Decoder Instr} {K : Nat → Jvm.ClassFile.Decoder Instr} (hK : Jvm.ClassFile.Decoder.instr pc = Jvm.ClassFile.Reader.u1 >>= K) (h : RD c pc v) (hv : K v = r >>= J) (hr : r c (pc + 1) = .ok (x, pc + 3)) (hJ : J x = Pure.pure I) : decode c pc = .ok (I, 3) := by
  refine rd_dec (q := pc + 3) ?_ (by omega)
  rw [hK, rd_bind (rd_u1 h), hv, rd_bind hr, hJ]
  rfl
theorem rd_2 {α : Type} {c : ByteArray} {pc v : Nat} {x : α} {I : Instr} {r : Jvm.ClassFile.Decoder α} {J : α → Jvm.ClassFile.Decoder Instr} {K : Nat → Jvm.ClassFile.Decoder Instr} (hK : Jvm.ClassFile.Decoder.instr pc = Jvm.ClassFile.Reader.u1 >>= K) (h : RD c pc v) (hv : K v = r >>= J) (hr : r c (pc + 1) = .ok (x, pc + 2)) (hJ : J x = Pure.pure I) : decode c pc = .ok (I, 2) := by
  refine rd_dec (q := pc + 2) ?_ (by omega)
  rw [hK, rd_bind (rd_u1 h), hv, rd_bind hr, hJ]
  rfl
theorem rd_s1 {c : ByteArray} {p a : Nat} (h : RD c p a) : (Jvm.ClassFile.Reader.s1 : Jvm.ClassFile.Decoder Int) c p = .ok (Jvm.ClassFile.Reader.signed 8 a, p + 1) := by
  show Except.bind ((Jvm.ClassFile.Reader.u1 : Jvm.ClassFile.Decoder Nat) c p) (fun x => .ok (Jvm.ClassFile.Reader.signed 8 x.1, x.2)) = _
  rw [rd_u1 h]
  rfl
theorem rd_ii {α β : Type} {c : ByteArray} {pc v : Nat} {x : α} {y : β} {I : Instr} {r : Jvm.ClassFile.Decoder α} {r' : α → Jvm.ClassFile.Decoder β} {J : α → β → Jvm.ClassFile.Decoder Instr} {K : Nat → Jvm.ClassFile.Decoder Instr} (hK : Jvm.ClassFile.Decoder.instr pc = Jvm.ClassFile.Reader.u1 >>= K) (h : RD c pc v) (hv : K v = r >>= fun a => r' a >>= J a) (hr : r c (pc + 1) = .ok (x, pc + 2)) (hr' : r' x c (pc + 2) = .ok (y, pc + 3)) (hJ : J x y = Pure.pure I) : decode c pc = .ok (I, 3) := by
  refine rd_dec (q := pc + 3) ?_ (by omega)
  rw [hK, rd_bind (rd_u1 h), hv, rd_bind hr, rd_bind hr', hJ]
  rfl
theorem dk_1 {c : ByteArray} {pc : Nat} (h : RD c pc 1) : decode c pc = .ok (.aconst_null, 1) := rd_1 rfl h rfl
theorem dk_2 {c : ByteArray} {pc : Nat} (h : RD c pc 2) : decode c pc = .ok ((.iconst (-1)), 1) := rd_1 rfl h rfl
theorem dk_3 {c : ByteArray} {pc : Nat} (h : RD c pc 3) : decode c pc = .ok ((.iconst 0), 1) := rd_1 rfl h rfl
theorem dk_4 {c : ByteArray} {pc : Nat} (h : RD c pc 4) : decode c pc = .ok ((.iconst 1), 1) := rd_1 rfl h rfl
theorem dk_5 {c : ByteArray} {pc : Nat} (h : RD c pc 5) : decode c pc = .ok ((.iconst 2), 1) := rd_1 rfl h rfl
theorem dk_6 {c : ByteArray} {pc : Nat} (h : RD c pc 6) : decode c pc = .ok ((.iconst 3), 1) := rd_1 rfl h rfl
theorem dk_7 {c : ByteArray} {pc : Nat} (h : RD c pc 7) : decode c pc = .ok ((.iconst 4), 1) := rd_1 rfl h rfl
theorem dk_8 {c : ByteArray} {pc : Nat} (h : RD c pc 8) : decode c pc = .ok ((.iconst 5), 1) := rd_1 rfl h rfl
theorem dk_9 {c : ByteArray} {pc : Nat} (h : RD c pc 9) : decode c pc = .ok ((.lconst 0), 1) := rd_1 rfl h rfl
theorem dk_10 {c : ByteArray} {pc : Nat} (h : RD c pc 10) : decode c pc = .ok ((.lconst 1), 1) := rd_1 rfl h rfl
theorem dk_16 {c : ByteArray} {pc a : Nat} {n : Int} (h : RD c pc 16) (ha : RD c (pc + 1) a) (hn : Jvm.ClassFile.Reader.signed 8 a = n) : decode c pc = .ok (.bipush n, 2) := rd_2 (x := n) (r := Jvm.ClassFile.Reader.s1) (J := fun a => Pure.pure (.bipush a)) rfl h rfl (by rw [← hn]; exact rd_s1 ha) rfl
theorem dk_17 {c : ByteArray} {pc a b : Nat} {n : Int} (h : RD c pc 17) (ha : RD c (pc + 1) a) (hb : RD c (pc + 2) b) (hn : Jvm.ClassFile.Reader.signed 16 (a * 256 + b) = n) : decode c pc = .ok (.sipush n, 3) := rd_3 (x := n) (r := Jvm.ClassFile.Reader.s2) (J := fun a => Pure.pure (.sipush a)) rfl h rfl (by rw [← hn]; exact rd_s2 ha hb) rfl
theorem dk_18 {c : ByteArray} {pc a : Nat} (h : RD c pc 18) (ha : RD c (pc + 1) a) : decode c pc = .ok (.ldc a, 2) := rd_2 (x := a) (r := Jvm.ClassFile.Reader.u1) (J := fun a => Pure.pure (.ldc a)) rfl h rfl (rd_u1 ha) rfl
theorem dk_19 {c : ByteArray} {pc a b n : Nat} (h : RD c pc 19) (ha : RD c (pc + 1) a) (hb : RD c (pc + 2) b) (hn : a * 256 + b = n) : decode c pc = .ok (.ldc_w n, 3) := rd_3 (x := n) (r := Jvm.ClassFile.Reader.u2) (J := fun a => Pure.pure (.ldc_w a)) rfl h rfl (by rw [← hn]; exact rd_u2 ha hb) rfl
theorem dk_20 {c : ByteArray} {pc a b n : Nat} (h : RD c pc 20) (ha : RD c (pc + 1) a) (hb : RD c (pc + 2) b) (hn : a * 256 + b = n) : decode c pc = .ok (.ldc2_w n, 3) := rd_3 (x := n) (r := Jvm.ClassFile.Reader.u2) (J := fun a => Pure.pure (.ldc2_w a)) rfl h rfl (by rw [← hn]; exact rd_u2 ha hb) rfl
theorem dk_21 {c : ByteArray} {pc a : Nat} (h : RD c pc 21) (ha : RD c (pc + 1) a) : decode c pc = .ok (.iload a, 2) := rd_2 (x := a) (r := Jvm.ClassFile.Reader.u1) (J := fun a => Pure.pure (.iload a)) rfl h rfl (rd_u1 ha) rfl
theorem dk_22 {c : ByteArray} {pc a : Nat} (h : RD c pc 22) (ha : RD c (pc + 1) a) : decode c pc = .ok (.lload a, 2) := rd_2 (x := a) (r := Jvm.ClassFile.Reader.u1) (J := fun a => Pure.pure (.lload a)) rfl h rfl (rd_u1 ha) rfl
theorem dk_25 {c : ByteArray} {pc a : Nat} (h : RD c pc 25) (ha : RD c (pc + 1) a) : decode c pc = .ok (.aload a, 2) := rd_2 (x := a) (r := Jvm.ClassFile.Reader.u1) (J := fun a => Pure.pure (.aload a)) rfl h rfl (rd_u1 ha) rfl
theorem dk_26 {c : ByteArray} {pc : Nat} (h : RD c pc 26) : decode c pc = .ok ((.iload_n 0), 1) := rd_1 rfl h rfl
theorem dk_27 {c : ByteArray} {pc : Nat} (h : RD c pc 27) : decode c pc = .ok ((.iload_n 1), 1) := rd_1 rfl h rfl
theorem dk_28 {c : ByteArray} {pc : Nat} (h : RD c pc 28) : decode c pc = .ok ((.iload_n 2), 1) := rd_1 rfl h rfl
theorem dk_29 {c : ByteArray} {pc : Nat} (h : RD c pc 29) : decode c pc = .ok ((.iload_n 3), 1) := rd_1 rfl h rfl
theorem dk_30 {c : ByteArray} {pc : Nat} (h : RD c pc 30) : decode c pc = .ok ((.lload_n 0), 1) := rd_1 rfl h rfl
theorem dk_31 {c : ByteArray} {pc : Nat} (h : RD c pc 31) : decode c pc = .ok ((.lload_n 1), 1) := rd_1 rfl h rfl
theorem dk_32 {c : ByteArray} {pc : Nat} (h : RD c pc 32) : decode c pc = .ok ((.lload_n 2), 1) := rd_1 rfl h rfl
theorem dk_42 {c : ByteArray} {pc : Nat} (h : RD c pc 42) : decode c pc = .ok ((.aload_n 0), 1) := rd_1 rfl h rfl
theorem dk_43 {c : ByteArray} {pc : Nat} (h : RD c pc 43) : decode c pc = .ok ((.aload_n 1), 1) := rd_1 rfl h rfl
theorem dk_44 {c : ByteArray} {pc : Nat} (h : RD c pc 44) : decode c pc = .ok ((.aload_n 2), 1) := rd_1 rfl h rfl
theorem dk_45 {c : ByteArray} {pc : Nat} (h : RD c pc 45) : decode c pc = .ok ((.aload_n 3), 1) := rd_1 rfl h rfl
theorem dk_46 {c : ByteArray} {pc : Nat} (h : RD c pc 46) : decode c pc = .ok (.iaload, 1) := rd_1 rfl h rfl
theorem dk_50 {c : ByteArray} {pc : Nat} (h : RD c pc 50) : decode c pc = .ok (.aaload, 1) := rd_1 rfl h rfl
theorem dk_51 {c : ByteArray} {pc : Nat} (h : RD c pc 51) : decode c pc = .ok (.baload, 1) := rd_1 rfl h rfl
theorem dk_54 {c : ByteArray} {pc a : Nat} (h : RD c pc 54) (ha : RD c (pc + 1) a) : decode c pc = .ok (.istore a, 2) := rd_2 (x := a) (r := Jvm.ClassFile.Reader.u1) (J := fun a => Pure.pure (.istore a)) rfl h rfl (rd_u1 ha) rfl
theorem dk_58 {c : ByteArray} {pc a : Nat} (h : RD c pc 58) (ha : RD c (pc + 1) a) : decode c pc = .ok (.astore a, 2) := rd_2 (x := a) (r := Jvm.ClassFile.Reader.u1) (J := fun a => Pure.pure (.astore a)) rfl h rfl (rd_u1 ha) rfl
theorem dk_60 {c : ByteArray} {pc : Nat} (h : RD c pc 60) : decode c pc = .ok ((.istore_n 1), 1) := rd_1 rfl h rfl
theorem dk_61 {c : ByteArray} {pc : Nat} (h : RD c pc 61) : decode c pc = .ok ((.istore_n 2), 1) := rd_1 rfl h rfl
theorem dk_62 {c : ByteArray} {pc : Nat} (h : RD c pc 62) : decode c pc = .ok ((.istore_n 3), 1) := rd_1 rfl h rfl
theorem dk_76 {c : ByteArray} {pc : Nat} (h : RD c pc 76) : decode c pc = .ok ((.astore_n 1), 1) := rd_1 rfl h rfl
theorem dk_77 {c : ByteArray} {pc : Nat} (h : RD c pc 77) : decode c pc = .ok ((.astore_n 2), 1) := rd_1 rfl h rfl
theorem dk_78 {c : ByteArray} {pc : Nat} (h : RD c pc 78) : decode c pc = .ok ((.astore_n 3), 1) := rd_1 rfl h rfl
theorem dk_79 {c : ByteArray} {pc : Nat} (h : RD c pc 79) : decode c pc = .ok (.iastore, 1) := rd_1 rfl h rfl
theorem dk_83 {c : ByteArray} {pc : Nat} (h : RD c pc 83) : decode c pc = .ok (.aastore, 1) := rd_1 rfl h rfl
theorem dk_87 {c : ByteArray} {pc : Nat} (h : RD c pc 87) : decode c pc = .ok (.pop, 1) := rd_1 rfl h rfl
theorem dk_89 {c : ByteArray} {pc : Nat} (h : RD c pc 89) : decode c pc = .ok (.dup, 1) := rd_1 rfl h rfl
theorem dk_92 {c : ByteArray} {pc : Nat} (h : RD c pc 92) : decode c pc = .ok (.dup2, 1) := rd_1 rfl h rfl
theorem dk_96 {c : ByteArray} {pc : Nat} (h : RD c pc 96) : decode c pc = .ok (.iadd, 1) := rd_1 rfl h rfl
theorem dk_100 {c : ByteArray} {pc : Nat} (h : RD c pc 100) : decode c pc = .ok (.isub, 1) := rd_1 rfl h rfl
theorem dk_104 {c : ByteArray} {pc : Nat} (h : RD c pc 104) : decode c pc = .ok (.imul, 1) := rd_1 rfl h rfl
theorem dk_108 {c : ByteArray} {pc : Nat} (h : RD c pc 108) : decode c pc = .ok (.idiv, 1) := rd_1 rfl h rfl
theorem dk_112 {c : ByteArray} {pc : Nat} (h : RD c pc 112) : decode c pc = .ok (.irem, 1) := rd_1 rfl h rfl
theorem dk_116 {c : ByteArray} {pc : Nat} (h : RD c pc 116) : decode c pc = .ok (.ineg, 1) := rd_1 rfl h rfl
theorem dk_120 {c : ByteArray} {pc : Nat} (h : RD c pc 120) : decode c pc = .ok (.ishl, 1) := rd_1 rfl h rfl
theorem dk_121 {c : ByteArray} {pc : Nat} (h : RD c pc 121) : decode c pc = .ok (.lshl, 1) := rd_1 rfl h rfl
theorem dk_122 {c : ByteArray} {pc : Nat} (h : RD c pc 122) : decode c pc = .ok (.ishr, 1) := rd_1 rfl h rfl
theorem dk_123 {c : ByteArray} {pc : Nat} (h : RD c pc 123) : decode c pc = .ok (.lshr, 1) := rd_1 rfl h rfl
theorem dk_124 {c : ByteArray} {pc : Nat} (h : RD c pc 124) : decode c pc = .ok (.iushr, 1) := rd_1 rfl h rfl
theorem dk_125 {c : ByteArray} {pc : Nat} (h : RD c pc 125) : decode c pc = .ok (.lushr, 1) := rd_1 rfl h rfl
theorem dk_126 {c : ByteArray} {pc : Nat} (h : RD c pc 126) : decode c pc = .ok (.iand, 1) := rd_1 rfl h rfl
theorem dk_127 {c : ByteArray} {pc : Nat} (h : RD c pc 127) : decode c pc = .ok (.land, 1) := rd_1 rfl h rfl
theorem dk_128 {c : ByteArray} {pc : Nat} (h : RD c pc 128) : decode c pc = .ok (.ior, 1) := rd_1 rfl h rfl
theorem dk_129 {c : ByteArray} {pc : Nat} (h : RD c pc 129) : decode c pc = .ok (.lor, 1) := rd_1 rfl h rfl
theorem dk_130 {c : ByteArray} {pc : Nat} (h : RD c pc 130) : decode c pc = .ok (.ixor, 1) := rd_1 rfl h rfl
theorem dk_132 {c : ByteArray} {pc a b : Nat} {n : Int} (h : RD c pc 132) (ha : RD c (pc + 1) a) (hb : RD c (pc + 2) b) (hn : Jvm.ClassFile.Reader.signed 8 b = n) : decode c pc = .ok (.iinc a n, 3) := rd_ii (x := a) (y := n) (r := Jvm.ClassFile.Reader.u1) (r' := fun _ => Jvm.ClassFile.Reader.s1) (J := fun a b => Pure.pure (.iinc a b)) rfl h rfl (rd_u1 ha) (by rw [← hn]; exact rd_s1 hb) rfl
theorem dk_133 {c : ByteArray} {pc : Nat} (h : RD c pc 133) : decode c pc = .ok (.i2l, 1) := rd_1 rfl h rfl
theorem dk_136 {c : ByteArray} {pc : Nat} (h : RD c pc 136) : decode c pc = .ok (.l2i, 1) := rd_1 rfl h rfl
theorem dk_145 {c : ByteArray} {pc : Nat} (h : RD c pc 145) : decode c pc = .ok (.i2b, 1) := rd_1 rfl h rfl
theorem dk_146 {c : ByteArray} {pc : Nat} (h : RD c pc 146) : decode c pc = .ok (.i2c, 1) := rd_1 rfl h rfl
theorem dk_147 {c : ByteArray} {pc : Nat} (h : RD c pc 147) : decode c pc = .ok (.i2s, 1) := rd_1 rfl h rfl
theorem dk_148 {c : ByteArray} {pc : Nat} (h : RD c pc 148) : decode c pc = .ok (.lcmp, 1) := rd_1 rfl h rfl
theorem dk_153 {c : ByteArray} {pc a b : Nat} {n : Int} (h : RD c pc 153) (ha : RD c (pc + 1) a) (hb : RD c (pc + 2) b) (hn : Jvm.ClassFile.Reader.signed 16 (a * 256 + b) = n) : decode c pc = .ok (.ifCond .eq n, 3) := rd_3 (x := n) (r := Jvm.ClassFile.Reader.s2) (J := fun a => Pure.pure (.ifCond .eq a)) rfl h rfl (by rw [← hn]; exact rd_s2 ha hb) rfl
theorem dk_154 {c : ByteArray} {pc a b : Nat} {n : Int} (h : RD c pc 154) (ha : RD c (pc + 1) a) (hb : RD c (pc + 2) b) (hn : Jvm.ClassFile.Reader.signed 16 (a * 256 + b) = n) : decode c pc = .ok (.ifCond .ne n, 3) := rd_3 (x := n) (r := Jvm.ClassFile.Reader.s2) (J := fun a => Pure.pure (.ifCond .ne a)) rfl h rfl (by rw [← hn]; exact rd_s2 ha hb) rfl
theorem dk_155 {c : ByteArray} {pc a b : Nat} {n : Int} (h : RD c pc 155) (ha : RD c (pc + 1) a) (hb : RD c (pc + 2) b) (hn : Jvm.ClassFile.Reader.signed 16 (a * 256 + b) = n) : decode c pc = .ok (.ifCond .lt n, 3) := rd_3 (x := n) (r := Jvm.ClassFile.Reader.s2) (J := fun a => Pure.pure (.ifCond .lt a)) rfl h rfl (by rw [← hn]; exact rd_s2 ha hb) rfl
theorem dk_156 {c : ByteArray} {pc a b : Nat} {n : Int} (h : RD c pc 156) (ha : RD c (pc + 1) a) (hb : RD c (pc + 2) b) (hn : Jvm.ClassFile.Reader.signed 16 (a * 256 + b) = n) : decode c pc = .ok (.ifCond .ge n, 3) := rd_3 (x := n) (r := Jvm.ClassFile.Reader.s2) (J := fun a => Pure.pure (.ifCond .ge a)) rfl h rfl (by rw [← hn]; exact rd_s2 ha hb) rfl
theorem dk_157 {c : ByteArray} {pc a b : Nat} {n : Int} (h : RD c pc 157) (ha : RD c (pc + 1) a) (hb : RD c (pc + 2) b) (hn : Jvm.ClassFile.Reader.signed 16 (a * 256 + b) = n) : decode c pc = .ok (.ifCond .gt n, 3) := rd_3 (x := n) (r := Jvm.ClassFile.Reader.s2) (J := fun a => Pure.pure (.ifCond .gt a)) rfl h rfl (by rw [← hn]; exact rd_s2 ha hb) rfl
theorem dk_158 {c : ByteArray} {pc a b : Nat} {n : Int} (h : RD c pc 158) (ha : RD c (pc + 1) a) (hb : RD c (pc + 2) b) (hn : Jvm.ClassFile.Reader.signed 16 (a * 256 + b) = n) : decode c pc = .ok (.ifCond .le n, 3) := rd_3 (x := n) (r := Jvm.ClassFile.Reader.s2) (J := fun a => Pure.pure (.ifCond .le a)) rfl h rfl (by rw [← hn]; exact rd_s2 ha hb) rfl
theorem dk_159 {c : ByteArray} {pc a b : Nat} {n : Int} (h : RD c pc 159) (ha : RD c (pc + 1) a) (hb : RD c (pc + 2) b) (hn : Jvm.ClassFile.Reader.signed 16 (a * 256 + b) = n) : decode c pc = .ok (.if_icmp .eq n, 3) := rd_3 (x := n) (r := Jvm.ClassFile.Reader.s2) (J := fun a => Pure.pure (.if_icmp .eq a)) rfl h rfl (by rw [← hn]; exact rd_s2 ha hb) rfl
theorem dk_160 {c : ByteArray} {pc a b : Nat} {n : Int} (h : RD c pc 160) (ha : RD c (pc + 1) a) (hb : RD c (pc + 2) b) (hn : Jvm.ClassFile.Reader.signed 16 (a * 256 + b) = n) : decode c pc = .ok (.if_icmp .ne n, 3) := rd_3 (x := n) (r := Jvm.ClassFile.Reader.s2) (J := fun a => Pure.pure (.if_icmp .ne a)) rfl h rfl (by rw [← hn]; exact rd_s2 ha hb) rfl
theorem dk_161 {c : ByteArray} {pc a b : Nat} {n : Int} (h : RD c pc 161) (ha : RD c (pc + 1) a) (hb : RD c (pc + 2) b) (hn : Jvm.ClassFile.Reader.signed 16 (a * 256 + b) = n) : decode c pc = .ok (.if_icmp .lt n, 3) := rd_3 (x := n) (r := Jvm.ClassFile.Reader.s2) (J := fun a => Pure.pure (.if_icmp .lt a)) rfl h rfl (by rw [← hn]; exact rd_s2 ha hb) rfl
theorem dk_162 {c : ByteArray} {pc a b : Nat} {n : Int} (h : RD c pc 162) (ha : RD c (pc + 1) a) (hb : RD c (pc + 2) b) (hn : Jvm.ClassFile.Reader.signed 16 (a * 256 + b) = n) : decode c pc = .ok (.if_icmp .ge n, 3) := rd_3 (x := n) (r := Jvm.ClassFile.Reader.s2) (J := fun a => Pure.pure (.if_icmp .ge a)) rfl h rfl (by rw [← hn]; exact rd_s2 ha hb) rfl
theorem dk_163 {c : ByteArray} {pc a b : Nat} {n : Int} (h : RD c pc 163) (ha : RD c (pc + 1) a) (hb : RD c (pc + 2) b) (hn : Jvm.ClassFile.Reader.signed 16 (a * 256 + b) = n) : decode c pc = .ok (.if_icmp .gt n, 3) := rd_3 (x := n) (r := Jvm.ClassFile.Reader.s2) (J := fun a => Pure.pure (.if_icmp .gt a)) rfl h rfl (by rw [← hn]; exact rd_s2 ha hb) rfl
theorem dk_164 {c : ByteArray} {pc a b : Nat} {n : Int} (h : RD c pc 164) (ha : RD c (pc + 1) a) (hb : RD c (pc + 2) b) (hn : Jvm.ClassFile.Reader.signed 16 (a * 256 + b) = n) : decode c pc = .ok (.if_icmp .le n, 3) := rd_3 (x := n) (r := Jvm.ClassFile.Reader.s2) (J := fun a => Pure.pure (.if_icmp .le a)) rfl h rfl (by rw [← hn]; exact rd_s2 ha hb) rfl
theorem dk_167 {c : ByteArray} {pc a b : Nat} {n : Int} (h : RD c pc 167) (ha : RD c (pc + 1) a) (hb : RD c (pc + 2) b) (hn : Jvm.ClassFile.Reader.signed 16 (a * 256 + b) = n) : decode c pc = .ok (.goto n, 3) := rd_3 (x := n) (r := Jvm.ClassFile.Reader.s2) (J := fun a => Pure.pure (.goto a)) rfl h rfl (by rw [← hn]; exact rd_s2 ha hb) rfl
theorem dk_172 {c : ByteArray} {pc : Nat} (h : RD c pc 172) : decode c pc = .ok (.ireturn, 1) := rd_1 rfl h rfl
theorem dk_176 {c : ByteArray} {pc : Nat} (h : RD c pc 176) : decode c pc = .ok (.areturn, 1) := rd_1 rfl h rfl
theorem dk_177 {c : ByteArray} {pc : Nat} (h : RD c pc 177) : decode c pc = .ok (.return_, 1) := rd_1 rfl h rfl
theorem dk_178 {c : ByteArray} {pc a b n : Nat} (h : RD c pc 178) (ha : RD c (pc + 1) a) (hb : RD c (pc + 2) b) (hn : a * 256 + b = n) : decode c pc = .ok (.getstatic n, 3) := rd_3 (x := n) (r := Jvm.ClassFile.Reader.u2) (J := fun a => Pure.pure (.getstatic a)) rfl h rfl (by rw [← hn]; exact rd_u2 ha hb) rfl
theorem dk_180 {c : ByteArray} {pc a b n : Nat} (h : RD c pc 180) (ha : RD c (pc + 1) a) (hb : RD c (pc + 2) b) (hn : a * 256 + b = n) : decode c pc = .ok (.getfield n, 3) := rd_3 (x := n) (r := Jvm.ClassFile.Reader.u2) (J := fun a => Pure.pure (.getfield a)) rfl h rfl (by rw [← hn]; exact rd_u2 ha hb) rfl
theorem dk_181 {c : ByteArray} {pc a b n : Nat} (h : RD c pc 181) (ha : RD c (pc + 1) a) (hb : RD c (pc + 2) b) (hn : a * 256 + b = n) : decode c pc = .ok (.putfield n, 3) := rd_3 (x := n) (r := Jvm.ClassFile.Reader.u2) (J := fun a => Pure.pure (.putfield a)) rfl h rfl (by rw [← hn]; exact rd_u2 ha hb) rfl
theorem dk_182 {c : ByteArray} {pc a b n : Nat} (h : RD c pc 182) (ha : RD c (pc + 1) a) (hb : RD c (pc + 2) b) (hn : a * 256 + b = n) : decode c pc = .ok (.invokevirtual n, 3) := rd_3 (x := n) (r := Jvm.ClassFile.Reader.u2) (J := fun a => Pure.pure (.invokevirtual a)) rfl h rfl (by rw [← hn]; exact rd_u2 ha hb) rfl
theorem dk_183 {c : ByteArray} {pc a b n : Nat} (h : RD c pc 183) (ha : RD c (pc + 1) a) (hb : RD c (pc + 2) b) (hn : a * 256 + b = n) : decode c pc = .ok (.invokespecial n, 3) := rd_3 (x := n) (r := Jvm.ClassFile.Reader.u2) (J := fun a => Pure.pure (.invokespecial a)) rfl h rfl (by rw [← hn]; exact rd_u2 ha hb) rfl
theorem dk_184 {c : ByteArray} {pc a b n : Nat} (h : RD c pc 184) (ha : RD c (pc + 1) a) (hb : RD c (pc + 2) b) (hn : a * 256 + b = n) : decode c pc = .ok (.invokestatic n, 3) := rd_3 (x := n) (r := Jvm.ClassFile.Reader.u2) (J := fun a => Pure.pure (.invokestatic a)) rfl h rfl (by rw [← hn]; exact rd_u2 ha hb) rfl
theorem dk_187 {c : ByteArray} {pc a b n : Nat} (h : RD c pc 187) (ha : RD c (pc + 1) a) (hb : RD c (pc + 2) b) (hn : a * 256 + b = n) : decode c pc = .ok (.new n, 3) := rd_3 (x := n) (r := Jvm.ClassFile.Reader.u2) (J := fun a => Pure.pure (.new a)) rfl h rfl (by rw [← hn]; exact rd_u2 ha hb) rfl
theorem dk_189 {c : ByteArray} {pc a b n : Nat} (h : RD c pc 189) (ha : RD c (pc + 1) a) (hb : RD c (pc + 2) b) (hn : a * 256 + b = n) : decode c pc = .ok (.anewarray n, 3) := rd_3 (x := n) (r := Jvm.ClassFile.Reader.u2) (J := fun a => Pure.pure (.anewarray a)) rfl h rfl (by rw [← hn]; exact rd_u2 ha hb) rfl
theorem dk_190 {c : ByteArray} {pc : Nat} (h : RD c pc 190) : decode c pc = .ok (.arraylength, 1) := rd_1 rfl h rfl
theorem dk_191 {c : ByteArray} {pc : Nat} (h : RD c pc 191) : decode c pc = .ok (.athrow, 1) := rd_1 rfl h rfl
theorem dk_198 {c : ByteArray} {pc a b : Nat} {n : Int} (h : RD c pc 198) (ha : RD c (pc + 1) a) (hb : RD c (pc + 2) b) (hn : Jvm.ClassFile.Reader.signed 16 (a * 256 + b) = n) : decode c pc = .ok (.ifnull n, 3) := rd_3 (x := n) (r := Jvm.ClassFile.Reader.s2) (J := fun a => Pure.pure (.ifnull a)) rfl h rfl (by rw [← hn]; exact rd_s2 ha hb) rfl
theorem dk_199 {c : ByteArray} {pc a b : Nat} {n : Int} (h : RD c pc 199) (ha : RD c (pc + 1) a) (hb : RD c (pc + 2) b) (hn : Jvm.ClassFile.Reader.signed 16 (a * 256 + b) = n) : decode c pc = .ok (.ifnonnull n, 3) := rd_3 (x := n) (r := Jvm.ClassFile.Reader.s2) (J := fun a => Pure.pure (.ifnonnull a)) rfl h rfl (by rw [← hn]; exact rd_s2 ha hb) rfl
theorem fl16 : ∀ (bs : List (List Nat)), (∀ r ∈ bs, r.length = 16) → ∀ (k : Nat) (r : List Nat), bs[k]? = some r → ∀ j, j < 16 → bs.flatten[16 * k + j]? = r[j]? := by
  intro bs
  induction bs with
  | nil => intro _ k r h; cases h
  | cons b bs ih =>
    intro hb k r h j hj
    have b16 : b.length = 16 := hb b (List.mem_cons_self ..)
    rw [List.flatten_cons]
    cases k with
    | zero =>
      cases h
      rw [List.getElem?_append_left (by omega), show 16 * 0 + j = j by omega]
    | succ k =>
      rw [List.getElem?_append_right (by omega), show 16 * (k + 1) + j - b.length = 16 * k + j by omega]
      exact ih (fun r hr => hb r (List.mem_cons_of_mem _ hr)) k r h j hj
theorem fl16_len : ∀ (bs : List (List Nat)), (∀ r ∈ bs, r.length = 16) → bs.flatten.length = 16 * bs.length := by
  intro bs
  induction bs with
  | nil => intro _; rfl
  | cons b bs ih =>
    intro hb
    rw [List.flatten_cons, List.length_append, hb b (List.mem_cons_self ..), ih (fun r hr => hb r (List.mem_cons_of_mem _ hr)), List.length_cons]
    omega
theorem rd_l {c : ByteArray} {l : List Nat} (h : c.data.toList.map UInt8.toNat = l) {i v : Nat} (hi : l[i]? = some v) : RD c i v := by
  rw [← h, List.getElem?_map] at hi
  cases hc : c.data.toList[i]? with
  | none => rw [hc] at hi; cases hi
  | some x =>
    rw [hc] at hi
    have ex : x.toNat = v := by injection hi
    obtain ⟨hlt, hx⟩ := List.getElem?_eq_some_iff.mp hc
    refine ⟨hlt, ?_⟩
    rw [← ex, ← hx]
    rfl
theorem rd_16 {c : ByteArray} {bs : List (List Nat)} {z : List Nat} (h : c.data.toList.map UInt8.toNat = bs.flatten ++ z) (h16 : bs.all (fun r => r.length == 16) = true) (k : Nat) {r : List Nat} (hk : bs[k]? = some r) {j v : Nat} (hj : r[j]? = some v) : RD c (16 * k + j) v := by
  have hl : ∀ r ∈ bs, r.length = 16 := fun r hr => by have := List.all_eq_true.mp h16 r hr; exact eq_of_beq this
  have hr16 : r.length = 16 := hl r (List.mem_of_getElem? hk)
  have hj16 : j < 16 := by
    rw [← hr16]
    exact (List.getElem?_eq_some_iff.mp hj).1
  have e := fl16 bs hl k r hk j hj16
  rw [hj] at e
  refine rd_l h ?_
  rw [List.getElem?_append_left (List.getElem?_eq_some_iff.mp e).1]
  exact e
theorem rd_z {c : ByteArray} {bs : List (List Nat)} {z : List Nat} (h : c.data.toList.map UInt8.toNat = bs.flatten ++ z) (h16 : bs.all (fun r => r.length == 16) = true) (n : Nat) (hn : bs.length = n) {j v : Nat} (hj : z[j]? = some v) : RD c (16 * n + j) v := by
  have hl : ∀ r ∈ bs, r.length = 16 := fun r hr => by have := List.all_eq_true.mp h16 r hr; exact eq_of_beq this
  have e := fl16_len bs hl
  rw [hn] at e
  refine rd_l h ?_
  rw [List.getElem?_append_right (by omega), e, show 16 * n + j - 16 * n = j by omega]
  exact hj
