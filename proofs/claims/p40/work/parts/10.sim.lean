/-! The abstract store, the world that it stands for, and the judgement Sm: one row an instruction. -/
def K0L : List Nat := [8, 0, 20, 21, 1, 20, 20, 1, 20, 20, 20, 20, 6, 20, 6, 20, 6, 20, 6, 20, 6, 20, 6, 20, 6, 20, 6, 20, 0, 20, 21, 1, 20, 20, 1, 20, 20, 20, 20, 6, 20, 6, 20, 6, 20, 6, 20, 6, 20, 6, 20, 6, 20, 6, 20, 3, 20, 20, 5, 20, 2, 20, 6, 20, 20, 7, 20, 22, 20, 6, 20, 6, 20, 4, 20, 4, 20, 4, 20, 4, 20, 9, 20, 20, 20, 20, 20, 20, 20, 20, 20, 20, 20, 20]
def K0 (k : Nat) : Nat := K0L.getD k 99
def Ln0L : List Nat := [0, 0, 6, 8, 0, 50, 50, 0, 50, 50, 50, 20, 0, 4, 0, 4, 0, 4, 0, 4, 0, 4, 0, 4, 0, 4, 0, 4, 0, 6, 8, 0, 50, 50, 0, 50, 50, 50, 20, 0, 4, 0, 4, 0, 4, 0, 4, 0, 4, 0, 4, 0, 4, 0, 4, 0, 50, 50, 0, 6, 0, 4, 0, 4, 60, 0, 40, 4, 6, 0, 4, 0, 4, 0, 40, 0, 40, 0, 40, 0, 40, 0, 270, 270, 270, 6, 3, 60, 60, 40, 4, 4, 160, 40]
def Ln0 (k : Nat) : Nat := Ln0L.getD k 0
def R0L : List (List (Option Nat)) := [[some 1, some 28, some 55, some 58, some 60, some 65, some 67, some 68, some 69, some 71, none], [some 2, none, none, none, none, none, none, some 3, none, some 4, some 7, some 10, none, some 11, none, none], [], [some 12, some 14, some 16, some 18, some 20, some 22, some 24, some 26], [none, some 5, some 6, none], [], [], [none, some 8, some 9, none], [], [], [], [], [none, none, none, none, none, some 13], [], [none, none, none, none, none, some 15], [], [none, none, none, none, none, some 17], [], [none, none, none, none, none, some 19], [], [none, none, none, none, none, some 21], [], [none, none, none, none, none, some 23], [], [none, none, none, none, none, some 25], [], [none, none, none, none, none, some 27], [], [some 29, none, none, none, none, none, none, some 30, none, some 31, some 34, some 37, none, some 38, none, none], [], [some 39, some 41, some 43, some 45, some 47, some 49, some 51, some 53], [none, some 32, some 33, none], [], [], [none, some 35, some 36, none], [], [], [], [], [none, none, none, none, none, some 40], [], [none, none, none, none, none, some 42], [], [none, none, none, none, none, some 44], [], [none, none, none, none, none, some 46], [], [none, none, none, none, none, some 48], [], [none, none, none, none, none, some 50], [], [none, none, none, none, none, some 52], [], [none, none, none, none, none, some 54], [], [some 56, none, some 57, none, none, none], [], [], [some 59, none, none, none, none, none], [], [none, none, some 61, some 62, some 64, none, none, none], [], [none, none, none, none, none, some 63], [], [], [some 66, none, none, none, none], [], [some 73, some 75, some 77, some 79], [], [none, none, none, none, none, some 70], [], [none, none, none, none, none, some 72], [], [some 74, none, none], [], [some 76, none, none], [], [some 78, none, none], [], [some 80, none, none], [], [some 82, some 83, some 84, none, some 85, none, none, none, none, none, none, some 86, some 87, none, some 88, none, none, some 89, none, none, some 90, some 91, some 92, some 93], [], [], [], [], [], [], [], [], [], [], [], []]
def R0 (k j : Nat) : Option Nat := (R0L.getD k []).getD j none
def A0 (k j : Nat) : Nat := (R0 k j).getD 0
def FTL : List (List Nat) := [[1, 0, 0, 0, 0, 0, 0, 1, 0, 1, 1, 1, 0, 1, 0, 0], [0, 1, 1, 0], [0, 0, 1, 1, 1, 2, 2, 0], [1, 0, 1, 0, 0, 2], [1, 0, 0], [1, 0, 0, 0, 0, 0], [0, 0, 0, 0, 0, 1], [1, 0, 0, 0, 0], [1, 1, 1, 1, 1, 1, 1, 1, 1, 1, 0], [1, 1, 1, 0, 1, 0, 0, 0, 0, 0, 0, 1, 1, 0, 1, 0, 0, 1, 0, 0, 1, 1, 1, 1]]
def FT (c : Nat) : List Nat := FTL.getD c []
abbrev NC : Nat := 94
def abvL : List Int32 := [-1, 0, 0, 0, 1, 2, 3]
def abv (j : Nat) : Int32 := abvL.getD j 0
def bodL : List Int32 := [10, 11, 12, 13, 0, 20, 0, 0, 30, 0, 0, 0, 0, 0, 40, 0, 0, 50, 0, 0, 0, 0, 0, 60, 0, 0, 70, 71]
def bod (j : Nat) : Int32 := bodL.getD j 0
def sLen : List Nat := [0, 3, 3]
def sByt : List (List Int32) := [[], [99, 119, 108], [98, 121, 119]]
abbrev Sto : Type := (Nat → Nat → Int32) × (Nat → Nat → Option Nat)
def sI (σ : Sto) (k j : Nat) (v : Int32) : Sto := (fun a b => if a = k ∧ b = j then v else σ.1 a b, σ.2)
def sR (σ : Sto) (k j : Nat) (v : Option Nat) : Sto := (σ.1, fun a b => if a = k ∧ b = j then v else σ.2 a b)
def sW (σ : Sto) (k : Nat) (f : Nat → Int32) : Sto := (fun a b => if a = k then f b else σ.1 a b, σ.2)
/-- class tables, class ids of the arrays, addresses, the first address -/
abbrev GT : Type := va_G × (Nat → ClassId) × (Nat → Nat) × Nat
abbrev gD (G : GT) : va_G := G.1
abbrev gy (G : GT) : Nat → ClassId := G.2.1
abbrev gad (G : GT) : Nat → Nat := G.2.2.1
abbrev gb (G : GT) : Nat := G.2.2.2
def smA (G : GT) : Nat → Prop := fun q => gb G ≤ q
def tys (G : GT) : List (ClassId × FieldType) := [(gy G 0, .int), (gy G 1, .object "LakeSwimmers$Swimmer"), (gy G 2, .object "LakeSwimmers$Sheet")]
def fv (G : GT) (σ : Sto) (k j t : Nat) : Value := if t = 0 then .int (σ.1 k j) else if t = 1 then va_re (gad G) (R0 k j) else va_re (gad G) (σ.2 k j)
def fl (G : GT) (σ : Sto) (k c : Nat) : List Value := (FT c).mapIdx (fun j t => fv G σ k j t)
def ce (G : GT) (σ : Sto) (k : Nat) : va_E := if K0 k < 10 then .inr (K0 k, fl G σ k (K0 k)) else if K0 k = 20 then .inl (gy G 0, Ln0 k, .inl (σ.1 k)) else .inl (gy G (K0 k - 20), Ln0 k, .inr (.inr (.inr (.inr (fun j => (R0 k j).map (gad G))))))
def wl (G : GT) (σ : Sto) : va_W := (List.range NC).map (fun k => (gad G k, ce G σ k))
def NW : List Cond := [Cond.methodLinkNest RX0 70 yX6_init RX8, Cond.methodLinkNest RX8 21 yX3_init RX8, Cond.methodLinkNest RX8 28 yX5_init RX8, Cond.methodLinkNest RX8 35 yX2_init RX8, Cond.methodLinkNest RX2 25 yX6_init RX8, Cond.methodLinkNest RX8 42 yX7_init RX8, Cond.methodLinkNest RX8 59 yX6_init RX8, Cond.methodLinkNest RX8 71 yX4_init RX8, Cond.methodLinkNest RX0 71 yX8_isOutside RX8, Cond.methodLinkNest RX1 41 yX8_heldWithin RX8, Cond.methodLinkNest RX5 37 yX8_isOutside RX8, Cond.methodLinkNest RX5 56 yX8_heldWithin RX8, Cond.methodLinkNest RX2 43 yX8_isOutside RX8, Cond.methodLinkNest RX2 91 yX8_isBetter RX8, Cond.methodLinkNest RX7 44 yX8_isOutside RX8, Cond.fieldLinkNest RX7 51 RX8 "ABOVE" "[I" RX8, Cond.methodLinkNest RX4 22 yX8_heldWithin RX8, Cond.methodLinkNest RX4 26 yX8_isOutside RX8]
def sA : List (Nat × String) := [(28, ""), (46, "cwl"), (48, "byw")]
/-- what stays, of the machine's start: the nest mates' links, the static rows, the texts -/
def SF (G : GT) (U : State) : Prop :=
  (∀ w ∈ NW, va_Nw w U) ∧ va_AO "LakeSwimmers$Swimmer" U ∧ va_AO "LakeSwimmers$Sheet" U ∧
  va_Z "LakeSwimmers" "ABOVE" "[I" (.ref (gad G 1001)) (smA G) U U.heap ∧ va_T .int (gad G 1001) 7 (fun j => .int (abv j)) (smA G) U U.heap ∧
  va_Z "LakeSwimmers$Voices" "BODIES" "[I" (.ref (gad G 1002)) (smA G) U U.heap ∧ va_T .int (gad G 1002) 28 (fun j => .int (bod j)) (smA G) U U.heap ∧
  va_Z "java/lang/String" "COMPACT_STRINGS" "Z" (.int 1) (smA G) U U.heap ∧
  (∀ q ∈ sA.zipIdx, vk_R RX3 q.1.1 q.1.2 (gad G (1003 + q.2)) U) ∧ vk_S 3 sLen sByt (fun i => gad G (1003 + i)) (fun i => gad G (1006 + i)) (smA G) U U.heap
def Sz (G : GT) (ws : va_W) (H : Heap) : Prop := ws.length < NC → H.size = gb G + ws.length
def WV (G : GT) (ws : va_W) (U : State) : Prop := Sz G ws U.heap ∧ va_P (gD G) vwCl ws U.heap ∧ va_D (smA G) ws ∧ va_K (gD G) vwCl (tys G) U ∧ SF G U
theorem SF.to {G : GT} {s U : State} (h : SF G s) (hW : s.WarmedH U.vm) (hk : ∀ q : Nat, q < s.heap.size → ¬ smA G q → U.heap[q]? = s.heap[q]?) : SF G U := by
  obtain ⟨h1, h2, h3, h4, h5, h6, h7, h8, h9, h10⟩ := h
  have hvm := hW.alike
  refine ⟨fun w hw => ?_, h2.moved hvm, h3.moved hvm, (h4.moved hvm).kept hk, (h5.moved hvm).kept hk, (h6.moved hvm).kept hk, (h7.moved hvm).kept hk, (h8.moved hvm).kept hk, fun q hq => (h9 q hq).warm hW, (h10.moved hvm).kept hk⟩
  have h := h1 w hw
  simp only [NW, List.mem_cons, List.not_mem_nil, or_false] at hw
  rcases hw with rfl | rfl | rfl | rfl | rfl | rfl | rfl | rfl | rfl | rfl | rfl | rfl | rfl | rfl | rfl | rfl | rfl | rfl <;> first | exact va_Nw.warmM hW h | exact va_Nw.warmF hW h
theorem WV.blind {G : GT} {ws : va_W} (av : List Value) : FrameBlind (va_Pc av (WV G ws)) := by
  intro a U g mk q
  obtain ⟨q0, q1, q2, q3, q4, q5⟩ := q
  exact ⟨q0, q1, q2, q3, va_K.moved (u := U) (U := U.calling g mk a) (Vm.Alike.refl U.vm) q4, q5.to (State.WarmedH.refl U) (fun _ _ _ => rfl)⟩
theorem WV.base {G : GT} {ws : va_W} {U : State} (h : WV G ws U) : gb G ≤ U.heap.size := by
  obtain ⟨h1, h2, h3, -⟩ := h
  by_cases hl : ws.length < NC
  · have := h1 hl; omega
  · have hne : 0 < ws.length := by simp only [NC] at hl; omega
    have hc : ws[0]? = some ws[0] := by simp [hne]
    exact Nat.le_trans (h3.2 0 _ hc) (Nat.le_of_lt (h2 0 _ hc).lt)
/-- where a method's body stands -/
def Cx (p : Program) (s : State) (m : MethodId) (args : Array Value) (meth : Method) (c : Code) (cc : ByteArray) (nL : Nat) (own : String) (G : GT) : Prop :=
  p.tables.exec = Jvm.exec ∧ c.code = cc ∧ c.maxLocals = nL ∧ meth.locks = false ∧ (∀ w ∈ TB, w.before args s = true) ∧ s.vm.findClass own = some m.cls ∧ va_K (gD G) vwCl (tys G) s ∧ SF G s ∧ gb G ≤ s.heap.size
def Sm {α : Type} (p : Program) (l : Launch) (e : Env) (R : Room) (s : State) (m : MethodId) (args : Array Value) (below : List Frame) (meth : Method) (c : Code) (G : GT) (nL : Nat) (Q : α → State → Prop) (cells slots : Nat) (ws : va_W) (pc : Nat) (L : List (Nat × Value)) (st : List Value) (o : Option α) : Prop :=
  ∀ a, o = some a → ∀ (H : Heap) (locs : List Loc) (ls : Array Slot), Sz G ws H → va_P (gD G) vwCl ws H → va_D (smA G) ws → va_S (smA G) s.heap H locs → lv_has ls nL L → W p l e R s m args below meth c H locs cells slots (Q a) (F0 m pc ls st)
/-- a method's contract: from the world ws, by these values, it answers rv and leaves the world ws' -/
def MW (l : Launch) (G : GT) (fr lo mc ms : Nat) (y : MethodName) (cc : ByteArray) (nL : Nat) (ret : Option FieldType) (av : List Value) (ws : va_W) (rv : Option Value) (ws' : va_W) : Prop :=
  Met l y (Cond.code y cc nL ret :: TB) { frames := fr, cells := mc, slots := ms, locals := lo } (va_Pc av (WV G ws)) (fun _ st oc t => oc = .returned rv ∧ WV G ws' t ∧ va_F (smA G) st t) mc ms (smA G)
def Qm {α : Type} (below : List Frame) (args : Array Value) (s : State) (G : GT) (mc ms : Nat) (fin : α → Option Value × va_W) (a : α) : State → Prop :=
  MQ below (fun _ st oc t => oc = .returned (fin a).1 ∧ WV G (fin a).2 t ∧ va_F (smA G) st t) args s mc ms (smA G)
theorem mw_of {l : Launch} {G : GT} {fr lo mc ms : Nat} {y : MethodName} {cc : ByteArray} {nL : Nat} {ret : Option FieldType} {av : List Value} {ws ws' : va_W} {rv : Option Value} {α : Type} (own : String) (fin : α → Option Value × va_W) (L0 : List (Nat × Value)) (hy : plainName y.cls = true) (ho : y.cls = own) (hlen : (lg_sl av).length ≤ nL) (hL : lv_args 0 av = L0) {o : Option α} {a : α} (ha : o = some a) (hf : fin a = (rv, ws'))
    (body : ∀ (p : Program) (e : Env) (s : State) (m : MethodId) (args : Array Value) (below : List Frame) (meth : Method) (c : Code), Cx p s m args meth c cc nL own G → meth.sig.returnType = ret → meth.name = y.name → Sm p l e { frames := fr, cells := mc, slots := ms, locals := lo } s m args below meth c G nL (Qm below args s G mc ms fin) 0 0 ws 0 L0 [] o) : MW l G fr lo mc ms y cc nL ret av ws rv ws' := by
  refine Met.ofW (cc := cc) (maxL := nL) (ret := ret) hy rfl ?_
  intro p e s m args below meth c s₁ B hml hv
  obtain ⟨rfl, hsz, hP, hD, hK, hF⟩ := hv
  have hts := atoms_spec (ws := Cond.code y cc nL ret :: TB) B.pre
  have hown : s.vm.findClass own = some m.cls := ho ▸ findClass_of_methodNamed B.named
  have hl := lv_entry av (n := nL) hlen
  rw [lg_entry_eq]
  generalize (lg_sl av ++ List.replicate (nL - (lg_sl av).length) Slot.unset).toArray = ls at hl ⊢
  have hX : Cx p s m av.toArray meth c cc nL own G := ⟨B.exec, B.bytes, hml, B.notSynchronized, fun w hw => hts w (List.mem_cons_of_mem _ hw), hown, hK, hF, WV.base (G := G) ⟨hsz, hP, hD, hK, hF⟩⟩
  have h := body p e s m av.toArray below meth c hX B.returns (name_of_methodNamed B.named B.method).1 a ha s.heap [] ls hsz hP hD va_S.rf (hL ▸ hl)
  unfold Qm at h
  rw [hf] at h
  exact h
section SM
variable {p : Program} {l : Launch} {e : Env} {R : Room} {s : State} {m : MethodId} {args : Array Value} {below : List Frame} {meth : Method} {c : Code} {cells slots : Nat}
variable {cc : ByteArray} {nL : Nat} {own : String} {G : GT} {α β : Type} {Q : α → State → Prop} {ws ws' : va_W} {pc : Nat} {L : List (Nat × Value)} {st : List Value} {o : Option α}
theorem sm_none : Sm p l e R s m args below meth c G nL Q cells slots ws pc L st none := fun _ h => by cases h
theorem sm_bind {o1 : Option β} {k : β → Option α} (h : ∀ b, o1 = some b → Sm p l e R s m args below meth c G nL Q cells slots ws pc L st (k b)) : Sm p l e R s m args below meth c G nL Q cells slots ws pc L st (o1.bind k) := by
  intro a ha
  cases o1 with
  | none => cases ha
  | some b => exact h b rfl a ha
theorem sm_if {P : Prop} [Decidable P] {o1 o2 : Option α} (h1 : P → Sm p l e R s m args below meth c G nL Q cells slots ws pc L st o1) (h2 : ¬ P → Sm p l e R s m args below meth c G nL Q cells slots ws pc L st o2) : Sm p l e R s m args below meth c G nL Q cells slots ws pc L st (if P then o1 else o2) := by
  by_cases hp : P
  · rw [if_pos hp]; exact h1 hp
  · rw [if_neg hp]; exact h2 hp
theorem sm_guard {P : Prop} [Decidable P] {o1 : Option α} (h1 : P → Sm p l e R s m args below meth c G nL Q cells slots ws pc L st o1) : Sm p l e R s m args below meth c G nL Q cells slots ws pc L st (if P then o1 else none) := sm_if h1 (fun _ => sm_none)
theorem sm_sub (ks : List Nat) {L' : List (Nat × Value)} (hl : lv_pick L ks = L') (k : Sm p l e R s m args below meth c G nL Q cells slots ws pc L' st o) : Sm p l e R s m args below meth c G nL Q cells slots ws pc L st o :=
  fun a ha H locs ls h1 h2 h3 h4 h5 => k a ha H locs ls h1 h2 h3 h4 (lv_sub h5 ks hl)
theorem sm_eq {pc' : Nat} {o' : Option α} (hp : pc = pc') (ho : o = o') (k : Sm p l e R s m args below meth c G nL Q cells slots ws pc' L st o') : Sm p l e R s m args below meth c G nL Q cells slots ws pc L st o := by subst hp; subst ho; exact k

theorem sm_iconst (X : Cx p s m args meth c cc nL own G) (pc1 : Nat) {n : Int} (v : Int32) (hd : decode cc pc = .ok (.iconst n, 1)) (hp : pc + 1 = pc1) (hv : Int32.ofInt n = v) (k : Sm p l e R s m args below meth c G nL Q cells slots ws pc1 L (.int v :: st) o) : Sm p l e R s m args below meth c G nL Q cells slots ws pc L (st) o := by
  subst hp
  exact fun a ha H locs ls h1 h2 h3 h4 h5 => lv_iconst X.1 X.2.1 hd hv (k a ha H locs ls h1 h2 h3 h4 h5)
theorem sm_bipush (X : Cx p s m args meth c cc nL own G) (pc1 : Nat) {n : Int} (v : Int32) (hd : decode cc pc = .ok (.bipush n, 2)) (hp : pc + 2 = pc1) (hv : (Int8.ofInt n).toInt32 = v) (k : Sm p l e R s m args below meth c G nL Q cells slots ws pc1 L (.int v :: st) o) : Sm p l e R s m args below meth c G nL Q cells slots ws pc L (st) o := by
  subst hp
  exact fun a ha H locs ls h1 h2 h3 h4 h5 => lv_bipush X.1 X.2.1 hd hv (k a ha H locs ls h1 h2 h3 h4 h5)
theorem sm_sipush (X : Cx p s m args meth c cc nL own G) (pc1 : Nat) {n : Int} (v : Int32) (hd : decode cc pc = .ok (.sipush n, 3)) (hp : pc + 3 = pc1) (hv : (Int16.ofInt n).toInt32 = v) (k : Sm p l e R s m args below meth c G nL Q cells slots ws pc1 L (.int v :: st) o) : Sm p l e R s m args below meth c G nL Q cells slots ws pc L (st) o := by
  subst hp
  exact fun a ha H locs ls h1 h2 h3 h4 h5 => lv_sipush X.1 X.2.1 hd hv (k a ha H locs ls h1 h2 h3 h4 h5)
theorem sm_lconst (X : Cx p s m args meth c cc nL own G) (pc1 : Nat) {n : Fin 2} (v : Int64) (hd : decode cc pc = .ok (.lconst n, 1)) (hp : pc + 1 = pc1) (hv : Int64.ofNat (n : Nat) = v) (k : Sm p l e R s m args below meth c G nL Q cells slots ws pc1 L (.long v :: st) o) : Sm p l e R s m args below meth c G nL Q cells slots ws pc L (st) o := by
  subst hp
  exact fun a ha H locs ls h1 h2 h3 h4 h5 => lv_lconst X.1 X.2.1 hd hv (k a ha H locs ls h1 h2 h3 h4 h5)
theorem sm_null (X : Cx p s m args meth c cc nL own G) (pc1 : Nat)  (hd : decode cc pc = .ok (.aconst_null, 1)) (hp : pc + 1 = pc1) (k : Sm p l e R s m args below meth c G nL Q cells slots ws pc1 L (.null :: st) o) : Sm p l e R s m args below meth c G nL Q cells slots ws pc L (st) o := by
  subst hp
  exact fun a ha H locs ls h1 h2 h3 h4 h5 => lv_null X.1 X.2.1 hd  (k a ha H locs ls h1 h2 h3 h4 h5)
theorem sm_iload_n (X : Cx p s m args meth c cc nL own G) (pc1 : Nat) {j : Fin 4} {i : Nat} {x : Int32} (n : Nat) (hd : decode cc pc = .ok (.iload_n j, 1)) (hp : pc + 1 = pc1) (hi : (j : Nat) = i) (hl : L[n]? = some (i, .int x)) (k : Sm p l e R s m args below meth c G nL Q cells slots ws pc1 L (.int x :: st) o) : Sm p l e R s m args below meth c G nL Q cells slots ws pc L (st) o := by
  subst hp
  exact fun a ha H locs ls h1 h2 h3 h4 h5 => lv_iload_n X.1 X.2.1 hd hi (lv_at h5 n hl) (k a ha H locs ls h1 h2 h3 h4 h5)
theorem sm_iload (X : Cx p s m args meth c cc nL own G) (pc1 : Nat) {i : Nat} {x : Int32} (n : Nat) (hd : decode cc pc = .ok (.iload i, 2)) (hp : pc + 2 = pc1) (hl : L[n]? = some (i, .int x)) (k : Sm p l e R s m args below meth c G nL Q cells slots ws pc1 L (.int x :: st) o) : Sm p l e R s m args below meth c G nL Q cells slots ws pc L (st) o := by
  subst hp
  exact fun a ha H locs ls h1 h2 h3 h4 h5 => lv_iload X.1 X.2.1 hd (lv_at h5 n hl) (k a ha H locs ls h1 h2 h3 h4 h5)
theorem sm_lload_n (X : Cx p s m args meth c cc nL own G) (pc1 : Nat) {j : Fin 4} {i : Nat} {x : Int64} (n : Nat) (hd : decode cc pc = .ok (.lload_n j, 1)) (hp : pc + 1 = pc1) (hi : (j : Nat) = i) (hl : L[n]? = some (i, .long x)) (k : Sm p l e R s m args below meth c G nL Q cells slots ws pc1 L (.long x :: st) o) : Sm p l e R s m args below meth c G nL Q cells slots ws pc L (st) o := by
  subst hp
  exact fun a ha H locs ls h1 h2 h3 h4 h5 => lv_lload_n X.1 X.2.1 hd hi (lv_at h5 n hl) (k a ha H locs ls h1 h2 h3 h4 h5)
theorem sm_lload (X : Cx p s m args meth c cc nL own G) (pc1 : Nat) {i : Nat} {x : Int64} (n : Nat) (hd : decode cc pc = .ok (.lload i, 2)) (hp : pc + 2 = pc1) (hl : L[n]? = some (i, .long x)) (k : Sm p l e R s m args below meth c G nL Q cells slots ws pc1 L (.long x :: st) o) : Sm p l e R s m args below meth c G nL Q cells slots ws pc L (st) o := by
  subst hp
  exact fun a ha H locs ls h1 h2 h3 h4 h5 => lv_lload X.1 X.2.1 hd (lv_at h5 n hl) (k a ha H locs ls h1 h2 h3 h4 h5)
theorem sm_aload_n (X : Cx p s m args meth c cc nL own G) (pc1 : Nat) {j : Fin 4} {i : Nat} {x : Nat} (n : Nat) (hd : decode cc pc = .ok (.aload_n j, 1)) (hp : pc + 1 = pc1) (hi : (j : Nat) = i) (hl : L[n]? = some (i, .ref x)) (k : Sm p l e R s m args below meth c G nL Q cells slots ws pc1 L (.ref x :: st) o) : Sm p l e R s m args below meth c G nL Q cells slots ws pc L (st) o := by
  subst hp
  exact fun a ha H locs ls h1 h2 h3 h4 h5 => lv_aload_n X.1 X.2.1 hd hi (lv_at h5 n hl) (k a ha H locs ls h1 h2 h3 h4 h5)
theorem sm_aload (X : Cx p s m args meth c cc nL own G) (pc1 : Nat) {i : Nat} {x : Nat} (n : Nat) (hd : decode cc pc = .ok (.aload i, 2)) (hp : pc + 2 = pc1) (hl : L[n]? = some (i, .ref x)) (k : Sm p l e R s m args below meth c G nL Q cells slots ws pc1 L (.ref x :: st) o) : Sm p l e R s m args below meth c G nL Q cells slots ws pc L (st) o := by
  subst hp
  exact fun a ha H locs ls h1 h2 h3 h4 h5 => lv_aload X.1 X.2.1 hd (lv_at h5 n hl) (k a ha H locs ls h1 h2 h3 h4 h5)
theorem sm_aload_nq (X : Cx p s m args meth c cc nL own G) (pc1 : Nat) {j : Fin 4} {i : Nat} {r : Option Nat} (n : Nat) (hd : decode cc pc = .ok (.aload_n j, 1)) (hp : pc + 1 = pc1) (hi : (j : Nat) = i) (hl : L[n]? = some (i, va_re (gad G) r)) (k : Sm p l e R s m args below meth c G nL Q cells slots ws pc1 L (va_re (gad G) r :: st) o) : Sm p l e R s m args below meth c G nL Q cells slots ws pc L st o := by
  subst hp
  cases r with
  | none => exact fun a ha H locs ls h1 h2 h3 h4 h5 => lv_aload_nN X.1 X.2.1 hd hi (lv_at h5 n hl) (k a ha H locs ls h1 h2 h3 h4 h5)
  | some x => exact fun a ha H locs ls h1 h2 h3 h4 h5 => lv_aload_n X.1 X.2.1 hd hi (lv_at h5 n hl) (k a ha H locs ls h1 h2 h3 h4 h5)
theorem sm_aloadq (X : Cx p s m args meth c cc nL own G) (pc1 : Nat) {i : Nat} {r : Option Nat} (n : Nat) (hd : decode cc pc = .ok (.aload i, 2)) (hp : pc + 2 = pc1) (hl : L[n]? = some (i, va_re (gad G) r)) (k : Sm p l e R s m args below meth c G nL Q cells slots ws pc1 L (va_re (gad G) r :: st) o) : Sm p l e R s m args below meth c G nL Q cells slots ws pc L st o := by
  subst hp
  cases r with
  | none => exact fun a ha H locs ls h1 h2 h3 h4 h5 => lv_aloadN X.1 X.2.1 hd (lv_at h5 n hl) (k a ha H locs ls h1 h2 h3 h4 h5)
  | some x => exact fun a ha H locs ls h1 h2 h3 h4 h5 => lv_aload X.1 X.2.1 hd (lv_at h5 n hl) (k a ha H locs ls h1 h2 h3 h4 h5)
theorem sm_istore_n (X : Cx p s m args meth c cc nL own G) (pc1 : Nat) {j : Fin 4} {i : Nat} {x : Int32} (L' : List (Nat × Value)) (hd : decode cc pc = .ok (.istore_n j, 1)) (hp : pc + 1 = pc1) (hi : (j : Nat) = i) (hn : i < nL) (hl : (i, Value.int x) :: L.filter (fun q => !(q.1 == i) && !(q.1 + 1 == i && q.2.category == 2)) = L') (k : Sm p l e R s m args below meth c G nL Q cells slots ws pc1 L' st o) : Sm p l e R s m args below meth c G nL Q cells slots ws pc L (.int x :: st) o := by
  subst hp
  exact fun a ha H locs ls h1 h2 h3 h4 h5 => lv_istore_n X.1 X.2.1 hd hi h5 hn hl (fun ls h5 => k a ha H locs ls h1 h2 h3 h4 h5)
theorem sm_istore (X : Cx p s m args meth c cc nL own G) (pc1 : Nat) {i : Nat} {x : Int32} (L' : List (Nat × Value)) (hd : decode cc pc = .ok (.istore i, 2)) (hp : pc + 2 = pc1) (hn : i < nL) (hl : (i, Value.int x) :: L.filter (fun q => !(q.1 == i) && !(q.1 + 1 == i && q.2.category == 2)) = L') (k : Sm p l e R s m args below meth c G nL Q cells slots ws pc1 L' st o) : Sm p l e R s m args below meth c G nL Q cells slots ws pc L (.int x :: st) o := by
  subst hp
  exact fun a ha H locs ls h1 h2 h3 h4 h5 => lv_istore X.1 X.2.1 hd h5 hn hl (fun ls h5 => k a ha H locs ls h1 h2 h3 h4 h5)
theorem sm_astore_n (X : Cx p s m args meth c cc nL own G) (pc1 : Nat) {j : Fin 4} {i : Nat} {x : Nat} (L' : List (Nat × Value)) (hd : decode cc pc = .ok (.astore_n j, 1)) (hp : pc + 1 = pc1) (hi : (j : Nat) = i) (hn : i < nL) (hl : (i, Value.ref x) :: L.filter (fun q => !(q.1 == i) && !(q.1 + 1 == i && q.2.category == 2)) = L') (k : Sm p l e R s m args below meth c G nL Q cells slots ws pc1 L' st o) : Sm p l e R s m args below meth c G nL Q cells slots ws pc L (.ref x :: st) o := by
  subst hp
  exact fun a ha H locs ls h1 h2 h3 h4 h5 => lv_astore_n X.1 X.2.1 hd hi h5 hn hl (fun ls h5 => k a ha H locs ls h1 h2 h3 h4 h5)
theorem sm_astore (X : Cx p s m args meth c cc nL own G) (pc1 : Nat) {i : Nat} {x : Nat} (L' : List (Nat × Value)) (hd : decode cc pc = .ok (.astore i, 2)) (hp : pc + 2 = pc1) (hn : i < nL) (hl : (i, Value.ref x) :: L.filter (fun q => !(q.1 == i) && !(q.1 + 1 == i && q.2.category == 2)) = L') (k : Sm p l e R s m args below meth c G nL Q cells slots ws pc1 L' st o) : Sm p l e R s m args below meth c G nL Q cells slots ws pc L (.ref x :: st) o := by
  subst hp
  exact fun a ha H locs ls h1 h2 h3 h4 h5 => lv_astore X.1 X.2.1 hd h5 hn hl (fun ls h5 => k a ha H locs ls h1 h2 h3 h4 h5)
theorem sm_astore_nq (X : Cx p s m args meth c cc nL own G) (pc1 : Nat) {j : Fin 4} {i : Nat} {r : Option Nat} (L' : List (Nat × Value)) (hd : decode cc pc = .ok (.astore_n j, 1)) (hp : pc + 1 = pc1) (hi : (j : Nat) = i) (hn : i < nL) (hl : (i, va_re (gad G) r) :: L.filter (fun q => !(q.1 == i) && !(q.1 + 1 == i && q.2.category == 2)) = L') (k : Sm p l e R s m args below meth c G nL Q cells slots ws pc1 L' st o) : Sm p l e R s m args below meth c G nL Q cells slots ws pc L (va_re (gad G) r :: st) o := by
  subst hp
  cases r with
  | none => exact fun a ha H locs ls h1 h2 h3 h4 h5 => lv_astore_nN X.1 X.2.1 hd hi h5 hn hl (fun ls h5 => k a ha H locs ls h1 h2 h3 h4 h5)
  | some x => exact fun a ha H locs ls h1 h2 h3 h4 h5 => lv_astore_n X.1 X.2.1 hd hi h5 hn hl (fun ls h5 => k a ha H locs ls h1 h2 h3 h4 h5)
theorem sm_astoreq (X : Cx p s m args meth c cc nL own G) (pc1 : Nat) {i : Nat} {r : Option Nat} (L' : List (Nat × Value)) (hd : decode cc pc = .ok (.astore i, 2)) (hp : pc + 2 = pc1) (hn : i < nL) (hl : (i, va_re (gad G) r) :: L.filter (fun q => !(q.1 == i) && !(q.1 + 1 == i && q.2.category == 2)) = L') (k : Sm p l e R s m args below meth c G nL Q cells slots ws pc1 L' st o) : Sm p l e R s m args below meth c G nL Q cells slots ws pc L (va_re (gad G) r :: st) o := by
  subst hp
  cases r with
  | none => exact fun a ha H locs ls h1 h2 h3 h4 h5 => lv_astoreN X.1 X.2.1 hd h5 hn hl (fun ls h5 => k a ha H locs ls h1 h2 h3 h4 h5)
  | some x => exact fun a ha H locs ls h1 h2 h3 h4 h5 => lv_astore X.1 X.2.1 hd h5 hn hl (fun ls h5 => k a ha H locs ls h1 h2 h3 h4 h5)
theorem sm_iinc (X : Cx p s m args meth c cc nL own G) (pc1 : Nat) {i : Nat} {n : Int} {x : Int32} (n0 : Nat) (d : Int32) (L' : List (Nat × Value)) (hd : decode cc pc = .ok (.iinc i n, 3)) (hp : pc + 3 = pc1) (hk : L[n0]? = some (i, .int x)) (hv : Int32.ofInt n = d) (hn : i < nL) (hl : (i, Value.int (x + d)) :: L.filter (fun q => !(q.1 == i) && !(q.1 + 1 == i && q.2.category == 2)) = L') (k : Sm p l e R s m args below meth c G nL Q cells slots ws pc1 L' st o) : Sm p l e R s m args below meth c G nL Q cells slots ws pc L st o := by
  subst hp
  exact fun a ha H locs ls h1 h2 h3 h4 h5 => lv_iinc X.1 X.2.1 hd h5 hk (by rw [hv]) hn hl (fun ls h5 => k a ha H locs ls h1 h2 h3 h4 h5)
theorem sm_iadd (X : Cx p s m args meth c cc nL own G) (pc1 : Nat) {x y : Int32} (hd : decode cc pc = .ok (.iadd, 1)) (hp : pc + 1 = pc1) (k : Sm p l e R s m args below meth c G nL Q cells slots ws pc1 L (.int (x + y) :: st) o) : Sm p l e R s m args below meth c G nL Q cells slots ws pc L (.int y :: .int x :: st) o := by
  subst hp
  exact fun a ha H locs ls h1 h2 h3 h4 h5 => lv_iadd X.1 X.2.1 hd  (k a ha H locs ls h1 h2 h3 h4 h5)
theorem sm_isub (X : Cx p s m args meth c cc nL own G) (pc1 : Nat) {x y : Int32} (hd : decode cc pc = .ok (.isub, 1)) (hp : pc + 1 = pc1) (k : Sm p l e R s m args below meth c G nL Q cells slots ws pc1 L (.int (x - y) :: st) o) : Sm p l e R s m args below meth c G nL Q cells slots ws pc L (.int y :: .int x :: st) o := by
  subst hp
  exact fun a ha H locs ls h1 h2 h3 h4 h5 => lv_isub X.1 X.2.1 hd  (k a ha H locs ls h1 h2 h3 h4 h5)
theorem sm_imul (X : Cx p s m args meth c cc nL own G) (pc1 : Nat) {x y : Int32} (hd : decode cc pc = .ok (.imul, 1)) (hp : pc + 1 = pc1) (k : Sm p l e R s m args below meth c G nL Q cells slots ws pc1 L (.int (x * y) :: st) o) : Sm p l e R s m args below meth c G nL Q cells slots ws pc L (.int y :: .int x :: st) o := by
  subst hp
  exact fun a ha H locs ls h1 h2 h3 h4 h5 => lv_imul X.1 X.2.1 hd  (k a ha H locs ls h1 h2 h3 h4 h5)
theorem sm_iand (X : Cx p s m args meth c cc nL own G) (pc1 : Nat) {x y : Int32} (hd : decode cc pc = .ok (.iand, 1)) (hp : pc + 1 = pc1) (k : Sm p l e R s m args below meth c G nL Q cells slots ws pc1 L (.int (x &&& y) :: st) o) : Sm p l e R s m args below meth c G nL Q cells slots ws pc L (.int y :: .int x :: st) o := by
  subst hp
  exact fun a ha H locs ls h1 h2 h3 h4 h5 => lv_iand X.1 X.2.1 hd  (k a ha H locs ls h1 h2 h3 h4 h5)
theorem sm_ior (X : Cx p s m args meth c cc nL own G) (pc1 : Nat) {x y : Int32} (hd : decode cc pc = .ok (.ior, 1)) (hp : pc + 1 = pc1) (k : Sm p l e R s m args below meth c G nL Q cells slots ws pc1 L (.int (x ||| y) :: st) o) : Sm p l e R s m args below meth c G nL Q cells slots ws pc L (.int y :: .int x :: st) o := by
  subst hp
  exact fun a ha H locs ls h1 h2 h3 h4 h5 => lv_ior X.1 X.2.1 hd  (k a ha H locs ls h1 h2 h3 h4 h5)
theorem sm_ixor (X : Cx p s m args meth c cc nL own G) (pc1 : Nat) {x y : Int32} (hd : decode cc pc = .ok (.ixor, 1)) (hp : pc + 1 = pc1) (k : Sm p l e R s m args below meth c G nL Q cells slots ws pc1 L (.int (x ^^^ y) :: st) o) : Sm p l e R s m args below meth c G nL Q cells slots ws pc L (.int y :: .int x :: st) o := by
  subst hp
  exact fun a ha H locs ls h1 h2 h3 h4 h5 => lv_ixor X.1 X.2.1 hd  (k a ha H locs ls h1 h2 h3 h4 h5)
theorem sm_ishl (X : Cx p s m args meth c cc nL own G) (pc1 : Nat) {x y : Int32} (hd : decode cc pc = .ok (.ishl, 1)) (hp : pc + 1 = pc1) (k : Sm p l e R s m args below meth c G nL Q cells slots ws pc1 L (.int (x <<< (y &&& 31)) :: st) o) : Sm p l e R s m args below meth c G nL Q cells slots ws pc L (.int y :: .int x :: st) o := by
  subst hp
  exact fun a ha H locs ls h1 h2 h3 h4 h5 => lv_ishl X.1 X.2.1 hd  (k a ha H locs ls h1 h2 h3 h4 h5)
theorem sm_ishr (X : Cx p s m args meth c cc nL own G) (pc1 : Nat) {x y : Int32} (hd : decode cc pc = .ok (.ishr, 1)) (hp : pc + 1 = pc1) (k : Sm p l e R s m args below meth c G nL Q cells slots ws pc1 L (.int (x >>> (y &&& 31)) :: st) o) : Sm p l e R s m args below meth c G nL Q cells slots ws pc L (.int y :: .int x :: st) o := by
  subst hp
  exact fun a ha H locs ls h1 h2 h3 h4 h5 => lv_ishr X.1 X.2.1 hd  (k a ha H locs ls h1 h2 h3 h4 h5)
theorem sm_ineg (X : Cx p s m args meth c cc nL own G) (pc1 : Nat) {x : Int32} (hd : decode cc pc = .ok (.ineg, 1)) (hp : pc + 1 = pc1) (k : Sm p l e R s m args below meth c G nL Q cells slots ws pc1 L (.int (-x) :: st) o) : Sm p l e R s m args below meth c G nL Q cells slots ws pc L (.int x :: st) o := by
  subst hp
  exact fun a ha H locs ls h1 h2 h3 h4 h5 => lv_ineg X.1 X.2.1 hd  (k a ha H locs ls h1 h2 h3 h4 h5)
def irem (x y : Int32) : Int32 := x - x / y * y
theorem sm_idiv (X : Cx p s m args meth c cc nL own G) (pc1 : Nat) {x y : Int32} (hd : decode cc pc = .ok (.idiv, 1)) (hp : pc + 1 = pc1) (hne : ¬ y = 0) (k : Sm p l e R s m args below meth c G nL Q cells slots ws pc1 L (.int (x / y) :: st) o) : Sm p l e R s m args below meth c G nL Q cells slots ws pc L (.int y :: .int x :: st) o := by
  subst hp
  exact fun a ha H locs ls h1 h2 h3 h4 h5 => lv_idiv X.1 X.2.1 hd hne (k a ha H locs ls h1 h2 h3 h4 h5)
theorem sm_irem (X : Cx p s m args meth c cc nL own G) (pc1 : Nat) {x y : Int32} (hd : decode cc pc = .ok (.irem, 1)) (hp : pc + 1 = pc1) (hne : ¬ y = 0) (k : Sm p l e R s m args below meth c G nL Q cells slots ws pc1 L (.int (irem x y) :: st) o) : Sm p l e R s m args below meth c G nL Q cells slots ws pc L (.int y :: .int x :: st) o := by
  subst hp
  exact fun a ha H locs ls h1 h2 h3 h4 h5 => lv_irem X.1 X.2.1 hd hne (k a ha H locs ls h1 h2 h3 h4 h5)
def iushr (x y : Int32) : Int32 := (x.toUInt32 >>> (y.toUInt32 &&& Int32.toUInt32 31)).toInt32
theorem sm_iushr (X : Cx p s m args meth c cc nL own G) (pc1 : Nat) {x y : Int32} (hd : decode cc pc = .ok (.iushr, 1)) (hp : pc + 1 = pc1) (k : Sm p l e R s m args below meth c G nL Q cells slots ws pc1 L (.int (iushr x y) :: st) o) : Sm p l e R s m args below meth c G nL Q cells slots ws pc L (.int y :: .int x :: st) o := by
  subst hp
  exact fun a ha H locs ls h1 h2 h3 h4 h5 => lv_iushr X.1 X.2.1 hd rfl (k a ha H locs ls h1 h2 h3 h4 h5)
def i2b (x : Int32) : Int32 := x.toInt8.toInt32
def i2s (x : Int32) : Int32 := x.toInt16.toInt32
def i2c (x : Int32) : Int32 := (x.toUInt32 % 65536).toInt32
theorem sm_i2b (X : Cx p s m args meth c cc nL own G) (pc1 : Nat) {x : Int32} (hd : decode cc pc = .ok (.i2b, 1)) (hp : pc + 1 = pc1) (k : Sm p l e R s m args below meth c G nL Q cells slots ws pc1 L (.int (i2b x) :: st) o) : Sm p l e R s m args below meth c G nL Q cells slots ws pc L (.int x :: st) o := by
  subst hp
  exact fun a ha H locs ls h1 h2 h3 h4 h5 => lv_i2b X.1 X.2.1 hd rfl (k a ha H locs ls h1 h2 h3 h4 h5)
theorem sm_i2s (X : Cx p s m args meth c cc nL own G) (pc1 : Nat) {x : Int32} (hd : decode cc pc = .ok (.i2s, 1)) (hp : pc + 1 = pc1) (k : Sm p l e R s m args below meth c G nL Q cells slots ws pc1 L (.int (i2s x) :: st) o) : Sm p l e R s m args below meth c G nL Q cells slots ws pc L (.int x :: st) o := by
  subst hp
  exact fun a ha H locs ls h1 h2 h3 h4 h5 => lv_i2s X.1 X.2.1 hd rfl (k a ha H locs ls h1 h2 h3 h4 h5)
theorem sm_i2c (X : Cx p s m args meth c cc nL own G) (pc1 : Nat) {x : Int32} (hd : decode cc pc = .ok (.i2c, 1)) (hp : pc + 1 = pc1) (k : Sm p l e R s m args below meth c G nL Q cells slots ws pc1 L (.int (i2c x) :: st) o) : Sm p l e R s m args below meth c G nL Q cells slots ws pc L (.int x :: st) o := by
  subst hp
  exact fun a ha H locs ls h1 h2 h3 h4 h5 => lv_i2c X.1 X.2.1 hd rfl (k a ha H locs ls h1 h2 h3 h4 h5)
theorem sm_i2l (X : Cx p s m args meth c cc nL own G) (pc1 : Nat) {x : Int32} (hd : decode cc pc = .ok (.i2l, 1)) (hp : pc + 1 = pc1) (k : Sm p l e R s m args below meth c G nL Q cells slots ws pc1 L (.long x.toInt64 :: st) o) : Sm p l e R s m args below meth c G nL Q cells slots ws pc L (.int x :: st) o := by
  subst hp
  exact fun a ha H locs ls h1 h2 h3 h4 h5 => lv_i2l X.1 X.2.1 hd rfl (k a ha H locs ls h1 h2 h3 h4 h5)
theorem sm_l2i (X : Cx p s m args meth c cc nL own G) (pc1 : Nat) {x : Int64} (hd : decode cc pc = .ok (.l2i, 1)) (hp : pc + 1 = pc1) (k : Sm p l e R s m args below meth c G nL Q cells slots ws pc1 L (.int x.toInt32 :: st) o) : Sm p l e R s m args below meth c G nL Q cells slots ws pc L (.long x :: st) o := by
  subst hp
  exact fun a ha H locs ls h1 h2 h3 h4 h5 => lv_l2i X.1 X.2.1 hd rfl (k a ha H locs ls h1 h2 h3 h4 h5)
theorem sm_land (X : Cx p s m args meth c cc nL own G) (pc1 : Nat) {x y : Int64} (hd : decode cc pc = .ok (.land, 1)) (hp : pc + 1 = pc1) (k : Sm p l e R s m args below meth c G nL Q cells slots ws pc1 L (.long (x &&& y) :: st) o) : Sm p l e R s m args below meth c G nL Q cells slots ws pc L (.long y :: .long x :: st) o := by
  subst hp
  exact fun a ha H locs ls h1 h2 h3 h4 h5 => lv_land X.1 X.2.1 hd  (k a ha H locs ls h1 h2 h3 h4 h5)
theorem sm_lor (X : Cx p s m args meth c cc nL own G) (pc1 : Nat) {x y : Int64} (hd : decode cc pc = .ok (.lor, 1)) (hp : pc + 1 = pc1) (k : Sm p l e R s m args below meth c G nL Q cells slots ws pc1 L (.long (x ||| y) :: st) o) : Sm p l e R s m args below meth c G nL Q cells slots ws pc L (.long y :: .long x :: st) o := by
  subst hp
  exact fun a ha H locs ls h1 h2 h3 h4 h5 => lv_lor X.1 X.2.1 hd  (k a ha H locs ls h1 h2 h3 h4 h5)
def lshl (x : Int64) (y : Int32) : Int64 := x <<< (y.toInt64 &&& 63)
def lshr (x : Int64) (y : Int32) : Int64 := x >>> (y.toInt64 &&& 63)
def lushr (x : Int64) (y : Int32) : Int64 := (x.toUInt64 >>> (y.toInt64.toUInt64 &&& Int64.toUInt64 63)).toInt64
theorem sm_lshl (X : Cx p s m args meth c cc nL own G) (pc1 : Nat) {x : Int64} {y : Int32} (hd : decode cc pc = .ok (.lshl, 1)) (hp : pc + 1 = pc1) (k : Sm p l e R s m args below meth c G nL Q cells slots ws pc1 L (.long (lshl x y) :: st) o) : Sm p l e R s m args below meth c G nL Q cells slots ws pc L (.int y :: .long x :: st) o := by
  subst hp
  exact fun a ha H locs ls h1 h2 h3 h4 h5 => lv_lshl X.1 X.2.1 hd rfl (k a ha H locs ls h1 h2 h3 h4 h5)
theorem sm_lshr (X : Cx p s m args meth c cc nL own G) (pc1 : Nat) {x : Int64} {y : Int32} (hd : decode cc pc = .ok (.lshr, 1)) (hp : pc + 1 = pc1) (k : Sm p l e R s m args below meth c G nL Q cells slots ws pc1 L (.long (lshr x y) :: st) o) : Sm p l e R s m args below meth c G nL Q cells slots ws pc L (.int y :: .long x :: st) o := by
  subst hp
  exact fun a ha H locs ls h1 h2 h3 h4 h5 => lv_lshr X.1 X.2.1 hd rfl (k a ha H locs ls h1 h2 h3 h4 h5)
theorem sm_lushr (X : Cx p s m args meth c cc nL own G) (pc1 : Nat) {x : Int64} {y : Int32} (hd : decode cc pc = .ok (.lushr, 1)) (hp : pc + 1 = pc1) (k : Sm p l e R s m args below meth c G nL Q cells slots ws pc1 L (.long (lushr x y) :: st) o) : Sm p l e R s m args below meth c G nL Q cells slots ws pc L (.int y :: .long x :: st) o := by
  subst hp
  exact fun a ha H locs ls h1 h2 h3 h4 h5 => lv_lushr X.1 X.2.1 hd rfl (k a ha H locs ls h1 h2 h3 h4 h5)
theorem sm_lcmp (X : Cx p s m args meth c cc nL own G) (pc1 : Nat) {x y : Int64} (hd : decode cc pc = .ok (.lcmp, 1)) (hp : pc + 1 = pc1) (k : Sm p l e R s m args below meth c G nL Q cells slots ws pc1 L (.int (lg_cmp x y) :: st) o) : Sm p l e R s m args below meth c G nL Q cells slots ws pc L (.long y :: .long x :: st) o := by
  subst hp
  exact fun a ha H locs ls h1 h2 h3 h4 h5 => W.lcmp X.1 X.2.1 hd  (k a ha H locs ls h1 h2 h3 h4 h5)
theorem sm_dup (X : Cx p s m args meth c cc nL own G) (pc1 : Nat) {v : Value} (hd : decode cc pc = .ok (.dup, 1)) (hp : pc + 1 = pc1) (hc : v.category = 1) (k : Sm p l e R s m args below meth c G nL Q cells slots ws pc1 L (v :: v :: st) o) : Sm p l e R s m args below meth c G nL Q cells slots ws pc L (v :: st) o := by
  subst hp
  exact fun a ha H locs ls h1 h2 h3 h4 h5 => lv_dup X.1 X.2.1 hd hc (k a ha H locs ls h1 h2 h3 h4 h5)
theorem sm_pop (X : Cx p s m args meth c cc nL own G) (pc1 : Nat) {v : Value} (hd : decode cc pc = .ok (.pop, 1)) (hp : pc + 1 = pc1) (hc : v.category = 1) (k : Sm p l e R s m args below meth c G nL Q cells slots ws pc1 L (st) o) : Sm p l e R s m args below meth c G nL Q cells slots ws pc L (v :: st) o := by
  subst hp
  exact fun a ha H locs ls h1 h2 h3 h4 h5 => lv_pop X.1 X.2.1 hd hc (k a ha H locs ls h1 h2 h3 h4 h5)
theorem sm_dup2 (X : Cx p s m args meth c cc nL own G) (pc1 : Nat) {v w : Value} (hd : decode cc pc = .ok (.dup2, 1)) (hp : pc + 1 = pc1) (hc : v.category = 1) (hc2 : w.category = 1) (k : Sm p l e R s m args below meth c G nL Q cells slots ws pc1 L (v :: w :: v :: w :: st) o) : Sm p l e R s m args below meth c G nL Q cells slots ws pc L (v :: w :: st) o := by
  subst hp
  exact fun a ha H locs ls h1 h2 h3 h4 h5 => lv_dup2_11 X.1 X.2.1 hd hc hc2 (k a ha H locs ls h1 h2 h3 h4 h5)
theorem sm_goto (X : Cx p s m args meth c cc nL own G) {off : Int} (tgt : Nat) (hd : decode cc pc = .ok (.goto off, 3)) (ht : (pc : Int) + off = (tgt : Int)) (k : Sm p l e R s m args below meth c G nL Q cells slots ws tgt L st o) : Sm p l e R s m args below meth c G nL Q cells slots ws pc L st o :=
  fun a ha H locs ls h1 h2 h3 h4 h5 => lv_goto X.1 X.2.1 hd ht (k a ha H locs ls h1 h2 h3 h4 h5)
theorem sm_icmp_eq (X : Cx p s m args meth c cc nL own G) (pc1 : Nat) {x y : Int32} {off : Int} (tgt : Nat) {o1 o2 : Option α} (hd : decode cc pc = .ok (.if_icmp .eq off, 3)) (hp : pc + 3 = pc1) (ht : (pc : Int) + off = (tgt : Int)) 
    (k1 : x = y → Sm p l e R s m args below meth c G nL Q cells slots ws tgt L st o1) (k2 : ¬ x = y → Sm p l e R s m args below meth c G nL Q cells slots ws pc1 L st o2) : Sm p l e R s m args below meth c G nL Q cells slots ws pc L (.int y :: .int x :: st) (if x = y then o1 else o2) := by
  subst hp
  exact fun a ha H locs ls h1 h2 h3 h4 h5 => lv_icmp_eq X.1 X.2.1 hd ht (fun q => k1 q a (by rw [if_pos q] at ha; exact ha) H locs ls h1 h2 h3 h4 h5) (fun q => k2 q a (by rw [if_neg q] at ha; exact ha) H locs ls h1 h2 h3 h4 h5)
theorem sm_icmp_lt (X : Cx p s m args meth c cc nL own G) (pc1 : Nat) {x y : Int32} {off : Int} (tgt : Nat) {o1 o2 : Option α} (hd : decode cc pc = .ok (.if_icmp .lt off, 3)) (hp : pc + 3 = pc1) (ht : (pc : Int) + off = (tgt : Int)) 
    (k1 : x < y → Sm p l e R s m args below meth c G nL Q cells slots ws tgt L st o1) (k2 : ¬ x < y → Sm p l e R s m args below meth c G nL Q cells slots ws pc1 L st o2) : Sm p l e R s m args below meth c G nL Q cells slots ws pc L (.int y :: .int x :: st) (if x < y then o1 else o2) := by
  subst hp
  exact fun a ha H locs ls h1 h2 h3 h4 h5 => lv_icmp_lt X.1 X.2.1 hd ht (fun q => k1 q a (by rw [if_pos q] at ha; exact ha) H locs ls h1 h2 h3 h4 h5) (fun q => k2 q a (by rw [if_neg q] at ha; exact ha) H locs ls h1 h2 h3 h4 h5)
theorem sm_icmp_ge (X : Cx p s m args meth c cc nL own G) (pc1 : Nat) {x y : Int32} {off : Int} (tgt : Nat) {o1 o2 : Option α} (hd : decode cc pc = .ok (.if_icmp .ge off, 3)) (hp : pc + 3 = pc1) (ht : (pc : Int) + off = (tgt : Int)) 
    (k1 : y ≤ x → Sm p l e R s m args below meth c G nL Q cells slots ws tgt L st o1) (k2 : ¬ y ≤ x → Sm p l e R s m args below meth c G nL Q cells slots ws pc1 L st o2) : Sm p l e R s m args below meth c G nL Q cells slots ws pc L (.int y :: .int x :: st) (if y ≤ x then o1 else o2) := by
  subst hp
  exact fun a ha H locs ls h1 h2 h3 h4 h5 => lv_icmp_ge X.1 X.2.1 hd ht (fun q => k1 q a (by rw [if_pos q] at ha; exact ha) H locs ls h1 h2 h3 h4 h5) (fun q => k2 q a (by rw [if_neg q] at ha; exact ha) H locs ls h1 h2 h3 h4 h5)
theorem sm_icmp_gt (X : Cx p s m args meth c cc nL own G) (pc1 : Nat) {x y : Int32} {off : Int} (tgt : Nat) {o1 o2 : Option α} (hd : decode cc pc = .ok (.if_icmp .gt off, 3)) (hp : pc + 3 = pc1) (ht : (pc : Int) + off = (tgt : Int)) 
    (k1 : y < x → Sm p l e R s m args below meth c G nL Q cells slots ws tgt L st o1) (k2 : ¬ y < x → Sm p l e R s m args below meth c G nL Q cells slots ws pc1 L st o2) : Sm p l e R s m args below meth c G nL Q cells slots ws pc L (.int y :: .int x :: st) (if y < x then o1 else o2) := by
  subst hp
  exact fun a ha H locs ls h1 h2 h3 h4 h5 => lv_icmp_gt X.1 X.2.1 hd ht (fun q => k1 q a (by rw [if_pos q] at ha; exact ha) H locs ls h1 h2 h3 h4 h5) (fun q => k2 q a (by rw [if_neg q] at ha; exact ha) H locs ls h1 h2 h3 h4 h5)
theorem sm_icmp_le (X : Cx p s m args meth c cc nL own G) (pc1 : Nat) {x y : Int32} {off : Int} (tgt : Nat) {o1 o2 : Option α} (hd : decode cc pc = .ok (.if_icmp .le off, 3)) (hp : pc + 3 = pc1) (ht : (pc : Int) + off = (tgt : Int)) 
    (k1 : x ≤ y → Sm p l e R s m args below meth c G nL Q cells slots ws tgt L st o1) (k2 : ¬ x ≤ y → Sm p l e R s m args below meth c G nL Q cells slots ws pc1 L st o2) : Sm p l e R s m args below meth c G nL Q cells slots ws pc L (.int y :: .int x :: st) (if x ≤ y then o1 else o2) := by
  subst hp
  exact fun a ha H locs ls h1 h2 h3 h4 h5 => lv_icmp_le X.1 X.2.1 hd ht (fun q => k1 q a (by rw [if_pos q] at ha; exact ha) H locs ls h1 h2 h3 h4 h5) (fun q => k2 q a (by rw [if_neg q] at ha; exact ha) H locs ls h1 h2 h3 h4 h5)
theorem sm_icmp_ne (X : Cx p s m args meth c cc nL own G) (pc1 : Nat) {x y : Int32} {off : Int} (tgt : Nat) {o1 o2 : Option α} (hd : decode cc pc = .ok (.if_icmp .ne off, 3)) (hp : pc + 3 = pc1) (ht : (pc : Int) + off = (tgt : Int)) 
    (k1 : x = y → Sm p l e R s m args below meth c G nL Q cells slots ws pc1 L st o1) (k2 : ¬ x = y → Sm p l e R s m args below meth c G nL Q cells slots ws tgt L st o2) : Sm p l e R s m args below meth c G nL Q cells slots ws pc L (.int y :: .int x :: st) (if x = y then o1 else o2) := by
  subst hp
  exact fun a ha H locs ls h1 h2 h3 h4 h5 => lv_icmp_ne X.1 X.2.1 hd ht (fun q => k2 q a (by rw [if_neg q] at ha; exact ha) H locs ls h1 h2 h3 h4 h5) (fun q => k1 q a (by rw [if_pos q] at ha; exact ha) H locs ls h1 h2 h3 h4 h5)
theorem sm_if_eq (X : Cx p s m args meth c cc nL own G) (pc1 : Nat) {x : Int32} {off : Int} (tgt : Nat) {o1 o2 : Option α} (hd : decode cc pc = .ok (.ifCond .eq off, 3)) (hp : pc + 3 = pc1) (ht : (pc : Int) + off = (tgt : Int)) 
    (k1 : x = 0 → Sm p l e R s m args below meth c G nL Q cells slots ws tgt L st o1) (k2 : ¬ x = 0 → Sm p l e R s m args below meth c G nL Q cells slots ws pc1 L st o2) : Sm p l e R s m args below meth c G nL Q cells slots ws pc L (.int x :: st) (if x = 0 then o1 else o2) := by
  subst hp
  exact fun a ha H locs ls h1 h2 h3 h4 h5 => lv_if_eq X.1 X.2.1 hd ht (fun q => k1 q a (by rw [if_pos q] at ha; exact ha) H locs ls h1 h2 h3 h4 h5) (fun q => k2 q a (by rw [if_neg q] at ha; exact ha) H locs ls h1 h2 h3 h4 h5)
theorem sm_if_lt (X : Cx p s m args meth c cc nL own G) (pc1 : Nat) {x : Int32} {off : Int} (tgt : Nat) {o1 o2 : Option α} (hd : decode cc pc = .ok (.ifCond .lt off, 3)) (hp : pc + 3 = pc1) (ht : (pc : Int) + off = (tgt : Int)) 
    (k1 : x < 0 → Sm p l e R s m args below meth c G nL Q cells slots ws tgt L st o1) (k2 : ¬ x < 0 → Sm p l e R s m args below meth c G nL Q cells slots ws pc1 L st o2) : Sm p l e R s m args below meth c G nL Q cells slots ws pc L (.int x :: st) (if x < 0 then o1 else o2) := by
  subst hp
  exact fun a ha H locs ls h1 h2 h3 h4 h5 => lv_if_lt X.1 X.2.1 hd ht (fun q => k1 q a (by rw [if_pos q] at ha; exact ha) H locs ls h1 h2 h3 h4 h5) (fun q => k2 q a (by rw [if_neg q] at ha; exact ha) H locs ls h1 h2 h3 h4 h5)
theorem sm_if_ge (X : Cx p s m args meth c cc nL own G) (pc1 : Nat) {x : Int32} {off : Int} (tgt : Nat) {o1 o2 : Option α} (hd : decode cc pc = .ok (.ifCond .ge off, 3)) (hp : pc + 3 = pc1) (ht : (pc : Int) + off = (tgt : Int)) 
    (k1 : 0 ≤ x → Sm p l e R s m args below meth c G nL Q cells slots ws tgt L st o1) (k2 : ¬ 0 ≤ x → Sm p l e R s m args below meth c G nL Q cells slots ws pc1 L st o2) : Sm p l e R s m args below meth c G nL Q cells slots ws pc L (.int x :: st) (if 0 ≤ x then o1 else o2) := by
  subst hp
  exact fun a ha H locs ls h1 h2 h3 h4 h5 => lv_if_ge X.1 X.2.1 hd ht (fun q => k1 q a (by rw [if_pos q] at ha; exact ha) H locs ls h1 h2 h3 h4 h5) (fun q => k2 q a (by rw [if_neg q] at ha; exact ha) H locs ls h1 h2 h3 h4 h5)
theorem sm_if_gt (X : Cx p s m args meth c cc nL own G) (pc1 : Nat) {x : Int32} {off : Int} (tgt : Nat) {o1 o2 : Option α} (hd : decode cc pc = .ok (.ifCond .gt off, 3)) (hp : pc + 3 = pc1) (ht : (pc : Int) + off = (tgt : Int)) 
    (k1 : 0 < x → Sm p l e R s m args below meth c G nL Q cells slots ws tgt L st o1) (k2 : ¬ 0 < x → Sm p l e R s m args below meth c G nL Q cells slots ws pc1 L st o2) : Sm p l e R s m args below meth c G nL Q cells slots ws pc L (.int x :: st) (if 0 < x then o1 else o2) := by
  subst hp
  exact fun a ha H locs ls h1 h2 h3 h4 h5 => lv_if_gt X.1 X.2.1 hd ht (fun q => k1 q a (by rw [if_pos q] at ha; exact ha) H locs ls h1 h2 h3 h4 h5) (fun q => k2 q a (by rw [if_neg q] at ha; exact ha) H locs ls h1 h2 h3 h4 h5)
theorem sm_if_le (X : Cx p s m args meth c cc nL own G) (pc1 : Nat) {x : Int32} {off : Int} (tgt : Nat) {o1 o2 : Option α} (hd : decode cc pc = .ok (.ifCond .le off, 3)) (hp : pc + 3 = pc1) (ht : (pc : Int) + off = (tgt : Int)) 
    (k1 : x ≤ 0 → Sm p l e R s m args below meth c G nL Q cells slots ws tgt L st o1) (k2 : ¬ x ≤ 0 → Sm p l e R s m args below meth c G nL Q cells slots ws pc1 L st o2) : Sm p l e R s m args below meth c G nL Q cells slots ws pc L (.int x :: st) (if x ≤ 0 then o1 else o2) := by
  subst hp
  exact fun a ha H locs ls h1 h2 h3 h4 h5 => lv_if_le X.1 X.2.1 hd ht (fun q => k1 q a (by rw [if_pos q] at ha; exact ha) H locs ls h1 h2 h3 h4 h5) (fun q => k2 q a (by rw [if_neg q] at ha; exact ha) H locs ls h1 h2 h3 h4 h5)
theorem sm_if_ne (X : Cx p s m args meth c cc nL own G) (pc1 : Nat) {x : Int32} {off : Int} (tgt : Nat) {o1 o2 : Option α} (hd : decode cc pc = .ok (.ifCond .ne off, 3)) (hp : pc + 3 = pc1) (ht : (pc : Int) + off = (tgt : Int)) 
    (k1 : x = 0 → Sm p l e R s m args below meth c G nL Q cells slots ws pc1 L st o1) (k2 : ¬ x = 0 → Sm p l e R s m args below meth c G nL Q cells slots ws tgt L st o2) : Sm p l e R s m args below meth c G nL Q cells slots ws pc L (.int x :: st) (if x = 0 then o1 else o2) := by
  subst hp
  exact fun a ha H locs ls h1 h2 h3 h4 h5 => lv_if_ne X.1 X.2.1 hd ht (fun q => k2 q a (by rw [if_neg q] at ha; exact ha) H locs ls h1 h2 h3 h4 h5) (fun q => k1 q a (by rw [if_pos q] at ha; exact ha) H locs ls h1 h2 h3 h4 h5)
def b2i (b : Bool) : Int32 := cond b 1 0
theorem b2i_0 (b : Bool) : (b2i b = 0) ↔ ¬ b = true := by cases b <;> decide
theorem sm_ifz_eq (X : Cx p s m args meth c cc nL own G) (pc1 : Nat) {b : Bool} {off : Int} (tgt : Nat) {o1 o2 : Option α} (hd : decode cc pc = .ok (.ifCond .eq off, 3)) (hp : pc + 3 = pc1) (ht : (pc : Int) + off = (tgt : Int)) (k1 : b = true → Sm p l e R s m args below meth c G nL Q cells slots ws pc1 L st o1) (k2 : ¬ b = true → Sm p l e R s m args below meth c G nL Q cells slots ws tgt L st o2) : Sm p l e R s m args below meth c G nL Q cells slots ws pc L (.int (b2i b) :: st) (if b = true then o1 else o2) := by
  have h := sm_if_eq (ws := ws) (L := L) (st := st) X pc1 (x := b2i b) tgt (o1 := o2) (o2 := o1) hd hp ht (fun h => k2 ((b2i_0 b).mp h)) (fun h => k1 (Classical.byContradiction fun q => h ((b2i_0 b).mpr q)))
  have e : (if b = true then o1 else o2) = (if b2i b = 0 then o2 else o1) := by cases b <;> rfl
  rw [e]; exact h
theorem sm_ifz_ne (X : Cx p s m args meth c cc nL own G) (pc1 : Nat) {b : Bool} {off : Int} (tgt : Nat) {o1 o2 : Option α} (hd : decode cc pc = .ok (.ifCond .ne off, 3)) (hp : pc + 3 = pc1) (ht : (pc : Int) + off = (tgt : Int)) (k1 : b = true → Sm p l e R s m args below meth c G nL Q cells slots ws tgt L st o1) (k2 : ¬ b = true → Sm p l e R s m args below meth c G nL Q cells slots ws pc1 L st o2) : Sm p l e R s m args below meth c G nL Q cells slots ws pc L (.int (b2i b) :: st) (if b = true then o1 else o2) := by
  have h := sm_if_ne (ws := ws) (L := L) (st := st) X pc1 (x := b2i b) tgt (o1 := o2) (o2 := o1) hd hp ht (fun h => k2 ((b2i_0 b).mp h)) (fun h => k1 (Classical.byContradiction fun q => h ((b2i_0 b).mpr q)))
  have e : (if b = true then o1 else o2) = (if b2i b = 0 then o2 else o1) := by cases b <;> rfl
  rw [e]; exact h
def onN {γ : Type} (r : Option Nat) (a : γ) (b : Nat → γ) : γ := match r with
  | none => a
  | some k => b k
theorem sm_ifnull (X : Cx p s m args meth c cc nL own G) (pc1 : Nat) {r : Option Nat} {off : Int} (tgt : Nat) {o1 : Option α} {o2 : Nat → Option α} (hd : decode cc pc = .ok (.ifnull off, 3)) (hp : pc + 3 = pc1) (ht : (pc : Int) + off = (tgt : Int)) (k1 : r = none → Sm p l e R s m args below meth c G nL Q cells slots ws tgt L st o1) (k2 : ∀ k, r = some k → Sm p l e R s m args below meth c G nL Q cells slots ws pc1 L st (o2 k)) : Sm p l e R s m args below meth c G nL Q cells slots ws pc L (va_re (gad G) r :: st) (onN r o1 o2) := by
  subst hp
  cases r with
  | none => exact fun a ha H locs ls h1 h2 h3 h4 h5 => lv_ifnullN X.1 X.2.1 hd ht (k1 rfl a ha H locs ls h1 h2 h3 h4 h5)
  | some k => exact fun a ha H locs ls h1 h2 h3 h4 h5 => lv_ifnull X.1 X.2.1 hd (k2 k rfl a ha H locs ls h1 h2 h3 h4 h5)
theorem sm_ifnonnull (X : Cx p s m args meth c cc nL own G) (pc1 : Nat) {r : Option Nat} {off : Int} (tgt : Nat) {o1 : Option α} {o2 : Nat → Option α} (hd : decode cc pc = .ok (.ifnonnull off, 3)) (hp : pc + 3 = pc1) (ht : (pc : Int) + off = (tgt : Int)) (k1 : r = none → Sm p l e R s m args below meth c G nL Q cells slots ws pc1 L st o1) (k2 : ∀ k, r = some k → Sm p l e R s m args below meth c G nL Q cells slots ws tgt L st (o2 k)) : Sm p l e R s m args below meth c G nL Q cells slots ws pc L (va_re (gad G) r :: st) (onN r o1 o2) := by
  subst hp
  cases r with
  | none => exact fun a ha H locs ls h1 h2 h3 h4 h5 => lv_ifnonnullN X.1 X.2.1 hd (k1 rfl a ha H locs ls h1 h2 h3 h4 h5)
  | some k => exact fun a ha H locs ls h1 h2 h3 h4 h5 => lv_ifnonnull X.1 X.2.1 hd ht (k2 k rfl a ha H locs ls h1 h2 h3 h4 h5)
theorem sm_table (X : Cx p s m args meth c cc nL own G) {dflt lo hi : Int} {offs : Array Int} {len : Nat} {x : Int32} {off : Int} (tgt : Nat) (hd : decode cc pc = .ok (.tableswitch dflt lo hi offs, len)) (g1 : ¬ x.toInt < lo) (g2 : ¬ hi < x.toInt) (ho : offs[(x.toInt - lo).toNat]? = some off) (ht : (pc : Int) + off = (tgt : Int)) (k : Sm p l e R s m args below meth c G nL Q cells slots ws tgt L st o) : Sm p l e R s m args below meth c G nL Q cells slots ws pc L (.int x :: st) o :=
  fun a ha H locs ls h1 h2 h3 h4 h5 => lv_tableIn X.1 X.2.1 hd g1 g2 ho ht (k a ha H locs ls h1 h2 h3 h4 h5)
theorem sm_tableD (X : Cx p s m args meth c cc nL own G) {dflt lo hi : Int} {offs : Array Int} {len : Nat} {x : Int32} (tgt : Nat) (hd : decode cc pc = .ok (.tableswitch dflt lo hi offs, len)) (g : x.toInt < lo ∨ hi < x.toInt) (ht : (pc : Int) + dflt = (tgt : Int)) (k : Sm p l e R s m args below meth c G nL Q cells slots ws tgt L st o) : Sm p l e R s m args below meth c G nL Q cells slots ws pc L (.int x :: st) o :=
  fun a ha H locs ls h1 h2 h3 h4 h5 => lv_tableOut X.1 X.2.1 hd g ht (k a ha H locs ls h1 h2 h3 h4 h5)
theorem sm_lookup (X : Cx p s m args meth c cc nL own G) {dflt : Int} {ps : Array (Int × Int)} {len : Nat} {x : Int32} {off : Int} (tgt : Nat) (hd : decode cc pc = .ok (.lookupswitch dflt ps, len)) (hp : (ps.toList.zip (ps.toList.drop 1)).all (fun (a, next) => a.1 < next.1) = true) (ho : Op.lookupswitch.offset ps.toList dflt x.toInt = off) (ht : (pc : Int) + off = (tgt : Int)) (k : Sm p l e R s m args below meth c G nL Q cells slots ws tgt L st o) : Sm p l e R s m args below meth c G nL Q cells slots ws pc L (.int x :: st) o :=
  fun a ha H locs ls h1 h2 h3 h4 h5 => lv_lookup X.1 X.2.1 hd hp ho ht (k a ha H locs ls h1 h2 h3 h4 h5)
theorem ne_toInt {x k : Int32} (h : ¬ x = k) : ¬ x.toInt = k.toInt := fun q => h (Int32.toInt_inj.mp q)
theorem sm_ldc (X : Cx p s m args meth c cc nL own G) (pc1 : Nat) {index : Nat} (v : Int32) (hd : decode cc pc = .ok (.ldc index, 2)) (hp : pc + 2 = pc1) (hq : Cond.constant own index v ∈ TB) (k : Sm p l e R s m args below meth c G nL Q cells slots ws pc1 L (.int v :: st) o) : Sm p l e R s m args below meth c G nL Q cells slots ws pc L st o := by
  subst hp
  exact fun a ha H locs ls h1 h2 h3 h4 h5 => lv_ldc X.1 X.2.1 X.2.2.2.2.2.1 (X.2.2.2.2.1 _ hq) hd (k a ha H locs ls h1 h2 h3 h4 h5)
theorem sm_ldcw (X : Cx p s m args meth c cc nL own G) (pc1 : Nat) {index : Nat} (v : Int32) (hd : decode cc pc = .ok (.ldc_w index, 3)) (hp : pc + 3 = pc1) (hq : Cond.constant own index v ∈ TB) (k : Sm p l e R s m args below meth c G nL Q cells slots ws pc1 L (.int v :: st) o) : Sm p l e R s m args below meth c G nL Q cells slots ws pc L st o := by
  subst hp
  exact fun a ha H locs ls h1 h2 h3 h4 h5 => lv_ldcw X.1 X.2.1 X.2.2.2.2.2.1 (X.2.2.2.2.1 _ hq) hd (k a ha H locs ls h1 h2 h3 h4 h5)
theorem sm_ldc2 (X : Cx p s m args meth c cc nL own G) (pc1 : Nat) {index : Nat} (v : Int64) (hd : decode cc pc = .ok (.ldc2_w index, 3)) (hp : pc + 3 = pc1) (hq : Cond.constantLong own index v ∈ TB) (k : Sm p l e R s m args below meth c G nL Q cells slots ws pc1 L (.long v :: st) o) : Sm p l e R s m args below meth c G nL Q cells slots ws pc L st o := by
  subst hp
  exact fun a ha H locs ls h1 h2 h3 h4 h5 => lv_ldc2 X.1 X.2.1 X.2.2.2.2.2.1 (X.2.2.2.2.1 _ hq) hd (k a ha H locs ls h1 h2 h3 h4 h5)
theorem sm_ldcS (X : Cx p s m args meth c cc nL own G) (pc1 : Nat) {index : Nat} {tx : String} (i : Nat) (hd : decode cc pc = .ok (.ldc index, 2)) (hp : pc + 2 = pc1) (ho : own = RX3) (hq : ((index, tx), i) ∈ sA.zipIdx) (k : Sm p l e R s m args below meth c G nL Q cells slots ws pc1 L (.ref (gad G (1003 + i)) :: st) o) : Sm p l e R s m args below meth c G nL Q cells slots ws pc L st o := by
  subst hp
  subst ho
  exact fun a ha H locs ls h1 h2 h3 h4 h5 => va_ldcS X.1 X.2.1 X.2.2.2.2.2.1 (X.2.2.2.2.2.2.2.1.2.2.2.2.2.2.2.2.1 _ hq) hd (k a ha H locs ls h1 h2 h3 h4 h5)
end SM
