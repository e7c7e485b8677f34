/-! The making of the world: cells that stand one behind another, from the class's first to the reference's last. -/
abbrev Bst : Type := Nat × (Nat → Nat → Int32) × (Nat → Nat → Option Nat)
def bv (G : GT) (b : Bst) (k j t : Nat) : Value := if t = 0 then .int (b.2.1 k j) else va_re (gad G) (b.2.2 k j)
def bl (G : GT) (b : Bst) (k c : Nat) : List Value := (FT c).mapIdx (fun j t => bv G b k j t)
def bce (G : GT) (b : Bst) (k : Nat) : va_E := if K0 k < 10 then .inr (K0 k, bl G b k (K0 k)) else if K0 k = 20 then .inl (gy G 0, Ln0 k, .inl (b.2.1 k)) else .inl (gy G (K0 k - 20), Ln0 k, .inr (.inr (.inr (.inr (fun j => (b.2.2 k j).map (gad G))))))
def wb (G : GT) (b : Bst) : va_W := (List.range b.1).map (fun k => (gad G k, bce G b k))
/-- a new cell, all 0 and null -/
def bN (b : Bst) : Bst := (b.1 + 1, fun a j => if a = b.1 then 0 else b.2.1 a j, fun a j => if a = b.1 then none else b.2.2 a j)
def bI (b : Bst) (k j : Nat) (v : Int32) : Bst := (b.1, fun a c => if a = k ∧ c = j then v else b.2.1 a c, b.2.2)
def bR (b : Bst) (k j : Nat) (v : Option Nat) : Bst := (b.1, b.2.1, fun a c => if a = k ∧ c = j then v else b.2.2 a c)
def GA (G : GT) : Prop := ∀ k, k < NC → gad G k = gb G + k
section WB
variable {G : GT} {b b' : Bst}
theorem wb_len : (wb G b).length = b.1 := by simp [wb]
theorem wb_at {k : Nat} (hk : k < b.1) : (wb G b)[k]? = some (gad G k, bce G b k) := by simp [wb, hk]
theorem bce_obj {k ci : Nat} (hk : K0 k = ci) (hc : ci < 10) : bce G b k = .inr (ci, bl G b k ci) := by subst hk; simp [bce, hc]
theorem bce_arr {k : Nat} (hk : K0 k = 20) : bce G b k = .inl (gy G 0, Ln0 k, .inl (b.2.1 k)) := by simp [bce, hk]
theorem bce_arrR {k i : Nat} (hk : K0 k = 20 + i) (hi : 0 < i) : bce G b k = .inl (gy G i, Ln0 k, .inr (.inr (.inr (.inr (fun j => (b.2.2 k j).map (gad G)))))) := by
  unfold bce
  rw [if_neg (by omega), if_neg (by omega), show K0 k - 20 = i by omega]
theorem wb_obj {k ci : Nat} (hb : k < b.1) (hk : K0 k = ci) (hc : ci < 10) : (wb G b)[k]? = some (gad G k, .inr (ci, bl G b k ci)) := by rw [wb_at hb, bce_obj hk hc]
theorem wb_arr {k : Nat} (hb : k < b.1) (hk : K0 k = 20) : (wb G b)[k]? = some (gad G k, .inl (gy G 0, Ln0 k, .inl (b.2.1 k))) := by rw [wb_at hb, bce_arr hk]
theorem wb_arrR {k i : Nat} (hb : k < b.1) (hk : K0 k = 20 + i) (hi : 0 < i) : (wb G b)[k]? = some (gad G k, .inl (gy G i, Ln0 k, .inr (.inr (.inr (.inr (fun j => (b.2.2 k j).map (gad G))))))) := by rw [wb_at hb, bce_arrR hk hi]
theorem bce_congr {i : Nat} (h1 : b'.2.1 i = b.2.1 i) (h2 : b'.2.2 i = b.2.2 i) : bce G b' i = bce G b i := by
  have e : ∀ c, bl G b' i c = bl G b i c := fun c => by simp only [bl, bv, h1, h2]
  simp only [bce, e, h1, h2]
theorem wb_setc {k : Nat} {e : va_E} (hb : k < b.1) (hn : b'.1 = b.1) (he : bce G b' k = e) (ho : ∀ i, i ≠ k → bce G b' i = bce G b i) : (wb G b).set k (gad G k, e) = wb G b' := by
  apply List.ext_getElem?
  intro i
  by_cases h : i = k
  · subst h
    rw [List.getElem?_set_self (by rw [wb_len]; exact hb), wb_at (by rw [hn]; exact hb), he]
  · rw [List.getElem?_set_ne (Ne.symm h)]
    by_cases hi : i < b.1
    · rw [wb_at hi, wb_at (by rw [hn]; exact hi), ho i h]
    · rw [List.getElem?_eq_none (by rw [wb_len]; omega), List.getElem?_eq_none (by rw [wb_len]; omega)]
theorem bl_at {k ci j t : Nat} (ht : (FT ci)[j]? = some t) : (bl G b k ci)[j]? = some (bv G b k j t) := by
  simp [bl, List.getElem?_mapIdx, ht]
theorem bl_len {k ci : Nat} : (bl G b k ci).length = (FT ci).length := by simp [bl]
theorem bl_setI {k ci j : Nat} {v : Int32} (ht : (FT ci)[j]? = some 0) : (bl G b k ci).set j (.int v) = bl G (bI b k j v) k ci := by
  apply List.ext_getElem?
  intro i
  by_cases h : i = j
  · subst h
    have hl : i < (bl G b k ci).length := by rw [bl_len]; exact (List.getElem?_eq_some_iff.mp ht).1
    rw [List.getElem?_set_self hl, bl_at ht]
    simp [bv, bI]
  · rw [List.getElem?_set_ne (Ne.symm h)]
    simp only [bl, List.getElem?_mapIdx]
    cases (FT ci)[i]? with
    | none => rfl
    | some t => simp [bv, bI, h]
theorem bl_setR {k ci j t : Nat} {v : Option Nat} (h0 : t ≠ 0) (ht : (FT ci)[j]? = some t) : (bl G b k ci).set j (va_re (gad G) v) = bl G (bR b k j v) k ci := by
  apply List.ext_getElem?
  intro i
  by_cases h : i = j
  · subst h
    have hl : i < (bl G b k ci).length := by rw [bl_len]; exact (List.getElem?_eq_some_iff.mp ht).1
    rw [List.getElem?_set_self hl, bl_at ht]
    simp [bv, bR, h0]
  · rw [List.getElem?_set_ne (Ne.symm h)]
    simp only [bl, List.getElem?_mapIdx]
    cases (FT ci)[i]? with
    | none => rfl
    | some t => simp [bv, bR, h]
theorem wb_setI {k ci j : Nat} {v : Int32} (hb : k < b.1) (hk : K0 k = ci) (hc : ci < 10) (ht : (FT ci)[j]? = some 0) : (wb G b).set k (gad G k, .inr (ci, (bl G b k ci).set j (.int v))) = wb G (bI b k j v) :=
  wb_setc hb rfl (by rw [bce_obj hk hc, bl_setI ht]) (fun i h => bce_congr (by funext c; simp [bI, h]) rfl)
theorem wb_setR {k ci j t : Nat} {v : Option Nat} (hb : k < b.1) (hk : K0 k = ci) (hc : ci < 10) (h0 : t ≠ 0) (ht : (FT ci)[j]? = some t) : (wb G b).set k (gad G k, .inr (ci, (bl G b k ci).set j (va_re (gad G) v))) = wb G (bR b k j v) :=
  wb_setc hb rfl (by rw [bce_obj hk hc, bl_setR h0 ht]) (fun i h => bce_congr rfl (by funext c; simp [bR, h]))
theorem wb_setA {k j : Nat} {v : Int32} (hb : k < b.1) (hk : K0 k = 20) : (wb G b).set k (gad G k, .inl (gy G 0, Ln0 k, .inl (upd (b.2.1 k) j v))) = wb G (bI b k j v) :=
  wb_setc hb rfl (by
    rw [bce_arr hk]
    have e : (bI b k j v).2.1 k = upd (b.2.1 k) j v := by funext c; simp [bI, upd]
    rw [e]) (fun i h => bce_congr (by funext c; simp [bI, h]) rfl)
theorem wb_setQ {k i j v : Nat} (hb : k < b.1) (hk : K0 k = 20 + i) (hi : 0 < i) : (wb G b).set k (gad G k, .inl (gy G i, Ln0 k, .inr (.inr (.inr (.inr (va_up (fun j => (b.2.2 k j).map (gad G)) j (some (gad G v)))))))) = wb G (bR b k j (some v)) :=
  wb_setc hb rfl (by
    rw [bce_arrR hk hi]
    have e : (fun c => ((bR b k j (some v)).2.2 k c).map (gad G)) = va_up (fun j => (b.2.2 k j).map (gad G)) j (some (gad G v)) := by
      funext c
      by_cases h : c = j
      · subst h; simp [bR, va_up]
      · simp [bR, va_up, h]
    rw [e]) (fun i h => bce_congr rfl (by funext c; simp [bR, h]))
theorem wb_push : wb G (bN b) = wb G b ++ [(gad G b.1, bce G (bN b) b.1)] := by
  have h : (List.range b.1).map (fun k => (gad G k, bce G (bN b) k)) = (List.range b.1).map (fun k => (gad G k, bce G b k)) := by
    refine List.map_congr_left (fun k hk => ?_)
    have hlt := List.mem_range.mp hk
    have hne : k ≠ b.1 := Nat.ne_of_lt hlt
    rw [bce_congr (b := b) (b' := bN b) (by funext c; simp [bN, hne]) (by funext c; simp [bN, hne])]
  show (List.range (b.1 + 1)).map _ = _
  rw [List.range_succ, List.map_append, h]
  rfl
theorem bl_new {ci j t : Nat} (ht : (FT ci)[j]? = some t) : vp_V (bl G (bN b) b.1 ci) j = if t = 0 then .int 0 else .null := by
  unfold vp_V
  rw [List.getD_eq_getElem?_getD, bl_at ht]
  by_cases h : t = 0
  · simp [bv, bN, h]
  · simp [bv, bN, h, va_re, va_rf]
end WB
/-- what a class's fields hold when an object is new -/
def DF (ci N : Nat) (ty : Nat → FieldType) : Prop := ∀ j, j < N → ∃ t, (FT ci)[j]? = some t ∧ defaultValue (ty j) = if t = 0 then .int 0 else .null
section SB
variable {p : Program} {l : Launch} {e : Env} {R : Room} {s : State} {m : MethodId} {args : Array Value} {below : List Frame} {meth : Method} {c : Code} {cells slots : Nat}
variable {cc : ByteArray} {nL : Nat} {own : String} {G : GT} {α : Type} {Q : α → State → Prop} {ws : va_W} {pc : Nat} {L : List (Nat × Value)} {st : List Value} {o : Option α} {b : Bst}
theorem sb_new (X : Cx p s m args meth c cc nL own G) (pc1 : Nat) {ci index N : Nat} {C : String} {T : u_T} {ty : Nat → FieldType} (hG : GA G) (n c1 s1 : Nat) (hn : b.1 = n) (hn1 : n < NC) (hk : K0 n = ci) (hc10 : ci < 10) (hc : vwCl[ci]? = some (C, T, N)) (hin : ∀ w ∈ u_ws C T N, w ∈ TB) (hty : ∀ k, k < N → parseFieldDescriptor (T k).2.2.1 = some (ty k)) (hfs : DF ci N ty) (hlk : Cond.classLink own index C ∈ TB) (hinst : Cond.instantiable C N ∈ TB) (hini : Cond.initialized C ∈ TB) (hc1 : cells + 1 = c1) (hs1 : slots + N = s1) (hR : c1 ≤ R.cells ∧ s1 ≤ R.slots) (hd : decode cc pc = .ok (.new index, 3)) (hp : pc + 3 = pc1)
    (kk : ∀ b', b' = bN b → b'.1 = n + 1 → Sm p l e R s m args below meth c G nL Q c1 s1 (wb G b') pc1 L (.ref (gad G n) :: st) o) : Sm p l e R s m args below meth c G nL Q cells slots (wb G b) pc L st o := by
  subst hp; subst hc1; subst hs1; subst hn
  intro a ha H locs ls h1 h2 h3 h4 h5
  have hsz : H.size = gad G b.1 := by rw [hG _ hn1]; have := h1 (by rw [wb_len]; exact hn1); rwa [wb_len] at this
  have hA : smA G (gad G b.1) := by show gb G ≤ _; rw [hG _ hn1]; omega
  have hKn := X.2.2.2.2.2.2.1.1 ci _ hc
  refine W.newcK X.1 X.2.1 X.2.2.2.2.2.1 (X.2.2.2.2.1 _ hlk) (X.2.2.2.2.1 _ hinst) (X.2.2.2.2.1 _ hini) rfl hd hR.1 hR.2 hKn.2.1 hsz fun H1 kC hkC e1 z1 o1 => ?_
  have hk' : ∀ (k : Nat) (x : Nat × va_E), (wb G b)[k]? = some x → H1[x.1]? = H[x.1]? := fun k x hx => o1 x.1 (hsz ▸ (h2 k x hx).lt)
  have hpu := wb_push (G := G) (b := b)
  rw [bce_obj hk hc10] at hpu
  have g1 : va_P (gD G) vwCl (wb G (bN b)) H1 := by
    rw [hpu]
    refine (h2.kept hk').app (fun k x hx => ?_)
    have hz : k < 1 := (List.getElem?_eq_some_iff.mp hx).1
    rw [show k = 0 by omega] at hx
    cases hx
    refine ⟨_, hc, (u_born ty X.2.2.2.2.1 hin hKn hkC e1 hty).to (fun j hj => ?_)⟩
    obtain ⟨t, t1, t2⟩ := hfs j hj
    exact t2.trans (bl_new t1).symm
  have g2 : va_D (smA G) (wb G (bN b)) := by
    rw [hpu]
    exact h3.push h2 hsz.symm hA
  refine kk _ rfl rfl a ha H1 locs ls (fun _ => ?_) g1 g2 ⟨Nat.le_trans h4.1 (by omega), fun x q1 q2 => (o1 x (hsz ▸ Nat.lt_of_lt_of_le q1 h4.1)).trans (h4.2.1 x q1 q2), h4.2.2⟩ h5
  rw [wb_len, z1, hG _ hn1]
  show _ = gb G + (b.1 + 1)
  omega
theorem sb_newa (X : Cx p s m args meth c cc nL own G) (pc1 : Nat) {v : Int32} {N : Nat} (hG : GA G) (n c1 s1 : Nat) (hn : b.1 = n) (hn1 : n < NC) (hk : K0 n = 20) (hl : Ln0 n = N) (hv : ¬ v < 0) (hN : v.toNatClampNeg = N) (hb : N * 4 ≤ 536870912) (harr : Cond.arrayClass .int ∈ TB) (hc1 : cells + 1 = c1) (hs1 : slots + N = s1) (hR : c1 ≤ R.cells ∧ s1 ≤ R.slots) (hd : decode cc pc = .ok (.newarray .int, 2)) (hp : pc + 2 = pc1)
    (kk : ∀ b', b' = bN b → b'.1 = n + 1 → Sm p l e R s m args below meth c G nL Q c1 s1 (wb G b') pc1 L (.ref (gad G n) :: st) o) : Sm p l e R s m args below meth c G nL Q cells slots (wb G b) pc L (.int v :: st) o := by
  subst hp; subst hc1; subst hs1; subst hn
  intro a ha H locs ls h1 h2 h3 h4 h5
  have hsz : H.size = gad G b.1 := by rw [hG _ hn1]; have := h1 (by rw [wb_len]; exact hn1); rwa [wb_len] at this
  have hA : smA G (gad G b.1) := by show gb G ≤ _; rw [hG _ hn1]; omega
  refine va_newaK (atype := .int) X.1 X.2.1 (X.2.2.2.2.1 _ harr) rfl hd rfl hv hN hb hR.1 hR.2 hsz fun H1 cA e1 z1 o1 hAr hNm => ?_
  have hcA : cA = gy G 0 := Option.some.inj (hNm.symm.trans (X.2.2.2.2.2.2.1.2 0 _ rfl).2)
  subst hcA
  have hk' : ∀ (k : Nat) (x : Nat × va_E), (wb G b)[k]? = some x → H1[x.1]? = H[x.1]? := fun k x hx => o1 x.1 (hsz ▸ (h2 k x hx).lt)
  have hpu := wb_push (G := G) (b := b)
  have e0 : (bN b).2.1 b.1 = fun _ => 0 := by funext c; simp [bN]
  rw [bce_arr hk, e0, hl] at hpu
  have g1 : va_P (gD G) vwCl (wb G (bN b)) H1 := by
    rw [hpu]
    refine (h2.kept hk').app (fun k x hx => ?_)
    have hz : k < 1 := (List.getElem?_eq_some_iff.mp hx).1
    rw [show k = 0 by omega] at hx
    cases hx
    show H1[_]? = some (vp_cell _ _)
    rw [vp_cell_i]
    exact e1
  have g2 : va_D (smA G) (wb G (bN b)) := by
    rw [hpu]
    exact h3.push h2 hsz.symm hA
  refine kk _ rfl rfl a ha H1 locs ls (fun _ => ?_) g1 g2 ⟨Nat.le_trans h4.1 (by omega), fun x q1 q2 => (o1 x (hsz ▸ Nat.lt_of_lt_of_le q1 h4.1)).trans (h4.2.1 x q1 q2), h4.2.2⟩ h5
  rw [wb_len, z1, hG _ hn1]
  show _ = gb G + (b.1 + 1)
  omega
theorem sb_newq (X : Cx p s m args meth c cc nL own G) (pc1 : Nat) {v : Int32} {N index : Nat} {C : String} (i : Nat) (hG : GA G) (n c1 s1 : Nat) (hn : b.1 = n) (hn1 : n < NC) (hi : 0 < i) (hk : K0 n = 20 + i) (hl : Ln0 n = N) (hv : ¬ v < 0) (hN : v.toNatClampNeg = N) (hb : N * 4 ≤ 536870912) (hty : ∃ cA, (tys G)[i]? = some (cA, .object C)) (hgi : (tys G)[i]? = some (gy G i, .object C)) (hov : va_AO C s) (hlk : Cond.classLink own index C ∈ TB) (hc1 : cells + 1 = c1) (hs1 : slots + N = s1) (hR : c1 ≤ R.cells ∧ s1 ≤ R.slots) (hd : decode cc pc = .ok (.anewarray index, 3)) (hp : pc + 3 = pc1)
    (kk : ∀ b', b' = bN b → b'.1 = n + 1 → Sm p l e R s m args below meth c G nL Q c1 s1 (wb G b') pc1 L (.ref (gad G n) :: st) o) : Sm p l e R s m args below meth c G nL Q cells slots (wb G b) pc L (.int v :: st) o := by
  subst hp; subst hc1; subst hs1; subst hn; subst hN
  intro a ha H locs ls h1 h2 h3 h4 h5
  have hsz : H.size = gad G b.1 := by rw [hG _ hn1]; have := h1 (by rw [wb_len]; exact hn1); rwa [wb_len] at this
  have hA : smA G (gad G b.1) := by show gb G ≤ _; rw [hG _ hn1]; omega
  refine W.anew X.1 X.2.1 X.2.2.2.2.2.1 (X.2.2.2.2.1 _ hlk) (va_AO.use hov) rfl hd rfl hv hb hR.1 hR.2 fun cA kA comp f1 f2 f3 f4 => ?_
  have hcA : cA = gy G i := by
    obtain ⟨kA', comp', r1, r2, r3, r4⟩ := (X.2.2.2.2.2.2.1.2 i _ hgi).2
    exact Option.some.inj (f1.symm.trans r4)
  subst hcA
  generalize hH1 : H.push ({ cls := gy G i, slots := Array.replicate v.toNatClampNeg .null, vm := .none } : Cell) = H1
  have z1 : H1.size = H.size + 1 := by rw [← hH1, Array.size_push]
  have e1 : H1[H.size]? = some (arrV (gy G i) v.toNatClampNeg (fun _ => .null)) := by rw [← hH1, Array.getElem?_push_size, ← arrV_new]
  have o1 : ∀ q : Nat, q < H.size → H1[q]? = H[q]? := fun q hq => by rw [← hH1, Array.getElem?_push, if_neg (Nat.ne_of_lt hq)]
  rw [hsz]
  rw [hsz] at e1 z1 o1
  have hk' : ∀ (k : Nat) (x : Nat × va_E), (wb G b)[k]? = some x → H1[x.1]? = H[x.1]? := fun k x hx => o1 x.1 (hsz ▸ (h2 k x hx).lt)
  have hpu := wb_push (G := G) (b := b)
  have e0 : (fun j => ((bN b).2.2 b.1 j).map (gad G)) = fun _ => none := by funext c; simp [bN]
  rw [bce_arrR hk hi, e0, hl] at hpu
  have g1 : va_P (gD G) vwCl (wb G (bN b)) H1 := by
    rw [hpu]
    refine (h2.kept hk').app (fun k x hx => ?_)
    have hz : k < 1 := (List.getElem?_eq_some_iff.mp hx).1
    rw [show k = 0 by omega] at hx
    cases hx
    show H1[_]? = some (vp_cell _ _)
    rw [vp_cell_q]
    exact e1
  have g2 : va_D (smA G) (wb G (bN b)) := by
    rw [hpu]
    exact h3.push h2 hsz.symm hA
  refine kk _ rfl rfl a ha H1 locs ls (fun _ => ?_) g1 g2 ⟨Nat.le_trans h4.1 (by omega), fun x q1 q2 => (o1 x (hsz ▸ Nat.lt_of_lt_of_le q1 h4.1)).trans (h4.2.1 x q1 q2), h4.2.2⟩ h5
  rw [wb_len, z1, hG _ hn1]
  show _ = gb G + (b.1 + 1)
  omega
/-- a field is written, the heap's size stays -/
theorem sb_put0 (X : Cx p s m args meth c cc nL own G) {k ci j t index : Nat} {C nm d : String} {v : Value} {ws' : va_W} (ty : FieldType) (hkb : k < b.1) (hk : K0 k = ci) (hF : Fld ci j t C nm d) (hfin : meth.name = "<init>" ∧ C = own) (hty : parseFieldDescriptor d = some ty) (hn : narrow ty v = v) (hfit : fits ty v = true) (hd : decode cc pc = .ok (.putfield index, 3)) (hq : Cond.fieldLink own index C nm d ∈ TB) (hw : (wb G b).set k (gad G k, .inr (ci, (bl G b k ci).set j v)) = ws')
    (kk : Sm p l e R s m args below meth c G nL Q cells slots ws' (pc + 3) L st o) : Sm p l e R s m args below meth c G nL Q cells slots (wb G b) pc L (v :: .ref (gad G k) :: st) o := by
  obtain ⟨T, N, ty0, f1, f2, f3, f4, f5, f6, f7, f8, f9⟩ := hF
  intro a ha H locs ls h1 h2 h3 h4 h5
  have hts := X.2.2.2.2.1
  have hK := X.2.2.2.2.2.2.1
  have hown := X.2.2.2.2.2.1
  have hap := va_apart (own := own) hts f3 ty0 f8 f9 hK f1
  have he := wb_obj (G := G) hkb hk f2
  obtain ⟨r, g1, cell, q1, q2, q3, q4⟩ := h2 k _ he
  have hr : r = (C, T, N) := Option.some.inj (g1.symm.trans f1)
  subst hr
  obtain ⟨hS, hfc, kC, hkC, hkind⟩ := hK.1 ci _ f1
  obtain ⟨cf, kf, fi, f, hi, hsl⟩ := hS j f4
  have hlay := hts _ (f3 _ (u_in_lay f4))
  have hst := (u_facts hfc hkC (u_lays hts f3 f4) hi).1
  have hd' : parseFieldDescriptor (T j).2.2.1 = some ty := by rw [f7]; exact hty
  have hl : j < (bl G b k ci).length := by rw [bl_len, f5]; exact f4
  have hlink := hts _ hq
  have fin : ∀ H1 : Heap, H1[gad G k]? = some (cell.setSlot f.slot v) → H1.size = H.size → (∀ q, q ≠ gad G k → H1[q]? = H[q]?) → W p l e R s m args below meth c H1 (locs ++ [⟨gad G k, f.slot⟩]) cells slots (Q a) (F0 m (pc + 3) ls st) := by
    intro H1 e1 e2 e3
    rw [hsl] at e1 ⊢
    have p1 := h2.set h3 he (H1 := H1) (e := .inr (ci, (bl G b k ci).set j v)) ⟨_, f1, t_OB.to (V := updV (vp_V (bl G b k ci)) j v) ⟨_, e1, q2, q3, t_set q4 hap f4 v⟩ (fun j' _ => vp_updV_set hl v j')⟩ e3
    have p2 := h3.set he (e := .inr (ci, (bl G b k ci).set j v))
    rw [hw] at p1 p2
    refine kk a ha H1 _ ls (fun hlt => ?_) p1 p2 (h4.put e2 e3 (h3.2 k _ he)) h5
    have hle : ws'.length = (wb G b).length := by rw [← hw, List.length_set]
    rw [e2, hle]
    exact h1 (by rw [← hle]; exact hlt)
  by_cases hnf : (T j).2.2.2 = true
  · unfold u_lay at hlay
    rw [if_pos hnf] at hlay
    have hcf : m.cls = cf := by
      obtain ⟨_, _, c', _, _, _, -, -, hf', -, -, -, hown2, -⟩ := Cond.laysFinal_spec hlay
      have e1 : c' = cf := by have := hi.symm.trans hf'; simp at this; exact this.1.symm
      rw [show (T j).1 = C from by rw [f7], hfin.2] at hown2
      rw [← e1]; exact Option.some.inj (hown.symm.trans hown2)
    have h6 := u_fits hfc hkC hkind (Or.inr hlay) hi hd' hn hfit
    have hi' := hi
    have hlink' : (Cond.fieldLink own index C (T j).2.1 (T j).2.2.1).before args s = true := by rw [f7]; exact hlink
    rw [show (T j).1 = C from by rw [f7]] at hi'
    exact W.putFinK X.1 X.2.1 hown hlink' hi' hst hcf hfin.1 (by rw [q2]; exact h6) q1 q3 (by rw [hsl]; exact k2_hasslot (q4 j f4)) rfl rfl hd fin
  · unfold u_lay at hlay
    rw [if_neg hnf] at hlay
    have h6 := u_store hfc hkC hkind hlay hi hd' hn hfit
    have hi' := hi
    have hlink' : (Cond.fieldLink own index C (T j).2.1 (T j).2.2.1).before args s = true := by rw [f7]; exact hlink
    rw [show (T j).1 = C from by rw [f7]] at hi'
    exact W.putK X.1 X.2.1 (f := f) ⟨hown, hlink', ⟨_, _, _, hi'⟩, hst⟩ (by rw [q2]; exact h6) q1 q3 (by rw [hsl]; exact k2_hasslot (q4 j f4)) rfl rfl hd fin
theorem sb_puti (X : Cx p s m args meth c cc nL own G) (pc1 : Nat) {k ci j index n : Nat} {C nm d : String} {v : Int32} (ty : FieldType) (hn0 : b.1 = n) (hkb : k < n) (hk : K0 k = ci) (hF : Fld ci j 0 C nm d) (hfin : meth.name = "<init>" ∧ C = own) (hty : parseFieldDescriptor d = some ty) (hn : narrow ty (.int v) = .int v) (hfit : fits ty (.int v) = true) (hd : decode cc pc = .ok (.putfield index, 3)) (hp : pc + 3 = pc1) (hq : Cond.fieldLink own index C nm d ∈ TB)
    (kk : ∀ b', b' = bI b k j v → b'.1 = n → Sm p l e R s m args below meth c G nL Q cells slots (wb G b') pc1 L st o) : Sm p l e R s m args below meth c G nL Q cells slots (wb G b) pc L (.int v :: .ref (gad G k) :: st) o := by
  subst hp
  have hF' := hF
  obtain ⟨T, N, ty0, f1, f2, f3, f4, f5, f6, -⟩ := hF'
  exact sb_put0 X ty (hn0 ▸ hkb) hk hF hfin hty hn hfit hd hq (wb_setI (hn0 ▸ hkb) hk f2 f6) (kk _ rfl hn0)
theorem sb_putr (X : Cx p s m args meth c cc nL own G) (pc1 : Nat) {k ci j index n t : Nat} {C nm d : String} {r : Option Nat} {w : Value} (ty : FieldType) (hn0 : b.1 = n) (hkb : k < n) (hk : K0 k = ci) (hF : Fld ci j t C nm d) (h0 : t ≠ 0) (hr : va_re (gad G) r = w) (hfin : meth.name = "<init>" ∧ C = own) (hty : parseFieldDescriptor d = some ty) (hn : narrow ty w = w) (hfit : fits ty w = true) (hd : decode cc pc = .ok (.putfield index, 3)) (hp : pc + 3 = pc1) (hq : Cond.fieldLink own index C nm d ∈ TB)
    (kk : ∀ b', b' = bR b k j r → b'.1 = n → Sm p l e R s m args below meth c G nL Q cells slots (wb G b') pc1 L st o) : Sm p l e R s m args below meth c G nL Q cells slots (wb G b) pc L (w :: .ref (gad G k) :: st) o := by
  subst hp
  subst hr
  have hF' := hF
  obtain ⟨T, N, ty0, f1, f2, f3, f4, f5, f6, -⟩ := hF'
  exact sb_put0 X ty (hn0 ▸ hkb) hk hF hfin hty hn hfit hd hq (wb_setR (hn0 ▸ hkb) hk f2 h0 f6) (kk _ rfl hn0)
theorem sb_getf (X : Cx p s m args meth c cc nL own G) (pc1 : Nat) {k ci j t index n : Nat} {C nm d : String} (x : Nat) (hn0 : b.1 = n) (hkb : k < n) (hk : K0 k = ci) (hF : Fld ci j t C nm d) (h0 : t ≠ 0) (hx : b.2.2 k j = some x) (hd : decode cc pc = .ok (.getfield index, 3)) (hp : pc + 3 = pc1) (hq : Cond.fieldLink own index C nm d ∈ TB) (kk : Sm p l e R s m args below meth c G nL Q cells slots (wb G b) pc1 L (.ref (gad G x) :: st) o) : Sm p l e R s m args below meth c G nL Q cells slots (wb G b) pc L (.ref (gad G k) :: st) o := by
  subst hp
  obtain ⟨T, N, ty0, f1, f2, f3, f4, f5, f6, f7, f8, f9⟩ := hF
  intro a ha H locs ls h1 h2 h3 h4 h5
  have e : bv G b k j t = .ref (gad G x) := by simp [bv, h0, hx, va_re, va_rf]
  refine va_get (C := C) (T := T) (N := N) (ref := C) X.1 X.2.1 X.2.2.2.2.1 f3 X.2.2.2.2.2.1 X.2.2.2.2.2.2.1 h2 k (wb_obj (hn0 ▸ hkb) hk f2) f1 j f4 ?_ (fun x hx => ?_) (v := .ref (gad G x)) (e ▸ bl_at f6) hd (kk a ha H locs ls h1 h2 h3 h4 h5)
  · rw [f7]; exact X.2.2.2.2.1 _ hq
  · rw [f7] at hx ⊢; exact hx
theorem sb_alen (X : Cx p s m args meth c cc nL own G) (pc1 : Nat) {k i n : Nat} (v : Int32) (hn0 : b.1 = n) (hkb : k < n) (hi : 0 < i) (hk : K0 k = 20 + i) (hv : Int32.ofNat (Ln0 k) = v) (hi3 : i < 3) (hd : decode cc pc = .ok (.arraylength, 1)) (hp : pc + 1 = pc1) (kk : Sm p l e R s m args below meth c G nL Q cells slots (wb G b) pc1 L (.int v :: st) o) : Sm p l e R s m args below meth c G nL Q cells slots (wb G b) pc L (.ref (gad G k) :: st) o := by
  subst hp
  have hb : k < b.1 := hn0 ▸ hkb
  rcases (show i = 1 ∨ i = 2 by omega) with rfl | rfl
  · exact fun a ha H locs ls h1 h2 h3 h4 h5 => va_alen X.1 X.2.1 X.2.2.2.2.2.2.1 h2 k 1 (wb_arrR hb hk hi) rfl hv hd (kk a ha H locs ls h1 h2 h3 h4 h5)
  · exact fun a ha H locs ls h1 h2 h3 h4 h5 => va_alen X.1 X.2.1 X.2.2.2.2.2.2.1 h2 k 2 (wb_arrR hb hk hi) rfl hv hd (kk a ha H locs ls h1 h2 h3 h4 h5)
theorem sb_iast (X : Cx p s m args meth c cc nL own G) (pc1 : Nat) {k : Nat} {i x : Int32} (j : Nat) (hb : b.1 = NC) (hk0 : k < NC) (hk : K0 k = 20) (hj : i.toNatClampNeg = j) (hin : inB i (Ln0 k) = true) (hd : decode cc pc = .ok (.iastore, 1)) (hp : pc + 1 = pc1) (kk : ∀ b', b' = bI b k j x → b'.1 = NC → Sm p l e R s m args below meth c G nL Q cells slots (wb G b') pc1 L st o) : Sm p l e R s m args below meth c G nL Q cells slots (wb G b) pc L (.int x :: .int i :: .ref (gad G k) :: st) o := by
  subst hp
  subst hj
  refine fun a ha H locs ls h1 h2 h3 h4 h5 => va_iast X.1 X.2.1 X.2.2.2.2.2.2.1 h2 h3 h4 k 0 (wb_arr (hb ▸ hk0) hk) rfl (inB_vp hin) hd (fun H1 locs1 g1 g2 g3 => ?_)
  rw [wb_setA (hb ▸ hk0) hk] at g1 g2
  exact kk _ rfl hb a ha H1 locs1 ls (fun q => absurd q (by rw [wb_len]; show ¬ b.1 < _; omega)) g1 g2 g3 h5
theorem sb_aast (X : Cx p s m args meth c cc nL own G) (pc1 : Nat) {k v i n ci : Nat} {q : Int32} {r : vw_C} (j : Nat) (hn0 : b.1 = n) (hkb : k < n) (hvb : v < n) (hi : 0 < i) (hk : K0 k = 20 + i) (hgi : (tys G)[i]? = some (gy G i, .object r.1)) (hkv : K0 v = ci) (hc10 : ci < 10) (hc : vwCl[ci]? = some r) (hj : q.toNatClampNeg = j) (hin : inB q (Ln0 k) = true) (hd : decode cc pc = .ok (.aastore, 1)) (hp : pc + 1 = pc1)
    (kk : ∀ b', b' = bR b k j (some v) → b'.1 = n → Sm p l e R s m args below meth c G nL Q cells slots (wb G b') pc1 L st o) : Sm p l e R s m args below meth c G nL Q cells slots (wb G b) pc L (.ref (gad G v) :: .int q :: .ref (gad G k) :: st) o := by
  subst hp; subst hj; subst hn0
  intro a ha H locs ls h1 h2 h3 h4 h5
  have hK := X.2.2.2.2.2.2.1
  have hin' := inB_vp hin
  have hlt : q.toNatClampNeg < Ln0 k := Nat.not_le.mp fun z => hin' (Or.inr z)
  have h0 : ¬ q < 0 := fun z => hin' (Or.inl z)
  have hA := wb_arrR (G := G) hkb hk hi
  have hV := wb_obj (G := G) hvb hkv hc10
  obtain ⟨r', hr', cellV, g1, g2, g3, -⟩ := h2 v _ hV
  have hcls := (hK.1 ci r hc).2
  obtain ⟨kA, comp, k1, k2, k3, -⟩ := (hK.2 i _ hgi).2
  have hcomp : comp = (gD G).1 ci := Option.some.inj (k3.symm.trans hcls.1)
  subst hcomp
  obtain ⟨kC, hkC, -⟩ := hcls.2
  refine W.aast X.1 X.2.1 (h2 k _ hA) (fun z h => by cases h) (fun h => by cases h) k1 k2 rfl hkC ⟨h0, by show _ < (arrV _ _ _).slots.size; rw [arrV_size]; exact hlt⟩ g1 (fun z h => by rw [g3] at h; cases h) (by rw [g2]; exact hkC) (by rw [g2]; exact va_assign hcls) rfl rfl hd fun H1 e1 z1 o1 => ?_
  have p1 := h2.set h3 hA (H1 := H1) (e := .inl (gy G i, Ln0 k, .inr (.inr (.inr (.inr (va_up (fun j => (b.2.2 k j).map (gad G)) q.toNatClampNeg (some (gad G v)))))))) (by
    show H1[gad G k]? = some (vp_cell _ _)
    rw [e1, vp_cell_q, vp_cell_q, arrV_store]
    congr 2
    funext z
    by_cases hz : z = q.toNatClampNeg
    · subst hz
      simp [updV, va_up, va_rf]
    · simp [updV, va_up, hz]) o1
  have p2 := h3.set hA (e := .inl (gy G i, Ln0 k, .inr (.inr (.inr (.inr (va_up (fun j => (b.2.2 k j).map (gad G)) q.toNatClampNeg (some (gad G v))))))))
  rw [wb_setQ hkb hk hi] at p1 p2
  refine kk _ rfl rfl a ha H1 _ ls (fun hl => ?_) p1 p2 (h4.put z1 o1 (h3.2 k _ hA)) h5
  rw [z1, wb_len]
  have := h1 (by rw [wb_len] at hl ⊢; exact hl)
  rw [wb_len] at this
  exact this
theorem sb_obj (X : Cx p s m args meth c cc nL own G) (pc1 : Nat) {index : Nat} {a0 : Nat} (hlk : Cond.methodLink own index Lib.objectInit ∈ TB) (hin : Cond.instanceMethod Lib.objectInit ∈ TB) (hco : Cond.code Lib.objectInit ⟨#[0xb1]⟩ 1 none ∈ TB) (hR : 1 ≤ R.frames ∧ (st.map fun v => v.category).sum + 12 ≤ R.locals) (hd : decode cc pc = .ok (.invokespecial index, 3)) (hp : pc + 3 = pc1) (kk : Sm p l e R s m args below meth c G nL Q cells slots ws pc1 L st o) : Sm p l e R s m args below meth c G nL Q cells slots ws pc L (.ref a0 :: st) o := by
  subst hp
  intro a ha H locs ls h1 h2 h3 h4 h5
  have ht := X.2.2.2.2.1
  exact W.objInit X.1 X.2.1 X.2.2.2.2.2.1 (ht _ hlk) (ht _ hin) (ht _ hco) rfl (h5.1.trans X.2.2.1.symm) rfl hd hR.1 (by show 2 * 0 + _ + 12 ≤ _; omega) (kk a ha H locs ls h1 h2 h3 h4 h5)
theorem sb_callI (X : Cx p s m args meth c cc nL own G) (pc1 : Nat) {y : MethodName} {cy : ByteArray} {nLy fr lo mc ms n k index : Nat} {ws' : va_W} (As : List Value) (rest : List Value) {st0 : List Value} (c1 s1 : Nat)
    (hM : MW l G fr lo mc ms y cy nLy none (.ref (gad G k) :: As) ws none ws') (hw : CalW y cy nLy none n) (hin : Cond.instanceMethod y ∈ TB) (hnm : y.name = "<init>") (hlk : Cond.methodLink own index y ∈ TB)
    (hn : As.length = n) (hst : st0 = As.reverse ++ .ref (gad G k) :: rest) (hsum : (rest.map fun v => v.category).sum ≤ 8) (hR : fr + 1 ≤ R.frames ∧ 8 + (nLy + 11) + lo ≤ R.locals) (hc1 : cells + mc = c1) (hs1 : slots + ms = s1) (hf : c1 ≤ R.cells ∧ s1 ≤ R.slots) (hd : decode cc pc = .ok (.invokespecial index, 3)) (hp : pc + 3 = pc1)
    (kk : Sm p l e R s m args below meth c G nL Q c1 s1 ws' pc1 L rest o) : Sm p l e R s m args below meth c G nL Q cells slots ws pc L st0 o := by
  subst hp; subst hst; subst hc1; subst hs1
  intro a ha H locs ls h1 h2 h3 h4 h5
  have ht := X.2.2.2.2.1
  have hrun := va_runI (e := e) (below := below) (meth := meth) (As := As) (rest := rest) (b := gad G k) (g := F0 m pc ls (As.reverse ++ .ref (gad G k) :: rest)) (cells := cells) (slots := slots) (locs := locs) (H := H) ⟨X.1, X.2.1, X.2.2.1, X.2.2.2.2.2.1, ht⟩ hM
    ⟨callB_of n ht (tb_GoodIn hw.1) rfl rfl rfl (ht _ hw.2.1) (ht _ hlk) hw.2.2 hR, hnm, ht _ hin⟩
    ⟨WV.blind _, fun U hU hW => ⟨rfl, WV.at X h1 h2 h3 h4 hU hW⟩⟩ rfl hn h5.1 rfl (lv_room hsum) hd hf
  exact sm_ran (y := y) X h4 hrun (fun H1 locs1 g1 g2 g3 g4 => kk a ha H1 locs1 ls g1 g2 g3 g4 h5)
end SB
section SB2
variable {p : Program} {l : Launch} {e : Env} {R : Room} {s : State} {m : MethodId} {args : Array Value} {below : List Frame} {meth : Method} {c : Code} {cells slots : Nat}
variable {cc : ByteArray} {nL : Nat} {own : String} {G : GT} {α : Type} {Q : α → State → Prop} {ws : va_W} {pc : Nat} {L : List (Nat × Value)} {st : List Value} {o : Option α} {b : Bst}
theorem sb_callIN (X : Cx p s m args meth c cc nL own G) (pc1 : Nat) {y : MethodName} {cy : ByteArray} {nLy fr lo mc ms n k index : Nat} {host : String} {ws' : va_W} (As : List Value) (rest : List Value) {st0 : List Value} (c1 s1 : Nat)
    (hM : MW l G fr lo mc ms y cy nLy none (.ref (gad G k) :: As) ws none ws') (hw : CalW y cy nLy none n) (hin : Cond.instanceMethod y ∈ TB) (hnm : y.name = "<init>") (hlk : Cond.methodLinkNest own index y host ∈ NW)
    (hn : As.length = n) (hst : st0 = As.reverse ++ .ref (gad G k) :: rest) (hsum : (rest.map fun v => v.category).sum ≤ 8) (hR : fr + 1 ≤ R.frames ∧ 8 + (nLy + 11) + lo ≤ R.locals) (hc1 : cells + mc = c1) (hs1 : slots + ms = s1) (hf : c1 ≤ R.cells ∧ s1 ≤ R.slots) (hd : decode cc pc = .ok (.invokespecial index, 3)) (hp : pc + 3 = pc1)
    (kk : Sm p l e R s m args below meth c G nL Q c1 s1 ws' pc1 L rest o) : Sm p l e R s m args below meth c G nL Q cells slots ws pc L st0 o := by
  subst hp; subst hst; subst hc1; subst hs1
  intro a ha H locs ls h1 h2 h3 h4 h5
  have ht := X.2.2.2.2.1
  have hrun := va_runIN (e := e) (below := below) (meth := meth) (As := As) (rest := rest) (b := gad G k) (host := host) (g := F0 m pc ls (As.reverse ++ .ref (gad G k) :: rest)) (cells := cells) (slots := slots) (locs := locs) (H := H) ⟨X.1, X.2.1, X.2.2.1, X.2.2.2.2.2.1, ht⟩ hM
    ⟨va_cnB n ht (tb_GoodIn hw.1) rfl rfl rfl (X.2.2.2.2.2.2.2.1.1 _ hlk) (ht _ hw.2.1) hw.2.2 hR, hnm, ht _ hin⟩
    ⟨WV.blind _, fun U hU hW => ⟨rfl, WV.at X h1 h2 h3 h4 hU hW⟩⟩ rfl hn h5.1 rfl (lv_room hsum) hd hf
  exact sm_ran (y := y) X h4 hrun (fun H1 locs1 g1 g2 g3 g4 => kk a ha H1 locs1 ls g1 g2 g3 g4 h5)
theorem sb_ge (X : Cx p s m args meth c cc nL own G) (pc1 : Nat) {x y : Int32} {off : Int} (tgt : Nat) (hd : decode cc pc = .ok (.if_icmp .ge off, 3)) (hp : pc + 3 = pc1) (ht : (pc : Int) + off = (tgt : Int))
    (k1 : y ≤ x → Sm p l e R s m args below meth c G nL Q cells slots ws tgt L st o) (k2 : ¬ y ≤ x → Sm p l e R s m args below meth c G nL Q cells slots ws pc1 L st o) : Sm p l e R s m args below meth c G nL Q cells slots ws pc L (.int y :: .int x :: st) o := by
  have h := sm_icmp_ge (o1 := o) (o2 := o) X pc1 tgt hd hp ht k1 k2
  rwa [ite_self] at h
theorem sb_gt (X : Cx p s m args meth c cc nL own G) (pc1 : Nat) {x y : Int32} {off : Int} (tgt : Nat) (hd : decode cc pc = .ok (.if_icmp .gt off, 3)) (hp : pc + 3 = pc1) (ht : (pc : Int) + off = (tgt : Int))
    (k1 : y < x → Sm p l e R s m args below meth c G nL Q cells slots ws tgt L st o) (k2 : ¬ y < x → Sm p l e R s m args below meth c G nL Q cells slots ws pc1 L st o) : Sm p l e R s m args below meth c G nL Q cells slots ws pc L (.int y :: .int x :: st) o := by
  have h := sm_icmp_gt (o1 := o) (o2 := o) X pc1 tgt hd hp ht k1 k2
  rwa [ite_self] at h
theorem sb_eq (X : Cx p s m args meth c cc nL own G) (pc1 : Nat) {x y : Int32} {off : Int} (tgt : Nat) (hd : decode cc pc = .ok (.if_icmp .eq off, 3)) (hp : pc + 3 = pc1) (ht : (pc : Int) + off = (tgt : Int))
    (hxy : x = y) (k1 : Sm p l e R s m args below meth c G nL Q cells slots ws tgt L st o) : Sm p l e R s m args below meth c G nL Q cells slots ws pc L (.int y :: .int x :: st) o := by
  have h := sm_icmp_eq (o1 := o) (o2 := o) X pc1 tgt hd hp ht (fun _ => k1) (fun q => absurd hxy q)
  rwa [ite_self] at h
end SB2
theorem bN_keep {b b' : Bst} {k j n x : Nat} (e : b' = bN b) (hn : b.1 = n) (hne : k ≠ n) (f : b.2.2 k j = some x) : b'.2.2 k j = some x := by
  subst e; subst hn; simp only [bN, if_neg hne]; exact f
theorem bI_keep {b b' : Bst} {k j x k' j' : Nat} {v : Int32} (e : b' = bI b k' j' v) (f : b.2.2 k j = some x) : b'.2.2 k j = some x := by subst e; exact f
theorem bR_keep {b b' : Bst} {k j x k' j' : Nat} {v : Option Nat} (e : b' = bR b k' j' v) (hne : ¬ (k = k' ∧ j = j')) (f : b.2.2 k j = some x) : b'.2.2 k j = some x := by
  subst e; simp only [bR, if_neg hne]; exact f
theorem bR_here {b b' : Bst} {k j x : Nat} (e : b' = bR b k j (some x)) : b'.2.2 k j = some x := by subst e; simp [bR]
