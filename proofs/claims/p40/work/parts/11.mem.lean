section WLM
variable {G : GT} {σ : Sto}
theorem wl_len : (wl G σ).length = NC := by simp [wl]
theorem K0_lt {k ci : Nat} (hk : K0 k = ci) (hc : ci < 50) : k < NC := by
  by_cases h : k < NC
  · exact h
  · have : K0 k = 99 := by
      have hl : K0L.length ≤ k := Nat.le_trans (by decide) (Nat.not_lt.mp h)
      simp [K0, List.getD_eq_getElem?_getD, hl]
    omega
theorem wl_at {k : Nat} (hk : k < NC) : (wl G σ)[k]? = some (gad G k, ce G σ k) := by simp [wl, hk]
theorem wl_obj {k ci : Nat} (hk : K0 k = ci) (hc : ci < 10) : (wl G σ)[k]? = some (gad G k, .inr (ci, fl G σ k ci)) := by
  rw [wl_at (K0_lt hk (by omega))]; subst hk; simp [ce, hc]
theorem wl_arr {k : Nat} (hk : K0 k = 20) : (wl G σ)[k]? = some (gad G k, .inl (gy G 0, Ln0 k, .inl (σ.1 k))) := by
  rw [wl_at (K0_lt hk (by omega))]; simp [ce, hk]
theorem wl_arrS {k : Nat} (hk : K0 k = 21) : (wl G σ)[k]? = some (gad G k, .inl (gy G 1, Ln0 k, .inr (.inr (.inr (.inr (fun j => (R0 k j).map (gad G))))))) := by
  rw [wl_at (K0_lt hk (by omega))]; simp [ce, hk]
theorem wl_arrH {k : Nat} (hk : K0 k = 22) : (wl G σ)[k]? = some (gad G k, .inl (gy G 2, Ln0 k, .inr (.inr (.inr (.inr (fun j => (R0 k j).map (gad G))))))) := by
  rw [wl_at (K0_lt hk (by omega))]; simp [ce, hk]
theorem fl_at {k ci j t : Nat} (ht : (FT ci)[j]? = some t) : (fl G σ k ci)[j]? = some (fv G σ k j t) := by
  simp [fl, List.getElem?_mapIdx, ht]
theorem fl_len {k ci : Nat} : (fl G σ k ci).length = (FT ci).length := by simp [fl]
theorem fl_setI {k ci j : Nat} {v : Int32} (ht : (FT ci)[j]? = some 0) : (fl G σ k ci).set j (.int v) = fl G (sI σ k j v) k ci := by
  apply List.ext_getElem?
  intro i
  by_cases h : i = j
  · subst h
    have hl : i < (fl G σ k ci).length := by rw [fl_len]; exact (List.getElem?_eq_some_iff.mp ht).1
    rw [List.getElem?_set_self hl, fl_at ht]
    simp [fv, sI]
  · rw [List.getElem?_set_ne (Ne.symm h)]
    simp only [fl, List.getElem?_mapIdx]
    cases (FT ci)[i]? with
    | none => rfl
    | some t => simp [fv, sI, h]
theorem fl_setR {k ci j : Nat} {v : Option Nat} (ht : (FT ci)[j]? = some 2) : (fl G σ k ci).set j (va_re (gad G) v) = fl G (sR σ k j v) k ci := by
  apply List.ext_getElem?
  intro i
  by_cases h : i = j
  · subst h
    have hl : i < (fl G σ k ci).length := by rw [fl_len]; exact (List.getElem?_eq_some_iff.mp ht).1
    rw [List.getElem?_set_self hl, fl_at ht]
    simp [fv, sR]
  · rw [List.getElem?_set_ne (Ne.symm h)]
    simp only [fl, List.getElem?_mapIdx]
    cases (FT ci)[i]? with
    | none => rfl
    | some t => simp [fv, sR, h]
theorem fl_otherI {k ci k' j : Nat} {v : Int32} (h : ¬ k' = k) : fl G (sI σ k j v) k' ci = fl G σ k' ci := by
  simp only [fl]; congr 1; funext i t; simp [fv, sI, h]
theorem fl_otherR {k ci k' j : Nat} {v : Option Nat} (h : ¬ k' = k) : fl G (sR σ k j v) k' ci = fl G σ k' ci := by
  simp only [fl]; congr 1; funext i t; simp [fv, sR, h]
theorem fl_otherW {k ci k' : Nat} {f : Nat → Int32} (h : ¬ k' = k) : fl G (sW σ k f) k' ci = fl G σ k' ci := by
  simp only [fl]; congr 1; funext i t; simp [fv, sW, h]
theorem wl_setI {k ci j : Nat} {v : Int32} (hk : K0 k = ci) (hc : ci < 10) (ht : (FT ci)[j]? = some 0) : (wl G σ).set k (gad G k, .inr (ci, (fl G σ k ci).set j (.int v))) = wl G (sI σ k j v) := by
  have hlt := K0_lt hk (by omega)
  apply List.ext_getElem?
  intro i
  by_cases h : i = k
  · subst h
    rw [List.getElem?_set_self (by rw [wl_len]; exact hlt), fl_setI ht, wl_obj hk hc]
  · rw [List.getElem?_set_ne (Ne.symm h)]
    by_cases hi : i < NC
    · rw [wl_at hi, wl_at hi]
      have e : (sI σ k j v).1 i = σ.1 i := by funext b; simp [sI, h]
      simp only [ce, fl_otherI h, e]
    · rw [List.getElem?_eq_none (by rw [wl_len]; omega), List.getElem?_eq_none (by rw [wl_len]; omega)]
theorem wl_setR {k ci j : Nat} {v : Option Nat} (hk : K0 k = ci) (hc : ci < 10) (ht : (FT ci)[j]? = some 2) : (wl G σ).set k (gad G k, .inr (ci, (fl G σ k ci).set j (va_re (gad G) v))) = wl G (sR σ k j v) := by
  have hlt := K0_lt hk (by omega)
  apply List.ext_getElem?
  intro i
  by_cases h : i = k
  · subst h
    rw [List.getElem?_set_self (by rw [wl_len]; exact hlt), fl_setR ht, wl_obj hk hc]
  · rw [List.getElem?_set_ne (Ne.symm h)]
    by_cases hi : i < NC
    · rw [wl_at hi, wl_at hi]
      simp only [ce, fl_otherR h]
      rfl
    · rw [List.getElem?_eq_none (by rw [wl_len]; omega), List.getElem?_eq_none (by rw [wl_len]; omega)]
theorem wl_setW {k : Nat} {f : Nat → Int32} (hk : K0 k = 20) : (wl G σ).set k (gad G k, .inl (gy G 0, Ln0 k, .inl f)) = wl G (sW σ k f) := by
  have hlt := K0_lt hk (by omega)
  apply List.ext_getElem?
  intro i
  by_cases h : i = k
  · subst h
    rw [List.getElem?_set_self (by rw [wl_len]; exact hlt), wl_arr hk]
    have e : (sW σ i f).1 i = f := by funext b; simp [sW]
    rw [e]
  · rw [List.getElem?_set_ne (Ne.symm h)]
    by_cases hi : i < NC
    · rw [wl_at hi, wl_at hi]
      have e : (sW σ k f).1 i = σ.1 i := by funext b; simp [sW, h]
      simp only [ce, fl_otherW h, e]
    · rw [List.getElem?_eq_none (by rw [wl_len]; omega), List.getElem?_eq_none (by rw [wl_len]; omega)]
theorem sW_upd (σ : Sto) (k j : Nat) (v : Int32) : sW σ k (upd (σ.1 k) j v) = sI σ k j v := by
  simp only [sW, sI, upd]
  congr 1
  funext a b
  by_cases h : a = k
  · subst h; simp
  · simp [h]
end WLM
/-- a field of a class: its class's number, its place, what it holds (0 a number, 1 a reference that stays, 2 one that changes) -/
def Fld (ci j t : Nat) (C nm d : String) : Prop := ∃ (T : u_T) (N : Nat) (ty0 : Nat → FieldType), vwCl[ci]? = some (C, T, N) ∧ ci < 10 ∧ (∀ w ∈ u_ws C T N, w ∈ TB) ∧ j < N ∧ (FT ci).length = N ∧ (FT ci)[j]? = some t ∧ T j = (C, nm, d, decide (t = 1 ∨ ci = 1 ∧ j = 0)) ∧ (∀ k, k < N → parseFieldDescriptor (T k).2.2.1 = some (ty0 k)) ∧ (∀ a, a < N → ∀ b, b < N → a ≠ b → (T a).2.1 ≠ (T b).2.1)
section SM2
variable {p : Program} {l : Launch} {e : Env} {R : Room} {s : State} {m : MethodId} {args : Array Value} {below : List Frame} {meth : Method} {c : Code} {cells slots : Nat}
variable {cc : ByteArray} {nL : Nat} {own : String} {G : GT} {α β : Type} {Q : α → State → Prop} {ws ws' : va_W} {pc : Nat} {L : List (Nat × Value)} {st : List Value} {o : Option α} {σ : Sto}
theorem sm_get0 (X : Cx p s m args meth c cc nL own G) (pc1 : Nat) {k ci j t index : Nat} {C nm d : String} (hk : K0 k = ci) (hF : Fld ci j t C nm d) (hd : decode cc pc = .ok (.getfield index, 3)) (hp : pc + 3 = pc1) (hq : Cond.fieldLink own index C nm d ∈ TB) (kk : Sm p l e R s m args below meth c G nL Q cells slots (wl G σ) pc1 L (fv G σ k j t :: st) o) : Sm p l e R s m args below meth c G nL Q cells slots (wl G σ) pc L (.ref (gad G k) :: st) o := by
  subst hp
  obtain ⟨T, N, ty0, f1, f2, f3, f4, f5, f6, f7, f8, f9⟩ := hF
  intro a ha H locs ls h1 h2 h3 h4 h5
  refine va_get (C := C) (T := T) (N := N) (ref := C) X.1 X.2.1 X.2.2.2.2.1 f3 X.2.2.2.2.2.1 X.2.2.2.2.2.2.1 h2 k (wl_obj hk f2) f1 j f4 ?_ (fun x hx => ?_) (v := fv G σ k j t) (fl_at f6) hd (kk a ha H locs ls h1 h2 h3 h4 h5)
  · rw [f7]; exact X.2.2.2.2.1 _ hq
  · rw [f7] at hx ⊢; exact hx
theorem sm_geti (X : Cx p s m args meth c cc nL own G) (pc1 : Nat) {k ci j index : Nat} {C nm d : String} (hk : K0 k = ci) (hF : Fld ci j 0 C nm d) (hd : decode cc pc = .ok (.getfield index, 3)) (hp : pc + 3 = pc1) (hq : Cond.fieldLink own index C nm d ∈ TB) (kk : Sm p l e R s m args below meth c G nL Q cells slots (wl G σ) pc1 L (.int (σ.1 k j) :: st) o) : Sm p l e R s m args below meth c G nL Q cells slots (wl G σ) pc L (.ref (gad G k) :: st) o := sm_get0 X pc1 hk hF hd hp hq kk
theorem sm_getf (X : Cx p s m args meth c cc nL own G) (pc1 : Nat) {k ci j index : Nat} {C nm d : String} (x : Nat) (hk : K0 k = ci) (hF : Fld ci j 1 C nm d) (hx : R0 k j = some x) (hd : decode cc pc = .ok (.getfield index, 3)) (hp : pc + 3 = pc1) (hq : Cond.fieldLink own index C nm d ∈ TB) (kk : Sm p l e R s m args below meth c G nL Q cells slots (wl G σ) pc1 L (.ref (gad G x) :: st) o) : Sm p l e R s m args below meth c G nL Q cells slots (wl G σ) pc L (.ref (gad G k) :: st) o := by
  refine sm_get0 X pc1 hk hF hd hp hq ?_
  have e : fv G σ k j 1 = .ref (gad G x) := by simp [fv, hx, va_re, va_rf]
  rw [e]; exact kk
theorem sm_getr (X : Cx p s m args meth c cc nL own G) (pc1 : Nat) {k ci j index : Nat} {C nm d : String} (hk : K0 k = ci) (hF : Fld ci j 2 C nm d) (hd : decode cc pc = .ok (.getfield index, 3)) (hp : pc + 3 = pc1) (hq : Cond.fieldLink own index C nm d ∈ TB) (kk : Sm p l e R s m args below meth c G nL Q cells slots (wl G σ) pc1 L (va_re (gad G) (σ.2 k j) :: st) o) : Sm p l e R s m args below meth c G nL Q cells slots (wl G σ) pc L (.ref (gad G k) :: st) o := by
  refine sm_get0 X pc1 hk hF hd hp hq ?_
  have e : fv G σ k j 2 = va_re (gad G) (σ.2 k j) := by simp [fv]
  rw [e]; exact kk
/-- the name of a new store -/
def lp {γ : Type} (x : Sto) (f : Sto → γ) : γ := f x
theorem sm_puti (X : Cx p s m args meth c cc nL own G) (pc1 : Nat) {k ci j index : Nat} {C nm d : String} {v : Int32} {f : Sto → Option α} (ty : FieldType) (hk : K0 k = ci) (hF : Fld ci j 0 C nm d) (hfin : ¬ (ci = 1 ∧ j = 0)) (hty : parseFieldDescriptor d = some ty) (hn : narrow ty (.int v) = .int v) (hfit : fits ty (.int v) = true) (hd : decode cc pc = .ok (.putfield index, 3)) (hp : pc + 3 = pc1) (hq : Cond.fieldLink own index C nm d ∈ TB) (kk : ∀ σ', σ' = sI σ k j v → Sm p l e R s m args below meth c G nL Q cells slots (wl G σ') pc1 L st (f σ')) : Sm p l e R s m args below meth c G nL Q cells slots (wl G σ) pc L (.int v :: .ref (gad G k) :: st) (lp (sI σ k j v) f) := by
  subst hp
  obtain ⟨T, N, ty0, f1, f2, f3, f4, f5, f6, f7, f8, f9⟩ := hF
  intro a ha H locs ls h1 h2 h3 h4 h5
  refine va_put (C := C) (T := T) (N := N) (ref := C) (ci := ci) X.1 X.2.1 X.2.2.2.2.1 f3 ty0 f8 f9 X.2.2.2.2.2.1 X.2.2.2.2.2.2.1 h2 h3 h4 k (wl_obj hk f2) f1 j f4 ?_ (fun x hx => ?_) ?_ (ty := ty) ?_ hn hfit (by rw [fl_len, f5]; exact f4) hd (fun H1 locs1 g1 g2 g3 => ?_)
  · rw [f7]; exact X.2.2.2.2.1 _ hq
  · rw [f7] at hx ⊢; exact hx
  · rw [f7]; show decide (0 = 1 ∨ ci = 1 ∧ j = 0) = false; simp only [decide_eq_false_iff_not]; intro q; rcases q with q | q
    · cases q
    · exact hfin q
  · rw [f7]; exact hty
  · rw [wl_setI hk f2 f6] at g1 g2
    have hz : Sz G (wl G (sI σ k j v)) H1 := by
      exact fun q => absurd q (by rw [wl_len]; omega)
    exact kk _ rfl a ha H1 locs1 ls hz g1 g2 g3 h5
theorem sm_putr (X : Cx p s m args meth c cc nL own G) (pc1 : Nat) {k ci j index : Nat} {C nm d : String} {r : Option Nat} {f : Sto → Option α} (ty : FieldType) (hk : K0 k = ci) (hF : Fld ci j 2 C nm d) (hty : parseFieldDescriptor d = some ty) (hn : ∀ v : Option Nat, narrow ty (va_re (gad G) v) = va_re (gad G) v ∧ fits ty (va_re (gad G) v) = true) (hd : decode cc pc = .ok (.putfield index, 3)) (hp : pc + 3 = pc1) (hq : Cond.fieldLink own index C nm d ∈ TB) (kk : ∀ σ', σ' = sR σ k j r → Sm p l e R s m args below meth c G nL Q cells slots (wl G σ') pc1 L st (f σ')) : Sm p l e R s m args below meth c G nL Q cells slots (wl G σ) pc L (va_re (gad G) r :: .ref (gad G k) :: st) (lp (sR σ k j r) f) := by
  subst hp
  obtain ⟨T, N, ty0, f1, f2, f3, f4, f5, f6, f7, f8, f9⟩ := hF
  intro a ha H locs ls h1 h2 h3 h4 h5
  refine va_put (C := C) (T := T) (N := N) (ref := C) (ci := ci) X.1 X.2.1 X.2.2.2.2.1 f3 ty0 f8 f9 X.2.2.2.2.2.1 X.2.2.2.2.2.2.1 h2 h3 h4 k (wl_obj hk f2) f1 j f4 ?_ (fun x hx => ?_) ?_ (ty := ty) ?_ (hn r).1 (hn r).2 (by rw [fl_len, f5]; exact f4) hd (fun H1 locs1 g1 g2 g3 => ?_)
  · rw [f7]; exact X.2.2.2.2.1 _ hq
  · rw [f7] at hx ⊢; exact hx
  · rw [f7]; show decide (2 = 1 ∨ ci = 1 ∧ j = 0) = false; simp only [decide_eq_false_iff_not]; intro q; rcases q with q | q
    · cases q
    · rw [q.1, q.2] at f6; cases f6
  · rw [f7]; exact hty
  · rw [wl_setR hk f2 f6] at g1 g2
    exact kk _ rfl a ha H1 locs1 ls (fun q => absurd q (by rw [wl_len]; omega)) g1 g2 g3 h5
def inB (i : Int32) (n : Nat) : Bool := decide (¬ i < 0) && decide (i.toNatClampNeg < n)
theorem inB_vp {i : Int32} {n : Nat} (h : inB i n = true) : vp_in i n := by
  simp only [inB, Bool.and_eq_true, decide_eq_true_eq] at h
  intro q
  rcases q with q | q
  · exact h.1 q
  · omega
def rdA (σ : Sto) (k : Nat) (i : Int32) : Option Int32 := if inB i (Ln0 k) = true then some (σ.1 k i.toNatClampNeg) else none
def wrA (σ : Sto) (k : Nat) (i x : Int32) : Option Sto := if inB i (Ln0 k) = true then some (sI σ k i.toNatClampNeg x) else none
def rdC (f : Nat → Int32) (n : Nat) (i : Int32) : Option Int32 := if inB i n = true then some (f i.toNatClampNeg) else none
def rdR (k : Nat) (i : Int32) : Option (Option Nat) := if inB i (Ln0 k) = true then some (R0 k i.toNatClampNeg) else none
def cpA (σ : Sto) (a : Nat) (i : Int32) (b : Nat) (j n : Int32) : Option Sto := if ¬ i < 0 ∧ ¬ j < 0 ∧ ¬ n < 0 ∧ i.toNatClampNeg + n.toNatClampNeg ≤ Ln0 a ∧ j.toNatClampNeg + n.toNatClampNeg ≤ Ln0 b then some (sW σ b (va_cpy (σ.1 a) (σ.1 b) i.toNatClampNeg j.toNatClampNeg n.toNatClampNeg)) else none
theorem sm_iald (X : Cx p s m args meth c cc nL own G) (pc1 : Nat) {k : Nat} {i : Int32} {f : Int32 → Option α} (hk : K0 k = 20) (hd : decode cc pc = .ok (.iaload, 1)) (hp : pc + 1 = pc1) (kk : ∀ v, v = σ.1 k i.toNatClampNeg → Sm p l e R s m args below meth c G nL Q cells slots (wl G σ) pc1 L (.int v :: st) (f v)) : Sm p l e R s m args below meth c G nL Q cells slots (wl G σ) pc L (.int i :: .ref (gad G k) :: st) ((rdA σ k i).bind f) := by
  subst hp
  refine sm_bind fun v hv => ?_
  simp only [rdA] at hv
  split at hv
  · next hb =>
    cases hv
    exact fun a ha H locs ls h1 h2 h3 h4 h5 => va_iald X.1 X.2.1 X.2.2.2.2.2.2.1 h2 k 0 (wl_arr hk) rfl (inB_vp hb) hd (kk _ rfl a ha H locs ls h1 h2 h3 h4 h5)
  · cases hv
theorem sm_iast (X : Cx p s m args meth c cc nL own G) (pc1 : Nat) {k : Nat} {i x : Int32} {f : Sto → Option α} (hk : K0 k = 20) (hd : decode cc pc = .ok (.iastore, 1)) (hp : pc + 1 = pc1) (kk : ∀ σ', σ' = sI σ k i.toNatClampNeg x → Sm p l e R s m args below meth c G nL Q cells slots (wl G σ') pc1 L st (f σ')) : Sm p l e R s m args below meth c G nL Q cells slots (wl G σ) pc L (.int x :: .int i :: .ref (gad G k) :: st) ((wrA σ k i x).bind f) := by
  subst hp
  refine sm_bind fun σ' hv => ?_
  simp only [wrA] at hv
  split at hv
  · next hb =>
    cases hv
    refine fun a ha H locs ls h1 h2 h3 h4 h5 => va_iast X.1 X.2.1 X.2.2.2.2.2.2.1 h2 h3 h4 k 0 (wl_arr hk) rfl (inB_vp hb) hd (fun H1 locs1 g1 g2 g3 => ?_)
    rw [wl_setW hk, sW_upd] at g1 g2
    exact kk _ rfl a ha H1 locs1 ls (fun q => absurd q (by rw [wl_len]; omega)) g1 g2 g3 h5
  · cases hv
theorem sm_alen (X : Cx p s m args meth c cc nL own G) (pc1 : Nat) {k : Nat} (v : Int32) (hk : K0 k = 20 ∨ K0 k = 21 ∨ K0 k = 22) (hv : Int32.ofNat (Ln0 k) = v) (hd : decode cc pc = .ok (.arraylength, 1)) (hp : pc + 1 = pc1) (kk : Sm p l e R s m args below meth c G nL Q cells slots (wl G σ) pc1 L (.int v :: st) o) : Sm p l e R s m args below meth c G nL Q cells slots (wl G σ) pc L (.ref (gad G k) :: st) o := by
  subst hp
  rcases hk with hk | hk | hk
  · exact fun a ha H locs ls h1 h2 h3 h4 h5 => va_alen X.1 X.2.1 X.2.2.2.2.2.2.1 h2 k 0 (wl_arr hk) rfl hv hd (kk a ha H locs ls h1 h2 h3 h4 h5)
  · exact fun a ha H locs ls h1 h2 h3 h4 h5 => va_alen X.1 X.2.1 X.2.2.2.2.2.2.1 h2 k 1 (wl_arrS hk) rfl hv hd (kk a ha H locs ls h1 h2 h3 h4 h5)
  · exact fun a ha H locs ls h1 h2 h3 h4 h5 => va_alen X.1 X.2.1 X.2.2.2.2.2.2.1 h2 k 2 (wl_arrH hk) rfl hv hd (kk a ha H locs ls h1 h2 h3 h4 h5)
theorem sm_aald (X : Cx p s m args meth c cc nL own G) (pc1 : Nat) {k : Nat} {i : Int32} {f : Option Nat → Option α} (hk : K0 k = 21 ∨ K0 k = 22) (hd : decode cc pc = .ok (.aaload, 1)) (hp : pc + 1 = pc1) (kk : ∀ r, r = R0 k i.toNatClampNeg → Sm p l e R s m args below meth c G nL Q cells slots (wl G σ) pc1 L (va_re (gad G) r :: st) (f r)) : Sm p l e R s m args below meth c G nL Q cells slots (wl G σ) pc L (.int i :: .ref (gad G k) :: st) ((rdR k i).bind f) := by
  subst hp
  refine sm_bind fun v hv => ?_
  simp only [rdR] at hv
  split at hv
  · next hb =>
    cases hv
    rcases hk with hk | hk
    · exact fun a ha H locs ls h1 h2 h3 h4 h5 => va_aldq X.1 X.2.1 X.2.2.2.2.2.2.1 h2 k 1 (wl_arrS hk) rfl (inB_vp hb) hd (kk _ rfl a ha H locs ls h1 h2 h3 h4 h5)
    · exact fun a ha H locs ls h1 h2 h3 h4 h5 => va_aldq X.1 X.2.1 X.2.2.2.2.2.2.1 h2 k 2 (wl_arrH hk) rfl (inB_vp hb) hd (kk _ rfl a ha H locs ls h1 h2 h3 h4 h5)
  · cases hv
/-- arrays of the classes' own, that stay -/
theorem sm_getsA (X : Cx p s m args meth c cc nL own G) (pc1 : Nat) {index : Nat} {host : String} (hd : decode cc pc = .ok (.getstatic index, 3)) (hp : pc + 3 = pc1) (hq : Cond.fieldLinkNest own index "LakeSwimmers" "ABOVE" "[I" host ∈ NW ∨ Cond.fieldLink own index "LakeSwimmers" "ABOVE" "[I" ∈ TB) (kk : Sm p l e R s m args below meth c G nL Q cells slots ws pc1 L (.ref (gad G 1001) :: st) o) : Sm p l e R s m args below meth c G nL Q cells slots ws pc L st o := by
  subst hp
  rcases hq with hq | hq
  · exact fun a ha H locs ls h1 h2 h3 h4 h5 => va_getsN X.1 X.2.1 (X.2.2.2.2.2.2.2.1.2.2.2.1) h4 X.2.2.2.2.2.1 (va_Nw.use rfl (X.2.2.2.2.2.2.2.1.1 _ hq)) (fun _ h => h) hd (kk a ha H locs ls h1 h2 h3 h4 h5)
  · exact fun a ha H locs ls h1 h2 h3 h4 h5 => va_gets X.1 X.2.1 (X.2.2.2.2.2.2.2.1.2.2.2.1) h4 X.2.2.2.2.2.1 (X.2.2.2.2.1 _ hq) (fun _ h => h) hd (kk a ha H locs ls h1 h2 h3 h4 h5)
theorem sm_getsB (X : Cx p s m args meth c cc nL own G) (pc1 : Nat) {index : Nat} {host : String} (hd : decode cc pc = .ok (.getstatic index, 3)) (hp : pc + 3 = pc1) (hq : Cond.fieldLinkNest own index "LakeSwimmers$Voices" "BODIES" "[I" host ∈ NW ∨ Cond.fieldLink own index "LakeSwimmers$Voices" "BODIES" "[I" ∈ TB) (kk : Sm p l e R s m args below meth c G nL Q cells slots ws pc1 L (.ref (gad G 1002) :: st) o) : Sm p l e R s m args below meth c G nL Q cells slots ws pc L st o := by
  subst hp
  rcases hq with hq | hq
  · exact fun a ha H locs ls h1 h2 h3 h4 h5 => va_getsN X.1 X.2.1 (X.2.2.2.2.2.2.2.1.2.2.2.2.2.1) h4 X.2.2.2.2.2.1 (va_Nw.use rfl (X.2.2.2.2.2.2.2.1.1 _ hq)) (fun _ h => h) hd (kk a ha H locs ls h1 h2 h3 h4 h5)
  · exact fun a ha H locs ls h1 h2 h3 h4 h5 => va_gets X.1 X.2.1 (X.2.2.2.2.2.2.2.1.2.2.2.2.2.1) h4 X.2.2.2.2.2.1 (X.2.2.2.2.1 _ hq) (fun _ h => h) hd (kk a ha H locs ls h1 h2 h3 h4 h5)
theorem sm_ialdA (X : Cx p s m args meth c cc nL own G) (pc1 : Nat) {i : Int32} {f : Int32 → Option α} (hd : decode cc pc = .ok (.iaload, 1)) (hp : pc + 1 = pc1) (kk : ∀ v, v = abv i.toNatClampNeg → Sm p l e R s m args below meth c G nL Q cells slots ws pc1 L (.int v :: st) (f v)) : Sm p l e R s m args below meth c G nL Q cells slots ws pc L (.int i :: .ref (gad G 1001) :: st) ((rdC abv 7 i).bind f) := by
  subst hp
  refine sm_bind fun v hv => ?_
  simp only [rdC] at hv
  split at hv
  · next hb =>
    cases hv
    exact fun a ha H locs ls h1 h2 h3 h4 h5 => va_ti X.1 X.2.1 (X.2.2.2.2.2.2.2.1.2.2.2.2.1) h4 (inB_vp hb) rfl hd (kk _ rfl a ha H locs ls h1 h2 h3 h4 h5)
  · cases hv
theorem sm_ialdB (X : Cx p s m args meth c cc nL own G) (pc1 : Nat) {i : Int32} {f : Int32 → Option α} (hd : decode cc pc = .ok (.iaload, 1)) (hp : pc + 1 = pc1) (kk : ∀ v, v = bod i.toNatClampNeg → Sm p l e R s m args below meth c G nL Q cells slots ws pc1 L (.int v :: st) (f v)) : Sm p l e R s m args below meth c G nL Q cells slots ws pc L (.int i :: .ref (gad G 1002) :: st) ((rdC bod 28 i).bind f) := by
  subst hp
  refine sm_bind fun v hv => ?_
  simp only [rdC] at hv
  split at hv
  · next hb =>
    cases hv
    exact fun a ha H locs ls h1 h2 h3 h4 h5 => va_ti X.1 X.2.1 (X.2.2.2.2.2.2.2.1.2.2.2.2.2.2.1) h4 (inB_vp hb) rfl hd (kk _ rfl a ha H locs ls h1 h2 h3 h4 h5)
  · cases hv
theorem sm_alenB (X : Cx p s m args meth c cc nL own G) (pc1 : Nat) (hd : decode cc pc = .ok (.arraylength, 1)) (hp : pc + 1 = pc1) (kk : Sm p l e R s m args below meth c G nL Q cells slots ws pc1 L (.int 28 :: st) o) : Sm p l e R s m args below meth c G nL Q cells slots ws pc L (.ref (gad G 1002) :: st) o := by
  subst hp
  exact fun a ha H locs ls h1 h2 h3 h4 h5 => va_tlen X.1 X.2.1 (X.2.2.2.2.2.2.2.1.2.2.2.2.2.2.1) h4 rfl hd (kk a ha H locs ls h1 h2 h3 h4 h5)
def imax (x y : Int32) : Int32 := if x < y then y else x
def imin (x y : Int32) : Int32 := if y < x then y else x
theorem sm_mmax (X : Cx p s m args meth c cc nL own G) (pc1 : Nat) {index : Nat} {x y : Int32} (hd : decode cc pc = .ok (.invokestatic index, 3)) (hp : pc + 3 = pc1) (hlk : Cond.methodLink own index yJ9_max_7cf53 ∈ TB) (hst : Cond.static yJ9_max_7cf53 ∈ TB) (hco : Cond.code yJ9_max_7cf53 cJ9_max_7cf53 2 (some .int) ∈ TB) (hini : Cond.initialized "java/lang/Math" ∈ TB) (hR : 1 ≤ R.frames ∧ (st.map fun v => v.category).sum + 13 ≤ R.locals ∧ cells ≤ R.cells ∧ slots ≤ R.slots) (kk : Sm p l e R s m args below meth c G nL Q cells slots ws pc1 L (.int (imax x y) :: st) o) : Sm p l e R s m args below meth c G nL Q cells slots ws pc L (.int y :: .int x :: st) o := by
  subst hp
  exact fun a ha H locs ls h1 h2 h3 h4 h5 => va_mmax X.1 X.2.1 (X.2.2.1.trans h5.1.symm) X.2.2.2.2.2.1 (X.2.2.2.2.1 _ hlk) (X.2.2.2.2.1 _ hst) (X.2.2.2.2.1 _ hini) (X.2.2.2.2.1 _ hco) hR.1 hR.2.1 hR.2.2.1 hR.2.2.2 hd (kk a ha H locs ls h1 h2 h3 h4 h5)
theorem sm_mmin (X : Cx p s m args meth c cc nL own G) (pc1 : Nat) {index : Nat} {x y : Int32} (hd : decode cc pc = .ok (.invokestatic index, 3)) (hp : pc + 3 = pc1) (hlk : Cond.methodLink own index yJ9_min_7cf53 ∈ TB) (hst : Cond.static yJ9_min_7cf53 ∈ TB) (hco : Cond.code yJ9_min_7cf53 cJ9_min_7cf53 2 (some .int) ∈ TB) (hini : Cond.initialized "java/lang/Math" ∈ TB) (hR : 1 ≤ R.frames ∧ (st.map fun v => v.category).sum + 13 ≤ R.locals ∧ cells ≤ R.cells ∧ slots ≤ R.slots) (kk : Sm p l e R s m args below meth c G nL Q cells slots ws pc1 L (.int (imin x y) :: st) o) : Sm p l e R s m args below meth c G nL Q cells slots ws pc L (.int y :: .int x :: st) o := by
  subst hp
  exact fun a ha H locs ls h1 h2 h3 h4 h5 => va_mmin X.1 X.2.1 (X.2.2.1.trans h5.1.symm) X.2.2.2.2.2.1 (X.2.2.2.2.1 _ hlk) (X.2.2.2.2.1 _ hst) (X.2.2.2.2.1 _ hini) (X.2.2.2.2.1 _ hco) hR.1 hR.2.1 hR.2.2.1 hR.2.2.2 hd (kk a ha H locs ls h1 h2 h3 h4 h5)
theorem sm_copy (X : Cx p s m args meth c cc nL own G) (pc1 : Nat) {k1 k2 index : Nat} {i j n : Int32} {f : Sto → Option α} (hk1 : K0 k1 = 20) (hk2 : K0 k2 = 20) (hd : decode cc pc = .ok (.invokestatic index, 3)) (hp : pc + 3 = pc1) (hlk : Cond.methodLink own index arraycopyName ∈ TB) (hnat : Cond.native arraycopyName ∈ TB) (hst : Cond.static arraycopyName ∈ TB) (hini : Cond.initialized "java/lang/System" ∈ TB) (hR : 1 ≤ R.frames ∧ (st.map fun v => v.category).sum + (nativeFrameWords "java/lang/System" "arraycopy" 5 + 11) ≤ R.locals) (kk : ∀ σ', σ' = sW σ k2 (va_cpy (σ.1 k1) (σ.1 k2) i.toNatClampNeg j.toNatClampNeg n.toNatClampNeg) → Sm p l e R s m args below meth c G nL Q cells slots (wl G σ') pc1 L st (f σ')) : Sm p l e R s m args below meth c G nL Q cells slots (wl G σ) pc L (.int n :: .int j :: .ref (gad G k2) :: .int i :: .ref (gad G k1) :: st) ((cpA σ k1 i k2 j n).bind f) := by
  subst hp
  refine sm_bind fun σ' hv => ?_
  simp only [cpA] at hv
  split at hv
  · next hb =>
    cases hv
    refine fun a ha H locs ls h1 h2 h3 h4 h5 => va_copyi X.1 X.2.1 (X.2.2.1.trans h5.1.symm) X.2.2.2.2.2.1 (X.2.2.2.2.1 _ hlk) (X.2.2.2.2.1 _ hnat) (X.2.2.2.2.1 _ hst) (X.2.2.2.2.1 _ hini) X.2.2.2.2.2.2.1 h2 h3 h4 k1 k2 0 0 (wl_arr hk1) (wl_arr hk2) rfl rfl rfl hb.1 hb.2.1 hb.2.2.1 hb.2.2.2.1 hb.2.2.2.2 (fun _ _ => rfl) hR.1 hR.2 hd (fun H1 locs1 g1 g2 g3 => ?_)
    rw [wl_setW hk2] at g1 g2
    exact kk _ rfl a ha H1 locs1 ls (fun q => absurd q (by rw [wl_len]; omega)) g1 g2 g3 h5
  · cases hv
end SM2
section SM3
variable {p : Program} {l : Launch} {e : Env} {R : Room} {s : State} {m : MethodId} {args : Array Value} {below : List Frame} {meth : Method} {c : Code} {cells slots : Nat}
variable {cc : ByteArray} {nL : Nat} {own : String} {G : GT} {α β : Type} {Q : α → State → Prop} {ws ws' : va_W} {pc : Nat} {L : List (Nat × Value)} {st : List Value} {o : Option α} {σ : Sto}
def CalW (y : MethodName) (cy : ByteArray) (nLy : Nat) (ret : Option FieldType) (n : Nat) : Prop := Cond.code y cy nLy ret ∈ TB ∧ Cond.initialized y.cls ∈ TB ∧ (y.cls ≠ "java/lang/invoke/MethodHandle" ∧ y.cls ≠ "java/lang/invoke/VarHandle" ∧ (parseMethodDescriptor y.desc).map (fun d => d.parameters.length) = some n)
theorem WV.at {s U : State} {H : Heap} {locs : List Loc} (X : Cx p s m args meth c cc nL own G) (h1 : Sz G ws H) (h2 : va_P (gD G) vwCl ws H) (h3 : va_D (smA G) ws) (h4 : va_S (smA G) s.heap H locs) (hU : U.heap = H) (hW : s.WarmedH U.vm) : WV G ws U :=
  ⟨hU ▸ h1, hU ▸ h2, h3, X.2.2.2.2.2.2.1.moved hW.alike, X.2.2.2.2.2.2.2.1.to hW (fun q a b => by rw [hU]; exact h4.2.1 q a b)⟩
theorem sm_ran {y : MethodName} {H : Heap} {locs : List Loc} {ls : Array Slot} {st0 rest : List Value} {mc ms : Nat} {rv : Option Value} {Q' : State → Prop} (X : Cx p s m args meth c cc nL own G) (h4 : va_S (smA G) s.heap H locs)
    (hr : va_Run p l e R s m args below meth c H locs cells slots mc ms (F0 m pc ls st0) rest (fun st oc t => oc = .returned rv ∧ WV G ws' t ∧ va_F (smA G) st t) (smA G))
    (kk : ∀ (H1 : Heap) (locs1 : List Loc), Sz G ws' H1 → va_P (gD G) vwCl ws' H1 → va_D (smA G) ws' → va_S (smA G) s.heap H1 locs1 → W p l e R s m args below meth c H1 locs1 (cells + mc) (slots + ms) Q' (F0 m (pc + 3) ls (rv.toList ++ rest))) : W p l e R s m args below meth c H locs cells slots Q' (F0 m pc ls st0) := by
  intro T hT X0
  obtain ⟨v, st₀, t, T', L', h0, X', hL, e1, e2, ⟨hv, ⟨g1, g2, g3, -, -⟩, hz, hk⟩, st⟩ := hr T hT X0
  cases hv
  rw [h0] at hz hk
  obtain ⟨t2, a1, b1⟩ := kk T'.heap (locs ++ L') (e1 ▸ g1) (e1 ▸ g2) g3
    ⟨Nat.le_trans h4.1 (by rw [e1]; exact hz), fun q a b => by rw [e1, hk q (Nat.lt_of_lt_of_le a h4.1) b]; exact h4.2.1 q a b, fun q hq => by
      rcases List.mem_append.mp hq with h | h
      · exact h4.2.2 q h
      · exact hL q h⟩ T' rfl X'
  exact ⟨t2, st t2 a1, b1⟩
theorem sm_callV (X : Cx p s m args meth c cc nL own G) (pc1 : Nat) {y : MethodName} {cy : ByteArray} {nLy fr lo mc ms n ci b index : Nat} {ret : Option FieldType} {rv : Option Value} {fs : List Value} {qc : vw_C} (As : List Value) (rest : List Value) {st0 : List Value} (q0 : Nat)
    (hM : MW l G fr lo mc ms y cy nLy ret (.ref b :: As) ws rv ws') (hw : CalW y cy nLy ret n) (hin : Cond.instanceMethod y ∈ TB) (hsel : Cond.selects y.cls y y ∈ TB) (hlk : Cond.methodLink own index y ∈ TB) (hb : ws[q0]? = some (b, .inr (ci, fs))) (hc : vwCl[ci]? = some qc) (hcq : qc.1 = y.cls)
    (hn : As.length = n) (hst : st0 = As.reverse ++ .ref b :: rest) (hsum : (rest.map fun v => v.category).sum ≤ 8) (hR : fr + 1 ≤ R.frames ∧ 8 + (nLy + 11) + lo ≤ R.locals) (hf : cells + mc ≤ R.cells ∧ slots + ms ≤ R.slots) (hd : decode cc pc = .ok (.invokevirtual index, 3)) (hp : pc + 3 = pc1)
    (kk : Sm p l e R s m args below meth c G nL Q (cells + mc) (slots + ms) ws' pc1 L (rv.toList ++ rest) o) : Sm p l e R s m args below meth c G nL Q cells slots ws pc L st0 o := by
  subst hp
  subst hst
  intro a ha H locs ls h1 h2 h3 h4 h5
  have ht := X.2.2.2.2.1
  have hrun := va_runV (e := e) (below := below) (meth := meth) (As := As) (rest := rest) (C := y.cls) (g := F0 m pc ls (As.reverse ++ .ref b :: rest)) (cells := cells) (slots := slots) (locs := locs) (H := H) ⟨X.1, X.2.1, X.2.2.1, X.2.2.2.2.2.1, ht⟩ hM
    ⟨callB_of n ht (tb_GoodIn hw.1) rfl rfl rfl (ht _ hw.2.1) (ht _ hlk) hw.2.2 hR, ht _ hin, ht _ hsel⟩
    ⟨WV.blind _, hcq ▸ va_recv X.2.2.2.2.2.2.1 h2 hc hb, fun U hU hW => ⟨rfl, WV.at X h1 h2 h3 h4 hU hW⟩⟩ rfl hn h5.1 rfl (lv_room hsum) hd hf
  exact sm_ran (y := y) X h4 hrun (fun H1 locs1 g1 g2 g3 g4 => kk a ha H1 locs1 ls g1 g2 g3 g4 h5)
theorem sm_callS (X : Cx p s m args meth c cc nL own G) (pc1 : Nat) {y : MethodName} {cy : ByteArray} {nLy fr lo mc ms n index : Nat} {ret : Option FieldType} {rv : Option Value} (As : List Value) (rest : List Value) {st0 : List Value}
    (hM : MW l G fr lo mc ms y cy nLy ret As ws rv ws') (hw : CalW y cy nLy ret n) (hin : Cond.static y ∈ TB) (hlk : Cond.methodLink own index y ∈ TB)
    (hn : As.length = n) (hst : st0 = As.reverse ++ rest) (hsum : (rest.map fun v => v.category).sum ≤ 8) (hR : fr + 1 ≤ R.frames ∧ 8 + (nLy + 11) + lo ≤ R.locals) (hf : cells + mc ≤ R.cells ∧ slots + ms ≤ R.slots) (hd : decode cc pc = .ok (.invokestatic index, 3)) (hp : pc + 3 = pc1)
    (kk : Sm p l e R s m args below meth c G nL Q (cells + mc) (slots + ms) ws' pc1 L (rv.toList ++ rest) o) : Sm p l e R s m args below meth c G nL Q cells slots ws pc L st0 o := by
  subst hp
  subst hst
  intro a ha H locs ls h1 h2 h3 h4 h5
  have ht := X.2.2.2.2.1
  have hrun := va_runS (e := e) (below := below) (meth := meth) (As := As) (rest := rest) (g := F0 m pc ls (As.reverse ++ rest)) (cells := cells) (slots := slots) (locs := locs) (H := H) ⟨X.1, X.2.1, X.2.2.1, X.2.2.2.2.2.1, ht⟩ hM
    ⟨callB_of n ht (tb_GoodIn hw.1) rfl rfl rfl (ht _ hw.2.1) (ht _ hlk) hw.2.2 hR, ht _ hin⟩
    ⟨WV.blind _, fun U hU hW => ⟨rfl, WV.at X h1 h2 h3 h4 hU hW⟩⟩ rfl hn h5.1 rfl (lv_room hsum) hd hf
  exact sm_ran (y := y) X h4 hrun (fun H1 locs1 g1 g2 g3 g4 => kk a ha H1 locs1 ls g1 g2 g3 g4 h5)
theorem sm_callSN (X : Cx p s m args meth c cc nL own G) (pc1 : Nat) {y : MethodName} {cy : ByteArray} {nLy fr lo mc ms n index : Nat} {ret : Option FieldType} {rv : Option Value} {host : String} (As : List Value) (rest : List Value) {st0 : List Value}
    (hM : MW l G fr lo mc ms y cy nLy ret As ws rv ws') (hw : CalW y cy nLy ret n) (hin : Cond.static y ∈ TB) (hlk : Cond.methodLinkNest own index y host ∈ NW)
    (hn : As.length = n) (hst : st0 = As.reverse ++ rest) (hsum : (rest.map fun v => v.category).sum ≤ 8) (hR : fr + 1 ≤ R.frames ∧ 8 + (nLy + 11) + lo ≤ R.locals) (hf : cells + mc ≤ R.cells ∧ slots + ms ≤ R.slots) (hd : decode cc pc = .ok (.invokestatic index, 3)) (hp : pc + 3 = pc1)
    (kk : Sm p l e R s m args below meth c G nL Q (cells + mc) (slots + ms) ws' pc1 L (rv.toList ++ rest) o) : Sm p l e R s m args below meth c G nL Q cells slots ws pc L st0 o := by
  subst hp
  subst hst
  intro a ha H locs ls h1 h2 h3 h4 h5
  have ht := X.2.2.2.2.1
  have hrun := va_runSN (e := e) (below := below) (meth := meth) (As := As) (rest := rest) (host := host) (g := F0 m pc ls (As.reverse ++ rest)) (cells := cells) (slots := slots) (locs := locs) (H := H) ⟨X.1, X.2.1, X.2.2.1, X.2.2.2.2.2.1, ht⟩ hM
    ⟨va_cnB n ht (tb_GoodIn hw.1) rfl rfl rfl (X.2.2.2.2.2.2.2.1.1 _ hlk) (ht _ hw.2.1) hw.2.2 hR, ht _ hin, trivial⟩
    ⟨WV.blind _, fun U hU hW => ⟨rfl, WV.at X h1 h2 h3 h4 hU hW⟩⟩ rfl hn h5.1 rfl (lv_room hsum) hd hf
  exact sm_ran (y := y) X h4 hrun (fun H1 locs1 g1 g2 g3 g4 => kk a ha H1 locs1 ls g1 g2 g3 g4 h5)
theorem sm_callV0 (X : Cx p s m args meth c cc nL own G) (pc1 : Nat) {y : MethodName} {cy : ByteArray} {nLy fr lo n ci k index : Nat} {ret : Option FieldType} {rv : Option Value} {qc : vw_C} {σ' : Sto} (As : List Value) (rest : List Value) {st0 : List Value} (st1 : List Value)
    (hM : MW l G fr lo 0 0 y cy nLy ret (.ref (gad G k) :: As) (wl G σ) rv (wl G σ')) (hw : CalW y cy nLy ret n) (hin : Cond.instanceMethod y ∈ TB) (hsel : Cond.selects y.cls y y ∈ TB) (hlk : Cond.methodLink own index y ∈ TB) (hk : K0 k = ci) (hc10 : ci < 10) (hc : vwCl[ci]? = some qc) (hcq : qc.1 = y.cls)
    (hn : As.length = n) (hst : st0 = As.reverse ++ .ref (gad G k) :: rest) (hst1 : rv.toList ++ rest = st1) (hsum : (rest.map fun v => v.category).sum ≤ 8) (hR : fr + 1 ≤ R.frames ∧ 8 + (nLy + 11) + lo ≤ R.locals) (hf : cells ≤ R.cells ∧ slots ≤ R.slots) (hd : decode cc pc = .ok (.invokevirtual index, 3)) (hp : pc + 3 = pc1)
    (kk : Sm p l e R s m args below meth c G nL Q cells slots (wl G σ') pc1 L st1 o) : Sm p l e R s m args below meth c G nL Q cells slots (wl G σ) pc L st0 o :=
  sm_callV X pc1 As rest k hM hw hin hsel hlk (wl_obj hk hc10) hc hcq hn hst hsum hR hf hd hp (hst1 ▸ kk)
theorem sm_callS0 (X : Cx p s m args meth c cc nL own G) (pc1 : Nat) {y : MethodName} {cy : ByteArray} {nLy fr lo n index : Nat} {ret : Option FieldType} {rv : Option Value} {σ' : Sto} (As : List Value) (rest : List Value) {st0 : List Value} (st1 : List Value)
    (hM : MW l G fr lo 0 0 y cy nLy ret As (wl G σ) rv (wl G σ')) (hw : CalW y cy nLy ret n) (hin : Cond.static y ∈ TB) (hlk : Cond.methodLink own index y ∈ TB)
    (hn : As.length = n) (hst : st0 = As.reverse ++ rest) (hst1 : rv.toList ++ rest = st1) (hsum : (rest.map fun v => v.category).sum ≤ 8) (hR : fr + 1 ≤ R.frames ∧ 8 + (nLy + 11) + lo ≤ R.locals) (hf : cells ≤ R.cells ∧ slots ≤ R.slots) (hd : decode cc pc = .ok (.invokestatic index, 3)) (hp : pc + 3 = pc1)
    (kk : Sm p l e R s m args below meth c G nL Q cells slots (wl G σ') pc1 L st1 o) : Sm p l e R s m args below meth c G nL Q cells slots (wl G σ) pc L st0 o :=
  sm_callS X pc1 As rest hM hw hin hlk hn hst hsum hR hf hd hp (hst1 ▸ kk)
theorem sm_callSN0 (X : Cx p s m args meth c cc nL own G) (pc1 : Nat) {y : MethodName} {cy : ByteArray} {nLy fr lo n index : Nat} {ret : Option FieldType} {rv : Option Value} {σ' : Sto} {host : String} (As : List Value) (rest : List Value) {st0 : List Value} (st1 : List Value)
    (hM : MW l G fr lo 0 0 y cy nLy ret As (wl G σ) rv (wl G σ')) (hw : CalW y cy nLy ret n) (hin : Cond.static y ∈ TB) (hlk : Cond.methodLinkNest own index y host ∈ NW)
    (hn : As.length = n) (hst : st0 = As.reverse ++ rest) (hst1 : rv.toList ++ rest = st1) (hsum : (rest.map fun v => v.category).sum ≤ 8) (hR : fr + 1 ≤ R.frames ∧ 8 + (nLy + 11) + lo ≤ R.locals) (hf : cells ≤ R.cells ∧ slots ≤ R.slots) (hd : decode cc pc = .ok (.invokestatic index, 3)) (hp : pc + 3 = pc1)
    (kk : Sm p l e R s m args below meth c G nL Q cells slots (wl G σ') pc1 L st1 o) : Sm p l e R s m args below meth c G nL Q cells slots (wl G σ) pc L st0 o :=
  sm_callSN X pc1 As rest hM hw hin hlk hn hst hsum hR hf hd hp (hst1 ▸ kk)
/-- a reference that must be there, of a class -/
def deref {γ : Type} (C : Nat) (r : Option Nat) (f : Nat → Option γ) : Option γ := match r with
  | some k => if K0 k = C then f k else none
  | none => none
theorem sm_deref {C : Nat} {r : Option Nat} {f : Nat → Option α} (h : ∀ k, r = some k → K0 k = C → Sm p l e R s m args below meth c G nL Q cells slots ws pc L st (f k)) : Sm p l e R s m args below meth c G nL Q cells slots ws pc L st (deref C r f) := by
  cases r with
  | none => exact sm_none
  | some k => exact sm_guard (fun hk => h k rfl hk)
/-- a text that must be there -/
def derefS {γ : Type} (r : Option Nat) (f : Nat → Option γ) : Option γ := match r with
  | some k => if 1003 ≤ k ∧ k < 1006 then f (k - 1003) else none
  | none => none
theorem sm_derefS {r : Option Nat} {f : Nat → Option α} (h : ∀ i, i < 3 → r = some (1003 + i) → Sm p l e R s m args below meth c G nL Q cells slots ws pc L st (f i)) : Sm p l e R s m args below meth c G nL Q cells slots ws pc L st (derefS r f) := by
  cases r with
  | none => exact sm_none
  | some k => exact sm_guard (fun hk => h (k - 1003) (by omega) (congrArg some (Nat.add_sub_cancel' hk.1).symm))
/-- the name of a reference that was read -/
def nmR {γ : Type} (x : Option Nat) (f : Option Nat → γ) : γ := f x
theorem sm_getrN (X : Cx p s m args meth c cc nL own G) (pc1 : Nat) {k ci j index : Nat} {C nm d : String} {f : Option Nat → Option α} (hk : K0 k = ci) (hF : Fld ci j 2 C nm d) (hd : decode cc pc = .ok (.getfield index, 3)) (hp : pc + 3 = pc1) (hq : Cond.fieldLink own index C nm d ∈ TB) (kk : ∀ r, r = σ.2 k j → Sm p l e R s m args below meth c G nL Q cells slots (wl G σ) pc1 L (va_re (gad G) r :: st) (f r)) : Sm p l e R s m args below meth c G nL Q cells slots (wl G σ) pc L (.ref (gad G k) :: st) (nmR (σ.2 k j) f) :=
  sm_getr X pc1 hk hF hd hp hq (kk _ rfl)
theorem sm_callStr (X : Cx p s m args meth c cc nL own G) (pc1 : Nat) {y : MethodName} {cy : ByteArray} {nLy fr lo n i index : Nat} {ret : Option FieldType} {rv : Option Value} (As : List Value) (rest : List Value) {st0 : List Value} (st1 : List Value)
    (hM : MW l G fr lo 0 0 y cy nLy ret (.ref (gad G (1003 + i)) :: As) (wl G σ) rv (wl G σ)) (hi : i < 3) (hw : CalW y cy nLy ret n) (hin : Cond.instanceMethod y ∈ TB) (hsel : Cond.selects y.cls y y ∈ TB) (hlk : Cond.methodLink own index y ∈ TB) (hy : y.cls = "java/lang/String")
    (hn : As.length = n) (hst : st0 = As.reverse ++ .ref (gad G (1003 + i)) :: rest) (hst1 : rv.toList ++ rest = st1) (hsum : (rest.map fun v => v.category).sum ≤ 8) (hR : fr + 1 ≤ R.frames ∧ 8 + (nLy + 11) + lo ≤ R.locals) (hf : cells ≤ R.cells ∧ slots ≤ R.slots) (hd : decode cc pc = .ok (.invokevirtual index, 3)) (hp : pc + 3 = pc1)
    (kk : Sm p l e R s m args below meth c G nL Q cells slots (wl G σ) pc1 L st1 o) : Sm p l e R s m args below meth c G nL Q cells slots (wl G σ) pc L st0 o := by
  subst hp
  subst hst
  subst hst1
  intro a ha H locs ls h1 h2 h3 h4 h5
  have ht := X.2.2.2.2.1
  have hE := X.2.2.2.2.2.2.2.1.2.2.2.2.2.2.2.2.2
  have hrun := va_runV (e := e) (below := below) (meth := meth) (As := As) (rest := rest) (C := y.cls) (g := F0 m pc ls (As.reverse ++ .ref (gad G (1003 + i)) :: rest)) (cells := cells) (slots := slots) (locs := locs) (H := H) ⟨X.1, X.2.1, X.2.2.1, X.2.2.2.2.2.1, ht⟩ hM
    ⟨callB_of n ht (tb_GoodIn hw.1) rfl rfl rfl (ht _ hw.2.1) (ht _ hlk) hw.2.2 hR, ht _ hin, ht _ hsel⟩
    ⟨WV.blind _, by rw [hy]; exact vk_recv (adK := fun i => gad G (1003 + i)) (i := i) hE hi h4, fun U hU hW => ⟨rfl, WV.at X h1 h2 h3 h4 hU hW⟩⟩ rfl hn h5.1 rfl (lv_room hsum) hd hf
  exact sm_ran (y := y) X h4 hrun (fun H1 locs1 g1 g2 g3 g4 => kk a ha H1 locs1 ls g1 g2 g3 g4 h5)
end SM3
/-- how a result is told: (answer, world) -/
abbrev fiI (G : GT) : Int32 × Sto → Option Value × va_W := fun r => (some (.int r.1), wl G r.2)
abbrev fiZ (G : GT) : Bool × Sto → Option Value × va_W := fun r => (some (.int (b2i r.1)), wl G r.2)
abbrev fiV (G : GT) : Sto → Option Value × va_W := fun σ => (none, wl G σ)
abbrev fiR (G : GT) : Option Nat × Sto → Option Value × va_W := fun r => (some (va_re (gad G) r.1), wl G r.2)
abbrev fpI (G : GT) (σ : Sto) : Int32 → Option Value × va_W := fun r => (some (.int r), wl G σ)
abbrev fpZ (G : GT) (σ : Sto) : Bool → Option Value × va_W := fun r => (some (.int (b2i r)), wl G σ)
abbrev fpR (G : GT) (σ : Sto) : Option Nat → Option Value × va_W := fun r => (some (va_re (gad G) r), wl G σ)
section SM4
variable {p : Program} {l : Launch} {e : Env} {R : Room} {s : State} {m : MethodId} {args : Array Value} {below : List Frame} {meth : Method} {c : Code} {cells slots : Nat}
variable {cc : ByteArray} {nL : Nat} {own : String} {G : GT} {α : Type} {ws : va_W} {pc : Nat} {L : List (Nat × Value)} {fin : α → Option Value × va_W} {a : α}
theorem sm_iret {v : Int32} (X : Cx p s m args meth c cc nL own G) (hr : meth.sig.returnType = some .int) (hd : decode cc pc = .ok (.ireturn, 1)) (hf : fin a = (some (.int v), ws)) : Sm p l e R s m args below meth c G nL (Qm below args s G cells slots fin) cells slots ws pc L [.int v] (some a) := by
  intro a' ha H locs ls h1 h2 h3 h4 h5
  cases ha
  unfold Qm
  rw [hf]
  exact W.iret X.1 X.2.1 hr (fun t ht hW => ⟨rfl, WV.at X h1 h2 h3 h4 ht hW, h4.F ht⟩) h4.2.2 hd X.2.2.2.1
theorem sm_zret {v : Bool} (X : Cx p s m args meth c cc nL own G) (hr : meth.sig.returnType = some .boolean) (hd : decode cc pc = .ok (.ireturn, 1)) (hf : fin a = (some (.int (b2i v)), ws)) : Sm p l e R s m args below meth c G nL (Qm below args s G cells slots fin) cells slots ws pc L [.int (b2i v)] (some a) := by
  intro a' ha H locs ls h1 h2 h3 h4 h5
  cases ha
  unfold Qm
  rw [hf]
  exact W.zret X.1 X.2.1 hr (by cases v <;> rfl) (fun t ht hW => ⟨rfl, WV.at X h1 h2 h3 h4 ht hW, h4.F ht⟩) h4.2.2 hd X.2.2.2.1
theorem sm_vret (X : Cx p s m args meth c cc nL own G) (hr : meth.sig.returnType = none) (hd : decode cc pc = .ok (.return_, 1)) (hf : fin a = (none, ws)) : Sm p l e R s m args below meth c G nL (Qm below args s G cells slots fin) cells slots ws pc L [] (some a) := by
  intro a' ha H locs ls h1 h2 h3 h4 h5
  cases ha
  unfold Qm
  rw [hf]
  exact W.vret X.1 X.2.1 hr (fun t ht hW => ⟨rfl, WV.at X h1 h2 h3 h4 ht hW, h4.F ht⟩) h4.2.2 hd X.2.2.2.1
theorem sm_aret {r : Option Nat} {nm : String} (X : Cx p s m args meth c cc nL own G) (hr : meth.sig.returnType = some (.object nm)) (hd : decode cc pc = .ok (.areturn, 1)) (hf : fin a = (some (va_re (gad G) r), ws)) : Sm p l e R s m args below meth c G nL (Qm below args s G cells slots fin) cells slots ws pc L [va_re (gad G) r] (some a) := by
  intro a' ha H locs ls h1 h2 h3 h4 h5
  cases ha
  unfold Qm
  rw [hf]
  exact W.aret X.1 X.2.1 hr (Or.inl ⟨_, rfl⟩) (va_re_or _ _) (fun t ht hW => ⟨rfl, WV.at X h1 h2 h3 h4 ht hW, h4.F ht⟩) h4.2.2 hd X.2.2.2.1
end SM4
