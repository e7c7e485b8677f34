/-! The law's start: class tables, statics, texts; the rows that read the script. -/
def st_b0 : Bst := (0, fun _ _ => 0, fun _ _ => none)
def st_bE : Bst := i_X9_init_81 (bN (i_X8_init_0 (bN st_b0)))
def st_0 : Sto := (st_bE.2.1, st_bE.2.2)
set_option maxRecDepth 100000 in
theorem st_n : st_bE.1 = NC := by decide +kernel
set_option maxRecDepth 100000 in
theorem st_fin : ∀ k, k < 94 → ∀ j, j < 24 → (FT (K0 k))[j]? = some 1 → R0 k j = st_bE.2.2 k j := by decide +kernel
theorem st_arr : ∀ k, k < 94 → K0 k < 10 ∨ K0 k = 20 ∨ k = 3 ∨ k = 30 ∨ k = 67 := by decide +kernel
set_option maxRecDepth 100000 in
theorem st_r3 (j : Nat) : R0 3 j = st_bE.2.2 3 j := by
  match j with
  | 0 => decide +kernel
  | 1 => decide +kernel
  | 2 => decide +kernel
  | 3 => decide +kernel
  | 4 => decide +kernel
  | 5 => decide +kernel
  | 6 => decide +kernel
  | 7 => decide +kernel
  | j + 8 => rfl
set_option maxRecDepth 100000 in
theorem st_r30 (j : Nat) : R0 30 j = st_bE.2.2 30 j := by
  match j with
  | 0 => decide +kernel
  | 1 => decide +kernel
  | 2 => decide +kernel
  | 3 => decide +kernel
  | 4 => decide +kernel
  | 5 => decide +kernel
  | 6 => decide +kernel
  | 7 => decide +kernel
  | j + 8 => rfl
set_option maxRecDepth 100000 in
theorem st_r67 (j : Nat) : R0 67 j = st_bE.2.2 67 j := by
  match j with
  | 0 => decide +kernel
  | 1 => decide +kernel
  | 2 => decide +kernel
  | 3 => decide +kernel
  | j + 4 => rfl
theorem st_ft : ∀ c, c < 10 → (FT c).length ≤ 24 := by decide
set_option maxRecDepth 100000 in
theorem st_wl {G : GT} : wb G st_bE = wl G st_0 := by
  unfold wb wl
  rw [st_n]
  refine List.map_congr_left (fun k hk => ?_)
  have hlt : k < 94 := List.mem_range.mp hk
  have e : bce G st_bE k = ce G st_0 k := by
    unfold bce ce
    rcases st_arr k hlt with h | h | h
    · rw [if_pos h, if_pos h]
      have e1 : bl G st_bE k (K0 k) = fl G st_0 k (K0 k) := by
        apply List.ext_getElem?
        intro j
        simp only [bl, fl, List.getElem?_mapIdx]
        cases ht : (FT (K0 k))[j]? with
        | none => rfl
        | some t =>
          have hj : j < 24 := Nat.lt_of_lt_of_le (List.getElem?_eq_some_iff.mp ht).1 (st_ft _ h)
          show some (bv G st_bE k j t) = some (fv G st_0 k j t)
          unfold bv fv
          by_cases h0 : t = 0
          · rw [if_pos h0, if_pos h0]; rfl
          · rw [if_neg h0, if_neg h0]
            by_cases h1 : t = 1
            · rw [if_pos h1, st_fin k hlt j hj (by rw [ht, h1])]
            · rw [if_neg h1]; rfl
      rw [e1]
    · have hn : ¬ K0 k < 10 := by omega
      rw [if_neg hn, if_neg hn, if_pos h, if_pos h]; rfl
    · have e2 : (fun j => (st_bE.2.2 k j).map (gad G)) = fun j => (R0 k j).map (gad G) := by
        funext j
        rcases h with rfl | rfl | rfl
        · rw [st_r3]
        · rw [st_r30]
        · rw [st_r67]
      have hk1 : ¬ K0 k < 10 ∧ ¬ K0 k = 20 := by
        rcases h with rfl | rfl | rfl <;> decide +kernel
      rw [e2, if_neg hk1.1, if_neg hk1.1, if_neg hk1.2, if_neg hk1.2]
  rw [e]
section LST
variable {p : Program} {l : Launch} {e : Env} {R : Room} {s : State} {m : MethodId} {args : Array Value} {below : List Frame} {meth : Method} {c : Code} {cells slots : Nat}
variable {cc : ByteArray} {nL : Nat} {own : String} {G : GT} {α : Type} {Q : α → State → Prop} {ws : va_W} {pc : Nat} {L : List (Nat × Value)} {st : List Value} {o : Option α}
theorem sm_sld (X : Cx p s m args meth c cc nL own G) (pc1 : Nat) {b N : Nat} {xs : Nat → Int32} {i : Int32} (hX : va_X b N xs s s.heap) (hbl : b < s.heap.size) (hbA : ¬ smA G b) (hin : vp_in i N) (hd : decode cc pc = .ok (.iaload, 1)) (hp : pc + 1 = pc1) (kk : Sm p l e R s m args below meth c G nL Q cells slots ws pc1 L (.int (xs i.toNatClampNeg) :: st) o) : Sm p l e R s m args below meth c G nL Q cells slots ws pc L (.int i :: .ref b :: st) o := by
  subst hp
  exact fun a ha H locs ls h1 h2 h3 h4 h5 => va_sld X.1 X.2.1 hX hbl hbA h4 hin hd (kk a ha H locs ls h1 h2 h3 h4 h5)
theorem sm_slen (X : Cx p s m args meth c cc nL own G) (pc1 : Nat) {b N : Nat} {xs : Nat → Int32} (hX : va_X b N xs s s.heap) (hbl : b < s.heap.size) (hbA : ¬ smA G b) (hd : decode cc pc = .ok (.arraylength, 1)) (hp : pc + 1 = pc1) (kk : Sm p l e R s m args below meth c G nL Q cells slots ws pc1 L (.int (nI N) :: st) o) : Sm p l e R s m args below meth c G nL Q cells slots ws pc L (.ref b :: st) o := by
  subst hp
  exact fun a ha H locs ls h1 h2 h3 h4 h5 => va_slen X.1 X.2.1 hX hbl hbA h4 hd (kk a ha H locs ls h1 h2 h3 h4 h5)
end LST
/-- the loop's test, i against L - 6 -/
theorem law_le {i L : Nat} (hL : L ≤ 3072) (hi : i ≤ 3072) (h : ¬ nI L - 6 < nI i) : i + 6 ≤ L := by
  rw [Int32.lt_iff_toInt_lt, nI_toInt (by omega), Int32.toInt_sub, nI_toInt (by omega), show (6 : Int32).toInt = 6 from rfl] at h
  rw [Int.bmod_eq_of_le (by omega) (by omega)] at h
  omega
def tmA : Term := .static "LakeSwimmers" "ABOVE" "[I"
def tmB : Term := .static "LakeSwimmers$Voices" "BODIES" "[I"
def tmS (i : Nat) : Term := .string "LakeSwimmers$Reader" (([28, 46, 48] : List Nat).getD i 0)
def law_fl : List Cond := flatC (Jvm.Cond.and given_1 narrow_1)
theorem lf_1 : Cond.arrayOf tmA .int ∈ law_fl := by decide +kernel
theorem lf_2 : Cond.eq (.length tmA) (.int 7) ∈ law_fl := by decide +kernel
theorem lf_3 : ∀ j, j < 7 → Cond.eq (.elem tmA (.int (Int32.ofNat j))) (.int (abv j)) ∈ law_fl := by decide +kernel
theorem lf_4 : Cond.arrayOf tmB .int ∈ law_fl := by decide +kernel
theorem lf_5 : Cond.eq (.length tmB) (.int 28) ∈ law_fl := by decide +kernel
theorem lf_6 : ∀ j, j < 28 → Cond.eq (.elem tmB (.int (Int32.ofNat j))) (.int (bod j)) ∈ law_fl := by decide +kernel
theorem lf_7 : Cond.eq (.static "java/lang/String" "COMPACT_STRINGS" "Z") (.int 1) ∈ law_fl := by decide +kernel
theorem lf_8 : ∀ i, i < 3 → Cond.exactly (tmS i) "java/lang/String" ∈ law_fl := by decide +kernel
theorem lf_9 : ∀ i, i < 3 → Cond.eq (.field (tmS i) "java/lang/String" "coder" "B") (.int 0) ∈ law_fl := by decide +kernel
theorem lf_10 : ∀ i, i < 3 → Cond.arrayOf (.field (tmS i) "java/lang/String" "value" "[B") .byte ∈ law_fl := by decide +kernel
theorem lf_11 : ∀ i, i < 3 → Cond.eq (.length (.field (tmS i) "java/lang/String" "value" "[B")) (.int (Int32.ofNat (sLen.getD i 0))) ∈ law_fl := by decide +kernel
theorem lf_12 : ∀ i, i < 3 → ∀ j, j < sLen.getD i 0 → Cond.eq (.elem (.field (tmS i) "java/lang/String" "value" "[B") (.int (Int32.ofNat j))) (.int ((sByt.getD i []).getD j 0)) ∈ law_fl := by decide +kernel
theorem lf_13 : ∀ i, i < 3 → ∀ j, j < 3 → i ≠ j → Cond.not (Cond.eq (tmS i) (tmS j)) ∈ law_fl ∨ Cond.not (Cond.eq (tmS j) (tmS i)) ∈ law_fl := by decide +kernel
theorem lt_1 : Cond.laysStatic "LakeSwimmers" "ABOVE" "[I" ∈ lw_tbl := by decide +kernel
theorem lt_2 : Cond.laysStatic "LakeSwimmers$Voices" "BODIES" "[I" ∈ lw_tbl := by decide +kernel
theorem lt_3 : Cond.laysStatic "java/lang/String" "COMPACT_STRINGS" "Z" ∈ lw_tbl := by decide +kernel
theorem lt_4 : Cond.initialized "LakeSwimmers" ∈ lw_tbl := by decide +kernel
theorem lt_5 : Cond.initialized "LakeSwimmers$Voices" ∈ lw_tbl := by decide +kernel
theorem lt_6 : Cond.initialized "java/lang/String" ∈ lw_tbl := by decide +kernel
theorem lt_7 : ∀ q ∈ sA, Cond.stringRef RX3 q.1 q.2 ∈ lw_tbl := by decide +kernel
theorem lt_8 : Cond.arrayOver (.object "LakeSwimmers$Swimmer") ∈ lw_tbl := by decide +kernel
theorem lt_9 : Cond.arrayOver (.object "LakeSwimmers$Sheet") ∈ lw_tbl := by decide +kernel
theorem lt_10 : ∀ w ∈ NW, w ∈ lw_tbl := by decide +kernel
theorem lt_11 : ∀ w ∈ NW, w.onTables = true := by decide +kernel
theorem lt_12 : Cond.arrayClass .int ∈ lw_tbl := by decide +kernel
theorem va_arrOf {s : State} {cA comp : ClassId} {kA : Class} {t : FieldType} (f2 : s.vm.classes[cA]? = some kA) (f3 : kA.kind = .array comp t) : ArrOfT s cA t := fun N z => ⟨(fun k h => by cases h), kA, f2, comp, f3⟩
set_option maxHeartbeats 4000000 in
theorem law_start {s : State} {b : Nat} (hts : ∀ w ∈ lw_tbl, w.before #[Value.ref b] s = true) (hgv : (Jvm.Cond.and given_1 narrow_1).before #[Value.ref b] s = true) : ∃ G : GT, GA G ∧ gb G = s.heap.size ∧ va_K (gD G) vwCl (tys G) s ∧ SF G s := by
  have hf : ∀ w ∈ law_fl, w.before #[Value.ref b] s = true := flat_of_before _ hgv
  have hTB : ∀ w ∈ TB, w.before #[Value.ref b] s = true := fun w hw => hts w (List.mem_filter.mp hw).1
  have hA : ∀ a : Nat, a < s.heap.size → ¬ (fun q : Nat => s.heap.size ≤ q) a := fun a h q => absurd (show s.heap.size ≤ a from q) (by omega)
  obtain ⟨c0, i0, h0⟩ := u_known (C := RX0) (T := TX0) (N := 16) (n := 16) hTB inX0 (hTB _ q_27)
  obtain ⟨c1, i1, h1⟩ := u_known (C := RX1) (T := TX1) (N := 4) (n := 4) hTB inX1 (hTB _ q_35)
  obtain ⟨c2, i2, h2⟩ := u_known (C := RX2) (T := TX2) (N := 8) (n := 8) hTB inX2 (hTB _ q_209)
  obtain ⟨c3, i3, h3⟩ := u_known (C := RX3) (T := TX3) (N := 6) (n := 6) hTB inX3 (hTB _ q_152)
  obtain ⟨c4, i4, h4⟩ := u_known (C := RX4) (T := TX4) (N := 3) (n := 3) hTB inX4 (hTB _ q_271)
  obtain ⟨c5, i5, h5⟩ := u_known (C := RX5) (T := TX5) (N := 6) (n := 6) hTB inX5 (hTB _ q_181)
  obtain ⟨c6, i6, h6⟩ := u_known (C := RX6) (T := TX6) (N := 6) (n := 6) hTB inX6 (hTB _ q_54)
  obtain ⟨c7, i7, h7⟩ := u_known (C := RX7) (T := TX7) (N := 5) (n := 5) hTB inX7 (hTB _ q_244)
  obtain ⟨c8, i8, h8⟩ := u_known (C := RX8) (T := TX8) (N := 11) (n := 11) hTB inX8 (hTB _ q_19)
  obtain ⟨c9, i9, h9⟩ := u_known (C := RX9) (T := TX9) (N := 24) (n := 24) hTB inX9 (hTB _ q_877)
  obtain ⟨dC, dI, hKc⟩ : ∃ (dC : Nat → ClassId) (dI : Nat → Nat → Nat), ∀ (k : Nat) (q : vw_C), vwCl[k]? = some q → u_Kn s q.1 q.2.1 q.2.2 (dC k) (dI k) := by
    refine ⟨fun k => match k with | 0 => c0 | 1 => c1 | 2 => c2 | 3 => c3 | 4 => c4 | 5 => c5 | 6 => c6 | 7 => c7 | 8 => c8 | _ => c9, fun k => match k with | 0 => i0 | 1 => i1 | 2 => i2 | 3 => i3 | 4 => i4 | 5 => i5 | 6 => i6 | 7 => i7 | 8 => i8 | _ => i9, ?_⟩
    intro k q hq
    match k, hq with
    | 0, hq => cases hq; exact h0
    | 1, hq => cases hq; exact h1
    | 2, hq => cases hq; exact h2
    | 3, hq => cases hq; exact h3
    | 4, hq => cases hq; exact h4
    | 5, hq => cases hq; exact h5
    | 6, hq => cases hq; exact h6
    | 7, hq => cases hq; exact h7
    | 8, hq => cases hq; exact h8
    | 9, hq => cases hq; exact h9
    | k + 10, hq => simp [vwCl] at hq
  obtain ⟨a0, k0, p0, g01, g02, g03⟩ := Cond.arrayClass_spec (hts _ lt_12)
  obtain ⟨p1, a1, k1, g11, -, g12, g13, g14⟩ := Cond.arrayOver_spec (hts _ lt_8)
  obtain ⟨p2, a2, k2, g21, -, g22, g23, g24⟩ := Cond.arrayOver_spec (hts _ lt_9)
  obtain ⟨tA, tA1, tA2⟩ := va_Tof (N := 7) (f := fun j => .int (abv j)) (by decide) (hf _ lf_1) (va_eqt (hf _ lf_2)) (fun j hj => va_eqt (hf _ (lf_3 j hj))) hA
  obtain ⟨tB, tB1, tB2⟩ := va_Tof (N := 28) (f := fun j => .int (bod j)) (by decide) (hf _ lf_4) (va_eqt (hf _ lf_5)) (fun j hj => va_eqt (hf _ (lf_6 j hj))) hA
  obtain ⟨adK, adV, hS, hSe⟩ := vk_Sof (N := 3) (tm := tmS) (len := sLen) (byt := sByt) (by decide) (fun i hi => hf _ (lf_8 i hi)) (fun i hi => hf _ (lf_9 i hi)) (fun i hi => hf _ (lf_10 i hi)) (fun i hi => hf _ (lf_11 i hi)) (fun i hi j hj => hf _ (lf_12 i hi j hj))
    (fun i j hi hj hij => (lf_13 i hi j hj hij).imp (hf _) (hf _)) hA
  obtain ⟨ad, hd1, hd2, hd3, hd4, hd5⟩ : ∃ ad : Nat → Nat, (∀ k, k < 94 → ad k = s.heap.size + k) ∧ ad 1001 = tA ∧ ad 1002 = tB ∧ (∀ i, i < 3 → ad (1003 + i) = adK i) ∧ (∀ i, i < 3 → ad (1006 + i) = adV i) := by
    refine ⟨fun k => if k < 94 then s.heap.size + k else if k = 1001 then tA else if k = 1002 then tB else if k < 1006 then adK (k - 1003) else adV (k - 1006), fun k hk => if_pos hk, rfl, rfl, fun i hi => ?_, fun i hi => ?_⟩
    · show (if 1003 + i < 94 then _ else if 1003 + i = 1001 then _ else if 1003 + i = 1002 then _ else if 1003 + i < 1006 then adK (1003 + i - 1003) else _) = _
      rw [if_neg (by omega), if_neg (by omega), if_neg (by omega), if_pos (by omega), Nat.add_sub_cancel_left]
    · show (if 1006 + i < 94 then _ else if 1006 + i = 1001 then _ else if 1006 + i = 1002 then _ else if 1006 + i < 1006 then _ else adV (1006 + i - 1006)) = _
      rw [if_neg (by omega), if_neg (by omega), if_neg (by omega), if_neg (by omega), Nat.add_sub_cancel_left]
  refine ⟨((dC, dI), fun i => if i = 0 then a0 else if i = 1 then a1 else a2, ad, s.heap.size), hd1, rfl, ⟨hKc, ?_⟩, ?_⟩
  · intro k q hq
    match k, hq with
    | 0, hq => cases hq; exact ⟨va_arrOf g02 g03, g01⟩
    | 1, hq => cases hq; exact ⟨va_arrOf g12 g13, k1, p1, g12, g13, g11, g14⟩
    | 2, hq => cases hq; exact ⟨va_arrOf g22 g23, k2, p2, g22, g23, g21, g24⟩
    | k + 3, hq => simp [tys] at hq
  · refine ⟨fun w hw => va_Nw.of (lt_11 w hw) (hts w (lt_10 w hw)), va_AO.of (hts _ lt_8), va_AO.of (hts _ lt_9), ?_, ?_, ?_, ?_, va_Zof (hts _ lt_3) (hts _ lt_6) (va_eqi (hf _ lf_7)) hA, ?_, ?_⟩
    · show va_Z _ _ _ (.ref (ad 1001)) _ _ _
      rw [hd2]; exact va_Zof (hts _ lt_1) (hts _ lt_4) tA1 hA
    · show va_T _ (ad 1001) _ _ _ _ _
      rw [hd2]; exact tA2
    · show va_Z _ _ _ (.ref (ad 1002)) _ _ _
      rw [hd3]; exact va_Zof (hts _ lt_2) (hts _ lt_5) tB1 hA
    · show va_T _ (ad 1002) _ _ _ _ _
      rw [hd3]; exact tB2
    · intro q hq
      have e : q.2 < 3 ∧ q.1 ∈ sA ∧ tmS q.2 = .string RX3 q.1.1 := (show ∀ q ∈ sA.zipIdx, q.2 < 3 ∧ q.1 ∈ sA ∧ tmS q.2 = .string RX3 q.1.1 by decide +kernel) q hq
      refine vk_R.of (hts _ (lt_7 _ e.2.1)) ?_
      rw [← e.2.2, hSe _ e.1]
      show _ = some (Value.ref (ad (1003 + q.2)))
      rw [hd4 _ e.1]
    · refine ⟨fun i hi => ?_, fun i j hi hj hij => ?_⟩
      · show va_O _ (ad (1003 + i)) _ _ _ ∧ va_OF _ _ _ _ (ad (1003 + i)) _ _ _ ∧ va_OF _ _ _ (.ref (ad (1006 + i))) (ad (1003 + i)) _ _ _ ∧ va_T _ (ad (1006 + i)) _ _ _ _ _
        rw [hd4 i hi, hd5 i hi]
        exact hS.1 i hi
      · have hij' : ad (1003 + i) = ad (1003 + j) := hij
        rw [hd4 i hi, hd4 j hj] at hij'
        exact hS.2 i j hi hj hij'
