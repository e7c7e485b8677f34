def FU : Nat := 10000
def f_ixS (i : Nat) (ch : Int32) : Option Int32 := some (match (sByt.getD i []).idxOf? ch with | some j => Int32.ofNat j | none => -1)
set_option maxRecDepth 100000 in
def f_X8_isOutside_L10    : Option Bool := some true
set_option maxRecDepth 100000 in
def f_X8_isOutside (a0 : Int32) (a1 : Int32) (a2 : Int32) : Option Bool := if a0 < a1 then f_X8_isOutside_L10 else if a0 ≤ a2 then (some false) else f_X8_isOutside_L10  
set_option maxRecDepth 100000 in
def f_X0_swimmerAt (σ : Sto) (k0 : Nat) (a1 : Int32) : Option (Option Nat) := (f_X8_isOutside a1 (0 : Int32) ((σ.1 k0 8) - (1 : Int32))).bind (fun r8 => if r8 = true then (some none) else if a1 < (8 : Int32) then ((rdR (A0 k0 7) a1).bind (fun r30 => some r30)) else some none)
set_option maxRecDepth 100000 in
def f_X0_lawOf (σ : Sto) (k0 : Nat) (a1 : Int32) : Option (Option Nat) := if a1 = 0 then (some (some (A0 k0 9))) else if a1 = (1 : Int32) then (some (some (A0 k0 10))) else some none
set_option maxRecDepth 100000 in
def f_X1_valueOf (a0 : Int32) (a1 : Int32) (a2 : Int32) (a3 : Int32) : Option Int32 := if a0 = (-3 : Int32) then (some a3) else if a0 = (-2 : Int32) then (some a2) else if a0 = (-1 : Int32) then (some a1) else some a0
set_option maxRecDepth 100000 in
def f_X1_joined_L92    : Option Int32 := some (1 : Int32)
set_option maxRecDepth 100000 in
def f_X1_joined (a0 : Int32) (a1 : Int32) (a2 : Int32) : Option Int32 := if a0 = (-124 : Int32) then (if a1 = 0 then (if a2 = 0 then (some (0 : Int32)) else f_X1_joined_L92) else f_X1_joined_L92) else if a0 = (-62 : Int32) then (if a1 ≤ a2 then (some (0 : Int32)) else some (1 : Int32)) else if a0 = (-61 : Int32) then (if a1 = a2 then (some (1 : Int32)) else some (0 : Int32)) else if a0 = (-60 : Int32) then (if a2 ≤ a1 then (some (0 : Int32)) else some (1 : Int32)) else if a0 = (-47 : Int32) then (if a2 = 0 then (some (0 : Int32)) else some (a1 / a2)) else if a0 = (-45 : Int32) then (some (a1 - a2)) else if a0 = (-43 : Int32) then (some (a1 + a2)) else if a0 = (-42 : Int32) then (some (a1 * a2)) else if a0 = (-38 : Int32) then (if a1 = 0 then (some (0 : Int32)) else if a2 = 0 then (some (0 : Int32)) else some (1 : Int32)) else if a2 = 0 then (some (0 : Int32)) else some (irem a1 a2)
set_option maxRecDepth 100000 in
def f_X1_workOut_L153 (K6 : Int32 → Int32 → Sto → Option (Int32 × Sto)) (k0 : Nat) (v1 : Int32) (v2 : Int32) (v3 : Int32) (v4 : Int32) (v5 : Int32) (σ : Sto) : Option (Int32 × Sto) := K6 v4 (v5 + (1 : Int32)) σ
set_option maxRecDepth 100000 in
def f_X1_workOut_L110 (K6 : Int32 → Int32 → Sto → Option (Int32 × Sto)) (k0 : Nat) (v1 : Int32) (v2 : Int32) (v3 : Int32) (v4 : Int32) (v5 : Int32) (vs0 : Bool) (vs1 : Int32) (ks2 : Nat) (σ : Sto) : Option (Int32 × Sto) := (wrA σ ks2 vs1 (b2i vs0)).bind (fun σ110 => f_X1_workOut_L153 K6 k0 v1 v2 v3 v4 v5 σ110)
set_option maxRecDepth 100000 in
def f_X1_workOut_L6  (k0 : Nat) (v1 : Int32) (v2 : Int32) (v3 : Int32) : Nat → Int32 → Int32 → Sto → Option (Int32 × Sto)
  | 0, _, _, _ => none
  | n + 1, v4, v5, σ => if (σ.1 k0 3) ≤ v5 then ((rdA σ (A0 k0 2) (0 : Int32)).bind (fun r164 => some (r164, σ))) else if (50 : Int32) ≤ v5 then ((rdA σ (A0 k0 2) (0 : Int32)).bind (fun r164 => some (r164, σ))) else (rdA σ (A0 k0 1) v5).bind (fun r31 => if r31 ≤ (-33 : Int32) then (if r31 = (-33 : Int32) then (if v4 < (1 : Int32) then (f_X1_workOut_L153 (f_X1_workOut_L6  k0 v1 v2 v3 n) k0 v1 v2 v3 v4 v5 σ) else (rdA σ (A0 k0 2) (v4 - (1 : Int32))).bind (fun r101 => if r101 = 0 then (f_X1_workOut_L110 (f_X1_workOut_L6  k0 v1 v2 v3 n) k0 v1 v2 v3 v4 v5 true (v4 - (1 : Int32)) (A0 k0 2) σ) else f_X1_workOut_L110 (f_X1_workOut_L6  k0 v1 v2 v3 n) k0 v1 v2 v3 v4 v5 false (v4 - (1 : Int32)) (A0 k0 2) σ)) else if v4 < (2 : Int32) then (f_X1_workOut_L153 (f_X1_workOut_L6  k0 v1 v2 v3 n) k0 v1 v2 v3 v4 v5 σ) else (rdA σ (A0 k0 2) ((v4 + (-1 : Int32)) - (1 : Int32))).bind (fun r141 => (rdA σ (A0 k0 2) (v4 + (-1 : Int32))).bind (fun r148 => (f_X1_joined r31 r141 r148).bind (fun r149 => (wrA σ (A0 k0 2) ((v4 + (-1 : Int32)) - (1 : Int32)) r149).bind (fun σ152 => f_X1_workOut_L153 (f_X1_workOut_L6  k0 v1 v2 v3 n) k0 v1 v2 v3 (v4 + (-1 : Int32)) v5 σ152))))) else if (50 : Int32) ≤ v4 then (f_X1_workOut_L153 (f_X1_workOut_L6  k0 v1 v2 v3 n) k0 v1 v2 v3 v4 v5 σ) else (f_X1_valueOf r31 v1 v2 v3).bind (fun r62 => (wrA σ (A0 k0 2) v4 r62).bind (fun σ65 => f_X1_workOut_L153 (f_X1_workOut_L6  k0 v1 v2 v3 n) k0 v1 v2 v3 (v4 + (1 : Int32)) v5 σ65)))
set_option maxRecDepth 100000 in
def f_X1_workOut (σ : Sto) (k0 : Nat) (a1 : Int32) (a2 : Int32) (a3 : Int32) : Option (Int32 × Sto) := f_X1_workOut_L6  k0 a1 a2 a3 FU (0 : Int32) (0 : Int32) σ
set_option maxRecDepth 100000 in
def f_X8_heldWithin (a0 : Int32) (a1 : Int32) (a2 : Int32) : Option Int32 := some (imax a1 (imin a2 a0))
set_option maxRecDepth 100000 in
def f_X1_give (σ : Sto) (k0 : Nat) (a1 : Int32) (a2 : Int32) (a3 : Int32) : Option (Int32 × Sto) := if (σ.1 k0 0) = 0 then (if (σ.1 k0 3) ≤ 0 then ((f_X8_heldWithin (a1 + ((2 : Int32) * a2)) (-30 : Int32) (30 : Int32)).bind (fun r33 => some (r33, σ))) else (f_X1_workOut σ k0 a1 a2 a3).bind (fun r18 => (f_X8_heldWithin r18.1 (-30 : Int32) (30 : Int32)).bind (fun r33 => some (r33, r18.2)))) else if (σ.1 k0 3) ≤ 0 then ((f_X8_heldWithin (a1 / (12 : Int32)) (0 : Int32) (100 : Int32)).bind (fun r61 => some (r61, σ))) else (f_X1_workOut σ k0 a1 a2 a3).bind (fun r48 => (f_X8_heldWithin r48.1 (0 : Int32) (100 : Int32)).bind (fun r61 => some (r61, r48.2)))
set_option maxRecDepth 100000 in
def f_X0_flowOf (σ : Sto) (k0 : Nat) (a1 : Int32) (a2 : Int32) : Option (Int32 × Sto) := (f_X8_isOutside a1 (0 : Int32) (5 : Int32)).bind (fun r3 => if r3 = true then (some ((0 : Int32), σ)) else (rdA σ (A0 k0 0) a1).bind (fun r20 => (f_X1_give σ (A0 k0 9) r20 a2 a1).bind (fun r23 => some (r23.1, r23.2))))
set_option maxRecDepth 100000 in
def f_X0_addToTape_L3  (k0 : Nat) (v1 : Int64) (v3 : Int32) : Nat → Int32 → Sto → Option Sto
  | 0, _, _ => none
  | n + 1, v4, σ => if v3 ≤ v4 then (some σ) else if (50 : Int32) ≤ (σ.1 k0 12) then (some σ) else (wrA σ (A0 k0 11) (σ.1 k0 12) ((Int64.toInt32 (lushr v1 ((8 : Int32) * v4))) &&& (255 : Int32))).bind (fun σ41 => lp (sI σ41 k0 12 ((σ41.1 k0 12) + (1 : Int32))) (fun σ49 => (f_X0_addToTape_L3  k0 v1 v3 n) (v4 + (1 : Int32)) σ49))
set_option maxRecDepth 100000 in
def f_X0_addToTape (σ : Sto) (k0 : Nat) (a1 : Int64) (a3 : Int32) : Option Sto := f_X0_addToTape_L3  k0 a1 a3 FU (0 : Int32) σ
set_option maxRecDepth 100000 in
def f_X0_draw (σ : Sto) (k0 : Nat) : Option (Int32 × Sto) := lp (sI σ k0 15 (((σ.1 k0 15) * (1103515245 : Int32)) + (12345 : Int32))) (fun σ12 => some ((iushr (σ12.1 k0 15) (8 : Int32)), σ12))
set_option maxRecDepth 100000 in
def f_X0_share (σ : Sto) (k0 : Nat) : Option Sto := (f_X1_give σ (A0 k0 10) (σ.1 k0 3) (σ.1 k0 4) (σ.1 k0 1)).bind (fun r16 => lp (sI r16.2 k0 5 (imin (999999 : Int32) ((r16.2.1 k0 5) + r16.1))) (fun σ32 => lp (sI σ32 k0 6 (imin (999999 : Int32) (((σ32.1 k0 6) + (100 : Int32)) - r16.1))) (fun σ50 => some σ50)))
set_option maxRecDepth 100000 in
def f_X1_copy (σ : Sto) (k0 : Nat) (a1 : Nat) : Option Sto := lp (sI σ k0 3 (σ.1 a1 3)) (fun σ5 => (cpA σ5 (A0 a1 1) (0 : Int32) (A0 k0 1) (0 : Int32) (50 : Int32)).bind (fun σ20 => some σ20))
set_option maxRecDepth 100000 in
def f_X6_copy (σ : Sto) (k0 : Nat) (a1 : Nat) : Option Sto := lp (sI σ k0 0 (σ.1 a1 0)) (fun σ5 => lp (sI σ5 k0 1 (σ5.1 a1 1)) (fun σ13 => lp (sI σ13 k0 2 (σ13.1 a1 2)) (fun σ21 => lp (sI σ21 k0 3 (σ21.1 a1 3)) (fun σ29 => lp (sI σ29 k0 4 (σ29.1 a1 4)) (fun σ37 => (cpA σ37 (A0 a1 5) (0 : Int32) (A0 k0 5) (0 : Int32) (4 : Int32)).bind (fun σ51 => some σ51))))))
set_option maxRecDepth 100000 in
def f_X0_copy_L185 (K149 : Int32 → Sto → Option Sto) (k0 : Nat) (k1 : Nat) (v2 : Int32) (σ : Sto) : Option Sto := K149 (v2 + (1 : Int32)) σ
set_option maxRecDepth 100000 in
def f_X0_copy_L149  (k0 : Nat) (k1 : Nat) : Nat → Int32 → Sto → Option Sto
  | 0, _, _ => none
  | n + 1, v2, σ => if (σ.1 k0 8) ≤ v2 then (some σ) else (f_X0_swimmerAt σ k0 v2).bind (fun r159 => (f_X0_swimmerAt σ k1 v2).bind (fun r165 => onN r159 (f_X0_copy_L185 (f_X0_copy_L149  k0 k1 n) k0 k1 v2 σ) (fun k171 => onN r165 (f_X0_copy_L185 (f_X0_copy_L149  k0 k1 n) k0 k1 v2 σ) (fun k176 => if K0 k171 = 6 then (if K0 k176 = 6 then ((f_X6_copy σ k171 k176).bind (fun r182 => f_X0_copy_L185 (f_X0_copy_L149  k0 k1 n) k0 k1 v2 r182)) else none) else none))))
set_option maxRecDepth 100000 in
def f_X0_copy (σ : Sto) (k0 : Nat) (a1 : Nat) : Option Sto := lp (sI σ k0 1 (σ.1 a1 1)) (fun σ5 => lp (sI σ5 k0 2 (σ5.1 a1 2)) (fun σ13 => lp (sI σ13 k0 3 (σ13.1 a1 3)) (fun σ21 => lp (sI σ21 k0 4 (σ21.1 a1 4)) (fun σ29 => lp (sI σ29 k0 5 (σ29.1 a1 5)) (fun σ37 => lp (sI σ37 k0 6 (σ37.1 a1 6)) (fun σ45 => lp (sI σ45 k0 8 (σ45.1 a1 8)) (fun σ53 => lp (sI σ53 k0 12 (σ53.1 a1 12)) (fun σ61 => lp (sI σ61 k0 14 (σ61.1 a1 14)) (fun σ69 => lp (sI σ69 k0 15 (σ69.1 a1 15)) (fun σ77 => (f_X1_copy σ77 (A0 k0 9) (A0 a1 9)).bind (fun r88 => (f_X1_copy r88 (A0 k0 10) (A0 a1 10)).bind (fun r99 => (cpA r99 (A0 a1 0) (0 : Int32) (A0 k0 0) (0 : Int32) (6 : Int32)).bind (fun σ114 => (cpA σ114 (A0 a1 11) (0 : Int32) (A0 k0 11) (0 : Int32) (50 : Int32)).bind (fun σ129 => (cpA σ129 (A0 a1 13) (0 : Int32) (A0 k0 13) (0 : Int32) (20 : Int32)).bind (fun σ144 => f_X0_copy_L149  k0 a1 FU (0 : Int32) σ144)))))))))))))))
set_option maxRecDepth 100000 in
def f_X1_take (σ : Sto) (k0 : Nat) : Option Sto := lp (sI σ k0 3 (σ.1 55 1)) (fun σ5 => (cpA σ5 56 (0 : Int32) (A0 k0 1) (0 : Int32) (50 : Int32)).bind (fun σ20 => some σ20))
set_option maxRecDepth 100000 in
def f_X2_bestLane (σ : Sto) (a1 : Int32) : Option Int32 := (f_X8_isOutside a1 (0 : Int32) ((4 : Int32) - (1 : Int32))).bind (fun r9 => if r9 = true then (some (0 : Int32)) else (rdA σ 61 a1).bind (fun r24 => some r24))
set_option maxRecDepth 100000 in
def f_X6_shore (σ : Sto) (k0 : Nat) : Option Int32 := if (σ.1 k0 2) = 0 then (some (0 : Int32)) else some (1200 : Int32)
set_option maxRecDepth 100000 in
def f_X6_plainPace (σ : Sto) (k0 : Nat) (a1 : Int32) : Option Int32 := if (5 : Int32) ≤ (((20 : Int32) + (σ.1 k0 3)) - (a1 / (4 : Int32))) then (some (((20 : Int32) + (σ.1 k0 3)) - (a1 / (4 : Int32)))) else some (5 : Int32)
set_option maxRecDepth 100000 in
def f_X6_paceIn_L24 (σ : Sto)  (k0 : Nat) (v1 : Int32) (v2 : Int32) (vs0 : Int32)  : Option Int32 := if (σ.1 k0 0) = (1 : Int32) then (some vs0) else if (σ.1 k0 0) = (2 : Int32) then (some (v2 + (σ.1 k0 1))) else if (σ.1 k0 0) = (3 : Int32) then (some (5 : Int32)) else if (σ.1 k0 0) = (4 : Int32) then (if (3 : Int32) < v1 then (some vs0) else some (0 : Int32)) else if (σ.1 k0 0) = (5 : Int32) then ((f_X6_plainPace σ k0 (0 : Int32)).bind (fun r92 => some (r92 + (σ.1 k0 1)))) else if (σ.1 k0 0) = (6 : Int32) then (if (irem v1 (10 : Int32)) = (σ.1 k0 1) then (some (0 : Int32)) else some (5 : Int32)) else some v2
set_option maxRecDepth 100000 in
def f_X6_paceIn (σ : Sto) (k0 : Nat) (a1 : Int32) : Option Int32 := (f_X6_plainPace σ k0 a1).bind (fun r2 => if (σ.1 k0 1) ≤ a1 then (f_X6_paceIn_L24 σ  k0 a1 r2 (r2 / (2 : Int32))) else f_X6_paceIn_L24 σ  k0 a1 r2 (r2 + (20 : Int32)))
set_option maxRecDepth 100000 in
def f_X6_laneOf_L13 (σ : Sto)    : Option Int32 := some (0 : Int32)
set_option maxRecDepth 100000 in
def f_X6_laneOf (σ : Sto) (k0 : Nat) (a1 : Int32) : Option Int32 := if a1 < 0 then (f_X6_laneOf_L13 σ) else if a1 < (4 : Int32) then ((rdA σ (A0 k0 5) a1).bind (fun r22 => some r22)) else f_X6_laneOf_L13 σ  
set_option maxRecDepth 100000 in
def f_X6_laneIn (σ : Sto) (k0 : Nat) (a1 : Int32) : Option Int32 := if (4 : Int32) ≤ (a1 / (10 : Int32)) then ((f_X6_laneOf σ k0 (3 : Int32)).bind (fun r16 => some r16)) else (f_X6_laneOf σ k0 (a1 / (10 : Int32))).bind (fun r16 => some r16)
set_option maxRecDepth 100000 in
def f_X5_flowIn (σ : Sto) (a1 : Int32) : Option Int32 := (f_X8_isOutside a1 (0 : Int32) ((6 : Int32) - (1 : Int32))).bind (fun r9 => if r9 = true then (some (0 : Int32)) else (rdA σ 59 a1).bind (fun r24 => some r24))
set_option maxRecDepth 100000 in
def f_X5_placeNext_L22 (σ : Sto)  (k1 : Nat) (v2 : Int32) (v3 : Int32) (vs0 : Int32)  : Option Int32 := (f_X6_laneIn σ k1 v3).bind (fun r31 => (f_X5_flowIn σ r31).bind (fun r34 => (f_X8_heldWithin ((v2 + vs0) + r34) (0 : Int32) (1200 : Int32)).bind (fun r42 => some r42)))
set_option maxRecDepth 100000 in
def f_X5_placeNext (σ : Sto) (a1 : Nat) (a2 : Int32) (a3 : Int32) : Option Int32 := (f_X6_paceIn σ a1 a3).bind (fun r2 => if (σ.1 a1 2) = 0 then (f_X5_placeNext_L22 σ  a1 a2 a3 r2) else f_X5_placeNext_L22 σ  a1 a2 a3 (-r2))
set_option maxRecDepth 100000 in
def f_X2_setLane_L29 (K6 : Int32 → Sto → Option Sto) (v1 : Int32) (v2 : Int32) (v3 : Int32) (vs0 : Int32) (vs1 : Int32) (σ : Sto) : Option Sto := (wrA σ 63 vs1 vs0).bind (fun σ29 => K6 (v3 + (1 : Int32)) σ29)
set_option maxRecDepth 100000 in
def f_X2_setLane_L6  (v1 : Int32) (v2 : Int32) : Nat → Int32 → Sto → Option Sto
  | 0, _, _ => none
  | n + 1, v3, σ => if (4 : Int32) ≤ v3 then (some σ) else if v3 = v1 then (f_X2_setLane_L29 (f_X2_setLane_L6  v1 v2 n) v1 v2 v3 v2 v3 σ) else f_X2_setLane_L29 (f_X2_setLane_L6  v1 v2 n) v1 v2 v3 (0 : Int32) v3 σ
set_option maxRecDepth 100000 in
def f_X2_setLane (σ : Sto) (a1 : Int32) (a2 : Int32) : Option Sto := f_X2_setLane_L6  a1 a2 FU (imax (0 : Int32) a1) σ
set_option maxRecDepth 100000 in
def f_X8_isBetter (a0 : Int32) (a1 : Int32) (a2 : Int32) : Option Bool := if a0 = 0 then (if a1 ≤ a2 then (some false) else some true) else if a2 ≤ a1 then (some false) else some true
set_option maxRecDepth 100000 in
def f_X2_meetsAt_L115  (v5 : Int32) (σ : Sto) : Option (Bool × Sto) := lp (sI σ 60 0 (1 : Int32)) (fun σ117 => lp (sI σ117 60 1 v5) (fun σ123 => (cpA σ123 63 (0 : Int32) 61 (0 : Int32) (4 : Int32)).bind (fun σ140 => some (true, σ140))))
set_option maxRecDepth 100000 in
def f_X2_meetsAt_L69  (v1 : Int32) (v3 : Int32) (vs0 : Int32) (σ : Sto) : Option (Bool × Sto) := if vs0 ≤ (σ.1 60 7) then (if (σ.1 60 0) = 0 then (f_X2_meetsAt_L115  ((v1 + v3) / (2 : Int32)) σ) else (f_X8_isBetter (σ.1 62 2) ((v1 + v3) / (2 : Int32)) (σ.1 60 1)).bind (fun r109 => if r109 = true then (f_X2_meetsAt_L115  ((v1 + v3) / (2 : Int32)) σ) else some (true, σ))) else some (false, σ)
set_option maxRecDepth 100000 in
def f_X2_meetsAt (σ : Sto) (a1 : Int32) (a2 : Int32) : Option (Bool × Sto) := nmR (σ.2 60 6) (fun r1 => onN r1 (some (false, σ)) (fun k4 => (f_X8_isOutside a2 (0 : Int32) ((60 : Int32) - (1 : Int32))).bind (fun r16 => if r16 = true then (some (false, σ)) else (f_X6_laneIn σ 62 a2).bind (fun r27 => nmR (σ.2 60 6) (fun r31 => deref 6 r31 (fun k35 => (f_X6_laneIn σ k35 a2).bind (fun r35 => if r27 = r35 then ((rdA σ 64 a2).bind (fun r48 => if (σ.1 62 2) = 0 then (f_X2_meetsAt_L69  a1 r48 (r48 - a1) σ) else f_X2_meetsAt_L69  a1 r48 (a1 - r48) σ)) else some (false, σ))))))))
set_option maxRecDepth 100000 in
def f_X2_tryLanes_L164 (rec : Nat → Int32 → Int32 → Sto → Option Sto) (K38 : Int32 → Sto → Option Sto) (v1 : Int32) (v2 : Int32) (v3 : Bool) (v4 : Int32) (σ : Sto) : Option Sto := K38 (v4 + (1 : Int32)) σ
set_option maxRecDepth 100000 in
def f_X2_tryLanes_L146 (rec : Nat → Int32 → Int32 → Sto → Option Sto) (K38 : Int32 → Sto → Option Sto) (v1 : Int32) (v2 : Int32) (v3 : Bool) (v4 : Int32) (v5 : Int32) (v6 : Bool) (σ : Sto) : Option Sto := if v6 = true then (f_X2_tryLanes_L164 rec K38 v1 v2 v3 v4 σ) else if v3 = true then (f_X2_tryLanes_L164 rec K38 v1 v2 v3 v4 σ) else (rec 0 (v1 + (1 : Int32)) v5 σ).bind (fun r161 => f_X2_tryLanes_L164 rec K38 v1 v2 v3 v4 r161)
set_option maxRecDepth 100000 in
def f_X2_tryLanes_L101 (rec : Nat → Int32 → Int32 → Sto → Option Sto) (K38 : Int32 → Sto → Option Sto) (v1 : Int32) (v2 : Int32) (v3 : Bool) (v4 : Int32) (v7 : Int32) : Nat → Int32 → Bool → Int32 → Sto → Option Sto
  | 0, _, _, _, _ => none
  | n + 1, v5, v6, v8, σ => if v7 ≤ v8 then (f_X2_tryLanes_L146 rec K38 v1 v2 v3 v4 v5 v6 σ) else if v6 = true then (f_X2_tryLanes_L146 rec K38 v1 v2 v3 v4 v5 v6 σ) else nmR (σ.2 60 5) (fun r114 => deref 5 r114 (fun k125 => (f_X5_placeNext σ 62 v5 v8).bind (fun r125 => (f_X2_meetsAt σ r125 v8).bind (fun r135 => (f_X2_tryLanes_L101 rec K38 v1 v2 v3 v4 v7 n) r125 r135.1 (v8 + (1 : Int32)) r135.2))))
set_option maxRecDepth 100000 in
def f_X2_tryLanes_L93 (rec : Nat → Int32 → Int32 → Sto → Option Sto) (K38 : Int32 → Sto → Option Sto) (v1 : Int32) (v2 : Int32) (v3 : Bool) (v4 : Int32) (v5 : Int32) (v6 : Bool) (vs0 : Int32) (σ : Sto) : Option Sto := f_X2_tryLanes_L101 rec K38 v1 v2 v3 v4 vs0 FU v5 v6 (v1 * (10 : Int32)) σ
set_option maxRecDepth 100000 in
def f_X2_tryLanes_L65 (rec : Nat → Int32 → Int32 → Sto → Option Sto) (K38 : Int32 → Sto → Option Sto) (v1 : Int32) (v2 : Int32) (v3 : Bool) (v4 : Int32) (σ : Sto) : Option Sto := (f_X2_setLane σ v1 v4).bind (fun r69 => if v3 = true then (f_X2_tryLanes_L93 rec K38 v1 v2 v3 v4 v2 false (60 : Int32) r69) else f_X2_tryLanes_L93 rec K38 v1 v2 v3 v4 v2 false ((v1 + (1 : Int32)) * (10 : Int32)) r69)
set_option maxRecDepth 100000 in
def f_X2_tryLanes_L38 (rec : Nat → Int32 → Int32 → Sto → Option Sto)  (v1 : Int32) (v2 : Int32) (v3 : Bool) : Nat → Int32 → Sto → Option Sto
  | 0, _, _ => none
  | n + 1, v4, σ => if (6 : Int32) ≤ v4 then (some σ) else if v3 = true then (nmR (σ.2 60 6) (fun r52 => deref 6 r52 (fun k56 => (f_X6_laneOf σ k56 v1).bind (fun r56 => if v4 = r56 then (f_X2_tryLanes_L65 rec (f_X2_tryLanes_L38 rec  v1 v2 v3 n) v1 v2 v3 v4 σ) else f_X2_tryLanes_L164 rec (f_X2_tryLanes_L38 rec  v1 v2 v3 n) v1 v2 v3 v4 σ)))) else f_X2_tryLanes_L65 rec (f_X2_tryLanes_L38 rec  v1 v2 v3 n) v1 v2 v3 v4 σ
set_option maxRecDepth 100000 in
def f_X2_tryLanes_L34 (rec : Nat → Int32 → Int32 → Sto → Option Sto)  (v1 : Int32) (v2 : Int32) (vs0 : Bool) (σ : Sto) : Option Sto := f_X2_tryLanes_L38 rec  v1 v2 vs0 FU (0 : Int32) σ
set_option maxRecDepth 100000 in
def b_X2_tryLanes (rec : Nat → Int32 → Int32 → Sto → Option Sto) (σ : Sto) (a1 : Int32) (a2 : Int32) : Option Sto := (f_X8_isOutside a1 (0 : Int32) (3 : Int32)).bind (fun r3 => if r3 = true then (some σ) else nmR (σ.2 60 5) (fun r10 => onN r10 (some σ) (fun k13 => nmR (σ.2 60 6) (fun r17 => onN r17 (some σ) (fun k20 => if a1 = (3 : Int32) then (f_X2_tryLanes_L34 rec  a1 a2 true σ) else f_X2_tryLanes_L34 rec  a1 a2 false σ)))))
set_option maxRecDepth 100000 in
def g_X2_tryLanes : Nat → Nat → Int32 → Int32 → Sto → Option Sto
  | 0, _, _, _, _ => none
  | d + 1, 0, x0, x1, σ => b_X2_tryLanes (g_X2_tryLanes d) σ x0 x1
  | _ + 1, _, _, _, _ => none

set_option maxRecDepth 100000 in
def f_X2_seek_L43  (k3 : Nat) : Nat → Int32 → Int32 → Sto → Option Sto
  | 0, _, _, _ => none
  | n + 1, v5, v6, σ => if (60 : Int32) ≤ v6 then ((f_X6_shore σ 62).bind (fun r85 => (g_X2_tryLanes 8 0 (0 : Int32) r85 σ).bind (fun r88 => some r88))) else (f_X5_placeNext σ k3 v5 v6).bind (fun r59 => (wrA σ 64 v6 r59).bind (fun σ72 => (f_X2_seek_L43  k3 n) r59 (v6 + (1 : Int32)) σ72))
set_option maxRecDepth 100000 in
def f_X2_seek (σ : Sto) (a2 : Nat) (a3 : Nat) (a4 : Int32) : Option Sto := lp (sR σ 60 5 (some 58)) (fun σ2 => lp (sR σ2 60 6 (some a3)) (fun σ7 => lp (sI σ7 60 7 a4) (fun σ13 => lp (sI σ13 60 0 (0 : Int32)) (fun σ18 => lp (sI σ18 60 1 (0 : Int32)) (fun σ23 => (f_X6_copy σ23 62 a2).bind (fun r31 => (f_X6_shore r31 a3).bind (fun r35 => f_X2_seek_L43  a3 FU r35 (0 : Int32) r31)))))))
set_option maxRecDepth 100000 in
def f_X3_next_L30 (σ : Sto)    : Option Int32 := some (-1 : Int32)
set_option maxRecDepth 100000 in
def f_X3_next (σ : Sto)  : Option Int32 := if (σ.1 55 4) < 0 then (f_X3_next_L30 σ) else if (σ.1 55 3) ≤ (σ.1 55 4) then (f_X3_next_L30 σ) else if (σ.1 55 4) < (50 : Int32) then ((rdA σ 57 (σ.1 55 4)).bind (fun r42 => some r42)) else f_X3_next_L30 σ  
set_option maxRecDepth 100000 in
def f_X3_isDigit (a0 : Int32) : Option Bool := if a0 < (48 : Int32) then (some false) else if (57 : Int32) < a0 then (some false) else some true
set_option maxRecDepth 100000 in
def f_X3_add (σ : Sto) (a1 : Int32) : Option Sto := if (50 : Int32) ≤ (σ.1 55 1) then (some σ) else (wrA σ 56 (σ.1 55 1) a1).bind (fun σ21 => lp (sI σ21 55 1 ((σ21.1 55 1) + (1 : Int32))) (fun σ29 => some σ29))
set_option maxRecDepth 100000 in
def f_X3_readNumber_L4   : Nat → Int32 → Int32 → Sto → Option Sto
  | 0, _, _, _ => none
  | n + 1, v1, v2, σ => if (4 : Int32) ≤ v2 then ((f_X3_add σ v1).bind (fun r50 => some r50)) else (f_X3_next σ).bind (fun r10 => (f_X3_isDigit r10).bind (fun r13 => if r13 = true then ((f_X3_next σ).bind (fun r24 => lp (sI σ 55 4 ((σ.1 55 4) + (1 : Int32))) (fun σ39 => (f_X3_readNumber_L4   n) (((v1 * (10 : Int32)) + r24) - (48 : Int32)) (v2 + (1 : Int32)) σ39))) else (f_X3_add σ v1).bind (fun r50 => some r50)))
set_option maxRecDepth 100000 in
def f_X3_readNumber (σ : Sto)  : Option Sto := f_X3_readNumber_L4   FU (0 : Int32) (0 : Int32) σ
set_option maxRecDepth 100000 in
def f_X3_readAll_L10 (rec : Nat → Int32 → Sto → Option (Bool × Sto))  (v1 : Int32) : Nat → Sto → Option (Bool × Sto)
  | 0, _ => none
  | n + 1, σ => if (σ.1 55 3) ≤ (σ.1 55 4) then (some (true, σ)) else (f_X3_next σ).bind (fun r22 => if r22 = (38 : Int32) then (lp (sI σ 55 4 ((σ.1 55 4) + (1 : Int32))) (fun σ37 => (rec 3 v1 σ37).bind (fun r42 => if r42.1 = true then ((f_X3_add r42.2 (-38 : Int32)).bind (fun r53 => (f_X3_readAll_L10 rec  v1 n) r53)) else some (false, r42.2)))) else some (true, σ))
set_option maxRecDepth 100000 in
def b_X3_readAll (rec : Nat → Int32 → Sto → Option (Bool × Sto)) (σ : Sto) (a1 : Int32) : Option (Bool × Sto) := (rec 3 a1 σ).bind (fun r2 => if r2.1 = true then (f_X3_readAll_L10 rec  a1 FU r2.2) else some (false, r2.2))
set_option maxRecDepth 100000 in
def f_X3_readAny_L10 (rec : Nat → Int32 → Sto → Option (Bool × Sto))  (v1 : Int32) : Nat → Sto → Option (Bool × Sto)
  | 0, _ => none
  | n + 1, σ => if (σ.1 55 3) ≤ (σ.1 55 4) then (some (true, σ)) else (f_X3_next σ).bind (fun r22 => if r22 = (124 : Int32) then (lp (sI σ 55 4 ((σ.1 55 4) + (1 : Int32))) (fun σ37 => (rec 0 v1 σ37).bind (fun r42 => if r42.1 = true then ((f_X3_add r42.2 (-124 : Int32)).bind (fun r53 => (f_X3_readAny_L10 rec  v1 n) r53)) else some (false, r42.2)))) else some (true, σ))
set_option maxRecDepth 100000 in
def b_X3_readAny (rec : Nat → Int32 → Sto → Option (Bool × Sto)) (σ : Sto) (a1 : Int32) : Option (Bool × Sto) := (rec 0 a1 σ).bind (fun r2 => if r2.1 = true then (f_X3_readAny_L10 rec  a1 FU r2.2) else some (false, r2.2))
set_option maxRecDepth 100000 in
def b_X3_readBracket (rec : Nat → Int32 → Sto → Option (Bool × Sto)) (σ : Sto) (a1 : Int32) : Option (Bool × Sto) := (rec 1 a1 σ).bind (fun r2 => if r2.1 = true then ((f_X3_next r2.2).bind (fun r9 => if r9 = (41 : Int32) then (lp (sI r2.2 55 4 ((r2.2.1 55 4) + (1 : Int32))) (fun σ26 => some (true, σ26))) else some (false, r2.2))) else some (false, r2.2))
set_option maxRecDepth 100000 in
def f_X3_readComparison_L33 (rec : Nat → Int32 → Sto → Option (Bool × Sto))  (v1 : Int32) (v2 : Int32) (σ : Sto) : Option (Bool × Sto) := lp (sI σ 55 4 ((σ.1 55 4) + (1 : Int32))) (fun σ40 => (rec 7 v1 σ40).bind (fun r45 => if r45.1 = true then ((f_X3_add r45.2 (-v2)).bind (fun r56 => some (true, r56))) else some (false, r45.2)))
set_option maxRecDepth 100000 in
def b_X3_readComparison (rec : Nat → Int32 → Sto → Option (Bool × Sto)) (σ : Sto) (a1 : Int32) : Option (Bool × Sto) := (rec 7 a1 σ).bind (fun r2 => if r2.1 = true then ((f_X3_next r2.2).bind (fun r11 => if r11 = (60 : Int32) then (f_X3_readComparison_L33 rec  a1 r11 r2.2) else if r11 = (61 : Int32) then (f_X3_readComparison_L33 rec  a1 r11 r2.2) else if r11 = (62 : Int32) then (f_X3_readComparison_L33 rec  a1 r11 r2.2) else some (true, r2.2))) else some (false, r2.2))
set_option maxRecDepth 100000 in
def b_X3_readNot (rec : Nat → Int32 → Sto → Option (Bool × Sto)) (σ : Sto) (a1 : Int32) : Option (Bool × Sto) := (rec 5 a1 σ).bind (fun r2 => if r2.1 = true then ((f_X3_add r2.2 (-33 : Int32)).bind (fun r13 => some (true, r13))) else some (false, r2.2))
set_option maxRecDepth 100000 in
def f_X3_readPart_L78 (rec : Nat → Int32 → Sto → Option (Bool × Sto))  (v1 : Int32) (v2 : Int32) (σ : Sto) : Option (Bool × Sto) := lp (sI σ 55 4 ((σ.1 55 4) + (1 : Int32))) (fun σ85 => if v2 = (33 : Int32) then ((rec 4 (v1 + (1 : Int32)) σ85).bind (fun r98 => some (r98.1, r98.2))) else (rec 2 (v1 + (1 : Int32)) σ85).bind (fun r106 => some (r106.1, r106.2)))
set_option maxRecDepth 100000 in
def f_X3_readPart_L35 (rec : Nat → Int32 → Sto → Option (Bool × Sto))  (v1 : Int32) (v2 : Int32) (vs0 : Int32) (σ : Sto) : Option (Bool × Sto) := if vs0 < 0 then (if (5 : Int32) ≤ v1 then (some (false, σ)) else if v2 = (33 : Int32) then (f_X3_readPart_L78 rec  v1 v2 σ) else if v2 = (40 : Int32) then (f_X3_readPart_L78 rec  v1 v2 σ) else some (false, σ)) else lp (sI σ 55 4 ((σ.1 55 4) + (1 : Int32))) (fun σ47 => (f_X3_add σ47 ((-1 : Int32) - vs0)).bind (fun r54 => some (true, r54)))
set_option maxRecDepth 100000 in
def b_X3_readPart (rec : Nat → Int32 → Sto → Option (Bool × Sto)) (σ : Sto) (a1 : Int32) : Option (Bool × Sto) := (f_X3_next σ).bind (fun r1 => (f_X3_isDigit r1).bind (fun r6 => if r6 = true then ((f_X3_readNumber σ).bind (fun r13 => some (true, r13))) else if 0 ≤ r1 then (nmR (σ.2 55 5) (fun r27 => derefS r27 (fun i32 => (f_ixS i32 (i2c r1)).bind (fun r32 => f_X3_readPart_L35 rec  a1 r1 r32 σ)))) else f_X3_readPart_L35 rec  a1 r1 (-1 : Int32) σ))
set_option maxRecDepth 100000 in
def f_X3_readProduct_L48 (rec : Nat → Int32 → Sto → Option (Bool × Sto)) (K10 : Sto → Option (Bool × Sto)) (v1 : Int32) (σ : Sto) : Option (Bool × Sto) := (f_X3_next σ).bind (fun r49 => lp (sI σ 55 4 ((σ.1 55 4) + (1 : Int32))) (fun σ60 => (rec 5 v1 σ60).bind (fun r65 => if r65.1 = true then ((f_X3_add r65.2 (-r49)).bind (fun r76 => K10 r76)) else some (false, r65.2))))
set_option maxRecDepth 100000 in
def f_X3_readProduct_L10 (rec : Nat → Int32 → Sto → Option (Bool × Sto))  (v1 : Int32) : Nat → Sto → Option (Bool × Sto)
  | 0, _ => none
  | n + 1, σ => if (σ.1 55 3) ≤ (σ.1 55 4) then (some (true, σ)) else (f_X3_next σ).bind (fun r22 => if r22 = (42 : Int32) then (f_X3_readProduct_L48 rec (f_X3_readProduct_L10 rec  v1 n) v1 σ) else (f_X3_next σ).bind (fun r31 => if r31 = (47 : Int32) then (f_X3_readProduct_L48 rec (f_X3_readProduct_L10 rec  v1 n) v1 σ) else (f_X3_next σ).bind (fun r40 => if r40 = (37 : Int32) then (f_X3_readProduct_L48 rec (f_X3_readProduct_L10 rec  v1 n) v1 σ) else some (true, σ))))
set_option maxRecDepth 100000 in
def b_X3_readProduct (rec : Nat → Int32 → Sto → Option (Bool × Sto)) (σ : Sto) (a1 : Int32) : Option (Bool × Sto) := (rec 5 a1 σ).bind (fun r2 => if r2.1 = true then (f_X3_readProduct_L10 rec  a1 FU r2.2) else some (false, r2.2))
set_option maxRecDepth 100000 in
def f_X3_readSum_L39 (rec : Nat → Int32 → Sto → Option (Bool × Sto)) (K10 : Sto → Option (Bool × Sto)) (v1 : Int32) (σ : Sto) : Option (Bool × Sto) := (f_X3_next σ).bind (fun r40 => lp (sI σ 55 4 ((σ.1 55 4) + (1 : Int32))) (fun σ51 => (rec 6 v1 σ51).bind (fun r56 => if r56.1 = true then ((f_X3_add r56.2 (-r40)).bind (fun r67 => K10 r67)) else some (false, r56.2))))
set_option maxRecDepth 100000 in
def f_X3_readSum_L10 (rec : Nat → Int32 → Sto → Option (Bool × Sto))  (v1 : Int32) : Nat → Sto → Option (Bool × Sto)
  | 0, _ => none
  | n + 1, σ => if (σ.1 55 3) ≤ (σ.1 55 4) then (some (true, σ)) else (f_X3_next σ).bind (fun r22 => if r22 = (43 : Int32) then (f_X3_readSum_L39 rec (f_X3_readSum_L10 rec  v1 n) v1 σ) else (f_X3_next σ).bind (fun r31 => if r31 = (45 : Int32) then (f_X3_readSum_L39 rec (f_X3_readSum_L10 rec  v1 n) v1 σ) else some (true, σ)))
set_option maxRecDepth 100000 in
def b_X3_readSum (rec : Nat → Int32 → Sto → Option (Bool × Sto)) (σ : Sto) (a1 : Int32) : Option (Bool × Sto) := (rec 6 a1 σ).bind (fun r2 => if r2.1 = true then (f_X3_readSum_L10 rec  a1 FU r2.2) else some (false, r2.2))
set_option maxRecDepth 100000 in
def g_X3_readAll : Nat → Nat → Int32 → Sto → Option (Bool × Sto)
  | 0, _, _, _ => none
  | d + 1, 0, x0, σ => b_X3_readAll (g_X3_readAll d) σ x0
  | d + 1, 1, x0, σ => b_X3_readAny (g_X3_readAll d) σ x0
  | d + 1, 2, x0, σ => b_X3_readBracket (g_X3_readAll d) σ x0
  | d + 1, 3, x0, σ => b_X3_readComparison (g_X3_readAll d) σ x0
  | d + 1, 4, x0, σ => b_X3_readNot (g_X3_readAll d) σ x0
  | d + 1, 5, x0, σ => b_X3_readPart (g_X3_readAll d) σ x0
  | d + 1, 6, x0, σ => b_X3_readProduct (g_X3_readAll d) σ x0
  | d + 1, 7, x0, σ => b_X3_readSum (g_X3_readAll d) σ x0
  | _ + 1, _, _, _ => none

set_option maxRecDepth 100000 in
def f_X3_read_L41  (rs0 : Option Nat) (σ : Sto) : Option (Int32 × Sto) := lp (sR σ 55 5 rs0) (fun σ41 => lp (sI σ41 55 4 (0 : Int32)) (fun σ46 => lp (sI σ46 55 1 (0 : Int32)) (fun σ51 => (g_X3_readAll 64 1 (0 : Int32) σ51).bind (fun r56 => if r56.1 = true then (if (r56.2.1 55 4) = (r56.2.1 55 3) then (some ((-1 : Int32), r56.2)) else some ((r56.2.1 55 4), r56.2)) else some ((r56.2.1 55 4), r56.2)))))
set_option maxRecDepth 100000 in
def f_X3_read (σ : Sto) (a1 : Nat) (a2 : Int32) (a3 : Int32) : Option (Int32 × Sto) := lp (sI σ 55 3 (imin (imin a2 (Int32.ofNat (Ln0 a1))) (50 : Int32))) (fun σ12 => (cpA σ12 a1 (0 : Int32) 57 (0 : Int32) (σ12.1 55 3)).bind (fun σ26 => if a3 = 0 then (f_X3_read_L41  (some 1004) σ26) else f_X3_read_L41  (some 1005) σ26))
set_option maxRecDepth 100000 in
def f_X4_clear_L18  (k0 : Nat) : Nat → Int32 → Sto → Option Sto
  | 0, _, _ => none
  | n + 1, v3, σ => if (40 : Int32) ≤ v3 then (some σ) else (wrA σ (A0 k0 0) v3 (0 : Int32)).bind (fun σ33 => (f_X4_clear_L18  k0 n) (v3 + (1 : Int32)) σ33)
set_option maxRecDepth 100000 in
def f_X4_clear (σ : Sto) (k0 : Nat) (a1 : Int32) (a2 : Int32) : Option Sto := lp (sI σ k0 2 a1) (fun σ2 => (f_X8_heldWithin a2 (0 : Int32) (40 : Int32)).bind (fun r10 => lp (sI σ2 k0 1 r10) (fun σ13 => f_X4_clear_L18  k0 FU (0 : Int32) σ13)))
set_option maxRecDepth 100000 in
def f_X4_isMissing (σ : Sto) (k0 : Nat) : Option Bool := if (σ.1 k0 2) = 0 then (some true) else some false
set_option maxRecDepth 100000 in
def f_X4_read (σ : Sto) (k0 : Nat) (a1 : Int32) : Option Int32 := (f_X8_isOutside a1 (0 : Int32) ((40 : Int32) - (1 : Int32))).bind (fun r9 => if r9 = true then (some (0 : Int32)) else (rdA σ (A0 k0 0) a1).bind (fun r24 => some r24))
set_option maxRecDepth 100000 in
def f_X4_write (σ : Sto) (k0 : Nat) (a1 : Int32) (a2 : Int32) : Option Sto := (f_X8_isOutside a1 (0 : Int32) ((40 : Int32) - (1 : Int32))).bind (fun r9 => if r9 = true then (some σ) else if (σ.1 k0 2) = (8 : Int32) then ((wrA σ (A0 k0 0) a1 (i2b a2)).bind (fun σ32 => some σ32)) else if (σ.1 k0 2) = (16 : Int32) then ((wrA σ (A0 k0 0) a1 (i2s a2)).bind (fun σ52 => some σ52)) else (wrA σ (A0 k0 0) a1 a2).bind (fun σ62 => some σ62))
set_option maxRecDepth 100000 in
def f_X4_holds (σ : Sto) (k0 : Nat) (a1 : Int32) (a2 : Int32) : Option Bool := if a1 < 0 then (some false) else if a2 < 0 then (some false) else if (σ.1 k0 1) < a1 then (some false) else if ((σ.1 k0 1) - a1) < a2 then (some false) else some true
set_option maxRecDepth 100000 in
def f_X5_feel_L2  (k1 : Nat) (v2 : Int32) : Nat → Int32 → Sto → Option Sto
  | 0, _, _ => none
  | n + 1, v3, σ => if (6 : Int32) ≤ v3 then (some σ) else (f_X0_flowOf σ k1 v3 v2).bind (fun r19 => (wrA r19.2 59 v3 r19.1).bind (fun σ22 => (f_X5_feel_L2  k1 v2 n) (v3 + (1 : Int32)) σ22))
set_option maxRecDepth 100000 in
def f_X5_feel (σ : Sto) (a1 : Nat) (a2 : Int32) : Option Sto := f_X5_feel_L2  a1 a2 FU (0 : Int32) σ
set_option maxRecDepth 100000 in
def f_X5_placeBehind_L8 (σ : Sto)  (k1 : Nat) (v2 : Int32) : Nat → Int32 → Int32 → Option Int32
  | 0, _, _ => none
  | n + 1, v3, v4 => if v2 ≤ v4 then (some v3) else (f_X5_placeNext σ k1 v3 v4).bind (fun r19 => (f_X5_placeBehind_L8 σ  k1 v2 n) r19 (v4 + (1 : Int32)))
set_option maxRecDepth 100000 in
def f_X5_placeBehind (σ : Sto) (a1 : Nat) (a2 : Int32) : Option Int32 := (f_X6_shore σ a1).bind (fun r1 => f_X5_placeBehind_L8 σ  a1 a2 FU r1 (0 : Int32))
set_option maxRecDepth 100000 in
def f_X5_begin (σ : Sto) (a1 : Nat) (a2 : Nat) : Option Sto := (f_X6_shore σ a1).bind (fun r2 => lp (sI σ 58 4 r2) (fun σ5 => (f_X6_shore σ5 a2).bind (fun r10 => lp (sI σ5 58 5 r10) (fun σ13 => some σ13))))
set_option maxRecDepth 100000 in
def f_X5_gap (σ : Sto) (a1 : Nat) : Option Int32 := if (σ.1 a1 2) = 0 then (some ((σ.1 58 5) - (σ.1 58 4))) else some ((σ.1 58 4) - (σ.1 58 5))
set_option maxRecDepth 100000 in
def f_X5_meets_L103 (K9 : Int32 → Sto → Option (Bool × Sto)) (k1 : Nat) (k2 : Nat) (v3 : Int32) (v4 : Int32) (σ : Sto) : Option (Bool × Sto) := K9 (v4 + (1 : Int32)) σ
set_option maxRecDepth 100000 in
def f_X5_meets_L9  (k1 : Nat) (k2 : Nat) (v3 : Int32) : Nat → Int32 → Sto → Option (Bool × Sto)
  | 0, _, _ => none
  | n + 1, v4, σ => if (60 : Int32) ≤ v4 then (some (false, σ)) else (f_X5_placeNext σ k1 (σ.1 58 4) v4).bind (fun r25 => lp (sI σ 58 4 r25) (fun σ28 => (f_X5_placeNext σ28 k2 (σ28.1 58 5) v4).bind (fun r40 => lp (sI σ28 58 5 r40) (fun σ43 => (f_X6_laneIn σ43 k1 v4).bind (fun r49 => (f_X6_laneIn σ43 k2 v4).bind (fun r55 => if r49 = r55 then ((f_X5_gap σ43 k1).bind (fun r63 => if v3 < r63 then (f_X5_meets_L103 (f_X5_meets_L9  k1 k2 v3 n) k1 k2 v3 v4 σ43) else lp (sI σ43 58 1 v4) (fun σ73 => lp (sI σ73 58 2 (((σ73.1 58 4) + (σ73.1 58 5)) / (2 : Int32))) (fun σ88 => (f_X6_laneIn σ88 k1 v4).bind (fun r95 => lp (sI σ88 58 3 r95) (fun σ98 => some (true, σ98))))))) else f_X5_meets_L103 (f_X5_meets_L9  k1 k2 v3 n) k1 k2 v3 v4 σ43))))))
set_option maxRecDepth 100000 in
def f_X5_meets (σ : Sto) (a1 : Nat) (a2 : Nat) (a3 : Int32) : Option (Bool × Sto) := (f_X5_begin σ a1 a2).bind (fun r3 => f_X5_meets_L9  a1 a2 a3 FU (0 : Int32) r3)
set_option maxRecDepth 100000 in
def f_X5_leastGap_L79 (K13 : Int32 → Int32 → Sto → Option (Int32 × Sto)) (k1 : Nat) (k2 : Nat) (v3 : Int32) (v4 : Int32) (σ : Sto) : Option (Int32 × Sto) := K13 v3 (v4 + (1 : Int32)) σ
set_option maxRecDepth 100000 in
def f_X5_leastGap_L13  (k1 : Nat) (k2 : Nat) : Nat → Int32 → Int32 → Sto → Option (Int32 × Sto)
  | 0, _, _, _ => none
  | n + 1, v3, v4, σ => if (60 : Int32) ≤ v4 then (some (v3, σ)) else (f_X5_placeNext σ k1 (σ.1 58 4) v4).bind (fun r29 => lp (sI σ 58 4 r29) (fun σ32 => (f_X5_placeNext σ32 k2 (σ32.1 58 5) v4).bind (fun r44 => lp (sI σ32 58 5 r44) (fun σ47 => (f_X6_laneIn σ47 k1 v4).bind (fun r53 => (f_X6_laneIn σ47 k2 v4).bind (fun r59 => if r53 = r59 then ((f_X5_gap σ47 k1).bind (fun r69 => f_X5_leastGap_L79 (f_X5_leastGap_L13  k1 k2 n) k1 k2 (imin v3 (imax (0 : Int32) r69)) v4 σ47)) else f_X5_leastGap_L79 (f_X5_leastGap_L13  k1 k2 n) k1 k2 v3 v4 σ47))))))
set_option maxRecDepth 100000 in
def f_X5_leastGap (σ : Sto) (a1 : Nat) (a2 : Nat) : Option (Int32 × Sto) := (f_X5_begin σ a1 a2).bind (fun r7 => f_X5_leastGap_L13  a1 a2 FU (1200 : Int32) (0 : Int32) r7)
set_option maxRecDepth 100000 in
def f_X6_turnInto (σ : Sto) (k0 : Nat) (a1 : Int32) : Option Sto := lp (sI σ k0 0 (a1 / (10 : Int32))) (fun σ5 => lp (sI σ5 k0 1 (irem a1 (10 : Int32))) (fun σ13 => some σ13))
set_option maxRecDepth 100000 in
def f_X6_keepTo_L2  (k0 : Nat) (v1 : Int32) : Nat → Int32 → Sto → Option Sto
  | 0, _, _ => none
  | n + 1, v2, σ => if (4 : Int32) ≤ v2 then (some σ) else (wrA σ (A0 k0 5) v2 v1).bind (fun σ17 => (f_X6_keepTo_L2  k0 v1 n) (v2 + (1 : Int32)) σ17)
set_option maxRecDepth 100000 in
def f_X6_keepTo (σ : Sto) (k0 : Nat) (a1 : Int32) : Option Sto := f_X6_keepTo_L2  k0 a1 FU (0 : Int32) σ
set_option maxRecDepth 100000 in
def f_X6_begin (σ : Sto) (k0 : Nat) (a1 : Int32) (a2 : Int32) : Option Sto := (f_X6_turnInto σ k0 a1).bind (fun r2 => lp (sI r2 k0 2 a2) (fun σ7 => lp (sI σ7 k0 3 (10 : Int32)) (fun σ13 => lp (sI σ13 k0 4 (0 : Int32)) (fun σ18 => (f_X6_keepTo σ18 k0 (0 : Int32)).bind (fun r23 => some r23)))))
set_option maxRecDepth 100000 in
def f_X7_bodyOf_L58 (σ : Sto) (K4 : Int32 → Int32 → Option Int32) (v1 : Int32) (v2 : Int32) (v3 : Int32)  : Option Int32 := (rdC abv 7 v2).bind (fun r62 => K4 r62 (v3 + (1 : Int32)))
set_option maxRecDepth 100000 in
def f_X7_bodyOf_L4 (σ : Sto)  (v1 : Int32) : Nat → Int32 → Int32 → Option Int32
  | 0, _, _ => none
  | n + 1, v2, v3 => if (7 : Int32) ≤ v3 then (some (0 : Int32)) else (f_X8_isOutside v2 (0 : Int32) (6 : Int32)).bind (fun r14 => if r14 = true then (some (0 : Int32)) else (f_X8_isOutside ((v2 * (4 : Int32)) + v1) (0 : Int32) ((28 : Int32) - (1 : Int32))).bind (fun r36 => if r36 = true then (f_X7_bodyOf_L58 σ (f_X7_bodyOf_L4 σ  v1 n) v1 v2 v3) else (rdC bod 28 ((v2 * (4 : Int32)) + v1)).bind (fun r47 => if r47 = 0 then (f_X7_bodyOf_L58 σ (f_X7_bodyOf_L4 σ  v1 n) v1 v2 v3) else (rdC bod 28 ((v2 * (4 : Int32)) + v1)).bind (fun r56 => some r56))))
set_option maxRecDepth 100000 in
def f_X7_bodyOf (σ : Sto) (a0 : Int32) (a1 : Int32) : Option Int32 := f_X7_bodyOf_L4 σ  a1 FU a0 (0 : Int32)
set_option maxRecDepth 100000 in
def f_X7_note (σ : Sto) (a1 : Int32) : Option Sto := if (40 : Int32) ≤ (σ.1 65 1) then (some σ) else (wrA σ 66 (σ.1 65 1) a1).bind (fun σ21 => lp (sI σ21 65 1 ((σ21.1 65 1) + (1 : Int32))) (fun σ29 => some σ29))
set_option maxRecDepth 100000 in
def b_X7_say (rec : Nat → Int32 → Int32 → Int32 → Int32 → Sto → Option (Int32 × Sto)) (σ : Sto) (a1 : Int32) (a2 : Int32) (a3 : Int32) (a4 : Int32) : Option (Int32 × Sto) := if a4 ≤ (40 : Int32) then ((f_X7_bodyOf σ a1 a2).bind (fun r11 => (f_X7_note σ r11).bind (fun r19 => if r11 = (10 : Int32) then (some ((a3 + (r19.1 65 3)), r19)) else if r11 = (11 : Int32) then ((rec 0 (r19.1 65 2) (0 : Int32) a3 (a4 + (1 : Int32)) r19).bind (fun r144 => some ((r144.1 * (2 : Int32)), r144.2))) else if r11 = (12 : Int32) then (some ((a3 - (r19.1 65 4)), r19)) else if r11 = (13 : Int32) then ((rec 0 (r19.1 65 2) (1 : Int32) a3 (a4 + (1 : Int32)) r19).bind (fun r166 => (rec 0 (r166.2.1 65 2) (2 : Int32) a3 (a4 + (1 : Int32)) r166.2).bind (fun r178 => some ((r166.1 ^^^ r178.1), r178.2)))) else if r11 = (20 : Int32) then ((rec 0 (0 : Int32) (1 : Int32) a3 (a4 + (1 : Int32)) r19).bind (fun r189 => (rec 0 (r189.2.1 65 2) (2 : Int32) (1 : Int32) (a4 + (1 : Int32)) r189.2).bind (fun r201 => some ((r189.1 - r201.1), r201.2)))) else if r11 = (30 : Int32) then ((rec 0 (0 : Int32) (0 : Int32) a3 (a4 + (1 : Int32)) r19).bind (fun r212 => some ((r212.1 * (3 : Int32)), r212.2))) else if r11 = (40 : Int32) then ((rec 0 (0 : Int32) (2 : Int32) a3 (a4 + (1 : Int32)) r19).bind (fun r224 => some ((-r224.1), r224.2))) else if r11 = (50 : Int32) then ((rec 0 (1 : Int32) (1 : Int32) (a3 + (1 : Int32)) (a4 + (1 : Int32)) r19).bind (fun r237 => some (r237.1, r237.2))) else if r11 = (60 : Int32) then ((rec 0 (2 : Int32) (3 : Int32) a3 (a4 + (1 : Int32)) r19).bind (fun r247 => (rec 0 (r247.2.1 65 2) (0 : Int32) (2 : Int32) (a4 + (1 : Int32)) r247.2).bind (fun r259 => some ((r247.1 - r259.1), r259.2)))) else if r11 = (70 : Int32) then ((rec 0 (3 : Int32) (2 : Int32) a3 (a4 + (1 : Int32)) r19).bind (fun r270 => some ((r270.1 ^^^ (r270.2.1 65 3)), r270.2))) else if r11 = (71 : Int32) then ((rec 0 (r19.1 65 2) (1 : Int32) a3 (a4 + (1 : Int32)) r19).bind (fun r288 => (rec 0 (3 : Int32) (3 : Int32) a3 (a4 + (1 : Int32)) r288.2).bind (fun r297 => some ((r288.1 - r297.1), r297.2)))) else some ((0 : Int32), r19)))) else some ((0 : Int32), σ)
set_option maxRecDepth 100000 in
def g_X7_say : Nat → Nat → Int32 → Int32 → Int32 → Int32 → Sto → Option (Int32 × Sto)
  | 0, _, _, _, _, _, _ => none
  | d + 1, 0, x0, x1, x2, x3, σ => b_X7_say (g_X7_say d) σ x0 x1 x2 x3
  | _ + 1, _, _, _, _, _, _ => none

set_option maxRecDepth 100000 in
def f_X7_speak (σ : Sto) (a1 : Nat) (a2 : Int32) (a3 : Int32) (a4 : Int32) : Option (Int32 × Sto) := lp (sI σ 65 2 (σ.1 a1 0)) (fun σ5 => lp (sI σ5 65 4 (σ5.1 a1 1)) (fun σ13 => lp (sI σ13 65 3 a2) (fun σ18 => lp (sI σ18 65 1 (0 : Int32)) (fun σ23 => (g_X7_say 44 0 (σ23.1 65 2) a3 a4 (0 : Int32) σ23).bind (fun r35 => some (r35.1, r35.2))))))
set_option maxRecDepth 100000 in
def f_X8_refuse (σ : Sto) (a1 : Int32) : Option (Int32 × Sto) := (f_X8_isOutside a1 (1 : Int32) (5 : Int32)).bind (fun r3 => if r3 = true then (some (((-1000000000 : Int32) - a1), σ)) else (rdA σ 68 a1).bind (fun r15 => (wrA σ 68 a1 (r15 + (1 : Int32))).bind (fun σ18 => some (((-1000000000 : Int32) - a1), σ18))))
set_option maxRecDepth 100000 in
def f_X8_current (σ : Sto) (a1 : Int32) (a2 : Int32) : Option (Int32 × Sto) := (f_X8_isOutside a1 (0 : Int32) (5 : Int32)).bind (fun r3 => if r3 = true then ((f_X8_refuse σ (1 : Int32)).bind (fun r22 => some (r22.1, r22.2))) else (f_X8_isOutside a2 (-9 : Int32) (9 : Int32)).bind (fun r14 => if r14 = true then ((f_X8_refuse σ (1 : Int32)).bind (fun r22 => some (r22.1, r22.2))) else (rdA σ 2 a1).bind (fun r34 => (wrA σ 2 a1 a2).bind (fun σ45 => some (r34, σ45)))))
set_option maxRecDepth 100000 in
def f_X8_set_L103   (σ : Sto) : Option (Int32 × Sto) := (f_X8_refuse σ (1 : Int32)).bind (fun r105 => some (r105.1, r105.2))
set_option maxRecDepth 100000 in
def f_X8_set_L68  (v1 : Int32) (v2 : Int32) (σ : Sto) : Option (Int32 × Sto) := if v1 = (2 : Int32) then ((f_X8_isOutside v2 (0 : Int32) (1200 : Int32)).bind (fun r78 => if r78 = true then (f_X8_set_L103  σ) else lp (sI σ 1 3 v2) (fun σ97 => some ((σ.1 1 3), σ97)))) else f_X8_set_L103  σ
set_option maxRecDepth 100000 in
def f_X8_set_L33  (v1 : Int32) (v2 : Int32) (σ : Sto) : Option (Int32 × Sto) := if v1 = (1 : Int32) then ((f_X8_isOutside v2 (0 : Int32) (200 : Int32)).bind (fun r43 => if r43 = true then (f_X8_set_L68  v1 v2 σ) else lp (sI σ 1 2 v2) (fun σ62 => some ((σ.1 1 2), σ62)))) else f_X8_set_L68  v1 v2 σ
set_option maxRecDepth 100000 in
def f_X8_set (σ : Sto) (a1 : Int32) (a2 : Int32) : Option (Int32 × Sto) := if a1 = 0 then ((f_X8_isOutside a2 (-3 : Int32) (3 : Int32)).bind (fun r8 => if r8 = true then (f_X8_set_L33  a1 a2 σ) else lp (sI σ 1 1 a2) (fun σ27 => some ((σ.1 1 1), σ27)))) else f_X8_set_L33  a1 a2 σ
set_option maxRecDepth 100000 in
def f_X8_flow (σ : Sto) (a1 : Int32) : Option (Int32 × Sto) := (f_X8_isOutside a1 (0 : Int32) (5 : Int32)).bind (fun r3 => if r3 = true then ((f_X8_refuse σ (1 : Int32)).bind (fun r11 => some (r11.1, r11.2))) else (f_X0_flowOf σ 1 a1 (σ.1 1 1)).bind (fun r27 => some (r27.1, r27.2)))
set_option maxRecDepth 100000 in
def f_X8_swimmer (σ : Sto) (a1 : Int32) (a2 : Int32) : Option (Int32 × Sto) := (f_X8_isOutside a1 (0 : Int32) (69 : Int32)).bind (fun r4 => if r4 = true then ((f_X8_refuse σ (1 : Int32)).bind (fun r21 => some (r21.1, r21.2))) else (f_X8_isOutside a2 (0 : Int32) (1 : Int32)).bind (fun r13 => if r13 = true then ((f_X8_refuse σ (1 : Int32)).bind (fun r21 => some (r21.1, r21.2))) else if (σ.1 1 8) < (8 : Int32) then (lp (sI σ 1 8 ((σ.1 1 8) + (1 : Int32))) (fun σ52 => (f_X0_swimmerAt σ52 1 (σ.1 1 8)).bind (fun r60 => onN r60 (some ((σ.1 1 8), σ52)) (fun k67 => if K0 k67 = 6 then ((f_X6_begin σ52 k67 a1 a2).bind (fun r74 => some ((σ.1 1 8), r74))) else none)))) else (f_X8_refuse σ (4 : Int32)).bind (fun r41 => some (r41.1, r41.2))))
set_option maxRecDepth 100000 in
def f_X8_ofSwimmer (σ : Sto) (a1 : Int32) (a2 : Int32) : Option (Int32 × Sto) := (f_X0_swimmerAt σ 1 a1).bind (fun r5 => onN r5 ((f_X8_refuse σ (1 : Int32)).bind (fun r25 => some (r25.1, r25.2))) (fun k10 => (f_X8_isOutside a2 (0 : Int32) (8 : Int32)).bind (fun r17 => if r17 = true then ((f_X8_refuse σ (1 : Int32)).bind (fun r25 => some (r25.1, r25.2))) else if a2 = (0 : Int32) then (if K0 k10 = 6 then (some ((σ.1 k10 0), σ)) else none) else if a2 = (1 : Int32) then (if K0 k10 = 6 then (some ((σ.1 k10 1), σ)) else none) else if a2 = (2 : Int32) then (if K0 k10 = 6 then (some ((σ.1 k10 2), σ)) else none) else if a2 = (3 : Int32) then (if K0 k10 = 6 then (some ((σ.1 k10 3), σ)) else none) else if a2 = (4 : Int32) then (if K0 k10 = 6 then (some ((σ.1 k10 4), σ)) else none) else if K0 k10 = 6 then ((f_X6_laneOf σ k10 (a2 - (5 : Int32))).bind (fun r93 => some (r93, σ))) else none)))
set_option maxRecDepth 100000 in
def f_X8_train (σ : Sto) (a1 : Int32) (a2 : Int32) : Option (Int32 × Sto) := (f_X0_swimmerAt σ 1 a1).bind (fun r5 => onN r5 ((f_X8_refuse σ (1 : Int32)).bind (fun r25 => some (r25.1, r25.2))) (fun k10 => (f_X8_isOutside a2 (0 : Int32) (30 : Int32)).bind (fun r17 => if r17 = true then ((f_X8_refuse σ (1 : Int32)).bind (fun r25 => some (r25.1, r25.2))) else if K0 k10 = 6 then (lp (sI σ k10 3 a2) (fun σ37 => some ((σ.1 k10 3), σ37))) else none)))
set_option maxRecDepth 100000 in
def f_X8_plan (σ : Sto) (a1 : Int32) (a2 : Int32) (a3 : Int32) : Option (Int32 × Sto) := (f_X0_swimmerAt σ 1 a1).bind (fun r5 => onN r5 ((f_X8_refuse σ (1 : Int32)).bind (fun r35 => some (r35.1, r35.2))) (fun k12 => (f_X8_isOutside a2 (0 : Int32) (3 : Int32)).bind (fun r18 => if r18 = true then ((f_X8_refuse σ (1 : Int32)).bind (fun r35 => some (r35.1, r35.2))) else (f_X8_isOutside a3 (0 : Int32) (5 : Int32)).bind (fun r27 => if r27 = true then ((f_X8_refuse σ (1 : Int32)).bind (fun r35 => some (r35.1, r35.2))) else if K0 k12 = 6 then ((rdA σ (A0 k12 5) a2).bind (fun r45 => (wrA σ (A0 k12 5) a2 a3).bind (fun σ55 => some (r45, σ55)))) else none))))
set_option maxRecDepth 100000 in
def f_X8_become (σ : Sto) (a1 : Int32) (a2 : Int32) : Option (Int32 × Sto) := (f_X0_swimmerAt σ 1 a1).bind (fun r5 => onN r5 ((f_X8_refuse σ (1 : Int32)).bind (fun r25 => some (r25.1, r25.2))) (fun k10 => (f_X8_isOutside a2 (0 : Int32) (69 : Int32)).bind (fun r17 => if r17 = true then ((f_X8_refuse σ (1 : Int32)).bind (fun r25 => some (r25.1, r25.2))) else if K0 k10 = 6 then ((f_X6_turnInto σ k10 a2).bind (fun r37 => some ((σ.1 k10 0), r37))) else none)))
set_option maxRecDepth 100000 in
def f_X8_isUnder_L4 (σ : Sto)  (v1 : Int32) : Nat → Int32 → Int32 → Option Bool
  | 0, _, _ => none
  | n + 1, v2, v3 => if (7 : Int32) ≤ v3 then (some false) else (f_X8_isOutside v2 (0 : Int32) (6 : Int32)).bind (fun r14 => if r14 = true then (some false) else if v2 = v1 then (some true) else (rdC abv 7 v2).bind (fun r31 => (f_X8_isUnder_L4 σ  v1 n) r31 (v3 + (1 : Int32))))
set_option maxRecDepth 100000 in
def f_X8_isUnder (σ : Sto) (a0 : Int32) (a1 : Int32) : Option Bool := f_X8_isUnder_L4 σ  a1 FU a0 (0 : Int32)
set_option maxRecDepth 100000 in
def f_X8_as (σ : Sto) (a1 : Int32) (a2 : Int32) : Option (Int32 × Sto) := (f_X0_swimmerAt σ 1 a1).bind (fun r5 => onN r5 ((f_X8_refuse σ (1 : Int32)).bind (fun r25 => some (r25.1, r25.2))) (fun k10 => (f_X8_isOutside a2 (0 : Int32) (6 : Int32)).bind (fun r17 => if r17 = true then ((f_X8_refuse σ (1 : Int32)).bind (fun r25 => some (r25.1, r25.2))) else if K0 k10 = 6 then ((f_X8_isUnder σ (σ.1 k10 0) a2).bind (fun r34 => if r34 = true then (some ((σ.1 k10 1), σ)) else (f_X8_refuse σ (5 : Int32)).bind (fun r49 => some (r49.1, r49.2)))) else none)))
set_option maxRecDepth 100000 in
def f_X8_pace (σ : Sto) (a1 : Int32) (a2 : Int32) : Option (Int32 × Sto) := (f_X0_swimmerAt σ 1 a1).bind (fun r5 => onN r5 ((f_X8_refuse σ (1 : Int32)).bind (fun r25 => some (r25.1, r25.2))) (fun k10 => (f_X8_isOutside a2 (0 : Int32) (59 : Int32)).bind (fun r17 => if r17 = true then ((f_X8_refuse σ (1 : Int32)).bind (fun r25 => some (r25.1, r25.2))) else if K0 k10 = 6 then ((f_X6_paceIn σ k10 a2).bind (fun r31 => some (r31, σ))) else none)))
set_option maxRecDepth 100000 in
def f_X8_feed (σ : Sto) (a1 : Int64) (a3 : Int32) : Option (Int32 × Sto) := (f_X8_isOutside a3 (1 : Int32) (8 : Int32)).bind (fun r4 => if r4 = true then ((f_X8_refuse σ (1 : Int32)).bind (fun r12 => some (r12.1, r12.2))) else if ((σ.1 1 12) + a3) ≤ (50 : Int32) then ((f_X0_addToTape σ 1 a1 a3).bind (fun r42 => some ((r42.1 1 12), r42))) else (f_X8_refuse σ (4 : Int32)).bind (fun r32 => some (r32.1, r32.2)))
set_option maxRecDepth 100000 in
def f_X8_text (σ : Sto) (a1 : Int32) : Option (Int32 × Sto) := (f_X0_lawOf σ 1 a1).bind (fun r5 => onN r5 ((f_X8_refuse σ (1 : Int32)).bind (fun r15 => some (r15.1, r15.2))) (fun k10 => (f_X3_read σ 10 (σ.1 1 12) a1).bind (fun r38 => lp (sI r38.2 1 12 (0 : Int32)) (fun σ47 => if r38.1 < 0 then (if K0 k10 = 1 then ((f_X1_take σ47 k10).bind (fun r64 => some ((1 : Int32), r64))) else none) else some (((-10 : Int32) - r38.1), σ47)))))
set_option maxRecDepth 100000 in
def f_X8_law (σ : Sto) (a1 : Int32) (a2 : Int32) (a3 : Int32) (a4 : Int32) : Option (Int32 × Sto) := (f_X0_lawOf σ 1 a1).bind (fun r5 => onN r5 ((f_X8_refuse σ (1 : Int32)).bind (fun r17 => some (r17.1, r17.2))) (fun k12 => if K0 k12 = 1 then ((f_X1_give σ k12 a2 a3 a4).bind (fun r29 => some (r29.1, r29.2))) else none))
set_option maxRecDepth 100000 in
def f_X8_where (σ : Sto) (a1 : Int32) (a2 : Int32) : Option (Int32 × Sto) := (f_X0_swimmerAt σ 1 a1).bind (fun r5 => onN r5 ((f_X8_refuse σ (1 : Int32)).bind (fun r25 => some (r25.1, r25.2))) (fun k10 => (f_X8_isOutside a2 (0 : Int32) (60 : Int32)).bind (fun r17 => if r17 = true then ((f_X8_refuse σ (1 : Int32)).bind (fun r25 => some (r25.1, r25.2))) else (f_X5_feel σ 1 (σ.1 1 1)).bind (fun r44 => if K0 k10 = 6 then ((f_X5_placeBehind r44 k10 a2).bind (fun r53 => some (r53, r44))) else none))))
set_option maxRecDepth 100000 in
def f_X8_areUnlike (σ : Sto) (a0 : Option Nat) (a1 : Option Nat) : Option Bool := onN a0 (some false) (fun k1 => onN a1 (some false) (fun k5 => if K0 k1 = 6 then (if K0 k5 = 6 then (if (σ.1 k1 2) = (σ.1 k5 2) then (some false) else some true) else none) else none))
set_option maxRecDepth 100000 in
def f_X8_meet (σ : Sto) (a1 : Int32) (a2 : Int32) (a3 : Int32) : Option (Int32 × Sto) := (f_X0_swimmerAt σ 1 a1).bind (fun r5 => (f_X0_swimmerAt σ 1 a2).bind (fun r15 => (f_X8_areUnlike σ r5 r15).bind (fun r24 => if r24 = true then ((f_X8_isOutside a3 (0 : Int32) (2 : Int32)).bind (fun r33 => if r33 = true then ((f_X8_refuse σ (1 : Int32)).bind (fun r41 => some (r41.1, r41.2))) else (f_X5_feel σ 1 (σ.1 1 1)).bind (fun r60 => deref 6 r5 (fun k78 => deref 6 r15 (fun k78' => (f_X5_meets r60 k78 k78' (r60.1 1 2)).bind (fun r78 => if r78.1 = true then (if a3 = (0 : Int32) then (some ((r78.2.1 58 1), r78.2)) else if a3 = (1 : Int32) then (some ((r78.2.1 58 2), r78.2)) else some ((r78.2.1 58 3), r78.2)) else (f_X8_refuse r78.2 (2 : Int32)).bind (fun r86 => some (r86.1, r86.2)))))))) else (f_X8_refuse σ (1 : Int32)).bind (fun r41 => some (r41.1, r41.2)))))
set_option maxRecDepth 100000 in
def f_X8_whyNoYear (σ : Sto) (a1 : Int32) (a2 : Int32) : Option Int32 := (f_X0_swimmerAt σ 1 a1).bind (fun r5 => (f_X0_swimmerAt σ 1 a2).bind (fun r13 => (f_X8_areUnlike σ r5 r13).bind (fun r16 => if r16 = true then (if (σ.1 1 4) < (9999 : Int32) then (some (0 : Int32)) else some (3 : Int32)) else some (1 : Int32))))
set_option maxRecDepth 100000 in
def f_X8_letYearGoBy_L115   (σ : Sto) : Option Sto := (f_X0_share σ 1).bind (fun r119 => lp (sI r119 1 4 ((r119.1 1 4) + (1 : Int32))) (fun σ132 => some σ132))
set_option maxRecDepth 100000 in
def f_X8_letYearGoBy (σ : Sto) (a1 : Int32) (a2 : Int32) : Option Sto := (f_X0_swimmerAt σ 1 a1).bind (fun r5 => (f_X0_swimmerAt σ 1 a2).bind (fun r14 => (f_X8_areUnlike σ r5 r14).bind (fun r22 => if r22 = true then ((f_X5_feel σ 1 (σ.1 1 1)).bind (fun r44 => deref 6 r5 (fun k61 => deref 6 r14 (fun k61' => (f_X5_meets r44 k61 k61' (r44.1 1 2)).bind (fun r61 => if r61.1 = true then (lp (sI r61.2 1 3 (r61.2.1 58 2)) (fun σ78 => lp (sI σ78 k61 4 (imin (9999 : Int32) ((σ78.1 k61 4) + (1 : Int32)))) (fun σ94 => lp (sI σ94 k61' 4 (imin (9999 : Int32) ((σ94.1 k61' 4) + (1 : Int32)))) (fun σ112 => f_X8_letYearGoBy_L115  σ112)))) else f_X8_letYearGoBy_L115  r61.2))))) else some σ)))
set_option maxRecDepth 100000 in
def f_X8_year (σ : Sto) (a1 : Int32) (a2 : Int32) : Option (Int32 × Sto) := (f_X8_whyNoYear σ a1 a2).bind (fun r3 => if r3 = 0 then ((f_X8_letYearGoBy σ a1 a2).bind (fun r20 => some ((r20.1 1 3), r20))) else (f_X8_refuse σ r3).bind (fun r13 => some (r13.1, r13.2)))
set_option maxRecDepth 100000 in
def f_X8_loose (σ : Sto) (a1 : Int32) (a2 : Int32) : Option (Int32 × Sto) := (f_X8_whyNoYear σ a1 a2).bind (fun r3 => if r3 = 0 then ((f_X0_draw σ 1).bind (fun r25 => lp (sI r25.2 1 1 ((irem r25.1 (7 : Int32)) - (3 : Int32))) (fun σ33 => (f_X8_letYearGoBy σ33 a1 a2).bind (fun r39 => some ((r39.1 1 3), r39))))) else (f_X8_refuse σ r3).bind (fun r13 => some (r13.1, r13.2)))
set_option maxRecDepth 100000 in
def f_X8_bestPlan (σ : Sto) (a1 : Int32) (a2 : Int32) (a3 : Int32) : Option (Int32 × Sto) := (f_X0_swimmerAt σ 1 a1).bind (fun r5 => (f_X0_swimmerAt σ 1 a2).bind (fun r15 => (f_X8_areUnlike σ r5 r15).bind (fun r24 => if r24 = true then ((f_X8_isOutside a3 (-1 : Int32) (3 : Int32)).bind (fun r33 => if r33 = true then ((f_X8_refuse σ (1 : Int32)).bind (fun r41 => some (r41.1, r41.2))) else (f_X5_feel σ 1 (σ.1 1 1)).bind (fun r60 => deref 6 r5 (fun k82 => deref 6 r15 (fun k82' => (f_X2_seek r60 k82 k82' (r60.1 1 2)).bind (fun r82 => if (r82.1 60 0) = 0 then ((f_X8_refuse r82 (2 : Int32)).bind (fun r97 => some (r97.1, r97.2))) else if 0 ≤ a3 then ((f_X2_bestLane r82 a3).bind (fun r120 => some (r120, r82))) else some ((r82.1 60 1), r82))))))) else (f_X8_refuse σ (1 : Int32)).bind (fun r41 => some (r41.1, r41.2)))))
set_option maxRecDepth 100000 in
def f_X8_meetInLane (σ : Sto) (a1 : Int32) (a2 : Nat) (a3 : Nat) : Option (Bool × Sto) := (f_X6_copy σ 69 a2).bind (fun r5 => (f_X6_keepTo r5 69 a1).bind (fun r13 => (f_X6_copy r13 71 a3).bind (fun r21 => (f_X6_keepTo r21 71 a1).bind (fun r29 => (f_X5_meets r29 69 71 (r29.1 1 2)).bind (fun r51 => some (r51.1, r51.2))))))
set_option maxRecDepth 100000 in
def f_X8_worstPlaceIn (σ : Sto) (a1 : Int32) (a2 : Nat) (a3 : Nat) : Option (Int32 × Sto) := (f_X8_meetInLane σ a1 a2 a3).bind (fun r13 => if r13.1 = true then ((f_X8_isBetter (r13.2.1 a2 2) (σ.1 1 3) (r13.2.1 58 2)).bind (fun r32 => if r32 = true then (some ((r13.2.1 58 2), r13.2)) else some ((σ.1 1 3), r13.2))) else some ((σ.1 1 3), r13.2))
set_option maxRecDepth 100000 in
def f_X8_hold_L122 (K80 : Int32 → Int32 → Int32 → Sto → Option (Int32 × Sto)) (v3 : Int32) (k4 : Nat) (k5 : Nat) (v6 : Int32) (v7 : Int32) (v8 : Int32) (σ : Sto) : Option (Int32 × Sto) := K80 v6 v7 (v8 + (1 : Int32)) σ
set_option maxRecDepth 100000 in
def f_X8_hold_L80  (v3 : Int32) (k4 : Nat) (k5 : Nat) : Nat → Int32 → Int32 → Int32 → Sto → Option (Int32 × Sto)
  | 0, _, _, _, _ => none
  | n + 1, v6, v7, v8, σ => if (6 : Int32) ≤ v8 then (if v3 = 0 then (some (v6, σ)) else some (v7, σ)) else (f_X8_worstPlaceIn σ v8 k4 k5).bind (fun r94 => (f_X8_isBetter (r94.2.1 k4 2) r94.1 v7).bind (fun r108 => if r108 = true then (f_X8_hold_L122 (f_X8_hold_L80  v3 k4 k5 n) v3 k4 k5 v8 r94.1 v8 r94.2) else f_X8_hold_L122 (f_X8_hold_L80  v3 k4 k5 n) v3 k4 k5 v6 v7 v8 r94.2))
set_option maxRecDepth 100000 in
def f_X8_hold (σ : Sto) (a1 : Int32) (a2 : Int32) (a3 : Int32) : Option (Int32 × Sto) := (f_X0_swimmerAt σ 1 a1).bind (fun r5 => (f_X0_swimmerAt σ 1 a2).bind (fun r15 => (f_X8_areUnlike σ r5 r15).bind (fun r24 => if r24 = true then ((f_X8_isOutside a3 (0 : Int32) (1 : Int32)).bind (fun r33 => if r33 = true then ((f_X8_refuse σ (1 : Int32)).bind (fun r41 => some (r41.1, r41.2))) else (f_X5_feel σ 1 (σ.1 1 1)).bind (fun r60 => deref 6 r5 (fun k72 => deref 6 r15 (fun k72' => (f_X8_worstPlaceIn r60 (0 : Int32) k72 k72').bind (fun r72 => f_X8_hold_L80  a3 k72 k72' FU (0 : Int32) r72.1 (1 : Int32) r72.2)))))) else (f_X8_refuse σ (1 : Int32)).bind (fun r41 => some (r41.1, r41.2)))))
set_option maxRecDepth 100000 in
def f_X8_ask_L126 (K47 : Bool → Int32 → Int32 → Int32 → Sto → Option (Int32 × Sto)) (k3 : Nat) (k4 : Nat) (v5 : Bool) (v6 : Int32) (v7 : Int32) (v8 : Int32) (σ : Sto) : Option (Int32 × Sto) := K47 v5 v6 v7 (v8 + (1 : Int32)) σ
set_option maxRecDepth 100000 in
def f_X8_ask_L110 (K47 : Bool → Int32 → Int32 → Int32 → Sto → Option (Int32 × Sto)) (k3 : Nat) (k4 : Nat) (v8 : Int32) (σ : Sto) : Option (Int32 × Sto) := f_X8_ask_L126 K47 k3 k4 true v8 (σ.1 58 2) v8 σ
set_option maxRecDepth 100000 in
def f_X8_ask_L47  (r3 : Option Nat) (r4 : Option Nat) : Nat → Bool → Int32 → Int32 → Int32 → Sto → Option (Int32 × Sto)
  | 0, _, _, _, _, _ => none
  | n + 1, v5, v6, v7, v8, σ => if (3 : Int32) < v8 then (if v5 = true then (some (v6, σ)) else (f_X8_refuse σ (2 : Int32)).bind (fun r144 => some (r144.1, r144.2))) else (f_X5_feel σ 1 v8).bind (fun r63 => deref 6 r3 (fun k80 => deref 6 r4 (fun k80' => (f_X5_meets r63 k80 k80' (r63.1 1 2)).bind (fun r80 => if r80.1 = true then (if v5 = true then ((f_X8_isBetter (r80.2.1 k80 2) (r80.2.1 58 2) v7).bind (fun r104 => if r104 = true then (f_X8_ask_L110 (f_X8_ask_L47  r3 r4 n) k80 k80' v8 r80.2) else f_X8_ask_L126 (f_X8_ask_L47  r3 r4 n) k80 k80' v5 v6 v7 v8 r80.2)) else f_X8_ask_L110 (f_X8_ask_L47  r3 r4 n) k80 k80' v8 r80.2) else f_X8_ask_L126 (f_X8_ask_L47  r3 r4 n) k80 k80' v5 v6 v7 v8 r80.2))))
set_option maxRecDepth 100000 in
def f_X8_ask (σ : Sto) (a1 : Int32) (a2 : Int32) : Option (Int32 × Sto) := (f_X0_swimmerAt σ 1 a1).bind (fun r5 => (f_X0_swimmerAt σ 1 a2).bind (fun r14 => (f_X8_areUnlike σ r5 r14).bind (fun r22 => if r22 = true then (f_X8_ask_L47  r5 r14 FU false (0 : Int32) (0 : Int32) (-3 : Int32) σ) else (f_X8_refuse σ (1 : Int32)).bind (fun r30 => some (r30.1, r30.2)))))
set_option maxRecDepth 100000 in
def f_X8_leastSight (σ : Sto) (a1 : Int32) (a2 : Int32) : Option (Int32 × Sto) := (f_X0_swimmerAt σ 1 a1).bind (fun r5 => (f_X0_swimmerAt σ 1 a2).bind (fun r14 => (f_X8_areUnlike σ r5 r14).bind (fun r22 => if r22 = true then ((f_X5_feel σ 1 (σ.1 1 1)).bind (fun r49 => deref 6 r5 (fun k59 => deref 6 r14 (fun k59' => (f_X5_leastGap r49 k59 k59').bind (fun r59 => if r59.1 ≤ (200 : Int32) then (some (r59.1, r59.2)) else (f_X8_refuse r59.2 (2 : Int32)).bind (fun r74 => some (r74.1, r74.2))))))) else (f_X8_refuse σ (1 : Int32)).bind (fun r30 => some (r30.1, r30.2)))))
set_option maxRecDepth 100000 in
def f_X8_send_L128 (K45 : Int32 → Int32 → Int32 → Sto → Option (Int32 × Sto)) (r2 : Option Nat) (v3 : Int32) (v4 : Int32) (v5 : Int32) (σ : Sto) : Option (Int32 × Sto) := K45 v3 v4 (v5 + (1 : Int32)) σ
set_option maxRecDepth 100000 in
def f_X8_send_L116 (K45 : Int32 → Int32 → Int32 → Sto → Option (Int32 × Sto)) (k2 : Nat) (v5 : Int32) (σ : Sto) : Option (Int32 × Sto) := f_X8_send_L128 K45 (some k2) v5 (σ.1 58 2) v5 σ
set_option maxRecDepth 100000 in
def f_X8_send_L45  (r2 : Option Nat) : Nat → Int32 → Int32 → Int32 → Sto → Option (Int32 × Sto)
  | 0, _, _, _, _ => none
  | n + 1, v3, v4, v5, σ => if (8 : Int32) ≤ v5 then (if 0 ≤ v3 then (some (v3, σ)) else (f_X8_refuse σ (2 : Int32)).bind (fun r140 => some (r140.1, r140.2))) else (f_X0_swimmerAt σ 1 v5).bind (fun r58 => (f_X8_areUnlike σ r58 r2).bind (fun r66 => if r66 = true then (deref 6 r58 (fun k86 => deref 6 r2 (fun k86' => (f_X5_meets σ k86 k86' (σ.1 1 2)).bind (fun r86 => if r86.1 = true then (if v3 < 0 then (f_X8_send_L116 (f_X8_send_L45  r2 n) k86' v5 r86.2) else (f_X8_isBetter (r86.2.1 k86 2) (r86.2.1 58 2) v4).bind (fun r110 => if r110 = true then (f_X8_send_L116 (f_X8_send_L45  r2 n) k86' v5 r86.2) else f_X8_send_L128 (f_X8_send_L45  r2 n) (some k86') v3 v4 v5 r86.2)) else f_X8_send_L128 (f_X8_send_L45  r2 n) (some k86') v3 v4 v5 r86.2)))) else f_X8_send_L128 (f_X8_send_L45  r2 n) r2 v3 v4 v5 σ))
set_option maxRecDepth 100000 in
def f_X8_send (σ : Sto) (a1 : Int32) : Option (Int32 × Sto) := (f_X0_swimmerAt σ 1 a1).bind (fun r5 => onN r5 ((f_X8_refuse σ (1 : Int32)).bind (fun r15 => some (r15.1, r15.2))) (fun k10 => (f_X5_feel σ 1 (σ.1 1 1)).bind (fun r34 => f_X8_send_L45  (some k10) FU (-1 : Int32) (0 : Int32) (0 : Int32) r34)))
set_option maxRecDepth 100000 in
def f_X8_diary_L161 (K95 : Int32 → Int32 → Int32 → Sto → Option (Int32 × Sto)) (v3 : Int32) (v4 : Int32) (v5 : Int32) (k6 : Nat) (k7 : Nat) (v8 : Int32) (v9 : Int32) (v10 : Int32) (σ : Sto) : Option (Int32 × Sto) := K95 v8 v9 (v10 + (1 : Int32)) σ
set_option maxRecDepth 100000 in
def f_X8_diary_L156 (K95 : Int32 → Int32 → Int32 → Sto → Option (Int32 × Sto)) (v3 : Int32) (v4 : Int32) (v5 : Int32) (k6 : Nat) (k7 : Nat) (v8 : Int32) (v10 : Int32) (vs0 : Int32) (σ : Sto) : Option (Int32 × Sto) := f_X8_diary_L161 K95 v3 v4 v5 k6 k7 (v8 + (1 : Int32)) vs0 v10 σ
set_option maxRecDepth 100000 in
def f_X8_diary_L95  (v3 : Int32) (v4 : Int32) (v5 : Int32) (r6 : Option Nat) (r7 : Option Nat) : Nat → Int32 → Int32 → Int32 → Sto → Option (Int32 × Sto)
  | 0, _, _, _, _ => none
  | n + 1, v8, v9, v10, σ => if (6 : Int32) ≤ v10 then (if v5 = 0 then (some (v8, σ)) else if v8 = 0 then ((f_X8_refuse σ (2 : Int32)).bind (fun r182 => some (r182.1, r182.2))) else some (v9, σ)) else deref 6 r6 (fun k109 => deref 6 r7 (fun k109' => (f_X8_meetInLane σ v10 k109 k109').bind (fun r109 => if r109.1 = true then (if (r109.2.1 58 1) = v3 then (if (r109.2.1 58 2) = v4 then (if v8 = 0 then (f_X8_diary_L156 (f_X8_diary_L95  v3 v4 v5 r6 r7 n) v3 v4 v5 k109 k109' v8 v10 (((10 : Int32) * v10) + v10) r109.2) else f_X8_diary_L156 (f_X8_diary_L95  v3 v4 v5 r6 r7 n) v3 v4 v5 k109 k109' v8 v10 v9 r109.2) else f_X8_diary_L161 (f_X8_diary_L95  v3 v4 v5 r6 r7 n) v3 v4 v5 k109 k109' v8 v9 v10 r109.2) else f_X8_diary_L161 (f_X8_diary_L95  v3 v4 v5 r6 r7 n) v3 v4 v5 k109 k109' v8 v9 v10 r109.2) else f_X8_diary_L161 (f_X8_diary_L95  v3 v4 v5 r6 r7 n) v3 v4 v5 k109 k109' v8 v9 v10 r109.2)))
set_option maxRecDepth 100000 in
def f_X8_diary (σ : Sto) (a1 : Int32) (a2 : Int32) (a3 : Int32) (a4 : Int32) (a5 : Int32) : Option (Int32 × Sto) := (f_X0_swimmerAt σ 1 a1).bind (fun r5 => (f_X0_swimmerAt σ 1 a2).bind (fun r15 => (f_X8_areUnlike σ r5 r15).bind (fun r24 => if r24 = true then ((f_X8_isOutside a3 (0 : Int32) (59 : Int32)).bind (fun r34 => if r34 = true then ((f_X8_refuse σ (1 : Int32)).bind (fun r64 => some (r64.1, r64.2))) else (f_X8_isOutside a4 (0 : Int32) (1200 : Int32)).bind (fun r46 => if r46 = true then ((f_X8_refuse σ (1 : Int32)).bind (fun r64 => some (r64.1, r64.2))) else (f_X8_isOutside a5 (0 : Int32) (1 : Int32)).bind (fun r56 => if r56 = true then ((f_X8_refuse σ (1 : Int32)).bind (fun r64 => some (r64.1, r64.2))) else (f_X5_feel σ 1 (σ.1 1 1)).bind (fun r83 => f_X8_diary_L95  a3 a4 a5 r5 r15 FU (0 : Int32) (0 : Int32) (0 : Int32) r83))))) else (f_X8_refuse σ (1 : Int32)).bind (fun r64 => some (r64.1, r64.2)))))
set_option maxRecDepth 100000 in
def f_X8_training_L138 (K77 : Int32 → Sto → Option (Int32 × Sto)) (v3 : Int32) (k4 : Nat) (k5 : Nat) (v6 : Int32) (σ : Sto) : Option (Int32 × Sto) := K77 (v6 + (1 : Int32)) σ
set_option maxRecDepth 100000 in
def f_X8_training_L77  (v3 : Int32) (k4 : Nat) (r5 : Option Nat) : Nat → Int32 → Sto → Option (Int32 × Sto)
  | 0, _, _ => none
  | n + 1, v6, σ => if (30 : Int32) < v6 then ((f_X8_refuse σ (2 : Int32)).bind (fun r146 => some (r146.1, r146.2))) else lp (sI σ 69 3 v6) (fun σ90 => deref 6 r5 (fun k110 => (f_X5_meets σ90 69 k110 (σ90.1 1 2)).bind (fun r110 => if r110.1 = true then ((f_X8_isBetter (r110.2.1 k4 2) v3 (r110.2.1 58 2)).bind (fun r129 => if r129 = true then (f_X8_training_L138 (f_X8_training_L77  v3 k4 r5 n) v3 k4 k110 v6 r110.2) else some (v6, r110.2))) else f_X8_training_L138 (f_X8_training_L77  v3 k4 r5 n) v3 k4 k110 v6 r110.2)))
set_option maxRecDepth 100000 in
def f_X8_training (σ : Sto) (a1 : Int32) (a2 : Int32) (a3 : Int32) : Option (Int32 × Sto) := (f_X0_swimmerAt σ 1 a1).bind (fun r5 => (f_X0_swimmerAt σ 1 a2).bind (fun r15 => (f_X8_areUnlike σ r5 r15).bind (fun r24 => if r24 = true then ((f_X8_isOutside a3 (0 : Int32) (1200 : Int32)).bind (fun r35 => if r35 = true then ((f_X8_refuse σ (1 : Int32)).bind (fun r43 => some (r43.1, r43.2))) else (f_X5_feel σ 1 (σ.1 1 1)).bind (fun r62 => deref 6 r5 (fun k71 => (f_X6_copy r62 69 k71).bind (fun r71 => f_X8_training_L77  a3 k71 r15 FU (0 : Int32) r71))))) else (f_X8_refuse σ (1 : Int32)).bind (fun r43 => some (r43.1, r43.2)))))
set_option maxRecDepth 100000 in
def f_X8_fair (σ : Sto) (a1 : Int32) (a2 : Int32) : Option (Int32 × Sto) := (f_X0_swimmerAt σ 1 a1).bind (fun r5 => (f_X0_swimmerAt σ 1 a2).bind (fun r14 => (f_X8_areUnlike σ r5 r14).bind (fun r22 => if r22 = true then ((f_X5_feel σ 1 (σ.1 1 1)).bind (fun r49 => deref 6 r5 (fun k66 => deref 6 r14 (fun k66' => (f_X5_meets r49 k66 k66' (r49.1 1 2)).bind (fun r66 => if r66.1 = true then ((f_X6_copy r66.2 69 k66).bind (fun r92 => lp (sI r92 69 2 (r92.1 k66' 2)) (fun σ104 => (f_X6_copy σ104 71 k66').bind (fun r113 => lp (sI r113 71 2 (r113.1 k66 2)) (fun σ124 => (f_X5_meets σ124 69 71 (σ124.1 1 2)).bind (fun r146 => if r146.1 = true then (some ((((r66.2.1 58 2) + (r146.2.1 58 2)) - (1200 : Int32)), r146.2)) else (f_X8_refuse r146.2 (2 : Int32)).bind (fun r154 => some (r154.1, r154.2)))))))) else (f_X8_refuse r66.2 (2 : Int32)).bind (fun r74 => some (r74.1, r74.2))))))) else (f_X8_refuse σ (1 : Int32)).bind (fun r30 => some (r30.1, r30.2)))))
set_option maxRecDepth 100000 in
def f_X8_seed (σ : Sto) (a1 : Int32) : Option (Int32 × Sto) := lp (sI σ 1 15 a1) (fun σ13 => some ((σ.1 1 15), σ13))
set_option maxRecDepth 100000 in
def f_X8_voice (σ : Sto) (a1 : Int32) (a2 : Int32) (a3 : Int32) : Option (Int32 × Sto) := (f_X0_swimmerAt σ 1 a1).bind (fun r5 => onN r5 ((f_X8_refuse σ (1 : Int32)).bind (fun r26 => some (r26.1, r26.2))) (fun k12 => (f_X8_isOutside a2 (0 : Int32) (3 : Int32)).bind (fun r18 => if r18 = true then ((f_X8_refuse σ (1 : Int32)).bind (fun r26 => some (r26.1, r26.2))) else if K0 k12 = 6 then ((f_X7_speak σ k12 a1 a2 a3).bind (fun r39 => some (r39.1, r39.2))) else none)))
set_option maxRecDepth 100000 in
def f_X8_trace (σ : Sto) (a1 : Int32) : Option (Int32 × Sto) := (f_X8_isOutside a1 (0 : Int32) ((σ.1 65 1) - (1 : Int32))).bind (fun r11 => if r11 = true then ((f_X8_refuse σ (2 : Int32)).bind (fun r31 => some (r31.1, r31.2))) else if a1 < (40 : Int32) then ((rdA σ 66 a1).bind (fun r43 => some (r43, σ))) else (f_X8_refuse σ (2 : Int32)).bind (fun r31 => some (r31.1, r31.2)))
set_option maxRecDepth 100000 in
def f_X8_sheetAt (σ : Sto) (a1 : Int32) : Option (Option Nat) := (f_X8_isOutside a1 (0 : Int32) (3 : Int32)).bind (fun r3 => if r3 = true then (some none) else (rdR 67 a1).bind (fun r18 => some r18))
set_option maxRecDepth 100000 in
def f_X8_sheet_L40  (v2 : Int32) (v3 : Int32) (r4 : Option Nat) (σ : Sto) : Option (Int32 × Sto) := if v2 = 0 then (deref 4 r4 (fun k48 => (f_X4_clear σ k48 (0 : Int32) (0 : Int32)).bind (fun r48 => some ((1 : Int32), r48)))) else if 0 ≤ v3 then (if v3 ≤ (40 : Int32) then (deref 4 r4 (fun k79 => (f_X4_clear σ k79 v2 v3).bind (fun r79 => some ((1 : Int32), r79)))) else (f_X8_refuse σ (1 : Int32)).bind (fun r71 => some (r71.1, r71.2))) else (f_X8_refuse σ (3 : Int32)).bind (fun r59 => some (r59.1, r59.2))
set_option maxRecDepth 100000 in
def f_X8_sheet (σ : Sto) (a1 : Int32) (a2 : Int32) (a3 : Int32) : Option (Int32 × Sto) := (f_X8_sheetAt σ a1).bind (fun r2 => onN r2 ((f_X8_refuse σ (1 : Int32)).bind (fun r36 => some (r36.1, r36.2))) (fun k9 => if a2 = 0 then (f_X8_sheet_L40  a2 a3 (some k9) σ) else if a2 = (8 : Int32) then (f_X8_sheet_L40  a2 a3 (some k9) σ) else if a2 = (16 : Int32) then (f_X8_sheet_L40  a2 a3 (some k9) σ) else if a2 = (32 : Int32) then (f_X8_sheet_L40  a2 a3 (some k9) σ) else (f_X8_refuse σ (1 : Int32)).bind (fun r36 => some (r36.1, r36.2))))
set_option maxRecDepth 100000 in
def f_X8_put (σ : Sto) (a1 : Int32) (a2 : Int32) (a3 : Int32) : Option (Int32 × Sto) := (f_X8_sheetAt σ a1).bind (fun r2 => onN r2 ((f_X8_refuse σ (1 : Int32)).bind (fun r14 => some (r14.1, r14.2))) (fun k9 => if K0 k9 = 4 then ((f_X4_isMissing σ k9).bind (fun r20 => if r20 = true then ((f_X8_refuse σ (2 : Int32)).bind (fun r28 => some (r28.1, r28.2))) else (f_X8_isOutside a2 (0 : Int32) ((σ.1 k9 1) - (1 : Int32))).bind (fun r41 => if r41 = true then ((f_X8_refuse σ (1 : Int32)).bind (fun r49 => some (r49.1, r49.2))) else (f_X4_write σ k9 a2 a3).bind (fun r57 => some ((1 : Int32), r57))))) else none))
set_option maxRecDepth 100000 in
def f_X8_move (σ : Sto) (a1 : Int32) (a2 : Int32) (a3 : Int32) (a4 : Int32) (a5 : Int32) : Option (Int32 × Sto) := (f_X8_sheetAt σ a1).bind (fun r2 => (f_X8_sheetAt σ a3).bind (fun r9 => onN r2 ((f_X8_refuse σ (1 : Int32)).bind (fun r26 => some (r26.1, r26.2))) (fun k16 => onN r9 ((f_X8_refuse σ (1 : Int32)).bind (fun r26 => some (r26.1, r26.2))) (fun k21 => if K0 k16 = 4 then ((f_X4_isMissing σ k16).bind (fun r32 => if r32 = true then ((f_X8_refuse σ (2 : Int32)).bind (fun r48 => some (r48.1, r48.2))) else if K0 k21 = 4 then ((f_X4_isMissing σ k21).bind (fun r40 => if r40 = true then ((f_X8_refuse σ (2 : Int32)).bind (fun r48 => some (r48.1, r48.2))) else if (σ.1 k16 2) = (σ.1 k21 2) then ((f_X4_holds σ k16 a2 a5).bind (fun r76 => if r76 = true then ((f_X4_holds σ k21 a4 a5).bind (fun r88 => if r88 = true then ((cpA σ (A0 k16 0) a2 (A0 k21 0) a4 a5).bind (fun σ115 => some (a5, σ115))) else (f_X8_refuse σ (1 : Int32)).bind (fun r96 => some (r96.1, r96.2)))) else (f_X8_refuse σ (1 : Int32)).bind (fun r96 => some (r96.1, r96.2)))) else (f_X8_refuse σ (5 : Int32)).bind (fun r67 => some (r67.1, r67.2)))) else none)) else none))))
set_option maxRecDepth 100000 in
def f_X8_years_L34  (k2 : Nat) : Nat → Int32 → Int32 → Sto → Option (Int32 × Sto)
  | 0, _, _, _ => none
  | n + 1, v3, v4, σ => if (σ.1 k2 1) ≤ (v4 + (1 : Int32)) then (some (v3, σ)) else (f_X4_read σ k2 v4).bind (fun r48 => (f_X4_read σ k2 (v4 + (1 : Int32))).bind (fun r58 => (f_X8_whyNoYear σ r48 r58).bind (fun r68 => if r68 = 0 then ((f_X8_letYearGoBy σ r48 r58).bind (fun r82 => (f_X8_years_L34  k2 n) (v3 + (1 : Int32)) (v4 + (2 : Int32)) r82)) else some (v3, σ))))
set_option maxRecDepth 100000 in
def f_X8_years (σ : Sto) (a1 : Int32) : Option (Int32 × Sto) := (f_X8_sheetAt σ a1).bind (fun r2 => onN r2 ((f_X8_refuse σ (1 : Int32)).bind (fun r12 => some (r12.1, r12.2))) (fun k7 => if K0 k7 = 4 then ((f_X4_isMissing σ k7).bind (fun r17 => if r17 = true then ((f_X8_refuse σ (2 : Int32)).bind (fun r25 => some (r25.1, r25.2))) else f_X8_years_L34  k7 FU (0 : Int32) (0 : Int32) σ)) else none))
set_option maxRecDepth 100000 in
def f_X8_judge_L72  (k3 : Nat) (k4 : Nat) : Nat → Int32 → Int32 → Sto → Option (Int32 × Sto)
  | 0, _, _, _ => none
  | n + 1, v5, v6, σ => if (σ.1 k3 1) ≤ v6 then (some ((σ.1 k3 1), σ)) else (f_X4_read σ k3 v6).bind (fun r84 => if r84 = v5 then ((f_X5_placeNext σ k4 v5 v6).bind (fun r105 => (f_X8_judge_L72  k3 k4 n) r105 (v6 + (1 : Int32)) σ)) else some (v6, σ))
set_option maxRecDepth 100000 in
def f_X8_judge (σ : Sto) (a1 : Int32) (a2 : Int32) : Option (Int32 × Sto) := (f_X8_sheetAt σ a1).bind (fun r2 => (f_X0_swimmerAt σ 1 a2).bind (fun r11 => onN r2 ((f_X8_refuse σ (1 : Int32)).bind (fun r27 => some (r27.1, r27.2))) (fun k17 => onN r11 ((f_X8_refuse σ (1 : Int32)).bind (fun r27 => some (r27.1, r27.2))) (fun k22 => if K0 k17 = 4 then ((f_X4_isMissing σ k17).bind (fun r32 => if r32 = true then ((f_X8_refuse σ (2 : Int32)).bind (fun r40 => some (r40.1, r40.2))) else (f_X5_feel σ 1 (σ.1 1 1)).bind (fun r59 => if K0 k22 = 6 then ((f_X6_shore r59 k22).bind (fun r64 => f_X8_judge_L72  k17 k22 FU r64 (0 : Int32) r59)) else none))) else none))))
set_option maxRecDepth 100000 in
def f_X8_image (σ : Sto)  : Option (Int32 × Sto) := (f_X0_copy σ 28 1).bind (fun r8 => lp (sI r8 0 10 ((r8.1 0 10) + (1 : Int32))) (fun σ18 => some ((σ18.1 0 10), σ18)))
set_option maxRecDepth 100000 in
def f_X8_restore (σ : Sto)  : Option (Int32 × Sto) := if (σ.1 0 10) = 0 then ((f_X8_refuse σ (2 : Int32)).bind (fun r9 => some (r9.1, r9.2))) else (f_X0_copy σ 1 28).bind (fun r21 => some ((r21.1 1 4), r21))
set_option maxRecDepth 100000 in
def f_X8_tell (σ : Sto) (a1 : Int32) : Option (Int32 × Sto) := (f_X8_isOutside (σ.1 1 14) (0 : Int32) (19 : Int32)).bind (fun r12 => if r12 = true then ((f_X8_refuse σ (4 : Int32)).bind (fun r20 => some (r20.1, r20.2))) else (wrA σ 11 (σ.1 1 14) a1).bind (fun σ33 => lp (sI σ33 1 14 ((σ.1 1 14) + (1 : Int32))) (fun σ41 => some ((σ41.1 1 14), σ41))))
set_option maxRecDepth 100000 in
def f_X8_check_L147 (K113 : Int32 → Sto → Option (Int32 × Sto)) (v3 : Int32) (v6 : Int32) (v7 : Int32) (vs0 : Bool) (σ : Sto) : Option (Int32 × Sto) := if vs0 = true then ((rdA σ 11 v7).bind (fun r163 => if r163 = v6 then (K113 (v7 + (1 : Int32)) σ) else some (((1 : Int32) + v7), σ))) else some (((1 : Int32) + v7), σ)
set_option maxRecDepth 100000 in
def f_X8_check_L113  (v3 : Int32) (v6 : Int32) : Nat → Int32 → Sto → Option (Int32 × Sto)
  | 0, _, _ => none
  | n + 1, v7, σ => if v3 ≤ v7 then (some ((0 : Int32), σ)) else if (20 : Int32) ≤ v7 then (some ((0 : Int32), σ)) else if (9999 : Int32) ≤ ((σ.1 1 4) + v7) then (f_X8_check_L147 (f_X8_check_L113  v3 v6 n) v3 v6 v7 false σ) else f_X8_check_L147 (f_X8_check_L113  v3 v6 n) v3 v6 v7 true σ
set_option maxRecDepth 100000 in
def f_X8_check_L108  (v3 : Int32) (vs0 : Int32) (σ : Sto) : Option (Int32 × Sto) := f_X8_check_L113  v3 vs0 FU (0 : Int32) σ
set_option maxRecDepth 100000 in
def f_X8_check (σ : Sto) (a1 : Int32) (a2 : Int32) : Option (Int32 × Sto) := lp (sI σ 1 14 (0 : Int32)) (fun σ13 => (f_X0_swimmerAt σ13 1 a1).bind (fun r21 => (f_X0_swimmerAt σ13 1 a2).bind (fun r31 => (f_X8_areUnlike σ13 r21 r31).bind (fun r40 => if r40 = true then ((f_X5_feel σ13 1 (σ13.1 1 1)).bind (fun r67 => deref 6 r21 (fun k85 => deref 6 r31 (fun k85' => (f_X5_meets r67 k85 k85' (r67.1 1 2)).bind (fun r85 => if r85.1 = true then (f_X8_check_L108  (σ.1 1 14) (r85.2.1 58 2) r85.2) else f_X8_check_L108  (σ.1 1 14) (r85.2.1 1 3) r85.2))))) else (f_X8_refuse σ13 (1 : Int32)).bind (fun r48 => some (r48.1, r48.2))))))
set_option maxRecDepth 100000 in
def f_X8_count (σ : Sto) (a1 : Int32) : Option (Int32 × Sto) := if a1 = (0 : Int32) then (some ((σ.1 1 4), σ)) else if a1 = (1 : Int32) then (some ((σ.1 1 8), σ)) else if a1 = (2 : Int32) then (some ((σ.1 1 3), σ)) else if a1 = (3 : Int32) then (some ((σ.1 1 5), σ)) else if a1 = (4 : Int32) then (some ((σ.1 1 6), σ)) else if a1 = (5 : Int32) then (some ((σ.1 1 1), σ)) else if a1 = (6 : Int32) then (some ((σ.1 1 2), σ)) else if a1 = (7 : Int32) then (some ((σ.1 1 12), σ)) else if a1 = (8 : Int32) then (some ((σ.1 1 14), σ)) else if a1 = (9 : Int32) then (some ((σ.1 65 1), σ)) else if a1 = (10 : Int32) then (some ((σ.1 1 15), σ)) else (f_X8_refuse σ (1 : Int32)).bind (fun r150 => some (r150.1, r150.2))
set_option maxRecDepth 100000 in
def f_X8_told (σ : Sto) (a1 : Int32) : Option (Int32 × Sto) := (f_X8_isOutside a1 (1 : Int32) (5 : Int32)).bind (fun r3 => if r3 = true then ((f_X8_refuse σ (1 : Int32)).bind (fun r11 => some (r11.1, r11.2))) else (rdA σ 68 a1).bind (fun r20 => some (r20, σ)))
set_option maxRecDepth 100000 in
def f_X9_finds (σ : Sto) (a1 : Int32) : Option (Int32 × Sto) := (rdA σ 85 a1).bind (fun r6 => (wrA σ 85 a1 (r6 + (1 : Int32))).bind (fun σ9 => some (((-1000000000 : Int32) - a1), σ9)))
set_option maxRecDepth 100000 in
def f_X9_in (a0 : Int64) (a2 : Int64) (a4 : Int64) : Option Bool := if (lg_cmp a0 a2) < 0 then (some false) else if 0 < (lg_cmp a0 a4) then (some false) else some true
set_option maxRecDepth 100000 in
def f_X9_held (a0 : Int32) (a1 : Int32) (a2 : Int32) : Option Int32 := if a1 ≤ a0 then (if a0 ≤ a2 then (some a0) else some a2) else some a1
set_option maxRecDepth 100000 in
def f_X9_lesser (a0 : Int32) (a1 : Int32) : Option Int32 := if a1 ≤ a0 then (some a1) else some a0
set_option maxRecDepth 100000 in
def f_X9_greater (a0 : Int32) (a1 : Int32) : Option Int32 := if a0 ≤ a1 then (some a1) else some a0
set_option maxRecDepth 100000 in
def f_X9_copies_L2  (k0 : Nat) (k1 : Nat) : Nat → Int32 → Sto → Option Sto
  | 0, _, _ => none
  | n + 1, v2, σ => if (270 : Int32) ≤ v2 then (some σ) else (rdA σ k0 v2).bind (fun r13 => (wrA σ k1 v2 r13).bind (fun σ14 => (f_X9_copies_L2  k0 k1 n) (v2 + (1 : Int32)) σ14))
set_option maxRecDepth 100000 in
def f_X9_copies (σ : Sto) (a0 : Nat) (a1 : Nat) : Option Sto := f_X9_copies_L2  a0 a1 FU (0 : Int32) σ
set_option maxRecDepth 100000 in
def f_X9_isLane (a0 : Int32) : Option Bool := (f_X9_in (Int32.toInt64 a0) (0 : Int64) (5 : Int64)).bind (fun r6 => some r6)
set_option maxRecDepth 100000 in
def f_X9_isSwimmer (σ : Sto) (a1 : Int32) : Option Bool := (rdA σ 82 (12 : Int32)).bind (fun r9 => (f_X9_in (Int32.toInt64 a1) (0 : Int64) (Int32.toInt64 (r9 - (1 : Int32)))).bind (fun r13 => some r13))
set_option maxRecDepth 100000 in
def f_X9_of (σ : Sto) (a1 : Int32) (a2 : Int32) : Option Int32 := (rdA σ 82 (((16 : Int32) + ((9 : Int32) * a1)) + a2)).bind (fun r13 => some r13)
set_option maxRecDepth 100000 in
def f_X9_becomes (σ : Sto) (a1 : Int32) (a2 : Int32) (a3 : Int32) : Option Sto := (wrA σ 82 (((16 : Int32) + ((9 : Int32) * a1)) + a2) a3).bind (fun σ14 => some σ14)
set_option maxRecDepth 100000 in
def f_X9_here (σ : Sto)  : Option Int32 := if (σ.1 81 7) ≤ (σ.1 81 6) then (some (-1 : Int32)) else if 0 ≤ (σ.1 81 8) then (some (-1 : Int32)) else (rdA σ 82 ((σ.1 81 5) + (σ.1 81 6))).bind (fun r31 => some r31)
set_option maxRecDepth 100000 in
def f_X9_wrong_L19  (vs0 : Int32) (σ : Sto) : Option Sto := lp (sI σ 81 8 vs0) (fun σ19 => some σ19)
set_option maxRecDepth 100000 in
def f_X9_wrong (σ : Sto)  : Option Sto := if 0 ≤ (σ.1 81 8) then (f_X9_wrong_L19  (σ.1 81 8) σ) else f_X9_wrong_L19  (σ.1 81 6) σ
set_option maxRecDepth 100000 in
def f_X9_takes (σ : Sto) (a1 : Int32) : Option (Bool × Sto) := (f_X9_here σ).bind (fun r1 => if r1 = a1 then (lp (sI σ 81 6 ((σ.1 81 6) + (1 : Int32))) (fun σ17 => some (true, σ17))) else some (false, σ))
set_option maxRecDepth 100000 in
def f_X9_nameOf (σ : Sto) (a1 : Int32) : Option Int32 := if (σ.1 81 10) = 0 then (if a1 = (99 : Int32) then (some (0 : Int32)) else if a1 = (119 : Int32) then (some (1 : Int32)) else if a1 = (108 : Int32) then (some (2 : Int32)) else some (-1 : Int32)) else if a1 = (98 : Int32) then (some (0 : Int32)) else if a1 = (121 : Int32) then (some (1 : Int32)) else if a1 = (119 : Int32) then (some (2 : Int32)) else some (-1 : Int32)
set_option maxRecDepth 100000 in
def f_X9_lay (σ : Sto) (a1 : Int32) : Option Sto := if 0 ≤ (σ.1 81 8) then (some σ) else (wrA σ 87 (σ.1 81 13) a1).bind (fun σ16 => lp (sI σ16 81 13 ((σ16.1 81 13) + (1 : Int32))) (fun σ24 => some σ24))
set_option maxRecDepth 100000 in
def f_X9_both_L4 (rec : Nat → Int32 → Sto → Option Sto)   : Nat → Sto → Option Sto
  | 0, _ => none
  | n + 1, σ => (f_X9_takes σ (38 : Int32)).bind (fun r7 => if r7.1 = true then ((rec 1 (0 : Int32) r7.2).bind (fun r14 => (f_X9_lay r14 (20038 : Int32)).bind (fun r21 => (f_X9_both_L4 rec   n) r21))) else some r7.2)
set_option maxRecDepth 100000 in
def b_X9_both (rec : Nat → Int32 → Sto → Option Sto) (σ : Sto)  : Option Sto := (rec 1 (0 : Int32) σ).bind (fun r1 => f_X9_both_L4 rec   FU r1)
set_option maxRecDepth 100000 in
def f_X9_compared_L27 (rec : Nat → Int32 → Sto → Option Sto)  (v1 : Int32) (σ : Sto) : Option Sto := lp (sI σ 81 6 ((σ.1 81 6) + (1 : Int32))) (fun σ34 => (rec 5 (0 : Int32) σ34).bind (fun r38 => (f_X9_lay r38 ((20000 : Int32) + v1)).bind (fun r47 => some r47)))
set_option maxRecDepth 100000 in
def b_X9_compared (rec : Nat → Int32 → Sto → Option Sto) (σ : Sto)  : Option Sto := (rec 5 (0 : Int32) σ).bind (fun r1 => (f_X9_here r1).bind (fun r5 => if r5 = (60 : Int32) then (f_X9_compared_L27 rec  r5 r1) else if r5 = (61 : Int32) then (f_X9_compared_L27 rec  r5 r1) else if r5 = (62 : Int32) then (f_X9_compared_L27 rec  r5 r1) else some r1))
set_option maxRecDepth 100000 in
def f_X9_either_L4 (rec : Nat → Int32 → Sto → Option Sto)   : Nat → Sto → Option Sto
  | 0, _ => none
  | n + 1, σ => (f_X9_takes σ (124 : Int32)).bind (fun r7 => if r7.1 = true then ((rec 0 (0 : Int32) r7.2).bind (fun r14 => (f_X9_lay r14 (20124 : Int32)).bind (fun r21 => (f_X9_either_L4 rec   n) r21))) else some r7.2)
set_option maxRecDepth 100000 in
def b_X9_either (rec : Nat → Int32 → Sto → Option Sto) (σ : Sto)  : Option Sto := (rec 0 (0 : Int32) σ).bind (fun r1 => f_X9_either_L4 rec   FU r1)
set_option maxRecDepth 100000 in
def f_X9_opens_L70 (rec : Nat → Int32 → Sto → Option Sto)   (σ : Sto) : Option Sto := lp (sI σ 81 9 ((σ.1 81 9) - (1 : Int32))) (fun σ77 => some σ77)
set_option maxRecDepth 100000 in
def b_X9_opens (rec : Nat → Int32 → Sto → Option Sto) (σ : Sto) (a1 : Int32) : Option Sto := if (σ.1 81 9) = (5 : Int32) then ((f_X9_wrong σ).bind (fun r9 => some r9)) else lp (sI σ 81 9 ((σ.1 81 9) + (1 : Int32))) (fun σ20 => lp (sI σ20 81 6 ((σ20.1 81 6) + (1 : Int32))) (fun σ30 => if a1 = (33 : Int32) then ((rec 6 (0 : Int32) σ30).bind (fun r40 => (f_X9_lay r40 (20033 : Int32)).bind (fun r47 => f_X9_opens_L70 rec  r47))) else (rec 2 (0 : Int32) σ30).bind (fun r54 => (f_X9_takes r54 (41 : Int32)).bind (fun r60 => if r60.1 = true then (f_X9_opens_L70 rec  r60.2) else (f_X9_wrong r60.2).bind (fun r67 => f_X9_opens_L70 rec  r67)))))
set_option maxRecDepth 100000 in
def f_X9_product_L31 (rec : Nat → Int32 → Sto → Option Sto) (K4 : Sto → Option Sto)  (σ : Sto) : Option Sto := (f_X9_here σ).bind (fun r32 => lp (sI σ 81 6 ((σ.1 81 6) + (1 : Int32))) (fun σ43 => (rec 6 (0 : Int32) σ43).bind (fun r47 => (f_X9_lay r47 ((20000 : Int32) + r32)).bind (fun r56 => K4 r56))))
set_option maxRecDepth 100000 in
def f_X9_product_L4 (rec : Nat → Int32 → Sto → Option Sto)   : Nat → Sto → Option Sto
  | 0, _ => none
  | n + 1, σ => (f_X9_here σ).bind (fun r5 => if r5 = (42 : Int32) then (f_X9_product_L31 rec (f_X9_product_L4 rec   n) σ) else (f_X9_here σ).bind (fun r14 => if r14 = (47 : Int32) then (f_X9_product_L31 rec (f_X9_product_L4 rec   n) σ) else (f_X9_here σ).bind (fun r23 => if r23 = (37 : Int32) then (f_X9_product_L31 rec (f_X9_product_L4 rec   n) σ) else some σ)))
set_option maxRecDepth 100000 in
def b_X9_product (rec : Nat → Int32 → Sto → Option Sto) (σ : Sto)  : Option Sto := (rec 6 (0 : Int32) σ).bind (fun r1 => f_X9_product_L4 rec   FU r1)
set_option maxRecDepth 100000 in
def f_X9_sum_L22 (rec : Nat → Int32 → Sto → Option Sto) (K4 : Sto → Option Sto)  (σ : Sto) : Option Sto := (f_X9_here σ).bind (fun r23 => lp (sI σ 81 6 ((σ.1 81 6) + (1 : Int32))) (fun σ34 => (rec 4 (0 : Int32) σ34).bind (fun r38 => (f_X9_lay r38 ((20000 : Int32) + r23)).bind (fun r47 => K4 r47))))
set_option maxRecDepth 100000 in
def f_X9_sum_L4 (rec : Nat → Int32 → Sto → Option Sto)   : Nat → Sto → Option Sto
  | 0, _ => none
  | n + 1, σ => (f_X9_here σ).bind (fun r5 => if r5 = (43 : Int32) then (f_X9_sum_L22 rec (f_X9_sum_L4 rec   n) σ) else (f_X9_here σ).bind (fun r14 => if r14 = (45 : Int32) then (f_X9_sum_L22 rec (f_X9_sum_L4 rec   n) σ) else some σ))
set_option maxRecDepth 100000 in
def b_X9_sum (rec : Nat → Int32 → Sto → Option Sto) (σ : Sto)  : Option Sto := (rec 4 (0 : Int32) σ).bind (fun r1 => f_X9_sum_L4 rec   FU r1)
set_option maxRecDepth 100000 in
def f_X9_unit_L110 (rec : Nat → Int32 → Sto → Option Sto)  (v3 : Int32) (v4 : Int32) (σ : Sto) : Option Sto := if v4 = 0 then ((f_X9_wrong σ).bind (fun r116 => (f_X9_lay r116 v3).bind (fun r121 => some r121))) else (f_X9_lay σ v3).bind (fun r121 => some r121)
set_option maxRecDepth 100000 in
def f_X9_unit_L58 (rec : Nat → Int32 → Sto → Option Sto)   : Nat → Int32 → Int32 → Sto → Option Sto
  | 0, _, _, _ => none
  | n + 1, v3, v4, σ => if (4 : Int32) ≤ v4 then (f_X9_unit_L110 rec  v3 v4 σ) else (f_X9_here σ).bind (fun r65 => (f_X9_in (Int32.toInt64 r65) (48 : Int64) (57 : Int64)).bind (fun r75 => if r75 = true then ((f_X9_here σ).bind (fun r86 => lp (sI σ 81 6 ((σ.1 81 6) + (1 : Int32))) (fun σ101 => (f_X9_unit_L58 rec   n) ((((10 : Int32) * v3) + r86) - (48 : Int32)) (v4 + (1 : Int32)) σ101))) else f_X9_unit_L110 rec  v3 v4 σ))
set_option maxRecDepth 100000 in
def b_X9_unit (rec : Nat → Int32 → Sto → Option Sto) (σ : Sto)  : Option Sto := (f_X9_here σ).bind (fun r1 => if r1 = (33 : Int32) then ((rec 3 r1 σ).bind (fun r19 => some r19)) else if r1 = (40 : Int32) then ((rec 3 r1 σ).bind (fun r19 => some r19)) else (f_X9_nameOf σ r1).bind (fun r25 => if r25 < 0 then (f_X9_unit_L58 rec   FU (0 : Int32) (0 : Int32) σ) else lp (sI σ 81 6 ((σ.1 81 6) + (1 : Int32))) (fun σ40 => (f_X9_lay σ40 ((10000 : Int32) + r25)).bind (fun r49 => some r49))))
set_option maxRecDepth 100000 in
def g_X9_both : Nat → Nat → Int32 → Sto → Option Sto
  | 0, _, _, _ => none
  | d + 1, 0, x0, σ => b_X9_both (g_X9_both d) σ 
  | d + 1, 1, x0, σ => b_X9_compared (g_X9_both d) σ 
  | d + 1, 2, x0, σ => b_X9_either (g_X9_both d) σ 
  | d + 1, 3, x0, σ => b_X9_opens (g_X9_both d) σ x0
  | d + 1, 4, x0, σ => b_X9_product (g_X9_both d) σ 
  | d + 1, 5, x0, σ => b_X9_sum (g_X9_both d) σ 
  | d + 1, 6, x0, σ => b_X9_unit (g_X9_both d) σ 
  | _ + 1, _, _, _ => none

set_option maxRecDepth 100000 in
def f_X9_reads_L41  (vs0 : Bool) (σ : Sto) : Option Sto := lp (sI σ 81 10 (b2i vs0)) (fun σ41 => (g_X9_both 64 2 (0 : Int32) σ41).bind (fun r45 => if 0 ≤ (r45.1 81 8) then (some r45) else if (r45.1 81 7) ≤ (r45.1 81 6) then (some r45) else (f_X9_wrong r45).bind (fun r67 => some r67)))
set_option maxRecDepth 100000 in
def f_X9_reads (σ : Sto) (a1 : Int32) (a2 : Int32) (a3 : Int32) : Option Sto := lp (sI σ 81 5 a1) (fun σ2 => lp (sI σ2 81 6 (0 : Int32)) (fun σ7 => lp (sI σ7 81 7 a2) (fun σ12 => lp (sI σ12 81 8 (-1 : Int32)) (fun σ17 => lp (sI σ17 81 9 (0 : Int32)) (fun σ22 => lp (sI σ22 81 13 (0 : Int32)) (fun σ27 => if a3 = (1 : Int32) then (f_X9_reads_L41  true σ27) else f_X9_reads_L41  false σ27))))))
set_option maxRecDepth 100000 in
def f_X9_done_L92    : Option Int32 := some (1 : Int32)
set_option maxRecDepth 100000 in
def f_X9_done (a0 : Int32) (a1 : Int32) (a2 : Int32) : Option Int32 := if a0 = (38 : Int32) then (if a1 = 0 then (some (0 : Int32)) else if a2 = 0 then (some (0 : Int32)) else some (1 : Int32)) else if a0 = (42 : Int32) then (some (a1 * a2)) else if a0 = (43 : Int32) then (some (a1 + a2)) else if a0 = (45 : Int32) then (some (a1 - a2)) else if a0 = (47 : Int32) then (if a2 = 0 then (some (0 : Int32)) else some (a1 / a2)) else if a0 = (60 : Int32) then (if a2 ≤ a1 then (some (0 : Int32)) else some (1 : Int32)) else if a0 = (61 : Int32) then (if a1 = a2 then (some (1 : Int32)) else some (0 : Int32)) else if a0 = (62 : Int32) then (if a1 ≤ a2 then (some (0 : Int32)) else some (1 : Int32)) else if a0 = (124 : Int32) then (if a1 = 0 then (if a2 = 0 then (some (0 : Int32)) else f_X9_done_L92) else f_X9_done_L92) else if a2 = 0 then (some (0 : Int32)) else some (irem a1 a2)
set_option maxRecDepth 100000 in
def f_X9_worked_L135 (K5 : Int32 → Int32 → Sto → Option (Int32 × Sto)) (v1 : Int32) (v2 : Int32) (v3 : Int32) (v4 : Int32) (σ : Sto) : Option (Int32 × Sto) := K5 v3 (v4 + (1 : Int32)) σ
set_option maxRecDepth 100000 in
def f_X9_worked_L59 (K5 : Int32 → Int32 → Sto → Option (Int32 × Sto)) (v1 : Int32) (v2 : Int32) (v3 : Int32) (v4 : Int32) (vs0 : Int32) (vs1 : Int32) (σ : Sto) : Option (Int32 × Sto) := (wrA σ 88 vs1 vs0).bind (fun σ59 => f_X9_worked_L135 K5 v1 v2 (v3 + (1 : Int32)) v4 σ59)
set_option maxRecDepth 100000 in
def f_X9_worked_L97 (K5 : Int32 → Int32 → Sto → Option (Int32 × Sto)) (v1 : Int32) (v2 : Int32) (v3 : Int32) (v4 : Int32) (vs0 : Bool) (vs1 : Int32) (σ : Sto) : Option (Int32 × Sto) := (wrA σ 88 vs1 (b2i vs0)).bind (fun σ97 => f_X9_worked_L135 K5 v1 v2 v3 v4 σ97)
set_option maxRecDepth 100000 in
def f_X9_worked_L5  (v1 : Int32) (v2 : Int32) : Nat → Int32 → Int32 → Sto → Option (Int32 × Sto)
  | 0, _, _, _ => none
  | n + 1, v3, v4, σ => if (v1 + v2) ≤ v4 then ((rdA σ 88 (0 : Int32)).bind (fun r146 => some (r146, σ))) else (rdA σ 82 v4).bind (fun r19 => if (20000 : Int32) ≤ r19 then (if r19 = (20033 : Int32) then ((rdA σ 88 (v3 - (1 : Int32))).bind (fun r88 => if r88 = 0 then (f_X9_worked_L97 (f_X9_worked_L5  v1 v2 n) v1 v2 v3 v4 true (v3 - (1 : Int32)) σ) else f_X9_worked_L97 (f_X9_worked_L5  v1 v2 n) v1 v2 v3 v4 false (v3 - (1 : Int32)) σ)) else (rdA σ 88 ((v3 + (-1 : Int32)) - (1 : Int32))).bind (fun r124 => (rdA σ 88 (v3 + (-1 : Int32))).bind (fun r130 => (f_X9_done (r19 - (20000 : Int32)) r124 r130).bind (fun r131 => (wrA σ 88 ((v3 + (-1 : Int32)) - (1 : Int32)) r131).bind (fun σ134 => f_X9_worked_L135 (f_X9_worked_L5  v1 v2 n) v1 v2 (v3 + (-1 : Int32)) v4 σ134))))) else if (10000 : Int32) ≤ r19 then ((rdA σ 86 (r19 - (10000 : Int32))).bind (fun r58 => f_X9_worked_L59 (f_X9_worked_L5  v1 v2 n) v1 v2 v3 v4 r58 v3 σ)) else f_X9_worked_L59 (f_X9_worked_L5  v1 v2 n) v1 v2 v3 v4 r19 v3 σ)
set_option maxRecDepth 100000 in
def f_X9_worked (σ : Sto) (a1 : Int32) (a2 : Int32) : Option (Int32 × Sto) := f_X9_worked_L5  a1 a2 FU (0 : Int32) a1 σ
set_option maxRecDepth 100000 in
def f_X9_feed_L41  (v1 : Int64) (v3 : Int32) : Nat → Int32 → Sto → Option (Int32 × Sto)
  | 0, _, _ => none
  | n + 1, v4, σ => if v3 ≤ v4 then ((rdA σ 82 (14 : Int32)).bind (fun r98 => some (r98, σ))) else (rdA σ 82 (14 : Int32)).bind (fun r60 => (wrA σ 82 ((210 : Int32) + r60) (Int64.toInt32 ((lshr v1 ((8 : Int32) * v4)) &&& (255 : Int64)))).bind (fun σ74 => (rdA σ74 82 (14 : Int32)).bind (fun r82 => (wrA σ74 82 (14 : Int32) (r82 + (1 : Int32))).bind (fun σ85 => (f_X9_feed_L41  v1 v3 n) (v4 + (1 : Int32)) σ85))))
set_option maxRecDepth 100000 in
def f_X9_feed (σ : Sto) (a1 : Int64) (a3 : Int32) : Option (Int32 × Sto) := (f_X9_in (Int32.toInt64 a3) (1 : Int64) (8 : Int64)).bind (fun r6 => if r6 = true then ((rdA σ 82 (14 : Int32)).bind (fun r24 => if (r24 + a3) ≤ (50 : Int32) then (f_X9_feed_L41  a1 a3 FU (0 : Int32) σ) else (f_X9_finds σ (4 : Int32)).bind (fun r34 => some (r34.1, r34.2)))) else (f_X9_finds σ (1 : Int32)).bind (fun r14 => some (r14.1, r14.2)))
set_option maxRecDepth 100000 in
def f_X9_text_L71  (v1 : Int32) : Nat → Int32 → Sto → Option (Int32 × Sto)
  | 0, _, _ => none
  | n + 1, v3, σ => if (σ.1 81 13) ≤ v3 then (some ((1 : Int32), σ)) else (rdA σ 87 v3).bind (fun r97 => (wrA σ 82 (((110 : Int32) + ((50 : Int32) * v1)) + v3) r97).bind (fun σ98 => (f_X9_text_L71  v1 n) (v3 + (1 : Int32)) σ98))
set_option maxRecDepth 100000 in
def f_X9_text (σ : Sto) (a1 : Int32) : Option (Int32 × Sto) := (f_X9_in (Int32.toInt64 a1) (0 : Int64) (1 : Int64)).bind (fun r4 => if r4 = true then ((rdA σ 82 (14 : Int32)).bind (fun r22 => (wrA σ 82 (14 : Int32) (0 : Int32)).bind (fun σ31 => (f_X9_reads σ31 (210 : Int32) r22 a1).bind (fun r38 => if (r38.1 81 8) < 0 then ((wrA r38 82 ((88 : Int32) + a1) (r38.1 81 13)).bind (fun σ68 => f_X9_text_L71  a1 FU (0 : Int32) σ68)) else some (((-10 : Int32) - (r38.1 81 8)), r38))))) else (f_X9_finds σ (1 : Int32)).bind (fun r12 => some (r12.1, r12.2)))
set_option maxRecDepth 100000 in
def f_X9_gives_L74  (v1 : Int32) (v5 : Int32) (σ : Sto) : Option (Int32 × Sto) := if v1 = 0 then ((f_X9_held v5 (-30 : Int32) (30 : Int32)).bind (fun r84 => some (r84, σ))) else (f_X9_held v5 (0 : Int32) (100 : Int32)).bind (fun r95 => some (r95, σ))
set_option maxRecDepth 100000 in
def f_X9_gives_L16  (v1 : Int32) (v2 : Int32) (v3 : Int32) (v4 : Int32) (vs0 : Int32) (σ : Sto) : Option (Int32 × Sto) := (rdA σ 82 ((88 : Int32) + v1)).bind (fun r26 => if r26 ≤ 0 then (f_X9_gives_L74  v1 vs0 σ) else (wrA σ 86 (0 : Int32) v2).bind (fun σ36 => (wrA σ36 86 (1 : Int32) v3).bind (fun σ43 => (wrA σ43 86 (2 : Int32) v4).bind (fun σ51 => (rdA σ51 82 ((88 : Int32) + v1)).bind (fun r68 => (f_X9_worked σ51 ((110 : Int32) + ((50 : Int32) * v1)) r68).bind (fun r69 => f_X9_gives_L74  v1 r69.1 r69.2))))))
set_option maxRecDepth 100000 in
def f_X9_gives (σ : Sto) (a1 : Int32) (a2 : Int32) (a3 : Int32) (a4 : Int32) : Option (Int32 × Sto) := if a1 = 0 then (f_X9_gives_L16  a1 a2 a3 a4 (a2 + ((2 : Int32) * a3)) σ) else f_X9_gives_L16  a1 a2 a3 a4 (a2 / (12 : Int32)) σ
set_option maxRecDepth 100000 in
def f_X9_law (σ : Sto) (a1 : Int32) (a2 : Int32) (a3 : Int32) (a4 : Int32) : Option (Int32 × Sto) := (f_X9_in (Int32.toInt64 a1) (0 : Int64) (1 : Int64)).bind (fun r4 => if r4 = true then ((f_X9_gives σ a1 a2 a3 a4).bind (fun r16 => some (r16.1, r16.2))) else (f_X9_finds σ (1 : Int32)).bind (fun r24 => some (r24.1, r24.2)))
set_option maxRecDepth 100000 in
def f_X9_current (σ : Sto) (a1 : Int32) (a2 : Int32) : Option (Int32 × Sto) := (f_X9_isLane a1).bind (fun r1 => if r1 = true then ((f_X9_in (Int32.toInt64 a2) (-9 : Int64) (9 : Int64)).bind (fun r15 => if r15 = true then ((rdA σ 82 ((0 : Int32) + a1)).bind (fun r34 => (wrA σ 82 ((0 : Int32) + a1) a2).bind (fun σ44 => some (r34, σ44)))) else (f_X9_finds σ (1 : Int32)).bind (fun r23 => some (r23.1, r23.2)))) else (f_X9_finds σ (1 : Int32)).bind (fun r23 => some (r23.1, r23.2)))
set_option maxRecDepth 100000 in
def f_X9_set_L57  (v1 : Int32) (v2 : Int32) (vs0 : Bool) (σ : Sto) : Option (Int32 × Sto) := if vs0 = true then ((rdA σ 82 ((6 : Int32) + v1)).bind (fun r76 => (wrA σ 82 ((6 : Int32) + v1) v2).bind (fun σ88 => some (r76, σ88)))) else (f_X9_finds σ (1 : Int32)).bind (fun r64 => some (r64.1, r64.2))
set_option maxRecDepth 100000 in
def f_X9_set_L56  (v1 : Int32) (v2 : Int32) (σ : Sto) : Option (Int32 × Sto) := f_X9_set_L57  v1 v2 false σ
set_option maxRecDepth 100000 in
def f_X9_set (σ : Sto) (a1 : Int32) (a2 : Int32) : Option (Int32 × Sto) := if a1 = 0 then ((f_X9_in (Int32.toInt64 a2) (-3 : Int64) (3 : Int64)).bind (fun r12 => f_X9_set_L57  a1 a2 r12 σ)) else if a1 = (1 : Int32) then ((f_X9_in (Int32.toInt64 a2) (0 : Int64) (200 : Int64)).bind (fun r29 => f_X9_set_L57  a1 a2 r29 σ)) else if a1 = (2 : Int32) then ((f_X9_in (Int32.toInt64 a2) (0 : Int64) (1200 : Int64)).bind (fun r46 => if r46 = true then (f_X9_set_L57  a1 a2 true σ) else f_X9_set_L56  a1 a2 σ)) else f_X9_set_L56  a1 a2 σ
set_option maxRecDepth 100000 in
def f_X9_flowOf (σ : Sto) (a1 : Int32) : Option (Int32 × Sto) := (rdA σ 82 ((0 : Int32) + a1)).bind (fun r9 => (rdA σ 82 (6 : Int32)).bind (fun r16 => (f_X9_gives σ (0 : Int32) r9 r16 a1).bind (fun r18 => some (r18.1, r18.2))))
set_option maxRecDepth 100000 in
def f_X9_flow (σ : Sto) (a1 : Int32) : Option (Int32 × Sto) := (f_X9_isLane a1).bind (fun r1 => if r1 = true then ((f_X9_flowOf σ a1).bind (fun r9 => some (r9.1, r9.2))) else (f_X9_finds σ (1 : Int32)).bind (fun r17 => some (r17.1, r17.2)))
set_option maxRecDepth 100000 in
def f_X9_swimmer_L99  (v3 : Int32) : Nat → Int32 → Sto → Option (Int32 × Sto)
  | 0, _, _ => none
  | n + 1, v4, σ => if (4 : Int32) ≤ v4 then ((rdA σ 82 (12 : Int32)).bind (fun r128 => (wrA σ 82 (12 : Int32) (r128 + (1 : Int32))).bind (fun σ131 => some (v3, σ131)))) else (f_X9_becomes σ v3 ((5 : Int32) + v4) (0 : Int32)).bind (fun r112 => (f_X9_swimmer_L99  v3 n) (v4 + (1 : Int32)) r112)
set_option maxRecDepth 100000 in
def f_X9_swimmer (σ : Sto) (a1 : Int32) (a2 : Int32) : Option (Int32 × Sto) := (f_X9_in (Int32.toInt64 a1) (0 : Int64) (69 : Int64)).bind (fun r6 => if r6 = true then ((f_X9_in (Int32.toInt64 a2) (0 : Int64) (1 : Int64)).bind (fun r16 => if r16 = true then ((rdA σ 82 (12 : Int32)).bind (fun r34 => if r34 = (8 : Int32) then ((f_X9_finds σ (4 : Int32)).bind (fun r42 => some (r42.1, r42.2))) else (rdA σ 82 (12 : Int32)).bind (fun r52 => (f_X9_becomes σ r52 (0 : Int32) (a1 / (10 : Int32))).bind (fun r61 => (f_X9_becomes r61 r52 (1 : Int32) (irem a1 (10 : Int32))).bind (fun r71 => (f_X9_becomes r71 r52 (2 : Int32) a2).bind (fun r78 => (f_X9_becomes r78 r52 (3 : Int32) (10 : Int32)).bind (fun r86 => (f_X9_becomes r86 r52 (4 : Int32) (0 : Int32)).bind (fun r93 => f_X9_swimmer_L99  r52 FU (0 : Int32) r93)))))))) else (f_X9_finds σ (1 : Int32)).bind (fun r24 => some (r24.1, r24.2)))) else (f_X9_finds σ (1 : Int32)).bind (fun r24 => some (r24.1, r24.2)))
set_option maxRecDepth 100000 in
def f_X9_ofSwimmer (σ : Sto) (a1 : Int32) (a2 : Int32) : Option (Int32 × Sto) := (f_X9_isSwimmer σ a1).bind (fun r2 => if r2 = true then ((f_X9_in (Int32.toInt64 a2) (0 : Int64) (8 : Int64)).bind (fun r14 => if r14 = true then ((f_X9_of σ a1 a2).bind (fun r23 => some (r23, σ))) else (f_X9_finds σ (1 : Int32)).bind (fun r31 => some (r31.1, r31.2)))) else (f_X9_finds σ (1 : Int32)).bind (fun r31 => some (r31.1, r31.2)))
set_option maxRecDepth 100000 in
def f_X9_train (σ : Sto) (a1 : Int32) (a2 : Int32) : Option (Int32 × Sto) := (f_X9_isSwimmer σ a1).bind (fun r2 => if r2 = true then ((f_X9_in (Int32.toInt64 a2) (0 : Int64) (30 : Int64)).bind (fun r14 => if r14 = true then ((f_X9_of σ a1 (3 : Int32)).bind (fun r29 => (f_X9_becomes σ a1 (3 : Int32) a2).bind (fun r37 => some (r29, r37)))) else (f_X9_finds σ (1 : Int32)).bind (fun r22 => some (r22.1, r22.2)))) else (f_X9_finds σ (1 : Int32)).bind (fun r22 => some (r22.1, r22.2)))
set_option maxRecDepth 100000 in
def f_X9_plan (σ : Sto) (a1 : Int32) (a2 : Int32) (a3 : Int32) : Option (Int32 × Sto) := (f_X9_isSwimmer σ a1).bind (fun r2 => if r2 = true then ((f_X9_in (Int32.toInt64 a2) (0 : Int64) (3 : Int64)).bind (fun r14 => if r14 = true then ((f_X9_isLane a3).bind (fun r21 => if r21 = true then ((f_X9_of σ a1 ((5 : Int32) + a2)).bind (fun r38 => (f_X9_becomes σ a1 ((5 : Int32) + a2) a3).bind (fun r49 => some (r38, r49)))) else (f_X9_finds σ (1 : Int32)).bind (fun r29 => some (r29.1, r29.2)))) else (f_X9_finds σ (1 : Int32)).bind (fun r29 => some (r29.1, r29.2)))) else (f_X9_finds σ (1 : Int32)).bind (fun r29 => some (r29.1, r29.2)))
set_option maxRecDepth 100000 in
def f_X9_become (σ : Sto) (a1 : Int32) (a2 : Int32) : Option (Int32 × Sto) := (f_X9_isSwimmer σ a1).bind (fun r2 => if r2 = true then ((f_X9_in (Int32.toInt64 a2) (0 : Int64) (69 : Int64)).bind (fun r14 => if r14 = true then ((f_X9_of σ a1 (0 : Int32)).bind (fun r29 => (f_X9_becomes σ a1 (0 : Int32) (a2 / (10 : Int32))).bind (fun r40 => (f_X9_becomes r40 a1 (1 : Int32) (irem a2 (10 : Int32))).bind (fun r50 => some (r29, r50))))) else (f_X9_finds σ (1 : Int32)).bind (fun r22 => some (r22.1, r22.2)))) else (f_X9_finds σ (1 : Int32)).bind (fun r22 => some (r22.1, r22.2)))
set_option maxRecDepth 100000 in
def f_X9_above (a0 : Int32) : Option Int32 := if (4 : Int32) ≤ a0 then (some (a0 - (3 : Int32))) else some (0 : Int32)
set_option maxRecDepth 100000 in
def f_X9_as_L50  (v1 : Int32) (σ : Sto) : Option (Int32 × Sto) := (f_X9_of σ v1 (1 : Int32)).bind (fun r53 => some (r53, σ))
set_option maxRecDepth 100000 in
def f_X9_as (σ : Sto) (a1 : Int32) (a2 : Int32) : Option (Int32 × Sto) := (f_X9_isSwimmer σ a1).bind (fun r2 => if r2 = true then ((f_X9_in (Int32.toInt64 a2) (0 : Int64) (6 : Int64)).bind (fun r14 => if r14 = true then ((f_X9_of σ a1 (0 : Int32)).bind (fun r29 => if a2 = 0 then (f_X9_as_L50  a1 σ) else if a2 = r29 then (f_X9_as_L50  a1 σ) else (f_X9_above r29).bind (fun r44 => if a2 = r44 then (f_X9_as_L50  a1 σ) else (f_X9_finds σ (5 : Int32)).bind (fun r61 => some (r61.1, r61.2))))) else (f_X9_finds σ (1 : Int32)).bind (fun r22 => some (r22.1, r22.2)))) else (f_X9_finds σ (1 : Int32)).bind (fun r22 => some (r22.1, r22.2)))
set_option maxRecDepth 100000 in
def f_X9_paceOf_L43 (σ : Sto)  (v1 : Int32) (v2 : Int32) (v3 : Int32) (v4 : Int32) (vs0 : Int32)  : Option Int32 := (f_X9_of σ v1 (0 : Int32)).bind (fun r48 => if r48 = (1 : Int32) then (some vs0) else if r48 = (2 : Int32) then (some (v4 + v3)) else if r48 = (3 : Int32) then (some (5 : Int32)) else if r48 = (4 : Int32) then (if (3 : Int32) < v2 then (some vs0) else some (0 : Int32)) else if r48 = (5 : Int32) then ((f_X9_of σ v1 (3 : Int32)).bind (fun r115 => some (((20 : Int32) + r115) + v3))) else if r48 = (6 : Int32) then (if (irem v2 (10 : Int32)) = v3 then (some (0 : Int32)) else some (5 : Int32)) else some v4)
set_option maxRecDepth 100000 in
def f_X9_paceOf (σ : Sto) (a1 : Int32) (a2 : Int32) : Option Int32 := (f_X9_of σ a1 (1 : Int32)).bind (fun r3 => (f_X9_of σ a1 (3 : Int32)).bind (fun r13 => (f_X9_greater (5 : Int32) (((20 : Int32) + r13) - (a2 / (4 : Int32)))).bind (fun r21 => if r3 ≤ a2 then (f_X9_paceOf_L43 σ  a1 a2 r3 r21 (r21 / (2 : Int32))) else f_X9_paceOf_L43 σ  a1 a2 r3 r21 (r21 + (20 : Int32)))))
set_option maxRecDepth 100000 in
def f_X9_pace (σ : Sto) (a1 : Int32) (a2 : Int32) : Option (Int32 × Sto) := (f_X9_isSwimmer σ a1).bind (fun r2 => if r2 = true then ((f_X9_in (Int32.toInt64 a2) (0 : Int64) (59 : Int64)).bind (fun r14 => if r14 = true then ((f_X9_paceOf σ a1 a2).bind (fun r23 => some (r23, σ))) else (f_X9_finds σ (1 : Int32)).bind (fun r31 => some (r31.1, r31.2)))) else (f_X9_finds σ (1 : Int32)).bind (fun r31 => some (r31.1, r31.2)))
set_option maxRecDepth 100000 in
def f_X9_laneOf (σ : Sto) (a1 : Int32) (a2 : Int32) : Option Int32 := (f_X9_lesser (3 : Int32) (a2 / (10 : Int32))).bind (fun r8 => (f_X9_of σ a1 ((5 : Int32) + r8)).bind (fun r12 => some r12))
set_option maxRecDepth 100000 in
def f_X9_goes_L26  (v1 : Int32) (v3 : Int32) (vs0 : Int32) (vs1 : Int32) (σ : Sto) : Option (Int32 × Sto) := (f_X9_laneOf σ v1 v3).bind (fun r31 => (f_X9_flowOf σ r31).bind (fun r34 => (f_X9_held ((vs1 + vs0) + r34.1) (0 : Int32) (1200 : Int32)).bind (fun r42 => some (r42, r34.2))))
set_option maxRecDepth 100000 in
def f_X9_goes (σ : Sto) (a1 : Int32) (a2 : Int32) (a3 : Int32) : Option (Int32 × Sto) := (f_X9_paceOf σ a1 a3).bind (fun r3 => (f_X9_of σ a1 (2 : Int32)).bind (fun r12 => if r12 = 0 then (f_X9_goes_L26  a1 a3 r3 a2 σ) else f_X9_goes_L26  a1 a3 (-r3) a2 σ))
set_option maxRecDepth 100000 in
def f_X9_where_L46  (v1 : Int32) (v2 : Int32) : Nat → Int32 → Int32 → Sto → Option (Int32 × Sto)
  | 0, _, _, _ => none
  | n + 1, v3, v4, σ => if v2 ≤ v4 then (some (v3, σ)) else (f_X9_goes σ v1 v3 v4).bind (fun r57 => (f_X9_where_L46  v1 v2 n) r57.1 (v4 + (1 : Int32)) r57.2)
set_option maxRecDepth 100000 in
def f_X9_where_L42  (v1 : Int32) (v2 : Int32) (vs0 : Int32) (σ : Sto) : Option (Int32 × Sto) := f_X9_where_L46  v1 v2 FU vs0 (0 : Int32) σ
set_option maxRecDepth 100000 in
def f_X9_where (σ : Sto) (a1 : Int32) (a2 : Int32) : Option (Int32 × Sto) := (f_X9_isSwimmer σ a1).bind (fun r2 => if r2 = true then ((f_X9_in (Int32.toInt64 a2) (0 : Int64) (60 : Int64)).bind (fun r14 => if r14 = true then ((f_X9_of σ a1 (2 : Int32)).bind (fun r29 => if r29 = 0 then (f_X9_where_L42  a1 a2 (0 : Int32) σ) else f_X9_where_L42  a1 a2 (1200 : Int32) σ)) else (f_X9_finds σ (1 : Int32)).bind (fun r22 => some (r22.1, r22.2)))) else (f_X9_finds σ (1 : Int32)).bind (fun r22 => some (r22.1, r22.2)))
set_option maxRecDepth 100000 in
def f_X9_swim_L120 (K38 : Int32 → Int32 → Int32 → Sto → Option (Bool × Sto)) (v3 : Int32) (v4 : Int32) (v5 : Int32) (v6 : Int32) (v7 : Int32) (σ : Sto) : Option (Bool × Sto) := K38 v5 v6 (v7 + (1 : Int32)) σ
set_option maxRecDepth 100000 in
def f_X9_swim_L38  (v3 : Int32) (v4 : Int32) : Nat → Int32 → Int32 → Int32 → Sto → Option (Bool × Sto)
  | 0, _, _, _, _ => none
  | n + 1, v5, v6, v7, σ => if (60 : Int32) ≤ v7 then (some (false, σ)) else (f_X9_goes σ v3 v5 v7).bind (fun r51 => (f_X9_goes r51.2 v4 v6 v7).bind (fun r63 => (f_X9_laneOf r63.2 v3 v7).bind (fun r72 => (f_X9_laneOf r63.2 v4 v7).bind (fun r80 => if r72 = r80 then ((rdA r63.2 82 (7 : Int32)).bind (fun r97 => if r97 < (r63.1 - r51.1) then (f_X9_swim_L120 (f_X9_swim_L38  v3 v4 n) v3 v4 r51.1 r63.1 v7 r63.2) else lp (sI r63.2 81 15 v7) (fun σ104 => lp (sI σ104 81 16 ((r51.1 + r63.1) / (2 : Int32))) (fun σ115 => some (true, σ115))))) else f_X9_swim_L120 (f_X9_swim_L38  v3 v4 n) v3 v4 r51.1 r63.1 v7 r63.2))))
set_option maxRecDepth 100000 in
def f_X9_swim_L14  (v1 : Int32) (v2 : Int32) (vs0 : Int32) (σ : Sto) : Option (Bool × Sto) := lp (sI σ 81 15 (-1 : Int32)) (fun σ32 => f_X9_swim_L38  vs0 ((v1 + v2) - vs0) FU (0 : Int32) (1200 : Int32) (0 : Int32) σ32)
set_option maxRecDepth 100000 in
def f_X9_swim (σ : Sto) (a1 : Int32) (a2 : Int32) : Option (Bool × Sto) := (f_X9_of σ a1 (2 : Int32)).bind (fun r3 => if r3 = 0 then (f_X9_swim_L14  a1 a2 a1 σ) else f_X9_swim_L14  a1 a2 a2 σ)
set_option maxRecDepth 100000 in
def f_X9_areUnlike (σ : Sto) (a1 : Int32) (a2 : Int32) : Option Bool := (f_X9_isSwimmer σ a1).bind (fun r2 => if r2 = true then ((f_X9_isSwimmer σ a2).bind (fun r10 => if r10 = true then ((f_X9_of σ a1 (2 : Int32)).bind (fun r19 => (f_X9_of σ a2 (2 : Int32)).bind (fun r25 => if r19 = r25 then (some false) else some true))) else some false)) else some false)
set_option maxRecDepth 100000 in
def f_X9_meet (σ : Sto) (a1 : Int32) (a2 : Int32) (a3 : Int32) : Option (Int32 × Sto) := (f_X9_areUnlike σ a1 a2).bind (fun r3 => if r3 = true then ((f_X9_in (Int32.toInt64 a3) (0 : Int64) (2 : Int64)).bind (fun r15 => if r15 = true then ((f_X9_swim σ a1 a2).bind (fun r30 => if r30.1 = true then (if a3 = 0 then (some ((r30.2.1 81 15), r30.2)) else if a3 = (1 : Int32) then (some ((r30.2.1 81 16), r30.2)) else (f_X9_laneOf r30.2 a1 (r30.2.1 81 15)).bind (fun r71 => some (r71, r30.2))) else (f_X9_finds r30.2 (2 : Int32)).bind (fun r38 => some (r38.1, r38.2)))) else (f_X9_finds σ (1 : Int32)).bind (fun r23 => some (r23.1, r23.2)))) else (f_X9_finds σ (1 : Int32)).bind (fun r23 => some (r23.1, r23.2)))
set_option maxRecDepth 100000 in
def f_X9_goesBy_L60   (σ : Sto) : Option Sto := (rdA σ 82 (8 : Int32)).bind (fun r68 => (rdA σ 82 (11 : Int32)).bind (fun r75 => (rdA σ 82 (6 : Int32)).bind (fun r82 => (f_X9_gives σ (1 : Int32) r68 r75 r82).bind (fun r83 => (rdA r83.2 82 (9 : Int32)).bind (fun r101 => (f_X9_lesser (999999 : Int32) (r101 + r83.1)).bind (fun r104 => (wrA r83.2 82 (9 : Int32) r104).bind (fun σ107 => (rdA σ107 82 (10 : Int32)).bind (fun r122 => (f_X9_lesser (999999 : Int32) ((r122 + (100 : Int32)) - r83.1)).bind (fun r128 => (wrA σ107 82 (10 : Int32) r128).bind (fun σ131 => (rdA σ131 82 (11 : Int32)).bind (fun r139 => (wrA σ131 82 (11 : Int32) (r139 + (1 : Int32))).bind (fun σ142 => some σ142))))))))))))
set_option maxRecDepth 100000 in
def f_X9_goesBy (σ : Sto) (a1 : Int32) (a2 : Int32) : Option Sto := (f_X9_swim σ a1 a2).bind (fun r3 => if r3.1 = true then ((wrA r3.2 82 (8 : Int32) (r3.2.1 81 16)).bind (fun σ19 => (f_X9_of σ19 a1 (4 : Int32)).bind (fun r29 => (f_X9_lesser (9999 : Int32) (r29 + (1 : Int32))).bind (fun r34 => (f_X9_becomes σ19 a1 (4 : Int32) r34).bind (fun r37 => (f_X9_of r37 a2 (4 : Int32)).bind (fun r49 => (f_X9_lesser (9999 : Int32) (r49 + (1 : Int32))).bind (fun r54 => (f_X9_becomes r37 a2 (4 : Int32) r54).bind (fun r57 => f_X9_goesBy_L60  r57)))))))) else f_X9_goesBy_L60  r3.2)
set_option maxRecDepth 100000 in
def f_X9_drawn (σ : Sto)  : Option (Int32 × Sto) := (rdA σ 82 (13 : Int32)).bind (fun r12 => (wrA σ 82 (13 : Int32) ((r12 * (1103515245 : Int32)) + (12345 : Int32))).bind (fun σ20 => (rdA σ20 82 (13 : Int32)).bind (fun r27 => some ((iushr r27 (8 : Int32)), σ20))))
set_option maxRecDepth 100000 in
def f_X9_aYear_L63  (v1 : Int32) (v2 : Int32) (vs0 : Int32) (vs1 : Int32) (σ : Sto) : Option (Int32 × Sto) := (wrA σ 82 vs1 vs0).bind (fun σ63 => (f_X9_goesBy σ63 v1 v2).bind (fun r67 => (rdA r67 82 (8 : Int32)).bind (fun r76 => some (r76, r67))))
set_option maxRecDepth 100000 in
def f_X9_aYear (σ : Sto) (a1 : Int32) (a2 : Int32) (a3 : Bool) : Option (Int32 × Sto) := (f_X9_areUnlike σ a1 a2).bind (fun r3 => if r3 = true then ((rdA σ 82 (11 : Int32)).bind (fun r21 => if r21 = (9999 : Int32) then ((f_X9_finds σ (3 : Int32)).bind (fun r30 => some (r30.1, r30.2))) else if a3 = true then ((f_X9_drawn σ).bind (fun r45 => f_X9_aYear_L63  a1 a2 ((irem r45.1 (7 : Int32)) - (3 : Int32)) (6 : Int32) r45.2)) else (rdA σ 82 (6 : Int32)).bind (fun r62 => f_X9_aYear_L63  a1 a2 r62 (6 : Int32) σ))) else (f_X9_finds σ (1 : Int32)).bind (fun r11 => some (r11.1, r11.2)))
set_option maxRecDepth 100000 in
def f_X9_year (σ : Sto) (a1 : Int32) (a2 : Int32) : Option (Int32 × Sto) := (f_X9_aYear σ a1 a2 false).bind (fun r4 => some (r4.1, r4.2))
set_option maxRecDepth 100000 in
def f_X9_loose (σ : Sto) (a1 : Int32) (a2 : Int32) : Option (Int32 × Sto) := (f_X9_aYear σ a1 a2 true).bind (fun r4 => some (r4.1, r4.2))
set_option maxRecDepth 100000 in
def f_X9_isBetter (a0 : Int32) (a1 : Int32) (a2 : Int32) : Option Bool := if a0 = 0 then (if a1 ≤ a2 then (some false) else some true) else if a2 ≤ a1 then (some false) else some true
set_option maxRecDepth 100000 in
def f_X9_plans (σ : Sto) (a1 : Int32) (a2 : Int32) (a3 : Int32) (a4 : Int32) (a5 : Int32) : Option Sto := (f_X9_becomes σ a1 (5 : Int32) a2).bind (fun r4 => (f_X9_becomes r4 a1 (6 : Int32) a3).bind (fun r12 => (f_X9_becomes r12 a1 (7 : Int32) a4).bind (fun r21 => (f_X9_becomes r21 a1 (8 : Int32) a5).bind (fun r30 => some r30))))
set_option maxRecDepth 100000 in
def f_X9_laneIn_L4  (v1 : Int32) : Nat → Int32 → Int32 → Option Int32
  | 0, _, _ => none
  | n + 1, v2, v3 => if v3 ≤ v1 then (some (irem v2 (6 : Int32))) else (f_X9_laneIn_L4  v1 n) (v2 / (6 : Int32)) (v3 + (-1 : Int32))
set_option maxRecDepth 100000 in
def f_X9_laneIn (a0 : Int32) (a1 : Int32) : Option Int32 := f_X9_laneIn_L4  a1 FU a0 (3 : Int32)
set_option maxRecDepth 100000 in
def f_X9_bestPlan_L128 (K49 : Int32 → Int32 → Int32 → Sto → Option (Int32 × Sto)) (v1 : Int32) (v2 : Int32) (v3 : Int32) (v4 : Int32) (v5 : Int32) (v6 : Int32) (σ : Sto) : Option (Int32 × Sto) := K49 v4 v5 (v6 + (1 : Int32)) σ
set_option maxRecDepth 100000 in
def f_X9_bestPlan_L118 (K49 : Int32 → Int32 → Int32 → Sto → Option (Int32 × Sto)) (v1 : Int32) (v2 : Int32) (v3 : Int32) (v6 : Int32) (σ : Sto) : Option (Int32 × Sto) := f_X9_bestPlan_L128 K49 v1 v2 v3 v6 (σ.1 81 16) v6 σ
set_option maxRecDepth 100000 in
def f_X9_bestPlan_L49  (v1 : Int32) (v2 : Int32) (v3 : Int32) : Nat → Int32 → Int32 → Int32 → Sto → Option (Int32 × Sto)
  | 0, _, _, _, _ => none
  | n + 1, v4, v5, v6, σ => if (1296 : Int32) ≤ v6 then ((f_X9_copies σ 83 82).bind (fun r142 => if 0 ≤ v4 then (if 0 ≤ v3 then ((f_X9_laneIn v4 v3).bind (fun r170 => some (r170, r142))) else some (v5, r142)) else (f_X9_finds r142 (2 : Int32)).bind (fun r152 => some (r152.1, r152.2)))) else (f_X9_laneIn v6 (0 : Int32)).bind (fun r62 => (f_X9_laneIn v6 (1 : Int32)).bind (fun r68 => (f_X9_laneIn v6 (2 : Int32)).bind (fun r74 => (f_X9_laneIn v6 (3 : Int32)).bind (fun r80 => (f_X9_plans σ v1 r62 r68 r74 r80).bind (fun r83 => (f_X9_swim r83 v1 v2).bind (fun r89 => if r89.1 = true then (if v4 < 0 then (f_X9_bestPlan_L118 (f_X9_bestPlan_L49  v1 v2 v3 n) v1 v2 v3 v6 r89.2) else (f_X9_of r89.2 v1 (2 : Int32)).bind (fun r103 => (f_X9_isBetter r103 (r89.2.1 81 16) v5).bind (fun r112 => if r112 = true then (f_X9_bestPlan_L118 (f_X9_bestPlan_L49  v1 v2 v3 n) v1 v2 v3 v6 r89.2) else f_X9_bestPlan_L128 (f_X9_bestPlan_L49  v1 v2 v3 n) v1 v2 v3 v4 v5 v6 r89.2))) else f_X9_bestPlan_L128 (f_X9_bestPlan_L49  v1 v2 v3 n) v1 v2 v3 v4 v5 v6 r89.2))))))
set_option maxRecDepth 100000 in
def f_X9_bestPlan (σ : Sto) (a1 : Int32) (a2 : Int32) (a3 : Int32) : Option (Int32 × Sto) := (f_X9_areUnlike σ a1 a2).bind (fun r3 => if r3 = true then ((f_X9_in (Int32.toInt64 a3) (-1 : Int64) (3 : Int64)).bind (fun r17 => if r17 = true then ((f_X9_copies σ 82 83).bind (fun r37 => f_X9_bestPlan_L49  a1 a2 a3 FU (-1 : Int32) (0 : Int32) (0 : Int32) r37)) else (f_X9_finds σ (1 : Int32)).bind (fun r25 => some (r25.1, r25.2)))) else (f_X9_finds σ (1 : Int32)).bind (fun r25 => some (r25.1, r25.2)))
set_option maxRecDepth 100000 in
def f_X9_endOf (σ : Sto) (a1 : Int32) (a2 : Int32) (a3 : Int32) (a4 : Int32) : Option (Int32 × Sto) := (f_X9_plans σ a1 a3 a3 a3 a3).bind (fun r6 => (f_X9_plans r6 a2 a4 a4 a4 a4).bind (fun r19 => (f_X9_swim r19 a1 a2).bind (fun r25 => if r25.1 = true then (some ((r25.2.1 81 16), r25.2)) else (rdA r25.2 82 (8 : Int32)).bind (fun r44 => some (r44, r25.2)))))
set_option maxRecDepth 100000 in
def f_X9_hold_L112 (K53 : Int32 → Int32 → Int32 → Sto → Option (Int32 × Sto)) (K74 : Int32 → Int32 → Sto → Option (Int32 × Sto)) (v1 : Int32) (v2 : Int32) (v3 : Int32) (v4 : Int32) (v5 : Int32) (v6 : Int32) (v7 : Int32) (v9 : Int32) (vs0 : Int32) (σ : Sto) : Option (Int32 × Sto) := K74 vs0 (v9 + (1 : Int32)) σ
set_option maxRecDepth 100000 in
def f_X9_hold_L145 (K53 : Int32 → Int32 → Int32 → Sto → Option (Int32 × Sto)) (v1 : Int32) (v2 : Int32) (v3 : Int32) (v4 : Int32) (v5 : Int32) (v6 : Int32) (v7 : Int32) (σ : Sto) : Option (Int32 × Sto) := K53 v5 v6 (v7 + (1 : Int32)) σ
set_option maxRecDepth 100000 in
def f_X9_hold_L137 (K53 : Int32 → Int32 → Int32 → Sto → Option (Int32 × Sto)) (v1 : Int32) (v2 : Int32) (v3 : Int32) (v4 : Int32) (v7 : Int32) (v8 : Int32) (σ : Sto) : Option (Int32 × Sto) := f_X9_hold_L145 K53 v1 v2 v3 v4 v7 v8 v7 σ
set_option maxRecDepth 100000 in
def f_X9_hold_L74 (K53 : Int32 → Int32 → Int32 → Sto → Option (Int32 × Sto)) (v1 : Int32) (v2 : Int32) (v3 : Int32) (v4 : Int32) (v5 : Int32) (v6 : Int32) (v7 : Int32) : Nat → Int32 → Int32 → Sto → Option (Int32 × Sto)
  | 0, _, _, _ => none
  | n + 1, v8, v9, σ => if (6 : Int32) ≤ v9 then (if v5 < 0 then (f_X9_hold_L137 K53 v1 v2 v3 v4 v7 v8 σ) else (f_X9_isBetter v4 v8 v6).bind (fun r131 => if r131 = true then (f_X9_hold_L137 K53 v1 v2 v3 v4 v7 v8 σ) else f_X9_hold_L145 K53 v1 v2 v3 v4 v5 v6 v7 σ)) else (f_X9_endOf σ v1 v2 v7 v9).bind (fun r88 => (f_X9_isBetter v4 v8 r88.1).bind (fun r99 => if r99 = true then (f_X9_hold_L112 K53 (f_X9_hold_L74 K53 v1 v2 v3 v4 v5 v6 v7 n) v1 v2 v3 v4 v5 v6 v7 v9 r88.1 r88.2) else f_X9_hold_L112 K53 (f_X9_hold_L74 K53 v1 v2 v3 v4 v5 v6 v7 n) v1 v2 v3 v4 v5 v6 v7 v9 v8 r88.2))
set_option maxRecDepth 100000 in
def f_X9_hold_L53  (v1 : Int32) (v2 : Int32) (v3 : Int32) (v4 : Int32) : Nat → Int32 → Int32 → Int32 → Sto → Option (Int32 × Sto)
  | 0, _, _, _, _ => none
  | n + 1, v5, v6, v7, σ => if (6 : Int32) ≤ v7 then ((f_X9_copies σ 83 82).bind (fun r159 => if v3 = 0 then (some (v5, r159)) else some (v6, r159))) else (f_X9_endOf σ v1 v2 v7 (0 : Int32)).bind (fun r66 => f_X9_hold_L74 (f_X9_hold_L53  v1 v2 v3 v4 n) v1 v2 v3 v4 v5 v6 v7 FU r66.1 (1 : Int32) r66.2)
set_option maxRecDepth 100000 in
def f_X9_hold (σ : Sto) (a1 : Int32) (a2 : Int32) (a3 : Int32) : Option (Int32 × Sto) := (f_X9_areUnlike σ a1 a2).bind (fun r3 => if r3 = true then ((f_X9_in (Int32.toInt64 a3) (0 : Int64) (1 : Int64)).bind (fun r13 => if r13 = true then ((f_X9_copies σ 82 83).bind (fun r33 => (f_X9_of r33 a1 (2 : Int32)).bind (fun r39 => f_X9_hold_L53  a1 a2 a3 r39 FU (-1 : Int32) (0 : Int32) (0 : Int32) r33))) else (f_X9_finds σ (1 : Int32)).bind (fun r21 => some (r21.1, r21.2)))) else (f_X9_finds σ (1 : Int32)).bind (fun r21 => some (r21.1, r21.2)))
set_option maxRecDepth 100000 in
def f_X9_ask_L93 (K34 : Int32 → Int32 → Int32 → Sto → Option (Int32 × Sto)) (v1 : Int32) (v2 : Int32) (v3 : Int32) (v4 : Int32) (v5 : Int32) (v6 : Int32) (σ : Sto) : Option (Int32 × Sto) := K34 v4 v5 (v6 + (1 : Int32)) σ
set_option maxRecDepth 100000 in
def f_X9_ask_L83 (K34 : Int32 → Int32 → Int32 → Sto → Option (Int32 × Sto)) (v1 : Int32) (v2 : Int32) (v3 : Int32) (v6 : Int32) (σ : Sto) : Option (Int32 × Sto) := f_X9_ask_L93 K34 v1 v2 v3 v6 (σ.1 81 16) v6 σ
set_option maxRecDepth 100000 in
def f_X9_ask_L34  (v1 : Int32) (v2 : Int32) (v3 : Int32) : Nat → Int32 → Int32 → Int32 → Sto → Option (Int32 × Sto)
  | 0, _, _, _, _ => none
  | n + 1, v4, v5, v6, σ => if (3 : Int32) < v6 then ((wrA σ 82 (6 : Int32) v3).bind (fun σ106 => if v4 = (9 : Int32) then ((f_X9_finds σ106 (2 : Int32)).bind (fun r116 => some (r116.1, r116.2))) else some (v4, σ106))) else (wrA σ 82 (6 : Int32) v6).bind (fun σ48 => (f_X9_swim σ48 v1 v2).bind (fun r52 => if r52.1 = true then (if v4 = (9 : Int32) then (f_X9_ask_L83 (f_X9_ask_L34  v1 v2 v3 n) v1 v2 v3 v6 r52.2) else (f_X9_of r52.2 v1 (2 : Int32)).bind (fun r68 => (f_X9_isBetter r68 (r52.2.1 81 16) v5).bind (fun r77 => if r77 = true then (f_X9_ask_L83 (f_X9_ask_L34  v1 v2 v3 n) v1 v2 v3 v6 r52.2) else f_X9_ask_L93 (f_X9_ask_L34  v1 v2 v3 n) v1 v2 v3 v4 v5 v6 r52.2))) else f_X9_ask_L93 (f_X9_ask_L34  v1 v2 v3 n) v1 v2 v3 v4 v5 v6 r52.2))
set_option maxRecDepth 100000 in
def f_X9_ask (σ : Sto) (a1 : Int32) (a2 : Int32) : Option (Int32 × Sto) := (f_X9_areUnlike σ a1 a2).bind (fun r3 => if r3 = true then ((rdA σ 82 (6 : Int32)).bind (fun r21 => f_X9_ask_L34  a1 a2 r21 FU (9 : Int32) (0 : Int32) (-3 : Int32) σ)) else (f_X9_finds σ (1 : Int32)).bind (fun r11 => some (r11.1, r11.2)))
set_option maxRecDepth 100000 in
def f_X9_leastSight_L66  (v3 : Int32) (v4 : Int32) (σ : Sto) : Option (Int32 × Sto) := (wrA σ 82 (7 : Int32) v3).bind (fun σ73 => if v4 ≤ (200 : Int32) then (some (v4, σ73)) else (f_X9_finds σ73 (2 : Int32)).bind (fun r84 => some (r84.1, r84.2)))
set_option maxRecDepth 100000 in
def f_X9_leastSight_L34  (v1 : Int32) (v2 : Int32) (v3 : Int32) : Nat → Int32 → Sto → Option (Int32 × Sto)
  | 0, _, _ => none
  | n + 1, v4, σ => if (201 : Int32) ≤ v4 then (f_X9_leastSight_L66  v3 v4 σ) else (f_X9_swim σ v1 v2).bind (fun r45 => if r45.1 = true then (f_X9_leastSight_L66  v3 v4 r45.2) else (wrA r45.2 82 (7 : Int32) (v4 + (1 : Int32))).bind (fun σ62 => (f_X9_leastSight_L34  v1 v2 v3 n) (v4 + (1 : Int32)) σ62))
set_option maxRecDepth 100000 in
def f_X9_leastSight (σ : Sto) (a1 : Int32) (a2 : Int32) : Option (Int32 × Sto) := (f_X9_areUnlike σ a1 a2).bind (fun r3 => if r3 = true then ((rdA σ 82 (7 : Int32)).bind (fun r21 => (wrA σ 82 (7 : Int32) (0 : Int32)).bind (fun σ33 => f_X9_leastSight_L34  a1 a2 r21 FU (0 : Int32) σ33))) else (f_X9_finds σ (1 : Int32)).bind (fun r11 => some (r11.1, r11.2)))
set_option maxRecDepth 100000 in
def f_X9_send_L89 (K21 : Int32 → Int32 → Int32 → Sto → Option (Int32 × Sto)) (v1 : Int32) (v2 : Int32) (v3 : Int32) (v4 : Int32) (σ : Sto) : Option (Int32 × Sto) := K21 v2 v3 (v4 + (1 : Int32)) σ
set_option maxRecDepth 100000 in
def f_X9_send_L81 (K21 : Int32 → Int32 → Int32 → Sto → Option (Int32 × Sto)) (v1 : Int32) (v4 : Int32) (σ : Sto) : Option (Int32 × Sto) := f_X9_send_L89 K21 v1 v4 (σ.1 81 16) v4 σ
set_option maxRecDepth 100000 in
def f_X9_send_L21  (v1 : Int32) : Nat → Int32 → Int32 → Int32 → Sto → Option (Int32 × Sto)
  | 0, _, _, _, _ => none
  | n + 1, v2, v3, v4, σ => (rdA σ 82 (12 : Int32)).bind (fun r29 => if r29 ≤ v4 then (if 0 ≤ v2 then (some (v2, σ)) else (f_X9_finds σ (2 : Int32)).bind (fun r101 => some (r101.1, r101.2))) else (f_X9_of σ v4 (2 : Int32)).bind (fun r37 => (f_X9_of σ v1 (2 : Int32)).bind (fun r43 => if r37 = r43 then (f_X9_send_L89 (f_X9_send_L21  v1 n) v1 v2 v3 v4 σ) else (f_X9_swim σ v4 v1).bind (fun r53 => if r53.1 = true then (if v2 < 0 then (f_X9_send_L81 (f_X9_send_L21  v1 n) v1 v4 r53.2) else (f_X9_of r53.2 v4 (2 : Int32)).bind (fun r67 => (f_X9_isBetter r67 (r53.2.1 81 16) v3).bind (fun r75 => if r75 = true then (f_X9_send_L81 (f_X9_send_L21  v1 n) v1 v4 r53.2) else f_X9_send_L89 (f_X9_send_L21  v1 n) v1 v2 v3 v4 r53.2))) else f_X9_send_L89 (f_X9_send_L21  v1 n) v1 v2 v3 v4 r53.2))))
set_option maxRecDepth 100000 in
def f_X9_send (σ : Sto) (a1 : Int32) : Option (Int32 × Sto) := (f_X9_isSwimmer σ a1).bind (fun r2 => if r2 = true then (f_X9_send_L21  a1 FU (-1 : Int32) (0 : Int32) (0 : Int32) σ) else (f_X9_finds σ (1 : Int32)).bind (fun r10 => some (r10.1, r10.2)))
set_option maxRecDepth 100000 in
def f_X9_diary_L183 (K71 : Int32 → Int32 → Int32 → Sto → Option (Int32 × Sto)) (v1 : Int32) (v2 : Int32) (v3 : Int32) (v4 : Int32) (v5 : Int32) (v6 : Int32) (v7 : Int32) (v8 : Int32) (σ : Sto) : Option (Int32 × Sto) := K71 v6 v7 (v8 + (1 : Int32)) σ
set_option maxRecDepth 100000 in
def f_X9_diary_L181 (K71 : Int32 → Int32 → Int32 → Sto → Option (Int32 × Sto)) (v1 : Int32) (v2 : Int32) (v3 : Int32) (v4 : Int32) (v5 : Int32) (v6 : Int32) (v8 : Int32) (vs0 : Int32) (σ : Sto) : Option (Int32 × Sto) := f_X9_diary_L183 K71 v1 v2 v3 v4 v5 v6 vs0 v8 σ
set_option maxRecDepth 100000 in
def f_X9_diary_L71  (v1 : Int32) (v2 : Int32) (v3 : Int32) (v4 : Int32) (v5 : Int32) : Nat → Int32 → Int32 → Int32 → Sto → Option (Int32 × Sto)
  | 0, _, _, _, _ => none
  | n + 1, v6, v7, v8, σ => if (36 : Int32) ≤ v8 then ((f_X9_copies σ 83 82).bind (fun r197 => if v5 = 0 then (some (v6, r197)) else if 0 ≤ v7 then (some (v7, r197)) else (f_X9_finds r197 (2 : Int32)).bind (fun r217 => some (r217.1, r217.2)))) else (f_X9_plans σ v1 (v8 / (6 : Int32)) (v8 / (6 : Int32)) (v8 / (6 : Int32)) (v8 / (6 : Int32))).bind (fun r100 => (f_X9_plans r100 v2 (irem v8 (6 : Int32)) (irem v8 (6 : Int32)) (irem v8 (6 : Int32)) (irem v8 (6 : Int32))).bind (fun r125 => (f_X9_swim r125 v1 v2).bind (fun r131 => if r131.1 = true then (if (r131.2.1 81 15) = v3 then (if (r131.2.1 81 16) = v4 then (if 0 ≤ v7 then (f_X9_diary_L181 (f_X9_diary_L71  v1 v2 v3 v4 v5 n) v1 v2 v3 v4 v5 (v6 + (1 : Int32)) v8 v7 r131.2) else f_X9_diary_L181 (f_X9_diary_L71  v1 v2 v3 v4 v5 n) v1 v2 v3 v4 v5 (v6 + (1 : Int32)) v8 (((10 : Int32) * (v8 / (6 : Int32))) + (irem v8 (6 : Int32))) r131.2) else f_X9_diary_L183 (f_X9_diary_L71  v1 v2 v3 v4 v5 n) v1 v2 v3 v4 v5 v6 v7 v8 r131.2) else f_X9_diary_L183 (f_X9_diary_L71  v1 v2 v3 v4 v5 n) v1 v2 v3 v4 v5 v6 v7 v8 r131.2) else f_X9_diary_L183 (f_X9_diary_L71  v1 v2 v3 v4 v5 n) v1 v2 v3 v4 v5 v6 v7 v8 r131.2)))
set_option maxRecDepth 100000 in
def f_X9_diary (σ : Sto) (a1 : Int32) (a2 : Int32) (a3 : Int32) (a4 : Int32) (a5 : Int32) : Option (Int32 × Sto) := (f_X9_areUnlike σ a1 a2).bind (fun r3 => if r3 = true then ((f_X9_in (Int32.toInt64 a3) (0 : Int64) (59 : Int64)).bind (fun r15 => if r15 = true then ((f_X9_in (Int32.toInt64 a4) (0 : Int64) (1200 : Int64)).bind (fun r28 => if r28 = true then ((f_X9_in (Int32.toInt64 a5) (0 : Int64) (1 : Int64)).bind (fun r39 => if r39 = true then ((f_X9_copies σ 82 83).bind (fun r59 => f_X9_diary_L71  a1 a2 a3 a4 a5 FU (0 : Int32) (-1 : Int32) (0 : Int32) r59)) else (f_X9_finds σ (1 : Int32)).bind (fun r47 => some (r47.1, r47.2)))) else (f_X9_finds σ (1 : Int32)).bind (fun r47 => some (r47.1, r47.2)))) else (f_X9_finds σ (1 : Int32)).bind (fun r47 => some (r47.1, r47.2)))) else (f_X9_finds σ (1 : Int32)).bind (fun r47 => some (r47.1, r47.2)))
set_option maxRecDepth 100000 in
def f_X9_training_L92 (K50 : Int32 → Int32 → Sto → Option (Int32 × Sto)) (v1 : Int32) (v2 : Int32) (v3 : Int32) (v4 : Int32) (v5 : Int32) (v7 : Int32) (vs0 : Int32) (σ : Sto) : Option (Int32 × Sto) := K50 vs0 (v7 + (-1 : Int32)) σ
set_option maxRecDepth 100000 in
def f_X9_training_L90 (K50 : Int32 → Int32 → Sto → Option (Int32 × Sto)) (v1 : Int32) (v2 : Int32) (v3 : Int32) (v4 : Int32) (v5 : Int32) (v6 : Int32) (v7 : Int32) (σ : Sto) : Option (Int32 × Sto) := f_X9_training_L92 K50 v1 v2 v3 v4 v5 v7 v6 σ
set_option maxRecDepth 100000 in
def f_X9_training_L50  (v1 : Int32) (v2 : Int32) (v3 : Int32) (v4 : Int32) (v5 : Int32) : Nat → Int32 → Int32 → Sto → Option (Int32 × Sto)
  | 0, _, _, _ => none
  | n + 1, v6, v7, σ => if v7 < 0 then ((f_X9_becomes σ v1 (3 : Int32) v4).bind (fun r105 => if 0 ≤ v6 then (some (v6, r105)) else (f_X9_finds r105 (2 : Int32)).bind (fun r115 => some (r115.1, r115.2)))) else (f_X9_becomes σ v1 (3 : Int32) v7).bind (fun r60 => (f_X9_swim r60 v1 v2).bind (fun r66 => if r66.1 = true then ((f_X9_isBetter v5 v3 (r66.2.1 81 16)).bind (fun r79 => if r79 = true then (f_X9_training_L90 (f_X9_training_L50  v1 v2 v3 v4 v5 n) v1 v2 v3 v4 v5 v6 v7 r66.2) else f_X9_training_L92 (f_X9_training_L50  v1 v2 v3 v4 v5 n) v1 v2 v3 v4 v5 v7 v7 r66.2)) else f_X9_training_L90 (f_X9_training_L50  v1 v2 v3 v4 v5 n) v1 v2 v3 v4 v5 v6 v7 r66.2))
set_option maxRecDepth 100000 in
def f_X9_training (σ : Sto) (a1 : Int32) (a2 : Int32) (a3 : Int32) : Option (Int32 × Sto) := (f_X9_areUnlike σ a1 a2).bind (fun r3 => if r3 = true then ((f_X9_in (Int32.toInt64 a3) (0 : Int64) (1200 : Int64)).bind (fun r15 => if r15 = true then ((f_X9_of σ a1 (3 : Int32)).bind (fun r30 => (f_X9_of σ a1 (2 : Int32)).bind (fun r38 => f_X9_training_L50  a1 a2 a3 r30 r38 FU (-1 : Int32) (30 : Int32) σ))) else (f_X9_finds σ (1 : Int32)).bind (fun r23 => some (r23.1, r23.2)))) else (f_X9_finds σ (1 : Int32)).bind (fun r23 => some (r23.1, r23.2)))
set_option maxRecDepth 100000 in
def f_X9_changeSides (σ : Sto) (a1 : Int32) (a2 : Int32) : Option Sto := (f_X9_of σ a1 (2 : Int32)).bind (fun r7 => (f_X9_becomes σ a1 (2 : Int32) ((1 : Int32) - r7)).bind (fun r11 => (f_X9_of r11 a2 (2 : Int32)).bind (fun r21 => (f_X9_becomes r11 a2 (2 : Int32) ((1 : Int32) - r21)).bind (fun r25 => some r25))))
set_option maxRecDepth 100000 in
def f_X9_fair (σ : Sto) (a1 : Int32) (a2 : Int32) : Option (Int32 × Sto) := (f_X9_areUnlike σ a1 a2).bind (fun r3 => if r3 = true then ((f_X9_swim σ a1 a2).bind (fun r18 => (f_X9_changeSides r18.2 a1 a2).bind (fun r31 => (f_X9_swim r31 a1 a2).bind (fun r37 => (f_X9_changeSides r37.2 a1 a2).bind (fun r45 => if r18.1 = true then (if r37.1 = true then (some ((((r18.2.1 81 16) + (r45.1 81 16)) - (1200 : Int32)), r45)) else (f_X9_finds r45 (2 : Int32)).bind (fun r73 => some (r73.1, r73.2))) else (f_X9_finds r45 (2 : Int32)).bind (fun r73 => some (r73.1, r73.2))))))) else (f_X9_finds σ (1 : Int32)).bind (fun r11 => some (r11.1, r11.2)))
set_option maxRecDepth 100000 in
def f_X9_seed (σ : Sto) (a1 : Int32) : Option (Int32 × Sto) := (rdA σ 82 (13 : Int32)).bind (fun r6 => (wrA σ 82 (13 : Int32) a1).bind (fun σ15 => some (r6, σ15)))
set_option maxRecDepth 100000 in
def f_X9_ran (σ : Sto) (a1 : Int32) : Option Sto := if (40 : Int32) ≤ (σ.1 81 18) then (some σ) else (wrA σ 89 (σ.1 81 18) a1).bind (fun σ18 => lp (sI σ18 81 18 ((σ18.1 81 18) + (1 : Int32))) (fun σ26 => some σ26))
set_option maxRecDepth 100000 in
def f_X9_own (σ : Sto)  : Option Int32 := (f_X9_of σ (σ.1 81 19) (0 : Int32)).bind (fun r6 => some r6)
set_option maxRecDepth 100000 in
def b_X9_swims (rec : Nat → Int32 → Int32 → Sto → Option (Int32 × Sto)) (σ : Sto) (a1 : Int32) (a2 : Int32) : Option (Int32 × Sto) := if a1 = (0 : Int32) then ((f_X9_ran σ (10 : Int32)).bind (fun r31 => some ((a2 + (r31.1 81 19)), r31))) else if a1 = (2 : Int32) then ((f_X9_ran σ (30 : Int32)).bind (fun r44 => (f_X9_above (2 : Int32)).bind (fun r49 => (rec 0 r49 a2 r44).bind (fun r53 => some ((r53.1 * (3 : Int32)), r53.2))))) else (f_X9_above a1).bind (fun r61 => (rec 0 r61 a2 σ).bind (fun r65 => some (r65.1, r65.2)))
set_option maxRecDepth 100000 in
def g_X9_swims : Nat → Nat → Int32 → Int32 → Sto → Option (Int32 × Sto)
  | 0, _, _, _, _ => none
  | d + 1, 0, x0, x1, σ => b_X9_swims (g_X9_swims d) σ x0 x1
  | _ + 1, _, _, _, _ => none

set_option maxRecDepth 100000 in
def b_X9_tires (rec : Nat → Int32 → Int32 → Sto → Option (Int32 × Sto)) (σ : Sto) (a1 : Int32) (a2 : Int32) : Option (Int32 × Sto) := if a1 = (0 : Int32) then ((f_X9_ran σ (12 : Int32)).bind (fun r39 => (f_X9_of r39 (r39.1 81 19) (1 : Int32)).bind (fun r49 => some ((a2 - r49), r39)))) else if a1 = (3 : Int32) then ((f_X9_ran σ (40 : Int32)).bind (fun r57 => (f_X9_above (3 : Int32)).bind (fun r62 => (rec 0 r62 a2 r57).bind (fun r66 => some ((-r66.1), r66.2))))) else if a1 = (6 : Int32) then ((f_X9_ran σ (70 : Int32)).bind (fun r74 => (f_X9_above (6 : Int32)).bind (fun r80 => (rec 0 r80 a2 r74).bind (fun r84 => some ((r84.1 ^^^ (r84.2.1 81 19)), r84.2))))) else (f_X9_above a1).bind (fun r95 => (rec 0 r95 a2 σ).bind (fun r99 => some (r99.1, r99.2)))
set_option maxRecDepth 100000 in
def g_X9_tires : Nat → Nat → Int32 → Int32 → Sto → Option (Int32 × Sto)
  | 0, _, _, _, _ => none
  | d + 1, 0, x0, x1, σ => b_X9_tires (g_X9_tires d) σ x0 x1
  | _ + 1, _, _, _, _ => none

set_option maxRecDepth 100000 in
def b_X9_breathes (rec : Nat → Int32 → Int32 → Sto → Option (Int32 × Sto)) (σ : Sto) (a1 : Int32) (a2 : Int32) : Option (Int32 × Sto) := if a1 = (0 : Int32) then ((f_X9_ran σ (11 : Int32)).bind (fun r39 => (f_X9_own r39).bind (fun r44 => (g_X9_swims 8 0 r44 a2 r39).bind (fun r48 => some ((r48.1 * (2 : Int32)), r48.2))))) else if a1 = (1 : Int32) then ((f_X9_ran σ (20 : Int32)).bind (fun r57 => (f_X9_above (1 : Int32)).bind (fun r62 => (rec 0 r62 a2 r57).bind (fun r66 => (f_X9_own r66.2).bind (fun r73 => (g_X9_tires 8 0 r73 (1 : Int32) r66.2).bind (fun r77 => some ((r66.1 - r77.1), r77.2))))))) else if a1 = (2 : Int32) then ((f_X9_above a1).bind (fun r102 => (rec 0 r102 a2 σ).bind (fun r106 => some (r106.1, r106.2)))) else if a1 = (3 : Int32) then ((f_X9_above a1).bind (fun r102 => (rec 0 r102 a2 σ).bind (fun r106 => some (r106.1, r106.2)))) else if a1 = (4 : Int32) then ((f_X9_ran σ (50 : Int32)).bind (fun r85 => (f_X9_above (4 : Int32)).bind (fun r90 => (rec 0 r90 (a2 + (1 : Int32)) r85).bind (fun r96 => some (r96.1, r96.2))))) else (f_X9_above a1).bind (fun r102 => (rec 0 r102 a2 σ).bind (fun r106 => some (r106.1, r106.2)))
set_option maxRecDepth 100000 in
def g_X9_breathes : Nat → Nat → Int32 → Int32 → Sto → Option (Int32 × Sto)
  | 0, _, _, _, _ => none
  | d + 1, 0, x0, x1, σ => b_X9_breathes (g_X9_breathes d) σ x0 x1
  | _ + 1, _, _, _, _ => none

set_option maxRecDepth 100000 in
def b_X9_tells (rec : Nat → Int32 → Int32 → Sto → Option (Int32 × Sto)) (σ : Sto) (a1 : Int32) (a2 : Int32) : Option (Int32 × Sto) := if a1 = (0 : Int32) then ((f_X9_ran σ (13 : Int32)).bind (fun r39 => (f_X9_own r39).bind (fun r44 => (g_X9_breathes 8 0 r44 a2 r39).bind (fun r48 => (f_X9_own r48.2).bind (fun r55 => (g_X9_tires 8 0 r55 a2 r48.2).bind (fun r59 => some ((r48.1 ^^^ r59.1), r59.2))))))) else if a1 = (5 : Int32) then ((f_X9_ran σ (60 : Int32)).bind (fun r67 => (f_X9_above (5 : Int32)).bind (fun r72 => (rec 0 r72 a2 r67).bind (fun r76 => (f_X9_own r76.2).bind (fun r83 => (g_X9_swims 8 0 r83 (2 : Int32) r76.2).bind (fun r87 => some ((r76.1 - r87.1), r87.2))))))) else if a1 = (6 : Int32) then ((f_X9_ran σ (71 : Int32)).bind (fun r95 => (f_X9_own r95).bind (fun r100 => (g_X9_breathes 8 0 r100 a2 r95).bind (fun r104 => (f_X9_above (6 : Int32)).bind (fun r112 => (rec 0 r112 a2 r104.2).bind (fun r116 => some ((r104.1 - r116.1), r116.2))))))) else (f_X9_above a1).bind (fun r123 => (rec 0 r123 a2 σ).bind (fun r127 => some (r127.1, r127.2)))
set_option maxRecDepth 100000 in
def g_X9_tells : Nat → Nat → Int32 → Int32 → Sto → Option (Int32 × Sto)
  | 0, _, _, _, _ => none
  | d + 1, 0, x0, x1, σ => b_X9_tells (g_X9_tells d) σ x0 x1
  | _ + 1, _, _, _, _ => none

set_option maxRecDepth 100000 in
def f_X9_voice (σ : Sto) (a1 : Int32) (a2 : Int32) (a3 : Int32) : Option (Int32 × Sto) := (f_X9_isSwimmer σ a1).bind (fun r2 => if r2 = true then ((f_X9_in (Int32.toInt64 a2) (0 : Int64) (3 : Int64)).bind (fun r14 => if r14 = true then (lp (sI σ 81 18 (0 : Int32)) (fun σ28 => lp (sI σ28 81 19 a1) (fun σ33 => (f_X9_own σ33).bind (fun r37 => if a2 = 0 then ((g_X9_swims 8 0 r37 a3 σ33).bind (fun r50 => some (r50.1, r50.2))) else if a2 = (1 : Int32) then ((g_X9_breathes 8 0 r37 a3 σ33).bind (fun r65 => some (r65.1, r65.2))) else if a2 = (2 : Int32) then ((g_X9_tires 8 0 r37 a3 σ33).bind (fun r80 => some (r80.1, r80.2))) else (g_X9_tells 8 0 r37 a3 σ33).bind (fun r90 => some (r90.1, r90.2)))))) else (f_X9_finds σ (1 : Int32)).bind (fun r22 => some (r22.1, r22.2)))) else (f_X9_finds σ (1 : Int32)).bind (fun r22 => some (r22.1, r22.2)))
set_option maxRecDepth 100000 in
def f_X9_trace (σ : Sto) (a1 : Int32) : Option (Int32 × Sto) := (f_X9_in (Int32.toInt64 a1) (0 : Int64) (Int32.toInt64 ((σ.1 81 18) - (1 : Int32)))).bind (fun r10 => if r10 = true then ((rdA σ 89 a1).bind (fun r21 => some (r21, σ))) else (f_X9_finds σ (2 : Int32)).bind (fun r27 => some (r27.1, r27.2)))
set_option maxRecDepth 100000 in
def f_X9_isSheet (a0 : Int32) : Option Bool := (f_X9_in (Int32.toInt64 a0) (0 : Int64) (3 : Int64)).bind (fun r6 => some r6)
set_option maxRecDepth 100000 in
def f_X9_sheet_L90  (v1 : Int32) : Nat → Int32 → Sto → Option (Int32 × Sto)
  | 0, _, _ => none
  | n + 1, v4, σ => if (40 : Int32) ≤ v4 then (some ((1 : Int32), σ)) else (wrA σ 92 (((40 : Int32) * v1) + v4) (0 : Int32)).bind (fun σ109 => (f_X9_sheet_L90  v1 n) (v4 + (1 : Int32)) σ109)
set_option maxRecDepth 100000 in
def f_X9_sheet_L86  (v1 : Int32) (vs0 : Int32) (vs1 : Int32) (σ : Sto) : Option (Int32 × Sto) := (wrA σ 91 vs1 vs0).bind (fun σ86 => f_X9_sheet_L90  v1 FU (0 : Int32) σ86)
set_option maxRecDepth 100000 in
def f_X9_sheet_L65  (v1 : Int32) (v2 : Int32) (v3 : Int32) (σ : Sto) : Option (Int32 × Sto) := (wrA σ 90 v1 v2).bind (fun σ71 => if v2 = 0 then (f_X9_sheet_L86  v1 (0 : Int32) v1 σ71) else f_X9_sheet_L86  v1 v3 v1 σ71)
set_option maxRecDepth 100000 in
def f_X9_sheet_L49  (v1 : Int32) (v2 : Int32) (v3 : Int32) (σ : Sto) : Option (Int32 × Sto) := if v2 = 0 then (f_X9_sheet_L65  v1 v2 v3 σ) else if v3 ≤ (40 : Int32) then (f_X9_sheet_L65  v1 v2 v3 σ) else (f_X9_finds σ (1 : Int32)).bind (fun r61 => some (r61.1, r61.2))
set_option maxRecDepth 100000 in
def f_X9_sheet_L35  (v1 : Int32) (v2 : Int32) (v3 : Int32) (σ : Sto) : Option (Int32 × Sto) := if v2 = 0 then (f_X9_sheet_L49  v1 v2 v3 σ) else if 0 ≤ v3 then (f_X9_sheet_L49  v1 v2 v3 σ) else (f_X9_finds σ (3 : Int32)).bind (fun r45 => some (r45.1, r45.2))
set_option maxRecDepth 100000 in
def f_X9_sheet (σ : Sto) (a1 : Int32) (a2 : Int32) (a3 : Int32) : Option (Int32 × Sto) := (f_X9_isSheet a1).bind (fun r1 => if r1 = true then (if a2 = 0 then (f_X9_sheet_L35  a1 a2 a3 σ) else if a2 = (8 : Int32) then (f_X9_sheet_L35  a1 a2 a3 σ) else if a2 = (16 : Int32) then (f_X9_sheet_L35  a1 a2 a3 σ) else if a2 = (32 : Int32) then (f_X9_sheet_L35  a1 a2 a3 σ) else (f_X9_finds σ (1 : Int32)).bind (fun r31 => some (r31.1, r31.2))) else (f_X9_finds σ (1 : Int32)).bind (fun r31 => some (r31.1, r31.2)))
set_option maxRecDepth 100000 in
def f_X9_put_L95  (vs0 : Int32) (vs1 : Int32) (σ : Sto) : Option (Int32 × Sto) := (wrA σ 92 vs1 vs0).bind (fun σ95 => some ((1 : Int32), σ95))
set_option maxRecDepth 100000 in
def f_X9_put (σ : Sto) (a1 : Int32) (a2 : Int32) (a3 : Int32) : Option (Int32 × Sto) := (f_X9_isSheet a1).bind (fun r1 => if r1 = true then ((rdA σ 90 a1).bind (fun r18 => if r18 = 0 then ((f_X9_finds σ (2 : Int32)).bind (fun r24 => some (r24.1, r24.2))) else (rdA σ 91 a1).bind (fun r36 => (f_X9_in (Int32.toInt64 a2) (0 : Int64) (Int32.toInt64 (r36 - (1 : Int32)))).bind (fun r40 => if r40 = true then ((rdA σ 90 a1).bind (fun r67 => if r67 = (8 : Int32) then (f_X9_put_L95  (i2b a3) (((40 : Int32) * a1) + a2) σ) else (rdA σ 90 a1).bind (fun r83 => if r83 = (16 : Int32) then (f_X9_put_L95  (i2s a3) (((40 : Int32) * a1) + a2) σ) else f_X9_put_L95  a3 (((40 : Int32) * a1) + a2) σ))) else (f_X9_finds σ (1 : Int32)).bind (fun r48 => some (r48.1, r48.2)))))) else (f_X9_finds σ (1 : Int32)).bind (fun r9 => some (r9.1, r9.2)))
set_option maxRecDepth 100000 in
def f_X9_move_L152  (v3 : Int32) (v4 : Int32) (v5 : Int32) : Nat → Int32 → Sto → Option (Int32 × Sto)
  | 0, _, _ => none
  | n + 1, v6, σ => if v5 ≤ v6 then (some (v5, σ)) else (rdA σ 93 v6).bind (fun r179 => (wrA σ 92 ((((40 : Int32) * v3) + v4) + v6) r179).bind (fun σ180 => (f_X9_move_L152  v3 v4 v5 n) (v6 + (1 : Int32)) σ180))
set_option maxRecDepth 100000 in
def f_X9_move_L115  (v1 : Int32) (v2 : Int32) (v3 : Int32) (v4 : Int32) (v5 : Int32) : Nat → Int32 → Sto → Option (Int32 × Sto)
  | 0, _, _ => none
  | n + 1, v6, σ => if v5 ≤ v6 then (f_X9_move_L152  v3 v4 v5 FU (0 : Int32) σ) else (rdA σ 92 ((((40 : Int32) * v1) + v2) + v6)).bind (fun r141 => (wrA σ 93 v6 r141).bind (fun σ142 => (f_X9_move_L115  v1 v2 v3 v4 v5 n) (v6 + (1 : Int32)) σ142))
set_option maxRecDepth 100000 in
def f_X9_move (σ : Sto) (a1 : Int32) (a2 : Int32) (a3 : Int32) (a4 : Int32) (a5 : Int32) : Option (Int32 × Sto) := (f_X9_isSheet a1).bind (fun r1 => if r1 = true then ((f_X9_isSheet a3).bind (fun r8 => if r8 = true then ((rdA σ 90 a1).bind (fun r25 => if r25 = 0 then ((f_X9_finds σ (2 : Int32)).bind (fun r40 => some (r40.1, r40.2))) else (rdA σ 90 a3).bind (fun r34 => if r34 = 0 then ((f_X9_finds σ (2 : Int32)).bind (fun r40 => some (r40.1, r40.2))) else (rdA σ 90 a1).bind (fun r49 => (rdA σ 90 a3).bind (fun r55 => if r49 = r55 then (if a5 < 0 then ((f_X9_finds σ (1 : Int32)).bind (fun r108 => some (r108.1, r108.2))) else if a2 < 0 then ((f_X9_finds σ (1 : Int32)).bind (fun r108 => some (r108.1, r108.2))) else if a4 < 0 then ((f_X9_finds σ (1 : Int32)).bind (fun r108 => some (r108.1, r108.2))) else (rdA σ 91 a1).bind (fun r86 => if (r86 - a2) < a5 then ((f_X9_finds σ (1 : Int32)).bind (fun r108 => some (r108.1, r108.2))) else (rdA σ 91 a3).bind (fun r99 => if a5 ≤ (r99 - a4) then (f_X9_move_L115  a1 a2 a3 a4 a5 FU (0 : Int32) σ) else (f_X9_finds σ (1 : Int32)).bind (fun r108 => some (r108.1, r108.2))))) else (f_X9_finds σ (5 : Int32)).bind (fun r61 => some (r61.1, r61.2))))))) else (f_X9_finds σ (1 : Int32)).bind (fun r16 => some (r16.1, r16.2)))) else (f_X9_finds σ (1 : Int32)).bind (fun r16 => some (r16.1, r16.2)))
set_option maxRecDepth 100000 in
def f_X9_years_L35  (v1 : Int32) : Nat → Int32 → Int32 → Sto → Option (Int32 × Sto)
  | 0, _, _, _ => none
  | n + 1, v2, v3, σ => (rdA σ 91 v1).bind (fun r45 => if r45 < (((2 : Int32) * v2) + (2 : Int32)) then (some (v2, σ)) else (rdA σ 82 (11 : Int32)).bind (fun r55 => if (9999 : Int32) ≤ r55 then (some (v2, σ)) else (rdA σ 92 v3).bind (fun r68 => (rdA σ 92 (v3 + (1 : Int32))).bind (fun r76 => (f_X9_areUnlike σ r68 r76).bind (fun r77 => if r77 = true then ((rdA σ 92 v3).bind (fun r89 => (rdA σ 92 (v3 + (1 : Int32))).bind (fun r97 => (f_X9_goesBy σ r89 r97).bind (fun r98 => (f_X9_years_L35  v1 n) (v2 + (1 : Int32)) (v3 + (2 : Int32)) r98)))) else some (v2, σ))))))
set_option maxRecDepth 100000 in
def f_X9_years (σ : Sto) (a1 : Int32) : Option (Int32 × Sto) := (f_X9_isSheet a1).bind (fun r1 => if r1 = true then ((rdA σ 90 a1).bind (fun r18 => if r18 = 0 then ((f_X9_finds σ (2 : Int32)).bind (fun r24 => some (r24.1, r24.2))) else f_X9_years_L35  a1 FU (0 : Int32) ((40 : Int32) * a1) σ)) else (f_X9_finds σ (1 : Int32)).bind (fun r9 => some (r9.1, r9.2)))
set_option maxRecDepth 100000 in
def f_X9_judge_L56  (v1 : Int32) (v2 : Int32) : Nat → Int32 → Int32 → Sto → Option (Int32 × Sto)
  | 0, _, _, _ => none
  | n + 1, v3, v4, σ => (rdA σ 91 v1).bind (fun r63 => if r63 ≤ v4 then (some (v4, σ)) else (rdA σ 92 (((40 : Int32) * v1) + v4)).bind (fun r78 => if r78 = v3 then ((f_X9_goes σ v2 v3 v4).bind (fun r88 => (f_X9_judge_L56  v1 v2 n) r88.1 (v4 + (1 : Int32)) r88.2)) else some (v4, σ)))
set_option maxRecDepth 100000 in
def f_X9_judge_L52  (v1 : Int32) (v2 : Int32) (vs0 : Int32) (σ : Sto) : Option (Int32 × Sto) := f_X9_judge_L56  v1 v2 FU vs0 (0 : Int32) σ
set_option maxRecDepth 100000 in
def f_X9_judge (σ : Sto) (a1 : Int32) (a2 : Int32) : Option (Int32 × Sto) := (f_X9_isSheet a1).bind (fun r1 => if r1 = true then ((f_X9_isSwimmer σ a2).bind (fun r9 => if r9 = true then ((rdA σ 90 a1).bind (fun r26 => if r26 = 0 then ((f_X9_finds σ (2 : Int32)).bind (fun r32 => some (r32.1, r32.2))) else (f_X9_of σ a2 (2 : Int32)).bind (fun r39 => if r39 = 0 then (f_X9_judge_L52  a1 a2 (0 : Int32) σ) else f_X9_judge_L52  a1 a2 (1200 : Int32) σ))) else (f_X9_finds σ (1 : Int32)).bind (fun r17 => some (r17.1, r17.2)))) else (f_X9_finds σ (1 : Int32)).bind (fun r17 => some (r17.1, r17.2)))
set_option maxRecDepth 100000 in
def f_X9_image (σ : Sto)  : Option (Int32 × Sto) := (f_X9_copies σ 82 84).bind (fun r8 => lp (sI r8 81 3 ((r8.1 81 3) + (1 : Int32))) (fun σ18 => some ((σ18.1 81 3), σ18)))
set_option maxRecDepth 100000 in
def f_X9_restore (σ : Sto)  : Option (Int32 × Sto) := if (σ.1 81 3) = 0 then ((f_X9_finds σ (2 : Int32)).bind (fun r9 => some (r9.1, r9.2))) else (f_X9_copies σ 84 82).bind (fun r21 => (rdA r21 82 (11 : Int32)).bind (fun r30 => some (r30, r21)))
set_option maxRecDepth 100000 in
def f_X9_tell (σ : Sto) (a1 : Int32) : Option (Int32 × Sto) := (rdA σ 82 (15 : Int32)).bind (fun r6 => if r6 = (20 : Int32) then ((f_X9_finds σ (4 : Int32)).bind (fun r14 => some (r14.1, r14.2))) else (rdA σ 82 (15 : Int32)).bind (fun r30 => (wrA σ 82 ((90 : Int32) + r30) a1).bind (fun σ33 => (rdA σ33 82 (15 : Int32)).bind (fun r41 => (wrA σ33 82 (15 : Int32) (r41 + (1 : Int32))).bind (fun σ44 => (rdA σ44 82 (15 : Int32)).bind (fun r51 => some (r51, σ44)))))))
set_option maxRecDepth 100000 in
def f_X9_check_L93 (K48 : Int32 → Int32 → Sto → Option (Int32 × Sto)) (v1 : Int32) (v2 : Int32) (v3 : Int32) (v5 : Int32) (vs0 : Int32) (σ : Sto) : Option (Int32 × Sto) := K48 vs0 (v5 + (1 : Int32)) σ
set_option maxRecDepth 100000 in
def f_X9_check_L48  (v1 : Int32) (v2 : Int32) (v3 : Int32) : Nat → Int32 → Int32 → Sto → Option (Int32 × Sto)
  | 0, _, _, _ => none
  | n + 1, v4, v5, σ => if v3 ≤ v5 then ((f_X9_copies σ 83 82).bind (fun r109 => some (v4, r109))) else if v4 = 0 then ((f_X9_goesBy σ v1 v2).bind (fun r62 => (rdA r62 82 (8 : Int32)).bind (fun r71 => (rdA r62 82 ((90 : Int32) + v5)).bind (fun r81 => if r71 = r81 then (f_X9_check_L93 (f_X9_check_L48  v1 v2 v3 n) v1 v2 v3 v5 (0 : Int32) r62) else f_X9_check_L93 (f_X9_check_L48  v1 v2 v3 n) v1 v2 v3 v5 ((1 : Int32) + v5) r62)))) else (f_X9_copies σ 83 82).bind (fun r109 => some (v4, r109))
set_option maxRecDepth 100000 in
def f_X9_check (σ : Sto) (a1 : Int32) (a2 : Int32) : Option (Int32 × Sto) := (rdA σ 82 (15 : Int32)).bind (fun r6 => (wrA σ 82 (15 : Int32) (0 : Int32)).bind (fun σ15 => (f_X9_areUnlike σ15 a1 a2).bind (fun r19 => if r19 = true then ((f_X9_copies σ15 82 83).bind (fun r42 => f_X9_check_L48  a1 a2 r6 FU (0 : Int32) (0 : Int32) r42)) else (f_X9_finds σ15 (1 : Int32)).bind (fun r27 => some (r27.1, r27.2)))))
set_option maxRecDepth 100000 in
def f_X9_count (σ : Sto) (a1 : Int32) : Option (Int32 × Sto) := if a1 = (0 : Int32) then ((rdA σ 82 (11 : Int32)).bind (fun r66 => some (r66, σ))) else if a1 = (1 : Int32) then ((rdA σ 82 (12 : Int32)).bind (fun r74 => some (r74, σ))) else if a1 = (2 : Int32) then ((rdA σ 82 (8 : Int32)).bind (fun r82 => some (r82, σ))) else if a1 = (3 : Int32) then ((rdA σ 82 (9 : Int32)).bind (fun r90 => some (r90, σ))) else if a1 = (4 : Int32) then ((rdA σ 82 (10 : Int32)).bind (fun r98 => some (r98, σ))) else if a1 = (5 : Int32) then ((rdA σ 82 (6 : Int32)).bind (fun r106 => some (r106, σ))) else if a1 = (6 : Int32) then ((rdA σ 82 (7 : Int32)).bind (fun r114 => some (r114, σ))) else if a1 = (7 : Int32) then ((rdA σ 82 (14 : Int32)).bind (fun r122 => some (r122, σ))) else if a1 = (8 : Int32) then ((rdA σ 82 (15 : Int32)).bind (fun r130 => some (r130, σ))) else if a1 = (9 : Int32) then (some ((σ.1 81 18), σ)) else if a1 = (10 : Int32) then ((rdA σ 82 (13 : Int32)).bind (fun r143 => some (r143, σ))) else (f_X9_finds σ (1 : Int32)).bind (fun r147 => some (r147.1, r147.2))
set_option maxRecDepth 100000 in
def f_X9_told (σ : Sto) (a1 : Int32) : Option (Int32 × Sto) := (f_X9_in (Int32.toInt64 a1) (1 : Int64) (5 : Int64)).bind (fun r6 => if r6 = true then ((rdA σ 85 a1).bind (fun r17 => some (r17, σ))) else (f_X9_finds σ (1 : Int32)).bind (fun r23 => some (r23.1, r23.2)))
