theorem df_0 : DF 0 16 tyX0 := by
  intro j hj
  match j, hj with
  | 0, _ => exact ⟨1, rfl, rfl⟩
  | 1, _ => exact ⟨0, rfl, rfl⟩
  | 2, _ => exact ⟨0, rfl, rfl⟩
  | 3, _ => exact ⟨0, rfl, rfl⟩
  | 4, _ => exact ⟨0, rfl, rfl⟩
  | 5, _ => exact ⟨0, rfl, rfl⟩
  | 6, _ => exact ⟨0, rfl, rfl⟩
  | 7, _ => exact ⟨1, rfl, rfl⟩
  | 8, _ => exact ⟨0, rfl, rfl⟩
  | 9, _ => exact ⟨1, rfl, rfl⟩
  | 10, _ => exact ⟨1, rfl, rfl⟩
  | 11, _ => exact ⟨1, rfl, rfl⟩
  | 12, _ => exact ⟨0, rfl, rfl⟩
  | 13, _ => exact ⟨1, rfl, rfl⟩
  | 14, _ => exact ⟨0, rfl, rfl⟩
  | 15, _ => exact ⟨0, rfl, rfl⟩
  | j + 16, hj => exact absurd hj (by omega)
theorem df_1 : DF 1 4 tyX1 := by
  intro j hj
  match j, hj with
  | 0, _ => exact ⟨0, rfl, rfl⟩
  | 1, _ => exact ⟨1, rfl, rfl⟩
  | 2, _ => exact ⟨1, rfl, rfl⟩
  | 3, _ => exact ⟨0, rfl, rfl⟩
  | j + 4, hj => exact absurd hj (by omega)
theorem df_2 : DF 2 8 tyX2 := by
  intro j hj
  match j, hj with
  | 0, _ => exact ⟨0, rfl, rfl⟩
  | 1, _ => exact ⟨0, rfl, rfl⟩
  | 2, _ => exact ⟨1, rfl, rfl⟩
  | 3, _ => exact ⟨1, rfl, rfl⟩
  | 4, _ => exact ⟨1, rfl, rfl⟩
  | 5, _ => exact ⟨2, rfl, rfl⟩
  | 6, _ => exact ⟨2, rfl, rfl⟩
  | 7, _ => exact ⟨0, rfl, rfl⟩
  | j + 8, hj => exact absurd hj (by omega)
theorem df_3 : DF 3 6 tyX3 := by
  intro j hj
  match j, hj with
  | 0, _ => exact ⟨1, rfl, rfl⟩
  | 1, _ => exact ⟨0, rfl, rfl⟩
  | 2, _ => exact ⟨1, rfl, rfl⟩
  | 3, _ => exact ⟨0, rfl, rfl⟩
  | 4, _ => exact ⟨0, rfl, rfl⟩
  | 5, _ => exact ⟨2, rfl, rfl⟩
  | j + 6, hj => exact absurd hj (by omega)
theorem df_4 : DF 4 3 tyX4 := by
  intro j hj
  match j, hj with
  | 0, _ => exact ⟨1, rfl, rfl⟩
  | 1, _ => exact ⟨0, rfl, rfl⟩
  | 2, _ => exact ⟨0, rfl, rfl⟩
  | j + 3, hj => exact absurd hj (by omega)
theorem df_5 : DF 5 6 tyX5 := by
  intro j hj
  match j, hj with
  | 0, _ => exact ⟨1, rfl, rfl⟩
  | 1, _ => exact ⟨0, rfl, rfl⟩
  | 2, _ => exact ⟨0, rfl, rfl⟩
  | 3, _ => exact ⟨0, rfl, rfl⟩
  | 4, _ => exact ⟨0, rfl, rfl⟩
  | 5, _ => exact ⟨0, rfl, rfl⟩
  | j + 6, hj => exact absurd hj (by omega)
theorem df_6 : DF 6 6 tyX6 := by
  intro j hj
  match j, hj with
  | 0, _ => exact ⟨0, rfl, rfl⟩
  | 1, _ => exact ⟨0, rfl, rfl⟩
  | 2, _ => exact ⟨0, rfl, rfl⟩
  | 3, _ => exact ⟨0, rfl, rfl⟩
  | 4, _ => exact ⟨0, rfl, rfl⟩
  | 5, _ => exact ⟨1, rfl, rfl⟩
  | j + 6, hj => exact absurd hj (by omega)
theorem df_7 : DF 7 5 tyX7 := by
  intro j hj
  match j, hj with
  | 0, _ => exact ⟨1, rfl, rfl⟩
  | 1, _ => exact ⟨0, rfl, rfl⟩
  | 2, _ => exact ⟨0, rfl, rfl⟩
  | 3, _ => exact ⟨0, rfl, rfl⟩
  | 4, _ => exact ⟨0, rfl, rfl⟩
  | j + 5, hj => exact absurd hj (by omega)
theorem df_8 : DF 8 11 tyX8 := by
  intro j hj
  match j, hj with
  | 0, _ => exact ⟨1, rfl, rfl⟩
  | 1, _ => exact ⟨1, rfl, rfl⟩
  | 2, _ => exact ⟨1, rfl, rfl⟩
  | 3, _ => exact ⟨1, rfl, rfl⟩
  | 4, _ => exact ⟨1, rfl, rfl⟩
  | 5, _ => exact ⟨1, rfl, rfl⟩
  | 6, _ => exact ⟨1, rfl, rfl⟩
  | 7, _ => exact ⟨1, rfl, rfl⟩
  | 8, _ => exact ⟨1, rfl, rfl⟩
  | 9, _ => exact ⟨1, rfl, rfl⟩
  | 10, _ => exact ⟨0, rfl, rfl⟩
  | j + 11, hj => exact absurd hj (by omega)
theorem df_9 : DF 9 24 tyX9 := by
  intro j hj
  match j, hj with
  | 0, _ => exact ⟨1, rfl, rfl⟩
  | 1, _ => exact ⟨1, rfl, rfl⟩
  | 2, _ => exact ⟨1, rfl, rfl⟩
  | 3, _ => exact ⟨0, rfl, rfl⟩
  | 4, _ => exact ⟨1, rfl, rfl⟩
  | 5, _ => exact ⟨0, rfl, rfl⟩
  | 6, _ => exact ⟨0, rfl, rfl⟩
  | 7, _ => exact ⟨0, rfl, rfl⟩
  | 8, _ => exact ⟨0, rfl, rfl⟩
  | 9, _ => exact ⟨0, rfl, rfl⟩
  | 10, _ => exact ⟨0, rfl, rfl⟩
  | 11, _ => exact ⟨1, rfl, rfl⟩
  | 12, _ => exact ⟨1, rfl, rfl⟩
  | 13, _ => exact ⟨0, rfl, rfl⟩
  | 14, _ => exact ⟨1, rfl, rfl⟩
  | 15, _ => exact ⟨0, rfl, rfl⟩
  | 16, _ => exact ⟨0, rfl, rfl⟩
  | 17, _ => exact ⟨1, rfl, rfl⟩
  | 18, _ => exact ⟨0, rfl, rfl⟩
  | 19, _ => exact ⟨0, rfl, rfl⟩
  | 20, _ => exact ⟨1, rfl, rfl⟩
  | 21, _ => exact ⟨1, rfl, rfl⟩
  | 22, _ => exact ⟨1, rfl, rfl⟩
  | 23, _ => exact ⟨1, rfl, rfl⟩
  | j + 24, hj => exact absurd hj (by omega)
def i_X1_init (b : Bst) (k : Nat) (a1 : Int32) : Bst := bI (bI (bR (bN (bR (bN (b)) k 1 (some (k + 1)))) k 2 (some (k + 2))) k 3 0) k 0 a1
set_option maxRecDepth 20000 in
theorem dX1_init_0 : decode cX1_init 0 = .ok (.aload_n 0, 1) := by decide +kernel
set_option maxRecDepth 20000 in
theorem dX1_init_1 : decode cX1_init 1 = .ok (.invokespecial 3, 3) := by decide +kernel
set_option maxRecDepth 20000 in
theorem dX1_init_4 : decode cX1_init 4 = .ok (.aload_n 0, 1) := by decide +kernel
set_option maxRecDepth 20000 in
theorem dX1_init_5 : decode cX1_init 5 = .ok (.bipush 50, 2) := by decide +kernel
set_option maxRecDepth 20000 in
theorem dX1_init_7 : decode cX1_init 7 = .ok (.newarray .int, 2) := by decide +kernel
set_option maxRecDepth 20000 in
theorem dX1_init_9 : decode cX1_init 9 = .ok (.putfield 9, 3) := by decide +kernel
set_option maxRecDepth 20000 in
theorem dX1_init_12 : decode cX1_init 12 = .ok (.aload_n 0, 1) := by decide +kernel
set_option maxRecDepth 20000 in
theorem dX1_init_13 : decode cX1_init 13 = .ok (.bipush 50, 2) := by decide +kernel
set_option maxRecDepth 20000 in
theorem dX1_init_15 : decode cX1_init 15 = .ok (.newarray .int, 2) := by decide +kernel
set_option maxRecDepth 20000 in
theorem dX1_init_17 : decode cX1_init 17 = .ok (.putfield 15, 3) := by decide +kernel
set_option maxRecDepth 20000 in
theorem dX1_init_20 : decode cX1_init 20 = .ok (.aload_n 0, 1) := by decide +kernel
set_option maxRecDepth 20000 in
theorem dX1_init_21 : decode cX1_init 21 = .ok (.iconst 0, 1) := by decide +kernel
set_option maxRecDepth 20000 in
theorem dX1_init_22 : decode cX1_init 22 = .ok (.putfield 18, 3) := by decide +kernel
set_option maxRecDepth 20000 in
theorem dX1_init_25 : decode cX1_init 25 = .ok (.aload_n 0, 1) := by decide +kernel
set_option maxRecDepth 20000 in
theorem dX1_init_26 : decode cX1_init 26 = .ok (.iload_n 1, 1) := by decide +kernel
set_option maxRecDepth 20000 in
theorem dX1_init_27 : decode cX1_init 27 = .ok (.putfield 22, 3) := by decide +kernel
set_option maxRecDepth 20000 in
theorem dX1_init_30 : decode cX1_init 30 = .ok (.return_, 1) := by decide +kernel
set_option maxHeartbeats 4000000 in
set_option maxRecDepth 100000 in
theorem c_X1_init (l : Launch) (G : GT) (hG : GA G) (b : Bst) (k : Nat) (a1 : Int32) (hb : b.1 = k + 1) (hlt : k + 2 < NC) (hk0 : K0 k = 1) (hk1 : K0 (k + 1) = 20) (hl1 : Ln0 (k + 1) = 50) (hk2 : K0 (k + 2) = 20) (hl2 : Ln0 (k + 2) = 50) : MW l G 2 64 2 100 yX1_init cX1_init 2 (Option.none : Option Jvm.ClassFile.FieldType) [.ref (gad G k), .int a1] (wb G b) none (wb G (i_X1_init b k a1)) := by
  refine mw_of RX1 (fun r : Bst => (none, wb G r)) [(0, .ref (gad G k)), (1, .int a1)] (by decide +kernel) rfl (Nat.le_of_ble_eq_true rfl) rfl (o := some (i_X1_init b k a1)) rfl rfl (fun p e s m args below meth c X hr hnm => ?_)
  refine sm_aload_n X 1 0 dX1_init_0 rfl rfl rfl ?_
  refine sb_obj X 4 q_39 q_24 q_25 ⟨(Nat.le_of_ble_eq_true rfl), (Nat.le_of_ble_eq_true rfl)⟩ dX1_init_1 rfl ?_
  refine sm_aload_n X 5 0 dX1_init_4 rfl rfl rfl ?_
  refine sm_bipush X 7 (50) dX1_init_5 rfl rfl ?_
  refine sb_newa X 9 hG (k + 1) 1 50 hb (by omega) hk1 hl1 (by decide) (by decide) (Nat.le_of_ble_eq_true rfl) q_53 rfl rfl ⟨(Nat.le_of_ble_eq_true rfl), (Nat.le_of_ble_eq_true rfl)⟩ dX1_init_7 rfl (fun b1 e1 n1 => ?_)
  refine sb_putr X 12 (r := (some (k + 1))) (.array .int) n1 (by omega) hk0 fd_1_1 (by decide) rfl ⟨hnm, rfl⟩ rfl rfl rfl dX1_init_9 rfl q_41 (fun b2 e2 n2 => ?_)
  refine sm_aload_n X 13 0 dX1_init_12 rfl rfl rfl ?_
  refine sm_bipush X 15 (50) dX1_init_13 rfl rfl ?_
  refine sb_newa X 17 hG (k + 2) 2 100 n2 (by omega) hk2 hl2 (by decide) (by decide) (Nat.le_of_ble_eq_true rfl) q_53 rfl rfl ⟨(Nat.le_of_ble_eq_true rfl), (Nat.le_of_ble_eq_true rfl)⟩ dX1_init_15 rfl (fun b3 e3 n3 => ?_)
  refine sb_putr X 20 (r := (some (k + 2))) (.array .int) n3 (by omega) hk0 fd_1_2 (by decide) rfl ⟨hnm, rfl⟩ rfl rfl rfl dX1_init_17 rfl q_42 (fun b4 e4 n4 => ?_)
  refine sm_aload_n X 21 0 dX1_init_20 rfl rfl rfl ?_
  refine sm_iconst X 22 (0) dX1_init_21 rfl rfl ?_
  refine sb_puti X 25 .int n4 (by omega) hk0 fd_1_3 ⟨hnm, rfl⟩ rfl rfl rfl dX1_init_22 rfl q_43 (fun b5 e5 n5 => ?_)
  refine sm_aload_n X 26 0 dX1_init_25 rfl rfl rfl ?_
  refine sm_iload_n X 27 1 dX1_init_26 rfl rfl rfl ?_
  refine sb_puti X 30 .int n5 (by omega) hk0 fd_1_0 ⟨hnm, rfl⟩ rfl rfl rfl dX1_init_27 rfl q_40 (fun b6 e6 n6 => ?_)
  exact sm_vret X hr dX1_init_30 (by rw [e6, e5, e4, e3, e2, e1]; rfl)
theorem k_X1_init {b b' : Bst} {k a j x n : Nat} {a1 : Int32} (e : b' = i_X1_init b k a1) (hn : b.1 = n) (h1 : a < n) (h2 : a ≠ k) (f : b.2.2 a j = some x) : b'.2.2 a j = some x := by
  subst e; subst hn; have q0 : a ≠ b.1 := by omega
  have q1 : a ≠ b.1 + 1 := by omega;
  simp only [i_X1_init, bR, bI, bN]; simp [h2, f, q0, q1]
def i_X3_init (b : Bst) (k : Nat) : Bst := bR (bI (bI (bR (bN (bI (bR (bN (b)) k 0 (some (k + 1))) k 1 0)) k 2 (some (k + 2))) k 3 0) k 4 0) k 5 (some 1003)
set_option maxRecDepth 20000 in
theorem dX3_init_0 : decode cX3_init 0 = .ok (.aload_n 0, 1) := by decide +kernel
set_option maxRecDepth 20000 in
theorem dX3_init_1 : decode cX3_init 1 = .ok (.invokespecial 3, 3) := by decide +kernel
set_option maxRecDepth 20000 in
theorem dX3_init_4 : decode cX3_init 4 = .ok (.aload_n 0, 1) := by decide +kernel
set_option maxRecDepth 20000 in
theorem dX3_init_5 : decode cX3_init 5 = .ok (.bipush 50, 2) := by decide +kernel
set_option maxRecDepth 20000 in
theorem dX3_init_7 : decode cX3_init 7 = .ok (.newarray .int, 2) := by decide +kernel
set_option maxRecDepth 20000 in
theorem dX3_init_9 : decode cX3_init 9 = .ok (.putfield 9, 3) := by decide +kernel
set_option maxRecDepth 20000 in
theorem dX3_init_12 : decode cX3_init 12 = .ok (.aload_n 0, 1) := by decide +kernel
set_option maxRecDepth 20000 in
theorem dX3_init_13 : decode cX3_init 13 = .ok (.iconst 0, 1) := by decide +kernel
set_option maxRecDepth 20000 in
theorem dX3_init_14 : decode cX3_init 14 = .ok (.putfield 15, 3) := by decide +kernel
set_option maxRecDepth 20000 in
theorem dX3_init_17 : decode cX3_init 17 = .ok (.aload_n 0, 1) := by decide +kernel
set_option maxRecDepth 20000 in
theorem dX3_init_18 : decode cX3_init 18 = .ok (.bipush 50, 2) := by decide +kernel
set_option maxRecDepth 20000 in
theorem dX3_init_20 : decode cX3_init 20 = .ok (.newarray .int, 2) := by decide +kernel
set_option maxRecDepth 20000 in
theorem dX3_init_22 : decode cX3_init 22 = .ok (.putfield 19, 3) := by decide +kernel
set_option maxRecDepth 20000 in
theorem dX3_init_25 : decode cX3_init 25 = .ok (.aload_n 0, 1) := by decide +kernel
set_option maxRecDepth 20000 in
theorem dX3_init_26 : decode cX3_init 26 = .ok (.iconst 0, 1) := by decide +kernel
set_option maxRecDepth 20000 in
theorem dX3_init_27 : decode cX3_init 27 = .ok (.putfield 22, 3) := by decide +kernel
set_option maxRecDepth 20000 in
theorem dX3_init_30 : decode cX3_init 30 = .ok (.aload_n 0, 1) := by decide +kernel
set_option maxRecDepth 20000 in
theorem dX3_init_31 : decode cX3_init 31 = .ok (.iconst 0, 1) := by decide +kernel
set_option maxRecDepth 20000 in
theorem dX3_init_32 : decode cX3_init 32 = .ok (.putfield 25, 3) := by decide +kernel
set_option maxRecDepth 20000 in
theorem dX3_init_35 : decode cX3_init 35 = .ok (.aload_n 0, 1) := by decide +kernel
set_option maxRecDepth 20000 in
theorem dX3_init_36 : decode cX3_init 36 = .ok (.ldc 28, 2) := by decide +kernel
set_option maxRecDepth 20000 in
theorem dX3_init_38 : decode cX3_init 38 = .ok (.putfield 30, 3) := by decide +kernel
set_option maxRecDepth 20000 in
theorem dX3_init_41 : decode cX3_init 41 = .ok (.return_, 1) := by decide +kernel
set_option maxHeartbeats 4000000 in
set_option maxRecDepth 100000 in
theorem c_X3_init (l : Launch) (G : GT) (hG : GA G) (b : Bst) (k : Nat) (hb : b.1 = k + 1) (hlt : k + 2 < NC) (hk0 : K0 k = 3) (hk1 : K0 (k + 1) = 20) (hl1 : Ln0 (k + 1) = 50) (hk2 : K0 (k + 2) = 20) (hl2 : Ln0 (k + 2) = 50) : MW l G 2 64 2 100 yX3_init cX3_init 1 (Option.none : Option Jvm.ClassFile.FieldType) [.ref (gad G k)] (wb G b) none (wb G (i_X3_init b k)) := by
  refine mw_of RX3 (fun r : Bst => (none, wb G r)) [(0, .ref (gad G k))] (by decide +kernel) rfl (Nat.le_of_ble_eq_true rfl) rfl (o := some (i_X3_init b k)) rfl rfl (fun p e s m args below meth c X hr hnm => ?_)
  refine sm_aload_n X 1 0 dX3_init_0 rfl rfl rfl ?_
  refine sb_obj X 4 q_156 q_24 q_25 ⟨(Nat.le_of_ble_eq_true rfl), (Nat.le_of_ble_eq_true rfl)⟩ dX3_init_1 rfl ?_
  refine sm_aload_n X 5 0 dX3_init_4 rfl rfl rfl ?_
  refine sm_bipush X 7 (50) dX3_init_5 rfl rfl ?_
  refine sb_newa X 9 hG (k + 1) 1 50 hb (by omega) hk1 hl1 (by decide) (by decide) (Nat.le_of_ble_eq_true rfl) q_53 rfl rfl ⟨(Nat.le_of_ble_eq_true rfl), (Nat.le_of_ble_eq_true rfl)⟩ dX3_init_7 rfl (fun b1 e1 n1 => ?_)
  refine sb_putr X 12 (r := (some (k + 1))) (.array .int) n1 (by omega) hk0 fd_3_0 (by decide) rfl ⟨hnm, rfl⟩ rfl rfl rfl dX3_init_9 rfl q_158 (fun b2 e2 n2 => ?_)
  refine sm_aload_n X 13 0 dX3_init_12 rfl rfl rfl ?_
  refine sm_iconst X 14 (0) dX3_init_13 rfl rfl ?_
  refine sb_puti X 17 .int n2 (by omega) hk0 fd_3_1 ⟨hnm, rfl⟩ rfl rfl rfl dX3_init_14 rfl q_160 (fun b3 e3 n3 => ?_)
  refine sm_aload_n X 18 0 dX3_init_17 rfl rfl rfl ?_
  refine sm_bipush X 20 (50) dX3_init_18 rfl rfl ?_
  refine sb_newa X 22 hG (k + 2) 2 100 n3 (by omega) hk2 hl2 (by decide) (by decide) (Nat.le_of_ble_eq_true rfl) q_53 rfl rfl ⟨(Nat.le_of_ble_eq_true rfl), (Nat.le_of_ble_eq_true rfl)⟩ dX3_init_20 rfl (fun b4 e4 n4 => ?_)
  refine sb_putr X 25 (r := (some (k + 2))) (.array .int) n4 (by omega) hk0 fd_3_2 (by decide) rfl ⟨hnm, rfl⟩ rfl rfl rfl dX3_init_22 rfl q_162 (fun b5 e5 n5 => ?_)
  refine sm_aload_n X 26 0 dX3_init_25 rfl rfl rfl ?_
  refine sm_iconst X 27 (0) dX3_init_26 rfl rfl ?_
  refine sb_puti X 30 .int n5 (by omega) hk0 fd_3_3 ⟨hnm, rfl⟩ rfl rfl rfl dX3_init_27 rfl q_163 (fun b6 e6 n6 => ?_)
  refine sm_aload_n X 31 0 dX3_init_30 rfl rfl rfl ?_
  refine sm_iconst X 32 (0) dX3_init_31 rfl rfl ?_
  refine sb_puti X 35 .int n6 (by omega) hk0 fd_3_4 ⟨hnm, rfl⟩ rfl rfl rfl dX3_init_32 rfl q_164 (fun b7 e7 n7 => ?_)
  refine sm_aload_n X 36 0 dX3_init_35 rfl rfl rfl ?_
  refine sm_ldcS X 38 0 dX3_init_36 rfl rfl (by decide : ((28, ""), 0) ∈ sA.zipIdx) ?_
  refine sb_putr X 41 (r := (some 1003)) (.object "java/lang/String") n7 (by omega) hk0 fd_3_5 (by decide) rfl ⟨hnm, rfl⟩ rfl rfl rfl dX3_init_38 rfl q_165 (fun b8 e8 n8 => ?_)
  exact sm_vret X hr dX3_init_41 (by rw [e8, e7, e6, e5, e4, e3, e2, e1]; rfl)
def i_X4_init (b : Bst) (k : Nat) : Bst := bI (bI (bR (bN (b)) k 0 (some (k + 1))) k 1 0) k 2 0
set_option maxRecDepth 20000 in
theorem dX4_init_0 : decode cX4_init 0 = .ok (.aload_n 0, 1) := by decide +kernel
set_option maxRecDepth 20000 in
theorem dX4_init_1 : decode cX4_init 1 = .ok (.invokespecial 3, 3) := by decide +kernel
set_option maxRecDepth 20000 in
theorem dX4_init_4 : decode cX4_init 4 = .ok (.aload_n 0, 1) := by decide +kernel
set_option maxRecDepth 20000 in
theorem dX4_init_5 : decode cX4_init 5 = .ok (.bipush 40, 2) := by decide +kernel
set_option maxRecDepth 20000 in
theorem dX4_init_7 : decode cX4_init 7 = .ok (.newarray .int, 2) := by decide +kernel
set_option maxRecDepth 20000 in
theorem dX4_init_9 : decode cX4_init 9 = .ok (.putfield 9, 3) := by decide +kernel
set_option maxRecDepth 20000 in
theorem dX4_init_12 : decode cX4_init 12 = .ok (.aload_n 0, 1) := by decide +kernel
set_option maxRecDepth 20000 in
theorem dX4_init_13 : decode cX4_init 13 = .ok (.iconst 0, 1) := by decide +kernel
set_option maxRecDepth 20000 in
theorem dX4_init_14 : decode cX4_init 14 = .ok (.putfield 15, 3) := by decide +kernel
set_option maxRecDepth 20000 in
theorem dX4_init_17 : decode cX4_init 17 = .ok (.aload_n 0, 1) := by decide +kernel
set_option maxRecDepth 20000 in
theorem dX4_init_18 : decode cX4_init 18 = .ok (.iconst 0, 1) := by decide +kernel
set_option maxRecDepth 20000 in
theorem dX4_init_19 : decode cX4_init 19 = .ok (.putfield 19, 3) := by decide +kernel
set_option maxRecDepth 20000 in
theorem dX4_init_22 : decode cX4_init 22 = .ok (.return_, 1) := by decide +kernel
set_option maxHeartbeats 4000000 in
set_option maxRecDepth 100000 in
theorem c_X4_init (l : Launch) (G : GT) (hG : GA G) (b : Bst) (k : Nat) (hb : b.1 = k + 1) (hlt : k + 1 < NC) (hk0 : K0 k = 4) (hk1 : K0 (k + 1) = 20) (hl1 : Ln0 (k + 1) = 40) : MW l G 2 64 1 40 yX4_init cX4_init 1 (Option.none : Option Jvm.ClassFile.FieldType) [.ref (gad G k)] (wb G b) none (wb G (i_X4_init b k)) := by
  refine mw_of RX4 (fun r : Bst => (none, wb G r)) [(0, .ref (gad G k))] (by decide +kernel) rfl (Nat.le_of_ble_eq_true rfl) rfl (o := some (i_X4_init b k)) rfl rfl (fun p e s m args below meth c X hr hnm => ?_)
  refine sm_aload_n X 1 0 dX4_init_0 rfl rfl rfl ?_
  refine sb_obj X 4 q_275 q_24 q_25 ⟨(Nat.le_of_ble_eq_true rfl), (Nat.le_of_ble_eq_true rfl)⟩ dX4_init_1 rfl ?_
  refine sm_aload_n X 5 0 dX4_init_4 rfl rfl rfl ?_
  refine sm_bipush X 7 (40) dX4_init_5 rfl rfl ?_
  refine sb_newa X 9 hG (k + 1) 1 40 hb (by omega) hk1 hl1 (by decide) (by decide) (Nat.le_of_ble_eq_true rfl) q_53 rfl rfl ⟨(Nat.le_of_ble_eq_true rfl), (Nat.le_of_ble_eq_true rfl)⟩ dX4_init_7 rfl (fun b1 e1 n1 => ?_)
  refine sb_putr X 12 (r := (some (k + 1))) (.array .int) n1 (by omega) hk0 fd_4_0 (by decide) rfl ⟨hnm, rfl⟩ rfl rfl rfl dX4_init_9 rfl q_276 (fun b2 e2 n2 => ?_)
  refine sm_aload_n X 13 0 dX4_init_12 rfl rfl rfl ?_
  refine sm_iconst X 14 (0) dX4_init_13 rfl rfl ?_
  refine sb_puti X 17 .int n2 (by omega) hk0 fd_4_1 ⟨hnm, rfl⟩ rfl rfl rfl dX4_init_14 rfl q_278 (fun b3 e3 n3 => ?_)
  refine sm_aload_n X 18 0 dX4_init_17 rfl rfl rfl ?_
  refine sm_iconst X 19 (0) dX4_init_18 rfl rfl ?_
  refine sb_puti X 22 .int n3 (by omega) hk0 fd_4_2 ⟨hnm, rfl⟩ rfl rfl rfl dX4_init_19 rfl q_280 (fun b4 e4 n4 => ?_)
  exact sm_vret X hr dX4_init_22 (by rw [e4, e3, e2, e1]; rfl)
theorem k_X4_init {b b' : Bst} {k a j x n : Nat} (e : b' = i_X4_init b k) (hn : b.1 = n) (h1 : a < n) (h2 : a ≠ k) (f : b.2.2 a j = some x) : b'.2.2 a j = some x := by
  subst e; subst hn; have q0 : a ≠ b.1 := by omega
  skip
  simp only [i_X4_init, bR, bI, bN]; simp [h2, f, q0]
def i_X5_init (b : Bst) (k : Nat) : Bst := bI (bI (bI (bI (bI (bR (bN (b)) k 0 (some (k + 1))) k 1 0) k 2 0) k 3 0) k 4 0) k 5 0
set_option maxRecDepth 20000 in
theorem dX5_init_0 : decode cX5_init 0 = .ok (.aload_n 0, 1) := by decide +kernel
set_option maxRecDepth 20000 in
theorem dX5_init_1 : decode cX5_init 1 = .ok (.invokespecial 3, 3) := by decide +kernel
set_option maxRecDepth 20000 in
theorem dX5_init_4 : decode cX5_init 4 = .ok (.aload_n 0, 1) := by decide +kernel
set_option maxRecDepth 20000 in
theorem dX5_init_5 : decode cX5_init 5 = .ok (.bipush 6, 2) := by decide +kernel
set_option maxRecDepth 20000 in
theorem dX5_init_7 : decode cX5_init 7 = .ok (.newarray .int, 2) := by decide +kernel
set_option maxRecDepth 20000 in
theorem dX5_init_9 : decode cX5_init 9 = .ok (.putfield 9, 3) := by decide +kernel
set_option maxRecDepth 20000 in
theorem dX5_init_12 : decode cX5_init 12 = .ok (.aload_n 0, 1) := by decide +kernel
set_option maxRecDepth 20000 in
theorem dX5_init_13 : decode cX5_init 13 = .ok (.iconst 0, 1) := by decide +kernel
set_option maxRecDepth 20000 in
theorem dX5_init_14 : decode cX5_init 14 = .ok (.putfield 15, 3) := by decide +kernel
set_option maxRecDepth 20000 in
theorem dX5_init_17 : decode cX5_init 17 = .ok (.aload_n 0, 1) := by decide +kernel
set_option maxRecDepth 20000 in
theorem dX5_init_18 : decode cX5_init 18 = .ok (.iconst 0, 1) := by decide +kernel
set_option maxRecDepth 20000 in
theorem dX5_init_19 : decode cX5_init 19 = .ok (.putfield 19, 3) := by decide +kernel
set_option maxRecDepth 20000 in
theorem dX5_init_22 : decode cX5_init 22 = .ok (.aload_n 0, 1) := by decide +kernel
set_option maxRecDepth 20000 in
theorem dX5_init_23 : decode cX5_init 23 = .ok (.iconst 0, 1) := by decide +kernel
set_option maxRecDepth 20000 in
theorem dX5_init_24 : decode cX5_init 24 = .ok (.putfield 22, 3) := by decide +kernel
set_option maxRecDepth 20000 in
theorem dX5_init_27 : decode cX5_init 27 = .ok (.aload_n 0, 1) := by decide +kernel
set_option maxRecDepth 20000 in
theorem dX5_init_28 : decode cX5_init 28 = .ok (.iconst 0, 1) := by decide +kernel
set_option maxRecDepth 20000 in
theorem dX5_init_29 : decode cX5_init 29 = .ok (.putfield 25, 3) := by decide +kernel
set_option maxRecDepth 20000 in
theorem dX5_init_32 : decode cX5_init 32 = .ok (.aload_n 0, 1) := by decide +kernel
set_option maxRecDepth 20000 in
theorem dX5_init_33 : decode cX5_init 33 = .ok (.iconst 0, 1) := by decide +kernel
set_option maxRecDepth 20000 in
theorem dX5_init_34 : decode cX5_init 34 = .ok (.putfield 28, 3) := by decide +kernel
set_option maxRecDepth 20000 in
theorem dX5_init_37 : decode cX5_init 37 = .ok (.return_, 1) := by decide +kernel
set_option maxHeartbeats 4000000 in
set_option maxRecDepth 100000 in
theorem c_X5_init (l : Launch) (G : GT) (hG : GA G) (b : Bst) (k : Nat) (hb : b.1 = k + 1) (hlt : k + 1 < NC) (hk0 : K0 k = 5) (hk1 : K0 (k + 1) = 20) (hl1 : Ln0 (k + 1) = 6) : MW l G 2 64 1 6 yX5_init cX5_init 1 (Option.none : Option Jvm.ClassFile.FieldType) [.ref (gad G k)] (wb G b) none (wb G (i_X5_init b k)) := by
  refine mw_of RX5 (fun r : Bst => (none, wb G r)) [(0, .ref (gad G k))] (by decide +kernel) rfl (Nat.le_of_ble_eq_true rfl) rfl (o := some (i_X5_init b k)) rfl rfl (fun p e s m args below meth c X hr hnm => ?_)
  refine sm_aload_n X 1 0 dX5_init_0 rfl rfl rfl ?_
  refine sb_obj X 4 q_185 q_24 q_25 ⟨(Nat.le_of_ble_eq_true rfl), (Nat.le_of_ble_eq_true rfl)⟩ dX5_init_1 rfl ?_
  refine sm_aload_n X 5 0 dX5_init_4 rfl rfl rfl ?_
  refine sm_bipush X 7 (6) dX5_init_5 rfl rfl ?_
  refine sb_newa X 9 hG (k + 1) 1 6 hb (by omega) hk1 hl1 (by decide) (by decide) (Nat.le_of_ble_eq_true rfl) q_53 rfl rfl ⟨(Nat.le_of_ble_eq_true rfl), (Nat.le_of_ble_eq_true rfl)⟩ dX5_init_7 rfl (fun b1 e1 n1 => ?_)
  refine sb_putr X 12 (r := (some (k + 1))) (.array .int) n1 (by omega) hk0 fd_5_0 (by decide) rfl ⟨hnm, rfl⟩ rfl rfl rfl dX5_init_9 rfl q_186 (fun b2 e2 n2 => ?_)
  refine sm_aload_n X 13 0 dX5_init_12 rfl rfl rfl ?_
  refine sm_iconst X 14 (0) dX5_init_13 rfl rfl ?_
  refine sb_puti X 17 .int n2 (by omega) hk0 fd_5_1 ⟨hnm, rfl⟩ rfl rfl rfl dX5_init_14 rfl q_187 (fun b3 e3 n3 => ?_)
  refine sm_aload_n X 18 0 dX5_init_17 rfl rfl rfl ?_
  refine sm_iconst X 19 (0) dX5_init_18 rfl rfl ?_
  refine sb_puti X 22 .int n3 (by omega) hk0 fd_5_2 ⟨hnm, rfl⟩ rfl rfl rfl dX5_init_19 rfl q_189 (fun b4 e4 n4 => ?_)
  refine sm_aload_n X 23 0 dX5_init_22 rfl rfl rfl ?_
  refine sm_iconst X 24 (0) dX5_init_23 rfl rfl ?_
  refine sb_puti X 27 .int n4 (by omega) hk0 fd_5_3 ⟨hnm, rfl⟩ rfl rfl rfl dX5_init_24 rfl q_191 (fun b5 e5 n5 => ?_)
  refine sm_aload_n X 28 0 dX5_init_27 rfl rfl rfl ?_
  refine sm_iconst X 29 (0) dX5_init_28 rfl rfl ?_
  refine sb_puti X 32 .int n5 (by omega) hk0 fd_5_4 ⟨hnm, rfl⟩ rfl rfl rfl dX5_init_29 rfl q_193 (fun b6 e6 n6 => ?_)
  refine sm_aload_n X 33 0 dX5_init_32 rfl rfl rfl ?_
  refine sm_iconst X 34 (0) dX5_init_33 rfl rfl ?_
  refine sb_puti X 37 .int n6 (by omega) hk0 fd_5_5 ⟨hnm, rfl⟩ rfl rfl rfl dX5_init_34 rfl q_194 (fun b7 e7 n7 => ?_)
  exact sm_vret X hr dX5_init_37 (by rw [e7, e6, e5, e4, e3, e2, e1]; rfl)
def i_X6_init (b : Bst) (k : Nat) : Bst := bR (bN (bI (bI (bI (bI (bI (b) k 0 0) k 1 0) k 2 0) k 3 0) k 4 0)) k 5 (some (k + 1))
set_option maxRecDepth 20000 in
theorem dX6_init_0 : decode cX6_init 0 = .ok (.aload_n 0, 1) := by decide +kernel
set_option maxRecDepth 20000 in
theorem dX6_init_1 : decode cX6_init 1 = .ok (.invokespecial 3, 3) := by decide +kernel
set_option maxRecDepth 20000 in
theorem dX6_init_4 : decode cX6_init 4 = .ok (.aload_n 0, 1) := by decide +kernel
set_option maxRecDepth 20000 in
theorem dX6_init_5 : decode cX6_init 5 = .ok (.iconst 0, 1) := by decide +kernel
set_option maxRecDepth 20000 in
theorem dX6_init_6 : decode cX6_init 6 = .ok (.putfield 9, 3) := by decide +kernel
set_option maxRecDepth 20000 in
theorem dX6_init_9 : decode cX6_init 9 = .ok (.aload_n 0, 1) := by decide +kernel
set_option maxRecDepth 20000 in
theorem dX6_init_10 : decode cX6_init 10 = .ok (.iconst 0, 1) := by decide +kernel
set_option maxRecDepth 20000 in
theorem dX6_init_11 : decode cX6_init 11 = .ok (.putfield 15, 3) := by decide +kernel
set_option maxRecDepth 20000 in
theorem dX6_init_14 : decode cX6_init 14 = .ok (.aload_n 0, 1) := by decide +kernel
set_option maxRecDepth 20000 in
theorem dX6_init_15 : decode cX6_init 15 = .ok (.iconst 0, 1) := by decide +kernel
set_option maxRecDepth 20000 in
theorem dX6_init_16 : decode cX6_init 16 = .ok (.putfield 18, 3) := by decide +kernel
set_option maxRecDepth 20000 in
theorem dX6_init_19 : decode cX6_init 19 = .ok (.aload_n 0, 1) := by decide +kernel
set_option maxRecDepth 20000 in
theorem dX6_init_20 : decode cX6_init 20 = .ok (.iconst 0, 1) := by decide +kernel
set_option maxRecDepth 20000 in
theorem dX6_init_21 : decode cX6_init 21 = .ok (.putfield 21, 3) := by decide +kernel
set_option maxRecDepth 20000 in
theorem dX6_init_24 : decode cX6_init 24 = .ok (.aload_n 0, 1) := by decide +kernel
set_option maxRecDepth 20000 in
theorem dX6_init_25 : decode cX6_init 25 = .ok (.iconst 0, 1) := by decide +kernel
set_option maxRecDepth 20000 in
theorem dX6_init_26 : decode cX6_init 26 = .ok (.putfield 24, 3) := by decide +kernel
set_option maxRecDepth 20000 in
theorem dX6_init_29 : decode cX6_init 29 = .ok (.aload_n 0, 1) := by decide +kernel
set_option maxRecDepth 20000 in
theorem dX6_init_30 : decode cX6_init 30 = .ok (.iconst 4, 1) := by decide +kernel
set_option maxRecDepth 20000 in
theorem dX6_init_31 : decode cX6_init 31 = .ok (.newarray .int, 2) := by decide +kernel
set_option maxRecDepth 20000 in
theorem dX6_init_33 : decode cX6_init 33 = .ok (.putfield 27, 3) := by decide +kernel
set_option maxRecDepth 20000 in
theorem dX6_init_36 : decode cX6_init 36 = .ok (.return_, 1) := by decide +kernel
set_option maxHeartbeats 4000000 in
set_option maxRecDepth 100000 in
theorem c_X6_init (l : Launch) (G : GT) (hG : GA G) (b : Bst) (k : Nat) (hb : b.1 = k + 1) (hlt : k + 1 < NC) (hk0 : K0 k = 6) (hk1 : K0 (k + 1) = 20) (hl1 : Ln0 (k + 1) = 4) : MW l G 2 64 1 4 yX6_init cX6_init 1 (Option.none : Option Jvm.ClassFile.FieldType) [.ref (gad G k)] (wb G b) none (wb G (i_X6_init b k)) := by
  refine mw_of RX6 (fun r : Bst => (none, wb G r)) [(0, .ref (gad G k))] (by decide +kernel) rfl (Nat.le_of_ble_eq_true rfl) rfl (o := some (i_X6_init b k)) rfl rfl (fun p e s m args below meth c X hr hnm => ?_)
  refine sm_aload_n X 1 0 dX6_init_0 rfl rfl rfl ?_
  refine sb_obj X 4 q_58 q_24 q_25 ⟨(Nat.le_of_ble_eq_true rfl), (Nat.le_of_ble_eq_true rfl)⟩ dX6_init_1 rfl ?_
  refine sm_aload_n X 5 0 dX6_init_4 rfl rfl rfl ?_
  refine sm_iconst X 6 (0) dX6_init_5 rfl rfl ?_
  refine sb_puti X 9 .int hb (by omega) hk0 fd_6_0 ⟨hnm, rfl⟩ rfl rfl rfl dX6_init_6 rfl q_59 (fun b1 e1 n1 => ?_)
  refine sm_aload_n X 10 0 dX6_init_9 rfl rfl rfl ?_
  refine sm_iconst X 11 (0) dX6_init_10 rfl rfl ?_
  refine sb_puti X 14 .int n1 (by omega) hk0 fd_6_1 ⟨hnm, rfl⟩ rfl rfl rfl dX6_init_11 rfl q_62 (fun b2 e2 n2 => ?_)
  refine sm_aload_n X 15 0 dX6_init_14 rfl rfl rfl ?_
  refine sm_iconst X 16 (0) dX6_init_15 rfl rfl ?_
  refine sb_puti X 19 .int n2 (by omega) hk0 fd_6_2 ⟨hnm, rfl⟩ rfl rfl rfl dX6_init_16 rfl q_65 (fun b3 e3 n3 => ?_)
  refine sm_aload_n X 20 0 dX6_init_19 rfl rfl rfl ?_
  refine sm_iconst X 21 (0) dX6_init_20 rfl rfl ?_
  refine sb_puti X 24 .int n3 (by omega) hk0 fd_6_3 ⟨hnm, rfl⟩ rfl rfl rfl dX6_init_21 rfl q_69 (fun b4 e4 n4 => ?_)
  refine sm_aload_n X 25 0 dX6_init_24 rfl rfl rfl ?_
  refine sm_iconst X 26 (0) dX6_init_25 rfl rfl ?_
  refine sb_puti X 29 .int n4 (by omega) hk0 fd_6_4 ⟨hnm, rfl⟩ rfl rfl rfl dX6_init_26 rfl q_71 (fun b5 e5 n5 => ?_)
  refine sm_aload_n X 30 0 dX6_init_29 rfl rfl rfl ?_
  refine sm_iconst X 31 (4) dX6_init_30 rfl rfl ?_
  refine sb_newa X 33 hG (k + 1) 1 4 n5 (by omega) hk1 hl1 (by decide) (by decide) (Nat.le_of_ble_eq_true rfl) q_53 rfl rfl ⟨(Nat.le_of_ble_eq_true rfl), (Nat.le_of_ble_eq_true rfl)⟩ dX6_init_31 rfl (fun b6 e6 n6 => ?_)
  refine sb_putr X 36 (r := (some (k + 1))) (.array .int) n6 (by omega) hk0 fd_6_5 (by decide) rfl ⟨hnm, rfl⟩ rfl rfl rfl dX6_init_33 rfl q_73 (fun b7 e7 n7 => ?_)
  exact sm_vret X hr dX6_init_36 (by rw [e7, e6, e5, e4, e3, e2, e1]; rfl)
theorem k_X6_init {b b' : Bst} {k a j x n : Nat} (e : b' = i_X6_init b k) (hn : b.1 = n) (h1 : a < n) (h2 : a ≠ k) (f : b.2.2 a j = some x) : b'.2.2 a j = some x := by
  subst e; subst hn; have q0 : a ≠ b.1 := by omega
  skip
  simp only [i_X6_init, bR, bI, bN]; simp [h2, f, q0]
def i_X7_init (b : Bst) (k : Nat) : Bst := bI (bI (bI (bI (bR (bN (b)) k 0 (some (k + 1))) k 1 0) k 2 0) k 3 0) k 4 0
set_option maxRecDepth 20000 in
theorem dX7_init_0 : decode cX7_init 0 = .ok (.aload_n 0, 1) := by decide +kernel
set_option maxRecDepth 20000 in
theorem dX7_init_1 : decode cX7_init 1 = .ok (.invokespecial 3, 3) := by decide +kernel
set_option maxRecDepth 20000 in
theorem dX7_init_4 : decode cX7_init 4 = .ok (.aload_n 0, 1) := by decide +kernel
set_option maxRecDepth 20000 in
theorem dX7_init_5 : decode cX7_init 5 = .ok (.bipush 40, 2) := by decide +kernel
set_option maxRecDepth 20000 in
theorem dX7_init_7 : decode cX7_init 7 = .ok (.newarray .int, 2) := by decide +kernel
set_option maxRecDepth 20000 in
theorem dX7_init_9 : decode cX7_init 9 = .ok (.putfield 9, 3) := by decide +kernel
set_option maxRecDepth 20000 in
theorem dX7_init_12 : decode cX7_init 12 = .ok (.aload_n 0, 1) := by decide +kernel
set_option maxRecDepth 20000 in
theorem dX7_init_13 : decode cX7_init 13 = .ok (.iconst 0, 1) := by decide +kernel
set_option maxRecDepth 20000 in
theorem dX7_init_14 : decode cX7_init 14 = .ok (.putfield 15, 3) := by decide +kernel
set_option maxRecDepth 20000 in
theorem dX7_init_17 : decode cX7_init 17 = .ok (.aload_n 0, 1) := by decide +kernel
set_option maxRecDepth 20000 in
theorem dX7_init_18 : decode cX7_init 18 = .ok (.iconst 0, 1) := by decide +kernel
set_option maxRecDepth 20000 in
theorem dX7_init_19 : decode cX7_init 19 = .ok (.putfield 19, 3) := by decide +kernel
set_option maxRecDepth 20000 in
theorem dX7_init_22 : decode cX7_init 22 = .ok (.aload_n 0, 1) := by decide +kernel
set_option maxRecDepth 20000 in
theorem dX7_init_23 : decode cX7_init 23 = .ok (.iconst 0, 1) := by decide +kernel
set_option maxRecDepth 20000 in
theorem dX7_init_24 : decode cX7_init 24 = .ok (.putfield 22, 3) := by decide +kernel
set_option maxRecDepth 20000 in
theorem dX7_init_27 : decode cX7_init 27 = .ok (.aload_n 0, 1) := by decide +kernel
set_option maxRecDepth 20000 in
theorem dX7_init_28 : decode cX7_init 28 = .ok (.iconst 0, 1) := by decide +kernel
set_option maxRecDepth 20000 in
theorem dX7_init_29 : decode cX7_init 29 = .ok (.putfield 25, 3) := by decide +kernel
set_option maxRecDepth 20000 in
theorem dX7_init_32 : decode cX7_init 32 = .ok (.return_, 1) := by decide +kernel
set_option maxHeartbeats 4000000 in
set_option maxRecDepth 100000 in
theorem c_X7_init (l : Launch) (G : GT) (hG : GA G) (b : Bst) (k : Nat) (hb : b.1 = k + 1) (hlt : k + 1 < NC) (hk0 : K0 k = 7) (hk1 : K0 (k + 1) = 20) (hl1 : Ln0 (k + 1) = 40) : MW l G 2 64 1 40 yX7_init cX7_init 1 (Option.none : Option Jvm.ClassFile.FieldType) [.ref (gad G k)] (wb G b) none (wb G (i_X7_init b k)) := by
  refine mw_of RX7 (fun r : Bst => (none, wb G r)) [(0, .ref (gad G k))] (by decide +kernel) rfl (Nat.le_of_ble_eq_true rfl) rfl (o := some (i_X7_init b k)) rfl rfl (fun p e s m args below meth c X hr hnm => ?_)
  refine sm_aload_n X 1 0 dX7_init_0 rfl rfl rfl ?_
  refine sb_obj X 4 q_248 q_24 q_25 ⟨(Nat.le_of_ble_eq_true rfl), (Nat.le_of_ble_eq_true rfl)⟩ dX7_init_1 rfl ?_
  refine sm_aload_n X 5 0 dX7_init_4 rfl rfl rfl ?_
  refine sm_bipush X 7 (40) dX7_init_5 rfl rfl ?_
  refine sb_newa X 9 hG (k + 1) 1 40 hb (by omega) hk1 hl1 (by decide) (by decide) (Nat.le_of_ble_eq_true rfl) q_53 rfl rfl ⟨(Nat.le_of_ble_eq_true rfl), (Nat.le_of_ble_eq_true rfl)⟩ dX7_init_7 rfl (fun b1 e1 n1 => ?_)
  refine sb_putr X 12 (r := (some (k + 1))) (.array .int) n1 (by omega) hk0 fd_7_0 (by decide) rfl ⟨hnm, rfl⟩ rfl rfl rfl dX7_init_9 rfl q_249 (fun b2 e2 n2 => ?_)
  refine sm_aload_n X 13 0 dX7_init_12 rfl rfl rfl ?_
  refine sm_iconst X 14 (0) dX7_init_13 rfl rfl ?_
  refine sb_puti X 17 .int n2 (by omega) hk0 fd_7_1 ⟨hnm, rfl⟩ rfl rfl rfl dX7_init_14 rfl q_251 (fun b3 e3 n3 => ?_)
  refine sm_aload_n X 18 0 dX7_init_17 rfl rfl rfl ?_
  refine sm_iconst X 19 (0) dX7_init_18 rfl rfl ?_
  refine sb_puti X 22 .int n3 (by omega) hk0 fd_7_2 ⟨hnm, rfl⟩ rfl rfl rfl dX7_init_19 rfl q_253 (fun b4 e4 n4 => ?_)
  refine sm_aload_n X 23 0 dX7_init_22 rfl rfl rfl ?_
  refine sm_iconst X 24 (0) dX7_init_23 rfl rfl ?_
  refine sb_puti X 27 .int n4 (by omega) hk0 fd_7_3 ⟨hnm, rfl⟩ rfl rfl rfl dX7_init_24 rfl q_254 (fun b5 e5 n5 => ?_)
  refine sm_aload_n X 28 0 dX7_init_27 rfl rfl rfl ?_
  refine sm_iconst X 29 (0) dX7_init_28 rfl rfl ?_
  refine sb_puti X 32 .int n5 (by omega) hk0 fd_7_4 ⟨hnm, rfl⟩ rfl rfl rfl dX7_init_29 rfl q_255 (fun b6 e6 n6 => ?_)
  exact sm_vret X hr dX7_init_32 (by rw [e6, e5, e4, e3, e2, e1]; rfl)
def i_X0_init_1 (b : Bst) : Bst := bR (i_X6_init (bN (bR (i_X6_init (bN (bR (i_X6_init (bN (bR (i_X6_init (bN (bR (i_X6_init (bN (bR (i_X6_init (bN (bR (i_X6_init (bN (bR (i_X6_init (bN (bI (bI (bR (bN (bI (bR (bN (bR (i_X1_init (bN (bR (i_X1_init (bN (bI (bR (bN (bI (bI (bI (bI (bI (bI (bR (bN (b)) 1 0 (some 2)) 1 1 0) 1 2 10) 1 3 600) 1 4 0) 1 5 0) 1 6 0)) 1 7 (some 3)) 1 8 0)) 4 0) 1 9 (some 4))) 7 1) 1 10 (some 7))) 1 11 (some 10)) 1 12 0)) 1 13 (some 11)) 1 14 0) 1 15 1)) 12 ) 3 0 (some 12))) 14 ) 3 1 (some 14))) 16 ) 3 2 (some 16))) 18 ) 3 3 (some 18))) 20 ) 3 4 (some 20))) 22 ) 3 5 (some 22))) 24 ) 3 6 (some 24))) 26 ) 3 7 (some 26)
set_option maxRecDepth 20000 in
theorem dX0_init_0 : decode cX0_init 0 = .ok (.aload_n 0, 1) := by decide +kernel
set_option maxRecDepth 20000 in
theorem dX0_init_1 : decode cX0_init 1 = .ok (.invokespecial 3, 3) := by decide +kernel
set_option maxRecDepth 20000 in
theorem dX0_init_4 : decode cX0_init 4 = .ok (.aload_n 0, 1) := by decide +kernel
set_option maxRecDepth 20000 in
theorem dX0_init_5 : decode cX0_init 5 = .ok (.bipush 6, 2) := by decide +kernel
set_option maxRecDepth 20000 in
theorem dX0_init_7 : decode cX0_init 7 = .ok (.newarray .int, 2) := by decide +kernel
set_option maxRecDepth 20000 in
theorem dX0_init_9 : decode cX0_init 9 = .ok (.putfield 9, 3) := by decide +kernel
set_option maxRecDepth 20000 in
theorem dX0_init_12 : decode cX0_init 12 = .ok (.aload_n 0, 1) := by decide +kernel
set_option maxRecDepth 20000 in
theorem dX0_init_13 : decode cX0_init 13 = .ok (.iconst 0, 1) := by decide +kernel
set_option maxRecDepth 20000 in
theorem dX0_init_14 : decode cX0_init 14 = .ok (.putfield 15, 3) := by decide +kernel
set_option maxRecDepth 20000 in
theorem dX0_init_17 : decode cX0_init 17 = .ok (.aload_n 0, 1) := by decide +kernel
set_option maxRecDepth 20000 in
theorem dX0_init_18 : decode cX0_init 18 = .ok (.bipush 10, 2) := by decide +kernel
set_option maxRecDepth 20000 in
theorem dX0_init_20 : decode cX0_init 20 = .ok (.putfield 19, 3) := by decide +kernel
set_option maxRecDepth 20000 in
theorem dX0_init_23 : decode cX0_init 23 = .ok (.aload_n 0, 1) := by decide +kernel
set_option maxRecDepth 20000 in
theorem dX0_init_24 : decode cX0_init 24 = .ok (.sipush 600, 3) := by decide +kernel
set_option maxRecDepth 20000 in
theorem dX0_init_27 : decode cX0_init 27 = .ok (.putfield 22, 3) := by decide +kernel
set_option maxRecDepth 20000 in
theorem dX0_init_30 : decode cX0_init 30 = .ok (.aload_n 0, 1) := by decide +kernel
set_option maxRecDepth 20000 in
theorem dX0_init_31 : decode cX0_init 31 = .ok (.iconst 0, 1) := by decide +kernel
set_option maxRecDepth 20000 in
theorem dX0_init_32 : decode cX0_init 32 = .ok (.putfield 25, 3) := by decide +kernel
set_option maxRecDepth 20000 in
theorem dX0_init_35 : decode cX0_init 35 = .ok (.aload_n 0, 1) := by decide +kernel
set_option maxRecDepth 20000 in
theorem dX0_init_36 : decode cX0_init 36 = .ok (.iconst 0, 1) := by decide +kernel
set_option maxRecDepth 20000 in
theorem dX0_init_37 : decode cX0_init 37 = .ok (.putfield 28, 3) := by decide +kernel
set_option maxRecDepth 20000 in
theorem dX0_init_40 : decode cX0_init 40 = .ok (.aload_n 0, 1) := by decide +kernel
set_option maxRecDepth 20000 in
theorem dX0_init_41 : decode cX0_init 41 = .ok (.iconst 0, 1) := by decide +kernel
set_option maxRecDepth 20000 in
theorem dX0_init_42 : decode cX0_init 42 = .ok (.putfield 31, 3) := by decide +kernel
set_option maxRecDepth 20000 in
theorem dX0_init_45 : decode cX0_init 45 = .ok (.aload_n 0, 1) := by decide +kernel
set_option maxRecDepth 20000 in
theorem dX0_init_46 : decode cX0_init 46 = .ok (.bipush 8, 2) := by decide +kernel
set_option maxRecDepth 20000 in
theorem dX0_init_48 : decode cX0_init 48 = .ok (.anewarray 34, 3) := by decide +kernel
set_option maxRecDepth 20000 in
theorem dX0_init_51 : decode cX0_init 51 = .ok (.putfield 36, 3) := by decide +kernel
set_option maxRecDepth 20000 in
theorem dX0_init_54 : decode cX0_init 54 = .ok (.aload_n 0, 1) := by decide +kernel
set_option maxRecDepth 20000 in
theorem dX0_init_55 : decode cX0_init 55 = .ok (.iconst 0, 1) := by decide +kernel
set_option maxRecDepth 20000 in
theorem dX0_init_56 : decode cX0_init 56 = .ok (.putfield 40, 3) := by decide +kernel
set_option maxRecDepth 20000 in
theorem dX0_init_59 : decode cX0_init 59 = .ok (.aload_n 0, 1) := by decide +kernel
set_option maxRecDepth 20000 in
theorem dX0_init_60 : decode cX0_init 60 = .ok (.new 43, 3) := by decide +kernel
set_option maxRecDepth 20000 in
theorem dX0_init_63 : decode cX0_init 63 = .ok (.dup, 1) := by decide +kernel
set_option maxRecDepth 20000 in
theorem dX0_init_64 : decode cX0_init 64 = .ok (.iconst 0, 1) := by decide +kernel
set_option maxRecDepth 20000 in
theorem dX0_init_65 : decode cX0_init 65 = .ok (.invokespecial 45, 3) := by decide +kernel
set_option maxRecDepth 20000 in
theorem dX0_init_68 : decode cX0_init 68 = .ok (.putfield 48, 3) := by decide +kernel
set_option maxRecDepth 20000 in
theorem dX0_init_71 : decode cX0_init 71 = .ok (.aload_n 0, 1) := by decide +kernel
set_option maxRecDepth 20000 in
theorem dX0_init_72 : decode cX0_init 72 = .ok (.new 43, 3) := by decide +kernel
set_option maxRecDepth 20000 in
theorem dX0_init_75 : decode cX0_init 75 = .ok (.dup, 1) := by decide +kernel
set_option maxRecDepth 20000 in
theorem dX0_init_76 : decode cX0_init 76 = .ok (.iconst 1, 1) := by decide +kernel
set_option maxRecDepth 20000 in
theorem dX0_init_77 : decode cX0_init 77 = .ok (.invokespecial 45, 3) := by decide +kernel
set_option maxRecDepth 20000 in
theorem dX0_init_80 : decode cX0_init 80 = .ok (.putfield 52, 3) := by decide +kernel
set_option maxRecDepth 20000 in
theorem dX0_init_83 : decode cX0_init 83 = .ok (.aload_n 0, 1) := by decide +kernel
set_option maxRecDepth 20000 in
theorem dX0_init_84 : decode cX0_init 84 = .ok (.bipush 50, 2) := by decide +kernel
set_option maxRecDepth 20000 in
theorem dX0_init_86 : decode cX0_init 86 = .ok (.newarray .int, 2) := by decide +kernel
set_option maxRecDepth 20000 in
theorem dX0_init_88 : decode cX0_init 88 = .ok (.putfield 55, 3) := by decide +kernel
set_option maxRecDepth 20000 in
theorem dX0_init_91 : decode cX0_init 91 = .ok (.aload_n 0, 1) := by decide +kernel
set_option maxRecDepth 20000 in
theorem dX0_init_92 : decode cX0_init 92 = .ok (.iconst 0, 1) := by decide +kernel
set_option maxRecDepth 20000 in
theorem dX0_init_93 : decode cX0_init 93 = .ok (.putfield 58, 3) := by decide +kernel
set_option maxRecDepth 20000 in
theorem dX0_init_96 : decode cX0_init 96 = .ok (.aload_n 0, 1) := by decide +kernel
set_option maxRecDepth 20000 in
theorem dX0_init_97 : decode cX0_init 97 = .ok (.bipush 20, 2) := by decide +kernel
set_option maxRecDepth 20000 in
theorem dX0_init_99 : decode cX0_init 99 = .ok (.newarray .int, 2) := by decide +kernel
set_option maxRecDepth 20000 in
theorem dX0_init_101 : decode cX0_init 101 = .ok (.putfield 61, 3) := by decide +kernel
set_option maxRecDepth 20000 in
theorem dX0_init_104 : decode cX0_init 104 = .ok (.aload_n 0, 1) := by decide +kernel
set_option maxRecDepth 20000 in
theorem dX0_init_105 : decode cX0_init 105 = .ok (.iconst 0, 1) := by decide +kernel
set_option maxRecDepth 20000 in
theorem dX0_init_106 : decode cX0_init 106 = .ok (.putfield 64, 3) := by decide +kernel
set_option maxRecDepth 20000 in
theorem dX0_init_109 : decode cX0_init 109 = .ok (.aload_n 0, 1) := by decide +kernel
set_option maxRecDepth 20000 in
theorem dX0_init_110 : decode cX0_init 110 = .ok (.iconst 1, 1) := by decide +kernel
set_option maxRecDepth 20000 in
theorem dX0_init_111 : decode cX0_init 111 = .ok (.putfield 67, 3) := by decide +kernel
set_option maxRecDepth 20000 in
theorem dX0_init_114 : decode cX0_init 114 = .ok (.iconst 0, 1) := by decide +kernel
set_option maxRecDepth 20000 in
theorem dX0_init_115 : decode cX0_init 115 = .ok (.istore_n 1, 1) := by decide +kernel
set_option maxRecDepth 20000 in
theorem dX0_init_116 : decode cX0_init 116 = .ok (.iload_n 1, 1) := by decide +kernel
set_option maxRecDepth 20000 in
theorem dX0_init_117 : decode cX0_init 117 = .ok (.aload_n 0, 1) := by decide +kernel
set_option maxRecDepth 20000 in
theorem dX0_init_118 : decode cX0_init 118 = .ok (.getfield 36, 3) := by decide +kernel
set_option maxRecDepth 20000 in
theorem dX0_init_121 : decode cX0_init 121 = .ok (.arraylength, 1) := by decide +kernel
set_option maxRecDepth 20000 in
theorem dX0_init_122 : decode cX0_init 122 = .ok (.if_icmp .ge 22, 3) := by decide +kernel
set_option maxRecDepth 20000 in
theorem dX0_init_125 : decode cX0_init 125 = .ok (.aload_n 0, 1) := by decide +kernel
set_option maxRecDepth 20000 in
theorem dX0_init_126 : decode cX0_init 126 = .ok (.getfield 36, 3) := by decide +kernel
set_option maxRecDepth 20000 in
theorem dX0_init_129 : decode cX0_init 129 = .ok (.iload_n 1, 1) := by decide +kernel
set_option maxRecDepth 20000 in
theorem dX0_init_130 : decode cX0_init 130 = .ok (.new 34, 3) := by decide +kernel
set_option maxRecDepth 20000 in
theorem dX0_init_133 : decode cX0_init 133 = .ok (.dup, 1) := by decide +kernel
set_option maxRecDepth 20000 in
theorem dX0_init_134 : decode cX0_init 134 = .ok (.invokespecial 70, 3) := by decide +kernel
set_option maxRecDepth 20000 in
theorem dX0_init_137 : decode cX0_init 137 = .ok (.aastore, 1) := by decide +kernel
set_option maxRecDepth 20000 in
theorem dX0_init_138 : decode cX0_init 138 = .ok (.iinc 1 1, 3) := by decide +kernel
set_option maxRecDepth 20000 in
theorem dX0_init_141 : decode cX0_init 141 = .ok (.goto (-25), 3) := by decide +kernel
set_option maxRecDepth 20000 in
theorem dX0_init_144 : decode cX0_init 144 = .ok (.return_, 1) := by decide +kernel
set_option maxHeartbeats 4000000 in
set_option maxRecDepth 100000 in
theorem c_X0_init_1 (l : Launch) (G : GT) (hG : GA G) (b : Bst) (hb : b.1 = 2) : MW l G 3 85 26 372 yX0_init cX0_init 2 (Option.none : Option Jvm.ClassFile.FieldType) [.ref (gad G 1)] (wb G b) none (wb G (i_X0_init_1 b)) := by
  refine mw_of RX0 (fun r : Bst => (none, wb G r)) [(0, .ref (gad G 1))] (by decide +kernel) rfl (Nat.le_of_ble_eq_true rfl) rfl (o := some (i_X0_init_1 b)) rfl rfl (fun p e s m args below meth c X hr hnm => ?_)
  refine sm_aload_n X 1 0 dX0_init_0 rfl rfl rfl ?_
  refine sb_obj X 4 q_31 q_24 q_25 ⟨(Nat.le_of_ble_eq_true rfl), (Nat.le_of_ble_eq_true rfl)⟩ dX0_init_1 rfl ?_
  refine sm_aload_n X 5 0 dX0_init_4 rfl rfl rfl ?_
  refine sm_bipush X 7 (6) dX0_init_5 rfl rfl ?_
  refine sb_newa X 9 hG 2 1 6 hb (by decide) (by decide : K0 2 = 20) (by decide : Ln0 2 = 6) (by decide) (by decide) (Nat.le_of_ble_eq_true rfl) q_53 rfl rfl ⟨(Nat.le_of_ble_eq_true rfl), (Nat.le_of_ble_eq_true rfl)⟩ dX0_init_7 rfl (fun b1 e1 n1 => ?_)
  refine sb_putr X 12 (r := (some 2)) (.array .int) n1 (by decide) (by decide : K0 1 = 0) fd_0_0 (by decide) rfl ⟨hnm, rfl⟩ rfl rfl rfl dX0_init_9 rfl q_89 (fun b2 e2 n2 => ?_)
  refine sm_aload_n X 13 0 dX0_init_12 rfl rfl rfl ?_
  refine sm_iconst X 14 (0) dX0_init_13 rfl rfl ?_
  refine sb_puti X 17 .int n2 (by decide) (by decide : K0 1 = 0) fd_0_1 ⟨hnm, rfl⟩ rfl rfl rfl dX0_init_14 rfl q_91 (fun b3 e3 n3 => ?_)
  refine sm_aload_n X 18 0 dX0_init_17 rfl rfl rfl ?_
  refine sm_bipush X 20 (10) dX0_init_18 rfl rfl ?_
  refine sb_puti X 23 .int n3 (by decide) (by decide : K0 1 = 0) fd_0_2 ⟨hnm, rfl⟩ rfl rfl rfl dX0_init_20 rfl q_93 (fun b4 e4 n4 => ?_)
  refine sm_aload_n X 24 0 dX0_init_23 rfl rfl rfl ?_
  refine sm_sipush X 27 (600) dX0_init_24 rfl rfl ?_
  refine sb_puti X 30 .int n4 (by decide) (by decide : K0 1 = 0) fd_0_3 ⟨hnm, rfl⟩ rfl rfl rfl dX0_init_27 rfl q_95 (fun b5 e5 n5 => ?_)
  refine sm_aload_n X 31 0 dX0_init_30 rfl rfl rfl ?_
  refine sm_iconst X 32 (0) dX0_init_31 rfl rfl ?_
  refine sb_puti X 35 .int n5 (by decide) (by decide : K0 1 = 0) fd_0_4 ⟨hnm, rfl⟩ rfl rfl rfl dX0_init_32 rfl q_97 (fun b6 e6 n6 => ?_)
  refine sm_aload_n X 36 0 dX0_init_35 rfl rfl rfl ?_
  refine sm_iconst X 37 (0) dX0_init_36 rfl rfl ?_
  refine sb_puti X 40 .int n6 (by decide) (by decide : K0 1 = 0) fd_0_5 ⟨hnm, rfl⟩ rfl rfl rfl dX0_init_37 rfl q_99 (fun b7 e7 n7 => ?_)
  refine sm_aload_n X 41 0 dX0_init_40 rfl rfl rfl ?_
  refine sm_iconst X 42 (0) dX0_init_41 rfl rfl ?_
  refine sb_puti X 45 .int n7 (by decide) (by decide : K0 1 = 0) fd_0_6 ⟨hnm, rfl⟩ rfl rfl rfl dX0_init_42 rfl q_101 (fun b8 e8 n8 => ?_)
  refine sm_aload_n X 46 0 dX0_init_45 rfl rfl rfl ?_
  refine sm_bipush X 48 (8) dX0_init_46 rfl rfl ?_
  refine sb_newq X 51 1 hG 3 2 14 n8 (by decide) (by decide) (by decide : K0 3 = 21) (by decide : Ln0 3 = 8) (by decide) (by decide) (Nat.le_of_ble_eq_true rfl) ⟨_, rfl⟩ rfl X.2.2.2.2.2.2.2.1.2.1 q_32 rfl rfl ⟨(Nat.le_of_ble_eq_true rfl), (Nat.le_of_ble_eq_true rfl)⟩ dX0_init_48 rfl (fun b9 e9 n9 => ?_)
  refine sb_putr X 54 (r := (some 3)) (.array (.object "LakeSwimmers$Swimmer")) n9 (by decide) (by decide : K0 1 = 0) fd_0_7 (by decide) rfl ⟨hnm, rfl⟩ rfl rfl rfl dX0_init_51 rfl q_103 (fun b10 e10 n10 => ?_)
  have f7_10 := bR_here e10
  refine sm_aload_n X 55 0 dX0_init_54 rfl rfl rfl ?_
  refine sm_iconst X 56 (0) dX0_init_55 rfl rfl ?_
  refine sb_puti X 59 .int n10 (by decide) (by decide : K0 1 = 0) fd_0_8 ⟨hnm, rfl⟩ rfl rfl rfl dX0_init_56 rfl q_104 (fun b11 e11 n11 => ?_)
  have f7_11 := bI_keep e11 f7_10
  refine sm_aload_n X 60 0 dX0_init_59 rfl rfl rfl ?_
  refine sb_new X 63 hG 4 3 18 n11 (by decide) (by decide : K0 4 = 1) (by decide) rfl inX1 tyX1_ok df_1 q_34 q_35 q_3 rfl rfl ⟨(Nat.le_of_ble_eq_true rfl), (Nat.le_of_ble_eq_true rfl)⟩ dX0_init_60 rfl (fun b12 e12 n12 => ?_)
  have f7_12 := bN_keep e12 n11 (by decide) f7_11
  refine sm_dup X 64 dX0_init_63 rfl rfl ?_
  refine sm_iconst X 65 (0) dX0_init_64 rfl rfl ?_
  refine sb_callI X 68 [.int 0] [.ref (gad G 4), .ref (gad G 1)] 5 118 (c_X1_init l G hG b12 4 0 n12 (by decide : 4 + 2 < NC) (by decide : K0 4 = 1) (by decide : K0 (4 + 1) = 20) (by decide : Ln0 (4 + 1) = 50) (by decide : K0 (4 + 2) = 20) (by decide : Ln0 (4 + 2) = 50)) (cw_X1_init) q_37 rfl q_36 rfl rfl (Nat.le_of_ble_eq_true rfl) ⟨(Nat.le_of_ble_eq_true rfl), (Nat.le_of_ble_eq_true rfl)⟩ rfl rfl ⟨(Nat.le_of_ble_eq_true rfl), (Nat.le_of_ble_eq_true rfl)⟩ dX0_init_65 rfl ?_
  obtain ⟨b13, e13⟩ : ∃ z, z = i_X1_init (b12) 4 0 := ⟨_, rfl⟩
  have n13 : b13.1 = 7 := by rw [e13]; show b12.1 + 2 = 7; rw [n12]
  rw [← e13]
  have f7_13 := k_X1_init e13 n12 (by decide) (by decide) f7_12
  refine sb_putr X 71 (r := (some 4)) (.object "LakeSwimmers$Law") n13 (by decide) (by decide : K0 1 = 0) fd_0_9 (by decide) rfl ⟨hnm, rfl⟩ rfl rfl rfl dX0_init_68 rfl q_106 (fun b14 e14 n14 => ?_)
  have f7_14 := bR_keep e14 (by decide) f7_13
  refine sm_aload_n X 72 0 dX0_init_71 rfl rfl rfl ?_
  refine sb_new X 75 hG 7 6 122 n14 (by decide) (by decide : K0 7 = 1) (by decide) rfl inX1 tyX1_ok df_1 q_34 q_35 q_3 rfl rfl ⟨(Nat.le_of_ble_eq_true rfl), (Nat.le_of_ble_eq_true rfl)⟩ dX0_init_72 rfl (fun b15 e15 n15 => ?_)
  have f7_15 := bN_keep e15 n14 (by decide) f7_14
  refine sm_dup X 76 dX0_init_75 rfl rfl ?_
  refine sm_iconst X 77 (1) dX0_init_76 rfl rfl ?_
  refine sb_callI X 80 [.int 1] [.ref (gad G 7), .ref (gad G 1)] 8 222 (c_X1_init l G hG b15 7 1 n15 (by decide : 7 + 2 < NC) (by decide : K0 7 = 1) (by decide : K0 (7 + 1) = 20) (by decide : Ln0 (7 + 1) = 50) (by decide : K0 (7 + 2) = 20) (by decide : Ln0 (7 + 2) = 50)) (cw_X1_init) q_37 rfl q_36 rfl rfl (Nat.le_of_ble_eq_true rfl) ⟨(Nat.le_of_ble_eq_true rfl), (Nat.le_of_ble_eq_true rfl)⟩ rfl rfl ⟨(Nat.le_of_ble_eq_true rfl), (Nat.le_of_ble_eq_true rfl)⟩ dX0_init_77 rfl ?_
  obtain ⟨b16, e16⟩ : ∃ z, z = i_X1_init (b15) 7 1 := ⟨_, rfl⟩
  have n16 : b16.1 = 10 := by rw [e16]; show b15.1 + 2 = 10; rw [n15]
  rw [← e16]
  have f7_16 := k_X1_init e16 n15 (by decide) (by decide) f7_15
  refine sb_putr X 83 (r := (some 7)) (.object "LakeSwimmers$Law") n16 (by decide) (by decide : K0 1 = 0) fd_0_10 (by decide) rfl ⟨hnm, rfl⟩ rfl rfl rfl dX0_init_80 rfl q_107 (fun b17 e17 n17 => ?_)
  have f7_17 := bR_keep e17 (by decide) f7_16
  refine sm_aload_n X 84 0 dX0_init_83 rfl rfl rfl ?_
  refine sm_bipush X 86 (50) dX0_init_84 rfl rfl ?_
  refine sb_newa X 88 hG 10 9 272 n17 (by decide) (by decide : K0 10 = 20) (by decide : Ln0 10 = 50) (by decide) (by decide) (Nat.le_of_ble_eq_true rfl) q_53 rfl rfl ⟨(Nat.le_of_ble_eq_true rfl), (Nat.le_of_ble_eq_true rfl)⟩ dX0_init_86 rfl (fun b18 e18 n18 => ?_)
  have f7_18 := bN_keep e18 n17 (by decide) f7_17
  refine sb_putr X 91 (r := (some 10)) (.array .int) n18 (by decide) (by decide : K0 1 = 0) fd_0_11 (by decide) rfl ⟨hnm, rfl⟩ rfl rfl rfl dX0_init_88 rfl q_108 (fun b19 e19 n19 => ?_)
  have f7_19 := bR_keep e19 (by decide) f7_18
  refine sm_aload_n X 92 0 dX0_init_91 rfl rfl rfl ?_
  refine sm_iconst X 93 (0) dX0_init_92 rfl rfl ?_
  refine sb_puti X 96 .int n19 (by decide) (by decide : K0 1 = 0) fd_0_12 ⟨hnm, rfl⟩ rfl rfl rfl dX0_init_93 rfl q_110 (fun b20 e20 n20 => ?_)
  have f7_20 := bI_keep e20 f7_19
  refine sm_aload_n X 97 0 dX0_init_96 rfl rfl rfl ?_
  refine sm_bipush X 99 (20) dX0_init_97 rfl rfl ?_
  refine sb_newa X 101 hG 11 10 292 n20 (by decide) (by decide : K0 11 = 20) (by decide : Ln0 11 = 20) (by decide) (by decide) (Nat.le_of_ble_eq_true rfl) q_53 rfl rfl ⟨(Nat.le_of_ble_eq_true rfl), (Nat.le_of_ble_eq_true rfl)⟩ dX0_init_99 rfl (fun b21 e21 n21 => ?_)
  have f7_21 := bN_keep e21 n20 (by decide) f7_20
  refine sb_putr X 104 (r := (some 11)) (.array .int) n21 (by decide) (by decide : K0 1 = 0) fd_0_13 (by decide) rfl ⟨hnm, rfl⟩ rfl rfl rfl dX0_init_101 rfl q_112 (fun b22 e22 n22 => ?_)
  have f7_22 := bR_keep e22 (by decide) f7_21
  refine sm_aload_n X 105 0 dX0_init_104 rfl rfl rfl ?_
  refine sm_iconst X 106 (0) dX0_init_105 rfl rfl ?_
  refine sb_puti X 109 .int n22 (by decide) (by decide : K0 1 = 0) fd_0_14 ⟨hnm, rfl⟩ rfl rfl rfl dX0_init_106 rfl q_114 (fun b23 e23 n23 => ?_)
  have f7_23 := bI_keep e23 f7_22
  refine sm_aload_n X 110 0 dX0_init_109 rfl rfl rfl ?_
  refine sm_iconst X 111 (1) dX0_init_110 rfl rfl ?_
  refine sb_puti X 114 .int n23 (by decide) (by decide : K0 1 = 0) fd_0_15 ⟨hnm, rfl⟩ rfl rfl rfl dX0_init_111 rfl q_116 (fun b24 e24 n24 => ?_)
  have f7_24 := bI_keep e24 f7_23
  refine sm_iconst X 115 (0) dX0_init_114 rfl rfl ?_
  refine sm_istore_n X 116 [(1, .int 0), (0, .ref (gad G 1))] dX0_init_115 rfl rfl (by decide) rfl ?_
  refine sm_iload_n X 117 0 dX0_init_116 rfl rfl rfl ?_
  refine sm_aload_n X 118 1 dX0_init_117 rfl rfl rfl ?_
  refine sb_getf X 121 3 n24 (by decide) (by decide : K0 1 = 0) fd_0_7 (by decide) f7_24 dX0_init_118 rfl q_103 ?_
  refine sb_alen X 122 8 n24 (by decide) (i := 1) (by decide) (by decide : K0 3 = 21) rfl (by decide) dX0_init_121 rfl ?_
  refine sb_ge X 125 144 dX0_init_122 rfl (by decide) (fun q => absurd q (by decide)) (fun _ => ?_)
  refine sm_aload_n X 126 1 dX0_init_125 rfl rfl rfl ?_
  refine sb_getf X 129 3 n24 (by decide) (by decide : K0 1 = 0) fd_0_7 (by decide) f7_24 dX0_init_126 rfl q_103 ?_
  refine sm_iload_n X 130 0 dX0_init_129 rfl rfl rfl ?_
  refine sb_new X 133 hG 12 11 298 n24 (by decide) (by decide : K0 12 = 6) (by decide) rfl inX6 tyX6_ok df_6 q_32 q_54 q_4 rfl rfl ⟨(Nat.le_of_ble_eq_true rfl), (Nat.le_of_ble_eq_true rfl)⟩ dX0_init_130 rfl (fun b25 e25 n25 => ?_)
  have f7_25 := bN_keep e25 n24 (by decide) f7_24
  refine sm_dup X 134 dX0_init_133 rfl rfl ?_
  refine sb_callIN X 137 (host := RX8) [] [.ref (gad G 12), .int 0, .ref (gad G 3)] 12 302 (c_X6_init l G hG b25 12  n25 (by decide : 12 + 1 < NC) (by decide : K0 12 = 6) (by decide : K0 (12 + 1) = 20) (by decide : Ln0 (12 + 1) = 4)) (cw_X6_init) q_56 rfl (List.mem_of_getElem? (i := 0) rfl) rfl rfl (Nat.le_of_ble_eq_true rfl) ⟨(Nat.le_of_ble_eq_true rfl), (Nat.le_of_ble_eq_true rfl)⟩ rfl rfl ⟨(Nat.le_of_ble_eq_true rfl), (Nat.le_of_ble_eq_true rfl)⟩ dX0_init_134 rfl ?_
  obtain ⟨b26, e26⟩ : ∃ z, z = i_X6_init (b25) 12  := ⟨_, rfl⟩
  have n26 : b26.1 = 14 := by rw [e26]; show b25.1 + 1 = 14; rw [n25]
  rw [← e26]
  have f7_26 := k_X6_init e26 n25 (by decide) (by decide) f7_25
  refine sb_aast X 138 (i := 1) (ci := 6) 0 n26 (by decide) (by decide) (by decide) (by decide : K0 3 = 21) rfl (by decide : K0 12 = 6) (by decide) rfl (by decide) (by decide) dX0_init_137 rfl (fun b27 e27 n27 => ?_)
  have f7_27 := bR_keep e27 (by decide) f7_26
  refine sm_iinc X 141 0 (1) [(1, .int 1), (0, .ref (gad G 1))] dX0_init_138 rfl rfl rfl (by decide) rfl ?_
  refine sm_goto X 116 dX0_init_141 (by decide) ?_
  refine sm_iload_n X 117 0 dX0_init_116 rfl rfl rfl ?_
  refine sm_aload_n X 118 1 dX0_init_117 rfl rfl rfl ?_
  refine sb_getf X 121 3 n27 (by decide) (by decide : K0 1 = 0) fd_0_7 (by decide) f7_27 dX0_init_118 rfl q_103 ?_
  refine sb_alen X 122 8 n27 (by decide) (i := 1) (by decide) (by decide : K0 3 = 21) rfl (by decide) dX0_init_121 rfl ?_
  refine sb_ge X 125 144 dX0_init_122 rfl (by decide) (fun q => absurd q (by decide)) (fun _ => ?_)
  refine sm_aload_n X 126 1 dX0_init_125 rfl rfl rfl ?_
  refine sb_getf X 129 3 n27 (by decide) (by decide : K0 1 = 0) fd_0_7 (by decide) f7_27 dX0_init_126 rfl q_103 ?_
  refine sm_iload_n X 130 0 dX0_init_129 rfl rfl rfl ?_
  refine sb_new X 133 hG 14 13 308 n27 (by decide) (by decide : K0 14 = 6) (by decide) rfl inX6 tyX6_ok df_6 q_32 q_54 q_4 rfl rfl ⟨(Nat.le_of_ble_eq_true rfl), (Nat.le_of_ble_eq_true rfl)⟩ dX0_init_130 rfl (fun b28 e28 n28 => ?_)
  have f7_28 := bN_keep e28 n27 (by decide) f7_27
  refine sm_dup X 134 dX0_init_133 rfl rfl ?_
  refine sb_callIN X 137 (host := RX8) [] [.ref (gad G 14), .int 1, .ref (gad G 3)] 14 312 (c_X6_init l G hG b28 14  n28 (by decide : 14 + 1 < NC) (by decide : K0 14 = 6) (by decide : K0 (14 + 1) = 20) (by decide : Ln0 (14 + 1) = 4)) (cw_X6_init) q_56 rfl (List.mem_of_getElem? (i := 0) rfl) rfl rfl (Nat.le_of_ble_eq_true rfl) ⟨(Nat.le_of_ble_eq_true rfl), (Nat.le_of_ble_eq_true rfl)⟩ rfl rfl ⟨(Nat.le_of_ble_eq_true rfl), (Nat.le_of_ble_eq_true rfl)⟩ dX0_init_134 rfl ?_
  obtain ⟨b29, e29⟩ : ∃ z, z = i_X6_init (b28) 14  := ⟨_, rfl⟩
  have n29 : b29.1 = 16 := by rw [e29]; show b28.1 + 1 = 16; rw [n28]
  rw [← e29]
  have f7_29 := k_X6_init e29 n28 (by decide) (by decide) f7_28
  refine sb_aast X 138 (i := 1) (ci := 6) 1 n29 (by decide) (by decide) (by decide) (by decide : K0 3 = 21) rfl (by decide : K0 14 = 6) (by decide) rfl (by decide) (by decide) dX0_init_137 rfl (fun b30 e30 n30 => ?_)
  have f7_30 := bR_keep e30 (by decide) f7_29
  refine sm_iinc X 141 0 (1) [(1, .int 2), (0, .ref (gad G 1))] dX0_init_138 rfl rfl rfl (by decide) rfl ?_
  refine sm_goto X 116 dX0_init_141 (by decide) ?_
  refine sm_iload_n X 117 0 dX0_init_116 rfl rfl rfl ?_
  refine sm_aload_n X 118 1 dX0_init_117 rfl rfl rfl ?_
  refine sb_getf X 121 3 n30 (by decide) (by decide : K0 1 = 0) fd_0_7 (by decide) f7_30 dX0_init_118 rfl q_103 ?_
  refine sb_alen X 122 8 n30 (by decide) (i := 1) (by decide) (by decide : K0 3 = 21) rfl (by decide) dX0_init_121 rfl ?_
  refine sb_ge X 125 144 dX0_init_122 rfl (by decide) (fun q => absurd q (by decide)) (fun _ => ?_)
  refine sm_aload_n X 126 1 dX0_init_125 rfl rfl rfl ?_
  refine sb_getf X 129 3 n30 (by decide) (by decide : K0 1 = 0) fd_0_7 (by decide) f7_30 dX0_init_126 rfl q_103 ?_
  refine sm_iload_n X 130 0 dX0_init_129 rfl rfl rfl ?_
  refine sb_new X 133 hG 16 15 318 n30 (by decide) (by decide : K0 16 = 6) (by decide) rfl inX6 tyX6_ok df_6 q_32 q_54 q_4 rfl rfl ⟨(Nat.le_of_ble_eq_true rfl), (Nat.le_of_ble_eq_true rfl)⟩ dX0_init_130 rfl (fun b31 e31 n31 => ?_)
  have f7_31 := bN_keep e31 n30 (by decide) f7_30
  refine sm_dup X 134 dX0_init_133 rfl rfl ?_
  refine sb_callIN X 137 (host := RX8) [] [.ref (gad G 16), .int 2, .ref (gad G 3)] 16 322 (c_X6_init l G hG b31 16  n31 (by decide : 16 + 1 < NC) (by decide : K0 16 = 6) (by decide : K0 (16 + 1) = 20) (by decide : Ln0 (16 + 1) = 4)) (cw_X6_init) q_56 rfl (List.mem_of_getElem? (i := 0) rfl) rfl rfl (Nat.le_of_ble_eq_true rfl) ⟨(Nat.le_of_ble_eq_true rfl), (Nat.le_of_ble_eq_true rfl)⟩ rfl rfl ⟨(Nat.le_of_ble_eq_true rfl), (Nat.le_of_ble_eq_true rfl)⟩ dX0_init_134 rfl ?_
  obtain ⟨b32, e32⟩ : ∃ z, z = i_X6_init (b31) 16  := ⟨_, rfl⟩
  have n32 : b32.1 = 18 := by rw [e32]; show b31.1 + 1 = 18; rw [n31]
  rw [← e32]
  have f7_32 := k_X6_init e32 n31 (by decide) (by decide) f7_31
  refine sb_aast X 138 (i := 1) (ci := 6) 2 n32 (by decide) (by decide) (by decide) (by decide : K0 3 = 21) rfl (by decide : K0 16 = 6) (by decide) rfl (by decide) (by decide) dX0_init_137 rfl (fun b33 e33 n33 => ?_)
  have f7_33 := bR_keep e33 (by decide) f7_32
  refine sm_iinc X 141 0 (1) [(1, .int 3), (0, .ref (gad G 1))] dX0_init_138 rfl rfl rfl (by decide) rfl ?_
  refine sm_goto X 116 dX0_init_141 (by decide) ?_
  refine sm_iload_n X 117 0 dX0_init_116 rfl rfl rfl ?_
  refine sm_aload_n X 118 1 dX0_init_117 rfl rfl rfl ?_
  refine sb_getf X 121 3 n33 (by decide) (by decide : K0 1 = 0) fd_0_7 (by decide) f7_33 dX0_init_118 rfl q_103 ?_
  refine sb_alen X 122 8 n33 (by decide) (i := 1) (by decide) (by decide : K0 3 = 21) rfl (by decide) dX0_init_121 rfl ?_
  refine sb_ge X 125 144 dX0_init_122 rfl (by decide) (fun q => absurd q (by decide)) (fun _ => ?_)
  refine sm_aload_n X 126 1 dX0_init_125 rfl rfl rfl ?_
  refine sb_getf X 129 3 n33 (by decide) (by decide : K0 1 = 0) fd_0_7 (by decide) f7_33 dX0_init_126 rfl q_103 ?_
  refine sm_iload_n X 130 0 dX0_init_129 rfl rfl rfl ?_
  refine sb_new X 133 hG 18 17 328 n33 (by decide) (by decide : K0 18 = 6) (by decide) rfl inX6 tyX6_ok df_6 q_32 q_54 q_4 rfl rfl ⟨(Nat.le_of_ble_eq_true rfl), (Nat.le_of_ble_eq_true rfl)⟩ dX0_init_130 rfl (fun b34 e34 n34 => ?_)
  have f7_34 := bN_keep e34 n33 (by decide) f7_33
  refine sm_dup X 134 dX0_init_133 rfl rfl ?_
  refine sb_callIN X 137 (host := RX8) [] [.ref (gad G 18), .int 3, .ref (gad G 3)] 18 332 (c_X6_init l G hG b34 18  n34 (by decide : 18 + 1 < NC) (by decide : K0 18 = 6) (by decide : K0 (18 + 1) = 20) (by decide : Ln0 (18 + 1) = 4)) (cw_X6_init) q_56 rfl (List.mem_of_getElem? (i := 0) rfl) rfl rfl (Nat.le_of_ble_eq_true rfl) ⟨(Nat.le_of_ble_eq_true rfl), (Nat.le_of_ble_eq_true rfl)⟩ rfl rfl ⟨(Nat.le_of_ble_eq_true rfl), (Nat.le_of_ble_eq_true rfl)⟩ dX0_init_134 rfl ?_
  obtain ⟨b35, e35⟩ : ∃ z, z = i_X6_init (b34) 18  := ⟨_, rfl⟩
  have n35 : b35.1 = 20 := by rw [e35]; show b34.1 + 1 = 20; rw [n34]
  rw [← e35]
  have f7_35 := k_X6_init e35 n34 (by decide) (by decide) f7_34
  refine sb_aast X 138 (i := 1) (ci := 6) 3 n35 (by decide) (by decide) (by decide) (by decide : K0 3 = 21) rfl (by decide : K0 18 = 6) (by decide) rfl (by decide) (by decide) dX0_init_137 rfl (fun b36 e36 n36 => ?_)
  have f7_36 := bR_keep e36 (by decide) f7_35
  refine sm_iinc X 141 0 (1) [(1, .int 4), (0, .ref (gad G 1))] dX0_init_138 rfl rfl rfl (by decide) rfl ?_
  refine sm_goto X 116 dX0_init_141 (by decide) ?_
  refine sm_iload_n X 117 0 dX0_init_116 rfl rfl rfl ?_
  refine sm_aload_n X 118 1 dX0_init_117 rfl rfl rfl ?_
  refine sb_getf X 121 3 n36 (by decide) (by decide : K0 1 = 0) fd_0_7 (by decide) f7_36 dX0_init_118 rfl q_103 ?_
  refine sb_alen X 122 8 n36 (by decide) (i := 1) (by decide) (by decide : K0 3 = 21) rfl (by decide) dX0_init_121 rfl ?_
  refine sb_ge X 125 144 dX0_init_122 rfl (by decide) (fun q => absurd q (by decide)) (fun _ => ?_)
  refine sm_aload_n X 126 1 dX0_init_125 rfl rfl rfl ?_
  refine sb_getf X 129 3 n36 (by decide) (by decide : K0 1 = 0) fd_0_7 (by decide) f7_36 dX0_init_126 rfl q_103 ?_
  refine sm_iload_n X 130 0 dX0_init_129 rfl rfl rfl ?_
  refine sb_new X 133 hG 20 19 338 n36 (by decide) (by decide : K0 20 = 6) (by decide) rfl inX6 tyX6_ok df_6 q_32 q_54 q_4 rfl rfl ⟨(Nat.le_of_ble_eq_true rfl), (Nat.le_of_ble_eq_true rfl)⟩ dX0_init_130 rfl (fun b37 e37 n37 => ?_)
  have f7_37 := bN_keep e37 n36 (by decide) f7_36
  refine sm_dup X 134 dX0_init_133 rfl rfl ?_
  refine sb_callIN X 137 (host := RX8) [] [.ref (gad G 20), .int 4, .ref (gad G 3)] 20 342 (c_X6_init l G hG b37 20  n37 (by decide : 20 + 1 < NC) (by decide : K0 20 = 6) (by decide : K0 (20 + 1) = 20) (by decide : Ln0 (20 + 1) = 4)) (cw_X6_init) q_56 rfl (List.mem_of_getElem? (i := 0) rfl) rfl rfl (Nat.le_of_ble_eq_true rfl) ⟨(Nat.le_of_ble_eq_true rfl), (Nat.le_of_ble_eq_true rfl)⟩ rfl rfl ⟨(Nat.le_of_ble_eq_true rfl), (Nat.le_of_ble_eq_true rfl)⟩ dX0_init_134 rfl ?_
  obtain ⟨b38, e38⟩ : ∃ z, z = i_X6_init (b37) 20  := ⟨_, rfl⟩
  have n38 : b38.1 = 22 := by rw [e38]; show b37.1 + 1 = 22; rw [n37]
  rw [← e38]
  have f7_38 := k_X6_init e38 n37 (by decide) (by decide) f7_37
  refine sb_aast X 138 (i := 1) (ci := 6) 4 n38 (by decide) (by decide) (by decide) (by decide : K0 3 = 21) rfl (by decide : K0 20 = 6) (by decide) rfl (by decide) (by decide) dX0_init_137 rfl (fun b39 e39 n39 => ?_)
  have f7_39 := bR_keep e39 (by decide) f7_38
  refine sm_iinc X 141 0 (1) [(1, .int 5), (0, .ref (gad G 1))] dX0_init_138 rfl rfl rfl (by decide) rfl ?_
  refine sm_goto X 116 dX0_init_141 (by decide) ?_
  refine sm_iload_n X 117 0 dX0_init_116 rfl rfl rfl ?_
  refine sm_aload_n X 118 1 dX0_init_117 rfl rfl rfl ?_
  refine sb_getf X 121 3 n39 (by decide) (by decide : K0 1 = 0) fd_0_7 (by decide) f7_39 dX0_init_118 rfl q_103 ?_
  refine sb_alen X 122 8 n39 (by decide) (i := 1) (by decide) (by decide : K0 3 = 21) rfl (by decide) dX0_init_121 rfl ?_
  refine sb_ge X 125 144 dX0_init_122 rfl (by decide) (fun q => absurd q (by decide)) (fun _ => ?_)
  refine sm_aload_n X 126 1 dX0_init_125 rfl rfl rfl ?_
  refine sb_getf X 129 3 n39 (by decide) (by decide : K0 1 = 0) fd_0_7 (by decide) f7_39 dX0_init_126 rfl q_103 ?_
  refine sm_iload_n X 130 0 dX0_init_129 rfl rfl rfl ?_
  refine sb_new X 133 hG 22 21 348 n39 (by decide) (by decide : K0 22 = 6) (by decide) rfl inX6 tyX6_ok df_6 q_32 q_54 q_4 rfl rfl ⟨(Nat.le_of_ble_eq_true rfl), (Nat.le_of_ble_eq_true rfl)⟩ dX0_init_130 rfl (fun b40 e40 n40 => ?_)
  have f7_40 := bN_keep e40 n39 (by decide) f7_39
  refine sm_dup X 134 dX0_init_133 rfl rfl ?_
  refine sb_callIN X 137 (host := RX8) [] [.ref (gad G 22), .int 5, .ref (gad G 3)] 22 352 (c_X6_init l G hG b40 22  n40 (by decide : 22 + 1 < NC) (by decide : K0 22 = 6) (by decide : K0 (22 + 1) = 20) (by decide : Ln0 (22 + 1) = 4)) (cw_X6_init) q_56 rfl (List.mem_of_getElem? (i := 0) rfl) rfl rfl (Nat.le_of_ble_eq_true rfl) ⟨(Nat.le_of_ble_eq_true rfl), (Nat.le_of_ble_eq_true rfl)⟩ rfl rfl ⟨(Nat.le_of_ble_eq_true rfl), (Nat.le_of_ble_eq_true rfl)⟩ dX0_init_134 rfl ?_
  obtain ⟨b41, e41⟩ : ∃ z, z = i_X6_init (b40) 22  := ⟨_, rfl⟩
  have n41 : b41.1 = 24 := by rw [e41]; show b40.1 + 1 = 24; rw [n40]
  rw [← e41]
  have f7_41 := k_X6_init e41 n40 (by decide) (by decide) f7_40
  refine sb_aast X 138 (i := 1) (ci := 6) 5 n41 (by decide) (by decide) (by decide) (by decide : K0 3 = 21) rfl (by decide : K0 22 = 6) (by decide) rfl (by decide) (by decide) dX0_init_137 rfl (fun b42 e42 n42 => ?_)
  have f7_42 := bR_keep e42 (by decide) f7_41
  refine sm_iinc X 141 0 (1) [(1, .int 6), (0, .ref (gad G 1))] dX0_init_138 rfl rfl rfl (by decide) rfl ?_
  refine sm_goto X 116 dX0_init_141 (by decide) ?_
  refine sm_iload_n X 117 0 dX0_init_116 rfl rfl rfl ?_
  refine sm_aload_n X 118 1 dX0_init_117 rfl rfl rfl ?_
  refine sb_getf X 121 3 n42 (by decide) (by decide : K0 1 = 0) fd_0_7 (by decide) f7_42 dX0_init_118 rfl q_103 ?_
  refine sb_alen X 122 8 n42 (by decide) (i := 1) (by decide) (by decide : K0 3 = 21) rfl (by decide) dX0_init_121 rfl ?_
  refine sb_ge X 125 144 dX0_init_122 rfl (by decide) (fun q => absurd q (by decide)) (fun _ => ?_)
  refine sm_aload_n X 126 1 dX0_init_125 rfl rfl rfl ?_
  refine sb_getf X 129 3 n42 (by decide) (by decide : K0 1 = 0) fd_0_7 (by decide) f7_42 dX0_init_126 rfl q_103 ?_
  refine sm_iload_n X 130 0 dX0_init_129 rfl rfl rfl ?_
  refine sb_new X 133 hG 24 23 358 n42 (by decide) (by decide : K0 24 = 6) (by decide) rfl inX6 tyX6_ok df_6 q_32 q_54 q_4 rfl rfl ⟨(Nat.le_of_ble_eq_true rfl), (Nat.le_of_ble_eq_true rfl)⟩ dX0_init_130 rfl (fun b43 e43 n43 => ?_)
  have f7_43 := bN_keep e43 n42 (by decide) f7_42
  refine sm_dup X 134 dX0_init_133 rfl rfl ?_
  refine sb_callIN X 137 (host := RX8) [] [.ref (gad G 24), .int 6, .ref (gad G 3)] 24 362 (c_X6_init l G hG b43 24  n43 (by decide : 24 + 1 < NC) (by decide : K0 24 = 6) (by decide : K0 (24 + 1) = 20) (by decide : Ln0 (24 + 1) = 4)) (cw_X6_init) q_56 rfl (List.mem_of_getElem? (i := 0) rfl) rfl rfl (Nat.le_of_ble_eq_true rfl) ⟨(Nat.le_of_ble_eq_true rfl), (Nat.le_of_ble_eq_true rfl)⟩ rfl rfl ⟨(Nat.le_of_ble_eq_true rfl), (Nat.le_of_ble_eq_true rfl)⟩ dX0_init_134 rfl ?_
  obtain ⟨b44, e44⟩ : ∃ z, z = i_X6_init (b43) 24  := ⟨_, rfl⟩
  have n44 : b44.1 = 26 := by rw [e44]; show b43.1 + 1 = 26; rw [n43]
  rw [← e44]
  have f7_44 := k_X6_init e44 n43 (by decide) (by decide) f7_43
  refine sb_aast X 138 (i := 1) (ci := 6) 6 n44 (by decide) (by decide) (by decide) (by decide : K0 3 = 21) rfl (by decide : K0 24 = 6) (by decide) rfl (by decide) (by decide) dX0_init_137 rfl (fun b45 e45 n45 => ?_)
  have f7_45 := bR_keep e45 (by decide) f7_44
  refine sm_iinc X 141 0 (1) [(1, .int 7), (0, .ref (gad G 1))] dX0_init_138 rfl rfl rfl (by decide) rfl ?_
  refine sm_goto X 116 dX0_init_141 (by decide) ?_
  refine sm_iload_n X 117 0 dX0_init_116 rfl rfl rfl ?_
  refine sm_aload_n X 118 1 dX0_init_117 rfl rfl rfl ?_
  refine sb_getf X 121 3 n45 (by decide) (by decide : K0 1 = 0) fd_0_7 (by decide) f7_45 dX0_init_118 rfl q_103 ?_
  refine sb_alen X 122 8 n45 (by decide) (i := 1) (by decide) (by decide : K0 3 = 21) rfl (by decide) dX0_init_121 rfl ?_
  refine sb_ge X 125 144 dX0_init_122 rfl (by decide) (fun q => absurd q (by decide)) (fun _ => ?_)
  refine sm_aload_n X 126 1 dX0_init_125 rfl rfl rfl ?_
  refine sb_getf X 129 3 n45 (by decide) (by decide : K0 1 = 0) fd_0_7 (by decide) f7_45 dX0_init_126 rfl q_103 ?_
  refine sm_iload_n X 130 0 dX0_init_129 rfl rfl rfl ?_
  refine sb_new X 133 hG 26 25 368 n45 (by decide) (by decide : K0 26 = 6) (by decide) rfl inX6 tyX6_ok df_6 q_32 q_54 q_4 rfl rfl ⟨(Nat.le_of_ble_eq_true rfl), (Nat.le_of_ble_eq_true rfl)⟩ dX0_init_130 rfl (fun b46 e46 n46 => ?_)
  have f7_46 := bN_keep e46 n45 (by decide) f7_45
  refine sm_dup X 134 dX0_init_133 rfl rfl ?_
  refine sb_callIN X 137 (host := RX8) [] [.ref (gad G 26), .int 7, .ref (gad G 3)] 26 372 (c_X6_init l G hG b46 26  n46 (by decide : 26 + 1 < NC) (by decide : K0 26 = 6) (by decide : K0 (26 + 1) = 20) (by decide : Ln0 (26 + 1) = 4)) (cw_X6_init) q_56 rfl (List.mem_of_getElem? (i := 0) rfl) rfl rfl (Nat.le_of_ble_eq_true rfl) ⟨(Nat.le_of_ble_eq_true rfl), (Nat.le_of_ble_eq_true rfl)⟩ rfl rfl ⟨(Nat.le_of_ble_eq_true rfl), (Nat.le_of_ble_eq_true rfl)⟩ dX0_init_134 rfl ?_
  obtain ⟨b47, e47⟩ : ∃ z, z = i_X6_init (b46) 26  := ⟨_, rfl⟩
  have n47 : b47.1 = 28 := by rw [e47]; show b46.1 + 1 = 28; rw [n46]
  rw [← e47]
  have f7_47 := k_X6_init e47 n46 (by decide) (by decide) f7_46
  refine sb_aast X 138 (i := 1) (ci := 6) 7 n47 (by decide) (by decide) (by decide) (by decide : K0 3 = 21) rfl (by decide : K0 26 = 6) (by decide) rfl (by decide) (by decide) dX0_init_137 rfl (fun b48 e48 n48 => ?_)
  have f7_48 := bR_keep e48 (by decide) f7_47
  refine sm_iinc X 141 0 (1) [(1, .int 8), (0, .ref (gad G 1))] dX0_init_138 rfl rfl rfl (by decide) rfl ?_
  refine sm_goto X 116 dX0_init_141 (by decide) ?_
  refine sm_iload_n X 117 0 dX0_init_116 rfl rfl rfl ?_
  refine sm_aload_n X 118 1 dX0_init_117 rfl rfl rfl ?_
  refine sb_getf X 121 3 n48 (by decide) (by decide : K0 1 = 0) fd_0_7 (by decide) f7_48 dX0_init_118 rfl q_103 ?_
  refine sb_alen X 122 8 n48 (by decide) (i := 1) (by decide) (by decide : K0 3 = 21) rfl (by decide) dX0_init_121 rfl ?_
  refine sb_ge X 125 144 dX0_init_122 rfl (by decide) (fun _ => ?_) (fun q => absurd (by decide) q)
  exact sm_vret X hr dX0_init_144 (by rw [e48, e47, e46, e45, e44, e43, e42, e41, e40, e39, e38, e37, e36, e35, e34, e33, e32, e31, e30, e29, e28, e27, e26, e25, e24, e23, e22, e21, e20, e19, e18, e17, e16, e15, e14, e13, e12, e11, e10, e9, e8, e7, e6, e5, e4, e3, e2, e1]; rfl)
def i_X0_init_28 (b : Bst) : Bst := bR (i_X6_init (bN (bR (i_X6_init (bN (bR (i_X6_init (bN (bR (i_X6_init (bN (bR (i_X6_init (bN (bR (i_X6_init (bN (bR (i_X6_init (bN (bR (i_X6_init (bN (bI (bI (bR (bN (bI (bR (bN (bR (i_X1_init (bN (bR (i_X1_init (bN (bI (bR (bN (bI (bI (bI (bI (bI (bI (bR (bN (b)) 28 0 (some 29)) 28 1 0) 28 2 10) 28 3 600) 28 4 0) 28 5 0) 28 6 0)) 28 7 (some 30)) 28 8 0)) 31 0) 28 9 (some 31))) 34 1) 28 10 (some 34))) 28 11 (some 37)) 28 12 0)) 28 13 (some 38)) 28 14 0) 28 15 1)) 39 ) 30 0 (some 39))) 41 ) 30 1 (some 41))) 43 ) 30 2 (some 43))) 45 ) 30 3 (some 45))) 47 ) 30 4 (some 47))) 49 ) 30 5 (some 49))) 51 ) 30 6 (some 51))) 53 ) 30 7 (some 53)
set_option maxHeartbeats 4000000 in
set_option maxRecDepth 100000 in
theorem c_X0_init_28 (l : Launch) (G : GT) (hG : GA G) (b : Bst) (hb : b.1 = 29) : MW l G 3 85 26 372 yX0_init cX0_init 2 (Option.none : Option Jvm.ClassFile.FieldType) [.ref (gad G 28)] (wb G b) none (wb G (i_X0_init_28 b)) := by
  refine mw_of RX0 (fun r : Bst => (none, wb G r)) [(0, .ref (gad G 28))] (by decide +kernel) rfl (Nat.le_of_ble_eq_true rfl) rfl (o := some (i_X0_init_28 b)) rfl rfl (fun p e s m args below meth c X hr hnm => ?_)
  refine sm_aload_n X 1 0 dX0_init_0 rfl rfl rfl ?_
  refine sb_obj X 4 q_31 q_24 q_25 ⟨(Nat.le_of_ble_eq_true rfl), (Nat.le_of_ble_eq_true rfl)⟩ dX0_init_1 rfl ?_
  refine sm_aload_n X 5 0 dX0_init_4 rfl rfl rfl ?_
  refine sm_bipush X 7 (6) dX0_init_5 rfl rfl ?_
  refine sb_newa X 9 hG 29 1 6 hb (by decide) (by decide : K0 29 = 20) (by decide : Ln0 29 = 6) (by decide) (by decide) (Nat.le_of_ble_eq_true rfl) q_53 rfl rfl ⟨(Nat.le_of_ble_eq_true rfl), (Nat.le_of_ble_eq_true rfl)⟩ dX0_init_7 rfl (fun b1 e1 n1 => ?_)
  refine sb_putr X 12 (r := (some 29)) (.array .int) n1 (by decide) (by decide : K0 28 = 0) fd_0_0 (by decide) rfl ⟨hnm, rfl⟩ rfl rfl rfl dX0_init_9 rfl q_89 (fun b2 e2 n2 => ?_)
  refine sm_aload_n X 13 0 dX0_init_12 rfl rfl rfl ?_
  refine sm_iconst X 14 (0) dX0_init_13 rfl rfl ?_
  refine sb_puti X 17 .int n2 (by decide) (by decide : K0 28 = 0) fd_0_1 ⟨hnm, rfl⟩ rfl rfl rfl dX0_init_14 rfl q_91 (fun b3 e3 n3 => ?_)
  refine sm_aload_n X 18 0 dX0_init_17 rfl rfl rfl ?_
  refine sm_bipush X 20 (10) dX0_init_18 rfl rfl ?_
  refine sb_puti X 23 .int n3 (by decide) (by decide : K0 28 = 0) fd_0_2 ⟨hnm, rfl⟩ rfl rfl rfl dX0_init_20 rfl q_93 (fun b4 e4 n4 => ?_)
  refine sm_aload_n X 24 0 dX0_init_23 rfl rfl rfl ?_
  refine sm_sipush X 27 (600) dX0_init_24 rfl rfl ?_
  refine sb_puti X 30 .int n4 (by decide) (by decide : K0 28 = 0) fd_0_3 ⟨hnm, rfl⟩ rfl rfl rfl dX0_init_27 rfl q_95 (fun b5 e5 n5 => ?_)
  refine sm_aload_n X 31 0 dX0_init_30 rfl rfl rfl ?_
  refine sm_iconst X 32 (0) dX0_init_31 rfl rfl ?_
  refine sb_puti X 35 .int n5 (by decide) (by decide : K0 28 = 0) fd_0_4 ⟨hnm, rfl⟩ rfl rfl rfl dX0_init_32 rfl q_97 (fun b6 e6 n6 => ?_)
  refine sm_aload_n X 36 0 dX0_init_35 rfl rfl rfl ?_
  refine sm_iconst X 37 (0) dX0_init_36 rfl rfl ?_
  refine sb_puti X 40 .int n6 (by decide) (by decide : K0 28 = 0) fd_0_5 ⟨hnm, rfl⟩ rfl rfl rfl dX0_init_37 rfl q_99 (fun b7 e7 n7 => ?_)
  refine sm_aload_n X 41 0 dX0_init_40 rfl rfl rfl ?_
  refine sm_iconst X 42 (0) dX0_init_41 rfl rfl ?_
  refine sb_puti X 45 .int n7 (by decide) (by decide : K0 28 = 0) fd_0_6 ⟨hnm, rfl⟩ rfl rfl rfl dX0_init_42 rfl q_101 (fun b8 e8 n8 => ?_)
  refine sm_aload_n X 46 0 dX0_init_45 rfl rfl rfl ?_
  refine sm_bipush X 48 (8) dX0_init_46 rfl rfl ?_
  refine sb_newq X 51 1 hG 30 2 14 n8 (by decide) (by decide) (by decide : K0 30 = 21) (by decide : Ln0 30 = 8) (by decide) (by decide) (Nat.le_of_ble_eq_true rfl) ⟨_, rfl⟩ rfl X.2.2.2.2.2.2.2.1.2.1 q_32 rfl rfl ⟨(Nat.le_of_ble_eq_true rfl), (Nat.le_of_ble_eq_true rfl)⟩ dX0_init_48 rfl (fun b9 e9 n9 => ?_)
  refine sb_putr X 54 (r := (some 30)) (.array (.object "LakeSwimmers$Swimmer")) n9 (by decide) (by decide : K0 28 = 0) fd_0_7 (by decide) rfl ⟨hnm, rfl⟩ rfl rfl rfl dX0_init_51 rfl q_103 (fun b10 e10 n10 => ?_)
  have f7_10 := bR_here e10
  refine sm_aload_n X 55 0 dX0_init_54 rfl rfl rfl ?_
  refine sm_iconst X 56 (0) dX0_init_55 rfl rfl ?_
  refine sb_puti X 59 .int n10 (by decide) (by decide : K0 28 = 0) fd_0_8 ⟨hnm, rfl⟩ rfl rfl rfl dX0_init_56 rfl q_104 (fun b11 e11 n11 => ?_)
  have f7_11 := bI_keep e11 f7_10
  refine sm_aload_n X 60 0 dX0_init_59 rfl rfl rfl ?_
  refine sb_new X 63 hG 31 3 18 n11 (by decide) (by decide : K0 31 = 1) (by decide) rfl inX1 tyX1_ok df_1 q_34 q_35 q_3 rfl rfl ⟨(Nat.le_of_ble_eq_true rfl), (Nat.le_of_ble_eq_true rfl)⟩ dX0_init_60 rfl (fun b12 e12 n12 => ?_)
  have f7_12 := bN_keep e12 n11 (by decide) f7_11
  refine sm_dup X 64 dX0_init_63 rfl rfl ?_
  refine sm_iconst X 65 (0) dX0_init_64 rfl rfl ?_
  refine sb_callI X 68 [.int 0] [.ref (gad G 31), .ref (gad G 28)] 5 118 (c_X1_init l G hG b12 31 0 n12 (by decide : 31 + 2 < NC) (by decide : K0 31 = 1) (by decide : K0 (31 + 1) = 20) (by decide : Ln0 (31 + 1) = 50) (by decide : K0 (31 + 2) = 20) (by decide : Ln0 (31 + 2) = 50)) (cw_X1_init) q_37 rfl q_36 rfl rfl (Nat.le_of_ble_eq_true rfl) ⟨(Nat.le_of_ble_eq_true rfl), (Nat.le_of_ble_eq_true rfl)⟩ rfl rfl ⟨(Nat.le_of_ble_eq_true rfl), (Nat.le_of_ble_eq_true rfl)⟩ dX0_init_65 rfl ?_
  obtain ⟨b13, e13⟩ : ∃ z, z = i_X1_init (b12) 31 0 := ⟨_, rfl⟩
  have n13 : b13.1 = 34 := by rw [e13]; show b12.1 + 2 = 34; rw [n12]
  rw [← e13]
  have f7_13 := k_X1_init e13 n12 (by decide) (by decide) f7_12
  refine sb_putr X 71 (r := (some 31)) (.object "LakeSwimmers$Law") n13 (by decide) (by decide : K0 28 = 0) fd_0_9 (by decide) rfl ⟨hnm, rfl⟩ rfl rfl rfl dX0_init_68 rfl q_106 (fun b14 e14 n14 => ?_)
  have f7_14 := bR_keep e14 (by decide) f7_13
  refine sm_aload_n X 72 0 dX0_init_71 rfl rfl rfl ?_
  refine sb_new X 75 hG 34 6 122 n14 (by decide) (by decide : K0 34 = 1) (by decide) rfl inX1 tyX1_ok df_1 q_34 q_35 q_3 rfl rfl ⟨(Nat.le_of_ble_eq_true rfl), (Nat.le_of_ble_eq_true rfl)⟩ dX0_init_72 rfl (fun b15 e15 n15 => ?_)
  have f7_15 := bN_keep e15 n14 (by decide) f7_14
  refine sm_dup X 76 dX0_init_75 rfl rfl ?_
  refine sm_iconst X 77 (1) dX0_init_76 rfl rfl ?_
  refine sb_callI X 80 [.int 1] [.ref (gad G 34), .ref (gad G 28)] 8 222 (c_X1_init l G hG b15 34 1 n15 (by decide : 34 + 2 < NC) (by decide : K0 34 = 1) (by decide : K0 (34 + 1) = 20) (by decide : Ln0 (34 + 1) = 50) (by decide : K0 (34 + 2) = 20) (by decide : Ln0 (34 + 2) = 50)) (cw_X1_init) q_37 rfl q_36 rfl rfl (Nat.le_of_ble_eq_true rfl) ⟨(Nat.le_of_ble_eq_true rfl), (Nat.le_of_ble_eq_true rfl)⟩ rfl rfl ⟨(Nat.le_of_ble_eq_true rfl), (Nat.le_of_ble_eq_true rfl)⟩ dX0_init_77 rfl ?_
  obtain ⟨b16, e16⟩ : ∃ z, z = i_X1_init (b15) 34 1 := ⟨_, rfl⟩
  have n16 : b16.1 = 37 := by rw [e16]; show b15.1 + 2 = 37; rw [n15]
  rw [← e16]
  have f7_16 := k_X1_init e16 n15 (by decide) (by decide) f7_15
  refine sb_putr X 83 (r := (some 34)) (.object "LakeSwimmers$Law") n16 (by decide) (by decide : K0 28 = 0) fd_0_10 (by decide) rfl ⟨hnm, rfl⟩ rfl rfl rfl dX0_init_80 rfl q_107 (fun b17 e17 n17 => ?_)
  have f7_17 := bR_keep e17 (by decide) f7_16
  refine sm_aload_n X 84 0 dX0_init_83 rfl rfl rfl ?_
  refine sm_bipush X 86 (50) dX0_init_84 rfl rfl ?_
  refine sb_newa X 88 hG 37 9 272 n17 (by decide) (by decide : K0 37 = 20) (by decide : Ln0 37 = 50) (by decide) (by decide) (Nat.le_of_ble_eq_true rfl) q_53 rfl rfl ⟨(Nat.le_of_ble_eq_true rfl), (Nat.le_of_ble_eq_true rfl)⟩ dX0_init_86 rfl (fun b18 e18 n18 => ?_)
  have f7_18 := bN_keep e18 n17 (by decide) f7_17
  refine sb_putr X 91 (r := (some 37)) (.array .int) n18 (by decide) (by decide : K0 28 = 0) fd_0_11 (by decide) rfl ⟨hnm, rfl⟩ rfl rfl rfl dX0_init_88 rfl q_108 (fun b19 e19 n19 => ?_)
  have f7_19 := bR_keep e19 (by decide) f7_18
  refine sm_aload_n X 92 0 dX0_init_91 rfl rfl rfl ?_
  refine sm_iconst X 93 (0) dX0_init_92 rfl rfl ?_
  refine sb_puti X 96 .int n19 (by decide) (by decide : K0 28 = 0) fd_0_12 ⟨hnm, rfl⟩ rfl rfl rfl dX0_init_93 rfl q_110 (fun b20 e20 n20 => ?_)
  have f7_20 := bI_keep e20 f7_19
  refine sm_aload_n X 97 0 dX0_init_96 rfl rfl rfl ?_
  refine sm_bipush X 99 (20) dX0_init_97 rfl rfl ?_
  refine sb_newa X 101 hG 38 10 292 n20 (by decide) (by decide : K0 38 = 20) (by decide : Ln0 38 = 20) (by decide) (by decide) (Nat.le_of_ble_eq_true rfl) q_53 rfl rfl ⟨(Nat.le_of_ble_eq_true rfl), (Nat.le_of_ble_eq_true rfl)⟩ dX0_init_99 rfl (fun b21 e21 n21 => ?_)
  have f7_21 := bN_keep e21 n20 (by decide) f7_20
  refine sb_putr X 104 (r := (some 38)) (.array .int) n21 (by decide) (by decide : K0 28 = 0) fd_0_13 (by decide) rfl ⟨hnm, rfl⟩ rfl rfl rfl dX0_init_101 rfl q_112 (fun b22 e22 n22 => ?_)
  have f7_22 := bR_keep e22 (by decide) f7_21
  refine sm_aload_n X 105 0 dX0_init_104 rfl rfl rfl ?_
  refine sm_iconst X 106 (0) dX0_init_105 rfl rfl ?_
  refine sb_puti X 109 .int n22 (by decide) (by decide : K0 28 = 0) fd_0_14 ⟨hnm, rfl⟩ rfl rfl rfl dX0_init_106 rfl q_114 (fun b23 e23 n23 => ?_)
  have f7_23 := bI_keep e23 f7_22
  refine sm_aload_n X 110 0 dX0_init_109 rfl rfl rfl ?_
  refine sm_iconst X 111 (1) dX0_init_110 rfl rfl ?_
  refine sb_puti X 114 .int n23 (by decide) (by decide : K0 28 = 0) fd_0_15 ⟨hnm, rfl⟩ rfl rfl rfl dX0_init_111 rfl q_116 (fun b24 e24 n24 => ?_)
  have f7_24 := bI_keep e24 f7_23
  refine sm_iconst X 115 (0) dX0_init_114 rfl rfl ?_
  refine sm_istore_n X 116 [(1, .int 0), (0, .ref (gad G 28))] dX0_init_115 rfl rfl (by decide) rfl ?_
  refine sm_iload_n X 117 0 dX0_init_116 rfl rfl rfl ?_
  refine sm_aload_n X 118 1 dX0_init_117 rfl rfl rfl ?_
  refine sb_getf X 121 30 n24 (by decide) (by decide : K0 28 = 0) fd_0_7 (by decide) f7_24 dX0_init_118 rfl q_103 ?_
  refine sb_alen X 122 8 n24 (by decide) (i := 1) (by decide) (by decide : K0 30 = 21) rfl (by decide) dX0_init_121 rfl ?_
  refine sb_ge X 125 144 dX0_init_122 rfl (by decide) (fun q => absurd q (by decide)) (fun _ => ?_)
  refine sm_aload_n X 126 1 dX0_init_125 rfl rfl rfl ?_
  refine sb_getf X 129 30 n24 (by decide) (by decide : K0 28 = 0) fd_0_7 (by decide) f7_24 dX0_init_126 rfl q_103 ?_
  refine sm_iload_n X 130 0 dX0_init_129 rfl rfl rfl ?_
  refine sb_new X 133 hG 39 11 298 n24 (by decide) (by decide : K0 39 = 6) (by decide) rfl inX6 tyX6_ok df_6 q_32 q_54 q_4 rfl rfl ⟨(Nat.le_of_ble_eq_true rfl), (Nat.le_of_ble_eq_true rfl)⟩ dX0_init_130 rfl (fun b25 e25 n25 => ?_)
  have f7_25 := bN_keep e25 n24 (by decide) f7_24
  refine sm_dup X 134 dX0_init_133 rfl rfl ?_
  refine sb_callIN X 137 (host := RX8) [] [.ref (gad G 39), .int 0, .ref (gad G 30)] 12 302 (c_X6_init l G hG b25 39  n25 (by decide : 39 + 1 < NC) (by decide : K0 39 = 6) (by decide : K0 (39 + 1) = 20) (by decide : Ln0 (39 + 1) = 4)) (cw_X6_init) q_56 rfl (List.mem_of_getElem? (i := 0) rfl) rfl rfl (Nat.le_of_ble_eq_true rfl) ⟨(Nat.le_of_ble_eq_true rfl), (Nat.le_of_ble_eq_true rfl)⟩ rfl rfl ⟨(Nat.le_of_ble_eq_true rfl), (Nat.le_of_ble_eq_true rfl)⟩ dX0_init_134 rfl ?_
  obtain ⟨b26, e26⟩ : ∃ z, z = i_X6_init (b25) 39  := ⟨_, rfl⟩
  have n26 : b26.1 = 41 := by rw [e26]; show b25.1 + 1 = 41; rw [n25]
  rw [← e26]
  have f7_26 := k_X6_init e26 n25 (by decide) (by decide) f7_25
  refine sb_aast X 138 (i := 1) (ci := 6) 0 n26 (by decide) (by decide) (by decide) (by decide : K0 30 = 21) rfl (by decide : K0 39 = 6) (by decide) rfl (by decide) (by decide) dX0_init_137 rfl (fun b27 e27 n27 => ?_)
  have f7_27 := bR_keep e27 (by decide) f7_26
  refine sm_iinc X 141 0 (1) [(1, .int 1), (0, .ref (gad G 28))] dX0_init_138 rfl rfl rfl (by decide) rfl ?_
  refine sm_goto X 116 dX0_init_141 (by decide) ?_
  refine sm_iload_n X 117 0 dX0_init_116 rfl rfl rfl ?_
  refine sm_aload_n X 118 1 dX0_init_117 rfl rfl rfl ?_
  refine sb_getf X 121 30 n27 (by decide) (by decide : K0 28 = 0) fd_0_7 (by decide) f7_27 dX0_init_118 rfl q_103 ?_
  refine sb_alen X 122 8 n27 (by decide) (i := 1) (by decide) (by decide : K0 30 = 21) rfl (by decide) dX0_init_121 rfl ?_
  refine sb_ge X 125 144 dX0_init_122 rfl (by decide) (fun q => absurd q (by decide)) (fun _ => ?_)
  refine sm_aload_n X 126 1 dX0_init_125 rfl rfl rfl ?_
  refine sb_getf X 129 30 n27 (by decide) (by decide : K0 28 = 0) fd_0_7 (by decide) f7_27 dX0_init_126 rfl q_103 ?_
  refine sm_iload_n X 130 0 dX0_init_129 rfl rfl rfl ?_
  refine sb_new X 133 hG 41 13 308 n27 (by decide) (by decide : K0 41 = 6) (by decide) rfl inX6 tyX6_ok df_6 q_32 q_54 q_4 rfl rfl ⟨(Nat.le_of_ble_eq_true rfl), (Nat.le_of_ble_eq_true rfl)⟩ dX0_init_130 rfl (fun b28 e28 n28 => ?_)
  have f7_28 := bN_keep e28 n27 (by decide) f7_27
  refine sm_dup X 134 dX0_init_133 rfl rfl ?_
  refine sb_callIN X 137 (host := RX8) [] [.ref (gad G 41), .int 1, .ref (gad G 30)] 14 312 (c_X6_init l G hG b28 41  n28 (by decide : 41 + 1 < NC) (by decide : K0 41 = 6) (by decide : K0 (41 + 1) = 20) (by decide : Ln0 (41 + 1) = 4)) (cw_X6_init) q_56 rfl (List.mem_of_getElem? (i := 0) rfl) rfl rfl (Nat.le_of_ble_eq_true rfl) ⟨(Nat.le_of_ble_eq_true rfl), (Nat.le_of_ble_eq_true rfl)⟩ rfl rfl ⟨(Nat.le_of_ble_eq_true rfl), (Nat.le_of_ble_eq_true rfl)⟩ dX0_init_134 rfl ?_
  obtain ⟨b29, e29⟩ : ∃ z, z = i_X6_init (b28) 41  := ⟨_, rfl⟩
  have n29 : b29.1 = 43 := by rw [e29]; show b28.1 + 1 = 43; rw [n28]
  rw [← e29]
  have f7_29 := k_X6_init e29 n28 (by decide) (by decide) f7_28
  refine sb_aast X 138 (i := 1) (ci := 6) 1 n29 (by decide) (by decide) (by decide) (by decide : K0 30 = 21) rfl (by decide : K0 41 = 6) (by decide) rfl (by decide) (by decide) dX0_init_137 rfl (fun b30 e30 n30 => ?_)
  have f7_30 := bR_keep e30 (by decide) f7_29
  refine sm_iinc X 141 0 (1) [(1, .int 2), (0, .ref (gad G 28))] dX0_init_138 rfl rfl rfl (by decide) rfl ?_
  refine sm_goto X 116 dX0_init_141 (by decide) ?_
  refine sm_iload_n X 117 0 dX0_init_116 rfl rfl rfl ?_
  refine sm_aload_n X 118 1 dX0_init_117 rfl rfl rfl ?_
  refine sb_getf X 121 30 n30 (by decide) (by decide : K0 28 = 0) fd_0_7 (by decide) f7_30 dX0_init_118 rfl q_103 ?_
  refine sb_alen X 122 8 n30 (by decide) (i := 1) (by decide) (by decide : K0 30 = 21) rfl (by decide) dX0_init_121 rfl ?_
  refine sb_ge X 125 144 dX0_init_122 rfl (by decide) (fun q => absurd q (by decide)) (fun _ => ?_)
  refine sm_aload_n X 126 1 dX0_init_125 rfl rfl rfl ?_
  refine sb_getf X 129 30 n30 (by decide) (by decide : K0 28 = 0) fd_0_7 (by decide) f7_30 dX0_init_126 rfl q_103 ?_
  refine sm_iload_n X 130 0 dX0_init_129 rfl rfl rfl ?_
  refine sb_new X 133 hG 43 15 318 n30 (by decide) (by decide : K0 43 = 6) (by decide) rfl inX6 tyX6_ok df_6 q_32 q_54 q_4 rfl rfl ⟨(Nat.le_of_ble_eq_true rfl), (Nat.le_of_ble_eq_true rfl)⟩ dX0_init_130 rfl (fun b31 e31 n31 => ?_)
  have f7_31 := bN_keep e31 n30 (by decide) f7_30
  refine sm_dup X 134 dX0_init_133 rfl rfl ?_
  refine sb_callIN X 137 (host := RX8) [] [.ref (gad G 43), .int 2, .ref (gad G 30)] 16 322 (c_X6_init l G hG b31 43  n31 (by decide : 43 + 1 < NC) (by decide : K0 43 = 6) (by decide : K0 (43 + 1) = 20) (by decide : Ln0 (43 + 1) = 4)) (cw_X6_init) q_56 rfl (List.mem_of_getElem? (i := 0) rfl) rfl rfl (Nat.le_of_ble_eq_true rfl) ⟨(Nat.le_of_ble_eq_true rfl), (Nat.le_of_ble_eq_true rfl)⟩ rfl rfl ⟨(Nat.le_of_ble_eq_true rfl), (Nat.le_of_ble_eq_true rfl)⟩ dX0_init_134 rfl ?_
  obtain ⟨b32, e32⟩ : ∃ z, z = i_X6_init (b31) 43  := ⟨_, rfl⟩
  have n32 : b32.1 = 45 := by rw [e32]; show b31.1 + 1 = 45; rw [n31]
  rw [← e32]
  have f7_32 := k_X6_init e32 n31 (by decide) (by decide) f7_31
  refine sb_aast X 138 (i := 1) (ci := 6) 2 n32 (by decide) (by decide) (by decide) (by decide : K0 30 = 21) rfl (by decide : K0 43 = 6) (by decide) rfl (by decide) (by decide) dX0_init_137 rfl (fun b33 e33 n33 => ?_)
  have f7_33 := bR_keep e33 (by decide) f7_32
  refine sm_iinc X 141 0 (1) [(1, .int 3), (0, .ref (gad G 28))] dX0_init_138 rfl rfl rfl (by decide) rfl ?_
  refine sm_goto X 116 dX0_init_141 (by decide) ?_
  refine sm_iload_n X 117 0 dX0_init_116 rfl rfl rfl ?_
  refine sm_aload_n X 118 1 dX0_init_117 rfl rfl rfl ?_
  refine sb_getf X 121 30 n33 (by decide) (by decide : K0 28 = 0) fd_0_7 (by decide) f7_33 dX0_init_118 rfl q_103 ?_
  refine sb_alen X 122 8 n33 (by decide) (i := 1) (by decide) (by decide : K0 30 = 21) rfl (by decide) dX0_init_121 rfl ?_
  refine sb_ge X 125 144 dX0_init_122 rfl (by decide) (fun q => absurd q (by decide)) (fun _ => ?_)
  refine sm_aload_n X 126 1 dX0_init_125 rfl rfl rfl ?_
  refine sb_getf X 129 30 n33 (by decide) (by decide : K0 28 = 0) fd_0_7 (by decide) f7_33 dX0_init_126 rfl q_103 ?_
  refine sm_iload_n X 130 0 dX0_init_129 rfl rfl rfl ?_
  refine sb_new X 133 hG 45 17 328 n33 (by decide) (by decide : K0 45 = 6) (by decide) rfl inX6 tyX6_ok df_6 q_32 q_54 q_4 rfl rfl ⟨(Nat.le_of_ble_eq_true rfl), (Nat.le_of_ble_eq_true rfl)⟩ dX0_init_130 rfl (fun b34 e34 n34 => ?_)
  have f7_34 := bN_keep e34 n33 (by decide) f7_33
  refine sm_dup X 134 dX0_init_133 rfl rfl ?_
  refine sb_callIN X 137 (host := RX8) [] [.ref (gad G 45), .int 3, .ref (gad G 30)] 18 332 (c_X6_init l G hG b34 45  n34 (by decide : 45 + 1 < NC) (by decide : K0 45 = 6) (by decide : K0 (45 + 1) = 20) (by decide : Ln0 (45 + 1) = 4)) (cw_X6_init) q_56 rfl (List.mem_of_getElem? (i := 0) rfl) rfl rfl (Nat.le_of_ble_eq_true rfl) ⟨(Nat.le_of_ble_eq_true rfl), (Nat.le_of_ble_eq_true rfl)⟩ rfl rfl ⟨(Nat.le_of_ble_eq_true rfl), (Nat.le_of_ble_eq_true rfl)⟩ dX0_init_134 rfl ?_
  obtain ⟨b35, e35⟩ : ∃ z, z = i_X6_init (b34) 45  := ⟨_, rfl⟩
  have n35 : b35.1 = 47 := by rw [e35]; show b34.1 + 1 = 47; rw [n34]
  rw [← e35]
  have f7_35 := k_X6_init e35 n34 (by decide) (by decide) f7_34
  refine sb_aast X 138 (i := 1) (ci := 6) 3 n35 (by decide) (by decide) (by decide) (by decide : K0 30 = 21) rfl (by decide : K0 45 = 6) (by decide) rfl (by decide) (by decide) dX0_init_137 rfl (fun b36 e36 n36 => ?_)
  have f7_36 := bR_keep e36 (by decide) f7_35
  refine sm_iinc X 141 0 (1) [(1, .int 4), (0, .ref (gad G 28))] dX0_init_138 rfl rfl rfl (by decide) rfl ?_
  refine sm_goto X 116 dX0_init_141 (by decide) ?_
  refine sm_iload_n X 117 0 dX0_init_116 rfl rfl rfl ?_
  refine sm_aload_n X 118 1 dX0_init_117 rfl rfl rfl ?_
  refine sb_getf X 121 30 n36 (by decide) (by decide : K0 28 = 0) fd_0_7 (by decide) f7_36 dX0_init_118 rfl q_103 ?_
  refine sb_alen X 122 8 n36 (by decide) (i := 1) (by decide) (by decide : K0 30 = 21) rfl (by decide) dX0_init_121 rfl ?_
  refine sb_ge X 125 144 dX0_init_122 rfl (by decide) (fun q => absurd q (by decide)) (fun _ => ?_)
  refine sm_aload_n X 126 1 dX0_init_125 rfl rfl rfl ?_
  refine sb_getf X 129 30 n36 (by decide) (by decide : K0 28 = 0) fd_0_7 (by decide) f7_36 dX0_init_126 rfl q_103 ?_
  refine sm_iload_n X 130 0 dX0_init_129 rfl rfl rfl ?_
  refine sb_new X 133 hG 47 19 338 n36 (by decide) (by decide : K0 47 = 6) (by decide) rfl inX6 tyX6_ok df_6 q_32 q_54 q_4 rfl rfl ⟨(Nat.le_of_ble_eq_true rfl), (Nat.le_of_ble_eq_true rfl)⟩ dX0_init_130 rfl (fun b37 e37 n37 => ?_)
  have f7_37 := bN_keep e37 n36 (by decide) f7_36
  refine sm_dup X 134 dX0_init_133 rfl rfl ?_
  refine sb_callIN X 137 (host := RX8) [] [.ref (gad G 47), .int 4, .ref (gad G 30)] 20 342 (c_X6_init l G hG b37 47  n37 (by decide : 47 + 1 < NC) (by decide : K0 47 = 6) (by decide : K0 (47 + 1) = 20) (by decide : Ln0 (47 + 1) = 4)) (cw_X6_init) q_56 rfl (List.mem_of_getElem? (i := 0) rfl) rfl rfl (Nat.le_of_ble_eq_true rfl) ⟨(Nat.le_of_ble_eq_true rfl), (Nat.le_of_ble_eq_true rfl)⟩ rfl rfl ⟨(Nat.le_of_ble_eq_true rfl), (Nat.le_of_ble_eq_true rfl)⟩ dX0_init_134 rfl ?_
  obtain ⟨b38, e38⟩ : ∃ z, z = i_X6_init (b37) 47  := ⟨_, rfl⟩
  have n38 : b38.1 = 49 := by rw [e38]; show b37.1 + 1 = 49; rw [n37]
  rw [← e38]
  have f7_38 := k_X6_init e38 n37 (by decide) (by decide) f7_37
  refine sb_aast X 138 (i := 1) (ci := 6) 4 n38 (by decide) (by decide) (by decide) (by decide : K0 30 = 21) rfl (by decide : K0 47 = 6) (by decide) rfl (by decide) (by decide) dX0_init_137 rfl (fun b39 e39 n39 => ?_)
  have f7_39 := bR_keep e39 (by decide) f7_38
  refine sm_iinc X 141 0 (1) [(1, .int 5), (0, .ref (gad G 28))] dX0_init_138 rfl rfl rfl (by decide) rfl ?_
  refine sm_goto X 116 dX0_init_141 (by decide) ?_
  refine sm_iload_n X 117 0 dX0_init_116 rfl rfl rfl ?_
  refine sm_aload_n X 118 1 dX0_init_117 rfl rfl rfl ?_
  refine sb_getf X 121 30 n39 (by decide) (by decide : K0 28 = 0) fd_0_7 (by decide) f7_39 dX0_init_118 rfl q_103 ?_
  refine sb_alen X 122 8 n39 (by decide) (i := 1) (by decide) (by decide : K0 30 = 21) rfl (by decide) dX0_init_121 rfl ?_
  refine sb_ge X 125 144 dX0_init_122 rfl (by decide) (fun q => absurd q (by decide)) (fun _ => ?_)
  refine sm_aload_n X 126 1 dX0_init_125 rfl rfl rfl ?_
  refine sb_getf X 129 30 n39 (by decide) (by decide : K0 28 = 0) fd_0_7 (by decide) f7_39 dX0_init_126 rfl q_103 ?_
  refine sm_iload_n X 130 0 dX0_init_129 rfl rfl rfl ?_
  refine sb_new X 133 hG 49 21 348 n39 (by decide) (by decide : K0 49 = 6) (by decide) rfl inX6 tyX6_ok df_6 q_32 q_54 q_4 rfl rfl ⟨(Nat.le_of_ble_eq_true rfl), (Nat.le_of_ble_eq_true rfl)⟩ dX0_init_130 rfl (fun b40 e40 n40 => ?_)
  have f7_40 := bN_keep e40 n39 (by decide) f7_39
  refine sm_dup X 134 dX0_init_133 rfl rfl ?_
  refine sb_callIN X 137 (host := RX8) [] [.ref (gad G 49), .int 5, .ref (gad G 30)] 22 352 (c_X6_init l G hG b40 49  n40 (by decide : 49 + 1 < NC) (by decide : K0 49 = 6) (by decide : K0 (49 + 1) = 20) (by decide : Ln0 (49 + 1) = 4)) (cw_X6_init) q_56 rfl (List.mem_of_getElem? (i := 0) rfl) rfl rfl (Nat.le_of_ble_eq_true rfl) ⟨(Nat.le_of_ble_eq_true rfl), (Nat.le_of_ble_eq_true rfl)⟩ rfl rfl ⟨(Nat.le_of_ble_eq_true rfl), (Nat.le_of_ble_eq_true rfl)⟩ dX0_init_134 rfl ?_
  obtain ⟨b41, e41⟩ : ∃ z, z = i_X6_init (b40) 49  := ⟨_, rfl⟩
  have n41 : b41.1 = 51 := by rw [e41]; show b40.1 + 1 = 51; rw [n40]
  rw [← e41]
  have f7_41 := k_X6_init e41 n40 (by decide) (by decide) f7_40
  refine sb_aast X 138 (i := 1) (ci := 6) 5 n41 (by decide) (by decide) (by decide) (by decide : K0 30 = 21) rfl (by decide : K0 49 = 6) (by decide) rfl (by decide) (by decide) dX0_init_137 rfl (fun b42 e42 n42 => ?_)
  have f7_42 := bR_keep e42 (by decide) f7_41
  refine sm_iinc X 141 0 (1) [(1, .int 6), (0, .ref (gad G 28))] dX0_init_138 rfl rfl rfl (by decide) rfl ?_
  refine sm_goto X 116 dX0_init_141 (by decide) ?_
  refine sm_iload_n X 117 0 dX0_init_116 rfl rfl rfl ?_
  refine sm_aload_n X 118 1 dX0_init_117 rfl rfl rfl ?_
  refine sb_getf X 121 30 n42 (by decide) (by decide : K0 28 = 0) fd_0_7 (by decide) f7_42 dX0_init_118 rfl q_103 ?_
  refine sb_alen X 122 8 n42 (by decide) (i := 1) (by decide) (by decide : K0 30 = 21) rfl (by decide) dX0_init_121 rfl ?_
  refine sb_ge X 125 144 dX0_init_122 rfl (by decide) (fun q => absurd q (by decide)) (fun _ => ?_)
  refine sm_aload_n X 126 1 dX0_init_125 rfl rfl rfl ?_
  refine sb_getf X 129 30 n42 (by decide) (by decide : K0 28 = 0) fd_0_7 (by decide) f7_42 dX0_init_126 rfl q_103 ?_
  refine sm_iload_n X 130 0 dX0_init_129 rfl rfl rfl ?_
  refine sb_new X 133 hG 51 23 358 n42 (by decide) (by decide : K0 51 = 6) (by decide) rfl inX6 tyX6_ok df_6 q_32 q_54 q_4 rfl rfl ⟨(Nat.le_of_ble_eq_true rfl), (Nat.le_of_ble_eq_true rfl)⟩ dX0_init_130 rfl (fun b43 e43 n43 => ?_)
  have f7_43 := bN_keep e43 n42 (by decide) f7_42
  refine sm_dup X 134 dX0_init_133 rfl rfl ?_
  refine sb_callIN X 137 (host := RX8) [] [.ref (gad G 51), .int 6, .ref (gad G 30)] 24 362 (c_X6_init l G hG b43 51  n43 (by decide : 51 + 1 < NC) (by decide : K0 51 = 6) (by decide : K0 (51 + 1) = 20) (by decide : Ln0 (51 + 1) = 4)) (cw_X6_init) q_56 rfl (List.mem_of_getElem? (i := 0) rfl) rfl rfl (Nat.le_of_ble_eq_true rfl) ⟨(Nat.le_of_ble_eq_true rfl), (Nat.le_of_ble_eq_true rfl)⟩ rfl rfl ⟨(Nat.le_of_ble_eq_true rfl), (Nat.le_of_ble_eq_true rfl)⟩ dX0_init_134 rfl ?_
  obtain ⟨b44, e44⟩ : ∃ z, z = i_X6_init (b43) 51  := ⟨_, rfl⟩
  have n44 : b44.1 = 53 := by rw [e44]; show b43.1 + 1 = 53; rw [n43]
  rw [← e44]
  have f7_44 := k_X6_init e44 n43 (by decide) (by decide) f7_43
  refine sb_aast X 138 (i := 1) (ci := 6) 6 n44 (by decide) (by decide) (by decide) (by decide : K0 30 = 21) rfl (by decide : K0 51 = 6) (by decide) rfl (by decide) (by decide) dX0_init_137 rfl (fun b45 e45 n45 => ?_)
  have f7_45 := bR_keep e45 (by decide) f7_44
  refine sm_iinc X 141 0 (1) [(1, .int 7), (0, .ref (gad G 28))] dX0_init_138 rfl rfl rfl (by decide) rfl ?_
  refine sm_goto X 116 dX0_init_141 (by decide) ?_
  refine sm_iload_n X 117 0 dX0_init_116 rfl rfl rfl ?_
  refine sm_aload_n X 118 1 dX0_init_117 rfl rfl rfl ?_
  refine sb_getf X 121 30 n45 (by decide) (by decide : K0 28 = 0) fd_0_7 (by decide) f7_45 dX0_init_118 rfl q_103 ?_
  refine sb_alen X 122 8 n45 (by decide) (i := 1) (by decide) (by decide : K0 30 = 21) rfl (by decide) dX0_init_121 rfl ?_
  refine sb_ge X 125 144 dX0_init_122 rfl (by decide) (fun q => absurd q (by decide)) (fun _ => ?_)
  refine sm_aload_n X 126 1 dX0_init_125 rfl rfl rfl ?_
  refine sb_getf X 129 30 n45 (by decide) (by decide : K0 28 = 0) fd_0_7 (by decide) f7_45 dX0_init_126 rfl q_103 ?_
  refine sm_iload_n X 130 0 dX0_init_129 rfl rfl rfl ?_
  refine sb_new X 133 hG 53 25 368 n45 (by decide) (by decide : K0 53 = 6) (by decide) rfl inX6 tyX6_ok df_6 q_32 q_54 q_4 rfl rfl ⟨(Nat.le_of_ble_eq_true rfl), (Nat.le_of_ble_eq_true rfl)⟩ dX0_init_130 rfl (fun b46 e46 n46 => ?_)
  have f7_46 := bN_keep e46 n45 (by decide) f7_45
  refine sm_dup X 134 dX0_init_133 rfl rfl ?_
  refine sb_callIN X 137 (host := RX8) [] [.ref (gad G 53), .int 7, .ref (gad G 30)] 26 372 (c_X6_init l G hG b46 53  n46 (by decide : 53 + 1 < NC) (by decide : K0 53 = 6) (by decide : K0 (53 + 1) = 20) (by decide : Ln0 (53 + 1) = 4)) (cw_X6_init) q_56 rfl (List.mem_of_getElem? (i := 0) rfl) rfl rfl (Nat.le_of_ble_eq_true rfl) ⟨(Nat.le_of_ble_eq_true rfl), (Nat.le_of_ble_eq_true rfl)⟩ rfl rfl ⟨(Nat.le_of_ble_eq_true rfl), (Nat.le_of_ble_eq_true rfl)⟩ dX0_init_134 rfl ?_
  obtain ⟨b47, e47⟩ : ∃ z, z = i_X6_init (b46) 53  := ⟨_, rfl⟩
  have n47 : b47.1 = 55 := by rw [e47]; show b46.1 + 1 = 55; rw [n46]
  rw [← e47]
  have f7_47 := k_X6_init e47 n46 (by decide) (by decide) f7_46
  refine sb_aast X 138 (i := 1) (ci := 6) 7 n47 (by decide) (by decide) (by decide) (by decide : K0 30 = 21) rfl (by decide : K0 53 = 6) (by decide) rfl (by decide) (by decide) dX0_init_137 rfl (fun b48 e48 n48 => ?_)
  have f7_48 := bR_keep e48 (by decide) f7_47
  refine sm_iinc X 141 0 (1) [(1, .int 8), (0, .ref (gad G 28))] dX0_init_138 rfl rfl rfl (by decide) rfl ?_
  refine sm_goto X 116 dX0_init_141 (by decide) ?_
  refine sm_iload_n X 117 0 dX0_init_116 rfl rfl rfl ?_
  refine sm_aload_n X 118 1 dX0_init_117 rfl rfl rfl ?_
  refine sb_getf X 121 30 n48 (by decide) (by decide : K0 28 = 0) fd_0_7 (by decide) f7_48 dX0_init_118 rfl q_103 ?_
  refine sb_alen X 122 8 n48 (by decide) (i := 1) (by decide) (by decide : K0 30 = 21) rfl (by decide) dX0_init_121 rfl ?_
  refine sb_ge X 125 144 dX0_init_122 rfl (by decide) (fun _ => ?_) (fun q => absurd (by decide) q)
  exact sm_vret X hr dX0_init_144 (by rw [e48, e47, e46, e45, e44, e43, e42, e41, e40, e39, e38, e37, e36, e35, e34, e33, e32, e31, e30, e29, e28, e27, e26, e25, e24, e23, e22, e21, e20, e19, e18, e17, e16, e15, e14, e13, e12, e11, e10, e9, e8, e7, e6, e5, e4, e3, e2, e1]; rfl)
def i_X2_init_60 (b : Bst) : Bst := bI (bR (bR (bR (bN (bR (i_X6_init (bN (bR (bN (bI (bI (b) 60 0 0) 60 1 0)) 60 2 (some 61))) 62 ) 60 3 (some 62))) 60 4 (some 64)) 60 5 none) 60 6 none) 60 7 0
set_option maxRecDepth 20000 in
theorem dX2_init_0 : decode cX2_init 0 = .ok (.aload_n 0, 1) := by decide +kernel
set_option maxRecDepth 20000 in
theorem dX2_init_1 : decode cX2_init 1 = .ok (.invokespecial 3, 3) := by decide +kernel
set_option maxRecDepth 20000 in
theorem dX2_init_4 : decode cX2_init 4 = .ok (.aload_n 0, 1) := by decide +kernel
set_option maxRecDepth 20000 in
theorem dX2_init_5 : decode cX2_init 5 = .ok (.iconst 0, 1) := by decide +kernel
set_option maxRecDepth 20000 in
theorem dX2_init_6 : decode cX2_init 6 = .ok (.putfield 9, 3) := by decide +kernel
set_option maxRecDepth 20000 in
theorem dX2_init_9 : decode cX2_init 9 = .ok (.aload_n 0, 1) := by decide +kernel
set_option maxRecDepth 20000 in
theorem dX2_init_10 : decode cX2_init 10 = .ok (.iconst 0, 1) := by decide +kernel
set_option maxRecDepth 20000 in
theorem dX2_init_11 : decode cX2_init 11 = .ok (.putfield 15, 3) := by decide +kernel
set_option maxRecDepth 20000 in
theorem dX2_init_14 : decode cX2_init 14 = .ok (.aload_n 0, 1) := by decide +kernel
set_option maxRecDepth 20000 in
theorem dX2_init_15 : decode cX2_init 15 = .ok (.iconst 4, 1) := by decide +kernel
set_option maxRecDepth 20000 in
theorem dX2_init_16 : decode cX2_init 16 = .ok (.newarray .int, 2) := by decide +kernel
set_option maxRecDepth 20000 in
theorem dX2_init_18 : decode cX2_init 18 = .ok (.putfield 19, 3) := by decide +kernel
set_option maxRecDepth 20000 in
theorem dX2_init_21 : decode cX2_init 21 = .ok (.aload_n 0, 1) := by decide +kernel
set_option maxRecDepth 20000 in
theorem dX2_init_22 : decode cX2_init 22 = .ok (.new 23, 3) := by decide +kernel
set_option maxRecDepth 20000 in
theorem dX2_init_25 : decode cX2_init 25 = .ok (.dup, 1) := by decide +kernel
set_option maxRecDepth 20000 in
theorem dX2_init_26 : decode cX2_init 26 = .ok (.invokespecial 25, 3) := by decide +kernel
set_option maxRecDepth 20000 in
theorem dX2_init_29 : decode cX2_init 29 = .ok (.putfield 26, 3) := by decide +kernel
set_option maxRecDepth 20000 in
theorem dX2_init_32 : decode cX2_init 32 = .ok (.aload_n 0, 1) := by decide +kernel
set_option maxRecDepth 20000 in
theorem dX2_init_33 : decode cX2_init 33 = .ok (.bipush 60, 2) := by decide +kernel
set_option maxRecDepth 20000 in
theorem dX2_init_35 : decode cX2_init 35 = .ok (.newarray .int, 2) := by decide +kernel
set_option maxRecDepth 20000 in
theorem dX2_init_37 : decode cX2_init 37 = .ok (.putfield 30, 3) := by decide +kernel
set_option maxRecDepth 20000 in
theorem dX2_init_40 : decode cX2_init 40 = .ok (.aload_n 0, 1) := by decide +kernel
set_option maxRecDepth 20000 in
theorem dX2_init_41 : decode cX2_init 41 = .ok (.aconst_null, 1) := by decide +kernel
set_option maxRecDepth 20000 in
theorem dX2_init_42 : decode cX2_init 42 = .ok (.putfield 33, 3) := by decide +kernel
set_option maxRecDepth 20000 in
theorem dX2_init_45 : decode cX2_init 45 = .ok (.aload_n 0, 1) := by decide +kernel
set_option maxRecDepth 20000 in
theorem dX2_init_46 : decode cX2_init 46 = .ok (.aconst_null, 1) := by decide +kernel
set_option maxRecDepth 20000 in
theorem dX2_init_47 : decode cX2_init 47 = .ok (.putfield 37, 3) := by decide +kernel
set_option maxRecDepth 20000 in
theorem dX2_init_50 : decode cX2_init 50 = .ok (.aload_n 0, 1) := by decide +kernel
set_option maxRecDepth 20000 in
theorem dX2_init_51 : decode cX2_init 51 = .ok (.iconst 0, 1) := by decide +kernel
set_option maxRecDepth 20000 in
theorem dX2_init_52 : decode cX2_init 52 = .ok (.putfield 40, 3) := by decide +kernel
set_option maxRecDepth 20000 in
theorem dX2_init_55 : decode cX2_init 55 = .ok (.return_, 1) := by decide +kernel
set_option maxHeartbeats 4000000 in
set_option maxRecDepth 100000 in
theorem c_X2_init_60 (l : Launch) (G : GT) (hG : GA G) (b : Bst) (hb : b.1 = 61) : MW l G 3 84 4 74 yX2_init cX2_init 1 (Option.none : Option Jvm.ClassFile.FieldType) [.ref (gad G 60)] (wb G b) none (wb G (i_X2_init_60 b)) := by
  refine mw_of RX2 (fun r : Bst => (none, wb G r)) [(0, .ref (gad G 60))] (by decide +kernel) rfl (Nat.le_of_ble_eq_true rfl) rfl (o := some (i_X2_init_60 b)) rfl rfl (fun p e s m args below meth c X hr hnm => ?_)
  refine sm_aload_n X 1 0 dX2_init_0 rfl rfl rfl ?_
  refine sb_obj X 4 q_213 q_24 q_25 ⟨(Nat.le_of_ble_eq_true rfl), (Nat.le_of_ble_eq_true rfl)⟩ dX2_init_1 rfl ?_
  refine sm_aload_n X 5 0 dX2_init_4 rfl rfl rfl ?_
  refine sm_iconst X 6 (0) dX2_init_5 rfl rfl ?_
  refine sb_puti X 9 .boolean hb (by decide) (by decide : K0 60 = 2) fd_2_0 ⟨hnm, rfl⟩ rfl rfl rfl dX2_init_6 rfl q_216 (fun b1 e1 n1 => ?_)
  refine sm_aload_n X 10 0 dX2_init_9 rfl rfl rfl ?_
  refine sm_iconst X 11 (0) dX2_init_10 rfl rfl ?_
  refine sb_puti X 14 .int n1 (by decide) (by decide : K0 60 = 2) fd_2_1 ⟨hnm, rfl⟩ rfl rfl rfl dX2_init_11 rfl q_218 (fun b2 e2 n2 => ?_)
  refine sm_aload_n X 15 0 dX2_init_14 rfl rfl rfl ?_
  refine sm_iconst X 16 (4) dX2_init_15 rfl rfl ?_
  refine sb_newa X 18 hG 61 1 4 n2 (by decide) (by decide : K0 61 = 20) (by decide : Ln0 61 = 4) (by decide) (by decide) (Nat.le_of_ble_eq_true rfl) q_53 rfl rfl ⟨(Nat.le_of_ble_eq_true rfl), (Nat.le_of_ble_eq_true rfl)⟩ dX2_init_16 rfl (fun b3 e3 n3 => ?_)
  refine sb_putr X 21 (r := (some 61)) (.array .int) n3 (by decide) (by decide : K0 60 = 2) fd_2_2 (by decide) rfl ⟨hnm, rfl⟩ rfl rfl rfl dX2_init_18 rfl q_220 (fun b4 e4 n4 => ?_)
  refine sm_aload_n X 22 0 dX2_init_21 rfl rfl rfl ?_
  refine sb_new X 25 hG 62 2 10 n4 (by decide) (by decide : K0 62 = 6) (by decide) rfl inX6 tyX6_ok df_6 q_214 q_54 q_4 rfl rfl ⟨(Nat.le_of_ble_eq_true rfl), (Nat.le_of_ble_eq_true rfl)⟩ dX2_init_22 rfl (fun b5 e5 n5 => ?_)
  refine sm_dup X 26 dX2_init_25 rfl rfl ?_
  refine sb_callIN X 29 (host := RX8) [] [.ref (gad G 62), .ref (gad G 60)] 3 14 (c_X6_init l G hG b5 62  n5 (by decide : 62 + 1 < NC) (by decide : K0 62 = 6) (by decide : K0 (62 + 1) = 20) (by decide : Ln0 (62 + 1) = 4)) (cw_X6_init) q_56 rfl (List.mem_of_getElem? (i := 4) rfl) rfl rfl (Nat.le_of_ble_eq_true rfl) ⟨(Nat.le_of_ble_eq_true rfl), (Nat.le_of_ble_eq_true rfl)⟩ rfl rfl ⟨(Nat.le_of_ble_eq_true rfl), (Nat.le_of_ble_eq_true rfl)⟩ dX2_init_26 rfl ?_
  obtain ⟨b6, e6⟩ : ∃ z, z = i_X6_init (b5) 62  := ⟨_, rfl⟩
  have n6 : b6.1 = 64 := by rw [e6]; show b5.1 + 1 = 64; rw [n5]
  rw [← e6]
  refine sb_putr X 32 (r := (some 62)) (.object "LakeSwimmers$Swimmer") n6 (by decide) (by decide : K0 60 = 2) fd_2_3 (by decide) rfl ⟨hnm, rfl⟩ rfl rfl rfl dX2_init_29 rfl q_221 (fun b7 e7 n7 => ?_)
  refine sm_aload_n X 33 0 dX2_init_32 rfl rfl rfl ?_
  refine sm_bipush X 35 (60) dX2_init_33 rfl rfl ?_
  refine sb_newa X 37 hG 64 4 74 n7 (by decide) (by decide : K0 64 = 20) (by decide : Ln0 64 = 60) (by decide) (by decide) (Nat.le_of_ble_eq_true rfl) q_53 rfl rfl ⟨(Nat.le_of_ble_eq_true rfl), (Nat.le_of_ble_eq_true rfl)⟩ dX2_init_35 rfl (fun b8 e8 n8 => ?_)
  refine sb_putr X 40 (r := (some 64)) (.array .int) n8 (by decide) (by decide : K0 60 = 2) fd_2_4 (by decide) rfl ⟨hnm, rfl⟩ rfl rfl rfl dX2_init_37 rfl q_222 (fun b9 e9 n9 => ?_)
  refine sm_aload_n X 41 0 dX2_init_40 rfl rfl rfl ?_
  refine sm_null X 42 dX2_init_41 rfl ?_
  refine sb_putr X 45 (r := none) (.object "LakeSwimmers$Swim") n9 (by decide) (by decide : K0 60 = 2) fd_2_5 (by decide) rfl ⟨hnm, rfl⟩ rfl rfl rfl dX2_init_42 rfl q_223 (fun b10 e10 n10 => ?_)
  refine sm_aload_n X 46 0 dX2_init_45 rfl rfl rfl ?_
  refine sm_null X 47 dX2_init_46 rfl ?_
  refine sb_putr X 50 (r := none) (.object "LakeSwimmers$Swimmer") n10 (by decide) (by decide : K0 60 = 2) fd_2_6 (by decide) rfl ⟨hnm, rfl⟩ rfl rfl rfl dX2_init_47 rfl q_224 (fun b11 e11 n11 => ?_)
  refine sm_aload_n X 51 0 dX2_init_50 rfl rfl rfl ?_
  refine sm_iconst X 52 (0) dX2_init_51 rfl rfl ?_
  refine sb_puti X 55 .int n11 (by decide) (by decide : K0 60 = 2) fd_2_7 ⟨hnm, rfl⟩ rfl rfl rfl dX2_init_52 rfl q_225 (fun b12 e12 n12 => ?_)
  exact sm_vret X hr dX2_init_55 (by rw [e12, e11, e10, e9, e8, e7, e6, e5, e4, e3, e2, e1]; rfl)
def i_X8_init_0 (b : Bst) : Bst := bR (i_X4_init (bN (bR (i_X4_init (bN (bR (i_X4_init (bN (bR (i_X4_init (bN (bI (bR (i_X6_init (bN (bR (i_X6_init (bN (bR (bN (bR (bN (bR (i_X7_init (bN (bR (i_X2_init_60 (bN (bR (i_X5_init (bN (bR (i_X3_init (bN (bR (i_X0_init_28 (bN (bR (i_X0_init_1 (bN (b))) 0 0 (some 1)))) 0 1 (some 28))) 55 ) 0 2 (some 55))) 58 ) 0 3 (some 58)))) 0 4 (some 60))) 65 ) 0 5 (some 65))) 0 6 (some 67))) 0 7 (some 68))) 69 ) 0 8 (some 69))) 71 ) 0 9 (some 71)) 0 10 0)) 73 ) 67 0 (some 73))) 75 ) 67 1 (some 75))) 77 ) 67 2 (some 77))) 79 ) 67 3 (some 79)
set_option maxRecDepth 20000 in
theorem dX8_init_0 : decode cX8_init 0 = .ok (.aload_n 0, 1) := by decide +kernel
set_option maxRecDepth 20000 in
theorem dX8_init_1 : decode cX8_init 1 = .ok (.invokespecial 1, 3) := by decide +kernel
set_option maxRecDepth 20000 in
theorem dX8_init_4 : decode cX8_init 4 = .ok (.aload_n 0, 1) := by decide +kernel
set_option maxRecDepth 20000 in
theorem dX8_init_5 : decode cX8_init 5 = .ok (.new 7, 3) := by decide +kernel
set_option maxRecDepth 20000 in
theorem dX8_init_8 : decode cX8_init 8 = .ok (.dup, 1) := by decide +kernel
set_option maxRecDepth 20000 in
theorem dX8_init_9 : decode cX8_init 9 = .ok (.invokespecial 9, 3) := by decide +kernel
set_option maxRecDepth 20000 in
theorem dX8_init_12 : decode cX8_init 12 = .ok (.putfield 10, 3) := by decide +kernel
set_option maxRecDepth 20000 in
theorem dX8_init_15 : decode cX8_init 15 = .ok (.aload_n 0, 1) := by decide +kernel
set_option maxRecDepth 20000 in
theorem dX8_init_16 : decode cX8_init 16 = .ok (.new 7, 3) := by decide +kernel
set_option maxRecDepth 20000 in
theorem dX8_init_19 : decode cX8_init 19 = .ok (.dup, 1) := by decide +kernel
set_option maxRecDepth 20000 in
theorem dX8_init_20 : decode cX8_init 20 = .ok (.invokespecial 9, 3) := by decide +kernel
set_option maxRecDepth 20000 in
theorem dX8_init_23 : decode cX8_init 23 = .ok (.putfield 16, 3) := by decide +kernel
set_option maxRecDepth 20000 in
theorem dX8_init_26 : decode cX8_init 26 = .ok (.aload_n 0, 1) := by decide +kernel
set_option maxRecDepth 20000 in
theorem dX8_init_27 : decode cX8_init 27 = .ok (.new 19, 3) := by decide +kernel
set_option maxRecDepth 20000 in
theorem dX8_init_30 : decode cX8_init 30 = .ok (.dup, 1) := by decide +kernel
set_option maxRecDepth 20000 in
theorem dX8_init_31 : decode cX8_init 31 = .ok (.invokespecial 21, 3) := by decide +kernel
set_option maxRecDepth 20000 in
theorem dX8_init_34 : decode cX8_init 34 = .ok (.putfield 22, 3) := by decide +kernel
set_option maxRecDepth 20000 in
theorem dX8_init_37 : decode cX8_init 37 = .ok (.aload_n 0, 1) := by decide +kernel
set_option maxRecDepth 20000 in
theorem dX8_init_38 : decode cX8_init 38 = .ok (.new 26, 3) := by decide +kernel
set_option maxRecDepth 20000 in
theorem dX8_init_41 : decode cX8_init 41 = .ok (.dup, 1) := by decide +kernel
set_option maxRecDepth 20000 in
theorem dX8_init_42 : decode cX8_init 42 = .ok (.invokespecial 28, 3) := by decide +kernel
set_option maxRecDepth 20000 in
theorem dX8_init_45 : decode cX8_init 45 = .ok (.putfield 29, 3) := by decide +kernel
set_option maxRecDepth 20000 in
theorem dX8_init_48 : decode cX8_init 48 = .ok (.aload_n 0, 1) := by decide +kernel
set_option maxRecDepth 20000 in
theorem dX8_init_49 : decode cX8_init 49 = .ok (.new 33, 3) := by decide +kernel
set_option maxRecDepth 20000 in
theorem dX8_init_52 : decode cX8_init 52 = .ok (.dup, 1) := by decide +kernel
set_option maxRecDepth 20000 in
theorem dX8_init_53 : decode cX8_init 53 = .ok (.invokespecial 35, 3) := by decide +kernel
set_option maxRecDepth 20000 in
theorem dX8_init_56 : decode cX8_init 56 = .ok (.putfield 36, 3) := by decide +kernel
set_option maxRecDepth 20000 in
theorem dX8_init_59 : decode cX8_init 59 = .ok (.aload_n 0, 1) := by decide +kernel
set_option maxRecDepth 20000 in
theorem dX8_init_60 : decode cX8_init 60 = .ok (.new 40, 3) := by decide +kernel
set_option maxRecDepth 20000 in
theorem dX8_init_63 : decode cX8_init 63 = .ok (.dup, 1) := by decide +kernel
set_option maxRecDepth 20000 in
theorem dX8_init_64 : decode cX8_init 64 = .ok (.invokespecial 42, 3) := by decide +kernel
set_option maxRecDepth 20000 in
theorem dX8_init_67 : decode cX8_init 67 = .ok (.putfield 43, 3) := by decide +kernel
set_option maxRecDepth 20000 in
theorem dX8_init_70 : decode cX8_init 70 = .ok (.aload_n 0, 1) := by decide +kernel
set_option maxRecDepth 20000 in
theorem dX8_init_71 : decode cX8_init 71 = .ok (.iconst 4, 1) := by decide +kernel
set_option maxRecDepth 20000 in
theorem dX8_init_72 : decode cX8_init 72 = .ok (.anewarray 47, 3) := by decide +kernel
set_option maxRecDepth 20000 in
theorem dX8_init_75 : decode cX8_init 75 = .ok (.putfield 49, 3) := by decide +kernel
set_option maxRecDepth 20000 in
theorem dX8_init_78 : decode cX8_init 78 = .ok (.aload_n 0, 1) := by decide +kernel
set_option maxRecDepth 20000 in
theorem dX8_init_79 : decode cX8_init 79 = .ok (.bipush 6, 2) := by decide +kernel
set_option maxRecDepth 20000 in
theorem dX8_init_81 : decode cX8_init 81 = .ok (.newarray .int, 2) := by decide +kernel
set_option maxRecDepth 20000 in
theorem dX8_init_83 : decode cX8_init 83 = .ok (.putfield 53, 3) := by decide +kernel
set_option maxRecDepth 20000 in
theorem dX8_init_86 : decode cX8_init 86 = .ok (.aload_n 0, 1) := by decide +kernel
set_option maxRecDepth 20000 in
theorem dX8_init_87 : decode cX8_init 87 = .ok (.new 57, 3) := by decide +kernel
set_option maxRecDepth 20000 in
theorem dX8_init_90 : decode cX8_init 90 = .ok (.dup, 1) := by decide +kernel
set_option maxRecDepth 20000 in
theorem dX8_init_91 : decode cX8_init 91 = .ok (.invokespecial 59, 3) := by decide +kernel
set_option maxRecDepth 20000 in
theorem dX8_init_94 : decode cX8_init 94 = .ok (.putfield 60, 3) := by decide +kernel
set_option maxRecDepth 20000 in
theorem dX8_init_97 : decode cX8_init 97 = .ok (.aload_n 0, 1) := by decide +kernel
set_option maxRecDepth 20000 in
theorem dX8_init_98 : decode cX8_init 98 = .ok (.new 57, 3) := by decide +kernel
set_option maxRecDepth 20000 in
theorem dX8_init_101 : decode cX8_init 101 = .ok (.dup, 1) := by decide +kernel
set_option maxRecDepth 20000 in
theorem dX8_init_102 : decode cX8_init 102 = .ok (.invokespecial 59, 3) := by decide +kernel
set_option maxRecDepth 20000 in
theorem dX8_init_105 : decode cX8_init 105 = .ok (.putfield 64, 3) := by decide +kernel
set_option maxRecDepth 20000 in
theorem dX8_init_108 : decode cX8_init 108 = .ok (.aload_n 0, 1) := by decide +kernel
set_option maxRecDepth 20000 in
theorem dX8_init_109 : decode cX8_init 109 = .ok (.iconst 0, 1) := by decide +kernel
set_option maxRecDepth 20000 in
theorem dX8_init_110 : decode cX8_init 110 = .ok (.putfield 67, 3) := by decide +kernel
set_option maxRecDepth 20000 in
theorem dX8_init_113 : decode cX8_init 113 = .ok (.iconst 0, 1) := by decide +kernel
set_option maxRecDepth 20000 in
theorem dX8_init_114 : decode cX8_init 114 = .ok (.istore_n 1, 1) := by decide +kernel
set_option maxRecDepth 20000 in
theorem dX8_init_115 : decode cX8_init 115 = .ok (.iload_n 1, 1) := by decide +kernel
set_option maxRecDepth 20000 in
theorem dX8_init_116 : decode cX8_init 116 = .ok (.aload_n 0, 1) := by decide +kernel
set_option maxRecDepth 20000 in
theorem dX8_init_117 : decode cX8_init 117 = .ok (.getfield 49, 3) := by decide +kernel
set_option maxRecDepth 20000 in
theorem dX8_init_120 : decode cX8_init 120 = .ok (.arraylength, 1) := by decide +kernel
set_option maxRecDepth 20000 in
theorem dX8_init_121 : decode cX8_init 121 = .ok (.if_icmp .ge 22, 3) := by decide +kernel
set_option maxRecDepth 20000 in
theorem dX8_init_124 : decode cX8_init 124 = .ok (.aload_n 0, 1) := by decide +kernel
set_option maxRecDepth 20000 in
theorem dX8_init_125 : decode cX8_init 125 = .ok (.getfield 49, 3) := by decide +kernel
set_option maxRecDepth 20000 in
theorem dX8_init_128 : decode cX8_init 128 = .ok (.iload_n 1, 1) := by decide +kernel
set_option maxRecDepth 20000 in
theorem dX8_init_129 : decode cX8_init 129 = .ok (.new 47, 3) := by decide +kernel
set_option maxRecDepth 20000 in
theorem dX8_init_132 : decode cX8_init 132 = .ok (.dup, 1) := by decide +kernel
set_option maxRecDepth 20000 in
theorem dX8_init_133 : decode cX8_init 133 = .ok (.invokespecial 71, 3) := by decide +kernel
set_option maxRecDepth 20000 in
theorem dX8_init_136 : decode cX8_init 136 = .ok (.aastore, 1) := by decide +kernel
set_option maxRecDepth 20000 in
theorem dX8_init_137 : decode cX8_init 137 = .ok (.iinc 1 1, 3) := by decide +kernel
set_option maxRecDepth 20000 in
theorem dX8_init_140 : decode cX8_init 140 = .ok (.goto (-25), 3) := by decide +kernel
set_option maxRecDepth 20000 in
theorem dX8_init_143 : decode cX8_init 143 = .ok (.return_, 1) := by decide +kernel
set_option maxHeartbeats 4000000 in
set_option maxRecDepth 100000 in
theorem c_X8_init_0 (l : Launch) (G : GT) (hG : GA G) (b : Bst) (hb : b.1 = 1) : MW l G 4 106 80 1223 yX8_init cX8_init 2 (Option.none : Option Jvm.ClassFile.FieldType) [.ref (gad G 0)] (wb G b) none (wb G (i_X8_init_0 b)) := by
  refine mw_of RX8 (fun r : Bst => (none, wb G r)) [(0, .ref (gad G 0))] (by decide +kernel) rfl (Nat.le_of_ble_eq_true rfl) rfl (o := some (i_X8_init_0 b)) rfl rfl (fun p e s m args below meth c X hr hnm => ?_)
  refine sm_aload_n X 1 0 dX8_init_0 rfl rfl rfl ?_
  refine sb_obj X 4 q_23 q_24 q_25 ⟨(Nat.le_of_ble_eq_true rfl), (Nat.le_of_ble_eq_true rfl)⟩ dX8_init_1 rfl ?_
  refine sm_aload_n X 5 0 dX8_init_4 rfl rfl rfl ?_
  refine sb_new X 8 hG 1 1 16 hb (by decide) (by decide : K0 1 = 0) (by decide) rfl inX0 tyX0_ok df_0 q_26 q_27 q_2 rfl rfl ⟨(Nat.le_of_ble_eq_true rfl), (Nat.le_of_ble_eq_true rfl)⟩ dX8_init_5 rfl (fun b1 e1 n1 => ?_)
  refine sm_dup X 9 dX8_init_8 rfl rfl ?_
  refine sb_callI X 12 [] [.ref (gad G 1), .ref (gad G 0)] 27 388 (c_X0_init_1 l G hG b1 n1) (cw_X0_init) q_29 rfl q_28 rfl rfl (Nat.le_of_ble_eq_true rfl) ⟨(Nat.le_of_ble_eq_true rfl), (Nat.le_of_ble_eq_true rfl)⟩ rfl rfl ⟨(Nat.le_of_ble_eq_true rfl), (Nat.le_of_ble_eq_true rfl)⟩ dX8_init_9 rfl ?_
  obtain ⟨b2, e2⟩ : ∃ z, z = i_X0_init_1 (b1) := ⟨_, rfl⟩
  have n2 : b2.1 = 28 := by rw [e2]; show b1.1 + 26 = 28; rw [n1]
  rw [← e2]
  refine sb_putr X 15 (r := (some 1)) (.object "LakeSwimmers$Lake") n2 (by decide) (by decide : K0 0 = 8) fd_8_0 (by decide) rfl ⟨hnm, rfl⟩ rfl rfl rfl dX8_init_12 rfl q_289 (fun b3 e3 n3 => ?_)
  refine sm_aload_n X 16 0 dX8_init_15 rfl rfl rfl ?_
  refine sb_new X 19 hG 28 28 404 n3 (by decide) (by decide : K0 28 = 0) (by decide) rfl inX0 tyX0_ok df_0 q_26 q_27 q_2 rfl rfl ⟨(Nat.le_of_ble_eq_true rfl), (Nat.le_of_ble_eq_true rfl)⟩ dX8_init_16 rfl (fun b4 e4 n4 => ?_)
  refine sm_dup X 20 dX8_init_19 rfl rfl ?_
  refine sb_callI X 23 [] [.ref (gad G 28), .ref (gad G 0)] 54 776 (c_X0_init_28 l G hG b4 n4) (cw_X0_init) q_29 rfl q_28 rfl rfl (Nat.le_of_ble_eq_true rfl) ⟨(Nat.le_of_ble_eq_true rfl), (Nat.le_of_ble_eq_true rfl)⟩ rfl rfl ⟨(Nat.le_of_ble_eq_true rfl), (Nat.le_of_ble_eq_true rfl)⟩ dX8_init_20 rfl ?_
  obtain ⟨b5, e5⟩ : ∃ z, z = i_X0_init_28 (b4) := ⟨_, rfl⟩
  have n5 : b5.1 = 55 := by rw [e5]; show b4.1 + 26 = 55; rw [n4]
  rw [← e5]
  refine sb_putr X 26 (r := (some 28)) (.object "LakeSwimmers$Lake") n5 (by decide) (by decide : K0 0 = 8) fd_8_1 (by decide) rfl ⟨hnm, rfl⟩ rfl rfl rfl dX8_init_23 rfl q_290 (fun b6 e6 n6 => ?_)
  refine sm_aload_n X 27 0 dX8_init_26 rfl rfl rfl ?_
  refine sb_new X 30 hG 55 55 782 n6 (by decide) (by decide : K0 55 = 3) (by decide) rfl inX3 tyX3_ok df_3 q_151 q_152 q_5 rfl rfl ⟨(Nat.le_of_ble_eq_true rfl), (Nat.le_of_ble_eq_true rfl)⟩ dX8_init_27 rfl (fun b7 e7 n7 => ?_)
  refine sm_dup X 31 dX8_init_30 rfl rfl ?_
  refine sb_callIN X 34 (host := RX8) [] [.ref (gad G 55), .ref (gad G 0)] 57 882 (c_X3_init l G hG b7 55  n7 (by decide : 55 + 2 < NC) (by decide : K0 55 = 3) (by decide : K0 (55 + 1) = 20) (by decide : Ln0 (55 + 1) = 50) (by decide : K0 (55 + 2) = 20) (by decide : Ln0 (55 + 2) = 50)) (cw_X3_init) q_154 rfl (List.mem_of_getElem? (i := 1) rfl) rfl rfl (Nat.le_of_ble_eq_true rfl) ⟨(Nat.le_of_ble_eq_true rfl), (Nat.le_of_ble_eq_true rfl)⟩ rfl rfl ⟨(Nat.le_of_ble_eq_true rfl), (Nat.le_of_ble_eq_true rfl)⟩ dX8_init_31 rfl ?_
  obtain ⟨b8, e8⟩ : ∃ z, z = i_X3_init (b7) 55  := ⟨_, rfl⟩
  have n8 : b8.1 = 58 := by rw [e8]; show b7.1 + 2 = 58; rw [n7]
  rw [← e8]
  refine sb_putr X 37 (r := (some 55)) (.object "LakeSwimmers$Reader") n8 (by decide) (by decide : K0 0 = 8) fd_8_2 (by decide) rfl ⟨hnm, rfl⟩ rfl rfl rfl dX8_init_34 rfl q_291 (fun b9 e9 n9 => ?_)
  refine sm_aload_n X 38 0 dX8_init_37 rfl rfl rfl ?_
  refine sb_new X 41 hG 58 58 888 n9 (by decide) (by decide : K0 58 = 5) (by decide) rfl inX5 tyX5_ok df_5 q_180 q_181 q_6 rfl rfl ⟨(Nat.le_of_ble_eq_true rfl), (Nat.le_of_ble_eq_true rfl)⟩ dX8_init_38 rfl (fun b10 e10 n10 => ?_)
  refine sm_dup X 42 dX8_init_41 rfl rfl ?_
  refine sb_callIN X 45 (host := RX8) [] [.ref (gad G 58), .ref (gad G 0)] 59 894 (c_X5_init l G hG b10 58  n10 (by decide : 58 + 1 < NC) (by decide : K0 58 = 5) (by decide : K0 (58 + 1) = 20) (by decide : Ln0 (58 + 1) = 6)) (cw_X5_init) q_183 rfl (List.mem_of_getElem? (i := 2) rfl) rfl rfl (Nat.le_of_ble_eq_true rfl) ⟨(Nat.le_of_ble_eq_true rfl), (Nat.le_of_ble_eq_true rfl)⟩ rfl rfl ⟨(Nat.le_of_ble_eq_true rfl), (Nat.le_of_ble_eq_true rfl)⟩ dX8_init_42 rfl ?_
  obtain ⟨b11, e11⟩ : ∃ z, z = i_X5_init (b10) 58  := ⟨_, rfl⟩
  have n11 : b11.1 = 60 := by rw [e11]; show b10.1 + 1 = 60; rw [n10]
  rw [← e11]
  refine sb_putr X 48 (r := (some 58)) (.object "LakeSwimmers$Swim") n11 (by decide) (by decide : K0 0 = 8) fd_8_3 (by decide) rfl ⟨hnm, rfl⟩ rfl rfl rfl dX8_init_45 rfl q_292 (fun b12 e12 n12 => ?_)
  refine sm_aload_n X 49 0 dX8_init_48 rfl rfl rfl ?_
  refine sb_new X 52 hG 60 60 902 n12 (by decide) (by decide : K0 60 = 2) (by decide) rfl inX2 tyX2_ok df_2 q_208 q_209 q_7 rfl rfl ⟨(Nat.le_of_ble_eq_true rfl), (Nat.le_of_ble_eq_true rfl)⟩ dX8_init_49 rfl (fun b13 e13 n13 => ?_)
  refine sm_dup X 53 dX8_init_52 rfl rfl ?_
  refine sb_callIN X 56 (host := RX8) [] [.ref (gad G 60), .ref (gad G 0)] 64 976 (c_X2_init_60 l G hG b13 n13) (cw_X2_init) q_211 rfl (List.mem_of_getElem? (i := 3) rfl) rfl rfl (Nat.le_of_ble_eq_true rfl) ⟨(Nat.le_of_ble_eq_true rfl), (Nat.le_of_ble_eq_true rfl)⟩ rfl rfl ⟨(Nat.le_of_ble_eq_true rfl), (Nat.le_of_ble_eq_true rfl)⟩ dX8_init_53 rfl ?_
  obtain ⟨b14, e14⟩ : ∃ z, z = i_X2_init_60 (b13) := ⟨_, rfl⟩
  have n14 : b14.1 = 65 := by rw [e14]; show b13.1 + 4 = 65; rw [n13]
  rw [← e14]
  refine sb_putr X 59 (r := (some 60)) (.object "LakeSwimmers$PlanSearch") n14 (by decide) (by decide : K0 0 = 8) fd_8_4 (by decide) rfl ⟨hnm, rfl⟩ rfl rfl rfl dX8_init_56 rfl q_293 (fun b15 e15 n15 => ?_)
  refine sm_aload_n X 60 0 dX8_init_59 rfl rfl rfl ?_
  refine sb_new X 63 hG 65 65 981 n15 (by decide) (by decide : K0 65 = 7) (by decide) rfl inX7 tyX7_ok df_7 q_243 q_244 q_8 rfl rfl ⟨(Nat.le_of_ble_eq_true rfl), (Nat.le_of_ble_eq_true rfl)⟩ dX8_init_60 rfl (fun b16 e16 n16 => ?_)
  refine sm_dup X 64 dX8_init_63 rfl rfl ?_
  refine sb_callIN X 67 (host := RX8) [] [.ref (gad G 65), .ref (gad G 0)] 66 1021 (c_X7_init l G hG b16 65  n16 (by decide : 65 + 1 < NC) (by decide : K0 65 = 7) (by decide : K0 (65 + 1) = 20) (by decide : Ln0 (65 + 1) = 40)) (cw_X7_init) q_246 rfl (List.mem_of_getElem? (i := 5) rfl) rfl rfl (Nat.le_of_ble_eq_true rfl) ⟨(Nat.le_of_ble_eq_true rfl), (Nat.le_of_ble_eq_true rfl)⟩ rfl rfl ⟨(Nat.le_of_ble_eq_true rfl), (Nat.le_of_ble_eq_true rfl)⟩ dX8_init_64 rfl ?_
  obtain ⟨b17, e17⟩ : ∃ z, z = i_X7_init (b16) 65  := ⟨_, rfl⟩
  have n17 : b17.1 = 67 := by rw [e17]; show b16.1 + 1 = 67; rw [n16]
  rw [← e17]
  refine sb_putr X 70 (r := (some 65)) (.object "LakeSwimmers$Voices") n17 (by decide) (by decide : K0 0 = 8) fd_8_5 (by decide) rfl ⟨hnm, rfl⟩ rfl rfl rfl dX8_init_67 rfl q_294 (fun b18 e18 n18 => ?_)
  refine sm_aload_n X 71 0 dX8_init_70 rfl rfl rfl ?_
  refine sm_iconst X 72 (4) dX8_init_71 rfl rfl ?_
  refine sb_newq X 75 2 hG 67 67 1025 n18 (by decide) (by decide) (by decide : K0 67 = 22) (by decide : Ln0 67 = 4) (by decide) (by decide) (Nat.le_of_ble_eq_true rfl) ⟨_, rfl⟩ rfl X.2.2.2.2.2.2.2.1.2.2.1 q_267 rfl rfl ⟨(Nat.le_of_ble_eq_true rfl), (Nat.le_of_ble_eq_true rfl)⟩ dX8_init_72 rfl (fun b19 e19 n19 => ?_)
  refine sb_putr X 78 (r := (some 67)) (.array (.object "LakeSwimmers$Sheet")) n19 (by decide) (by decide : K0 0 = 8) fd_8_6 (by decide) rfl ⟨hnm, rfl⟩ rfl rfl rfl dX8_init_75 rfl q_295 (fun b20 e20 n20 => ?_)
  have f6_20 := bR_here e20
  refine sm_aload_n X 79 0 dX8_init_78 rfl rfl rfl ?_
  refine sm_bipush X 81 (6) dX8_init_79 rfl rfl ?_
  refine sb_newa X 83 hG 68 68 1031 n20 (by decide) (by decide : K0 68 = 20) (by decide : Ln0 68 = 6) (by decide) (by decide) (Nat.le_of_ble_eq_true rfl) q_53 rfl rfl ⟨(Nat.le_of_ble_eq_true rfl), (Nat.le_of_ble_eq_true rfl)⟩ dX8_init_81 rfl (fun b21 e21 n21 => ?_)
  have f6_21 := bN_keep e21 n20 (by decide) f6_20
  refine sb_putr X 86 (r := (some 68)) (.array .int) n21 (by decide) (by decide : K0 0 = 8) fd_8_7 (by decide) rfl ⟨hnm, rfl⟩ rfl rfl rfl dX8_init_83 rfl q_296 (fun b22 e22 n22 => ?_)
  have f6_22 := bR_keep e22 (by decide) f6_21
  refine sm_aload_n X 87 0 dX8_init_86 rfl rfl rfl ?_
  refine sb_new X 90 hG 69 69 1037 n22 (by decide) (by decide : K0 69 = 6) (by decide) rfl inX6 tyX6_ok df_6 q_269 q_54 q_4 rfl rfl ⟨(Nat.le_of_ble_eq_true rfl), (Nat.le_of_ble_eq_true rfl)⟩ dX8_init_87 rfl (fun b23 e23 n23 => ?_)
  have f6_23 := bN_keep e23 n22 (by decide) f6_22
  refine sm_dup X 91 dX8_init_90 rfl rfl ?_
  refine sb_callIN X 94 (host := RX8) [] [.ref (gad G 69), .ref (gad G 0)] 70 1041 (c_X6_init l G hG b23 69  n23 (by decide : 69 + 1 < NC) (by decide : K0 69 = 6) (by decide : K0 (69 + 1) = 20) (by decide : Ln0 (69 + 1) = 4)) (cw_X6_init) q_56 rfl (List.mem_of_getElem? (i := 6) rfl) rfl rfl (Nat.le_of_ble_eq_true rfl) ⟨(Nat.le_of_ble_eq_true rfl), (Nat.le_of_ble_eq_true rfl)⟩ rfl rfl ⟨(Nat.le_of_ble_eq_true rfl), (Nat.le_of_ble_eq_true rfl)⟩ dX8_init_91 rfl ?_
  obtain ⟨b24, e24⟩ : ∃ z, z = i_X6_init (b23) 69  := ⟨_, rfl⟩
  have n24 : b24.1 = 71 := by rw [e24]; show b23.1 + 1 = 71; rw [n23]
  rw [← e24]
  have f6_24 := k_X6_init e24 n23 (by decide) (by decide) f6_23
  refine sb_putr X 97 (r := (some 69)) (.object "LakeSwimmers$Swimmer") n24 (by decide) (by decide : K0 0 = 8) fd_8_8 (by decide) rfl ⟨hnm, rfl⟩ rfl rfl rfl dX8_init_94 rfl q_297 (fun b25 e25 n25 => ?_)
  have f6_25 := bR_keep e25 (by decide) f6_24
  refine sm_aload_n X 98 0 dX8_init_97 rfl rfl rfl ?_
  refine sb_new X 101 hG 71 71 1047 n25 (by decide) (by decide : K0 71 = 6) (by decide) rfl inX6 tyX6_ok df_6 q_269 q_54 q_4 rfl rfl ⟨(Nat.le_of_ble_eq_true rfl), (Nat.le_of_ble_eq_true rfl)⟩ dX8_init_98 rfl (fun b26 e26 n26 => ?_)
  have f6_26 := bN_keep e26 n25 (by decide) f6_25
  refine sm_dup X 102 dX8_init_101 rfl rfl ?_
  refine sb_callIN X 105 (host := RX8) [] [.ref (gad G 71), .ref (gad G 0)] 72 1051 (c_X6_init l G hG b26 71  n26 (by decide : 71 + 1 < NC) (by decide : K0 71 = 6) (by decide : K0 (71 + 1) = 20) (by decide : Ln0 (71 + 1) = 4)) (cw_X6_init) q_56 rfl (List.mem_of_getElem? (i := 6) rfl) rfl rfl (Nat.le_of_ble_eq_true rfl) ⟨(Nat.le_of_ble_eq_true rfl), (Nat.le_of_ble_eq_true rfl)⟩ rfl rfl ⟨(Nat.le_of_ble_eq_true rfl), (Nat.le_of_ble_eq_true rfl)⟩ dX8_init_102 rfl ?_
  obtain ⟨b27, e27⟩ : ∃ z, z = i_X6_init (b26) 71  := ⟨_, rfl⟩
  have n27 : b27.1 = 73 := by rw [e27]; show b26.1 + 1 = 73; rw [n26]
  rw [← e27]
  have f6_27 := k_X6_init e27 n26 (by decide) (by decide) f6_26
  refine sb_putr X 108 (r := (some 71)) (.object "LakeSwimmers$Swimmer") n27 (by decide) (by decide : K0 0 = 8) fd_8_9 (by decide) rfl ⟨hnm, rfl⟩ rfl rfl rfl dX8_init_105 rfl q_298 (fun b28 e28 n28 => ?_)
  have f6_28 := bR_keep e28 (by decide) f6_27
  refine sm_aload_n X 109 0 dX8_init_108 rfl rfl rfl ?_
  refine sm_iconst X 110 (0) dX8_init_109 rfl rfl ?_
  refine sb_puti X 113 .int n28 (by decide) (by decide : K0 0 = 8) fd_8_10 ⟨hnm, rfl⟩ rfl rfl rfl dX8_init_110 rfl q_299 (fun b29 e29 n29 => ?_)
  have f6_29 := bI_keep e29 f6_28
  refine sm_iconst X 114 (0) dX8_init_113 rfl rfl ?_
  refine sm_istore_n X 115 [(1, .int 0), (0, .ref (gad G 0))] dX8_init_114 rfl rfl (by decide) rfl ?_
  refine sm_iload_n X 116 0 dX8_init_115 rfl rfl rfl ?_
  refine sm_aload_n X 117 1 dX8_init_116 rfl rfl rfl ?_
  refine sb_getf X 120 67 n29 (by decide) (by decide : K0 0 = 8) fd_8_6 (by decide) f6_29 dX8_init_117 rfl q_295 ?_
  refine sb_alen X 121 4 n29 (by decide) (i := 2) (by decide) (by decide : K0 67 = 22) rfl (by decide) dX8_init_120 rfl ?_
  refine sb_ge X 124 143 dX8_init_121 rfl (by decide) (fun q => absurd q (by decide)) (fun _ => ?_)
  refine sm_aload_n X 125 1 dX8_init_124 rfl rfl rfl ?_
  refine sb_getf X 128 67 n29 (by decide) (by decide : K0 0 = 8) fd_8_6 (by decide) f6_29 dX8_init_125 rfl q_295 ?_
  refine sm_iload_n X 129 0 dX8_init_128 rfl rfl rfl ?_
  refine sb_new X 132 hG 73 73 1054 n29 (by decide) (by decide : K0 73 = 4) (by decide) rfl inX4 tyX4_ok df_4 q_267 q_271 q_9 rfl rfl ⟨(Nat.le_of_ble_eq_true rfl), (Nat.le_of_ble_eq_true rfl)⟩ dX8_init_129 rfl (fun b30 e30 n30 => ?_)
  have f6_30 := bN_keep e30 n29 (by decide) f6_29
  refine sm_dup X 133 dX8_init_132 rfl rfl ?_
  refine sb_callIN X 136 (host := RX8) [] [.ref (gad G 73), .int 0, .ref (gad G 67)] 74 1094 (c_X4_init l G hG b30 73  n30 (by decide : 73 + 1 < NC) (by decide : K0 73 = 4) (by decide : K0 (73 + 1) = 20) (by decide : Ln0 (73 + 1) = 40)) (cw_X4_init) q_273 rfl (List.mem_of_getElem? (i := 7) rfl) rfl rfl (Nat.le_of_ble_eq_true rfl) ⟨(Nat.le_of_ble_eq_true rfl), (Nat.le_of_ble_eq_true rfl)⟩ rfl rfl ⟨(Nat.le_of_ble_eq_true rfl), (Nat.le_of_ble_eq_true rfl)⟩ dX8_init_133 rfl ?_
  obtain ⟨b31, e31⟩ : ∃ z, z = i_X4_init (b30) 73  := ⟨_, rfl⟩
  have n31 : b31.1 = 75 := by rw [e31]; show b30.1 + 1 = 75; rw [n30]
  rw [← e31]
  have f6_31 := k_X4_init e31 n30 (by decide) (by decide) f6_30
  refine sb_aast X 137 (i := 2) (ci := 4) 0 n31 (by decide) (by decide) (by decide) (by decide : K0 67 = 22) rfl (by decide : K0 73 = 4) (by decide) rfl (by decide) (by decide) dX8_init_136 rfl (fun b32 e32 n32 => ?_)
  have f6_32 := bR_keep e32 (by decide) f6_31
  refine sm_iinc X 140 0 (1) [(1, .int 1), (0, .ref (gad G 0))] dX8_init_137 rfl rfl rfl (by decide) rfl ?_
  refine sm_goto X 115 dX8_init_140 (by decide) ?_
  refine sm_iload_n X 116 0 dX8_init_115 rfl rfl rfl ?_
  refine sm_aload_n X 117 1 dX8_init_116 rfl rfl rfl ?_
  refine sb_getf X 120 67 n32 (by decide) (by decide : K0 0 = 8) fd_8_6 (by decide) f6_32 dX8_init_117 rfl q_295 ?_
  refine sb_alen X 121 4 n32 (by decide) (i := 2) (by decide) (by decide : K0 67 = 22) rfl (by decide) dX8_init_120 rfl ?_
  refine sb_ge X 124 143 dX8_init_121 rfl (by decide) (fun q => absurd q (by decide)) (fun _ => ?_)
  refine sm_aload_n X 125 1 dX8_init_124 rfl rfl rfl ?_
  refine sb_getf X 128 67 n32 (by decide) (by decide : K0 0 = 8) fd_8_6 (by decide) f6_32 dX8_init_125 rfl q_295 ?_
  refine sm_iload_n X 129 0 dX8_init_128 rfl rfl rfl ?_
  refine sb_new X 132 hG 75 75 1097 n32 (by decide) (by decide : K0 75 = 4) (by decide) rfl inX4 tyX4_ok df_4 q_267 q_271 q_9 rfl rfl ⟨(Nat.le_of_ble_eq_true rfl), (Nat.le_of_ble_eq_true rfl)⟩ dX8_init_129 rfl (fun b33 e33 n33 => ?_)
  have f6_33 := bN_keep e33 n32 (by decide) f6_32
  refine sm_dup X 133 dX8_init_132 rfl rfl ?_
  refine sb_callIN X 136 (host := RX8) [] [.ref (gad G 75), .int 1, .ref (gad G 67)] 76 1137 (c_X4_init l G hG b33 75  n33 (by decide : 75 + 1 < NC) (by decide : K0 75 = 4) (by decide : K0 (75 + 1) = 20) (by decide : Ln0 (75 + 1) = 40)) (cw_X4_init) q_273 rfl (List.mem_of_getElem? (i := 7) rfl) rfl rfl (Nat.le_of_ble_eq_true rfl) ⟨(Nat.le_of_ble_eq_true rfl), (Nat.le_of_ble_eq_true rfl)⟩ rfl rfl ⟨(Nat.le_of_ble_eq_true rfl), (Nat.le_of_ble_eq_true rfl)⟩ dX8_init_133 rfl ?_
  obtain ⟨b34, e34⟩ : ∃ z, z = i_X4_init (b33) 75  := ⟨_, rfl⟩
  have n34 : b34.1 = 77 := by rw [e34]; show b33.1 + 1 = 77; rw [n33]
  rw [← e34]
  have f6_34 := k_X4_init e34 n33 (by decide) (by decide) f6_33
  refine sb_aast X 137 (i := 2) (ci := 4) 1 n34 (by decide) (by decide) (by decide) (by decide : K0 67 = 22) rfl (by decide : K0 75 = 4) (by decide) rfl (by decide) (by decide) dX8_init_136 rfl (fun b35 e35 n35 => ?_)
  have f6_35 := bR_keep e35 (by decide) f6_34
  refine sm_iinc X 140 0 (1) [(1, .int 2), (0, .ref (gad G 0))] dX8_init_137 rfl rfl rfl (by decide) rfl ?_
  refine sm_goto X 115 dX8_init_140 (by decide) ?_
  refine sm_iload_n X 116 0 dX8_init_115 rfl rfl rfl ?_
  refine sm_aload_n X 117 1 dX8_init_116 rfl rfl rfl ?_
  refine sb_getf X 120 67 n35 (by decide) (by decide : K0 0 = 8) fd_8_6 (by decide) f6_35 dX8_init_117 rfl q_295 ?_
  refine sb_alen X 121 4 n35 (by decide) (i := 2) (by decide) (by decide : K0 67 = 22) rfl (by decide) dX8_init_120 rfl ?_
  refine sb_ge X 124 143 dX8_init_121 rfl (by decide) (fun q => absurd q (by decide)) (fun _ => ?_)
  refine sm_aload_n X 125 1 dX8_init_124 rfl rfl rfl ?_
  refine sb_getf X 128 67 n35 (by decide) (by decide : K0 0 = 8) fd_8_6 (by decide) f6_35 dX8_init_125 rfl q_295 ?_
  refine sm_iload_n X 129 0 dX8_init_128 rfl rfl rfl ?_
  refine sb_new X 132 hG 77 77 1140 n35 (by decide) (by decide : K0 77 = 4) (by decide) rfl inX4 tyX4_ok df_4 q_267 q_271 q_9 rfl rfl ⟨(Nat.le_of_ble_eq_true rfl), (Nat.le_of_ble_eq_true rfl)⟩ dX8_init_129 rfl (fun b36 e36 n36 => ?_)
  have f6_36 := bN_keep e36 n35 (by decide) f6_35
  refine sm_dup X 133 dX8_init_132 rfl rfl ?_
  refine sb_callIN X 136 (host := RX8) [] [.ref (gad G 77), .int 2, .ref (gad G 67)] 78 1180 (c_X4_init l G hG b36 77  n36 (by decide : 77 + 1 < NC) (by decide : K0 77 = 4) (by decide : K0 (77 + 1) = 20) (by decide : Ln0 (77 + 1) = 40)) (cw_X4_init) q_273 rfl (List.mem_of_getElem? (i := 7) rfl) rfl rfl (Nat.le_of_ble_eq_true rfl) ⟨(Nat.le_of_ble_eq_true rfl), (Nat.le_of_ble_eq_true rfl)⟩ rfl rfl ⟨(Nat.le_of_ble_eq_true rfl), (Nat.le_of_ble_eq_true rfl)⟩ dX8_init_133 rfl ?_
  obtain ⟨b37, e37⟩ : ∃ z, z = i_X4_init (b36) 77  := ⟨_, rfl⟩
  have n37 : b37.1 = 79 := by rw [e37]; show b36.1 + 1 = 79; rw [n36]
  rw [← e37]
  have f6_37 := k_X4_init e37 n36 (by decide) (by decide) f6_36
  refine sb_aast X 137 (i := 2) (ci := 4) 2 n37 (by decide) (by decide) (by decide) (by decide : K0 67 = 22) rfl (by decide : K0 77 = 4) (by decide) rfl (by decide) (by decide) dX8_init_136 rfl (fun b38 e38 n38 => ?_)
  have f6_38 := bR_keep e38 (by decide) f6_37
  refine sm_iinc X 140 0 (1) [(1, .int 3), (0, .ref (gad G 0))] dX8_init_137 rfl rfl rfl (by decide) rfl ?_
  refine sm_goto X 115 dX8_init_140 (by decide) ?_
  refine sm_iload_n X 116 0 dX8_init_115 rfl rfl rfl ?_
  refine sm_aload_n X 117 1 dX8_init_116 rfl rfl rfl ?_
  refine sb_getf X 120 67 n38 (by decide) (by decide : K0 0 = 8) fd_8_6 (by decide) f6_38 dX8_init_117 rfl q_295 ?_
  refine sb_alen X 121 4 n38 (by decide) (i := 2) (by decide) (by decide : K0 67 = 22) rfl (by decide) dX8_init_120 rfl ?_
  refine sb_ge X 124 143 dX8_init_121 rfl (by decide) (fun q => absurd q (by decide)) (fun _ => ?_)
  refine sm_aload_n X 125 1 dX8_init_124 rfl rfl rfl ?_
  refine sb_getf X 128 67 n38 (by decide) (by decide : K0 0 = 8) fd_8_6 (by decide) f6_38 dX8_init_125 rfl q_295 ?_
  refine sm_iload_n X 129 0 dX8_init_128 rfl rfl rfl ?_
  refine sb_new X 132 hG 79 79 1183 n38 (by decide) (by decide : K0 79 = 4) (by decide) rfl inX4 tyX4_ok df_4 q_267 q_271 q_9 rfl rfl ⟨(Nat.le_of_ble_eq_true rfl), (Nat.le_of_ble_eq_true rfl)⟩ dX8_init_129 rfl (fun b39 e39 n39 => ?_)
  have f6_39 := bN_keep e39 n38 (by decide) f6_38
  refine sm_dup X 133 dX8_init_132 rfl rfl ?_
  refine sb_callIN X 136 (host := RX8) [] [.ref (gad G 79), .int 3, .ref (gad G 67)] 80 1223 (c_X4_init l G hG b39 79  n39 (by decide : 79 + 1 < NC) (by decide : K0 79 = 4) (by decide : K0 (79 + 1) = 20) (by decide : Ln0 (79 + 1) = 40)) (cw_X4_init) q_273 rfl (List.mem_of_getElem? (i := 7) rfl) rfl rfl (Nat.le_of_ble_eq_true rfl) ⟨(Nat.le_of_ble_eq_true rfl), (Nat.le_of_ble_eq_true rfl)⟩ rfl rfl ⟨(Nat.le_of_ble_eq_true rfl), (Nat.le_of_ble_eq_true rfl)⟩ dX8_init_133 rfl ?_
  obtain ⟨b40, e40⟩ : ∃ z, z = i_X4_init (b39) 79  := ⟨_, rfl⟩
  have n40 : b40.1 = 81 := by rw [e40]; show b39.1 + 1 = 81; rw [n39]
  rw [← e40]
  have f6_40 := k_X4_init e40 n39 (by decide) (by decide) f6_39
  refine sb_aast X 137 (i := 2) (ci := 4) 3 n40 (by decide) (by decide) (by decide) (by decide : K0 67 = 22) rfl (by decide : K0 79 = 4) (by decide) rfl (by decide) (by decide) dX8_init_136 rfl (fun b41 e41 n41 => ?_)
  have f6_41 := bR_keep e41 (by decide) f6_40
  refine sm_iinc X 140 0 (1) [(1, .int 4), (0, .ref (gad G 0))] dX8_init_137 rfl rfl rfl (by decide) rfl ?_
  refine sm_goto X 115 dX8_init_140 (by decide) ?_
  refine sm_iload_n X 116 0 dX8_init_115 rfl rfl rfl ?_
  refine sm_aload_n X 117 1 dX8_init_116 rfl rfl rfl ?_
  refine sb_getf X 120 67 n41 (by decide) (by decide : K0 0 = 8) fd_8_6 (by decide) f6_41 dX8_init_117 rfl q_295 ?_
  refine sb_alen X 121 4 n41 (by decide) (i := 2) (by decide) (by decide : K0 67 = 22) rfl (by decide) dX8_init_120 rfl ?_
  refine sb_ge X 124 143 dX8_init_121 rfl (by decide) (fun _ => ?_) (fun q => absurd (by decide) q)
  exact sm_vret X hr dX8_init_143 (by rw [e41, e40, e39, e38, e37, e36, e35, e34, e33, e32, e31, e30, e29, e28, e27, e26, e25, e24, e23, e22, e21, e20, e19, e18, e17, e16, e15, e14, e13, e12, e11, e10, e9, e8, e7, e6, e5, e4, e3, e2, e1]; rfl)
def i_X9_init_81 (b : Bst) : Bst := bI (bI (bI (bR (bN (bR (bN (bR (bN (bR (bN (bR (bN (bR (bN (bR (bN (bR (bN (bR (bN (bR (bN (bR (bN (bR (bN (b)) 81 0 (some 82))) 81 1 (some 83))) 81 2 (some 84))) 81 4 (some 85))) 81 11 (some 86))) 81 12 (some 87))) 81 14 (some 88))) 81 17 (some 89))) 81 20 (some 90))) 81 21 (some 91))) 81 22 (some 92))) 81 23 (some 93)) 82 7 10) 82 8 600) 82 13 1
set_option maxRecDepth 20000 in
theorem dX9_init_0 : decode cX9_init 0 = .ok (.aload_n 0, 1) := by decide +kernel
set_option maxRecDepth 20000 in
theorem dX9_init_1 : decode cX9_init 1 = .ok (.invokespecial 1, 3) := by decide +kernel
set_option maxRecDepth 20000 in
theorem dX9_init_4 : decode cX9_init 4 = .ok (.aload_n 0, 1) := by decide +kernel
set_option maxRecDepth 20000 in
theorem dX9_init_5 : decode cX9_init 5 = .ok (.sipush 270, 3) := by decide +kernel
set_option maxRecDepth 20000 in
theorem dX9_init_8 : decode cX9_init 8 = .ok (.newarray .int, 2) := by decide +kernel
set_option maxRecDepth 20000 in
theorem dX9_init_10 : decode cX9_init 10 = .ok (.putfield 7, 3) := by decide +kernel
set_option maxRecDepth 20000 in
theorem dX9_init_13 : decode cX9_init 13 = .ok (.aload_n 0, 1) := by decide +kernel
set_option maxRecDepth 20000 in
theorem dX9_init_14 : decode cX9_init 14 = .ok (.sipush 270, 3) := by decide +kernel
set_option maxRecDepth 20000 in
theorem dX9_init_17 : decode cX9_init 17 = .ok (.newarray .int, 2) := by decide +kernel
set_option maxRecDepth 20000 in
theorem dX9_init_19 : decode cX9_init 19 = .ok (.putfield 13, 3) := by decide +kernel
set_option maxRecDepth 20000 in
theorem dX9_init_22 : decode cX9_init 22 = .ok (.aload_n 0, 1) := by decide +kernel
set_option maxRecDepth 20000 in
theorem dX9_init_23 : decode cX9_init 23 = .ok (.sipush 270, 3) := by decide +kernel
set_option maxRecDepth 20000 in
theorem dX9_init_26 : decode cX9_init 26 = .ok (.newarray .int, 2) := by decide +kernel
set_option maxRecDepth 20000 in
theorem dX9_init_28 : decode cX9_init 28 = .ok (.putfield 16, 3) := by decide +kernel
set_option maxRecDepth 20000 in
theorem dX9_init_31 : decode cX9_init 31 = .ok (.aload_n 0, 1) := by decide +kernel
set_option maxRecDepth 20000 in
theorem dX9_init_32 : decode cX9_init 32 = .ok (.bipush 6, 2) := by decide +kernel
set_option maxRecDepth 20000 in
theorem dX9_init_34 : decode cX9_init 34 = .ok (.newarray .int, 2) := by decide +kernel
set_option maxRecDepth 20000 in
theorem dX9_init_36 : decode cX9_init 36 = .ok (.putfield 19, 3) := by decide +kernel
set_option maxRecDepth 20000 in
theorem dX9_init_39 : decode cX9_init 39 = .ok (.aload_n 0, 1) := by decide +kernel
set_option maxRecDepth 20000 in
theorem dX9_init_40 : decode cX9_init 40 = .ok (.iconst 3, 1) := by decide +kernel
set_option maxRecDepth 20000 in
theorem dX9_init_41 : decode cX9_init 41 = .ok (.newarray .int, 2) := by decide +kernel
set_option maxRecDepth 20000 in
theorem dX9_init_43 : decode cX9_init 43 = .ok (.putfield 22, 3) := by decide +kernel
set_option maxRecDepth 20000 in
theorem dX9_init_46 : decode cX9_init 46 = .ok (.aload_n 0, 1) := by decide +kernel
set_option maxRecDepth 20000 in
theorem dX9_init_47 : decode cX9_init 47 = .ok (.bipush 60, 2) := by decide +kernel
set_option maxRecDepth 20000 in
theorem dX9_init_49 : decode cX9_init 49 = .ok (.newarray .int, 2) := by decide +kernel
set_option maxRecDepth 20000 in
theorem dX9_init_51 : decode cX9_init 51 = .ok (.putfield 25, 3) := by decide +kernel
set_option maxRecDepth 20000 in
theorem dX9_init_54 : decode cX9_init 54 = .ok (.aload_n 0, 1) := by decide +kernel
set_option maxRecDepth 20000 in
theorem dX9_init_55 : decode cX9_init 55 = .ok (.bipush 60, 2) := by decide +kernel
set_option maxRecDepth 20000 in
theorem dX9_init_57 : decode cX9_init 57 = .ok (.newarray .int, 2) := by decide +kernel
set_option maxRecDepth 20000 in
theorem dX9_init_59 : decode cX9_init 59 = .ok (.putfield 28, 3) := by decide +kernel
set_option maxRecDepth 20000 in
theorem dX9_init_62 : decode cX9_init 62 = .ok (.aload_n 0, 1) := by decide +kernel
set_option maxRecDepth 20000 in
theorem dX9_init_63 : decode cX9_init 63 = .ok (.bipush 40, 2) := by decide +kernel
set_option maxRecDepth 20000 in
theorem dX9_init_65 : decode cX9_init 65 = .ok (.newarray .int, 2) := by decide +kernel
set_option maxRecDepth 20000 in
theorem dX9_init_67 : decode cX9_init 67 = .ok (.putfield 31, 3) := by decide +kernel
set_option maxRecDepth 20000 in
theorem dX9_init_70 : decode cX9_init 70 = .ok (.aload_n 0, 1) := by decide +kernel
set_option maxRecDepth 20000 in
theorem dX9_init_71 : decode cX9_init 71 = .ok (.iconst 4, 1) := by decide +kernel
set_option maxRecDepth 20000 in
theorem dX9_init_72 : decode cX9_init 72 = .ok (.newarray .int, 2) := by decide +kernel
set_option maxRecDepth 20000 in
theorem dX9_init_74 : decode cX9_init 74 = .ok (.putfield 34, 3) := by decide +kernel
set_option maxRecDepth 20000 in
theorem dX9_init_77 : decode cX9_init 77 = .ok (.aload_n 0, 1) := by decide +kernel
set_option maxRecDepth 20000 in
theorem dX9_init_78 : decode cX9_init 78 = .ok (.iconst 4, 1) := by decide +kernel
set_option maxRecDepth 20000 in
theorem dX9_init_79 : decode cX9_init 79 = .ok (.newarray .int, 2) := by decide +kernel
set_option maxRecDepth 20000 in
theorem dX9_init_81 : decode cX9_init 81 = .ok (.putfield 37, 3) := by decide +kernel
set_option maxRecDepth 20000 in
theorem dX9_init_84 : decode cX9_init 84 = .ok (.aload_n 0, 1) := by decide +kernel
set_option maxRecDepth 20000 in
theorem dX9_init_85 : decode cX9_init 85 = .ok (.sipush 160, 3) := by decide +kernel
set_option maxRecDepth 20000 in
theorem dX9_init_88 : decode cX9_init 88 = .ok (.newarray .int, 2) := by decide +kernel
set_option maxRecDepth 20000 in
theorem dX9_init_90 : decode cX9_init 90 = .ok (.putfield 40, 3) := by decide +kernel
set_option maxRecDepth 20000 in
theorem dX9_init_93 : decode cX9_init 93 = .ok (.aload_n 0, 1) := by decide +kernel
set_option maxRecDepth 20000 in
theorem dX9_init_94 : decode cX9_init 94 = .ok (.bipush 40, 2) := by decide +kernel
set_option maxRecDepth 20000 in
theorem dX9_init_96 : decode cX9_init 96 = .ok (.newarray .int, 2) := by decide +kernel
set_option maxRecDepth 20000 in
theorem dX9_init_98 : decode cX9_init 98 = .ok (.putfield 43, 3) := by decide +kernel
set_option maxRecDepth 20000 in
theorem dX9_init_101 : decode cX9_init 101 = .ok (.aload_n 0, 1) := by decide +kernel
set_option maxRecDepth 20000 in
theorem dX9_init_102 : decode cX9_init 102 = .ok (.getfield 7, 3) := by decide +kernel
set_option maxRecDepth 20000 in
theorem dX9_init_105 : decode cX9_init 105 = .ok (.bipush 7, 2) := by decide +kernel
set_option maxRecDepth 20000 in
theorem dX9_init_107 : decode cX9_init 107 = .ok (.bipush 10, 2) := by decide +kernel
set_option maxRecDepth 20000 in
theorem dX9_init_109 : decode cX9_init 109 = .ok (.iastore, 1) := by decide +kernel
set_option maxRecDepth 20000 in
theorem dX9_init_110 : decode cX9_init 110 = .ok (.aload_n 0, 1) := by decide +kernel
set_option maxRecDepth 20000 in
theorem dX9_init_111 : decode cX9_init 111 = .ok (.getfield 7, 3) := by decide +kernel
set_option maxRecDepth 20000 in
theorem dX9_init_114 : decode cX9_init 114 = .ok (.bipush 8, 2) := by decide +kernel
set_option maxRecDepth 20000 in
theorem dX9_init_116 : decode cX9_init 116 = .ok (.sipush 600, 3) := by decide +kernel
set_option maxRecDepth 20000 in
theorem dX9_init_119 : decode cX9_init 119 = .ok (.iastore, 1) := by decide +kernel
set_option maxRecDepth 20000 in
theorem dX9_init_120 : decode cX9_init 120 = .ok (.aload_n 0, 1) := by decide +kernel
set_option maxRecDepth 20000 in
theorem dX9_init_121 : decode cX9_init 121 = .ok (.getfield 7, 3) := by decide +kernel
set_option maxRecDepth 20000 in
theorem dX9_init_124 : decode cX9_init 124 = .ok (.bipush 13, 2) := by decide +kernel
set_option maxRecDepth 20000 in
theorem dX9_init_126 : decode cX9_init 126 = .ok (.iconst 1, 1) := by decide +kernel
set_option maxRecDepth 20000 in
theorem dX9_init_127 : decode cX9_init 127 = .ok (.iastore, 1) := by decide +kernel
set_option maxRecDepth 20000 in
theorem dX9_init_128 : decode cX9_init 128 = .ok (.return_, 1) := by decide +kernel
set_option maxHeartbeats 4000000 in
set_option maxRecDepth 100000 in
theorem c_X9_init_81 (l : Launch) (G : GT) (hG : GA G) (b : Bst) (hb : b.1 = 82) : MW l G 2 64 12 1187 yX9_init cX9_init 1 (Option.none : Option Jvm.ClassFile.FieldType) [.ref (gad G 81)] (wb G b) none (wb G (i_X9_init_81 b)) := by
  refine mw_of RX9 (fun r : Bst => (none, wb G r)) [(0, .ref (gad G 81))] (by decide +kernel) rfl (Nat.le_of_ble_eq_true rfl) rfl (o := some (i_X9_init_81 b)) rfl rfl (fun p e s m args below meth c X hr hnm => ?_)
  refine sm_aload_n X 1 0 dX9_init_0 rfl rfl rfl ?_
  refine sb_obj X 4 q_881 q_24 q_25 ⟨(Nat.le_of_ble_eq_true rfl), (Nat.le_of_ble_eq_true rfl)⟩ dX9_init_1 rfl ?_
  refine sm_aload_n X 5 0 dX9_init_4 rfl rfl rfl ?_
  refine sm_sipush X 8 (270) dX9_init_5 rfl rfl ?_
  refine sb_newa X 10 hG 82 1 270 hb (by decide) (by decide : K0 82 = 20) (by decide : Ln0 82 = 270) (by decide) (by decide) (Nat.le_of_ble_eq_true rfl) q_53 rfl rfl ⟨(Nat.le_of_ble_eq_true rfl), (Nat.le_of_ble_eq_true rfl)⟩ dX9_init_8 rfl (fun b1 e1 n1 => ?_)
  refine sb_putr X 13 (r := (some 82)) (.array .int) n1 (by decide) (by decide : K0 81 = 9) fd_9_0 (by decide) rfl ⟨hnm, rfl⟩ rfl rfl rfl dX9_init_10 rfl q_882 (fun b2 e2 n2 => ?_)
  have f0_2 := bR_here e2
  refine sm_aload_n X 14 0 dX9_init_13 rfl rfl rfl ?_
  refine sm_sipush X 17 (270) dX9_init_14 rfl rfl ?_
  refine sb_newa X 19 hG 83 2 540 n2 (by decide) (by decide : K0 83 = 20) (by decide : Ln0 83 = 270) (by decide) (by decide) (Nat.le_of_ble_eq_true rfl) q_53 rfl rfl ⟨(Nat.le_of_ble_eq_true rfl), (Nat.le_of_ble_eq_true rfl)⟩ dX9_init_17 rfl (fun b3 e3 n3 => ?_)
  have f0_3 := bN_keep e3 n2 (by decide) f0_2
  refine sb_putr X 22 (r := (some 83)) (.array .int) n3 (by decide) (by decide : K0 81 = 9) fd_9_1 (by decide) rfl ⟨hnm, rfl⟩ rfl rfl rfl dX9_init_19 rfl q_883 (fun b4 e4 n4 => ?_)
  have f0_4 := bR_keep e4 (by decide) f0_3
  refine sm_aload_n X 23 0 dX9_init_22 rfl rfl rfl ?_
  refine sm_sipush X 26 (270) dX9_init_23 rfl rfl ?_
  refine sb_newa X 28 hG 84 3 810 n4 (by decide) (by decide : K0 84 = 20) (by decide : Ln0 84 = 270) (by decide) (by decide) (Nat.le_of_ble_eq_true rfl) q_53 rfl rfl ⟨(Nat.le_of_ble_eq_true rfl), (Nat.le_of_ble_eq_true rfl)⟩ dX9_init_26 rfl (fun b5 e5 n5 => ?_)
  have f0_5 := bN_keep e5 n4 (by decide) f0_4
  refine sb_putr X 31 (r := (some 84)) (.array .int) n5 (by decide) (by decide : K0 81 = 9) fd_9_2 (by decide) rfl ⟨hnm, rfl⟩ rfl rfl rfl dX9_init_28 rfl q_884 (fun b6 e6 n6 => ?_)
  have f0_6 := bR_keep e6 (by decide) f0_5
  refine sm_aload_n X 32 0 dX9_init_31 rfl rfl rfl ?_
  refine sm_bipush X 34 (6) dX9_init_32 rfl rfl ?_
  refine sb_newa X 36 hG 85 4 816 n6 (by decide) (by decide : K0 85 = 20) (by decide : Ln0 85 = 6) (by decide) (by decide) (Nat.le_of_ble_eq_true rfl) q_53 rfl rfl ⟨(Nat.le_of_ble_eq_true rfl), (Nat.le_of_ble_eq_true rfl)⟩ dX9_init_34 rfl (fun b7 e7 n7 => ?_)
  have f0_7 := bN_keep e7 n6 (by decide) f0_6
  refine sb_putr X 39 (r := (some 85)) (.array .int) n7 (by decide) (by decide : K0 81 = 9) fd_9_4 (by decide) rfl ⟨hnm, rfl⟩ rfl rfl rfl dX9_init_36 rfl q_886 (fun b8 e8 n8 => ?_)
  have f0_8 := bR_keep e8 (by decide) f0_7
  refine sm_aload_n X 40 0 dX9_init_39 rfl rfl rfl ?_
  refine sm_iconst X 41 (3) dX9_init_40 rfl rfl ?_
  refine sb_newa X 43 hG 86 5 819 n8 (by decide) (by decide : K0 86 = 20) (by decide : Ln0 86 = 3) (by decide) (by decide) (Nat.le_of_ble_eq_true rfl) q_53 rfl rfl ⟨(Nat.le_of_ble_eq_true rfl), (Nat.le_of_ble_eq_true rfl)⟩ dX9_init_41 rfl (fun b9 e9 n9 => ?_)
  have f0_9 := bN_keep e9 n8 (by decide) f0_8
  refine sb_putr X 46 (r := (some 86)) (.array .int) n9 (by decide) (by decide : K0 81 = 9) fd_9_11 (by decide) rfl ⟨hnm, rfl⟩ rfl rfl rfl dX9_init_43 rfl q_893 (fun b10 e10 n10 => ?_)
  have f0_10 := bR_keep e10 (by decide) f0_9
  refine sm_aload_n X 47 0 dX9_init_46 rfl rfl rfl ?_
  refine sm_bipush X 49 (60) dX9_init_47 rfl rfl ?_
  refine sb_newa X 51 hG 87 6 879 n10 (by decide) (by decide : K0 87 = 20) (by decide : Ln0 87 = 60) (by decide) (by decide) (Nat.le_of_ble_eq_true rfl) q_53 rfl rfl ⟨(Nat.le_of_ble_eq_true rfl), (Nat.le_of_ble_eq_true rfl)⟩ dX9_init_49 rfl (fun b11 e11 n11 => ?_)
  have f0_11 := bN_keep e11 n10 (by decide) f0_10
  refine sb_putr X 54 (r := (some 87)) (.array .int) n11 (by decide) (by decide : K0 81 = 9) fd_9_12 (by decide) rfl ⟨hnm, rfl⟩ rfl rfl rfl dX9_init_51 rfl q_894 (fun b12 e12 n12 => ?_)
  have f0_12 := bR_keep e12 (by decide) f0_11
  refine sm_aload_n X 55 0 dX9_init_54 rfl rfl rfl ?_
  refine sm_bipush X 57 (60) dX9_init_55 rfl rfl ?_
  refine sb_newa X 59 hG 88 7 939 n12 (by decide) (by decide : K0 88 = 20) (by decide : Ln0 88 = 60) (by decide) (by decide) (Nat.le_of_ble_eq_true rfl) q_53 rfl rfl ⟨(Nat.le_of_ble_eq_true rfl), (Nat.le_of_ble_eq_true rfl)⟩ dX9_init_57 rfl (fun b13 e13 n13 => ?_)
  have f0_13 := bN_keep e13 n12 (by decide) f0_12
  refine sb_putr X 62 (r := (some 88)) (.array .int) n13 (by decide) (by decide : K0 81 = 9) fd_9_14 (by decide) rfl ⟨hnm, rfl⟩ rfl rfl rfl dX9_init_59 rfl q_896 (fun b14 e14 n14 => ?_)
  have f0_14 := bR_keep e14 (by decide) f0_13
  refine sm_aload_n X 63 0 dX9_init_62 rfl rfl rfl ?_
  refine sm_bipush X 65 (40) dX9_init_63 rfl rfl ?_
  refine sb_newa X 67 hG 89 8 979 n14 (by decide) (by decide : K0 89 = 20) (by decide : Ln0 89 = 40) (by decide) (by decide) (Nat.le_of_ble_eq_true rfl) q_53 rfl rfl ⟨(Nat.le_of_ble_eq_true rfl), (Nat.le_of_ble_eq_true rfl)⟩ dX9_init_65 rfl (fun b15 e15 n15 => ?_)
  have f0_15 := bN_keep e15 n14 (by decide) f0_14
  refine sb_putr X 70 (r := (some 89)) (.array .int) n15 (by decide) (by decide : K0 81 = 9) fd_9_17 (by decide) rfl ⟨hnm, rfl⟩ rfl rfl rfl dX9_init_67 rfl q_899 (fun b16 e16 n16 => ?_)
  have f0_16 := bR_keep e16 (by decide) f0_15
  refine sm_aload_n X 71 0 dX9_init_70 rfl rfl rfl ?_
  refine sm_iconst X 72 (4) dX9_init_71 rfl rfl ?_
  refine sb_newa X 74 hG 90 9 983 n16 (by decide) (by decide : K0 90 = 20) (by decide : Ln0 90 = 4) (by decide) (by decide) (Nat.le_of_ble_eq_true rfl) q_53 rfl rfl ⟨(Nat.le_of_ble_eq_true rfl), (Nat.le_of_ble_eq_true rfl)⟩ dX9_init_72 rfl (fun b17 e17 n17 => ?_)
  have f0_17 := bN_keep e17 n16 (by decide) f0_16
  refine sb_putr X 77 (r := (some 90)) (.array .int) n17 (by decide) (by decide : K0 81 = 9) fd_9_20 (by decide) rfl ⟨hnm, rfl⟩ rfl rfl rfl dX9_init_74 rfl q_902 (fun b18 e18 n18 => ?_)
  have f0_18 := bR_keep e18 (by decide) f0_17
  refine sm_aload_n X 78 0 dX9_init_77 rfl rfl rfl ?_
  refine sm_iconst X 79 (4) dX9_init_78 rfl rfl ?_
  refine sb_newa X 81 hG 91 10 987 n18 (by decide) (by decide : K0 91 = 20) (by decide : Ln0 91 = 4) (by decide) (by decide) (Nat.le_of_ble_eq_true rfl) q_53 rfl rfl ⟨(Nat.le_of_ble_eq_true rfl), (Nat.le_of_ble_eq_true rfl)⟩ dX9_init_79 rfl (fun b19 e19 n19 => ?_)
  have f0_19 := bN_keep e19 n18 (by decide) f0_18
  refine sb_putr X 84 (r := (some 91)) (.array .int) n19 (by decide) (by decide : K0 81 = 9) fd_9_21 (by decide) rfl ⟨hnm, rfl⟩ rfl rfl rfl dX9_init_81 rfl q_903 (fun b20 e20 n20 => ?_)
  have f0_20 := bR_keep e20 (by decide) f0_19
  refine sm_aload_n X 85 0 dX9_init_84 rfl rfl rfl ?_
  refine sm_sipush X 88 (160) dX9_init_85 rfl rfl ?_
  refine sb_newa X 90 hG 92 11 1147 n20 (by decide) (by decide : K0 92 = 20) (by decide : Ln0 92 = 160) (by decide) (by decide) (Nat.le_of_ble_eq_true rfl) q_53 rfl rfl ⟨(Nat.le_of_ble_eq_true rfl), (Nat.le_of_ble_eq_true rfl)⟩ dX9_init_88 rfl (fun b21 e21 n21 => ?_)
  have f0_21 := bN_keep e21 n20 (by decide) f0_20
  refine sb_putr X 93 (r := (some 92)) (.array .int) n21 (by decide) (by decide : K0 81 = 9) fd_9_22 (by decide) rfl ⟨hnm, rfl⟩ rfl rfl rfl dX9_init_90 rfl q_904 (fun b22 e22 n22 => ?_)
  have f0_22 := bR_keep e22 (by decide) f0_21
  refine sm_aload_n X 94 0 dX9_init_93 rfl rfl rfl ?_
  refine sm_bipush X 96 (40) dX9_init_94 rfl rfl ?_
  refine sb_newa X 98 hG 93 12 1187 n22 (by decide) (by decide : K0 93 = 20) (by decide : Ln0 93 = 40) (by decide) (by decide) (Nat.le_of_ble_eq_true rfl) q_53 rfl rfl ⟨(Nat.le_of_ble_eq_true rfl), (Nat.le_of_ble_eq_true rfl)⟩ dX9_init_96 rfl (fun b23 e23 n23 => ?_)
  have f0_23 := bN_keep e23 n22 (by decide) f0_22
  refine sb_putr X 101 (r := (some 93)) (.array .int) n23 (by decide) (by decide : K0 81 = 9) fd_9_23 (by decide) rfl ⟨hnm, rfl⟩ rfl rfl rfl dX9_init_98 rfl q_905 (fun b24 e24 n24 => ?_)
  have f0_24 := bR_keep e24 (by decide) f0_23
  refine sm_aload_n X 102 0 dX9_init_101 rfl rfl rfl ?_
  refine sb_getf X 105 82 n24 (by decide) (by decide : K0 81 = 9) fd_9_0 (by decide) f0_24 dX9_init_102 rfl q_882 ?_
  refine sm_bipush X 107 (7) dX9_init_105 rfl rfl ?_
  refine sm_bipush X 109 (10) dX9_init_107 rfl rfl ?_
  refine sb_iast X 110 7 n24 (by decide) (by decide : K0 82 = 20) (by decide) (by decide) dX9_init_109 rfl (fun b25 e25 n25 => ?_)
  have f0_25 := bI_keep e25 f0_24
  refine sm_aload_n X 111 0 dX9_init_110 rfl rfl rfl ?_
  refine sb_getf X 114 82 n25 (by decide) (by decide : K0 81 = 9) fd_9_0 (by decide) f0_25 dX9_init_111 rfl q_882 ?_
  refine sm_bipush X 116 (8) dX9_init_114 rfl rfl ?_
  refine sm_sipush X 119 (600) dX9_init_116 rfl rfl ?_
  refine sb_iast X 120 8 n25 (by decide) (by decide : K0 82 = 20) (by decide) (by decide) dX9_init_119 rfl (fun b26 e26 n26 => ?_)
  have f0_26 := bI_keep e26 f0_25
  refine sm_aload_n X 121 0 dX9_init_120 rfl rfl rfl ?_
  refine sb_getf X 124 82 n26 (by decide) (by decide : K0 81 = 9) fd_9_0 (by decide) f0_26 dX9_init_121 rfl q_882 ?_
  refine sm_bipush X 126 (13) dX9_init_124 rfl rfl ?_
  refine sm_iconst X 127 (1) dX9_init_126 rfl rfl ?_
  refine sb_iast X 128 13 n26 (by decide) (by decide : K0 82 = 20) (by decide) (by decide) dX9_init_127 rfl (fun b27 e27 n27 => ?_)
  have f0_27 := bI_keep e27 f0_26
  exact sm_vret X hr dX9_init_128 (by rw [e27, e26, e25, e24, e23, e22, e21, e20, e19, e18, e17, e16, e15, e14, e13, e12, e11, e10, e9, e8, e7, e6, e5, e4, e3, e2, e1]; rfl)
