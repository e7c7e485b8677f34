theorem cw_ixS : CalW yJ0_indexOf_0f7a4 cJ0_indexOf_0f7a4 2 (some .int) 1 := ⟨q_501, q_13, by decide +kernel⟩
theorem c_ixS (l : Launch) (G : GT) (σ : Sto) (i : Nat) (ch : Int32) (r : Int32) (hi : i < 3) (h : f_ixS i ch = some r) : MW l G (8) (400) 0 0 yJ0_indexOf_0f7a4 cJ0_indexOf_0f7a4 2 (some .int) [.ref (gad G (1003 + i)), .int ch] (wl G σ) (some (.int r)) (wl G σ) := by sorry
