def law_Iv (j : Nat) (σ : Sto) : Prop := j = 0 → σ = st_0
theorem law_I0 : law_Iv 0 st_0 := fun _ => rfl

theorem law_steps {L : Nat} (hL : L ≤ 6) (j : Nat) (hj : 6 * j + 6 ≤ L) : LSt law_eqs (law_Iv j) (law_Iv (j + 1)) := by sorry
