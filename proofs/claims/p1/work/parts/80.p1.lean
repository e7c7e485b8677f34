def law_Iv (j : Nat) (σ : Sto) : Prop := j = 0 → σ = st_0
theorem law_I0 : law_Iv 0 st_0 := fun _ => rfl
def law_eqs0 (k : Nat) : Bool := k < 39
theorem law_steps {L : Nat} (hL : L ≤ 6) (j : Nat) (hj : 6 * j + 6 ≤ L) : Stp law_eqs0 (law_Iv j) (law_Iv (j + 1)) := by sorry
