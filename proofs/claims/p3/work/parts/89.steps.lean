/-! The law's start, and one call of it. -/
def law_Iv (_ : Nat) (σ : Sto) : Prop := Inv σ
theorem law_steps {L : Nat} (_ : L ≤ 3072) (j : Nat) (_ : 6 * j + 6 ≤ L) : LSt law_eqs (law_Iv j) (law_Iv (j + 1)) :=
  ⟨fun _ h => h, fun a1 a2 => s_current a1 a2 _, fun a1 a2 => s_set a1 a2 _, fun a1 => s_flow a1 _, fun a1 a2 => s_swimmer a1 a2 _, fun a1 a2 => s_ofSwimmer a1 a2 _, fun a1 a2 => s_train a1 a2 _, fun a1 a2 a3 => s_plan a1 a2 a3 _, fun a1 a2 => s_become a1 a2 _, fun a1 a2 => s_as a1 a2 _, fun a1 a2 => s_pace a1 a2 _, fun a1 a2 => s_feed a1 a2 _, fun a1 => s_text a1 _, fun a1 a2 a3 a4 => s_law a1 a2 a3 a4 _, fun a1 a2 => s_where a1 a2 _, fun a1 a2 a3 => s_meet a1 a2 a3 _, fun a1 a2 => s_year a1 a2 _, fun a1 a2 => s_loose a1 a2 _, fun a1 a2 a3 => s_bestPlan a1 a2 a3 _, fun a1 a2 a3 => s_hold a1 a2 a3 _, fun a1 a2 => s_ask a1 a2 _, fun a1 a2 => s_leastSight a1 a2 _, fun a1 => s_send a1 _, fun a1 a2 a3 a4 a5 => s_diary a1 a2 a3 a4 a5 _, fun a1 a2 a3 => s_training a1 a2 a3 _, fun a1 a2 => s_fair a1 a2 _, fun a1 => s_seed a1 _, fun a1 a2 a3 => s_voice a1 a2 a3 _, fun a1 => s_trace a1 _, fun a1 a2 a3 => s_sheet a1 a2 a3 _, fun a1 a2 a3 => s_put a1 a2 a3 _, fun a1 a2 a3 a4 a5 => s_move a1 a2 a3 a4 a5 _, fun a1 => s_years a1 _, fun a1 a2 => s_judge a1 a2 _, s_image _, s_restore _, fun a1 => s_tell a1 _, fun a1 a2 => s_check a1 a2, fun a1 => s_count a1 _, fun a1 => s_told a1 _⟩
theorem law_I0 : law_Iv 0 st_0 := by
  have n12 : st_0.1 82 12 = 0 := by decide +kernel
  have i3 : st_0.1 81 3 = 0 := by decide +kernel
  have ok : ∀ i, i < 270 → okv i (st_0.1 82 i) = true := by decide +kernel
  have sh : ∀ s, s < 4 → st_0.1 (73 + 2 * s) 2 = st_0.1 90 s ∧ st_0.1 (73 + 2 * s) 1 = st_0.1 91 s ∧ st_0.1 91 s = nI 0 ∧ ∀ i, i < 40 → st_0.1 (74 + 2 * s) i = st_0.1 92 (40 * s + i) := by decide +kernel
  refine ⟨⟨⟨?_, ?_, fun p j hp _ => ?_, fun i => ?_, ?_, ?_, ⟨0, by omega, ?_, ?_, fun i hi => by omega, Or.inl rfl⟩, ⟨0, by omega, ?_, ?_, fun i hi => by omega, Or.inl rfl⟩⟩, ?_, fun h => absurd i3 h, ⟨0, by omega, ?_, ?_, fun i hi => by omega⟩, fun s hs => ?_, ⟨?_, ?_⟩⟩, ?_⟩
  · decide +kernel
  · decide +kernel
  · exfalso
    unfold NN at hp
    rw [n12, show (0 : Int32).toNatClampNeg = 0 by decide] at hp
    omega
  · by_cases h : i < 270
    · exact ok i h
    · exact okv_hi (by omega) _
  · decide +kernel
  · decide +kernel
  · decide +kernel
  · decide +kernel
  · decide +kernel
  · decide +kernel
  · decide +kernel
  · decide +kernel
  · decide +kernel
  · obtain ⟨q1, q2, q3, q4⟩ := sh s hs
    exact ⟨q1, q2, ⟨0, by omega, q3⟩, q4⟩
  · decide +kernel
  · decide +kernel
  · unfold ER
    decide +kernel
