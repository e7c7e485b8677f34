set_option maxRecDepth 100000 in
theorem fd_0_0 : Fld 0 0 1 "LakeSwimmers$Lake" "currents" "[I" := ⟨TX0, 16, tyX0, rfl, by decide, inX0, by decide, rfl, rfl, rfl, tyX0_ok, nmX0⟩
set_option maxRecDepth 100000 in
theorem fd_0_1 : Fld 0 1 0 "LakeSwimmers$Lake" "wind" "I" := ⟨TX0, 16, tyX0, rfl, by decide, inX0, by decide, rfl, rfl, rfl, tyX0_ok, nmX0⟩
set_option maxRecDepth 100000 in
theorem fd_0_2 : Fld 0 2 0 "LakeSwimmers$Lake" "sight" "I" := ⟨TX0, 16, tyX0, rfl, by decide, inX0, by decide, rfl, rfl, rfl, tyX0_ok, nmX0⟩
set_option maxRecDepth 100000 in
theorem fd_0_3 : Fld 0 3 0 "LakeSwimmers$Lake" "border" "I" := ⟨TX0, 16, tyX0, rfl, by decide, inX0, by decide, rfl, rfl, rfl, tyX0_ok, nmX0⟩
set_option maxRecDepth 100000 in
theorem fd_0_4 : Fld 0 4 0 "LakeSwimmers$Lake" "year" "I" := ⟨TX0, 16, tyX0, rfl, by decide, inX0, by decide, rfl, rfl, rfl, tyX0_ok, nmX0⟩
set_option maxRecDepth 100000 in
theorem fd_0_5 : Fld 0 5 0 "LakeSwimmers$Lake" "fish" "I" := ⟨TX0, 16, tyX0, rfl, by decide, inX0, by decide, rfl, rfl, rfl, tyX0_ok, nmX0⟩
set_option maxRecDepth 100000 in
theorem fd_0_6 : Fld 0 6 0 "LakeSwimmers$Lake" "otherFish" "I" := ⟨TX0, 16, tyX0, rfl, by decide, inX0, by decide, rfl, rfl, rfl, tyX0_ok, nmX0⟩
set_option maxRecDepth 100000 in
theorem fd_0_7 : Fld 0 7 1 "LakeSwimmers$Lake" "swimmers" "[LLakeSwimmers$Swimmer;" := ⟨TX0, 16, tyX0, rfl, by decide, inX0, by decide, rfl, rfl, rfl, tyX0_ok, nmX0⟩
set_option maxRecDepth 100000 in
theorem fd_0_8 : Fld 0 8 0 "LakeSwimmers$Lake" "swimmerCount" "I" := ⟨TX0, 16, tyX0, rfl, by decide, inX0, by decide, rfl, rfl, rfl, tyX0_ok, nmX0⟩
set_option maxRecDepth 100000 in
theorem fd_0_9 : Fld 0 9 1 "LakeSwimmers$Lake" "flows" "LLakeSwimmers$Law;" := ⟨TX0, 16, tyX0, rfl, by decide, inX0, by decide, rfl, rfl, rfl, tyX0_ok, nmX0⟩
set_option maxRecDepth 100000 in
theorem fd_0_10 : Fld 0 10 1 "LakeSwimmers$Lake" "catches" "LLakeSwimmers$Law;" := ⟨TX0, 16, tyX0, rfl, by decide, inX0, by decide, rfl, rfl, rfl, tyX0_ok, nmX0⟩
set_option maxRecDepth 100000 in
theorem fd_0_11 : Fld 0 11 1 "LakeSwimmers$Lake" "tape" "[I" := ⟨TX0, 16, tyX0, rfl, by decide, inX0, by decide, rfl, rfl, rfl, tyX0_ok, nmX0⟩
set_option maxRecDepth 100000 in
theorem fd_0_12 : Fld 0 12 0 "LakeSwimmers$Lake" "tapeLength" "I" := ⟨TX0, 16, tyX0, rfl, by decide, inX0, by decide, rfl, rfl, rfl, tyX0_ok, nmX0⟩
set_option maxRecDepth 100000 in
theorem fd_0_13 : Fld 0 13 1 "LakeSwimmers$Lake" "waiting" "[I" := ⟨TX0, 16, tyX0, rfl, by decide, inX0, by decide, rfl, rfl, rfl, tyX0_ok, nmX0⟩
set_option maxRecDepth 100000 in
theorem fd_0_14 : Fld 0 14 0 "LakeSwimmers$Lake" "waitingCount" "I" := ⟨TX0, 16, tyX0, rfl, by decide, inX0, by decide, rfl, rfl, rfl, tyX0_ok, nmX0⟩
set_option maxRecDepth 100000 in
theorem fd_0_15 : Fld 0 15 0 "LakeSwimmers$Lake" "z" "I" := ⟨TX0, 16, tyX0, rfl, by decide, inX0, by decide, rfl, rfl, rfl, tyX0_ok, nmX0⟩
set_option maxRecDepth 100000 in
theorem fd_1_0 : Fld 1 0 0 "LakeSwimmers$Law" "use" "I" := ⟨TX1, 4, tyX1, rfl, by decide, inX1, by decide, rfl, rfl, rfl, tyX1_ok, nmX1⟩
set_option maxRecDepth 100000 in
theorem fd_1_1 : Fld 1 1 1 "LakeSwimmers$Law" "row" "[I" := ⟨TX1, 4, tyX1, rfl, by decide, inX1, by decide, rfl, rfl, rfl, tyX1_ok, nmX1⟩
set_option maxRecDepth 100000 in
theorem fd_1_2 : Fld 1 2 1 "LakeSwimmers$Law" "stack" "[I" := ⟨TX1, 4, tyX1, rfl, by decide, inX1, by decide, rfl, rfl, rfl, tyX1_ok, nmX1⟩
set_option maxRecDepth 100000 in
theorem fd_1_3 : Fld 1 3 0 "LakeSwimmers$Law" "length" "I" := ⟨TX1, 4, tyX1, rfl, by decide, inX1, by decide, rfl, rfl, rfl, tyX1_ok, nmX1⟩
set_option maxRecDepth 100000 in
theorem fd_2_0 : Fld 2 0 0 "LakeSwimmers$PlanSearch" "found" "Z" := ⟨TX2, 8, tyX2, rfl, by decide, inX2, by decide, rfl, rfl, rfl, tyX2_ok, nmX2⟩
set_option maxRecDepth 100000 in
theorem fd_2_1 : Fld 2 1 0 "LakeSwimmers$PlanSearch" "place" "I" := ⟨TX2, 8, tyX2, rfl, by decide, inX2, by decide, rfl, rfl, rfl, tyX2_ok, nmX2⟩
set_option maxRecDepth 100000 in
theorem fd_2_2 : Fld 2 2 1 "LakeSwimmers$PlanSearch" "best" "[I" := ⟨TX2, 8, tyX2, rfl, by decide, inX2, by decide, rfl, rfl, rfl, tyX2_ok, nmX2⟩
set_option maxRecDepth 100000 in
theorem fd_2_3 : Fld 2 3 1 "LakeSwimmers$PlanSearch" "tried" "LLakeSwimmers$Swimmer;" := ⟨TX2, 8, tyX2, rfl, by decide, inX2, by decide, rfl, rfl, rfl, tyX2_ok, nmX2⟩
set_option maxRecDepth 100000 in
theorem fd_2_4 : Fld 2 4 1 "LakeSwimmers$PlanSearch" "otherPlaces" "[I" := ⟨TX2, 8, tyX2, rfl, by decide, inX2, by decide, rfl, rfl, rfl, tyX2_ok, nmX2⟩
set_option maxRecDepth 100000 in
theorem fd_2_5 : Fld 2 5 2 "LakeSwimmers$PlanSearch" "swim" "LLakeSwimmers$Swim;" := ⟨TX2, 8, tyX2, rfl, by decide, inX2, by decide, rfl, rfl, rfl, tyX2_ok, nmX2⟩
set_option maxRecDepth 100000 in
theorem fd_2_6 : Fld 2 6 2 "LakeSwimmers$PlanSearch" "other" "LLakeSwimmers$Swimmer;" := ⟨TX2, 8, tyX2, rfl, by decide, inX2, by decide, rfl, rfl, rfl, tyX2_ok, nmX2⟩
set_option maxRecDepth 100000 in
theorem fd_2_7 : Fld 2 7 0 "LakeSwimmers$PlanSearch" "sight" "I" := ⟨TX2, 8, tyX2, rfl, by decide, inX2, by decide, rfl, rfl, rfl, tyX2_ok, nmX2⟩
set_option maxRecDepth 100000 in
theorem fd_3_0 : Fld 3 0 1 "LakeSwimmers$Reader" "row" "[I" := ⟨TX3, 6, tyX3, rfl, by decide, inX3, by decide, rfl, rfl, rfl, tyX3_ok, nmX3⟩
set_option maxRecDepth 100000 in
theorem fd_3_1 : Fld 3 1 0 "LakeSwimmers$Reader" "rowLength" "I" := ⟨TX3, 6, tyX3, rfl, by decide, inX3, by decide, rfl, rfl, rfl, tyX3_ok, nmX3⟩
set_option maxRecDepth 100000 in
theorem fd_3_2 : Fld 3 2 1 "LakeSwimmers$Reader" "bytes" "[I" := ⟨TX3, 6, tyX3, rfl, by decide, inX3, by decide, rfl, rfl, rfl, tyX3_ok, nmX3⟩
set_option maxRecDepth 100000 in
theorem fd_3_3 : Fld 3 3 0 "LakeSwimmers$Reader" "length" "I" := ⟨TX3, 6, tyX3, rfl, by decide, inX3, by decide, rfl, rfl, rfl, tyX3_ok, nmX3⟩
set_option maxRecDepth 100000 in
theorem fd_3_4 : Fld 3 4 0 "LakeSwimmers$Reader" "place" "I" := ⟨TX3, 6, tyX3, rfl, by decide, inX3, by decide, rfl, rfl, rfl, tyX3_ok, nmX3⟩
set_option maxRecDepth 100000 in
theorem fd_3_5 : Fld 3 5 2 "LakeSwimmers$Reader" "names" "Ljava/lang/String;" := ⟨TX3, 6, tyX3, rfl, by decide, inX3, by decide, rfl, rfl, rfl, tyX3_ok, nmX3⟩
set_option maxRecDepth 100000 in
theorem fd_4_0 : Fld 4 0 1 "LakeSwimmers$Sheet" "numbers" "[I" := ⟨TX4, 3, tyX4, rfl, by decide, inX4, by decide, rfl, rfl, rfl, tyX4_ok, nmX4⟩
set_option maxRecDepth 100000 in
theorem fd_4_1 : Fld 4 1 0 "LakeSwimmers$Sheet" "length" "I" := ⟨TX4, 3, tyX4, rfl, by decide, inX4, by decide, rfl, rfl, rfl, tyX4_ok, nmX4⟩
set_option maxRecDepth 100000 in
theorem fd_4_2 : Fld 4 2 0 "LakeSwimmers$Sheet" "bits" "I" := ⟨TX4, 3, tyX4, rfl, by decide, inX4, by decide, rfl, rfl, rfl, tyX4_ok, nmX4⟩
set_option maxRecDepth 100000 in
theorem fd_5_0 : Fld 5 0 1 "LakeSwimmers$Swim" "flows" "[I" := ⟨TX5, 6, tyX5, rfl, by decide, inX5, by decide, rfl, rfl, rfl, tyX5_ok, nmX5⟩
set_option maxRecDepth 100000 in
theorem fd_5_1 : Fld 5 1 0 "LakeSwimmers$Swim" "minute" "I" := ⟨TX5, 6, tyX5, rfl, by decide, inX5, by decide, rfl, rfl, rfl, tyX5_ok, nmX5⟩
set_option maxRecDepth 100000 in
theorem fd_5_2 : Fld 5 2 0 "LakeSwimmers$Swim" "place" "I" := ⟨TX5, 6, tyX5, rfl, by decide, inX5, by decide, rfl, rfl, rfl, tyX5_ok, nmX5⟩
set_option maxRecDepth 100000 in
theorem fd_5_3 : Fld 5 3 0 "LakeSwimmers$Swim" "lane" "I" := ⟨TX5, 6, tyX5, rfl, by decide, inX5, by decide, rfl, rfl, rfl, tyX5_ok, nmX5⟩
set_option maxRecDepth 100000 in
theorem fd_5_4 : Fld 5 4 0 "LakeSwimmers$Swim" "oneAt" "I" := ⟨TX5, 6, tyX5, rfl, by decide, inX5, by decide, rfl, rfl, rfl, tyX5_ok, nmX5⟩
set_option maxRecDepth 100000 in
theorem fd_5_5 : Fld 5 5 0 "LakeSwimmers$Swim" "otherAt" "I" := ⟨TX5, 6, tyX5, rfl, by decide, inX5, by decide, rfl, rfl, rfl, tyX5_ok, nmX5⟩
set_option maxRecDepth 100000 in
theorem fd_6_0 : Fld 6 0 0 "LakeSwimmers$Swimmer" "kind" "I" := ⟨TX6, 6, tyX6, rfl, by decide, inX6, by decide, rfl, rfl, rfl, tyX6_ok, nmX6⟩
set_option maxRecDepth 100000 in
theorem fd_6_1 : Fld 6 1 0 "LakeSwimmers$Swimmer" "m" "I" := ⟨TX6, 6, tyX6, rfl, by decide, inX6, by decide, rfl, rfl, rfl, tyX6_ok, nmX6⟩
set_option maxRecDepth 100000 in
theorem fd_6_2 : Fld 6 2 0 "LakeSwimmers$Swimmer" "side" "I" := ⟨TX6, 6, tyX6, rfl, by decide, inX6, by decide, rfl, rfl, rfl, tyX6_ok, nmX6⟩
set_option maxRecDepth 100000 in
theorem fd_6_3 : Fld 6 3 0 "LakeSwimmers$Swimmer" "skill" "I" := ⟨TX6, 6, tyX6, rfl, by decide, inX6, by decide, rfl, rfl, rfl, tyX6_ok, nmX6⟩
set_option maxRecDepth 100000 in
theorem fd_6_4 : Fld 6 4 0 "LakeSwimmers$Swimmer" "met" "I" := ⟨TX6, 6, tyX6, rfl, by decide, inX6, by decide, rfl, rfl, rfl, tyX6_ok, nmX6⟩
set_option maxRecDepth 100000 in
theorem fd_6_5 : Fld 6 5 1 "LakeSwimmers$Swimmer" "lanes" "[I" := ⟨TX6, 6, tyX6, rfl, by decide, inX6, by decide, rfl, rfl, rfl, tyX6_ok, nmX6⟩
set_option maxRecDepth 100000 in
theorem fd_7_0 : Fld 7 0 1 "LakeSwimmers$Voices" "trace" "[I" := ⟨TX7, 5, tyX7, rfl, by decide, inX7, by decide, rfl, rfl, rfl, tyX7_ok, nmX7⟩
set_option maxRecDepth 100000 in
theorem fd_7_1 : Fld 7 1 0 "LakeSwimmers$Voices" "traceLength" "I" := ⟨TX7, 5, tyX7, rfl, by decide, inX7, by decide, rfl, rfl, rfl, tyX7_ok, nmX7⟩
set_option maxRecDepth 100000 in
theorem fd_7_2 : Fld 7 2 0 "LakeSwimmers$Voices" "kind" "I" := ⟨TX7, 5, tyX7, rfl, by decide, inX7, by decide, rfl, rfl, rfl, tyX7_ok, nmX7⟩
set_option maxRecDepth 100000 in
theorem fd_7_3 : Fld 7 3 0 "LakeSwimmers$Voices" "n" "I" := ⟨TX7, 5, tyX7, rfl, by decide, inX7, by decide, rfl, rfl, rfl, tyX7_ok, nmX7⟩
set_option maxRecDepth 100000 in
theorem fd_7_4 : Fld 7 4 0 "LakeSwimmers$Voices" "m" "I" := ⟨TX7, 5, tyX7, rfl, by decide, inX7, by decide, rfl, rfl, rfl, tyX7_ok, nmX7⟩
set_option maxRecDepth 100000 in
theorem fd_8_0 : Fld 8 0 1 "LakeSwimmers" "lake" "LLakeSwimmers$Lake;" := ⟨TX8, 11, tyX8, rfl, by decide, inX8, by decide, rfl, rfl, rfl, tyX8_ok, nmX8⟩
set_option maxRecDepth 100000 in
theorem fd_8_1 : Fld 8 1 1 "LakeSwimmers" "kept" "LLakeSwimmers$Lake;" := ⟨TX8, 11, tyX8, rfl, by decide, inX8, by decide, rfl, rfl, rfl, tyX8_ok, nmX8⟩
set_option maxRecDepth 100000 in
theorem fd_8_2 : Fld 8 2 1 "LakeSwimmers" "reader" "LLakeSwimmers$Reader;" := ⟨TX8, 11, tyX8, rfl, by decide, inX8, by decide, rfl, rfl, rfl, tyX8_ok, nmX8⟩
set_option maxRecDepth 100000 in
theorem fd_8_3 : Fld 8 3 1 "LakeSwimmers" "swim" "LLakeSwimmers$Swim;" := ⟨TX8, 11, tyX8, rfl, by decide, inX8, by decide, rfl, rfl, rfl, tyX8_ok, nmX8⟩
set_option maxRecDepth 100000 in
theorem fd_8_4 : Fld 8 4 1 "LakeSwimmers" "search" "LLakeSwimmers$PlanSearch;" := ⟨TX8, 11, tyX8, rfl, by decide, inX8, by decide, rfl, rfl, rfl, tyX8_ok, nmX8⟩
set_option maxRecDepth 100000 in
theorem fd_8_5 : Fld 8 5 1 "LakeSwimmers" "voices" "LLakeSwimmers$Voices;" := ⟨TX8, 11, tyX8, rfl, by decide, inX8, by decide, rfl, rfl, rfl, tyX8_ok, nmX8⟩
set_option maxRecDepth 100000 in
theorem fd_8_6 : Fld 8 6 1 "LakeSwimmers" "sheets" "[LLakeSwimmers$Sheet;" := ⟨TX8, 11, tyX8, rfl, by decide, inX8, by decide, rfl, rfl, rfl, tyX8_ok, nmX8⟩
set_option maxRecDepth 100000 in
theorem fd_8_7 : Fld 8 7 1 "LakeSwimmers" "errorCounts" "[I" := ⟨TX8, 11, tyX8, rfl, by decide, inX8, by decide, rfl, rfl, rfl, tyX8_ok, nmX8⟩
set_option maxRecDepth 100000 in
theorem fd_8_8 : Fld 8 8 1 "LakeSwimmers" "standIn" "LLakeSwimmers$Swimmer;" := ⟨TX8, 11, tyX8, rfl, by decide, inX8, by decide, rfl, rfl, rfl, tyX8_ok, nmX8⟩
set_option maxRecDepth 100000 in
theorem fd_8_9 : Fld 8 9 1 "LakeSwimmers" "otherStandIn" "LLakeSwimmers$Swimmer;" := ⟨TX8, 11, tyX8, rfl, by decide, inX8, by decide, rfl, rfl, rfl, tyX8_ok, nmX8⟩
set_option maxRecDepth 100000 in
theorem fd_8_10 : Fld 8 10 0 "LakeSwimmers" "imageCount" "I" := ⟨TX8, 11, tyX8, rfl, by decide, inX8, by decide, rfl, rfl, rfl, tyX8_ok, nmX8⟩
set_option maxRecDepth 100000 in
theorem fd_9_0 : Fld 9 0 1 "LakeSwimmersModel" "d" "[I" := ⟨TX9, 24, tyX9, rfl, by decide, inX9, by decide, rfl, rfl, rfl, tyX9_ok, nmX9⟩
set_option maxRecDepth 100000 in
theorem fd_9_1 : Fld 9 1 1 "LakeSwimmersModel" "e" "[I" := ⟨TX9, 24, tyX9, rfl, by decide, inX9, by decide, rfl, rfl, rfl, tyX9_ok, nmX9⟩
set_option maxRecDepth 100000 in
theorem fd_9_2 : Fld 9 2 1 "LakeSwimmersModel" "kept" "[I" := ⟨TX9, 24, tyX9, rfl, by decide, inX9, by decide, rfl, rfl, rfl, tyX9_ok, nmX9⟩
set_option maxRecDepth 100000 in
theorem fd_9_3 : Fld 9 3 0 "LakeSwimmersModel" "images" "I" := ⟨TX9, 24, tyX9, rfl, by decide, inX9, by decide, rfl, rfl, rfl, tyX9_ok, nmX9⟩
set_option maxRecDepth 100000 in
theorem fd_9_4 : Fld 9 4 1 "LakeSwimmersModel" "found" "[I" := ⟨TX9, 24, tyX9, rfl, by decide, inX9, by decide, rfl, rfl, rfl, tyX9_ok, nmX9⟩
set_option maxRecDepth 100000 in
theorem fd_9_5 : Fld 9 5 0 "LakeSwimmersModel" "base" "I" := ⟨TX9, 24, tyX9, rfl, by decide, inX9, by decide, rfl, rfl, rfl, tyX9_ok, nmX9⟩
set_option maxRecDepth 100000 in
theorem fd_9_6 : Fld 9 6 0 "LakeSwimmersModel" "at" "I" := ⟨TX9, 24, tyX9, rfl, by decide, inX9, by decide, rfl, rfl, rfl, tyX9_ok, nmX9⟩
set_option maxRecDepth 100000 in
theorem fd_9_7 : Fld 9 7 0 "LakeSwimmersModel" "size" "I" := ⟨TX9, 24, tyX9, rfl, by decide, inX9, by decide, rfl, rfl, rfl, tyX9_ok, nmX9⟩
set_option maxRecDepth 100000 in
theorem fd_9_8 : Fld 9 8 0 "LakeSwimmersModel" "fault" "I" := ⟨TX9, 24, tyX9, rfl, by decide, inX9, by decide, rfl, rfl, rfl, tyX9_ok, nmX9⟩
set_option maxRecDepth 100000 in
theorem fd_9_9 : Fld 9 9 0 "LakeSwimmersModel" "opened" "I" := ⟨TX9, 24, tyX9, rfl, by decide, inX9, by decide, rfl, rfl, rfl, tyX9_ok, nmX9⟩
set_option maxRecDepth 100000 in
theorem fd_9_10 : Fld 9 10 0 "LakeSwimmersModel" "isCatch" "Z" := ⟨TX9, 24, tyX9, rfl, by decide, inX9, by decide, rfl, rfl, rfl, tyX9_ok, nmX9⟩
set_option maxRecDepth 100000 in
theorem fd_9_11 : Fld 9 11 1 "LakeSwimmersModel" "names" "[I" := ⟨TX9, 24, tyX9, rfl, by decide, inX9, by decide, rfl, rfl, rfl, tyX9_ok, nmX9⟩
set_option maxRecDepth 100000 in
theorem fd_9_12 : Fld 9 12 1 "LakeSwimmersModel" "code" "[I" := ⟨TX9, 24, tyX9, rfl, by decide, inX9, by decide, rfl, rfl, rfl, tyX9_ok, nmX9⟩
set_option maxRecDepth 100000 in
theorem fd_9_13 : Fld 9 13 0 "LakeSwimmersModel" "coded" "I" := ⟨TX9, 24, tyX9, rfl, by decide, inX9, by decide, rfl, rfl, rfl, tyX9_ok, nmX9⟩
set_option maxRecDepth 100000 in
theorem fd_9_14 : Fld 9 14 1 "LakeSwimmersModel" "pile" "[I" := ⟨TX9, 24, tyX9, rfl, by decide, inX9, by decide, rfl, rfl, rfl, tyX9_ok, nmX9⟩
set_option maxRecDepth 100000 in
theorem fd_9_15 : Fld 9 15 0 "LakeSwimmersModel" "metIn" "I" := ⟨TX9, 24, tyX9, rfl, by decide, inX9, by decide, rfl, rfl, rfl, tyX9_ok, nmX9⟩
set_option maxRecDepth 100000 in
theorem fd_9_16 : Fld 9 16 0 "LakeSwimmersModel" "metAt" "I" := ⟨TX9, 24, tyX9, rfl, by decide, inX9, by decide, rfl, rfl, rfl, tyX9_ok, nmX9⟩
set_option maxRecDepth 100000 in
theorem fd_9_17 : Fld 9 17 1 "LakeSwimmersModel" "traced" "[I" := ⟨TX9, 24, tyX9, rfl, by decide, inX9, by decide, rfl, rfl, rfl, tyX9_ok, nmX9⟩
set_option maxRecDepth 100000 in
theorem fd_9_18 : Fld 9 18 0 "LakeSwimmersModel" "traceMany" "I" := ⟨TX9, 24, tyX9, rfl, by decide, inX9, by decide, rfl, rfl, rfl, tyX9_ok, nmX9⟩
set_option maxRecDepth 100000 in
theorem fd_9_19 : Fld 9 19 0 "LakeSwimmersModel" "who" "I" := ⟨TX9, 24, tyX9, rfl, by decide, inX9, by decide, rfl, rfl, rfl, tyX9_ok, nmX9⟩
set_option maxRecDepth 100000 in
theorem fd_9_20 : Fld 9 20 1 "LakeSwimmersModel" "bitsOf" "[I" := ⟨TX9, 24, tyX9, rfl, by decide, inX9, by decide, rfl, rfl, rfl, tyX9_ok, nmX9⟩
set_option maxRecDepth 100000 in
theorem fd_9_21 : Fld 9 21 1 "LakeSwimmersModel" "sizeOf" "[I" := ⟨TX9, 24, tyX9, rfl, by decide, inX9, by decide, rfl, rfl, rfl, tyX9_ok, nmX9⟩
set_option maxRecDepth 100000 in
theorem fd_9_22 : Fld 9 22 1 "LakeSwimmersModel" "number" "[I" := ⟨TX9, 24, tyX9, rfl, by decide, inX9, by decide, rfl, rfl, rfl, tyX9_ok, nmX9⟩
set_option maxRecDepth 100000 in
theorem fd_9_23 : Fld 9 23 1 "LakeSwimmersModel" "lifted" "[I" := ⟨TX9, 24, tyX9, rfl, by decide, inX9, by decide, rfl, rfl, rfl, tyX9_ok, nmX9⟩
set_option maxRecDepth 100000 in
theorem fr_0_0 {k : Nat} (hk : K0 k = 0) : R0 k 0 = some (A0 k 0) ∧ K0 (A0 k 0) = 20 ∧ Ln0 (A0 k 0) = 6 := (show ∀ k, k < NC → K0 k = 0 → R0 k 0 = some (A0 k 0) ∧ K0 (A0 k 0) = 20 ∧ Ln0 (A0 k 0) = 6 by decide +kernel) k (K0_lt hk (by decide)) hk
set_option maxRecDepth 100000 in
theorem fr_0_7 {k : Nat} (hk : K0 k = 0) : R0 k 7 = some (A0 k 7) ∧ K0 (A0 k 7) = 21 ∧ Ln0 (A0 k 7) = 8 := (show ∀ k, k < NC → K0 k = 0 → R0 k 7 = some (A0 k 7) ∧ K0 (A0 k 7) = 21 ∧ Ln0 (A0 k 7) = 8 by decide +kernel) k (K0_lt hk (by decide)) hk
set_option maxRecDepth 100000 in
theorem fr_0_9 {k : Nat} (hk : K0 k = 0) : R0 k 9 = some (A0 k 9) ∧ K0 (A0 k 9) = 1 ∧ Ln0 (A0 k 9) = 0 := (show ∀ k, k < NC → K0 k = 0 → R0 k 9 = some (A0 k 9) ∧ K0 (A0 k 9) = 1 ∧ Ln0 (A0 k 9) = 0 by decide +kernel) k (K0_lt hk (by decide)) hk
set_option maxRecDepth 100000 in
theorem fr_0_10 {k : Nat} (hk : K0 k = 0) : R0 k 10 = some (A0 k 10) ∧ K0 (A0 k 10) = 1 ∧ Ln0 (A0 k 10) = 0 := (show ∀ k, k < NC → K0 k = 0 → R0 k 10 = some (A0 k 10) ∧ K0 (A0 k 10) = 1 ∧ Ln0 (A0 k 10) = 0 by decide +kernel) k (K0_lt hk (by decide)) hk
set_option maxRecDepth 100000 in
theorem fr_0_11 {k : Nat} (hk : K0 k = 0) : R0 k 11 = some (A0 k 11) ∧ K0 (A0 k 11) = 20 ∧ Ln0 (A0 k 11) = 50 := (show ∀ k, k < NC → K0 k = 0 → R0 k 11 = some (A0 k 11) ∧ K0 (A0 k 11) = 20 ∧ Ln0 (A0 k 11) = 50 by decide +kernel) k (K0_lt hk (by decide)) hk
set_option maxRecDepth 100000 in
theorem fr_0_13 {k : Nat} (hk : K0 k = 0) : R0 k 13 = some (A0 k 13) ∧ K0 (A0 k 13) = 20 ∧ Ln0 (A0 k 13) = 20 := (show ∀ k, k < NC → K0 k = 0 → R0 k 13 = some (A0 k 13) ∧ K0 (A0 k 13) = 20 ∧ Ln0 (A0 k 13) = 20 by decide +kernel) k (K0_lt hk (by decide)) hk
set_option maxRecDepth 100000 in
theorem fr_1_1 {k : Nat} (hk : K0 k = 1) : R0 k 1 = some (A0 k 1) ∧ K0 (A0 k 1) = 20 ∧ Ln0 (A0 k 1) = 50 := (show ∀ k, k < NC → K0 k = 1 → R0 k 1 = some (A0 k 1) ∧ K0 (A0 k 1) = 20 ∧ Ln0 (A0 k 1) = 50 by decide +kernel) k (K0_lt hk (by decide)) hk
set_option maxRecDepth 100000 in
theorem fr_1_2 {k : Nat} (hk : K0 k = 1) : R0 k 2 = some (A0 k 2) ∧ K0 (A0 k 2) = 20 ∧ Ln0 (A0 k 2) = 50 := (show ∀ k, k < NC → K0 k = 1 → R0 k 2 = some (A0 k 2) ∧ K0 (A0 k 2) = 20 ∧ Ln0 (A0 k 2) = 50 by decide +kernel) k (K0_lt hk (by decide)) hk
set_option maxRecDepth 100000 in
theorem fr_2_2 {k : Nat} (hk : K0 k = 2) : R0 k 2 = some (A0 k 2) ∧ K0 (A0 k 2) = 20 ∧ Ln0 (A0 k 2) = 4 := (show ∀ k, k < NC → K0 k = 2 → R0 k 2 = some (A0 k 2) ∧ K0 (A0 k 2) = 20 ∧ Ln0 (A0 k 2) = 4 by decide +kernel) k (K0_lt hk (by decide)) hk
set_option maxRecDepth 100000 in
theorem fr_2_3 {k : Nat} (hk : K0 k = 2) : R0 k 3 = some (A0 k 3) ∧ K0 (A0 k 3) = 6 ∧ Ln0 (A0 k 3) = 0 := (show ∀ k, k < NC → K0 k = 2 → R0 k 3 = some (A0 k 3) ∧ K0 (A0 k 3) = 6 ∧ Ln0 (A0 k 3) = 0 by decide +kernel) k (K0_lt hk (by decide)) hk
set_option maxRecDepth 100000 in
theorem fr_2_4 {k : Nat} (hk : K0 k = 2) : R0 k 4 = some (A0 k 4) ∧ K0 (A0 k 4) = 20 ∧ Ln0 (A0 k 4) = 60 := (show ∀ k, k < NC → K0 k = 2 → R0 k 4 = some (A0 k 4) ∧ K0 (A0 k 4) = 20 ∧ Ln0 (A0 k 4) = 60 by decide +kernel) k (K0_lt hk (by decide)) hk
set_option maxRecDepth 100000 in
theorem fr_3_0 {k : Nat} (hk : K0 k = 3) : R0 k 0 = some (A0 k 0) ∧ K0 (A0 k 0) = 20 ∧ Ln0 (A0 k 0) = 50 := (show ∀ k, k < NC → K0 k = 3 → R0 k 0 = some (A0 k 0) ∧ K0 (A0 k 0) = 20 ∧ Ln0 (A0 k 0) = 50 by decide +kernel) k (K0_lt hk (by decide)) hk
set_option maxRecDepth 100000 in
theorem fr_3_2 {k : Nat} (hk : K0 k = 3) : R0 k 2 = some (A0 k 2) ∧ K0 (A0 k 2) = 20 ∧ Ln0 (A0 k 2) = 50 := (show ∀ k, k < NC → K0 k = 3 → R0 k 2 = some (A0 k 2) ∧ K0 (A0 k 2) = 20 ∧ Ln0 (A0 k 2) = 50 by decide +kernel) k (K0_lt hk (by decide)) hk
set_option maxRecDepth 100000 in
theorem fr_4_0 {k : Nat} (hk : K0 k = 4) : R0 k 0 = some (A0 k 0) ∧ K0 (A0 k 0) = 20 ∧ Ln0 (A0 k 0) = 40 := (show ∀ k, k < NC → K0 k = 4 → R0 k 0 = some (A0 k 0) ∧ K0 (A0 k 0) = 20 ∧ Ln0 (A0 k 0) = 40 by decide +kernel) k (K0_lt hk (by decide)) hk
set_option maxRecDepth 100000 in
theorem fr_5_0 {k : Nat} (hk : K0 k = 5) : R0 k 0 = some (A0 k 0) ∧ K0 (A0 k 0) = 20 ∧ Ln0 (A0 k 0) = 6 := (show ∀ k, k < NC → K0 k = 5 → R0 k 0 = some (A0 k 0) ∧ K0 (A0 k 0) = 20 ∧ Ln0 (A0 k 0) = 6 by decide +kernel) k (K0_lt hk (by decide)) hk
set_option maxRecDepth 100000 in
theorem fr_6_5 {k : Nat} (hk : K0 k = 6) : R0 k 5 = some (A0 k 5) ∧ K0 (A0 k 5) = 20 ∧ Ln0 (A0 k 5) = 4 := (show ∀ k, k < NC → K0 k = 6 → R0 k 5 = some (A0 k 5) ∧ K0 (A0 k 5) = 20 ∧ Ln0 (A0 k 5) = 4 by decide +kernel) k (K0_lt hk (by decide)) hk
set_option maxRecDepth 100000 in
theorem fr_7_0 {k : Nat} (hk : K0 k = 7) : R0 k 0 = some (A0 k 0) ∧ K0 (A0 k 0) = 20 ∧ Ln0 (A0 k 0) = 40 := (show ∀ k, k < NC → K0 k = 7 → R0 k 0 = some (A0 k 0) ∧ K0 (A0 k 0) = 20 ∧ Ln0 (A0 k 0) = 40 by decide +kernel) k (K0_lt hk (by decide)) hk
set_option maxRecDepth 100000 in
theorem fr_8_0 {k : Nat} (hk : K0 k = 8) : R0 k 0 = some (A0 k 0) ∧ K0 (A0 k 0) = 0 ∧ Ln0 (A0 k 0) = 0 := (show ∀ k, k < NC → K0 k = 8 → R0 k 0 = some (A0 k 0) ∧ K0 (A0 k 0) = 0 ∧ Ln0 (A0 k 0) = 0 by decide +kernel) k (K0_lt hk (by decide)) hk
set_option maxRecDepth 100000 in
theorem fr_8_1 {k : Nat} (hk : K0 k = 8) : R0 k 1 = some (A0 k 1) ∧ K0 (A0 k 1) = 0 ∧ Ln0 (A0 k 1) = 0 := (show ∀ k, k < NC → K0 k = 8 → R0 k 1 = some (A0 k 1) ∧ K0 (A0 k 1) = 0 ∧ Ln0 (A0 k 1) = 0 by decide +kernel) k (K0_lt hk (by decide)) hk
set_option maxRecDepth 100000 in
theorem fr_8_2 {k : Nat} (hk : K0 k = 8) : R0 k 2 = some (A0 k 2) ∧ K0 (A0 k 2) = 3 ∧ Ln0 (A0 k 2) = 0 := (show ∀ k, k < NC → K0 k = 8 → R0 k 2 = some (A0 k 2) ∧ K0 (A0 k 2) = 3 ∧ Ln0 (A0 k 2) = 0 by decide +kernel) k (K0_lt hk (by decide)) hk
set_option maxRecDepth 100000 in
theorem fr_8_3 {k : Nat} (hk : K0 k = 8) : R0 k 3 = some (A0 k 3) ∧ K0 (A0 k 3) = 5 ∧ Ln0 (A0 k 3) = 0 := (show ∀ k, k < NC → K0 k = 8 → R0 k 3 = some (A0 k 3) ∧ K0 (A0 k 3) = 5 ∧ Ln0 (A0 k 3) = 0 by decide +kernel) k (K0_lt hk (by decide)) hk
set_option maxRecDepth 100000 in
theorem fr_8_4 {k : Nat} (hk : K0 k = 8) : R0 k 4 = some (A0 k 4) ∧ K0 (A0 k 4) = 2 ∧ Ln0 (A0 k 4) = 0 := (show ∀ k, k < NC → K0 k = 8 → R0 k 4 = some (A0 k 4) ∧ K0 (A0 k 4) = 2 ∧ Ln0 (A0 k 4) = 0 by decide +kernel) k (K0_lt hk (by decide)) hk
set_option maxRecDepth 100000 in
theorem fr_8_5 {k : Nat} (hk : K0 k = 8) : R0 k 5 = some (A0 k 5) ∧ K0 (A0 k 5) = 7 ∧ Ln0 (A0 k 5) = 0 := (show ∀ k, k < NC → K0 k = 8 → R0 k 5 = some (A0 k 5) ∧ K0 (A0 k 5) = 7 ∧ Ln0 (A0 k 5) = 0 by decide +kernel) k (K0_lt hk (by decide)) hk
set_option maxRecDepth 100000 in
theorem fr_8_6 {k : Nat} (hk : K0 k = 8) : R0 k 6 = some (A0 k 6) ∧ K0 (A0 k 6) = 22 ∧ Ln0 (A0 k 6) = 4 := (show ∀ k, k < NC → K0 k = 8 → R0 k 6 = some (A0 k 6) ∧ K0 (A0 k 6) = 22 ∧ Ln0 (A0 k 6) = 4 by decide +kernel) k (K0_lt hk (by decide)) hk
set_option maxRecDepth 100000 in
theorem fr_8_7 {k : Nat} (hk : K0 k = 8) : R0 k 7 = some (A0 k 7) ∧ K0 (A0 k 7) = 20 ∧ Ln0 (A0 k 7) = 6 := (show ∀ k, k < NC → K0 k = 8 → R0 k 7 = some (A0 k 7) ∧ K0 (A0 k 7) = 20 ∧ Ln0 (A0 k 7) = 6 by decide +kernel) k (K0_lt hk (by decide)) hk
set_option maxRecDepth 100000 in
theorem fr_8_8 {k : Nat} (hk : K0 k = 8) : R0 k 8 = some (A0 k 8) ∧ K0 (A0 k 8) = 6 ∧ Ln0 (A0 k 8) = 0 := (show ∀ k, k < NC → K0 k = 8 → R0 k 8 = some (A0 k 8) ∧ K0 (A0 k 8) = 6 ∧ Ln0 (A0 k 8) = 0 by decide +kernel) k (K0_lt hk (by decide)) hk
set_option maxRecDepth 100000 in
theorem fr_8_9 {k : Nat} (hk : K0 k = 8) : R0 k 9 = some (A0 k 9) ∧ K0 (A0 k 9) = 6 ∧ Ln0 (A0 k 9) = 0 := (show ∀ k, k < NC → K0 k = 8 → R0 k 9 = some (A0 k 9) ∧ K0 (A0 k 9) = 6 ∧ Ln0 (A0 k 9) = 0 by decide +kernel) k (K0_lt hk (by decide)) hk
set_option maxRecDepth 100000 in
theorem fr_9_0 {k : Nat} (hk : K0 k = 9) : R0 k 0 = some (A0 k 0) ∧ K0 (A0 k 0) = 20 ∧ Ln0 (A0 k 0) = 270 := (show ∀ k, k < NC → K0 k = 9 → R0 k 0 = some (A0 k 0) ∧ K0 (A0 k 0) = 20 ∧ Ln0 (A0 k 0) = 270 by decide +kernel) k (K0_lt hk (by decide)) hk
set_option maxRecDepth 100000 in
theorem fr_9_1 {k : Nat} (hk : K0 k = 9) : R0 k 1 = some (A0 k 1) ∧ K0 (A0 k 1) = 20 ∧ Ln0 (A0 k 1) = 270 := (show ∀ k, k < NC → K0 k = 9 → R0 k 1 = some (A0 k 1) ∧ K0 (A0 k 1) = 20 ∧ Ln0 (A0 k 1) = 270 by decide +kernel) k (K0_lt hk (by decide)) hk
set_option maxRecDepth 100000 in
theorem fr_9_2 {k : Nat} (hk : K0 k = 9) : R0 k 2 = some (A0 k 2) ∧ K0 (A0 k 2) = 20 ∧ Ln0 (A0 k 2) = 270 := (show ∀ k, k < NC → K0 k = 9 → R0 k 2 = some (A0 k 2) ∧ K0 (A0 k 2) = 20 ∧ Ln0 (A0 k 2) = 270 by decide +kernel) k (K0_lt hk (by decide)) hk
set_option maxRecDepth 100000 in
theorem fr_9_4 {k : Nat} (hk : K0 k = 9) : R0 k 4 = some (A0 k 4) ∧ K0 (A0 k 4) = 20 ∧ Ln0 (A0 k 4) = 6 := (show ∀ k, k < NC → K0 k = 9 → R0 k 4 = some (A0 k 4) ∧ K0 (A0 k 4) = 20 ∧ Ln0 (A0 k 4) = 6 by decide +kernel) k (K0_lt hk (by decide)) hk
set_option maxRecDepth 100000 in
theorem fr_9_11 {k : Nat} (hk : K0 k = 9) : R0 k 11 = some (A0 k 11) ∧ K0 (A0 k 11) = 20 ∧ Ln0 (A0 k 11) = 3 := (show ∀ k, k < NC → K0 k = 9 → R0 k 11 = some (A0 k 11) ∧ K0 (A0 k 11) = 20 ∧ Ln0 (A0 k 11) = 3 by decide +kernel) k (K0_lt hk (by decide)) hk
set_option maxRecDepth 100000 in
theorem fr_9_12 {k : Nat} (hk : K0 k = 9) : R0 k 12 = some (A0 k 12) ∧ K0 (A0 k 12) = 20 ∧ Ln0 (A0 k 12) = 60 := (show ∀ k, k < NC → K0 k = 9 → R0 k 12 = some (A0 k 12) ∧ K0 (A0 k 12) = 20 ∧ Ln0 (A0 k 12) = 60 by decide +kernel) k (K0_lt hk (by decide)) hk
set_option maxRecDepth 100000 in
theorem fr_9_14 {k : Nat} (hk : K0 k = 9) : R0 k 14 = some (A0 k 14) ∧ K0 (A0 k 14) = 20 ∧ Ln0 (A0 k 14) = 60 := (show ∀ k, k < NC → K0 k = 9 → R0 k 14 = some (A0 k 14) ∧ K0 (A0 k 14) = 20 ∧ Ln0 (A0 k 14) = 60 by decide +kernel) k (K0_lt hk (by decide)) hk
set_option maxRecDepth 100000 in
theorem fr_9_17 {k : Nat} (hk : K0 k = 9) : R0 k 17 = some (A0 k 17) ∧ K0 (A0 k 17) = 20 ∧ Ln0 (A0 k 17) = 40 := (show ∀ k, k < NC → K0 k = 9 → R0 k 17 = some (A0 k 17) ∧ K0 (A0 k 17) = 20 ∧ Ln0 (A0 k 17) = 40 by decide +kernel) k (K0_lt hk (by decide)) hk
set_option maxRecDepth 100000 in
theorem fr_9_20 {k : Nat} (hk : K0 k = 9) : R0 k 20 = some (A0 k 20) ∧ K0 (A0 k 20) = 20 ∧ Ln0 (A0 k 20) = 4 := (show ∀ k, k < NC → K0 k = 9 → R0 k 20 = some (A0 k 20) ∧ K0 (A0 k 20) = 20 ∧ Ln0 (A0 k 20) = 4 by decide +kernel) k (K0_lt hk (by decide)) hk
set_option maxRecDepth 100000 in
theorem fr_9_21 {k : Nat} (hk : K0 k = 9) : R0 k 21 = some (A0 k 21) ∧ K0 (A0 k 21) = 20 ∧ Ln0 (A0 k 21) = 4 := (show ∀ k, k < NC → K0 k = 9 → R0 k 21 = some (A0 k 21) ∧ K0 (A0 k 21) = 20 ∧ Ln0 (A0 k 21) = 4 by decide +kernel) k (K0_lt hk (by decide)) hk
set_option maxRecDepth 100000 in
theorem fr_9_22 {k : Nat} (hk : K0 k = 9) : R0 k 22 = some (A0 k 22) ∧ K0 (A0 k 22) = 20 ∧ Ln0 (A0 k 22) = 160 := (show ∀ k, k < NC → K0 k = 9 → R0 k 22 = some (A0 k 22) ∧ K0 (A0 k 22) = 20 ∧ Ln0 (A0 k 22) = 160 by decide +kernel) k (K0_lt hk (by decide)) hk
set_option maxRecDepth 100000 in
theorem fr_9_23 {k : Nat} (hk : K0 k = 9) : R0 k 23 = some (A0 k 23) ∧ K0 (A0 k 23) = 20 ∧ Ln0 (A0 k 23) = 40 := (show ∀ k, k < NC → K0 k = 9 → R0 k 23 = some (A0 k 23) ∧ K0 (A0 k 23) = 20 ∧ Ln0 (A0 k 23) = 40 by decide +kernel) k (K0_lt hk (by decide)) hk
set_option maxRecDepth 100000 in
theorem cw_X0_addToTape : CalW yX0_addToTape cX0_addToTape 5 (Option.none : Option Jvm.ClassFile.FieldType) 2 := ⟨q_440, q_2, by decide +kernel⟩
set_option maxRecDepth 100000 in
theorem cw_X0_copy : CalW yX0_copy cX0_copy 5 (Option.none : Option Jvm.ClassFile.FieldType) 1 := ⟨q_848, q_2, by decide +kernel⟩
set_option maxRecDepth 100000 in
theorem cw_X0_draw : CalW yX0_draw cX0_draw 1 (Option.some Jvm.ClassFile.FieldType.int) 0 := ⟨q_675, q_2, by decide +kernel⟩
set_option maxRecDepth 100000 in
theorem cw_X0_flowOf : CalW yX0_flowOf cX0_flowOf 3 (Option.some Jvm.ClassFile.FieldType.int) 2 := ⟨q_346, q_2, by decide +kernel⟩
set_option maxRecDepth 100000 in
theorem cw_X0_init : CalW yX0_init cX0_init 2 (Option.none : Option Jvm.ClassFile.FieldType) 0 := ⟨q_30, q_2, by decide +kernel⟩
set_option maxRecDepth 100000 in
theorem cw_X0_lawOf : CalW yX0_lawOf cX0_lawOf 2 (Option.some (Jvm.ClassFile.FieldType.object RX1)) 1 := ⟨q_448, q_2, by decide +kernel⟩
set_option maxRecDepth 100000 in
theorem cw_X0_share : CalW yX0_share cX0_share 2 (Option.none : Option Jvm.ClassFile.FieldType) 0 := ⟨q_665, q_2, by decide +kernel⟩
set_option maxRecDepth 100000 in
theorem cw_X0_swimmerAt : CalW yX0_swimmerAt cX0_swimmerAt 2 (Option.some (Jvm.ClassFile.FieldType.object RX6)) 1 := ⟨q_378, q_2, by decide +kernel⟩
set_option maxRecDepth 100000 in
theorem cw_X1_copy : CalW yX1_copy cX1_copy 2 (Option.none : Option Jvm.ClassFile.FieldType) 1 := ⟨q_852, q_3, by decide +kernel⟩
set_option maxRecDepth 100000 in
theorem cw_X1_give : CalW yX1_give cX1_give 4 (Option.some Jvm.ClassFile.FieldType.int) 3 := ⟨q_351, q_3, by decide +kernel⟩
set_option maxRecDepth 100000 in
theorem cw_X1_init : CalW yX1_init cX1_init 2 (Option.none : Option Jvm.ClassFile.FieldType) 1 := ⟨q_38, q_3, by decide +kernel⟩
set_option maxRecDepth 100000 in
theorem cw_X1_joined : CalW yX1_joined cX1_joined 3 (Option.some Jvm.ClassFile.FieldType.int) 3 := ⟨q_361, q_3, by decide +kernel⟩
set_option maxRecDepth 100000 in
theorem cw_X1_take : CalW yX1_take cX1_take 2 (Option.none : Option Jvm.ClassFile.FieldType) 1 := ⟨q_591, q_3, by decide +kernel⟩
set_option maxRecDepth 100000 in
theorem cw_X1_valueOf : CalW yX1_valueOf cX1_valueOf 4 (Option.some Jvm.ClassFile.FieldType.int) 4 := ⟨q_358, q_3, by decide +kernel⟩
set_option maxRecDepth 100000 in
theorem cw_X1_workOut : CalW yX1_workOut cX1_workOut 7 (Option.some Jvm.ClassFile.FieldType.int) 3 := ⟨q_355, q_3, by decide +kernel⟩
set_option maxRecDepth 100000 in
theorem cw_X2_bestLane : CalW yX2_bestLane cX2_bestLane 2 (Option.some Jvm.ClassFile.FieldType.int) 1 := ⟨q_715, q_7, by decide +kernel⟩
set_option maxRecDepth 100000 in
theorem cw_X2_init : CalW yX2_init cX2_init 1 (Option.none : Option Jvm.ClassFile.FieldType) 0 := ⟨q_212, q_7, by decide +kernel⟩
set_option maxRecDepth 100000 in
theorem cw_X2_meetsAt : CalW yX2_meetsAt cX2_meetsAt 6 (Option.some Jvm.ClassFile.FieldType.boolean) 2 := ⟨q_706, q_7, by decide +kernel⟩
set_option maxRecDepth 100000 in
theorem cw_X2_seek : CalW yX2_seek cX2_seek 7 (Option.none : Option Jvm.ClassFile.FieldType) 4 := ⟨q_684, q_7, by decide +kernel⟩
set_option maxRecDepth 100000 in
theorem cw_X2_setLane : CalW yX2_setLane cX2_setLane 4 (Option.none : Option Jvm.ClassFile.FieldType) 2 := ⟨q_701, q_7, by decide +kernel⟩
set_option maxRecDepth 100000 in
theorem cw_X2_tryLanes : CalW yX2_tryLanes cX2_tryLanes 9 (Option.none : Option Jvm.ClassFile.FieldType) 2 := ⟨q_695, q_7, by decide +kernel⟩
set_option maxRecDepth 100000 in
theorem cw_X3_add : CalW yX3_add cX3_add 2 (Option.none : Option Jvm.ClassFile.FieldType) 1 := ⟨q_497, q_5, by decide +kernel⟩
set_option maxRecDepth 100000 in
theorem cw_X3_init : CalW yX3_init cX3_init 1 (Option.none : Option Jvm.ClassFile.FieldType) 0 := ⟨q_155, q_5, by decide +kernel⟩
set_option maxRecDepth 100000 in
theorem cw_X3_isDigit : CalW yX3_isDigit cX3_isDigit 1 (Option.some Jvm.ClassFile.FieldType.boolean) 1 := ⟨q_489, q_5, by decide +kernel⟩
set_option maxRecDepth 100000 in
theorem cw_X3_next : CalW yX3_next cX3_next 1 (Option.some Jvm.ClassFile.FieldType.int) 0 := ⟨q_486, q_5, by decide +kernel⟩
set_option maxRecDepth 100000 in
theorem cw_X3_read : CalW yX3_read cX3_read 4 (Option.some Jvm.ClassFile.FieldType.int) 3 := ⟨q_452, q_5, by decide +kernel⟩
set_option maxRecDepth 100000 in
theorem cw_X3_readAll : CalW yX3_readAll cX3_readAll 2 (Option.some Jvm.ClassFile.FieldType.boolean) 1 := ⟨q_466, q_5, by decide +kernel⟩
set_option maxRecDepth 100000 in
theorem cw_X3_readAny : CalW yX3_readAny cX3_readAny 2 (Option.some Jvm.ClassFile.FieldType.boolean) 1 := ⟨q_462, q_5, by decide +kernel⟩
set_option maxRecDepth 100000 in
theorem cw_X3_readBracket : CalW yX3_readBracket cX3_readBracket 2 (Option.some Jvm.ClassFile.FieldType.boolean) 1 := ⟨q_587, q_5, by decide +kernel⟩
set_option maxRecDepth 100000 in
theorem cw_X3_readComparison : CalW yX3_readComparison cX3_readComparison 3 (Option.some Jvm.ClassFile.FieldType.boolean) 1 := ⟨q_470, q_5, by decide +kernel⟩
set_option maxRecDepth 100000 in
theorem cw_X3_readNot : CalW yX3_readNot cX3_readNot 2 (Option.some Jvm.ClassFile.FieldType.boolean) 1 := ⟨q_583, q_5, by decide +kernel⟩
set_option maxRecDepth 100000 in
theorem cw_X3_readNumber : CalW yX3_readNumber cX3_readNumber 3 (Option.none : Option Jvm.ClassFile.FieldType) 0 := ⟨q_493, q_5, by decide +kernel⟩
set_option maxRecDepth 100000 in
theorem cw_X3_readPart : CalW yX3_readPart cX3_readPart 4 (Option.some Jvm.ClassFile.FieldType.boolean) 1 := ⟨q_482, q_5, by decide +kernel⟩
set_option maxRecDepth 100000 in
theorem cw_X3_readProduct : CalW yX3_readProduct cX3_readProduct 3 (Option.some Jvm.ClassFile.FieldType.boolean) 1 := ⟨q_478, q_5, by decide +kernel⟩
set_option maxRecDepth 100000 in
theorem cw_X3_readSum : CalW yX3_readSum cX3_readSum 3 (Option.some Jvm.ClassFile.FieldType.boolean) 1 := ⟨q_474, q_5, by decide +kernel⟩
set_option maxRecDepth 100000 in
theorem cw_X4_clear : CalW yX4_clear cX4_clear 4 (Option.none : Option Jvm.ClassFile.FieldType) 2 := ⟨q_803, q_9, by decide +kernel⟩
set_option maxRecDepth 100000 in
theorem cw_X4_holds : CalW yX4_holds cX4_holds 3 (Option.some Jvm.ClassFile.FieldType.boolean) 2 := ⟨q_825, q_9, by decide +kernel⟩
set_option maxRecDepth 100000 in
theorem cw_X4_init : CalW yX4_init cX4_init 1 (Option.none : Option Jvm.ClassFile.FieldType) 0 := ⟨q_274, q_9, by decide +kernel⟩
set_option maxRecDepth 100000 in
theorem cw_X4_isMissing : CalW yX4_isMissing cX4_isMissing 1 (Option.some Jvm.ClassFile.FieldType.boolean) 0 := ⟨q_812, q_9, by decide +kernel⟩
set_option maxRecDepth 100000 in
theorem cw_X4_read : CalW yX4_read cX4_read 2 (Option.some Jvm.ClassFile.FieldType.int) 1 := ⟨q_834, q_9, by decide +kernel⟩
set_option maxRecDepth 100000 in
theorem cw_X4_write : CalW yX4_write cX4_write 3 (Option.none : Option Jvm.ClassFile.FieldType) 2 := ⟨q_816, q_9, by decide +kernel⟩
set_option maxRecDepth 100000 in
theorem cw_X5_begin : CalW yX5_begin cX5_begin 3 (Option.none : Option Jvm.ClassFile.FieldType) 2 := ⟨q_645, q_6, by decide +kernel⟩
set_option maxRecDepth 100000 in
theorem cw_X5_feel : CalW yX5_feel cX5_feel 4 (Option.none : Option Jvm.ClassFile.FieldType) 2 := ⟨q_605, q_6, by decide +kernel⟩
set_option maxRecDepth 100000 in
theorem cw_X5_flowIn : CalW yX5_flowIn cX5_flowIn 2 (Option.some Jvm.ClassFile.FieldType.int) 1 := ⟨q_628, q_6, by decide +kernel⟩
set_option maxRecDepth 100000 in
theorem cw_X5_gap : CalW yX5_gap cX5_gap 2 (Option.some Jvm.ClassFile.FieldType.int) 1 := ⟨q_649, q_6, by decide +kernel⟩
set_option maxRecDepth 100000 in
theorem cw_X5_init : CalW yX5_init cX5_init 1 (Option.none : Option Jvm.ClassFile.FieldType) 0 := ⟨q_184, q_6, by decide +kernel⟩
set_option maxRecDepth 100000 in
theorem cw_X5_leastGap : CalW yX5_leastGap cX5_leastGap 5 (Option.some Jvm.ClassFile.FieldType.int) 2 := ⟨q_742, q_6, by decide +kernel⟩
set_option maxRecDepth 100000 in
theorem cw_X5_meets : CalW yX5_meets cX5_meets 5 (Option.some Jvm.ClassFile.FieldType.boolean) 3 := ⟨q_641, q_6, by decide +kernel⟩
set_option maxRecDepth 100000 in
theorem cw_X5_placeBehind : CalW yX5_placeBehind cX5_placeBehind 5 (Option.some Jvm.ClassFile.FieldType.int) 2 := ⟨q_610, q_6, by decide +kernel⟩
set_option maxRecDepth 100000 in
theorem cw_X5_placeNext : CalW yX5_placeNext cX5_placeNext 6 (Option.some Jvm.ClassFile.FieldType.int) 3 := ⟨q_618, q_6, by decide +kernel⟩
set_option maxRecDepth 100000 in
theorem cw_X6_begin : CalW yX6_begin cX6_begin 3 (Option.none : Option Jvm.ClassFile.FieldType) 2 := ⟨q_382, q_4, by decide +kernel⟩
set_option maxRecDepth 100000 in
theorem cw_X6_copy : CalW yX6_copy cX6_copy 2 (Option.none : Option Jvm.ClassFile.FieldType) 1 := ⟨q_688, q_4, by decide +kernel⟩
set_option maxRecDepth 100000 in
theorem cw_X6_init : CalW yX6_init cX6_init 1 (Option.none : Option Jvm.ClassFile.FieldType) 0 := ⟨q_57, q_4, by decide +kernel⟩
set_option maxRecDepth 100000 in
theorem cw_X6_keepTo : CalW yX6_keepTo cX6_keepTo 3 (Option.none : Option Jvm.ClassFile.FieldType) 1 := ⟨q_390, q_4, by decide +kernel⟩
set_option maxRecDepth 100000 in
theorem cw_X6_laneIn : CalW yX6_laneIn cX6_laneIn 3 (Option.some Jvm.ClassFile.FieldType.int) 1 := ⟨q_623, q_4, by decide +kernel⟩
set_option maxRecDepth 100000 in
theorem cw_X6_laneOf : CalW yX6_laneOf cX6_laneOf 2 (Option.some Jvm.ClassFile.FieldType.int) 1 := ⟨q_398, q_4, by decide +kernel⟩
set_option maxRecDepth 100000 in
theorem cw_X6_paceIn : CalW yX6_paceIn cX6_paceIn 4 (Option.some Jvm.ClassFile.FieldType.int) 1 := ⟨q_428, q_4, by decide +kernel⟩
set_option maxRecDepth 100000 in
theorem cw_X6_plainPace : CalW yX6_plainPace cX6_plainPace 3 (Option.some Jvm.ClassFile.FieldType.int) 1 := ⟨q_432, q_4, by decide +kernel⟩
set_option maxRecDepth 100000 in
theorem cw_X6_shore : CalW yX6_shore cX6_shore 1 (Option.some Jvm.ClassFile.FieldType.int) 0 := ⟨q_614, q_4, by decide +kernel⟩
set_option maxRecDepth 100000 in
theorem cw_X6_turnInto : CalW yX6_turnInto cX6_turnInto 2 (Option.none : Option Jvm.ClassFile.FieldType) 1 := ⟨q_386, q_4, by decide +kernel⟩
set_option maxRecDepth 100000 in
theorem cw_X7_bodyOf : CalW yX7_bodyOf cX7_bodyOf 5 (Option.some Jvm.ClassFile.FieldType.int) 2 := ⟨q_779, q_8, by decide +kernel⟩
set_option maxRecDepth 100000 in
theorem cw_X7_init : CalW yX7_init cX7_init 1 (Option.none : Option Jvm.ClassFile.FieldType) 0 := ⟨q_247, q_8, by decide +kernel⟩
set_option maxRecDepth 100000 in
theorem cw_X7_note : CalW yX7_note cX7_note 2 (Option.none : Option Jvm.ClassFile.FieldType) 1 := ⟨q_787, q_8, by decide +kernel⟩
set_option maxRecDepth 100000 in
theorem cw_X7_say : CalW yX7_say cX7_say 7 (Option.some Jvm.ClassFile.FieldType.int) 4 := ⟨q_776, q_8, by decide +kernel⟩
set_option maxRecDepth 100000 in
theorem cw_X7_speak : CalW yX7_speak cX7_speak 5 (Option.some Jvm.ClassFile.FieldType.int) 4 := ⟨q_772, q_8, by decide +kernel⟩
set_option maxRecDepth 100000 in
theorem cw_X8_areUnlike : CalW yX8_areUnlike cX8_areUnlike 2 (Option.some Jvm.ClassFile.FieldType.boolean) 2 := ⟨q_637, q_1, by decide +kernel⟩
set_option maxRecDepth 100000 in
theorem cw_X8_as : CalW yX8_as cX8_as 4 (Option.some Jvm.ClassFile.FieldType.int) 2 := ⟨q_415, q_1, by decide +kernel⟩
set_option maxRecDepth 100000 in
theorem cw_X8_ask : CalW yX8_ask cX8_ask 9 (Option.some Jvm.ClassFile.FieldType.int) 2 := ⟨q_734, q_1, by decide +kernel⟩
set_option maxRecDepth 100000 in
theorem cw_X8_become : CalW yX8_become cX8_become 5 (Option.some Jvm.ClassFile.FieldType.int) 2 := ⟨q_410, q_1, by decide +kernel⟩
set_option maxRecDepth 100000 in
theorem cw_X8_bestPlan : CalW yX8_bestPlan cX8_bestPlan 6 (Option.some Jvm.ClassFile.FieldType.int) 3 := ⟨q_680, q_1, by decide +kernel⟩
set_option maxRecDepth 100000 in
theorem cw_X8_check : CalW yX8_check cX8_check 9 (Option.some Jvm.ClassFile.FieldType.int) 2 := ⟨q_867, q_1, by decide +kernel⟩
set_option maxRecDepth 100000 in
theorem cw_X8_count : CalW yX8_count cX8_count 2 (Option.some Jvm.ClassFile.FieldType.int) 1 := ⟨q_871, q_1, by decide +kernel⟩
set_option maxRecDepth 100000 in
theorem cw_X8_current : CalW yX8_current cX8_current 4 (Option.some Jvm.ClassFile.FieldType.int) 2 := ⟨q_326, q_1, by decide +kernel⟩
set_option maxRecDepth 100000 in
theorem cw_X8_diary : CalW yX8_diary cX8_diary 11 (Option.some Jvm.ClassFile.FieldType.int) 5 := ⟨q_752, q_1, by decide +kernel⟩
set_option maxRecDepth 100000 in
theorem cw_X8_fair : CalW yX8_fair cX8_fair 6 (Option.some Jvm.ClassFile.FieldType.int) 2 := ⟨q_760, q_1, by decide +kernel⟩
set_option maxRecDepth 100000 in
theorem cw_X8_feed : CalW yX8_feed cX8_feed 4 (Option.some Jvm.ClassFile.FieldType.int) 2 := ⟨q_436, q_1, by decide +kernel⟩
set_option maxRecDepth 100000 in
theorem cw_X8_flow : CalW yX8_flow cX8_flow 2 (Option.some Jvm.ClassFile.FieldType.int) 1 := ⟨q_342, q_1, by decide +kernel⟩
set_option maxRecDepth 100000 in
theorem cw_X8_heldWithin : CalW yX8_heldWithin cX8_heldWithin 3 (Option.some Jvm.ClassFile.FieldType.int) 3 := ⟨q_364, q_1, by decide +kernel⟩
set_option maxRecDepth 100000 in
theorem cw_X8_hold : CalW yX8_hold cX8_hold 10 (Option.some Jvm.ClassFile.FieldType.int) 3 := ⟨q_719, q_1, by decide +kernel⟩
set_option maxRecDepth 100000 in
theorem cw_X8_image : CalW yX8_image cX8_image 1 (Option.some Jvm.ClassFile.FieldType.int) 0 := ⟨q_844, q_1, by decide +kernel⟩
set_option maxRecDepth 100000 in
theorem cw_X8_init : CalW yX8_init cX8_init 2 (Option.none : Option Jvm.ClassFile.FieldType) 0 := ⟨q_22, q_1, by decide +kernel⟩
set_option maxRecDepth 100000 in
theorem cw_X8_isBetter : CalW yX8_isBetter cX8_isBetter 3 (Option.some Jvm.ClassFile.FieldType.boolean) 3 := ⟨q_710, q_1, by decide +kernel⟩
set_option maxRecDepth 100000 in
theorem cw_X8_isOutside : CalW yX8_isOutside cX8_isOutside 3 (Option.some Jvm.ClassFile.FieldType.boolean) 3 := ⟨q_329, q_1, by decide +kernel⟩
set_option maxRecDepth 100000 in
theorem cw_X8_isUnder : CalW yX8_isUnder cX8_isUnder 4 (Option.some Jvm.ClassFile.FieldType.boolean) 2 := ⟨q_418, q_1, by decide +kernel⟩
set_option maxRecDepth 100000 in
theorem cw_X8_judge : CalW yX8_judge cX8_judge 7 (Option.some Jvm.ClassFile.FieldType.int) 2 := ⟨q_838, q_1, by decide +kernel⟩
set_option maxRecDepth 100000 in
theorem cw_X8_law : CalW yX8_law cX8_law 6 (Option.some Jvm.ClassFile.FieldType.int) 4 := ⟨q_596, q_1, by decide +kernel⟩
set_option maxRecDepth 100000 in
theorem cw_X8_leastSight : CalW yX8_leastSight cX8_leastSight 6 (Option.some Jvm.ClassFile.FieldType.int) 2 := ⟨q_738, q_1, by decide +kernel⟩
set_option maxRecDepth 100000 in
theorem cw_X8_letYearGoBy : CalW yX8_letYearGoBy cX8_letYearGoBy 5 (Option.none : Option Jvm.ClassFile.FieldType) 2 := ⟨q_661, q_1, by decide +kernel⟩
set_option maxRecDepth 100000 in
theorem cw_X8_loose : CalW yX8_loose cX8_loose 4 (Option.some Jvm.ClassFile.FieldType.int) 2 := ⟨q_671, q_1, by decide +kernel⟩
set_option maxRecDepth 100000 in
theorem cw_X8_meet : CalW yX8_meet cX8_meet 6 (Option.some Jvm.ClassFile.FieldType.int) 3 := ⟨q_634, q_1, by decide +kernel⟩
set_option maxRecDepth 100000 in
theorem cw_X8_meetInLane : CalW yX8_meetInLane cX8_meetInLane 4 (Option.some Jvm.ClassFile.FieldType.boolean) 3 := ⟨q_727, q_1, by decide +kernel⟩
set_option maxRecDepth 100000 in
theorem cw_X8_move : CalW yX8_move cX8_move 8 (Option.some Jvm.ClassFile.FieldType.int) 5 := ⟨q_821, q_1, by decide +kernel⟩
set_option maxRecDepth 100000 in
theorem cw_X8_ofSwimmer : CalW yX8_ofSwimmer cX8_ofSwimmer 4 (Option.some Jvm.ClassFile.FieldType.int) 2 := ⟨q_394, q_1, by decide +kernel⟩
set_option maxRecDepth 100000 in
theorem cw_X8_pace : CalW yX8_pace cX8_pace 4 (Option.some Jvm.ClassFile.FieldType.int) 2 := ⟨q_424, q_1, by decide +kernel⟩
set_option maxRecDepth 100000 in
theorem cw_X8_plan : CalW yX8_plan cX8_plan 6 (Option.some Jvm.ClassFile.FieldType.int) 3 := ⟨q_406, q_1, by decide +kernel⟩
set_option maxRecDepth 100000 in
theorem cw_X8_put : CalW yX8_put cX8_put 5 (Option.some Jvm.ClassFile.FieldType.int) 3 := ⟨q_808, q_1, by decide +kernel⟩
set_option maxRecDepth 100000 in
theorem cw_X8_refuse : CalW yX8_refuse cX8_refuse 2 (Option.some Jvm.ClassFile.FieldType.int) 1 := ⟨q_333, q_1, by decide +kernel⟩
set_option maxRecDepth 100000 in
theorem cw_X8_restore : CalW yX8_restore cX8_restore 1 (Option.some Jvm.ClassFile.FieldType.int) 0 := ⟨q_859, q_1, by decide +kernel⟩
set_option maxRecDepth 100000 in
theorem cw_X8_seed : CalW yX8_seed cX8_seed 3 (Option.some Jvm.ClassFile.FieldType.int) 1 := ⟨q_764, q_1, by decide +kernel⟩
set_option maxRecDepth 100000 in
theorem cw_X8_send : CalW yX8_send cX8_send 7 (Option.some Jvm.ClassFile.FieldType.int) 1 := ⟨q_748, q_1, by decide +kernel⟩
set_option maxRecDepth 100000 in
theorem cw_X8_set : CalW yX8_set cX8_set 4 (Option.some Jvm.ClassFile.FieldType.int) 2 := ⟨q_338, q_1, by decide +kernel⟩
set_option maxRecDepth 100000 in
theorem cw_X8_sheet : CalW yX8_sheet cX8_sheet 5 (Option.some Jvm.ClassFile.FieldType.int) 3 := ⟨q_795, q_1, by decide +kernel⟩
set_option maxRecDepth 100000 in
theorem cw_X8_sheetAt : CalW yX8_sheetAt cX8_sheetAt 2 (Option.some (Jvm.ClassFile.FieldType.object RX4)) 1 := ⟨q_799, q_1, by decide +kernel⟩
set_option maxRecDepth 100000 in
theorem cw_X8_swimmer : CalW yX8_swimmer cX8_swimmer 5 (Option.some Jvm.ClassFile.FieldType.int) 2 := ⟨q_374, q_1, by decide +kernel⟩
set_option maxRecDepth 100000 in
theorem cw_X8_tell : CalW yX8_tell cX8_tell 3 (Option.some Jvm.ClassFile.FieldType.int) 1 := ⟨q_863, q_1, by decide +kernel⟩
set_option maxRecDepth 100000 in
theorem cw_X8_text : CalW yX8_text cX8_text 4 (Option.some Jvm.ClassFile.FieldType.int) 1 := ⟨q_444, q_1, by decide +kernel⟩
set_option maxRecDepth 100000 in
theorem cw_X8_told : CalW yX8_told cX8_told 2 (Option.some Jvm.ClassFile.FieldType.int) 1 := ⟨q_875, q_1, by decide +kernel⟩
set_option maxRecDepth 100000 in
theorem cw_X8_trace : CalW yX8_trace cX8_trace 2 (Option.some Jvm.ClassFile.FieldType.int) 1 := ⟨q_791, q_1, by decide +kernel⟩
set_option maxRecDepth 100000 in
theorem cw_X8_train : CalW yX8_train cX8_train 5 (Option.some Jvm.ClassFile.FieldType.int) 2 := ⟨q_402, q_1, by decide +kernel⟩
set_option maxRecDepth 100000 in
theorem cw_X8_training : CalW yX8_training cX8_training 7 (Option.some Jvm.ClassFile.FieldType.int) 3 := ⟨q_756, q_1, by decide +kernel⟩
set_option maxRecDepth 100000 in
theorem cw_X8_voice : CalW yX8_voice cX8_voice 5 (Option.some Jvm.ClassFile.FieldType.int) 3 := ⟨q_768, q_1, by decide +kernel⟩
set_option maxRecDepth 100000 in
theorem cw_X8_where : CalW yX8_where cX8_where 4 (Option.some Jvm.ClassFile.FieldType.int) 2 := ⟨q_601, q_1, by decide +kernel⟩
set_option maxRecDepth 100000 in
theorem cw_X8_whyNoYear : CalW yX8_whyNoYear cX8_whyNoYear 3 (Option.some Jvm.ClassFile.FieldType.int) 2 := ⟨q_657, q_1, by decide +kernel⟩
set_option maxRecDepth 100000 in
theorem cw_X8_worstPlaceIn : CalW yX8_worstPlaceIn cX8_worstPlaceIn 5 (Option.some Jvm.ClassFile.FieldType.int) 3 := ⟨q_723, q_1, by decide +kernel⟩
set_option maxRecDepth 100000 in
theorem cw_X8_year : CalW yX8_year cX8_year 4 (Option.some Jvm.ClassFile.FieldType.int) 2 := ⟨q_653, q_1, by decide +kernel⟩
set_option maxRecDepth 100000 in
theorem cw_X8_years : CalW yX8_years cX8_years 7 (Option.some Jvm.ClassFile.FieldType.int) 1 := ⟨q_830, q_1, by decide +kernel⟩
set_option maxRecDepth 100000 in
theorem cw_X9_aYear : CalW yX9_aYear cX9_aYear 4 (Option.some Jvm.ClassFile.FieldType.int) 3 := ⟨q_1161, q_10, by decide +kernel⟩
set_option maxRecDepth 100000 in
theorem cw_X9_above : CalW yX9_above cX9_above 1 (Option.some Jvm.ClassFile.FieldType.int) 1 := ⟨q_1112, q_10, by decide +kernel⟩
set_option maxRecDepth 100000 in
theorem cw_X9_areUnlike : CalW yX9_areUnlike cX9_areUnlike 3 (Option.some Jvm.ClassFile.FieldType.boolean) 2 := ⟨q_1148, q_10, by decide +kernel⟩
set_option maxRecDepth 100000 in
theorem cw_X9_as : CalW yX9_as cX9_as 4 (Option.some Jvm.ClassFile.FieldType.int) 2 := ⟨q_1108, q_10, by decide +kernel⟩
set_option maxRecDepth 100000 in
theorem cw_X9_ask : CalW yX9_ask cX9_ask 7 (Option.some Jvm.ClassFile.FieldType.int) 2 := ⟨q_1205, q_10, by decide +kernel⟩
set_option maxRecDepth 100000 in
theorem cw_X9_become : CalW yX9_become cX9_become 4 (Option.some Jvm.ClassFile.FieldType.int) 2 := ⟨q_1104, q_10, by decide +kernel⟩
set_option maxRecDepth 100000 in
theorem cw_X9_becomes : CalW yX9_becomes cX9_becomes 4 (Option.none : Option Jvm.ClassFile.FieldType) 3 := ⟨q_1079, q_10, by decide +kernel⟩
set_option maxRecDepth 100000 in
theorem cw_X9_bestPlan : CalW yX9_bestPlan cX9_bestPlan 7 (Option.some Jvm.ClassFile.FieldType.int) 3 := ⟨q_1179, q_10, by decide +kernel⟩
set_option maxRecDepth 100000 in
theorem cw_X9_both : CalW yX9_both cX9_both 1 (Option.none : Option Jvm.ClassFile.FieldType) 0 := ⟨q_984, q_10, by decide +kernel⟩
set_option maxRecDepth 100000 in
theorem cw_X9_breathes : CalW yX9_breathes cX9_breathes 4 (Option.some Jvm.ClassFile.FieldType.int) 2 := ⟨q_1253, q_10, by decide +kernel⟩
set_option maxRecDepth 100000 in
theorem cw_X9_changeSides : CalW yX9_changeSides cX9_changeSides 3 (Option.none : Option Jvm.ClassFile.FieldType) 2 := ⟨q_1229, q_10, by decide +kernel⟩
set_option maxRecDepth 100000 in
theorem cw_X9_check : CalW yX9_check cX9_check 6 (Option.some Jvm.ClassFile.FieldType.int) 2 := ⟨q_1304, q_10, by decide +kernel⟩
set_option maxRecDepth 100000 in
theorem cw_X9_compared : CalW yX9_compared cX9_compared 2 (Option.none : Option Jvm.ClassFile.FieldType) 0 := ⟨q_988, q_10, by decide +kernel⟩
set_option maxRecDepth 100000 in
theorem cw_X9_copies : CalW yX9_copies cX9_copies 3 (Option.none : Option Jvm.ClassFile.FieldType) 2 := ⟨q_1183, q_10, by decide +kernel⟩
set_option maxRecDepth 100000 in
theorem cw_X9_count : CalW yX9_count cX9_count 2 (Option.some Jvm.ClassFile.FieldType.int) 1 := ⟨q_1308, q_10, by decide +kernel⟩
set_option maxRecDepth 100000 in
theorem cw_X9_current : CalW yX9_current cX9_current 4 (Option.some Jvm.ClassFile.FieldType.int) 2 := ⟨q_1048, q_10, by decide +kernel⟩
set_option maxRecDepth 100000 in
theorem cw_X9_diary : CalW yX9_diary cX9_diary 9 (Option.some Jvm.ClassFile.FieldType.int) 5 := ⟨q_1217, q_10, by decide +kernel⟩
set_option maxRecDepth 100000 in
theorem cw_X9_done : CalW yX9_done cX9_done 3 (Option.some Jvm.ClassFile.FieldType.int) 3 := ⟨q_1041, q_10, by decide +kernel⟩
set_option maxRecDepth 100000 in
theorem cw_X9_drawn : CalW yX9_drawn cX9_drawn 1 (Option.some Jvm.ClassFile.FieldType.int) 0 := ⟨q_1165, q_10, by decide +kernel⟩
set_option maxRecDepth 100000 in
theorem cw_X9_either : CalW yX9_either cX9_either 1 (Option.none : Option Jvm.ClassFile.FieldType) 0 := ⟨q_980, q_10, by decide +kernel⟩
set_option maxRecDepth 100000 in
theorem cw_X9_endOf : CalW yX9_endOf cX9_endOf 5 (Option.some Jvm.ClassFile.FieldType.int) 4 := ⟨q_1201, q_10, by decide +kernel⟩
set_option maxRecDepth 100000 in
theorem cw_X9_fair : CalW yX9_fair cX9_fair 6 (Option.some Jvm.ClassFile.FieldType.int) 2 := ⟨q_1225, q_10, by decide +kernel⟩
set_option maxRecDepth 100000 in
theorem cw_X9_feed : CalW yX9_feed cX9_feed 5 (Option.some Jvm.ClassFile.FieldType.int) 2 := ⟨q_958, q_10, by decide +kernel⟩
set_option maxRecDepth 100000 in
theorem cw_X9_finds : CalW yX9_finds cX9_finds 2 (Option.some Jvm.ClassFile.FieldType.int) 1 := ⟨q_966, q_10, by decide +kernel⟩
set_option maxRecDepth 100000 in
theorem cw_X9_flow : CalW yX9_flow cX9_flow 2 (Option.some Jvm.ClassFile.FieldType.int) 1 := ⟨q_1066, q_10, by decide +kernel⟩
set_option maxRecDepth 100000 in
theorem cw_X9_flowOf : CalW yX9_flowOf cX9_flowOf 2 (Option.some Jvm.ClassFile.FieldType.int) 1 := ⟨q_1070, q_10, by decide +kernel⟩
set_option maxRecDepth 100000 in
theorem cw_X9_gives : CalW yX9_gives cX9_gives 6 (Option.some Jvm.ClassFile.FieldType.int) 4 := ⟨q_1034, q_10, by decide +kernel⟩
set_option maxRecDepth 100000 in
theorem cw_X9_goes : CalW yX9_goes cX9_goes 5 (Option.some Jvm.ClassFile.FieldType.int) 3 := ⟨q_1133, q_10, by decide +kernel⟩
set_option maxRecDepth 100000 in
theorem cw_X9_goesBy : CalW yX9_goesBy cX9_goesBy 4 (Option.none : Option Jvm.ClassFile.FieldType) 2 := ⟨q_1170, q_10, by decide +kernel⟩
set_option maxRecDepth 100000 in
theorem cw_X9_greater : CalW yX9_greater cX9_greater 2 (Option.some Jvm.ClassFile.FieldType.int) 2 := ⟨q_1124, q_10, by decide +kernel⟩
set_option maxRecDepth 100000 in
theorem cw_X9_held : CalW yX9_held cX9_held 3 (Option.some Jvm.ClassFile.FieldType.int) 3 := ⟨q_1044, q_10, by decide +kernel⟩
set_option maxRecDepth 100000 in
theorem cw_X9_here : CalW yX9_here cX9_here 1 (Option.some Jvm.ClassFile.FieldType.int) 0 := ⟨q_1004, q_10, by decide +kernel⟩
set_option maxRecDepth 100000 in
theorem cw_X9_hold : CalW yX9_hold cX9_hold 11 (Option.some Jvm.ClassFile.FieldType.int) 3 := ⟨q_1197, q_10, by decide +kernel⟩
set_option maxRecDepth 100000 in
theorem cw_X9_image : CalW yX9_image cX9_image 1 (Option.some Jvm.ClassFile.FieldType.int) 0 := ⟨q_1292, q_10, by decide +kernel⟩
set_option maxRecDepth 100000 in
theorem cw_X9_in : CalW yX9_in cX9_in 6 (Option.some Jvm.ClassFile.FieldType.boolean) 3 := ⟨q_962, q_10, by decide +kernel⟩
set_option maxRecDepth 100000 in
theorem cw_X9_init : CalW yX9_init cX9_init 1 (Option.none : Option Jvm.ClassFile.FieldType) 0 := ⟨q_880, q_10, by decide +kernel⟩
set_option maxRecDepth 100000 in
theorem cw_X9_isBetter : CalW yX9_isBetter cX9_isBetter 3 (Option.some Jvm.ClassFile.FieldType.boolean) 3 := ⟨q_1193, q_10, by decide +kernel⟩
set_option maxRecDepth 100000 in
theorem cw_X9_isLane : CalW yX9_isLane cX9_isLane 1 (Option.some Jvm.ClassFile.FieldType.boolean) 1 := ⟨q_1051, q_10, by decide +kernel⟩
set_option maxRecDepth 100000 in
theorem cw_X9_isSheet : CalW yX9_isSheet cX9_isSheet 1 (Option.some Jvm.ClassFile.FieldType.boolean) 1 := ⟨q_1272, q_10, by decide +kernel⟩
set_option maxRecDepth 100000 in
theorem cw_X9_isSwimmer : CalW yX9_isSwimmer cX9_isSwimmer 2 (Option.some Jvm.ClassFile.FieldType.boolean) 1 := ⟨q_1087, q_10, by decide +kernel⟩
set_option maxRecDepth 100000 in
theorem cw_X9_judge : CalW yX9_judge cX9_judge 5 (Option.some Jvm.ClassFile.FieldType.int) 2 := ⟨q_1288, q_10, by decide +kernel⟩
set_option maxRecDepth 100000 in
theorem cw_X9_laneIn : CalW yX9_laneIn cX9_laneIn 4 (Option.some Jvm.ClassFile.FieldType.int) 2 := ⟨q_1186, q_10, by decide +kernel⟩
set_option maxRecDepth 100000 in
theorem cw_X9_laneOf : CalW yX9_laneOf cX9_laneOf 3 (Option.some Jvm.ClassFile.FieldType.int) 2 := ⟨q_1137, q_10, by decide +kernel⟩
set_option maxRecDepth 100000 in
theorem cw_X9_law : CalW yX9_law cX9_law 5 (Option.some Jvm.ClassFile.FieldType.int) 4 := ⟨q_1030, q_10, by decide +kernel⟩
set_option maxRecDepth 100000 in
theorem cw_X9_lay : CalW yX9_lay cX9_lay 2 (Option.none : Option Jvm.ClassFile.FieldType) 1 := ⟨q_1016, q_10, by decide +kernel⟩
set_option maxRecDepth 100000 in
theorem cw_X9_leastSight : CalW yX9_leastSight cX9_leastSight 5 (Option.some Jvm.ClassFile.FieldType.int) 2 := ⟨q_1209, q_10, by decide +kernel⟩
set_option maxRecDepth 100000 in
theorem cw_X9_lesser : CalW yX9_lesser cX9_lesser 2 (Option.some Jvm.ClassFile.FieldType.int) 2 := ⟨q_1140, q_10, by decide +kernel⟩
set_option maxRecDepth 100000 in
theorem cw_X9_loose : CalW yX9_loose cX9_loose 3 (Option.some Jvm.ClassFile.FieldType.int) 2 := ⟨q_1175, q_10, by decide +kernel⟩
set_option maxRecDepth 100000 in
theorem cw_X9_meet : CalW yX9_meet cX9_meet 4 (Option.some Jvm.ClassFile.FieldType.int) 3 := ⟨q_1144, q_10, by decide +kernel⟩
set_option maxRecDepth 100000 in
theorem cw_X9_move : CalW yX9_move cX9_move 7 (Option.some Jvm.ClassFile.FieldType.int) 5 := ⟨q_1280, q_10, by decide +kernel⟩
set_option maxRecDepth 100000 in
theorem cw_X9_nameOf : CalW yX9_nameOf cX9_nameOf 2 (Option.some Jvm.ClassFile.FieldType.int) 1 := ⟨q_1024, q_10, by decide +kernel⟩
set_option maxRecDepth 100000 in
theorem cw_X9_of : CalW yX9_of cX9_of 3 (Option.some Jvm.ClassFile.FieldType.int) 2 := ⟨q_1091, q_10, by decide +kernel⟩
set_option maxRecDepth 100000 in
theorem cw_X9_ofSwimmer : CalW yX9_ofSwimmer cX9_ofSwimmer 3 (Option.some Jvm.ClassFile.FieldType.int) 2 := ⟨q_1083, q_10, by decide +kernel⟩
set_option maxRecDepth 100000 in
theorem cw_X9_opens : CalW yX9_opens cX9_opens 2 (Option.none : Option Jvm.ClassFile.FieldType) 1 := ⟨q_1008, q_10, by decide +kernel⟩
set_option maxRecDepth 100000 in
theorem cw_X9_own : CalW yX9_own cX9_own 1 (Option.some Jvm.ClassFile.FieldType.int) 0 := ⟨q_1241, q_10, by decide +kernel⟩
set_option maxRecDepth 100000 in
theorem cw_X9_pace : CalW yX9_pace cX9_pace 3 (Option.some Jvm.ClassFile.FieldType.int) 2 := ⟨q_1116, q_10, by decide +kernel⟩
set_option maxRecDepth 100000 in
theorem cw_X9_paceOf : CalW yX9_paceOf cX9_paceOf 6 (Option.some Jvm.ClassFile.FieldType.int) 2 := ⟨q_1121, q_10, by decide +kernel⟩
set_option maxRecDepth 100000 in
theorem cw_X9_plan : CalW yX9_plan cX9_plan 5 (Option.some Jvm.ClassFile.FieldType.int) 3 := ⟨q_1100, q_10, by decide +kernel⟩
set_option maxRecDepth 100000 in
theorem cw_X9_plans : CalW yX9_plans cX9_plans 6 (Option.none : Option Jvm.ClassFile.FieldType) 5 := ⟨q_1190, q_10, by decide +kernel⟩
set_option maxRecDepth 100000 in
theorem cw_X9_product : CalW yX9_product cX9_product 2 (Option.none : Option Jvm.ClassFile.FieldType) 0 := ⟨q_996, q_10, by decide +kernel⟩
set_option maxRecDepth 100000 in
theorem cw_X9_put : CalW yX9_put cX9_put 4 (Option.some Jvm.ClassFile.FieldType.int) 3 := ⟨q_1276, q_10, by decide +kernel⟩
set_option maxRecDepth 100000 in
theorem cw_X9_ran : CalW yX9_ran cX9_ran 2 (Option.none : Option Jvm.ClassFile.FieldType) 1 := ⟨q_1249, q_10, by decide +kernel⟩
set_option maxRecDepth 100000 in
theorem cw_X9_reads : CalW yX9_reads cX9_reads 4 (Option.none : Option Jvm.ClassFile.FieldType) 3 := ⟨q_976, q_10, by decide +kernel⟩
set_option maxRecDepth 100000 in
theorem cw_X9_restore : CalW yX9_restore cX9_restore 1 (Option.some Jvm.ClassFile.FieldType.int) 0 := ⟨q_1296, q_10, by decide +kernel⟩
set_option maxRecDepth 100000 in
theorem cw_X9_seed : CalW yX9_seed cX9_seed 3 (Option.some Jvm.ClassFile.FieldType.int) 1 := ⟨q_1233, q_10, by decide +kernel⟩
set_option maxRecDepth 100000 in
theorem cw_X9_send : CalW yX9_send cX9_send 5 (Option.some Jvm.ClassFile.FieldType.int) 1 := ⟨q_1213, q_10, by decide +kernel⟩
set_option maxRecDepth 100000 in
theorem cw_X9_set : CalW yX9_set cX9_set 5 (Option.some Jvm.ClassFile.FieldType.int) 2 := ⟨q_1058, q_10, by decide +kernel⟩
set_option maxRecDepth 100000 in
theorem cw_X9_sheet : CalW yX9_sheet cX9_sheet 5 (Option.some Jvm.ClassFile.FieldType.int) 3 := ⟨q_1269, q_10, by decide +kernel⟩
set_option maxRecDepth 100000 in
theorem cw_X9_sum : CalW yX9_sum cX9_sum 2 (Option.none : Option Jvm.ClassFile.FieldType) 0 := ⟨q_992, q_10, by decide +kernel⟩
set_option maxRecDepth 100000 in
theorem cw_X9_swim : CalW yX9_swim cX9_swim 8 (Option.some Jvm.ClassFile.FieldType.boolean) 2 := ⟨q_1153, q_10, by decide +kernel⟩
set_option maxRecDepth 100000 in
theorem cw_X9_swimmer : CalW yX9_swimmer cX9_swimmer 5 (Option.some Jvm.ClassFile.FieldType.int) 2 := ⟨q_1074, q_10, by decide +kernel⟩
set_option maxRecDepth 100000 in
theorem cw_X9_swims : CalW yX9_swims cX9_swims 3 (Option.some Jvm.ClassFile.FieldType.int) 2 := ⟨q_1245, q_10, by decide +kernel⟩
set_option maxRecDepth 100000 in
theorem cw_X9_takes : CalW yX9_takes cX9_takes 2 (Option.some Jvm.ClassFile.FieldType.boolean) 1 := ⟨q_1020, q_10, by decide +kernel⟩
set_option maxRecDepth 100000 in
theorem cw_X9_tell : CalW yX9_tell cX9_tell 2 (Option.some Jvm.ClassFile.FieldType.int) 1 := ⟨q_1300, q_10, by decide +kernel⟩
set_option maxRecDepth 100000 in
theorem cw_X9_tells : CalW yX9_tells cX9_tells 4 (Option.some Jvm.ClassFile.FieldType.int) 2 := ⟨q_1261, q_10, by decide +kernel⟩
set_option maxRecDepth 100000 in
theorem cw_X9_text : CalW yX9_text cX9_text 4 (Option.some Jvm.ClassFile.FieldType.int) 1 := ⟨q_972, q_10, by decide +kernel⟩
set_option maxRecDepth 100000 in
theorem cw_X9_tires : CalW yX9_tires cX9_tires 3 (Option.some Jvm.ClassFile.FieldType.int) 2 := ⟨q_1257, q_10, by decide +kernel⟩
set_option maxRecDepth 100000 in
theorem cw_X9_told : CalW yX9_told cX9_told 2 (Option.some Jvm.ClassFile.FieldType.int) 1 := ⟨q_1312, q_10, by decide +kernel⟩
set_option maxRecDepth 100000 in
theorem cw_X9_trace : CalW yX9_trace cX9_trace 2 (Option.some Jvm.ClassFile.FieldType.int) 1 := ⟨q_1265, q_10, by decide +kernel⟩
set_option maxRecDepth 100000 in
theorem cw_X9_train : CalW yX9_train cX9_train 4 (Option.some Jvm.ClassFile.FieldType.int) 2 := ⟨q_1095, q_10, by decide +kernel⟩
set_option maxRecDepth 100000 in
theorem cw_X9_training : CalW yX9_training cX9_training 8 (Option.some Jvm.ClassFile.FieldType.int) 3 := ⟨q_1221, q_10, by decide +kernel⟩
set_option maxRecDepth 100000 in
theorem cw_X9_unit : CalW yX9_unit cX9_unit 5 (Option.none : Option Jvm.ClassFile.FieldType) 0 := ⟨q_1000, q_10, by decide +kernel⟩
set_option maxRecDepth 100000 in
theorem cw_X9_voice : CalW yX9_voice cX9_voice 5 (Option.some Jvm.ClassFile.FieldType.int) 3 := ⟨q_1237, q_10, by decide +kernel⟩
set_option maxRecDepth 100000 in
theorem cw_X9_where : CalW yX9_where cX9_where 5 (Option.some Jvm.ClassFile.FieldType.int) 2 := ⟨q_1128, q_10, by decide +kernel⟩
set_option maxRecDepth 100000 in
theorem cw_X9_worked : CalW yX9_worked cX9_worked 6 (Option.some Jvm.ClassFile.FieldType.int) 2 := ⟨q_1038, q_10, by decide +kernel⟩
set_option maxRecDepth 100000 in
theorem cw_X9_wrong : CalW yX9_wrong cX9_wrong 1 (Option.none : Option Jvm.ClassFile.FieldType) 0 := ⟨q_1012, q_10, by decide +kernel⟩
set_option maxRecDepth 100000 in
theorem cw_X9_year : CalW yX9_year cX9_year 3 (Option.some Jvm.ClassFile.FieldType.int) 2 := ⟨q_1157, q_10, by decide +kernel⟩
set_option maxRecDepth 100000 in
theorem cw_X9_years : CalW yX9_years cX9_years 4 (Option.some Jvm.ClassFile.FieldType.int) 1 := ⟨q_1284, q_10, by decide +kernel⟩
set_option maxRecDepth 100000 in
theorem sg_2 {k : Nat} (hk : K0 k = 2) : k = 60 := (show ∀ k, k < NC → K0 k = 2 → k = 60 by decide +kernel) k (K0_lt hk (by decide)) hk
set_option maxRecDepth 100000 in
theorem sg_3 {k : Nat} (hk : K0 k = 3) : k = 55 := (show ∀ k, k < NC → K0 k = 3 → k = 55 by decide +kernel) k (K0_lt hk (by decide)) hk
set_option maxRecDepth 100000 in
theorem sg_5 {k : Nat} (hk : K0 k = 5) : k = 58 := (show ∀ k, k < NC → K0 k = 5 → k = 58 by decide +kernel) k (K0_lt hk (by decide)) hk
set_option maxRecDepth 100000 in
theorem sg_7 {k : Nat} (hk : K0 k = 7) : k = 65 := (show ∀ k, k < NC → K0 k = 7 → k = 65 by decide +kernel) k (K0_lt hk (by decide)) hk
set_option maxRecDepth 100000 in
theorem sg_8 {k : Nat} (hk : K0 k = 8) : k = 0 := (show ∀ k, k < NC → K0 k = 8 → k = 0 by decide +kernel) k (K0_lt hk (by decide)) hk
set_option maxRecDepth 100000 in
theorem sg_9 {k : Nat} (hk : K0 k = 9) : k = 81 := (show ∀ k, k < NC → K0 k = 9 → k = 81 by decide +kernel) k (K0_lt hk (by decide)) hk
set_option maxRecDepth 100000 in
theorem retZ : ∀ (ad : Nat → Nat) (nm : String) (v : Option Nat), narrow (.object nm) (va_re ad v) = va_re ad v ∧ fits (.object nm) (va_re ad v) = true := fun ad nm v => by cases v <;> exact ⟨rfl, rfl⟩
