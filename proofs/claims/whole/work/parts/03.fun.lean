def shX : List ob_S := [.inr (6, [some (some 1), some (some 2), some (some 7), some (some 12), some (some 17), some (some 19), some (some 24), some (some 29)]), .inr (3, [some (some 30), none]), .inr (4, [some (some 3), some (some 4), some (some 5), some (some 6), none]), .inl (false, 10), .inl (false, 10), .inl (false, 5), .inl (false, 5), .inr (4, [some (some 8), some (some 9), some (some 10), some (some 11), none]), .inl (false, 10), .inl (false, 10), .inl (false, 5), .inl (false, 5), .inr (4, [some (some 13), some (some 14), some (some 15), some (some 16), none]), .inl (false, 10), .inl (false, 10), .inl (false, 5), .inl (false, 5), .inr (0, [some (some 2), some (some 18), none, none, none, none, none]), .inl (false, 10240), .inr (1, [some (some 2), some (some 20), some (some 21), some (some 22), some (some 23)]), .inl (false, 5), .inl (false, 160), .inl (true, 32), .inl (false, 32), .inr (2, [some (some 2), some (some 25), some (some 26), some (some 27), some (some 28), none]), .inl (false, 10), .inl (false, 1024), .inl (false, 10), .inl (false, 10), .inr (5, [some (some 2), none, none, none, none]), .inl (false, 40)]
theorem shX_0 : shX[0]? = some (.inr (6, [some (some 1), some (some 2), some (some 7), some (some 12), some (some 17), some (some 19), some (some 24), some (some 29)])) := rfl
theorem shX_1 : shX[1]? = some (.inr (3, [some (some 30), none])) := rfl
theorem shX_2 : shX[2]? = some (.inr (4, [some (some 3), some (some 4), some (some 5), some (some 6), none])) := rfl
theorem shX_3 : shX[3]? = some (.inl (false, 10)) := rfl
theorem shX_4 : shX[4]? = some (.inl (false, 10)) := rfl
theorem shX_5 : shX[5]? = some (.inl (false, 5)) := rfl
theorem shX_6 : shX[6]? = some (.inl (false, 5)) := rfl
theorem shX_7 : shX[7]? = some (.inr (4, [some (some 8), some (some 9), some (some 10), some (some 11), none])) := rfl
theorem shX_8 : shX[8]? = some (.inl (false, 10)) := rfl
theorem shX_9 : shX[9]? = some (.inl (false, 10)) := rfl
theorem shX_10 : shX[10]? = some (.inl (false, 5)) := rfl
theorem shX_11 : shX[11]? = some (.inl (false, 5)) := rfl
theorem shX_12 : shX[12]? = some (.inr (4, [some (some 13), some (some 14), some (some 15), some (some 16), none])) := rfl
theorem shX_13 : shX[13]? = some (.inl (false, 10)) := rfl
theorem shX_14 : shX[14]? = some (.inl (false, 10)) := rfl
theorem shX_15 : shX[15]? = some (.inl (false, 5)) := rfl
theorem shX_16 : shX[16]? = some (.inl (false, 5)) := rfl
theorem shX_17 : shX[17]? = some (.inr (0, [some (some 2), some (some 18), none, none, none, none, none])) := rfl
theorem shX_18 : shX[18]? = some (.inl (false, 10240)) := rfl
theorem shX_19 : shX[19]? = some (.inr (1, [some (some 2), some (some 20), some (some 21), some (some 22), some (some 23)])) := rfl
theorem shX_20 : shX[20]? = some (.inl (false, 5)) := rfl
theorem shX_21 : shX[21]? = some (.inl (false, 160)) := rfl
theorem shX_22 : shX[22]? = some (.inl (true, 32)) := rfl
theorem shX_23 : shX[23]? = some (.inl (false, 32)) := rfl
theorem shX_24 : shX[24]? = some (.inr (2, [some (some 2), some (some 25), some (some 26), some (some 27), some (some 28), none])) := rfl
theorem shX_25 : shX[25]? = some (.inl (false, 10)) := rfl
theorem shX_26 : shX[26]? = some (.inl (false, 1024)) := rfl
theorem shX_27 : shX[27]? = some (.inl (false, 10)) := rfl
theorem shX_28 : shX[28]? = some (.inl (false, 10)) := rfl
theorem shX_29 : shX[29]? = some (.inr (5, [some (some 2), none, none, none, none])) := rfl
theorem shX_30 : shX[30]? = some (.inl (false, 40)) := rfl
def shM : List ob_S := [.inr (7, [none, some (some 1), some (some 2), some (some 3), some (some 4), some (some 5), some (some 6), some (some 7), none, some (some 8), some (some 9), some (some 10), some (some 11), some (some 12), some (some 13), some (some 14), some (some 15), some (some 16)]), .inl (false, 40), .inl (false, 10), .inl (false, 10), .inl (false, 5), .inl (false, 5), .inl (false, 20480), .inl (false, 2), .inl (false, 5), .inl (false, 5), .inl (true, 32), .inl (false, 32), .inl (false, 1024), .inl (false, 10), .inl (false, 10240), .inl (false, 60), .inl (true, 2)]
theorem shM_0 : shM[0]? = some (.inr (7, [none, some (some 1), some (some 2), some (some 3), some (some 4), some (some 5), some (some 6), some (some 7), none, some (some 8), some (some 9), some (some 10), some (some 11), some (some 12), some (some 13), some (some 14), some (some 15), some (some 16)])) := rfl
theorem shM_1 : shM[1]? = some (.inl (false, 40)) := rfl
theorem shM_2 : shM[2]? = some (.inl (false, 10)) := rfl
theorem shM_3 : shM[3]? = some (.inl (false, 10)) := rfl
theorem shM_4 : shM[4]? = some (.inl (false, 5)) := rfl
theorem shM_5 : shM[5]? = some (.inl (false, 5)) := rfl
theorem shM_6 : shM[6]? = some (.inl (false, 20480)) := rfl
theorem shM_7 : shM[7]? = some (.inl (false, 2)) := rfl
theorem shM_8 : shM[8]? = some (.inl (false, 5)) := rfl
theorem shM_9 : shM[9]? = some (.inl (false, 5)) := rfl
theorem shM_10 : shM[10]? = some (.inl (true, 32)) := rfl
theorem shM_11 : shM[11]? = some (.inl (false, 32)) := rfl
theorem shM_12 : shM[12]? = some (.inl (false, 1024)) := rfl
theorem shM_13 : shM[13]? = some (.inl (false, 10)) := rfl
theorem shM_14 : shM[14]? = some (.inl (false, 10240)) := rfl
theorem shM_15 : shM[15]? = some (.inl (false, 60)) := rfl
theorem shM_16 : shM[16]? = some (.inl (true, 2)) := rfl
def isTown (b : Nat) : Prop := b = 2 ∨ b = 7 ∨ b = 12
theorem isTown_2 : isTown 2 := Or.inl rfl
theorem isTown_7 : isTown 7 := Or.inr (Or.inl rfl)
theorem isTown_12 : isTown 12 := Or.inr (Or.inr rfl)
theorem shT_0 {b : Nat} (h : isTown b) : shX[b]? = some (.inr (4, [some (some (b + 1)), some (some (b + 2)), some (some (b + 3)), some (some (b + 4)), none])) := by rcases h with rfl | rfl | rfl <;> rfl
theorem shT_1 {b : Nat} (h : isTown b) : shX[b + 1]? = some (.inl (false, 10)) := by rcases h with rfl | rfl | rfl <;> rfl
theorem shT_2 {b : Nat} (h : isTown b) : shX[b + 2]? = some (.inl (false, 10)) := by rcases h with rfl | rfl | rfl <;> rfl
theorem shT_3 {b : Nat} (h : isTown b) : shX[b + 3]? = some (.inl (false, 5)) := by rcases h with rfl | rfl | rfl <;> rfl
theorem shT_4 {b : Nat} (h : isTown b) : shX[b + 4]? = some (.inl (false, 5)) := by rcases h with rfl | rfl | rfl <;> rfl
def nwM : List ob_N := []
def nwX : List ob_N := [(RX6, 9, yX3_init, "OneWorse"), (RX6, 18, yX4_init, "OneWorse"), (RX6, 31, yX0_init, "OneWorse"), (RX6, 40, yX1_init, "OneWorse"), (RX6, 47, yX2_init, "OneWorse"), (RX6, 54, yX5_init, "OneWorse"), (RX6, 63, yX3_isFull, "OneWorse"), (RX6, 67, yX3_put, "OneWorse"), (RX6, 71, yX3_size, "OneWorse"), (RX6, 75, yX3_clear, "OneWorse"), (RX6, 78, yX3_faultAsSteps, "OneWorse"), (RX6, 81, yX3_faultAsQuarrel, "OneWorse"), (RX6, 84, yX3_signAt, "OneWorse"), (RX6, 88, yX3_insultAt, "OneWorse"), (RX6, 91, yX4_setStep, "OneWorse"), (RX6, 95, yX4_countSteps, "OneWorse"), (RX6, 102, yX4_worseThan, "OneWorse"), (RX6, 109, yX4_neededBy, "OneWorse"), (RX6, 112, yX4_setNeeded, "OneWorse"), (RX6, 119, yX4_traitsOf, "OneWorse"), (RX6, 122, yX4_setTraits, "OneWorse"), (RX6, 125, yX4_knownTo, "OneWorse"), (RX6, 128, yX4_setKnown, "OneWorse"), (RX6, 131, yX4_fitting, "OneWorse"), (RX6, 140, yX4_sayable, "OneWorse"), (RX6, 144, yX0_fight, "OneWorse"), (RX6, 152, yX0_spin, "OneWorse"), (RX6, 156, yX0_spun, "OneWorse"), (RX6, 159, yX0_firstMove, "OneWorse"), (RX6, 169, yX1_fewestDays, "OneWorse"), (RX6, 172, yX1_isOneDayEnough, "OneWorse"), (RX6, 175, yX2_inRings, "OneWorse"), (RX6, 178, yX2_tops, "OneWorse"), (RX6, 181, yX2_arrange, "OneWorse"), (RX6, 184, yX2_countStruck, "OneWorse"), (RX6, 187, yX2_struck, "OneWorse"), (RX6, 190, yX5_search, "OneWorse"), (RX6, 193, yX5_count, "OneWorse"), (RX6, 196, yX5_wanted, "OneWorse"), (RX6, 206, yX4_copy, "OneWorse"), (RX6, 209, yX4_isKept, "OneWorse"), (RX6, 212, yX4_addSteps, "OneWorse"), (RX6, 215, yX3_manAt, "OneWorse"), (RX6, 218, yX0_moverPays, "OneWorse"), (RX6, 221, yX0_howMany, "OneWorse"), (RX0, 49, yX6_has, "OneWorse"), (RX0, 59, yX6_at, "OneWorse"), (RX0, 63, yX4_worseThan, "OneWorse"), (RX0, 68, yX6_store, "OneWorse"), (RX1, 41, yX6_store, "OneWorse"), (RX1, 45, yX6_at, "OneWorse"), (RX1, 49, yX4_fitting, "OneWorse"), (RX1, 56, yX6_has, "OneWorse"), (RX1, 67, yX4_knownTo, "OneWorse"), (RX1, 70, yX4_worseThan, "OneWorse"), (RX2, 32, yX4_worseThan, "OneWorse"), (RX2, 38, yX6_store, "OneWorse"), (RX2, 42, yX6_at, "OneWorse"), (RX2, 46, yX6_has, "OneWorse"), (RX3, 19, yX6_at, "OneWorse"), (RX3, 27, yX6_isInsult, "OneWorse"), (RX3, 31, yX6_isMan, "OneWorse"), (RX4, 28, yX6_store, "OneWorse"), (RX4, 32, yX6_at, "OneWorse"), (RX4, 36, yX6_isInsult, "OneWorse"), (RX5, 32, yX4_worseThan, "OneWorse"), (RX5, 38, yX6_has, "OneWorse")]
theorem nw_X6_9 : (RX6, 9, yX3_init, "OneWorse") ∈ nwX := List.mem_of_getElem? (i := 0) rfl
theorem nw_X6_18 : (RX6, 18, yX4_init, "OneWorse") ∈ nwX := List.mem_of_getElem? (i := 1) rfl
theorem nw_X6_31 : (RX6, 31, yX0_init, "OneWorse") ∈ nwX := List.mem_of_getElem? (i := 2) rfl
theorem nw_X6_40 : (RX6, 40, yX1_init, "OneWorse") ∈ nwX := List.mem_of_getElem? (i := 3) rfl
theorem nw_X6_47 : (RX6, 47, yX2_init, "OneWorse") ∈ nwX := List.mem_of_getElem? (i := 4) rfl
theorem nw_X6_54 : (RX6, 54, yX5_init, "OneWorse") ∈ nwX := List.mem_of_getElem? (i := 5) rfl
theorem nw_X6_63 : (RX6, 63, yX3_isFull, "OneWorse") ∈ nwX := List.mem_of_getElem? (i := 6) rfl
theorem nw_X6_67 : (RX6, 67, yX3_put, "OneWorse") ∈ nwX := List.mem_of_getElem? (i := 7) rfl
theorem nw_X6_71 : (RX6, 71, yX3_size, "OneWorse") ∈ nwX := List.mem_of_getElem? (i := 8) rfl
theorem nw_X6_75 : (RX6, 75, yX3_clear, "OneWorse") ∈ nwX := List.mem_of_getElem? (i := 9) rfl
theorem nw_X6_78 : (RX6, 78, yX3_faultAsSteps, "OneWorse") ∈ nwX := List.mem_of_getElem? (i := 10) rfl
theorem nw_X6_81 : (RX6, 81, yX3_faultAsQuarrel, "OneWorse") ∈ nwX := List.mem_of_getElem? (i := 11) rfl
theorem nw_X6_84 : (RX6, 84, yX3_signAt, "OneWorse") ∈ nwX := List.mem_of_getElem? (i := 12) rfl
theorem nw_X6_88 : (RX6, 88, yX3_insultAt, "OneWorse") ∈ nwX := List.mem_of_getElem? (i := 13) rfl
theorem nw_X6_91 : (RX6, 91, yX4_setStep, "OneWorse") ∈ nwX := List.mem_of_getElem? (i := 14) rfl
theorem nw_X6_95 : (RX6, 95, yX4_countSteps, "OneWorse") ∈ nwX := List.mem_of_getElem? (i := 15) rfl
theorem nw_X6_102 : (RX6, 102, yX4_worseThan, "OneWorse") ∈ nwX := List.mem_of_getElem? (i := 16) rfl
theorem nw_X6_109 : (RX6, 109, yX4_neededBy, "OneWorse") ∈ nwX := List.mem_of_getElem? (i := 17) rfl
theorem nw_X6_112 : (RX6, 112, yX4_setNeeded, "OneWorse") ∈ nwX := List.mem_of_getElem? (i := 18) rfl
theorem nw_X6_119 : (RX6, 119, yX4_traitsOf, "OneWorse") ∈ nwX := List.mem_of_getElem? (i := 19) rfl
theorem nw_X6_122 : (RX6, 122, yX4_setTraits, "OneWorse") ∈ nwX := List.mem_of_getElem? (i := 20) rfl
theorem nw_X6_125 : (RX6, 125, yX4_knownTo, "OneWorse") ∈ nwX := List.mem_of_getElem? (i := 21) rfl
theorem nw_X6_128 : (RX6, 128, yX4_setKnown, "OneWorse") ∈ nwX := List.mem_of_getElem? (i := 22) rfl
theorem nw_X6_131 : (RX6, 131, yX4_fitting, "OneWorse") ∈ nwX := List.mem_of_getElem? (i := 23) rfl
theorem nw_X6_140 : (RX6, 140, yX4_sayable, "OneWorse") ∈ nwX := List.mem_of_getElem? (i := 24) rfl
theorem nw_X6_144 : (RX6, 144, yX0_fight, "OneWorse") ∈ nwX := List.mem_of_getElem? (i := 25) rfl
theorem nw_X6_152 : (RX6, 152, yX0_spin, "OneWorse") ∈ nwX := List.mem_of_getElem? (i := 26) rfl
theorem nw_X6_156 : (RX6, 156, yX0_spun, "OneWorse") ∈ nwX := List.mem_of_getElem? (i := 27) rfl
theorem nw_X6_159 : (RX6, 159, yX0_firstMove, "OneWorse") ∈ nwX := List.mem_of_getElem? (i := 28) rfl
theorem nw_X6_169 : (RX6, 169, yX1_fewestDays, "OneWorse") ∈ nwX := List.mem_of_getElem? (i := 29) rfl
theorem nw_X6_172 : (RX6, 172, yX1_isOneDayEnough, "OneWorse") ∈ nwX := List.mem_of_getElem? (i := 30) rfl
theorem nw_X6_175 : (RX6, 175, yX2_inRings, "OneWorse") ∈ nwX := List.mem_of_getElem? (i := 31) rfl
theorem nw_X6_178 : (RX6, 178, yX2_tops, "OneWorse") ∈ nwX := List.mem_of_getElem? (i := 32) rfl
theorem nw_X6_181 : (RX6, 181, yX2_arrange, "OneWorse") ∈ nwX := List.mem_of_getElem? (i := 33) rfl
theorem nw_X6_184 : (RX6, 184, yX2_countStruck, "OneWorse") ∈ nwX := List.mem_of_getElem? (i := 34) rfl
theorem nw_X6_187 : (RX6, 187, yX2_struck, "OneWorse") ∈ nwX := List.mem_of_getElem? (i := 35) rfl
theorem nw_X6_190 : (RX6, 190, yX5_search, "OneWorse") ∈ nwX := List.mem_of_getElem? (i := 36) rfl
theorem nw_X6_193 : (RX6, 193, yX5_count, "OneWorse") ∈ nwX := List.mem_of_getElem? (i := 37) rfl
theorem nw_X6_196 : (RX6, 196, yX5_wanted, "OneWorse") ∈ nwX := List.mem_of_getElem? (i := 38) rfl
theorem nw_X6_206 : (RX6, 206, yX4_copy, "OneWorse") ∈ nwX := List.mem_of_getElem? (i := 39) rfl
theorem nw_X6_209 : (RX6, 209, yX4_isKept, "OneWorse") ∈ nwX := List.mem_of_getElem? (i := 40) rfl
theorem nw_X6_212 : (RX6, 212, yX4_addSteps, "OneWorse") ∈ nwX := List.mem_of_getElem? (i := 41) rfl
theorem nw_X6_215 : (RX6, 215, yX3_manAt, "OneWorse") ∈ nwX := List.mem_of_getElem? (i := 42) rfl
theorem nw_X6_218 : (RX6, 218, yX0_moverPays, "OneWorse") ∈ nwX := List.mem_of_getElem? (i := 43) rfl
theorem nw_X6_221 : (RX6, 221, yX0_howMany, "OneWorse") ∈ nwX := List.mem_of_getElem? (i := 44) rfl
theorem nw_X0_49 : (RX0, 49, yX6_has, "OneWorse") ∈ nwX := List.mem_of_getElem? (i := 45) rfl
theorem nw_X0_59 : (RX0, 59, yX6_at, "OneWorse") ∈ nwX := List.mem_of_getElem? (i := 46) rfl
theorem nw_X0_63 : (RX0, 63, yX4_worseThan, "OneWorse") ∈ nwX := List.mem_of_getElem? (i := 47) rfl
theorem nw_X0_68 : (RX0, 68, yX6_store, "OneWorse") ∈ nwX := List.mem_of_getElem? (i := 48) rfl
theorem nw_X1_41 : (RX1, 41, yX6_store, "OneWorse") ∈ nwX := List.mem_of_getElem? (i := 49) rfl
theorem nw_X1_45 : (RX1, 45, yX6_at, "OneWorse") ∈ nwX := List.mem_of_getElem? (i := 50) rfl
theorem nw_X1_49 : (RX1, 49, yX4_fitting, "OneWorse") ∈ nwX := List.mem_of_getElem? (i := 51) rfl
theorem nw_X1_56 : (RX1, 56, yX6_has, "OneWorse") ∈ nwX := List.mem_of_getElem? (i := 52) rfl
theorem nw_X1_67 : (RX1, 67, yX4_knownTo, "OneWorse") ∈ nwX := List.mem_of_getElem? (i := 53) rfl
theorem nw_X1_70 : (RX1, 70, yX4_worseThan, "OneWorse") ∈ nwX := List.mem_of_getElem? (i := 54) rfl
theorem nw_X2_32 : (RX2, 32, yX4_worseThan, "OneWorse") ∈ nwX := List.mem_of_getElem? (i := 55) rfl
theorem nw_X2_38 : (RX2, 38, yX6_store, "OneWorse") ∈ nwX := List.mem_of_getElem? (i := 56) rfl
theorem nw_X2_42 : (RX2, 42, yX6_at, "OneWorse") ∈ nwX := List.mem_of_getElem? (i := 57) rfl
theorem nw_X2_46 : (RX2, 46, yX6_has, "OneWorse") ∈ nwX := List.mem_of_getElem? (i := 58) rfl
theorem nw_X3_19 : (RX3, 19, yX6_at, "OneWorse") ∈ nwX := List.mem_of_getElem? (i := 59) rfl
theorem nw_X3_27 : (RX3, 27, yX6_isInsult, "OneWorse") ∈ nwX := List.mem_of_getElem? (i := 60) rfl
theorem nw_X3_31 : (RX3, 31, yX6_isMan, "OneWorse") ∈ nwX := List.mem_of_getElem? (i := 61) rfl
theorem nw_X4_28 : (RX4, 28, yX6_store, "OneWorse") ∈ nwX := List.mem_of_getElem? (i := 62) rfl
theorem nw_X4_32 : (RX4, 32, yX6_at, "OneWorse") ∈ nwX := List.mem_of_getElem? (i := 63) rfl
theorem nw_X4_36 : (RX4, 36, yX6_isInsult, "OneWorse") ∈ nwX := List.mem_of_getElem? (i := 64) rfl
theorem nw_X5_32 : (RX5, 32, yX4_worseThan, "OneWorse") ∈ nwX := List.mem_of_getElem? (i := 65) rfl
theorem nw_X5_38 : (RX5, 38, yX6_has, "OneWorse") ∈ nwX := List.mem_of_getElem? (i := 66) rfl
theorem hd_X6_say : yX6_say.cls ≠ "java/lang/invoke/MethodHandle" ∧ yX6_say.cls ≠ "java/lang/invoke/VarHandle" ∧ (parseMethodDescriptor yX6_say.desc).map (fun d => d.parameters.length) = some 1 := by decide +kernel
theorem hd_X6_wipe : yX6_wipe.cls ≠ "java/lang/invoke/MethodHandle" ∧ yX6_wipe.cls ≠ "java/lang/invoke/VarHandle" ∧ (parseMethodDescriptor yX6_wipe.desc).map (fun d => d.parameters.length) = some 0 := by decide +kernel
theorem hd_X6_fault : yX6_fault.cls ≠ "java/lang/invoke/MethodHandle" ∧ yX6_fault.cls ≠ "java/lang/invoke/VarHandle" ∧ (parseMethodDescriptor yX6_fault.desc).map (fun d => d.parameters.length) = some 1 := by decide +kernel
theorem hd_X6_steps : yX6_steps.cls ≠ "java/lang/invoke/MethodHandle" ∧ yX6_steps.cls ≠ "java/lang/invoke/VarHandle" ∧ (parseMethodDescriptor yX6_steps.desc).map (fun d => d.parameters.length) = some 0 := by decide +kernel
theorem hd_X6_step : yX6_step.cls ≠ "java/lang/invoke/MethodHandle" ∧ yX6_step.cls ≠ "java/lang/invoke/VarHandle" ∧ (parseMethodDescriptor yX6_step.desc).map (fun d => d.parameters.length) = some 3 := by decide +kernel
theorem hd_X6_needs : yX6_needs.cls ≠ "java/lang/invoke/MethodHandle" ∧ yX6_needs.cls ≠ "java/lang/invoke/VarHandle" ∧ (parseMethodDescriptor yX6_needs.desc).map (fun d => d.parameters.length) = some 2 := by decide +kernel
theorem hd_X6_man : yX6_man.cls ≠ "java/lang/invoke/MethodHandle" ∧ yX6_man.cls ≠ "java/lang/invoke/VarHandle" ∧ (parseMethodDescriptor yX6_man.desc).map (fun d => d.parameters.length) = some 3 := by decide +kernel
theorem hd_X6_fit : yX6_fit.cls ≠ "java/lang/invoke/MethodHandle" ∧ yX6_fit.cls ≠ "java/lang/invoke/VarHandle" ∧ (parseMethodDescriptor yX6_fit.desc).map (fun d => d.parameters.length) = some 1 := by decide +kernel
theorem hd_X6_judge : yX6_judge.cls ≠ "java/lang/invoke/MethodHandle" ∧ yX6_judge.cls ≠ "java/lang/invoke/VarHandle" ∧ (parseMethodDescriptor yX6_judge.desc).map (fun d => d.parameters.length) = some 1 := by decide +kernel
theorem hd_X6_match : yX6_match.cls ≠ "java/lang/invoke/MethodHandle" ∧ yX6_match.cls ≠ "java/lang/invoke/VarHandle" ∧ (parseMethodDescriptor yX6_match.desc).map (fun d => d.parameters.length) = some 3 := by decide +kernel
theorem hd_X6_middle : yX6_middle.cls ≠ "java/lang/invoke/MethodHandle" ∧ yX6_middle.cls ≠ "java/lang/invoke/VarHandle" ∧ (parseMethodDescriptor yX6_middle.desc).map (fun d => d.parameters.length) = some 5 := by decide +kernel
theorem hd_X6_last : yX6_last.cls ≠ "java/lang/invoke/MethodHandle" ∧ yX6_last.cls ≠ "java/lang/invoke/VarHandle" ∧ (parseMethodDescriptor yX6_last.desc).map (fun d => d.parameters.length) = some 3 := by decide +kernel
theorem hd_X6_sent : yX6_sent.cls ≠ "java/lang/invoke/MethodHandle" ∧ yX6_sent.cls ≠ "java/lang/invoke/VarHandle" ∧ (parseMethodDescriptor yX6_sent.desc).map (fun d => d.parameters.length) = some 2 := by decide +kernel
theorem hd_X6_safe : yX6_safe.cls ≠ "java/lang/invoke/MethodHandle" ∧ yX6_safe.cls ≠ "java/lang/invoke/VarHandle" ∧ (parseMethodDescriptor yX6_safe.desc).map (fun d => d.parameters.length) = some 1 := by decide +kernel
theorem hd_X6_worth : yX6_worth.cls ≠ "java/lang/invoke/MethodHandle" ∧ yX6_worth.cls ≠ "java/lang/invoke/VarHandle" ∧ (parseMethodDescriptor yX6_worth.desc).map (fun d => d.parameters.length) = some 2 := by decide +kernel
theorem hd_X6_crowd : yX6_crowd.cls ≠ "java/lang/invoke/MethodHandle" ∧ yX6_crowd.cls ≠ "java/lang/invoke/VarHandle" ∧ (parseMethodDescriptor yX6_crowd.desc).map (fun d => d.parameters.length) = some 2 := by decide +kernel
theorem hd_X6_rings : yX6_rings.cls ≠ "java/lang/invoke/MethodHandle" ∧ yX6_rings.cls ≠ "java/lang/invoke/VarHandle" ∧ (parseMethodDescriptor yX6_rings.desc).map (fun d => d.parameters.length) = some 1 := by decide +kernel
theorem hd_X6_ladder : yX6_ladder.cls ≠ "java/lang/invoke/MethodHandle" ∧ yX6_ladder.cls ≠ "java/lang/invoke/VarHandle" ∧ (parseMethodDescriptor yX6_ladder.desc).map (fun d => d.parameters.length) = some 1 := by decide +kernel
theorem hd_X6_between : yX6_between.cls ≠ "java/lang/invoke/MethodHandle" ∧ yX6_between.cls ≠ "java/lang/invoke/VarHandle" ∧ (parseMethodDescriptor yX6_between.desc).map (fun d => d.parameters.length) = some 4 := by decide +kernel
theorem hd_X6_high : yX6_high.cls ≠ "java/lang/invoke/MethodHandle" ∧ yX6_high.cls ≠ "java/lang/invoke/VarHandle" ∧ (parseMethodDescriptor yX6_high.desc).map (fun d => d.parameters.length) = some 1 := by decide +kernel
theorem hd_X6_image : yX6_image.cls ≠ "java/lang/invoke/MethodHandle" ∧ yX6_image.cls ≠ "java/lang/invoke/VarHandle" ∧ (parseMethodDescriptor yX6_image.desc).map (fun d => d.parameters.length) = some 1 := by decide +kernel
theorem hd_X6_restore : yX6_restore.cls ≠ "java/lang/invoke/MethodHandle" ∧ yX6_restore.cls ≠ "java/lang/invoke/VarHandle" ∧ (parseMethodDescriptor yX6_restore.desc).map (fun d => d.parameters.length) = some 1 := by decide +kernel
theorem hd_X6_join : yX6_join.cls ≠ "java/lang/invoke/MethodHandle" ∧ yX6_join.cls ≠ "java/lang/invoke/VarHandle" ∧ (parseMethodDescriptor yX6_join.desc).map (fun d => d.parameters.length) = some 1 := by decide +kernel
theorem hd_X6_told : yX6_told.cls ≠ "java/lang/invoke/MethodHandle" ∧ yX6_told.cls ≠ "java/lang/invoke/VarHandle" ∧ (parseMethodDescriptor yX6_told.desc).map (fun d => d.parameters.length) = some 1 := by decide +kernel
theorem hd_X6_within : yX6_within.cls ≠ "java/lang/invoke/MethodHandle" ∧ yX6_within.cls ≠ "java/lang/invoke/VarHandle" ∧ (parseMethodDescriptor yX6_within.desc).map (fun d => d.parameters.length) = some 3 := by decide +kernel
theorem hd_X6_isInsult : yX6_isInsult.cls ≠ "java/lang/invoke/MethodHandle" ∧ yX6_isInsult.cls ≠ "java/lang/invoke/VarHandle" ∧ (parseMethodDescriptor yX6_isInsult.desc).map (fun d => d.parameters.length) = some 1 := by decide +kernel
theorem hd_X6_isMan : yX6_isMan.cls ≠ "java/lang/invoke/MethodHandle" ∧ yX6_isMan.cls ≠ "java/lang/invoke/VarHandle" ∧ (parseMethodDescriptor yX6_isMan.desc).map (fun d => d.parameters.length) = some 1 := by decide +kernel
theorem hd_X6_areTwo : yX6_areTwo.cls ≠ "java/lang/invoke/MethodHandle" ∧ yX6_areTwo.cls ≠ "java/lang/invoke/VarHandle" ∧ (parseMethodDescriptor yX6_areTwo.desc).map (fun d => d.parameters.length) = some 2 := by decide +kernel
theorem hd_X6_isImage : yX6_isImage.cls ≠ "java/lang/invoke/MethodHandle" ∧ yX6_isImage.cls ≠ "java/lang/invoke/VarHandle" ∧ (parseMethodDescriptor yX6_isImage.desc).map (fun d => d.parameters.length) = some 1 := by decide +kernel
theorem hd_X6_has : yX6_has.cls ≠ "java/lang/invoke/MethodHandle" ∧ yX6_has.cls ≠ "java/lang/invoke/VarHandle" ∧ (parseMethodDescriptor yX6_has.desc).map (fun d => d.parameters.length) = some 2 := by decide +kernel
theorem hd_X6_at : yX6_at.cls ≠ "java/lang/invoke/MethodHandle" ∧ yX6_at.cls ≠ "java/lang/invoke/VarHandle" ∧ (parseMethodDescriptor yX6_at.desc).map (fun d => d.parameters.length) = some 2 := by decide +kernel
theorem hd_X6_store : yX6_store.cls ≠ "java/lang/invoke/MethodHandle" ∧ yX6_store.cls ≠ "java/lang/invoke/VarHandle" ∧ (parseMethodDescriptor yX6_store.desc).map (fun d => d.parameters.length) = some 3 := by decide +kernel
theorem hd_X6_imageOf : yX6_imageOf.cls ≠ "java/lang/invoke/MethodHandle" ∧ yX6_imageOf.cls ≠ "java/lang/invoke/VarHandle" ∧ (parseMethodDescriptor yX6_imageOf.desc).map (fun d => d.parameters.length) = some 1 := by decide +kernel
theorem hd_X6_whyNone : yX6_whyNone.cls ≠ "java/lang/invoke/MethodHandle" ∧ yX6_whyNone.cls ≠ "java/lang/invoke/VarHandle" ∧ (parseMethodDescriptor yX6_whyNone.desc).map (fun d => d.parameters.length) = some 1 := by decide +kernel
theorem hd_X6_outcome : yX6_outcome.cls ≠ "java/lang/invoke/MethodHandle" ∧ yX6_outcome.cls ≠ "java/lang/invoke/VarHandle" ∧ (parseMethodDescriptor yX6_outcome.desc).map (fun d => d.parameters.length) = some 3 := by decide +kernel
theorem hd_X6_comesOff : yX6_comesOff.cls ≠ "java/lang/invoke/MethodHandle" ∧ yX6_comesOff.cls ≠ "java/lang/invoke/VarHandle" ∧ (parseMethodDescriptor yX6_comesOff.desc).map (fun d => d.parameters.length) = some 4 := by decide +kernel
theorem hd_X6_goodMatches : yX6_goodMatches.cls ≠ "java/lang/invoke/MethodHandle" ∧ yX6_goodMatches.cls ≠ "java/lang/invoke/VarHandle" ∧ (parseMethodDescriptor yX6_goodMatches.desc).map (fun d => d.parameters.length) = some 2 := by decide +kernel
theorem hd_X7_in : yX7_in.cls ≠ "java/lang/invoke/MethodHandle" ∧ yX7_in.cls ≠ "java/lang/invoke/VarHandle" ∧ (parseMethodDescriptor yX7_in.desc).map (fun d => d.parameters.length) = some 3 := by decide +kernel
theorem hd_X7_has : yX7_has.cls ≠ "java/lang/invoke/MethodHandle" ∧ yX7_has.cls ≠ "java/lang/invoke/VarHandle" ∧ (parseMethodDescriptor yX7_has.desc).map (fun d => d.parameters.length) = some 2 := by decide +kernel
theorem hd_X7_bits : yX7_bits.cls ≠ "java/lang/invoke/MethodHandle" ∧ yX7_bits.cls ≠ "java/lang/invoke/VarHandle" ∧ (parseMethodDescriptor yX7_bits.desc).map (fun d => d.parameters.length) = some 1 := by decide +kernel
theorem hd_X7_isInsult : yX7_isInsult.cls ≠ "java/lang/invoke/MethodHandle" ∧ yX7_isInsult.cls ≠ "java/lang/invoke/VarHandle" ∧ (parseMethodDescriptor yX7_isInsult.desc).map (fun d => d.parameters.length) = some 1 := by decide +kernel
theorem hd_X7_isMan : yX7_isMan.cls ≠ "java/lang/invoke/MethodHandle" ∧ yX7_isMan.cls ≠ "java/lang/invoke/VarHandle" ∧ (parseMethodDescriptor yX7_isMan.desc).map (fun d => d.parameters.length) = some 1 := by decide +kernel
theorem hd_X7_areTwo : yX7_areTwo.cls ≠ "java/lang/invoke/MethodHandle" ∧ yX7_areTwo.cls ≠ "java/lang/invoke/VarHandle" ∧ (parseMethodDescriptor yX7_areTwo.desc).map (fun d => d.parameters.length) = some 2 := by decide +kernel
theorem hd_X7_say : yX7_say.cls ≠ "java/lang/invoke/MethodHandle" ∧ yX7_say.cls ≠ "java/lang/invoke/VarHandle" ∧ (parseMethodDescriptor yX7_say.desc).map (fun d => d.parameters.length) = some 1 := by decide +kernel
theorem hd_X7_wipe : yX7_wipe.cls ≠ "java/lang/invoke/MethodHandle" ∧ yX7_wipe.cls ≠ "java/lang/invoke/VarHandle" ∧ (parseMethodDescriptor yX7_wipe.desc).map (fun d => d.parameters.length) = some 0 := by decide +kernel
theorem hd_X7_isName : yX7_isName.cls ≠ "java/lang/invoke/MethodHandle" ∧ yX7_isName.cls ≠ "java/lang/invoke/VarHandle" ∧ (parseMethodDescriptor yX7_isName.desc).map (fun d => d.parameters.length) = some 1 := by decide +kernel
theorem hd_X7_stepsFault : yX7_stepsFault.cls ≠ "java/lang/invoke/MethodHandle" ∧ yX7_stepsFault.cls ≠ "java/lang/invoke/VarHandle" ∧ (parseMethodDescriptor yX7_stepsFault.desc).map (fun d => d.parameters.length) = some 0 := by decide +kernel
theorem hd_X7_quarrelFault : yX7_quarrelFault.cls ≠ "java/lang/invoke/MethodHandle" ∧ yX7_quarrelFault.cls ≠ "java/lang/invoke/VarHandle" ∧ (parseMethodDescriptor yX7_quarrelFault.desc).map (fun d => d.parameters.length) = some 0 := by decide +kernel
theorem hd_X7_fault : yX7_fault.cls ≠ "java/lang/invoke/MethodHandle" ∧ yX7_fault.cls ≠ "java/lang/invoke/VarHandle" ∧ (parseMethodDescriptor yX7_fault.desc).map (fun d => d.parameters.length) = some 1 := by decide +kernel
theorem hd_X7_allSteps : yX7_allSteps.cls ≠ "java/lang/invoke/MethodHandle" ∧ yX7_allSteps.cls ≠ "java/lang/invoke/VarHandle" ∧ (parseMethodDescriptor yX7_allSteps.desc).map (fun d => d.parameters.length) = some 0 := by decide +kernel
theorem hd_X7_steps : yX7_steps.cls ≠ "java/lang/invoke/MethodHandle" ∧ yX7_steps.cls ≠ "java/lang/invoke/VarHandle" ∧ (parseMethodDescriptor yX7_steps.desc).map (fun d => d.parameters.length) = some 0 := by decide +kernel
theorem hd_X7_step : yX7_step.cls ≠ "java/lang/invoke/MethodHandle" ∧ yX7_step.cls ≠ "java/lang/invoke/VarHandle" ∧ (parseMethodDescriptor yX7_step.desc).map (fun d => d.parameters.length) = some 3 := by decide +kernel
theorem hd_X7_needs : yX7_needs.cls ≠ "java/lang/invoke/MethodHandle" ∧ yX7_needs.cls ≠ "java/lang/invoke/VarHandle" ∧ (parseMethodDescriptor yX7_needs.desc).map (fun d => d.parameters.length) = some 2 := by decide +kernel
theorem hd_X7_man : yX7_man.cls ≠ "java/lang/invoke/MethodHandle" ∧ yX7_man.cls ≠ "java/lang/invoke/VarHandle" ∧ (parseMethodDescriptor yX7_man.desc).map (fun d => d.parameters.length) = some 3 := by decide +kernel
theorem hd_X7_fitOf : yX7_fitOf.cls ≠ "java/lang/invoke/MethodHandle" ∧ yX7_fitOf.cls ≠ "java/lang/invoke/VarHandle" ∧ (parseMethodDescriptor yX7_fitOf.desc).map (fun d => d.parameters.length) = some 1 := by decide +kernel
theorem hd_X7_fit : yX7_fit.cls ≠ "java/lang/invoke/MethodHandle" ∧ yX7_fit.cls ≠ "java/lang/invoke/VarHandle" ∧ (parseMethodDescriptor yX7_fit.desc).map (fun d => d.parameters.length) = some 1 := by decide +kernel
theorem hd_X7_whyNot : yX7_whyNot.cls ≠ "java/lang/invoke/MethodHandle" ∧ yX7_whyNot.cls ≠ "java/lang/invoke/VarHandle" ∧ (parseMethodDescriptor yX7_whyNot.desc).map (fun d => d.parameters.length) = some 1 := by decide +kernel
theorem hd_X7_judge : yX7_judge.cls ≠ "java/lang/invoke/MethodHandle" ∧ yX7_judge.cls ≠ "java/lang/invoke/VarHandle" ∧ (parseMethodDescriptor yX7_judge.desc).map (fun d => d.parameters.length) = some 1 := by decide +kernel
theorem hd_X7_at : yX7_at.cls ≠ "java/lang/invoke/MethodHandle" ∧ yX7_at.cls ≠ "java/lang/invoke/VarHandle" ∧ (parseMethodDescriptor yX7_at.desc).map (fun d => d.parameters.length) = some 3 := by decide +kernel
theorem hd_X7_isBetter : yX7_isBetter.cls ≠ "java/lang/invoke/MethodHandle" ∧ yX7_isBetter.cls ≠ "java/lang/invoke/VarHandle" ∧ (parseMethodDescriptor yX7_isBetter.desc).map (fun d => d.parameters.length) = some 3 := by decide +kernel
theorem hd_X7_bestOf : yX7_bestOf.cls ≠ "java/lang/invoke/MethodHandle" ∧ yX7_bestOf.cls ≠ "java/lang/invoke/VarHandle" ∧ (parseMethodDescriptor yX7_bestOf.desc).map (fun d => d.parameters.length) = some 3 := by decide +kernel
theorem hd_X7_layMatch : yX7_layMatch.cls ≠ "java/lang/invoke/MethodHandle" ∧ yX7_layMatch.cls ≠ "java/lang/invoke/VarHandle" ∧ (parseMethodDescriptor yX7_layMatch.desc).map (fun d => d.parameters.length) = some 2 := by decide +kernel
theorem hd_X7_toldOf : yX7_toldOf.cls ≠ "java/lang/invoke/MethodHandle" ∧ yX7_toldOf.cls ≠ "java/lang/invoke/VarHandle" ∧ (parseMethodDescriptor yX7_toldOf.desc).map (fun d => d.parameters.length) = some 5 := by decide +kernel
theorem hd_X7_match : yX7_match.cls ≠ "java/lang/invoke/MethodHandle" ∧ yX7_match.cls ≠ "java/lang/invoke/VarHandle" ∧ (parseMethodDescriptor yX7_match.desc).map (fun d => d.parameters.length) = some 3 := by decide +kernel
theorem hd_X7_middle : yX7_middle.cls ≠ "java/lang/invoke/MethodHandle" ∧ yX7_middle.cls ≠ "java/lang/invoke/VarHandle" ∧ (parseMethodDescriptor yX7_middle.desc).map (fun d => d.parameters.length) = some 5 := by decide +kernel
theorem hd_X7_last : yX7_last.cls ≠ "java/lang/invoke/MethodHandle" ∧ yX7_last.cls ≠ "java/lang/invoke/VarHandle" ∧ (parseMethodDescriptor yX7_last.desc).map (fun d => d.parameters.length) = some 3 := by decide +kernel
theorem hd_X7_payer : yX7_payer.cls ≠ "java/lang/invoke/MethodHandle" ∧ yX7_payer.cls ≠ "java/lang/invoke/VarHandle" ∧ (parseMethodDescriptor yX7_payer.desc).map (fun d => d.parameters.length) = some 2 := by decide +kernel
theorem hd_X7_sent : yX7_sent.cls ≠ "java/lang/invoke/MethodHandle" ∧ yX7_sent.cls ≠ "java/lang/invoke/VarHandle" ∧ (parseMethodDescriptor yX7_sent.desc).map (fun d => d.parameters.length) = some 2 := by decide +kernel
theorem hd_X7_safe : yX7_safe.cls ≠ "java/lang/invoke/MethodHandle" ∧ yX7_safe.cls ≠ "java/lang/invoke/VarHandle" ∧ (parseMethodDescriptor yX7_safe.desc).map (fun d => d.parameters.length) = some 1 := by decide +kernel
theorem hd_X7_freeMatches : yX7_freeMatches.cls ≠ "java/lang/invoke/MethodHandle" ∧ yX7_freeMatches.cls ≠ "java/lang/invoke/VarHandle" ∧ (parseMethodDescriptor yX7_freeMatches.desc).map (fun d => d.parameters.length) = some 1 := by decide +kernel
theorem hd_X7_worth : yX7_worth.cls ≠ "java/lang/invoke/MethodHandle" ∧ yX7_worth.cls ≠ "java/lang/invoke/VarHandle" ∧ (parseMethodDescriptor yX7_worth.desc).map (fun d => d.parameters.length) = some 2 := by decide +kernel
theorem hd_X7_fitsAt : yX7_fitsAt.cls ≠ "java/lang/invoke/MethodHandle" ∧ yX7_fitsAt.cls ≠ "java/lang/invoke/VarHandle" ∧ (parseMethodDescriptor yX7_fitsAt.desc).map (fun d => d.parameters.length) = some 2 := by decide +kernel
theorem hd_X7_canSay : yX7_canSay.cls ≠ "java/lang/invoke/MethodHandle" ∧ yX7_canSay.cls ≠ "java/lang/invoke/VarHandle" ∧ (parseMethodDescriptor yX7_canSay.desc).map (fun d => d.parameters.length) = some 1 := by decide +kernel
theorem hd_X7_layRow : yX7_layRow.cls ≠ "java/lang/invoke/MethodHandle" ∧ yX7_layRow.cls ≠ "java/lang/invoke/VarHandle" ∧ (parseMethodDescriptor yX7_layRow.desc).map (fun d => d.parameters.length) = some 3 := by decide +kernel
theorem hd_X7_layDay : yX7_layDay.cls ≠ "java/lang/invoke/MethodHandle" ∧ yX7_layDay.cls ≠ "java/lang/invoke/VarHandle" ∧ (parseMethodDescriptor yX7_layDay.desc).map (fun d => d.parameters.length) = some 1 := by decide +kernel
theorem hd_X7_crowd : yX7_crowd.cls ≠ "java/lang/invoke/MethodHandle" ∧ yX7_crowd.cls ≠ "java/lang/invoke/VarHandle" ∧ (parseMethodDescriptor yX7_crowd.desc).map (fun d => d.parameters.length) = some 2 := by decide +kernel
theorem hd_X7_reachOf : yX7_reachOf.cls ≠ "java/lang/invoke/MethodHandle" ∧ yX7_reachOf.cls ≠ "java/lang/invoke/VarHandle" ∧ (parseMethodDescriptor yX7_reachOf.desc).map (fun d => d.parameters.length) = some 1 := by decide +kernel
theorem hd_X7_rings : yX7_rings.cls ≠ "java/lang/invoke/MethodHandle" ∧ yX7_rings.cls ≠ "java/lang/invoke/VarHandle" ∧ (parseMethodDescriptor yX7_rings.desc).map (fun d => d.parameters.length) = some 1 := by decide +kernel
theorem hd_X7_ladder : yX7_ladder.cls ≠ "java/lang/invoke/MethodHandle" ∧ yX7_ladder.cls ≠ "java/lang/invoke/VarHandle" ∧ (parseMethodDescriptor yX7_ladder.desc).map (fun d => d.parameters.length) = some 1 := by decide +kernel
theorem hd_X7_between : yX7_between.cls ≠ "java/lang/invoke/MethodHandle" ∧ yX7_between.cls ≠ "java/lang/invoke/VarHandle" ∧ (parseMethodDescriptor yX7_between.desc).map (fun d => d.parameters.length) = some 4 := by decide +kernel
theorem hd_X7_high : yX7_high.cls ≠ "java/lang/invoke/MethodHandle" ∧ yX7_high.cls ≠ "java/lang/invoke/VarHandle" ∧ (parseMethodDescriptor yX7_high.desc).map (fun d => d.parameters.length) = some 1 := by decide +kernel
theorem hd_X7_image : yX7_image.cls ≠ "java/lang/invoke/MethodHandle" ∧ yX7_image.cls ≠ "java/lang/invoke/VarHandle" ∧ (parseMethodDescriptor yX7_image.desc).map (fun d => d.parameters.length) = some 1 := by decide +kernel
theorem hd_X7_restore : yX7_restore.cls ≠ "java/lang/invoke/MethodHandle" ∧ yX7_restore.cls ≠ "java/lang/invoke/VarHandle" ∧ (parseMethodDescriptor yX7_restore.desc).map (fun d => d.parameters.length) = some 1 := by decide +kernel
theorem hd_X7_join : yX7_join.cls ≠ "java/lang/invoke/MethodHandle" ∧ yX7_join.cls ≠ "java/lang/invoke/VarHandle" ∧ (parseMethodDescriptor yX7_join.desc).map (fun d => d.parameters.length) = some 1 := by decide +kernel
theorem hd_X7_told : yX7_told.cls ≠ "java/lang/invoke/MethodHandle" ∧ yX7_told.cls ≠ "java/lang/invoke/VarHandle" ∧ (parseMethodDescriptor yX7_told.desc).map (fun d => d.parameters.length) = some 1 := by decide +kernel
theorem hd_X0_fight : yX0_fight.cls ≠ "java/lang/invoke/MethodHandle" ∧ yX0_fight.cls ≠ "java/lang/invoke/VarHandle" ∧ (parseMethodDescriptor yX0_fight.desc).map (fun d => d.parameters.length) = some 5 := by decide +kernel
theorem hd_X0_spin : yX0_spin.cls ≠ "java/lang/invoke/MethodHandle" ∧ yX0_spin.cls ≠ "java/lang/invoke/VarHandle" ∧ (parseMethodDescriptor yX0_spin.desc).map (fun d => d.parameters.length) = some 4 := by decide +kernel
theorem hd_X0_forget : yX0_forget.cls ≠ "java/lang/invoke/MethodHandle" ∧ yX0_forget.cls ≠ "java/lang/invoke/VarHandle" ∧ (parseMethodDescriptor yX0_forget.desc).map (fun d => d.parameters.length) = some 0 := by decide +kernel
theorem hd_X0_moverPays : yX0_moverPays.cls ≠ "java/lang/invoke/MethodHandle" ∧ yX0_moverPays.cls ≠ "java/lang/invoke/VarHandle" ∧ (parseMethodDescriptor yX0_moverPays.desc).map (fun d => d.parameters.length) = some 0 := by decide +kernel
theorem hd_X0_howMany : yX0_howMany.cls ≠ "java/lang/invoke/MethodHandle" ∧ yX0_howMany.cls ≠ "java/lang/invoke/VarHandle" ∧ (parseMethodDescriptor yX0_howMany.desc).map (fun d => d.parameters.length) = some 0 := by decide +kernel
theorem hd_X0_spun : yX0_spun.cls ≠ "java/lang/invoke/MethodHandle" ∧ yX0_spun.cls ≠ "java/lang/invoke/VarHandle" ∧ (parseMethodDescriptor yX0_spun.desc).map (fun d => d.parameters.length) = some 0 := by decide +kernel
theorem hd_X0_firstMove : yX0_firstMove.cls ≠ "java/lang/invoke/MethodHandle" ∧ yX0_firstMove.cls ≠ "java/lang/invoke/VarHandle" ∧ (parseMethodDescriptor yX0_firstMove.desc).map (fun d => d.parameters.length) = some 0 := by decide +kernel
theorem hd_X0_best : yX0_best.cls ≠ "java/lang/invoke/MethodHandle" ∧ yX0_best.cls ≠ "java/lang/invoke/VarHandle" ∧ (parseMethodDescriptor yX0_best.desc).map (fun d => d.parameters.length) = some 5 := by decide +kernel
theorem hd_X0_afterwards : yX0_afterwards.cls ≠ "java/lang/invoke/MethodHandle" ∧ yX0_afterwards.cls ≠ "java/lang/invoke/VarHandle" ∧ (parseMethodDescriptor yX0_afterwards.desc).map (fun d => d.parameters.length) = some 5 := by decide +kernel
theorem hd_X0_turned : yX0_turned.cls ≠ "java/lang/invoke/MethodHandle" ∧ yX0_turned.cls ≠ "java/lang/invoke/VarHandle" ∧ (parseMethodDescriptor yX0_turned.desc).map (fun d => d.parameters.length) = some 1 := by decide +kernel
theorem hd_X1_isOneDayEnough : yX1_isOneDayEnough.cls ≠ "java/lang/invoke/MethodHandle" ∧ yX1_isOneDayEnough.cls ≠ "java/lang/invoke/VarHandle" ∧ (parseMethodDescriptor yX1_isOneDayEnough.desc).map (fun d => d.parameters.length) = some 1 := by decide +kernel
theorem hd_X1_fewestDays : yX1_fewestDays.cls ≠ "java/lang/invoke/MethodHandle" ∧ yX1_fewestDays.cls ≠ "java/lang/invoke/VarHandle" ∧ (parseMethodDescriptor yX1_fewestDays.desc).map (fun d => d.parameters.length) = some 1 := by decide +kernel
theorem hd_X1_fewestBySets : yX1_fewestBySets.cls ≠ "java/lang/invoke/MethodHandle" ∧ yX1_fewestBySets.cls ≠ "java/lang/invoke/VarHandle" ∧ (parseMethodDescriptor yX1_fewestBySets.desc).map (fun d => d.parameters.length) = some 1 := by decide +kernel
theorem hd_X1_prepare : yX1_prepare.cls ≠ "java/lang/invoke/MethodHandle" ∧ yX1_prepare.cls ≠ "java/lang/invoke/VarHandle" ∧ (parseMethodDescriptor yX1_prepare.desc).map (fun d => d.parameters.length) = some 1 := by decide +kernel
theorem hd_X1_hopeAheadOf : yX1_hopeAheadOf.cls ≠ "java/lang/invoke/MethodHandle" ∧ yX1_hopeAheadOf.cls ≠ "java/lang/invoke/VarHandle" ∧ (parseMethodDescriptor yX1_hopeAheadOf.desc).map (fun d => d.parameters.length) = some 1 := by decide +kernel
theorem hd_X1_leadingTo : yX1_leadingTo.cls ≠ "java/lang/invoke/MethodHandle" ∧ yX1_leadingTo.cls ≠ "java/lang/invoke/VarHandle" ∧ (parseMethodDescriptor yX1_leadingTo.desc).map (fun d => d.parameters.length) = some 1 := by decide +kernel
theorem hd_X1_hopeful : yX1_hopeful.cls ≠ "java/lang/invoke/MethodHandle" ∧ yX1_hopeful.cls ≠ "java/lang/invoke/VarHandle" ∧ (parseMethodDescriptor yX1_hopeful.desc).map (fun d => d.parameters.length) = some 2 := by decide +kernel
theorem hd_X1_canSpeak : yX1_canSpeak.cls ≠ "java/lang/invoke/MethodHandle" ∧ yX1_canSpeak.cls ≠ "java/lang/invoke/VarHandle" ∧ (parseMethodDescriptor yX1_canSpeak.desc).map (fun d => d.parameters.length) = some 1 := by decide +kernel
theorem hd_X1_canSayOne : yX1_canSayOne.cls ≠ "java/lang/invoke/MethodHandle" ∧ yX1_canSayOne.cls ≠ "java/lang/invoke/VarHandle" ∧ (parseMethodDescriptor yX1_canSayOne.desc).map (fun d => d.parameters.length) = some 4 := by decide +kernel
theorem hd_X1_canGoOn : yX1_canGoOn.cls ≠ "java/lang/invoke/MethodHandle" ∧ yX1_canGoOn.cls ≠ "java/lang/invoke/VarHandle" ∧ (parseMethodDescriptor yX1_canGoOn.desc).map (fun d => d.parameters.length) = some 4 := by decide +kernel
theorem hd_X2_tops : yX2_tops.cls ≠ "java/lang/invoke/MethodHandle" ∧ yX2_tops.cls ≠ "java/lang/invoke/VarHandle" ∧ (parseMethodDescriptor yX2_tops.desc).map (fun d => d.parameters.length) = some 0 := by decide +kernel
theorem hd_X2_inRings : yX2_inRings.cls ≠ "java/lang/invoke/MethodHandle" ∧ yX2_inRings.cls ≠ "java/lang/invoke/VarHandle" ∧ (parseMethodDescriptor yX2_inRings.desc).map (fun d => d.parameters.length) = some 0 := by decide +kernel
theorem hd_X2_arrange : yX2_arrange.cls ≠ "java/lang/invoke/MethodHandle" ∧ yX2_arrange.cls ≠ "java/lang/invoke/VarHandle" ∧ (parseMethodDescriptor yX2_arrange.desc).map (fun d => d.parameters.length) = some 0 := by decide +kernel
theorem hd_X2_isSameBook : yX2_isSameBook.cls ≠ "java/lang/invoke/MethodHandle" ∧ yX2_isSameBook.cls ≠ "java/lang/invoke/VarHandle" ∧ (parseMethodDescriptor yX2_isSameBook.desc).map (fun d => d.parameters.length) = some 0 := by decide +kernel
theorem hd_X2_nextAfter : yX2_nextAfter.cls ≠ "java/lang/invoke/MethodHandle" ∧ yX2_nextAfter.cls ≠ "java/lang/invoke/VarHandle" ∧ (parseMethodDescriptor yX2_nextAfter.desc).map (fun d => d.parameters.length) = some 1 := by decide +kernel
theorem hd_X2_backWith : yX2_backWith.cls ≠ "java/lang/invoke/MethodHandle" ∧ yX2_backWith.cls ≠ "java/lang/invoke/VarHandle" ∧ (parseMethodDescriptor yX2_backWith.desc).map (fun d => d.parameters.length) = some 2 := by decide +kernel
theorem hd_X2_countStruck : yX2_countStruck.cls ≠ "java/lang/invoke/MethodHandle" ∧ yX2_countStruck.cls ≠ "java/lang/invoke/VarHandle" ∧ (parseMethodDescriptor yX2_countStruck.desc).map (fun d => d.parameters.length) = some 0 := by decide +kernel
theorem hd_X2_struck : yX2_struck.cls ≠ "java/lang/invoke/MethodHandle" ∧ yX2_struck.cls ≠ "java/lang/invoke/VarHandle" ∧ (parseMethodDescriptor yX2_struck.desc).map (fun d => d.parameters.length) = some 1 := by decide +kernel
theorem hd_X3_size : yX3_size.cls ≠ "java/lang/invoke/MethodHandle" ∧ yX3_size.cls ≠ "java/lang/invoke/VarHandle" ∧ (parseMethodDescriptor yX3_size.desc).map (fun d => d.parameters.length) = some 0 := by decide +kernel
theorem hd_X3_isFull : yX3_isFull.cls ≠ "java/lang/invoke/MethodHandle" ∧ yX3_isFull.cls ≠ "java/lang/invoke/VarHandle" ∧ (parseMethodDescriptor yX3_isFull.desc).map (fun d => d.parameters.length) = some 0 := by decide +kernel
theorem hd_X3_put : yX3_put.cls ≠ "java/lang/invoke/MethodHandle" ∧ yX3_put.cls ≠ "java/lang/invoke/VarHandle" ∧ (parseMethodDescriptor yX3_put.desc).map (fun d => d.parameters.length) = some 1 := by decide +kernel
theorem hd_X3_clear : yX3_clear.cls ≠ "java/lang/invoke/MethodHandle" ∧ yX3_clear.cls ≠ "java/lang/invoke/VarHandle" ∧ (parseMethodDescriptor yX3_clear.desc).map (fun d => d.parameters.length) = some 0 := by decide +kernel
theorem hd_X3_signAt : yX3_signAt.cls ≠ "java/lang/invoke/MethodHandle" ∧ yX3_signAt.cls ≠ "java/lang/invoke/VarHandle" ∧ (parseMethodDescriptor yX3_signAt.desc).map (fun d => d.parameters.length) = some 1 := by decide +kernel
theorem hd_X3_insultAt : yX3_insultAt.cls ≠ "java/lang/invoke/MethodHandle" ∧ yX3_insultAt.cls ≠ "java/lang/invoke/VarHandle" ∧ (parseMethodDescriptor yX3_insultAt.desc).map (fun d => d.parameters.length) = some 1 := by decide +kernel
theorem hd_X3_manAt : yX3_manAt.cls ≠ "java/lang/invoke/MethodHandle" ∧ yX3_manAt.cls ≠ "java/lang/invoke/VarHandle" ∧ (parseMethodDescriptor yX3_manAt.desc).map (fun d => d.parameters.length) = some 1 := by decide +kernel
theorem hd_X3_faultAsSteps : yX3_faultAsSteps.cls ≠ "java/lang/invoke/MethodHandle" ∧ yX3_faultAsSteps.cls ≠ "java/lang/invoke/VarHandle" ∧ (parseMethodDescriptor yX3_faultAsSteps.desc).map (fun d => d.parameters.length) = some 0 := by decide +kernel
theorem hd_X3_standsInSteps : yX3_standsInSteps.cls ≠ "java/lang/invoke/MethodHandle" ∧ yX3_standsInSteps.cls ≠ "java/lang/invoke/VarHandle" ∧ (parseMethodDescriptor yX3_standsInSteps.desc).map (fun d => d.parameters.length) = some 1 := by decide +kernel
theorem hd_X3_faultAsQuarrel : yX3_faultAsQuarrel.cls ≠ "java/lang/invoke/MethodHandle" ∧ yX3_faultAsQuarrel.cls ≠ "java/lang/invoke/VarHandle" ∧ (parseMethodDescriptor yX3_faultAsQuarrel.desc).map (fun d => d.parameters.length) = some 0 := by decide +kernel
theorem hd_X3_standsInQuarrel : yX3_standsInQuarrel.cls ≠ "java/lang/invoke/MethodHandle" ∧ yX3_standsInQuarrel.cls ≠ "java/lang/invoke/VarHandle" ∧ (parseMethodDescriptor yX3_standsInQuarrel.desc).map (fun d => d.parameters.length) = some 1 := by decide +kernel
theorem hd_X4_worseThan : yX4_worseThan.cls ≠ "java/lang/invoke/MethodHandle" ∧ yX4_worseThan.cls ≠ "java/lang/invoke/VarHandle" ∧ (parseMethodDescriptor yX4_worseThan.desc).map (fun d => d.parameters.length) = some 1 := by decide +kernel
theorem hd_X4_neededBy : yX4_neededBy.cls ≠ "java/lang/invoke/MethodHandle" ∧ yX4_neededBy.cls ≠ "java/lang/invoke/VarHandle" ∧ (parseMethodDescriptor yX4_neededBy.desc).map (fun d => d.parameters.length) = some 1 := by decide +kernel
theorem hd_X4_traitsOf : yX4_traitsOf.cls ≠ "java/lang/invoke/MethodHandle" ∧ yX4_traitsOf.cls ≠ "java/lang/invoke/VarHandle" ∧ (parseMethodDescriptor yX4_traitsOf.desc).map (fun d => d.parameters.length) = some 1 := by decide +kernel
theorem hd_X4_knownTo : yX4_knownTo.cls ≠ "java/lang/invoke/MethodHandle" ∧ yX4_knownTo.cls ≠ "java/lang/invoke/VarHandle" ∧ (parseMethodDescriptor yX4_knownTo.desc).map (fun d => d.parameters.length) = some 1 := by decide +kernel
theorem hd_X4_setStep : yX4_setStep.cls ≠ "java/lang/invoke/MethodHandle" ∧ yX4_setStep.cls ≠ "java/lang/invoke/VarHandle" ∧ (parseMethodDescriptor yX4_setStep.desc).map (fun d => d.parameters.length) = some 3 := by decide +kernel
theorem hd_X4_setNeeded : yX4_setNeeded.cls ≠ "java/lang/invoke/MethodHandle" ∧ yX4_setNeeded.cls ≠ "java/lang/invoke/VarHandle" ∧ (parseMethodDescriptor yX4_setNeeded.desc).map (fun d => d.parameters.length) = some 2 := by decide +kernel
theorem hd_X4_setTraits : yX4_setTraits.cls ≠ "java/lang/invoke/MethodHandle" ∧ yX4_setTraits.cls ≠ "java/lang/invoke/VarHandle" ∧ (parseMethodDescriptor yX4_setTraits.desc).map (fun d => d.parameters.length) = some 2 := by decide +kernel
theorem hd_X4_setKnown : yX4_setKnown.cls ≠ "java/lang/invoke/MethodHandle" ∧ yX4_setKnown.cls ≠ "java/lang/invoke/VarHandle" ∧ (parseMethodDescriptor yX4_setKnown.desc).map (fun d => d.parameters.length) = some 2 := by decide +kernel
theorem hd_X4_fitting : yX4_fitting.cls ≠ "java/lang/invoke/MethodHandle" ∧ yX4_fitting.cls ≠ "java/lang/invoke/VarHandle" ∧ (parseMethodDescriptor yX4_fitting.desc).map (fun d => d.parameters.length) = some 1 := by decide +kernel
theorem hd_X4_sayable : yX4_sayable.cls ≠ "java/lang/invoke/MethodHandle" ∧ yX4_sayable.cls ≠ "java/lang/invoke/VarHandle" ∧ (parseMethodDescriptor yX4_sayable.desc).map (fun d => d.parameters.length) = some 2 := by decide +kernel
theorem hd_X4_countSteps : yX4_countSteps.cls ≠ "java/lang/invoke/MethodHandle" ∧ yX4_countSteps.cls ≠ "java/lang/invoke/VarHandle" ∧ (parseMethodDescriptor yX4_countSteps.desc).map (fun d => d.parameters.length) = some 0 := by decide +kernel
theorem hd_X4_addSteps : yX4_addSteps.cls ≠ "java/lang/invoke/MethodHandle" ∧ yX4_addSteps.cls ≠ "java/lang/invoke/VarHandle" ∧ (parseMethodDescriptor yX4_addSteps.desc).map (fun d => d.parameters.length) = some 1 := by decide +kernel
theorem hd_X4_copy : yX4_copy.cls ≠ "java/lang/invoke/MethodHandle" ∧ yX4_copy.cls ≠ "java/lang/invoke/VarHandle" ∧ (parseMethodDescriptor yX4_copy.desc).map (fun d => d.parameters.length) = some 1 := by decide +kernel
theorem hd_X4_isKept : yX4_isKept.cls ≠ "java/lang/invoke/MethodHandle" ∧ yX4_isKept.cls ≠ "java/lang/invoke/VarHandle" ∧ (parseMethodDescriptor yX4_isKept.desc).map (fun d => d.parameters.length) = some 0 := by decide +kernel
theorem hd_X5_search : yX5_search.cls ≠ "java/lang/invoke/MethodHandle" ∧ yX5_search.cls ≠ "java/lang/invoke/VarHandle" ∧ (parseMethodDescriptor yX5_search.desc).map (fun d => d.parameters.length) = some 4 := by decide +kernel
theorem hd_X5_walk : yX5_walk.cls ≠ "java/lang/invoke/MethodHandle" ∧ yX5_walk.cls ≠ "java/lang/invoke/VarHandle" ∧ (parseMethodDescriptor yX5_walk.desc).map (fun d => d.parameters.length) = some 4 := by decide +kernel
theorem hd_X5_count : yX5_count.cls ≠ "java/lang/invoke/MethodHandle" ∧ yX5_count.cls ≠ "java/lang/invoke/VarHandle" ∧ (parseMethodDescriptor yX5_count.desc).map (fun d => d.parameters.length) = some 0 := by decide +kernel
theorem hd_X5_wanted : yX5_wanted.cls ≠ "java/lang/invoke/MethodHandle" ∧ yX5_wanted.cls ≠ "java/lang/invoke/VarHandle" ∧ (parseMethodDescriptor yX5_wanted.desc).map (fun d => d.parameters.length) = some 0 := by decide +kernel
theorem hd_J6_bitCount_0f7a4 : yJ6_bitCount_0f7a4.cls ≠ "java/lang/invoke/MethodHandle" ∧ yJ6_bitCount_0f7a4.cls ≠ "java/lang/invoke/VarHandle" ∧ (parseMethodDescriptor yJ6_bitCount_0f7a4.desc).map (fun d => d.parameters.length) = some 1 := by decide +kernel
theorem ob_nl {D : va_G} {cl : List vw_C} {cI cZ : ClassId} {nw : List ob_N} {s : State} (hK : ob_K D cl cI cZ nw s) {a : String} {i : Nat} {y : MethodName} {h : String} (hm : (a, i, y, h) ∈ nw) : va_Nw (.methodLinkNest a i y h) s := by
  obtain ⟨h1, h2⟩ := hK
  have h3 := h2 (a, i, y, h) hm
  dsimp only at h3
  exact h3
def FU : Nat := 10000000
theorem ob_let {α γ : Type} {e v : α} {k : α → Option γ} {r : γ} (h : ob_b1 (some e) k = some r) (hv : v = e) : k v = some r := by subst hv; exact h
def f_X6_within (x0 x1 x2 : Int32) : Option (Int32) := if x0 < x1 then some 0 else if x2 < x0 then some 0 else some 1
def f_X3_isFull (g : Mm) : Option (Int32) := if (g 1 1) < 40 then some 0 else some 1
def f_X3_put (g : Mm) (x1 : Int32) : Option (Mm) := if (g 1 1) < 0 then some g else if (g 1 1) < 40 then ob_b1 (ob_st g 30 40 (g 1 1) x1) fun g3 => some (ob_up g3 1 1 ((g3 1 1) + 1)) else some g
def f_X3_size (g : Mm) : Option (Int32) := some (g 1 1)
def f_X6_say (g : Mm) (x1 : Int32) : Option (Int32 × Mm) := ob_b1 (f_X6_within x1 33 126) fun v1 => if v1 = 0 then some ((-2), g) else ob_b1 (f_X3_isFull g) fun v3 => if v3 = 0 then ob_b1 (f_X3_put g x1) fun g5 => ob_b1 (f_X3_size g5) fun v6 => some (v6, g5) else some ((-4), g)
def f_X3_clear (g : Mm) : Option (Mm) := some (ob_up g 1 1 0)
def f_X6_wipe (g : Mm) : Option (Int32 × Mm) := ob_b1 (f_X3_size g) fun v1 => ob_b1 (f_X3_clear g) fun g2 => some (v1, g2)
def f_X6_at (g : Mm) (q0 n0 : Nat) (x1 : Int32) : Option (Int32) := if x1 < 0 then some 0 else if (Int32.ofNat n0) ≤ x1 then some 0 else ob_b1 (ob_ld g q0 n0 x1) fun v3 => some v3
def f_X3_signAt (g : Mm) (x1 : Int32) : Option (Int32) := if (g 1 1) ≤ x1 then some 0 else ob_b1 (f_X6_at g 30 40 x1) fun v2 => some v2
def f_X6_isInsult (x0 : Int32) : Option (Int32) := ob_b1 (f_X6_within x0 0 9) fun v1 => ob_b1 (ob_zb v1) fun _ => some v1
def f_X3_insultAt (g : Mm) (x1 : Int32) : Option (Int32) := ob_b1 (f_X3_signAt g x1) fun v1 => ob_b1 (f_X6_isInsult (v1 - 97)) fun v2 => if v2 = 0 then some (-1) else some (v1 - 97)
def f_X3_standsInSteps_J49 (g : Mm) : Option (Int32) := some 1
def f_X3_standsInSteps_J29 (g : Mm) (x1 x2 s0 : Int32) : Option (Int32) := if x2 < 0 then some 0 else if s0 = 0 then f_X3_standsInSteps_J49 g else ob_b1 (f_X3_insultAt g (x1 - 2)) fun v13 => if v13 = x2 then some 0 else f_X3_standsInSteps_J49 g 
def f_X3_standsInSteps (g : Mm) (x1 : Int32) : Option (Int32) := if (x1 - x1 / 2 * 2) = 0 then ob_b1 (f_X3_insultAt g x1) fun v8 => ob_b1 (f_X3_signAt g (x1 - 1)) fun v9 => if v9 = 62 then f_X3_standsInSteps_J29 g x1 v8 1 else f_X3_standsInSteps_J29 g x1 v8 0 else ob_b1 (f_X3_signAt g x1) fun v2 => if v2 = 62 then some 1 else ob_b1 (f_X3_signAt g x1) fun v4 => if v4 = 44 then ob_b1 (f_X3_signAt g (x1 - 2)) fun v6 => if v6 = 62 then some 1 else some 0 else some 0
def f_X3_faultAsSteps_L2 (g : Mm) (k55 : Option (Int32)) (k56 : Int32 → Option (Int32)) : Nat → Int32 → Option (Int32)
  | 0, _ => none
  | n + 1, x1 => if (g 1 1) ≤ x1 then if ((g 1 1) - (g 1 1) / 2 * 2) = 1 then ob_b1 (f_X3_signAt g ((g 1 1) - 2)) fun v3 => if v3 = 62 then k56 1 else k55 else k55 else ob_b1 (f_X3_standsInSteps g x1) fun v5 => if v5 = 0 then some x1 else f_X3_faultAsSteps_L2 g k55 k56 n (x1 + 1)
def f_X3_faultAsSteps_J56 (g : Mm) (s0 : Int32) : Option (Int32) := if s0 = 0 then some (g 1 1) else some (-6)
def f_X3_faultAsSteps_J55 (g : Mm) : Option (Int32) := f_X3_faultAsSteps_J56 g 0
def f_X3_faultAsSteps (g : Mm) : Option (Int32) := f_X3_faultAsSteps_L2 g (f_X3_faultAsSteps_J55 g) (f_X3_faultAsSteps_J56 g) FU 0
def f_X6_isMan (x0 : Int32) : Option (Int32) := ob_b1 (f_X6_within x0 0 4) fun v1 => ob_b1 (ob_zb v1) fun _ => some v1
def f_X3_manAt (g : Mm) (x1 : Int32) : Option (Int32) := ob_b1 (f_X3_signAt g x1) fun v1 => ob_b1 (f_X6_isMan (v1 - 48)) fun v2 => if v2 = 0 then some (-1) else some (v1 - 48)
def f_X3_standsInQuarrel (g : Mm) (x1 : Int32) : Option (Int32) := if (x1 - x1 / 2 * 2) = 1 then ob_b1 (f_X3_insultAt g x1) fun v7 => if v7 < 0 then some 0 else some 1 else ob_b1 (f_X3_manAt g x1) fun v2 => if v2 < 0 then some 0 else ob_b1 (f_X3_manAt g x1) fun v4 => ob_b1 (f_X3_manAt g (x1 - 2)) fun v5 => if v4 = v5 then some 0 else some 1
def f_X3_faultAsQuarrel_L2 (g : Mm) (k46 : Option (Int32)) (k47 : Int32 → Option (Int32)) : Nat → Int32 → Option (Int32)
  | 0, _ => none
  | n + 1, x1 => if (g 1 1) ≤ x1 then if (g 1 1) ≤ 0 then k46 else if ((g 1 1) - (g 1 1) / 2 * 2) = 0 then k47 1 else k46 else ob_b1 (f_X3_standsInQuarrel g x1) fun v4 => if v4 = 0 then some x1 else f_X3_faultAsQuarrel_L2 g k46 k47 n (x1 + 1)
def f_X3_faultAsQuarrel_J47 (g : Mm) (s0 : Int32) : Option (Int32) := if s0 = 0 then some (g 1 1) else some (-6)
def f_X3_faultAsQuarrel_J46 (g : Mm) : Option (Int32) := f_X3_faultAsQuarrel_J47 g 0
def f_X3_faultAsQuarrel (g : Mm) : Option (Int32) := f_X3_faultAsQuarrel_L2 g (f_X3_faultAsQuarrel_J46 g) (f_X3_faultAsQuarrel_J47 g) FU 0
def f_X6_fault (g : Mm) (x1 : Int32) : Option (Int32) := ob_b1 (f_X6_within x1 0 1) fun v1 => if v1 = 0 then some (-2) else if x1 = 0 then ob_b1 (f_X3_faultAsSteps g) fun v5 => some v5 else ob_b1 (f_X3_faultAsQuarrel g) fun v4 => some v4
def f_X4_worseThan (b : Nat) (g : Mm) (x1 : Int32) : Option (Int32) := ob_b1 (f_X6_at g (b + 1) 10 x1) fun v1 => some v1
def f_X6_store (q0 n0 : Nat) (g : Mm) (x1 x2 : Int32) : Option (Mm) := if x1 < 0 then some g else if (Int32.ofNat n0) ≤ x1 then some g else ob_b1 (ob_st g q0 n0 x1 x2) fun g3 => some g3
def f_X4_setStep_J48 (b : Nat) (g : Mm) (s0 s1 : Int32) : Option (Mm) := ob_b1 (f_X6_store (b + 1) 10 g s1 s0) fun g7 => some g7
def f_X4_setStep (b : Nat) (g : Mm) (x1 x2 x3 : Int32) : Option (Mm) := ob_b1 (f_X6_isInsult x1) fun v1 => if v1 = 0 then some g else ob_b1 (f_X6_isInsult x2) fun v3 => if v3 = 0 then some g else ob_b1 (f_X4_worseThan b g x1) fun v5 => if x3 = 0 then f_X4_setStep_J48 b g (v5 &&& (((1 : Int32) <<< (x2 &&& 31)) ^^^ (-1))) x1 else f_X4_setStep_J48 b g ((v5 &&& (((1 : Int32) <<< (x2 &&& 31)) ^^^ (-1))) ||| ((1 : Int32) <<< (x2 &&& 31))) x1
def f_J6_bitCount_0f7a4 (x0 : Int32) : Option (Int32) := ob_b1 (some (x0 - (((x0).toUInt32 >>> (((1 : Int32)).toUInt32 &&& Int32.toUInt32 31)).toInt32 &&& 1431655765))) fun v1 => ob_b1 (some ((v1 &&& 858993459) + (((v1).toUInt32 >>> (((2 : Int32)).toUInt32 &&& Int32.toUInt32 31)).toInt32 &&& 858993459))) fun v2 => ob_b1 (some ((v2 + ((v2).toUInt32 >>> (((4 : Int32)).toUInt32 &&& Int32.toUInt32 31)).toInt32) &&& 252645135)) fun v3 => ob_b1 (some (v3 + ((v3).toUInt32 >>> (((8 : Int32)).toUInt32 &&& Int32.toUInt32 31)).toInt32)) fun v4 => ob_b1 (some (v4 + ((v4).toUInt32 >>> (((16 : Int32)).toUInt32 &&& Int32.toUInt32 31)).toInt32)) fun v5 => some (v5 &&& 63)
def f_X4_countSteps_L4 (b : Nat) (g : Mm) : Nat → Int32 → Int32 → Option (Int32)
  | 0, _, _ => none
  | n + 1, x1, x2 => if (10 : Int32) ≤ x2 then some x1 else ob_b1 (f_X4_worseThan b g x2) fun v2 => ob_b1 (f_J6_bitCount_0f7a4 v2) fun v3 => f_X4_countSteps_L4 b g n (x1 + v3) (x2 + 1)
def f_X4_countSteps (b : Nat) (g : Mm) : Option (Int32) := f_X4_countSteps_L4 b g FU 0 0
def f_X6_steps_J69 (k17 : Mm → Int32 → Option (Int32 × Mm)) (g : Mm) (x1 : Int32) : Option (Int32 × Mm) := k17 g (x1 + 2)
def f_X6_steps_L17 : Nat → Mm → Int32 → Option (Int32 × Mm)
  | 0, _, _ => none
  | n + 1, g, x1 => ob_b1 (f_X3_size g) fun v3 => if v3 ≤ x1 then ob_b1 (f_X3_clear g) fun g5 => ob_b1 (f_X4_countSteps 2 g5) fun v6 => some (v6, g5) else ob_b1 (f_X3_signAt g (x1 - 1)) fun v7 => if v7 = 62 then ob_b1 (f_X3_insultAt g (x1 - 2)) fun v9 => ob_b1 (f_X3_insultAt g x1) fun v10 => ob_b1 (f_X4_setStep 2 g v9 v10 1) fun g11 => f_X6_steps_J69 (f_X6_steps_L17 n) g11 x1 else f_X6_steps_J69 (f_X6_steps_L17 n) g x1
def f_X6_steps (g : Mm) : Option (Int32 × Mm) := ob_b1 (f_X3_faultAsSteps g) fun v1 => if v1 = (-6) then f_X6_steps_L17 FU g 2 else some ((-5), g)
def f_X6_has (x0 x1 : Int32) : Option (Int32) := if ((x0 >>> (x1 &&& 31)) &&& 1) = 1 then some 1 else some 0
def f_X6_step_J41 (g : Mm) (x1 x2 x3 s0 : Int32) : Option (Int32 × Mm) := ob_b1 (f_X4_setStep 2 g x1 x2 x3) fun g9 => some (s0, g9)
def f_X6_step (g : Mm) (x1 x2 x3 : Int32) : Option (Int32 × Mm) := ob_b1 (f_X6_isInsult x1) fun v1 => if v1 = 0 then some ((-1), g) else ob_b1 (f_X6_isInsult x2) fun v3 => if v3 = 0 then some ((-1), g) else if x1 = x2 then some ((-1), g) else ob_b1 (f_X4_worseThan 2 g x1) fun v6 => ob_b1 (f_X6_has v6 x2) fun v7 => if v7 = 0 then f_X6_step_J41 g x1 x2 x3 0 else f_X6_step_J41 g x1 x2 x3 1
def f_X4_neededBy (b : Nat) (g : Mm) (x1 : Int32) : Option (Int32) := ob_b1 (f_X6_at g (b + 2) 10 x1) fun v1 => some v1
def f_X4_setNeeded (b : Nat) (g : Mm) (x1 x2 : Int32) : Option (Mm) := ob_b1 (f_X6_store (b + 2) 10 g x1 x2) fun g1 => some g1
def f_X6_needs (g : Mm) (x1 x2 : Int32) : Option (Int32 × Mm) := ob_b1 (f_X6_isInsult x1) fun v1 => if v1 = 0 then some ((-1), g) else ob_b1 (f_X6_within x2 0 63) fun v3 => if v3 = 0 then some ((-2), g) else ob_b1 (f_X4_neededBy 2 g x1) fun v5 => ob_b1 (f_X4_setNeeded 2 g x1 x2) fun g6 => some (v5, g6)
def f_X4_traitsOf (b : Nat) (g : Mm) (x1 : Int32) : Option (Int32) := ob_b1 (f_X6_at g (b + 3) 5 x1) fun v1 => some v1
def f_X4_setTraits (b : Nat) (g : Mm) (x1 x2 : Int32) : Option (Mm) := ob_b1 (f_X6_store (b + 3) 5 g x1 x2) fun g1 => some g1
def f_X4_knownTo (b : Nat) (g : Mm) (x1 : Int32) : Option (Int32) := ob_b1 (f_X6_at g (b + 4) 5 x1) fun v1 => some v1
def f_X4_setKnown (b : Nat) (g : Mm) (x1 x2 : Int32) : Option (Mm) := ob_b1 (f_X6_store (b + 4) 5 g x1 x2) fun g1 => some g1
def f_X6_man_J35 (g : Mm) (x1 x2 x3 s0 s1 s2 : Int32) : Option (Int32 × Mm) := ob_b1 (f_X6_within s2 s1 s0) fun v6 => if v6 = 0 then some ((-2), g) else if x2 = 0 then ob_b1 (f_X4_traitsOf 2 g x1) fun v11 => ob_b1 (f_X4_setTraits 2 g x1 x3) fun g12 => some (v11, g12) else ob_b1 (f_X4_knownTo 2 g x1) fun v9 => ob_b1 (f_X4_setKnown 2 g x1 x3) fun g10 => some (v9, g10)
def f_X6_man (g : Mm) (x1 x2 x3 : Int32) : Option (Int32 × Mm) := ob_b1 (f_X6_isMan x1) fun v1 => if v1 = 0 then some ((-1), g) else ob_b1 (f_X6_within x2 0 1) fun v3 => if v3 = 0 then some ((-2), g) else if x2 = 0 then f_X6_man_J35 g x1 x2 x3 63 0 x3 else f_X6_man_J35 g x1 x2 x3 1023 0 x3
def f_X4_fitting_J38 (b : Nat) (g : Mm) (k11 : Int32 → Int32 → Int32 → Option (Int32)) (x2 x3 x4 : Int32) : Option (Int32) := k11 x2 x3 (x4 + 1)
def f_X4_fitting_L11 (b : Nat) (g : Mm) : Nat → Int32 → Int32 → Int32 → Option (Int32)
  | 0, _, _, _ => none
  | n + 1, x2, x3, x4 => if (10 : Int32) ≤ x4 then some x3 else ob_b1 (f_X4_neededBy b g x4) fun v3 => if (v3 &&& (x2 ^^^ (-1))) = 0 then f_X4_fitting_J38 b g (f_X4_fitting_L11 b g n) x2 (x3 ||| ((1 : Int32) <<< (x4 &&& 31))) x4 else f_X4_fitting_J38 b g (f_X4_fitting_L11 b g n) x2 x3 x4
def f_X4_fitting (b : Nat) (g : Mm) (x1 : Int32) : Option (Int32) := ob_b1 (f_X4_traitsOf b g x1) fun v1 => f_X4_fitting_L11 b g FU v1 0 0
def f_X6_fit (g : Mm) (x1 : Int32) : Option (Int32) := ob_b1 (f_X6_isMan x1) fun v1 => if v1 = 0 then some (-1) else ob_b1 (f_X4_fitting 2 g x1) fun v3 => some v3
def f_X6_whyNone_L59 (g : Mm) (k117 : Int32 → Int32 → Int32 → Option (Int32)) : Nat → Int32 → Int32 → Int32 → Int32 → Option (Int32)
  | 0, _, _, _, _ => none
  | n + 1, x1, x2, x3, x4 => if x1 ≤ x4 then if x1 ≤ 0 then ob_b1 (f_X3_manAt g 2) fun v10 => k117 x2 x3 v10 else ob_b1 (f_X3_manAt g ((2 * x1) - 2)) fun v11 => k117 x2 x3 v11 else ob_b1 (f_X3_insultAt g ((2 * x4) + 1)) fun v12 => if v12 = x3 then some 2 else f_X6_whyNone_L59 g k117 n x1 x2 x3 (x4 + 1)
def f_X6_whyNone_J145 (g : Mm) (x2 x3 : Int32) : Option (Int32) := ob_b1 (f_X4_knownTo 2 g x2) fun v19 => ob_b1 (f_X6_has v19 x3) fun v20 => if v20 = 0 then some 4 else some 0
def f_X6_whyNone_J117 (g : Mm) (x2 x3 s0 : Int32) : Option (Int32) := ob_b1 (f_X6_isMan s0) fun v14 => if v14 = 0 then f_X6_whyNone_J145 g x2 x3 else ob_b1 (f_X4_fitting 2 g s0) fun v16 => ob_b1 (f_X6_has v16 x3) fun v17 => if v17 = 0 then some 3 else f_X6_whyNone_J145 g x2 x3
def f_X6_whyNone_J56 (g : Mm) (x1 x2 x3 : Int32) : Option (Int32) := f_X6_whyNone_L59 g (f_X6_whyNone_J117 g) FU x1 x2 x3 0
def f_X6_whyNone (g : Mm) (x1 : Int32) : Option (Int32) := ob_b1 (f_X3_manAt g (2 * x1)) fun v1 => ob_b1 (f_X3_insultAt g ((2 * x1) + 1)) fun v2 => if x1 ≤ 0 then f_X6_whyNone_J56 g x1 v1 v2 else ob_b1 (f_X3_insultAt g ((2 * x1) - 1)) fun v4 => ob_b1 (f_X4_worseThan 2 g v4) fun v5 => ob_b1 (f_X6_has v5 v2) fun v6 => if v6 = 0 then some 1 else f_X6_whyNone_J56 g x1 v1 v2
def f_X6_judge_L39 (g : Mm) : Nat → Int32 → Int32 → Int32 → Option (Int32)
  | 0, _, _, _ => none
  | n + 1, x1, x2, x3 => if x2 ≤ x3 then some (-6) else ob_b1 (f_X6_whyNone g x3) fun v7 => if v7 = 0 then f_X6_judge_L39 g n x1 x2 (x3 + 1) else if x1 = 0 then some x3 else some v7
def f_X6_judge (g : Mm) (x1 : Int32) : Option (Int32) := ob_b1 (f_X6_within x1 0 1) fun v1 => if v1 = 0 then some (-2) else ob_b1 (f_X3_faultAsQuarrel g) fun v3 => if v3 = (-6) then ob_b1 (f_X3_size g) fun v5 => f_X6_judge_L39 g FU x1 (v5 / 2) 0 else some (-5)
def f_X6_areTwo (x0 x1 : Int32) : Option (Int32) := ob_b1 (f_X6_isMan x0) fun v1 => if v1 = 0 then some 0 else ob_b1 (f_X6_isMan x1) fun v3 => if v3 = 0 then some 0 else if x0 = x1 then some 0 else some 1
def f_X4_sayable (b : Nat) (g : Mm) (x1 x2 : Int32) : Option (Int32) := ob_b1 (f_X4_knownTo b g x1) fun v1 => ob_b1 (f_X4_fitting b g x2) fun v2 => some (v1 &&& v2)
def f_X0_forget (g : Mm) : Option (Mm) := some (ob_up (ob_up g 17 2 ((g 17 2) + 1)) 17 6 (-6))
def f_X0_afterwards (rc_best : Mm → Int32 → Int32 → Int32 → Int32 → Int32 → Option (Int32 × Mm)) (g : Mm) (x1 x2 x3 x4 x5 : Int32) : Option (Int32 × Mm) := ob_b1 (f_X6_at g 18 10240 ((x1 * 10) + x2)) fun v1 => if (v1 / 64) = (g 17 2) then some ((v1 - v1 / 64 * 64), g) else ob_b1 (f_X4_worseThan 2 g x2) fun v3 => ob_b2 (rc_best g ((v3 &&& x3) &&& (x1 ^^^ (-1))) x1 x3 x4 x5) fun v4 g4 => ob_b1 (f_X6_store 18 10240 g4 ((x1 * 10) + x2) (((g4 17 2) * 64) + v4)) fun g5 => some (v4, g5)
def f_X0_turned (g : Mm) (x1 : Int32) : Option (Int32) := if (g 17 3) = 0 then if (20 : Int32) ≤ x1 then some ((40 - x1) + 1) else some (40 - (x1 + 1)) else some (x1 + 1)
def f_X0_best_J120 (rc_afterwards : Mm → Int32 → Int32 → Int32 → Int32 → Int32 → Option (Int32 × Mm)) (k47 : Mm → Int32 → Int32 → Int32 → Int32 → Int32 → Int32 → Int32 → Int32 → Option (Int32 × Mm)) (g : Mm) (x1 x2 x3 x4 x5 x6 x7 x8 : Int32) : Option (Int32 × Mm) := k47 g x1 x2 x3 x4 x5 x6 x7 (x8 + 1)
def f_X0_best_L47 (rc_afterwards : Mm → Int32 → Int32 → Int32 → Int32 → Int32 → Option (Int32 × Mm)) : Nat → Mm → Int32 → Int32 → Int32 → Int32 → Int32 → Int32 → Int32 → Int32 → Option (Int32 × Mm)
  | 0, _, _, _, _, _, _, _, _, _ => none
  | n + 1, g, x1, x2, x3, x4, x5, x6, x7, x8 => if (10 : Int32) ≤ x8 then some (x6, g) else if x7 ≤ x6 then some (x6, g) else ob_b1 (f_X6_has x1 x8) fun v7 => if v7 = 0 then f_X0_best_J120 rc_afterwards (f_X0_best_L47 rc_afterwards n) g x1 x2 x3 x4 x5 x6 x7 x8 else ob_b2 (rc_afterwards g (x2 ||| ((1 : Int32) <<< (x8 &&& 31))) x8 x4 x3 (x5 + 1)) fun v9 g9 => ob_b1 (f_X0_turned g9 v9) fun v10 => if v10 ≤ x6 then f_X0_best_J120 rc_afterwards (f_X0_best_L47 rc_afterwards n) g9 x1 x2 x3 x4 x5 x6 x7 x8 else if x5 = 0 then f_X0_best_J120 rc_afterwards (f_X0_best_L47 rc_afterwards n) (ob_up g9 17 6 x8) x1 x2 x3 x4 x5 v10 x7 x8 else f_X0_best_J120 rc_afterwards (f_X0_best_L47 rc_afterwards n) g9 x1 x2 x3 x4 x5 v10 x7 x8
def f_X0_best_J42 (rc_afterwards : Mm → Int32 → Int32 → Int32 → Int32 → Int32 → Option (Int32 × Mm)) (g : Mm) (x1 x2 x3 x4 x5 x6 s0 : Int32) : Option (Int32 × Mm) := f_X0_best_L47 rc_afterwards FU g x1 x2 x3 x4 x5 x6 s0 0
def f_X0_best (rc_afterwards : Mm → Int32 → Int32 → Int32 → Int32 → Int32 → Option (Int32 × Mm)) (g : Mm) (x1 x2 x3 x4 x5 : Int32) : Option (Int32 × Mm) := if x1 = 0 then some (0, g) else if x5 < 10 then if (g 17 3) = 0 then f_X0_best_J42 rc_afterwards g x1 x2 x3 x4 x5 0 (g 17 4) else ob_b1 (f_J6_bitCount_0f7a4 ((x3 ||| x4) &&& (x2 ^^^ (-1)))) fun v4 => f_X0_best_J42 rc_afterwards g x1 x2 x3 x4 x5 0 v4 else some (0, g)
def fN_X0_best : Nat → Mm → Int32 → Int32 → Int32 → Int32 → Int32 → Option (Int32 × Mm)
  | 0 => fun _ _ _ _ _ _ => none
  | n + 1 => f_X0_best (f_X0_afterwards (fN_X0_best n))
def f_X0_fight_J18 (g : Mm) (x1 x2 x3 x4 s0 : Int32) : Option (Mm) := ob_b1 (f_X0_forget (ob_up g 17 4 s0)) fun g2 => ob_b2 (fN_X0_best 12 g2 x1 x2 x3 x4 0) fun v3 g3 => some (ob_up g3 17 5 v3)
def f_X0_fight (g : Mm) (x1 x2 x3 x4 x5 : Int32) : Option (Mm) := if x5 = 0 then f_X0_fight_J18 (ob_up g 17 3 0) x1 x2 x3 x4 39 else f_X0_fight_J18 (ob_up g 17 3 0) x1 x2 x3 x4 20
def f_X0_moverPays (g : Mm) : Option (Int32) := if (20 : Int32) ≤ (g 17 5) then some 0 else some 1
def f_X0_howMany (g : Mm) : Option (Int32) := if (20 : Int32) ≤ (g 17 5) then some (40 - (g 17 5)) else some (g 17 5)
def f_X0_firstMove (g : Mm) : Option (Int32) := some (g 17 6)
def f_X6_outcome (g : Mm) (x1 x2 x3 : Int32) : Option (Int32) := if x3 = 0 then ob_b1 (f_X0_moverPays g) fun v5 => if v5 = 0 then some x2 else some x1 else if x3 = 1 then ob_b1 (f_X0_howMany g) fun v4 => some v4 else ob_b1 (f_X0_firstMove g) fun v3 => some v3
def f_X6_match_J60 (g : Mm) (x1 x2 x3 s0 s1 s2 s3 s4 : Int32) : Option (Int32 × Mm) := ob_b1 (f_X0_fight g s4 s3 s2 s1 s0) fun g8 => ob_b1 (f_X6_outcome g8 x1 x2 x3) fun v9 => some (v9, g8)
def f_X6_match (g : Mm) (x1 x2 x3 : Int32) : Option (Int32 × Mm) := ob_b1 (f_X6_areTwo x1 x2) fun v1 => if v1 = 0 then some ((-1), g) else ob_b1 (f_X6_within x3 0 2) fun v3 => if v3 = 0 then some ((-2), g) else ob_b1 (f_X4_sayable 2 g x1 x2) fun v5 => ob_b1 (f_X4_sayable 2 g x2 x1) fun v6 => if x3 = 0 then f_X6_match_J60 g x1 x2 x3 1 v6 v5 0 v5 else f_X6_match_J60 g x1 x2 x3 0 v6 v5 0 v5
def f_X6_middle_J112 (g : Mm) (x1 x2 x5 s0 s1 s2 s3 s4 : Int32) : Option (Int32 × Mm) := ob_b1 (f_X0_fight g s4 s3 s2 s1 s0) fun g15 => ob_b1 (f_X6_outcome g15 x1 x2 x5) fun v16 => some (v16, g15)
def f_X6_middle (g : Mm) (x1 x2 x3 x4 x5 : Int32) : Option (Int32 × Mm) := ob_b1 (f_X6_areTwo x1 x2) fun v1 => if v1 = 0 then some ((-1), g) else ob_b1 (f_X6_isInsult x3) fun v3 => if v3 = 0 then some ((-1), g) else ob_b1 (f_X6_within x4 0 1023) fun v5 => if v5 = 0 then some ((-2), g) else ob_b1 (f_X6_has x4 x3) fun v7 => if v7 = 0 then some ((-2), g) else ob_b1 (f_X6_within x5 0 2) fun v9 => if v9 = 0 then some ((-2), g) else ob_b1 (f_X4_sayable 2 g x1 x2) fun v11 => ob_b1 (f_X4_worseThan 2 g x3) fun v12 => ob_b1 (f_X4_sayable 2 g x2 x1) fun v13 => if x5 = 0 then f_X6_middle_J112 g x1 x2 x5 1 v13 v11 x4 ((v11 &&& v12) &&& (x4 ^^^ (-1))) else f_X6_middle_J112 g x1 x2 x5 0 v13 v11 x4 ((v11 &&& v12) &&& (x4 ^^^ (-1)))
def f_X0_spin (g : Mm) (x1 x2 x3 x4 : Int32) : Option (Mm) := ob_b1 (f_X0_forget (ob_up g 17 3 1)) fun g1 => ob_b2 (fN_X0_best 12 g1 x1 x2 x3 x4 0) fun v2 g2 => some (ob_up g2 17 5 v2)
def f_X0_spun (g : Mm) : Option (Int32) := some (g 17 5)
def f_X6_last (g : Mm) (x1 x2 x3 : Int32) : Option (Int32 × Mm) := ob_b1 (f_X6_areTwo x1 x2) fun v1 => if v1 = 0 then some ((-1), g) else ob_b1 (f_X6_within x3 0 1) fun v3 => if v3 = 0 then some ((-2), g) else ob_b1 (f_X4_sayable 2 g x1 x2) fun v5 => ob_b1 (f_X4_sayable 2 g x2 x1) fun v6 => ob_b1 (f_X0_spin g v5 0 v5 v6) fun g7 => if x3 = 0 then ob_b1 (f_X0_spun g7) fun v10 => some (v10, g7) else ob_b1 (f_X0_firstMove g7) fun v9 => some (v9, g7)
def f_X6_comesOff (g : Mm) (x1 x2 x3 x4 : Int32) : Option (Int32 × Mm) := ob_b1 (f_X4_fitting 2 g x3) fun v1 => ob_b1 (f_X4_sayable 2 g x3 x1) fun v2 => if x4 = 0 then ob_b1 (f_X0_fight g v2 0 v2 (x2 &&& v1) 1) fun g4 => ob_b1 (f_X0_moverPays g4) fun v5 => ob_b1 (ob_zb v5) fun _ => some (v5, g4) else ob_b1 (f_X0_fight g (x2 &&& v1) 0 (x2 &&& v1) v2 1) fun g7 => ob_b1 (f_X0_moverPays g7) fun v8 => if v8 = 0 then some (1, g7) else some (0, g7)
def f_X6_sent_J53 (k14 : Mm → Int32 → Int32 → Int32 → Int32 → Option (Int32 × Mm)) (g : Mm) (x1 x2 x3 x4 : Int32) : Option (Int32 × Mm) := k14 g x1 x2 x3 (x4 + 1)
def f_X6_sent_L14 : Nat → Mm → Int32 → Int32 → Int32 → Int32 → Option (Int32 × Mm)
  | 0, _, _, _, _, _ => none
  | n + 1, g, x1, x2, x3, x4 => if (5 : Int32) ≤ x4 then some (x3, g) else if x4 = x1 then f_X6_sent_J53 (f_X6_sent_L14 n) g x1 x2 x3 x4 else ob_b1 (f_X4_knownTo 2 g x4) fun v5 => ob_b2 (f_X6_comesOff g x4 v5 x1 x2) fun v6 g6 => if v6 = 0 then f_X6_sent_J53 (f_X6_sent_L14 n) g6 x1 x2 x3 x4 else f_X6_sent_J53 (f_X6_sent_L14 n) g6 x1 x2 (x3 ||| ((1 : Int32) <<< (x4 &&& 31))) x4
def f_X6_sent (g : Mm) (x1 x2 : Int32) : Option (Int32 × Mm) := ob_b1 (f_X6_isMan x1) fun v1 => if v1 = 0 then some ((-1), g) else f_X6_sent_L14 FU g x1 x2 0 0
def f_X6_safe_J35 (g : Mm) (k13 : Int32 → Int32 → Int32 → Option (Int32)) (x1 x2 x3 : Int32) : Option (Int32) := k13 x1 x2 (x3 + 1)
def f_X6_safe_L13 (g : Mm) : Nat → Int32 → Int32 → Int32 → Option (Int32)
  | 0, _, _, _ => none
  | n + 1, x1, x2, x3 => if (5 : Int32) ≤ x3 then if x2 = 0 then some 1 else some 0 else if x3 = x1 then f_X6_safe_J35 g (f_X6_safe_L13 g n) x1 x2 x3 else ob_b1 (f_X4_sayable 2 g x3 x1) fun v6 => f_X6_safe_J35 g (f_X6_safe_L13 g n) x1 (x2 ||| v6) x3
def f_X6_safe (g : Mm) (x1 : Int32) : Option (Int32) := ob_b1 (f_X6_isMan x1) fun v1 => if v1 = 0 then some (-1) else f_X6_safe_L13 g FU x1 0 0
def f_X6_goodMatches_J50 (k5 : Mm → Int32 → Int32 → Int32 → Int32 → Option (Int32 × Mm)) (g : Mm) (x1 x2 x3 x4 : Int32) : Option (Int32 × Mm) := k5 g x1 x2 x3 (x4 + 1)
def f_X6_goodMatches_J35 (k5 : Mm → Int32 → Int32 → Int32 → Int32 → Option (Int32 × Mm)) (g : Mm) (x1 x2 x3 x4 : Int32) : Option (Int32 × Mm) := ob_b2 (f_X6_comesOff g x1 x2 x4 0) fun v5 g5 => if v5 = 0 then f_X6_goodMatches_J50 k5 g5 x1 x2 x3 x4 else f_X6_goodMatches_J50 k5 g5 x1 x2 (x3 + 1) x4
def f_X6_goodMatches_L5 : Nat → Mm → Int32 → Int32 → Int32 → Int32 → Option (Int32 × Mm)
  | 0, _, _, _, _, _ => none
  | n + 1, g, x1, x2, x3, x4 => if (5 : Int32) ≤ x4 then some (x3, g) else if x4 = x1 then f_X6_goodMatches_J50 (f_X6_goodMatches_L5 n) g x1 x2 x3 x4 else ob_b2 (f_X6_comesOff g x1 x2 x4 1) fun v3 g3 => if v3 = 0 then f_X6_goodMatches_J35 (f_X6_goodMatches_L5 n) g3 x1 x2 x3 x4 else f_X6_goodMatches_J35 (f_X6_goodMatches_L5 n) g3 x1 x2 (x3 + 1) x4
def f_X6_goodMatches (g : Mm) (x1 x2 : Int32) : Option (Int32 × Mm) := f_X6_goodMatches_L5 FU g x1 x2 0 0
def f_X6_worth (g : Mm) (x1 x2 : Int32) : Option (Int32 × Mm) := ob_b1 (f_X6_isInsult x1) fun v1 => if v1 = 0 then some ((-1), g) else ob_b1 (f_X6_isMan x2) fun v3 => if v3 = 0 then some ((-1), g) else ob_b1 (f_X4_knownTo 2 g x2) fun v5 => ob_b1 (f_X6_has v5 x1) fun v6 => if v6 = 0 then ob_b2 (f_X6_goodMatches g x2 (v5 ||| ((1 : Int32) <<< (x1 &&& 31)))) fun v8 g8 => ob_b2 (f_X6_goodMatches g8 x2 v5) fun v9 g9 => some ((100 + (v8 - v9)), g9) else some ((-3), g)
def f_X1_hopeful (g : Mm) (x1 x2 : Int32) : Option (Int32) := ob_b1 (f_X6_at g 21 160 ((x1 * 5) + x2)) fun v1 => some v1
def f_X1_leadingTo_J29 (g : Mm) (k4 : Int32 → Int32 → Int32 → Option (Int32)) (x1 x2 x3 : Int32) : Option (Int32) := k4 x1 x2 (x3 + 1)
def f_X1_leadingTo_L4 (g : Mm) : Nat → Int32 → Int32 → Int32 → Option (Int32)
  | 0, _, _, _ => none
  | n + 1, x1, x2, x3 => if (10 : Int32) ≤ x3 then some x2 else ob_b1 (f_X4_worseThan 2 g x3) fun v2 => if (v2 &&& x1) = 0 then f_X1_leadingTo_J29 g (f_X1_leadingTo_L4 g n) x1 x2 x3 else f_X1_leadingTo_J29 g (f_X1_leadingTo_L4 g n) x1 (x2 ||| ((1 : Int32) <<< (x3 &&& 31))) x3
def f_X1_leadingTo (g : Mm) (x1 : Int32) : Option (Int32) := f_X1_leadingTo_L4 g FU x1 0 0
def f_X1_hopeAheadOf_J32 (k4 : Mm → Int32 → Int32 → Int32 → Option (Mm)) (g : Mm) (x1 x2 x3 : Int32) : Option (Mm) := k4 g x1 x2 (x3 + 1)
def f_X1_hopeAheadOf_L4 (k40 : Mm → Int32 → Int32 → Int32 → Option (Mm)) : Nat → Mm → Int32 → Int32 → Int32 → Option (Mm)
  | 0, _, _, _, _ => none
  | n + 1, g, x1, x2, x3 => if (5 : Int32) ≤ x3 then k40 g x1 x2 0 else ob_b1 (f_X6_has x1 x3) fun v2 => if v2 = 0 then f_X1_hopeAheadOf_J32 (f_X1_hopeAheadOf_L4 k40 n) g x1 x2 x3 else ob_b1 (f_X1_hopeful g (x1 &&& (((1 : Int32) <<< (x3 &&& 31)) ^^^ (-1))) x3) fun v4 => f_X1_hopeAheadOf_J32 (f_X1_hopeAheadOf_L4 k40 n) g x1 (x2 ||| v4) x3
def f_X1_hopeAheadOf_J105 (k40 : Mm → Int32 → Int32 → Int32 → Option (Mm)) (g : Mm) (x1 x2 x3 : Int32) : Option (Mm) := k40 g x1 x2 (x3 + 1)
def f_X1_hopeAheadOf_J80 (k40 : Mm → Int32 → Int32 → Int32 → Option (Mm)) (g : Mm) (x1 x2 x3 s0 : Int32) : Option (Mm) := ob_b1 (f_X4_knownTo 2 g x3) fun v11 => ob_b1 (f_X6_store 21 160 g ((x1 * 5) + x3) (s0 &&& v11)) fun g12 => f_X1_hopeAheadOf_J105 k40 g12 x1 x2 x3
def f_X1_hopeAheadOf_L40 : Nat → Mm → Int32 → Int32 → Int32 → Option (Mm)
  | 0, _, _, _, _ => none
  | n + 1, g, x1, x2, x3 => if (5 : Int32) ≤ x3 then some g else ob_b1 (f_X6_has x1 x3) fun v6 => if v6 = 0 then if x1 = 0 then f_X1_hopeAheadOf_J80 (f_X1_hopeAheadOf_L40 n) g x1 x2 x3 1023 else ob_b1 (f_X6_at g 20 5 x3) fun v9 => ob_b1 (f_X1_leadingTo g (x2 &&& v9)) fun v10 => f_X1_hopeAheadOf_J80 (f_X1_hopeAheadOf_L40 n) g x1 x2 x3 v10 else f_X1_hopeAheadOf_J105 (f_X1_hopeAheadOf_L40 n) g x1 x2 x3
def f_X1_hopeAheadOf (g : Mm) (x1 : Int32) : Option (Mm) := f_X1_hopeAheadOf_L4 (f_X1_hopeAheadOf_L40 FU) FU g x1 0 0
def f_X1_prepare_L2 (k31 : Mm → Int32 → Int32 → Option (Mm)) : Nat → Mm → Int32 → Int32 → Option (Mm)
  | 0, _, _, _ => none
  | n + 1, g, x1, x2 => if (5 : Int32) ≤ x2 then k31 g x1 0 else ob_b1 (f_X4_fitting 2 g x2) fun v2 => ob_b1 (f_X6_store 20 5 g x2 v2) fun g3 => f_X1_prepare_L2 k31 n g3 x1 (x2 + 1)
def f_X1_prepare_J50 (k31 : Mm → Int32 → Int32 → Option (Mm)) (g : Mm) (x1 x2 : Int32) : Option (Mm) := k31 g x1 (x2 + 1)
def f_X1_prepare_L31 : Nat → Mm → Int32 → Int32 → Option (Mm)
  | 0, _, _, _ => none
  | n + 1, g, x1, x2 => if (31 : Int32) < x2 then some g else if (x2 &&& (x1 ^^^ (-1))) = 0 then ob_b1 (f_X1_hopeAheadOf g x2) fun g6 => f_X1_prepare_J50 (f_X1_prepare_L31 n) g6 x1 x2 else f_X1_prepare_J50 (f_X1_prepare_L31 n) g x1 x2
def f_X1_prepare (g : Mm) (x1 : Int32) : Option (Mm) := f_X1_prepare_L2 (f_X1_prepare_L31 FU) FU g x1 0
def f_X1_canGoOn_J127 (rc_canSayOne : Mm → Int32 → Int32 → Int32 → Int32 → Option (Int32)) (g : Mm) (k55 : Int32 → Int32 → Int32 → Int32 → Int32 → Int32 → Option (Int32)) (x1 x3 x4 x5 x6 x7 : Int32) : Option (Int32) := k55 x1 x3 x4 x5 x6 (x7 + 1)
def f_X1_canGoOn_J102 (rc_canSayOne : Mm → Int32 → Int32 → Int32 → Int32 → Option (Int32)) (g : Mm) (k55 : Int32 → Int32 → Int32 → Int32 → Int32 → Int32 → Option (Int32)) (x1 x3 x4 x5 x6 x7 x8 : Int32) : Option (Int32) := ob_b1 (f_X1_hopeful g x8 x7) fun v12 => ob_b1 (rc_canSayOne g x8 x7 x3 (x5 &&& v12)) fun v13 => if v13 = 0 then f_X1_canGoOn_J127 rc_canSayOne g k55 x1 x3 x4 x5 x6 x7 else some 1
def f_X1_canGoOn_L55 (rc_canSayOne : Mm → Int32 → Int32 → Int32 → Int32 → Option (Int32)) (g : Mm) : Nat → Int32 → Int32 → Int32 → Int32 → Int32 → Int32 → Option (Int32)
  | 0, _, _, _, _, _, _ => none
  | n + 1, x1, x3, x4, x5, x6, x7 => if (5 : Int32) ≤ x7 then some 0 else if (x1 &&& (((1 : Int32) <<< (x7 &&& 31)) ^^^ (-1))) = x1 then f_X1_canGoOn_J127 rc_canSayOne g (f_X1_canGoOn_L55 rc_canSayOne g n) x1 x3 x4 x5 x6 x7 else if x6 = 0 then f_X1_canGoOn_J102 rc_canSayOne g (f_X1_canGoOn_L55 rc_canSayOne g n) x1 x3 x4 x5 x6 x7 (x1 &&& (((1 : Int32) <<< (x7 &&& 31)) ^^^ (-1))) else ob_b1 (f_X6_at g 20 5 x7) fun v9 => ob_b1 (f_X6_has v9 x4) fun v10 => if v10 = 0 then f_X1_canGoOn_J127 rc_canSayOne g (f_X1_canGoOn_L55 rc_canSayOne g n) x1 x3 x4 x5 x6 x7 else f_X1_canGoOn_J102 rc_canSayOne g (f_X1_canGoOn_L55 rc_canSayOne g n) x1 x3 x4 x5 x6 x7 (x1 &&& (((1 : Int32) <<< (x7 &&& 31)) ^^^ (-1)))
def f_X1_canGoOn_J50 (rc_canSayOne : Mm → Int32 → Int32 → Int32 → Int32 → Option (Int32)) (g : Mm) (x1 x3 x4 x5 s0 : Int32) : Option (Int32) := f_X1_canGoOn_L55 rc_canSayOne g FU x1 x3 x4 x5 s0 0
def f_X1_canGoOn (rc_canSayOne : Mm → Int32 → Int32 → Int32 → Int32 → Option (Int32)) (g : Mm) (x1 x2 x3 x4 : Int32) : Option (Int32) := if x1 = 0 then some 1 else ob_b1 (f_X4_worseThan 2 g x4) fun v2 => ob_b1 (f_X6_at g 20 5 x2) fun v3 => if ((v2 &&& v3) &&& (x3 ^^^ (-1))) = 0 then some 0 else if x3 = ((1 : Int32) <<< (x4 &&& 31)) then f_X1_canGoOn_J50 rc_canSayOne g x1 x3 x4 ((v2 &&& v3) &&& (x3 ^^^ (-1))) 1 else f_X1_canGoOn_J50 rc_canSayOne g x1 x3 x4 ((v2 &&& v3) &&& (x3 ^^^ (-1))) 0
def f_X1_canSayOne_J39 (rc_canGoOn : Mm → Int32 → Int32 → Int32 → Int32 → Option (Int32)) (g : Mm) (k3 : Int32 → Int32 → Int32 → Int32 → Int32 → Option (Int32)) (x1 x2 x3 x4 x5 : Int32) : Option (Int32) := k3 x1 x2 x3 x4 (x5 + 1)
def f_X1_canSayOne_L3 (rc_canGoOn : Mm → Int32 → Int32 → Int32 → Int32 → Option (Int32)) (g : Mm) : Nat → Int32 → Int32 → Int32 → Int32 → Int32 → Option (Int32)
  | 0, _, _, _, _, _ => none
  | n + 1, x1, x2, x3, x4, x5 => if (10 : Int32) ≤ x5 then some 0 else ob_b1 (f_X6_has x4 x5) fun v2 => if v2 = 0 then f_X1_canSayOne_J39 rc_canGoOn g (f_X1_canSayOne_L3 rc_canGoOn g n) x1 x2 x3 x4 x5 else ob_b1 (rc_canGoOn g x1 x2 (x3 ||| ((1 : Int32) <<< (x5 &&& 31))) x5) fun v4 => if v4 = 0 then f_X1_canSayOne_J39 rc_canGoOn g (f_X1_canSayOne_L3 rc_canGoOn g n) x1 x2 x3 x4 x5 else some 1
def f_X1_canSayOne (rc_canGoOn : Mm → Int32 → Int32 → Int32 → Int32 → Option (Int32)) (g : Mm) (x1 x2 x3 x4 : Int32) : Option (Int32) := f_X1_canSayOne_L3 rc_canGoOn g FU x1 x2 x3 x4 0
def fN_X1_canSayOne : Nat → Mm → Int32 → Int32 → Int32 → Int32 → Option (Int32)
  | 0 => fun _ _ _ _ _ => none
  | n + 1 => f_X1_canSayOne (f_X1_canGoOn (fN_X1_canSayOne n))
def f_X1_canSpeak_J44 (g : Mm) (k8 : Int32 → Int32 → Option (Int32)) (x1 x2 : Int32) : Option (Int32) := k8 x1 (x2 + 1)
def f_X1_canSpeak_L8 (g : Mm) : Nat → Int32 → Int32 → Option (Int32)
  | 0, _, _ => none
  | n + 1, x1, x2 => if (5 : Int32) ≤ x2 then some 0 else if (x1 &&& (((1 : Int32) <<< (x2 &&& 31)) ^^^ (-1))) = x1 then f_X1_canSpeak_J44 g (f_X1_canSpeak_L8 g n) x1 x2 else ob_b1 (f_X1_hopeful g (x1 &&& (((1 : Int32) <<< (x2 &&& 31)) ^^^ (-1))) x2) fun v4 => ob_b1 (fN_X1_canSayOne 7 g (x1 &&& (((1 : Int32) <<< (x2 &&& 31)) ^^^ (-1))) x2 0 v4) fun v5 => if v5 = 0 then f_X1_canSpeak_J44 g (f_X1_canSpeak_L8 g n) x1 x2 else some 1
def f_X1_canSpeak (g : Mm) (x1 : Int32) : Option (Int32) := if x1 = 0 then some 1 else f_X1_canSpeak_L8 g FU x1 0
def f_X1_fewestBySets_J79 (g : Mm) (k5 : Int32 → Int32 → Int32 → Option (Int32)) (x1 x2 x3 : Int32) : Option (Int32) := k5 x1 x2 (x3 + 1)
def f_X1_fewestBySets_J74 (g : Mm) (k5 : Int32 → Int32 → Int32 → Option (Int32)) (x1 x3 x4 : Int32) : Option (Int32) := f_X1_fewestBySets_J79 g k5 x1 (x4 + 1) x3
def f_X1_fewestBySets_L5 (g : Mm) : Nat → Int32 → Int32 → Int32 → Option (Int32)
  | 0, _, _, _ => none
  | n + 1, x1, x2, x3 => if x1 < x3 then some x2 else if (32 : Int32) ≤ x3 then some x2 else if (x3 &&& (x1 ^^^ (-1))) = 0 then ob_b1 (ob_ld g 22 32 x3) fun v4 => if v4 = 0 then f_X1_fewestBySets_J79 g (f_X1_fewestBySets_L5 g n) x1 x2 x3 else ob_b1 (f_X6_at g 23 32 (x1 &&& (x3 ^^^ (-1)))) fun v6 => if v6 = (-6) then f_X1_fewestBySets_J79 g (f_X1_fewestBySets_L5 g n) x1 x2 x3 else if x2 = (-6) then f_X1_fewestBySets_J74 g (f_X1_fewestBySets_L5 g n) x1 x3 v6 else if x2 ≤ (v6 + 1) then f_X1_fewestBySets_J79 g (f_X1_fewestBySets_L5 g n) x1 x2 x3 else f_X1_fewestBySets_J74 g (f_X1_fewestBySets_L5 g n) x1 x3 v6 else f_X1_fewestBySets_J79 g (f_X1_fewestBySets_L5 g n) x1 x2 x3
def f_X1_fewestBySets (g : Mm) (x1 : Int32) : Option (Int32) := f_X1_fewestBySets_L5 g FU x1 (-6) 1
def f_X1_fewestDays_J59 (k7 : Mm → Int32 → Int32 → Option (Int32 × Mm)) (g : Mm) (x1 x2 : Int32) : Option (Int32 × Mm) := k7 g x1 (x2 + 1)
def f_X1_fewestDays_J56 (k7 : Mm → Int32 → Int32 → Option (Int32 × Mm)) (g : Mm) (x1 x2 s0 s1 : Int32) : Option (Int32 × Mm) := ob_b1 (f_X6_store 23 32 g s1 s0) fun g9 => f_X1_fewestDays_J59 k7 g9 x1 x2
def f_X1_fewestDays_L7 : Nat → Mm → Int32 → Int32 → Option (Int32 × Mm)
  | 0, _, _, _ => none
  | n + 1, g, x1, x2 => if (32 : Int32) ≤ x2 then ob_b1 (f_X6_at g 23 32 x1) fun v3 => some (v3, g) else if (x2 &&& (x1 ^^^ (-1))) = 0 then ob_b1 (f_X1_canSpeak g x2) fun v5 => ob_b1 (ob_sz g 22 32 x2 v5) fun g6 => if x2 = 0 then f_X1_fewestDays_J56 (f_X1_fewestDays_L7 n) g6 x1 x2 0 x2 else ob_b1 (f_X1_fewestBySets g6 x2) fun v8 => f_X1_fewestDays_J56 (f_X1_fewestDays_L7 n) g6 x1 x2 v8 x2 else f_X1_fewestDays_J59 (f_X1_fewestDays_L7 n) g x1 x2
def f_X1_fewestDays (g : Mm) (x1 : Int32) : Option (Int32 × Mm) := ob_b1 (f_X1_prepare g x1) fun g1 => f_X1_fewestDays_L7 FU g1 x1 0
def f_X1_isOneDayEnough (g : Mm) (x1 : Int32) : Option (Int32 × Mm) := ob_b1 (f_X1_prepare g x1) fun g1 => ob_b1 (f_X1_canSpeak g1 x1) fun v2 => ob_b1 (ob_zb v2) fun _ => some (v2, g1)
def f_X6_crowd (g : Mm) (x1 x2 : Int32) : Option (Int32 × Mm) := ob_b1 (f_X6_within x1 0 31) fun v1 => if v1 = 0 then some ((-2), g) else ob_b1 (f_X6_within x2 0 1) fun v3 => if v3 = 0 then some ((-2), g) else if x2 = 1 then ob_b2 (f_X1_fewestDays g x1) fun v8 g8 => some (v8, g8) else ob_b2 (f_X1_isOneDayEnough g x1) fun v6 g6 => if v6 = 0 then some (0, g6) else some (1, g6)
def f_X2_inRings_L2 (k32 : Mm → Int32 → Option (Int32 × Mm)) : Nat → Mm → Int32 → Option (Int32 × Mm)
  | 0, _, _ => none
  | n + 1, g, x1 => if (10 : Int32) ≤ x1 then k32 g 0 else ob_b1 (f_X4_worseThan 2 g x1) fun v2 => ob_b1 (f_X6_store 25 10 g x1 v2) fun g3 => f_X2_inRings_L2 k32 n g3 (x1 + 1)
def f_X2_inRings_J86 (k40 : Mm → Int32 → Int32 → Option (Int32 × Mm)) (g : Mm) (x1 x2 : Int32) : Option (Int32 × Mm) := k40 g x1 (x2 + 1)
def f_X2_inRings_L40 (k32 : Mm → Int32 → Option (Int32 × Mm)) : Nat → Mm → Int32 → Int32 → Option (Int32 × Mm)
  | 0, _, _, _ => none
  | n + 1, g, x1, x2 => if (10 : Int32) ≤ x2 then k32 g (x1 + 1) else ob_b1 (f_X6_at g 25 10 x2) fun v10 => ob_b1 (f_X6_has v10 x1) fun v11 => if v11 = 0 then f_X2_inRings_J86 (f_X2_inRings_L40 k32 n) g x1 x2 else ob_b1 (f_X6_at g 25 10 x2) fun v13 => ob_b1 (f_X6_at g 25 10 x1) fun v14 => ob_b1 (f_X6_store 25 10 g x2 (v13 ||| v14)) fun g15 => f_X2_inRings_J86 (f_X2_inRings_L40 k32 n) g15 x1 x2
def f_X2_inRings_L32 (k102 : Mm → Int32 → Int32 → Option (Int32 × Mm)) : Nat → Mm → Int32 → Option (Int32 × Mm)
  | 0, _, _ => none
  | n + 1, g, x1 => if (10 : Int32) ≤ x1 then k102 g 0 0 else f_X2_inRings_L40 (f_X2_inRings_L32 k102 n) FU g x1 0
def f_X2_inRings_J129 (k102 : Mm → Int32 → Int32 → Option (Int32 × Mm)) (g : Mm) (x1 x2 : Int32) : Option (Int32 × Mm) := k102 g x1 (x2 + 1)
def f_X2_inRings_L102 : Nat → Mm → Int32 → Int32 → Option (Int32 × Mm)
  | 0, _, _, _ => none
  | n + 1, g, x1, x2 => if (10 : Int32) ≤ x2 then some (x1, g) else ob_b1 (f_X6_at g 25 10 x2) fun v6 => ob_b1 (f_X6_has v6 x2) fun v7 => if v7 = 0 then f_X2_inRings_J129 (f_X2_inRings_L102 n) g x1 x2 else f_X2_inRings_J129 (f_X2_inRings_L102 n) g (x1 ||| ((1 : Int32) <<< (x2 &&& 31))) x2
def f_X2_inRings (g : Mm) : Option (Int32 × Mm) := f_X2_inRings_L2 (f_X2_inRings_L32 (f_X2_inRings_L102 FU) FU) FU g 0
def f_X2_tops_J27 (g : Mm) (k4 : Int32 → Int32 → Option (Int32)) (x1 x2 : Int32) : Option (Int32) := k4 x1 (x2 + 1)
def f_X2_tops_L4 (g : Mm) : Nat → Int32 → Int32 → Option (Int32)
  | 0, _, _ => none
  | n + 1, x1, x2 => if (10 : Int32) ≤ x2 then some x1 else ob_b1 (f_X4_worseThan 2 g x2) fun v2 => if v2 = 0 then f_X2_tops_J27 g (f_X2_tops_L4 g n) (x1 ||| ((1 : Int32) <<< (x2 &&& 31))) x2 else f_X2_tops_J27 g (f_X2_tops_L4 g n) x1 x2
def f_X2_tops (g : Mm) : Option (Int32) := f_X2_tops_L4 g FU 0 0
def f_X6_rings (g : Mm) (x1 : Int32) : Option (Int32 × Mm) := ob_b1 (f_X6_within x1 0 1) fun v1 => if v1 = 0 then some ((-2), g) else if x1 = 0 then ob_b2 (f_X2_inRings g) fun v5 g5 => some (v5, g5) else ob_b1 (f_X2_tops g) fun v4 => some (v4, g)
def f_X2_isSameBook_L2 (g : Mm) : Nat → Int32 → Option (Int32)
  | 0, _ => none
  | n + 1, x1 => if (10 : Int32) ≤ x1 then some 1 else ob_b1 (f_X6_at g 28 10 x1) fun v2 => ob_b1 (f_X4_worseThan 2 g x1) fun v3 => if v2 = v3 then f_X2_isSameBook_L2 g n (x1 + 1) else some 0
def f_X2_isSameBook (g : Mm) : Option (Int32) := f_X2_isSameBook_L2 g FU 0
def f_X2_backWith (g : Mm) (x1 x2 : Int32) : Option (Int32) := ob_b1 (f_X4_worseThan 2 g x2) fun v1 => ob_b1 (f_J6_bitCount_0f7a4 (v1 &&& x1)) fun v2 => ob_b1 (f_X6_at g 26 1024 (x1 ||| ((1 : Int32) <<< (x2 &&& 31)))) fun v3 => some (v2 + v3)
def f_X2_nextAfter_J49 (g : Mm) (k9 : Int32 → Int32 → Int32 → Int32 → Option (Int32)) (x1 x2 x3 x4 : Int32) : Option (Int32) := k9 x1 x2 x3 (x4 + 1)
def f_X2_nextAfter_L9 (g : Mm) : Nat → Int32 → Int32 → Int32 → Int32 → Option (Int32)
  | 0, _, _, _, _ => none
  | n + 1, x1, x2, x3, x4 => if (10 : Int32) ≤ x4 then some x3 else ob_b1 (f_X6_has x1 x4) fun v2 => if v2 = 0 then ob_b1 (f_X2_backWith g x1 x4) fun v4 => if x2 ≤ v4 then f_X2_nextAfter_J49 g (f_X2_nextAfter_L9 g n) x1 x2 x3 x4 else f_X2_nextAfter_J49 g (f_X2_nextAfter_L9 g n) x1 v4 x4 x4 else f_X2_nextAfter_J49 g (f_X2_nextAfter_L9 g n) x1 x2 x3 x4
def f_X2_nextAfter (g : Mm) (x1 : Int32) : Option (Int32) := f_X2_nextAfter_L9 g FU x1 1000 0 0
def f_X2_arrange_L30 (k62 : Mm → Int32 → Int32 → Option (Mm)) : Nat → Mm → Int32 → Option (Mm)
  | 0, _, _ => none
  | n + 1, g, x1 => if x1 < 0 then k62 g 0 0 else ob_b1 (f_X2_nextAfter g x1) fun v6 => ob_b1 (f_X2_backWith g x1 v6) fun v7 => ob_b1 (f_X6_store 26 1024 g x1 v7) fun g8 => f_X2_arrange_L30 k62 n g8 (x1 + (-1))
def f_X2_arrange_L62 (k97 : Mm → Int32 → Option (Mm)) : Nat → Mm → Int32 → Int32 → Option (Mm)
  | 0, _, _, _ => none
  | n + 1, g, x1, x2 => if (10 : Int32) ≤ x2 then k97 g 0 else ob_b1 (f_X2_nextAfter g x1) fun v10 => ob_b1 (f_X6_store 27 10 g v10 x2) fun g11 => f_X2_arrange_L62 k97 n g11 (x1 ||| ((1 : Int32) <<< (v10 &&& 31))) (x2 + 1)
def f_X2_arrange_L97 : Nat → Mm → Int32 → Option (Mm)
  | 0, _, _ => none
  | n + 1, g, x2 => if (10 : Int32) ≤ x2 then some (ob_up g 24 5 1) else ob_b1 (f_X4_worseThan 2 g x2) fun v13 => ob_b1 (f_X6_store 28 10 g x2 v13) fun g14 => f_X2_arrange_L97 n g14 (x2 + 1)
def f_X2_arrange_J15 (g : Mm) : Option (Mm) := ob_b1 (f_X6_store 26 1024 g 1023 0) fun g4 => f_X2_arrange_L30 (f_X2_arrange_L62 (f_X2_arrange_L97 FU) FU) FU g4 1022
def f_X2_arrange (g : Mm) : Option (Mm) := if (g 24 5) = 0 then f_X2_arrange_J15 g else ob_b1 (f_X2_isSameBook g) fun v2 => if v2 = 0 then f_X2_arrange_J15 g else some g
def f_X2_countStruck (g : Mm) : Option (Int32) := ob_b1 (f_X6_at g 26 1024 0) fun v1 => some v1
def f_X2_struck_J75 (g : Mm) (k13 : Int32 → Int32 → Int32 → Int32 → Option (Int32)) (x1 x2 x3 x4 : Int32) : Option (Int32) := k13 x1 x2 x3 (x4 + 1)
def f_X2_struck_L13 (g : Mm) (k4 : Int32 → Int32 → Int32 → Option (Int32)) : Nat → Int32 → Int32 → Int32 → Int32 → Option (Int32)
  | 0, _, _, _, _ => none
  | n + 1, x1, x2, x3, x4 => if (10 : Int32) ≤ x4 then k4 x1 x2 (x3 + 1) else ob_b1 (f_X4_worseThan 2 g x3) fun v3 => ob_b1 (f_X6_has v3 x4) fun v4 => if v4 = 0 then f_X2_struck_J75 g (f_X2_struck_L13 g k4 n) x1 x2 x3 x4 else ob_b1 (f_X6_at g 27 10 x3) fun v6 => ob_b1 (f_X6_at g 27 10 x4) fun v7 => if v7 ≤ v6 then if x2 = x1 then some ((10 * x3) + x4) else f_X2_struck_J75 g (f_X2_struck_L13 g k4 n) x1 (x2 + 1) x3 x4 else f_X2_struck_J75 g (f_X2_struck_L13 g k4 n) x1 x2 x3 x4
def f_X2_struck_L4 (g : Mm) : Nat → Int32 → Int32 → Int32 → Option (Int32)
  | 0, _, _, _ => none
  | n + 1, x1, x2, x3 => if (10 : Int32) ≤ x3 then some (-6) else f_X2_struck_L13 g (f_X2_struck_L4 g n) FU x1 x2 x3 0
def f_X2_struck (g : Mm) (x1 : Int32) : Option (Int32) := f_X2_struck_L4 g FU x1 0 0
def f_X6_ladder (g : Mm) (x1 : Int32) : Option (Int32 × Mm) := ob_b1 (f_X2_arrange g) fun g1 => if x1 = (-1) then ob_b1 (f_X2_countStruck g1) fun v4 => some (v4, g1) else ob_b1 (f_X2_struck g1 x1) fun v3 => some (v3, g1)
def f_X5_walk_J40 (rc_walk : Mm → Int32 → Int32 → Int32 → Int32 → Option (Mm)) (g : Mm) : Option (Mm) := some (ob_up g 29 3 ((g 29 3) + 1))
def f_X5_walk_J107 (rc_walk : Mm → Int32 → Int32 → Int32 → Int32 → Option (Mm)) (k54 : Mm → Int32 → Int32 → Int32 → Int32 → Int32 → Option (Mm)) (g : Mm) (x1 x2 x3 x4 x5 : Int32) : Option (Mm) := k54 g x1 x2 x3 x4 (x5 + 1)
def f_X5_walk_L54 (rc_walk : Mm → Int32 → Int32 → Int32 → Int32 → Option (Mm)) : Nat → Mm → Int32 → Int32 → Int32 → Int32 → Int32 → Option (Mm)
  | 0, _, _, _, _, _, _ => none
  | n + 1, g, x1, x2, x3, x4, x5 => if (10 : Int32) ≤ x5 then some g else ob_b1 (f_X4_worseThan 2 g x1) fun v7 => ob_b1 (f_X6_has (v7 &&& (x2 ^^^ (-1))) x5) fun v8 => if v8 = 0 then f_X5_walk_J107 rc_walk (f_X5_walk_L54 rc_walk n) g x1 x2 x3 x4 x5 else ob_b1 (rc_walk g x5 (x2 ||| ((1 : Int32) <<< (x5 &&& 31))) (x3 - 1) ((x4 * 10) + x5)) fun g10 => f_X5_walk_J107 rc_walk (f_X5_walk_L54 rc_walk n) g10 x1 x2 x3 x4 x5
def f_X5_walk (rc_walk : Mm → Int32 → Int32 → Int32 → Int32 → Option (Mm)) (g : Mm) (x1 x2 x3 x4 : Int32) : Option (Mm) := if (0 : Int32) < x3 then f_X5_walk_L54 rc_walk FU g x1 x2 x3 x4 0 else ob_b1 (f_X4_worseThan 2 g x1) fun v2 => ob_b1 (f_X6_has v2 (g 29 1)) fun v3 => if v3 = 0 then some g else if (g 29 3) = (g 29 2) then f_X5_walk_J40 rc_walk (ob_up g 29 4 x4) else f_X5_walk_J40 rc_walk g
def fN_X5_walk : Nat → Mm → Int32 → Int32 → Int32 → Int32 → Option (Mm)
  | 0 => fun _ _ _ _ _ => none
  | n + 1 => f_X5_walk (fN_X5_walk n)
def f_X5_search (g : Mm) (x1 x2 x3 x4 : Int32) : Option (Mm) := ob_b1 (fN_X5_walk 6 (ob_up (ob_up (ob_up (ob_up g 29 1 x2) 29 2 x4) 29 3 0) 29 4 (-6)) x1 (((1 : Int32) <<< (x1 &&& 31)) ||| ((1 : Int32) <<< (x2 &&& 31))) x3 1) fun g1 => some g1
def f_X5_count (g : Mm) : Option (Int32) := some (g 29 3)
def f_X5_wanted (g : Mm) : Option (Int32) := some (g 29 4)
def f_X6_between (g : Mm) (x1 x2 x3 x4 : Int32) : Option (Int32 × Mm) := ob_b1 (f_X6_isInsult x1) fun v1 => if v1 = 0 then some ((-1), g) else ob_b1 (f_X6_isInsult x2) fun v3 => if v3 = 0 then some ((-1), g) else if x1 = x2 then some ((-1), g) else ob_b1 (f_X6_within x3 0 4) fun v6 => if v6 = 0 then some ((-2), g) else ob_b1 (f_X5_search g x1 x2 x3 x4) fun g8 => if x4 = (-1) then ob_b1 (f_X5_count g8) fun v11 => some (v11, g8) else ob_b1 (f_X5_wanted g8) fun v10 => some (v10, g8)
def f_X6_high (g : Mm) (x1 : Int32) : Option (Int32 × Mm) := ob_b1 (f_X6_isInsult x1) fun v1 => if v1 = 0 then some ((-1), g) else ob_b1 (f_X4_worseThan 2 g x1) fun v3 => ob_b1 (f_X0_spin g v3 ((1 : Int32) <<< (x1 &&& 31)) 1023 1023) fun g4 => ob_b1 (f_X0_spun g4) fun v5 => some (v5, g4)
def f_X6_isImage (x0 : Int32) : Option (Int32) := ob_b1 (f_X6_within x0 0 1) fun v1 => ob_b1 (ob_zb v1) fun _ => some v1
def f_X6_imageOf (g : Mm) (x1 : Int32) : Option (Nat) := if x1 = 0 then some 7 else some 12
theorem imageOf_town {g : Mm} {x : Int32} {q : Nat} (h : f_X6_imageOf g x = some q) : isTown q := by
  unfold f_X6_imageOf at h
  split at h
  · cases h; exact Or.inr (Or.inl rfl)
  · cases h; exact Or.inr (Or.inr rfl)
def f_X4_copy_L2 (b : Nat) (b1 : Nat) (k42 : Mm → Int32 → Option (Mm)) : Nat → Mm → Int32 → Option (Mm)
  | 0, _, _ => none
  | n + 1, g, x2 => if (10 : Int32) ≤ x2 then k42 g 0 else ob_b1 (f_X4_worseThan b1 g x2) fun v2 => ob_b1 (f_X6_store (b + 1) 10 g x2 v2) fun g3 => ob_b1 (f_X4_neededBy b1 g3 x2) fun v4 => ob_b1 (f_X6_store (b + 2) 10 g3 x2 v4) fun g5 => f_X4_copy_L2 b b1 k42 n g5 (x2 + 1)
def f_X4_copy_L42 (b : Nat) (b1 : Nat) : Nat → Mm → Int32 → Option (Mm)
  | 0, _, _ => none
  | n + 1, g, x2 => if (5 : Int32) ≤ x2 then some (ob_up g b 4 1) else ob_b1 (f_X4_traitsOf b1 g x2) fun v7 => ob_b1 (f_X6_store (b + 3) 5 g x2 v7) fun g8 => ob_b1 (f_X4_knownTo b1 g8 x2) fun v9 => ob_b1 (f_X6_store (b + 4) 5 g8 x2 v9) fun g10 => f_X4_copy_L42 b b1 n g10 (x2 + 1)
def f_X4_copy (b : Nat) (b1 : Nat) (g : Mm) : Option (Mm) := f_X4_copy_L2 b b1 (f_X4_copy_L42 b b1 FU) FU g 0
def f_X6_image (g : Mm) (x1 : Int32) : Option (Int32 × Mm) := ob_b1 (f_X6_isImage x1) fun v1 => if v1 = 0 then some ((-2), g) else ob_b1 (f_X6_imageOf g x1) fun v3 => ob_b1 (f_X4_copy v3 2 g) fun g4 => some (1, g4)
def f_X4_isKept (b : Nat) (g : Mm) : Option (Int32) := ob_b1 (ob_zb (g b 4)) fun _ => some (g b 4)
def f_X6_restore (g : Mm) (x1 : Int32) : Option (Int32 × Mm) := ob_b1 (f_X6_isImage x1) fun v1 => if v1 = 0 then some ((-2), g) else ob_b1 (f_X6_imageOf g x1) fun v3 => ob_b1 (f_X4_isKept v3 g) fun v4 => if v4 = 0 then some ((-3), g) else ob_b1 (f_X6_imageOf g x1) fun v6 => ob_b1 (f_X4_copy 2 v6 g) fun g7 => some (1, g7)
def f_X4_addSteps_L2 (b : Nat) (b1 : Nat) : Nat → Mm → Int32 → Option (Mm)
  | 0, _, _ => none
  | n + 1, g, x2 => if (10 : Int32) ≤ x2 then some g else ob_b1 (f_X4_worseThan b g x2) fun v2 => ob_b1 (f_X4_worseThan b1 g x2) fun v3 => ob_b1 (f_X6_store (b + 1) 10 g x2 (v2 ||| v3)) fun g4 => f_X4_addSteps_L2 b b1 n g4 (x2 + 1)
def f_X4_addSteps (b : Nat) (b1 : Nat) (g : Mm) : Option (Mm) := f_X4_addSteps_L2 b b1 FU g 0
def f_X6_join (g : Mm) (x1 : Int32) : Option (Int32 × Mm) := ob_b1 (f_X6_isImage x1) fun v1 => if v1 = 0 then some ((-2), g) else ob_b1 (f_X6_imageOf g x1) fun v3 => ob_b1 (f_X4_isKept v3 g) fun v4 => if v4 = 0 then some ((-3), g) else ob_b1 (f_X6_imageOf g x1) fun v6 => ob_b1 (f_X4_addSteps 2 v6 g) fun g7 => ob_b1 (f_X4_countSteps 2 g7) fun v8 => some (v8, g7)
def f_X6_told (g : Mm) (x1 : Int32) : Option (Int32) := if x1 = 0 then ob_b1 (f_X3_size g) fun v16 => some v16 else if x1 = 1 then ob_b1 (f_X4_countSteps 2 g) fun v15 => some v15 else ob_b1 (f_X6_within x1 10 19) fun v3 => if v3 = 0 then ob_b1 (f_X6_within x1 20 24) fun v5 => if v5 = 0 then ob_b1 (f_X6_within x1 30 34) fun v7 => if v7 = 0 then ob_b1 (f_X6_within x1 40 49) fun v9 => if v9 = 0 then some (-2) else ob_b1 (f_X4_worseThan 2 g (x1 - 40)) fun v11 => some v11 else ob_b1 (f_X4_knownTo 2 g (x1 - 30)) fun v12 => some v12 else ob_b1 (f_X4_traitsOf 2 g (x1 - 20)) fun v13 => some v13 else ob_b1 (f_X4_neededBy 2 g (x1 - 10)) fun v14 => some v14
def f_X7_in (x0 x1 x2 : Int32) : Option (Int32) := if x0 < x1 then some 0 else if x2 < x0 then some 0 else some 1
def f_X7_has (x0 x1 : Int32) : Option (Int32) := if ((x0 >>> (x1 &&& 31)) &&& 1) = 1 then some 1 else some 0
def f_X7_bits_L4 : Nat → Int32 → Int32 → Int32 → Option (Int32)
  | 0, _, _, _ => none
  | n + 1, x0, x1, x2 => if (10 : Int32) ≤ x2 then some x1 else f_X7_bits_L4 n x0 (x1 + ((x0 >>> (x2 &&& 31)) &&& 1)) (x2 + 1)
def f_X7_bits (x0 : Int32) : Option (Int32) := f_X7_bits_L4 FU x0 0 0
def f_X7_isInsult (x0 : Int32) : Option (Int32) := ob_b1 (f_X7_in x0 0 9) fun v1 => ob_b1 (ob_zb v1) fun _ => some v1
def f_X7_isMan (x0 : Int32) : Option (Int32) := ob_b1 (f_X7_in x0 0 4) fun v1 => ob_b1 (ob_zb v1) fun _ => some v1
def f_X7_areTwo (x0 x1 : Int32) : Option (Int32) := ob_b1 (f_X7_isMan x0) fun v1 => if v1 = 0 then some 0 else ob_b1 (f_X7_isMan x1) fun v3 => if v3 = 0 then some 0 else if x0 = x1 then some 0 else some 1
def f_X7_say (g : Mm) (x1 : Int32) : Option (Int32 × Mm) := ob_b1 (f_X7_in x1 33 126) fun v1 => if v1 = 0 then some ((-2), g) else if (g 0 0) = 40 then some ((-4), g) else ob_b1 (ob_st g 1 40 (g 0 0) x1) fun g4 => some (((ob_up g4 0 0 ((g4 0 0) + 1)) 0 0), (ob_up g4 0 0 ((g4 0 0) + 1)))
def f_X7_wipe (g : Mm) : Option (Int32 × Mm) := some ((g 0 0), (ob_up g 0 0 0))
def f_X7_isName (x0 : Int32) : Option (Int32) := ob_b1 (f_X7_in x0 97 106) fun v1 => ob_b1 (ob_zb v1) fun _ => some v1
def f_X7_stepsFault_J105 (g : Mm) (k4 : Int32 → Int32 → Option (Int32)) (x2 x4 : Int32) : Option (Int32) := if (0 : Int32) ≤ x4 then k4 x4 (x2 + 1) else some x2
def f_X7_stepsFault_J36 (g : Mm) (k4 : Int32 → Int32 → Option (Int32)) (x2 s0 : Int32) : Option (Int32) := f_X7_stepsFault_J105 g k4 x2 s0
def f_X7_stepsFault_J71 (g : Mm) (k4 : Int32 → Int32 → Option (Int32)) (x2 s0 : Int32) : Option (Int32) := f_X7_stepsFault_J105 g k4 x2 s0
def f_X7_stepsFault_J69 (g : Mm) (k4 : Int32 → Int32 → Option (Int32)) (x2 : Int32) : Option (Int32) := f_X7_stepsFault_J71 g k4 x2 (-6)
def f_X7_stepsFault_J103 (g : Mm) (k4 : Int32 → Int32 → Option (Int32)) (x2 s0 : Int32) : Option (Int32) := f_X7_stepsFault_J105 g k4 x2 s0
def f_X7_stepsFault_J101 (g : Mm) (k4 : Int32 → Int32 → Option (Int32)) (x2 : Int32) : Option (Int32) := f_X7_stepsFault_J103 g k4 x2 (-6)
def f_X7_stepsFault_L4 (g : Mm) : Nat → Int32 → Int32 → Option (Int32)
  | 0, _, _ => none
  | n + 1, x1, x2 => if (g 0 0) ≤ x2 then if x1 = 3 then some (-6) else some (g 0 0) else ob_b1 (ob_ld g 1 40 x2) fun v3 => if x1 = 0 then ob_b1 (f_X7_isName v3) fun v13 => if v13 = 0 then f_X7_stepsFault_J36 g (f_X7_stepsFault_L4 g n) x2 (-6) else f_X7_stepsFault_J36 g (f_X7_stepsFault_L4 g n) x2 1 else if x1 = 2 then ob_b1 (f_X7_isName v3) fun v9 => if v9 = 0 then f_X7_stepsFault_J69 g (f_X7_stepsFault_L4 g n) x2 else ob_b1 (ob_ld g 1 40 (x2 - 2)) fun v11 => if v3 = v11 then f_X7_stepsFault_J69 g (f_X7_stepsFault_L4 g n) x2 else f_X7_stepsFault_J71 g (f_X7_stepsFault_L4 g n) x2 3 else if v3 = 62 then f_X7_stepsFault_J103 g (f_X7_stepsFault_L4 g n) x2 2 else if v3 = 44 then if x1 = 3 then f_X7_stepsFault_J103 g (f_X7_stepsFault_L4 g n) x2 0 else f_X7_stepsFault_J101 g (f_X7_stepsFault_L4 g n) x2 else f_X7_stepsFault_J101 g (f_X7_stepsFault_L4 g n) x2
def f_X7_stepsFault (g : Mm) : Option (Int32) := f_X7_stepsFault_L4 g FU 0 0
def f_X7_quarrelFault_J71 (g : Mm) (k2 : Int32 → Option (Int32)) (x1 s0 : Int32) : Option (Int32) := if s0 = 0 then some x1 else k2 (x1 + 1)
def f_X7_quarrelFault_J70 (g : Mm) (k2 : Int32 → Option (Int32)) (x1 : Int32) : Option (Int32) := f_X7_quarrelFault_J71 g k2 x1 0
def f_X7_quarrelFault_J66 (g : Mm) (k2 : Int32 → Option (Int32)) (x1 : Int32) : Option (Int32) := f_X7_quarrelFault_J71 g k2 x1 1
def f_X7_quarrelFault_L2 (g : Mm) (k101 : Option (Int32)) : Nat → Int32 → Option (Int32)
  | 0, _ => none
  | n + 1, x1 => if (g 0 0) ≤ x1 then if (g 0 0) = 0 then k101 else if ((g 0 0) - (g 0 0) / 2 * 2) = 1 then k101 else some (-6) else if (x1 - x1 / 2 * 2) = 1 then ob_b1 (ob_ld g 1 40 x1) fun v12 => ob_b1 (f_X7_isName v12) fun v13 => f_X7_quarrelFault_J71 g (f_X7_quarrelFault_L2 g k101 n) x1 v13 else ob_b1 (ob_ld g 1 40 x1) fun v5 => ob_b1 (f_X7_in v5 48 52) fun v6 => if v6 = 0 then f_X7_quarrelFault_J70 g (f_X7_quarrelFault_L2 g k101 n) x1 else if x1 = 0 then f_X7_quarrelFault_J66 g (f_X7_quarrelFault_L2 g k101 n) x1 else ob_b1 (ob_ld g 1 40 x1) fun v9 => ob_b1 (ob_ld g 1 40 (x1 - 2)) fun v10 => if v9 = v10 then f_X7_quarrelFault_J70 g (f_X7_quarrelFault_L2 g k101 n) x1 else f_X7_quarrelFault_J66 g (f_X7_quarrelFault_L2 g k101 n) x1
def f_X7_quarrelFault_J101 (g : Mm) : Option (Int32) := some (g 0 0)
def f_X7_quarrelFault (g : Mm) : Option (Int32) := f_X7_quarrelFault_L2 g (f_X7_quarrelFault_J101 g) FU 0
def f_X7_fault (g : Mm) (x1 : Int32) : Option (Int32) := if x1 = 0 then ob_b1 (f_X7_stepsFault g) fun v4 => some v4 else if x1 = 1 then ob_b1 (f_X7_quarrelFault g) fun v3 => some v3 else some (-2)
def f_X7_allSteps_L4 (g : Mm) : Nat → Int32 → Int32 → Option (Int32)
  | 0, _, _ => none
  | n + 1, x1, x2 => if (10 : Int32) ≤ x2 then some x1 else ob_b1 (ob_ld g 2 10 x2) fun v2 => ob_b1 (f_X7_bits v2) fun v3 => f_X7_allSteps_L4 g n (x1 + v3) (x2 + 1)
def f_X7_allSteps (g : Mm) : Option (Int32) := f_X7_allSteps_L4 g FU 0 0
def f_X7_steps_J63 (k12 : Mm → Int32 → Option (Int32 × Mm)) (g : Mm) (x1 : Int32) : Option (Int32 × Mm) := k12 g (x1 + 2)
def f_X7_steps_L12 : Nat → Mm → Int32 → Option (Int32 × Mm)
  | 0, _, _ => none
  | n + 1, g, x1 => if (g 0 0) ≤ x1 then ob_b1 (f_X7_allSteps (ob_up g 0 0 0)) fun v4 => some (v4, (ob_up g 0 0 0)) else ob_b1 (ob_ld g 1 40 x1) fun v5 => if v5 = 62 then ob_b1 (ob_ld g 1 40 (x1 - 1)) fun v7 => ob_b1 (ob_ld g 2 10 (v7 - 97)) fun v8 => ob_b1 (ob_ld g 1 40 (x1 + 1)) fun v9 => ob_b1 (ob_st g 2 10 (v7 - 97) (v8 ||| ((1 : Int32) <<< ((v9 - 97) &&& 31)))) fun g10 => f_X7_steps_J63 (f_X7_steps_L12 n) g10 x1 else f_X7_steps_J63 (f_X7_steps_L12 n) g x1
def f_X7_steps (g : Mm) : Option (Int32 × Mm) := ob_b1 (f_X7_stepsFault g) fun v1 => if v1 < 0 then f_X7_steps_L12 FU g 1 else some ((-5), g)
def f_X7_step_J67 (g : Mm) (x4 s0 s1 : Int32) : Option (Int32 × Mm) := ob_b1 (ob_st g 2 10 s1 s0) fun g10 => some (x4, g10)
def f_X7_step (g : Mm) (x1 x2 x3 : Int32) : Option (Int32 × Mm) := ob_b1 (f_X7_isInsult x1) fun v1 => if v1 = 0 then some ((-1), g) else ob_b1 (f_X7_isInsult x2) fun v3 => if v3 = 0 then some ((-1), g) else if x1 = x2 then some ((-1), g) else ob_b1 (ob_ld g 2 10 x1) fun v6 => if x3 = 0 then ob_b1 (ob_ld g 2 10 x1) fun v8 => f_X7_step_J67 g ((v6 >>> (x2 &&& 31)) &&& 1) (v8 &&& (((1 : Int32) <<< (x2 &&& 31)) ^^^ (-1))) x1 else ob_b1 (ob_ld g 2 10 x1) fun v9 => f_X7_step_J67 g ((v6 >>> (x2 &&& 31)) &&& 1) (v9 ||| ((1 : Int32) <<< (x2 &&& 31))) x1
def f_X7_needs (g : Mm) (x1 x2 : Int32) : Option (Int32 × Mm) := ob_b1 (f_X7_isInsult x1) fun v1 => if v1 = 0 then some ((-1), g) else ob_b1 (f_X7_in x2 0 63) fun v3 => if v3 = 0 then some ((-2), g) else ob_b1 (ob_ld g 3 10 x1) fun v5 => ob_b1 (ob_st g 3 10 x1 x2) fun g6 => some (v5, g6)
def f_X7_man_J60 (g : Mm) (x1 x2 x3 s0 : Int32) : Option (Int32 × Mm) := if x2 = 0 then ob_b1 (ob_st g 4 5 x1 x3) fun g13 => some (s0, g13) else ob_b1 (ob_st g 5 5 x1 x3) fun g12 => some (s0, g12)
def f_X7_man_J32 (g : Mm) (x1 x2 x3 s0 s1 s2 : Int32) : Option (Int32 × Mm) := ob_b1 (f_X7_in s2 s1 s0) fun v6 => if v6 = 0 then some ((-2), g) else if x2 = 0 then ob_b1 (ob_ld g 4 5 x1) fun v10 => f_X7_man_J60 g x1 x2 x3 v10 else ob_b1 (ob_ld g 5 5 x1) fun v9 => f_X7_man_J60 g x1 x2 x3 v9
def f_X7_man (g : Mm) (x1 x2 x3 : Int32) : Option (Int32 × Mm) := ob_b1 (f_X7_isMan x1) fun v1 => if v1 = 0 then some ((-1), g) else ob_b1 (f_X7_in x2 0 1) fun v3 => if v3 = 0 then some ((-2), g) else if x2 = 0 then f_X7_man_J32 g x1 x2 x3 63 0 x3 else f_X7_man_J32 g x1 x2 x3 1023 0 x3
def f_X7_fitOf_J36 (g : Mm) (k4 : Int32 → Int32 → Int32 → Option (Int32)) (x1 x3 s0 s1 : Int32) : Option (Int32) := k4 x1 (s1 ||| s0) (x3 + 1)
def f_X7_fitOf_L4 (g : Mm) : Nat → Int32 → Int32 → Int32 → Option (Int32)
  | 0, _, _, _ => none
  | n + 1, x1, x2, x3 => if (10 : Int32) ≤ x3 then some x2 else ob_b1 (ob_ld g 3 10 x3) fun v2 => ob_b1 (ob_ld g 4 5 x1) fun v3 => if (v2 &&& (v3 ^^^ (-1))) = 0 then f_X7_fitOf_J36 g (f_X7_fitOf_L4 g n) x1 x3 ((1 : Int32) <<< (x3 &&& 31)) x2 else f_X7_fitOf_J36 g (f_X7_fitOf_L4 g n) x1 x3 0 x2
def f_X7_fitOf (g : Mm) (x1 : Int32) : Option (Int32) := f_X7_fitOf_L4 g FU x1 0 0
def f_X7_fit (g : Mm) (x1 : Int32) : Option (Int32) := ob_b1 (f_X7_isMan x1) fun v1 => if v1 = 0 then some (-1) else ob_b1 (f_X7_fitOf g x1) fun v3 => some v3
def f_X7_whyNot_J97 (g : Mm) (k63 : Int32 → Int32 → Int32 → Int32 → Int32 → Option (Int32)) (x1 x2 x3 x5 s0 : Int32) : Option (Int32) := k63 x1 x2 x3 s0 (x5 + 1)
def f_X7_whyNot_J92 (g : Mm) (k63 : Int32 → Int32 → Int32 → Int32 → Int32 → Option (Int32)) (x1 x2 x3 x5 : Int32) : Option (Int32) := f_X7_whyNot_J97 g k63 x1 x2 x3 x5 1
def f_X7_whyNot_L63 (g : Mm) (k147 : Int32 → Int32 → Int32 → Int32 → Option (Int32)) : Nat → Int32 → Int32 → Int32 → Int32 → Int32 → Option (Int32)
  | 0, _, _, _, _, _ => none
  | n + 1, x1, x2, x3, x4, x5 => if x1 ≤ x5 then if x1 ≤ 0 then if (g 0 0) ≤ 2 then k147 x2 x3 x4 (-6) else ob_b1 (ob_ld g 1 40 2) fun v11 => k147 x2 x3 x4 (v11 - 48) else ob_b1 (ob_ld g 1 40 ((2 * x1) - 2)) fun v12 => k147 x2 x3 x4 (v12 - 48) else if x4 = 0 then ob_b1 (ob_ld g 1 40 ((2 * x5) + 1)) fun v14 => if (v14 - 97) = x3 then f_X7_whyNot_J92 g (f_X7_whyNot_L63 g k147 n) x1 x2 x3 x5 else f_X7_whyNot_J97 g (f_X7_whyNot_L63 g k147 n) x1 x2 x3 x5 0 else f_X7_whyNot_J92 g (f_X7_whyNot_L63 g k147 n) x1 x2 x3 x5
def f_X7_whyNot_J180 (g : Mm) (x2 x3 : Int32) : Option (Int32) := ob_b1 (ob_ld g 5 5 x2) fun v21 => ob_b1 (f_X7_has v21 x3) fun v22 => if v22 = 0 then some 4 else some 0
def f_X7_whyNot_J147 (g : Mm) (x2 x3 x4 s0 : Int32) : Option (Int32) := if x4 = 0 then if s0 < 0 then f_X7_whyNot_J180 g x2 x3 else ob_b1 (f_X7_fitOf g s0) fun v18 => ob_b1 (f_X7_has v18 x3) fun v19 => if v19 = 0 then some 3 else f_X7_whyNot_J180 g x2 x3 else some 2
def f_X7_whyNot_J57 (g : Mm) (x1 x2 x3 : Int32) : Option (Int32) := f_X7_whyNot_L63 g (f_X7_whyNot_J147 g) FU x1 x2 x3 0 0
def f_X7_whyNot (g : Mm) (x1 : Int32) : Option (Int32) := ob_b1 (ob_ld g 1 40 (2 * x1)) fun v1 => ob_b1 (ob_ld g 1 40 ((2 * x1) + 1)) fun v2 => if x1 ≤ 0 then f_X7_whyNot_J57 g x1 (v1 - 48) (v2 - 97) else ob_b1 (ob_ld g 1 40 ((2 * x1) - 1)) fun v4 => ob_b1 (ob_ld g 2 10 (v4 - 97)) fun v5 => ob_b1 (f_X7_has v5 (v2 - 97)) fun v6 => if v6 = 0 then some 1 else f_X7_whyNot_J57 g x1 (v1 - 48) (v2 - 97)
def f_X7_judge_L24 (g : Mm) : Nat → Int32 → Int32 → Option (Int32)
  | 0, _, _ => none
  | n + 1, x1, x2 => if (g 0 0) ≤ (2 * x2) then some (-6) else ob_b1 (f_X7_whyNot g x2) fun v6 => if v6 ≤ 0 then f_X7_judge_L24 g n x1 (x2 + 1) else if x1 = 0 then some x2 else some v6
def f_X7_judge (g : Mm) (x1 : Int32) : Option (Int32) := ob_b1 (f_X7_in x1 0 1) fun v1 => if v1 = 0 then some (-2) else ob_b1 (f_X7_quarrelFault g) fun v3 => if v3 < 0 then f_X7_judge_L24 g FU x1 0 else some (-5)
def f_X7_at (x0 x1 x2 : Int32) : Option (Int32) := some ((((10 * x0) + x1) * 1024) + x2)
def f_X7_isBetter_J25 (x1 x2 x3 s0 : Int32) : Option (Int32) := if x3 = s0 then if x3 = 0 then if x2 ≤ x1 then some 0 else some 1 else if x1 ≤ x2 then some 0 else some 1 else ob_b1 (ob_zb s0) fun _ => some s0
def f_X7_isBetter_J12 (x0 x1 x2 s0 : Int32) : Option (Int32) := if (x2 - x2 / 2 * 2) = x0 then f_X7_isBetter_J25 x1 x2 s0 1 else f_X7_isBetter_J25 x1 x2 s0 0
def f_X7_isBetter (x0 x1 x2 : Int32) : Option (Int32) := if (x1 - x1 / 2 * 2) = x0 then f_X7_isBetter_J12 x0 x1 x2 1 else f_X7_isBetter_J12 x0 x1 x2 0
def f_X7_bestOf_J78 (k13 : Mm → Int32 → Int32 → Int32 → Int32 → Int32 → Option (Int32 × Mm)) (g : Mm) (x1 x2 x3 x4 x5 : Int32) : Option (Int32 × Mm) := k13 g x1 x2 x3 x4 (x5 + 1)
def f_X7_bestOf_J68 (k13 : Mm → Int32 → Int32 → Int32 → Int32 → Int32 → Option (Int32 × Mm)) (g : Mm) (x1 x2 x3 x5 x6 : Int32) : Option (Int32 × Mm) := f_X7_bestOf_J78 k13 (ob_up g 0 8 x5) x1 x2 x3 x6 x5
def f_X7_bestOf_L13 : Nat → Mm → Int32 → Int32 → Int32 → Int32 → Int32 → Option (Int32 × Mm)
  | 0, _, _, _, _, _, _ => none
  | n + 1, g, x1, x2, x3, x4, x5 => if (10 : Int32) ≤ x5 then if (0 : Int32) ≤ x4 then some (x4, g) else some (x1, g) else ob_b1 (f_X7_has x2 x5) fun v3 => if v3 = 0 then f_X7_bestOf_J78 (f_X7_bestOf_L13 n) g x1 x2 x3 x4 x5 else ob_b1 (f_X7_at (1 - x1) x5 (x3 ||| ((1 : Int32) <<< (x5 &&& 31)))) fun v5 => ob_b1 (ob_ld g 6 20480 v5) fun v6 => if x4 < 0 then f_X7_bestOf_J68 (f_X7_bestOf_L13 n) g x1 x2 x3 x5 (v6 + 2) else ob_b1 (f_X7_isBetter x1 (v6 + 2) x4) fun v8 => if v8 = 0 then f_X7_bestOf_J78 (f_X7_bestOf_L13 n) g x1 x2 x3 x4 x5 else f_X7_bestOf_J68 (f_X7_bestOf_L13 n) g x1 x2 x3 x5 (v6 + 2)
def f_X7_bestOf (g : Mm) (x1 x2 x3 : Int32) : Option (Int32 × Mm) := f_X7_bestOf_L13 FU (ob_up g 0 8 (-6)) x1 x2 x3 (-6) 0
def f_X7_layMatch_L57 (k117 : Mm → Int32 → Int32 → Option (Mm)) : Nat → Mm → Int32 → Int32 → Int32 → Option (Mm)
  | 0, _, _, _, _ => none
  | n + 1, g, x3, x4, x5 => if (2 : Int32) ≤ x5 then k117 g x3 x4 else ob_b1 (f_X7_has x3 x4) fun v10 => if v10 = 0 then k117 g x3 x4 else ob_b1 (f_X7_at x5 x4 x3) fun v12 => ob_b1 (ob_ld g 2 10 x4) fun v13 => ob_b1 (ob_ld g 7 2 x5) fun v14 => ob_b2 (f_X7_bestOf g x5 ((v13 &&& v14) &&& (x3 ^^^ (-1))) x3) fun v15 g15 => ob_b1 (ob_st g15 6 20480 v12 v15) fun g16 => f_X7_layMatch_L57 k117 n g16 x3 x4 (x5 + 1)
def f_X7_layMatch_J117 (k47 : Mm → Int32 → Int32 → Option (Mm)) (g : Mm) (x3 x4 : Int32) : Option (Mm) := k47 g x3 (x4 + 1)
def f_X7_layMatch_L47 (k40 : Mm → Int32 → Option (Mm)) : Nat → Mm → Int32 → Int32 → Option (Mm)
  | 0, _, _, _ => none
  | n + 1, g, x3, x4 => if (10 : Int32) ≤ x4 then k40 g (x3 + (-1)) else f_X7_layMatch_L57 (f_X7_layMatch_J117 (f_X7_layMatch_L47 k40 n)) FU g x3 x4 0
def f_X7_layMatch_L40 : Nat → Mm → Int32 → Option (Mm)
  | 0, _, _ => none
  | n + 1, g, x3 => if x3 ≤ 0 then some g else f_X7_layMatch_L47 (f_X7_layMatch_L40 n) FU g x3 0
def f_X7_layMatch (g : Mm) (x1 x2 : Int32) : Option (Mm) := ob_b1 (ob_ld g 5 5 x1) fun v1 => ob_b1 (f_X7_fitOf g x2) fun v2 => ob_b1 (ob_st g 7 2 0 (v1 &&& v2)) fun g3 => ob_b1 (ob_ld g3 5 5 x2) fun v4 => ob_b1 (f_X7_fitOf g3 x1) fun v5 => ob_b1 (ob_st g3 7 2 1 (v4 &&& v5)) fun g6 => f_X7_layMatch_L40 FU g6 1023
def f_X7_toldOf (x0 x1 x2 x3 x4 : Int32) : Option (Int32) := if x1 = 0 then if (x0 - x0 / 2 * 2) = 0 then some x2 else some x3 else if x1 = 1 then some (x0 / 2) else some x4
def f_X7_match (g : Mm) (x1 x2 x3 : Int32) : Option (Int32 × Mm) := ob_b1 (f_X7_areTwo x1 x2) fun v1 => if v1 = 0 then some ((-1), g) else ob_b1 (f_X7_in x3 0 2) fun v3 => if v3 = 0 then some ((-2), g) else ob_b1 (f_X7_layMatch g x1 x2) fun g5 => ob_b1 (ob_ld g5 7 2 0) fun v6 => ob_b2 (f_X7_bestOf g5 0 v6 0) fun v7 g7 => ob_b1 (f_X7_toldOf v7 x3 x1 x2 (g7 0 8)) fun v8 => some (v8, g7)
def f_X7_middle (g : Mm) (x1 x2 x3 x4 x5 : Int32) : Option (Int32 × Mm) := ob_b1 (f_X7_areTwo x1 x2) fun v1 => if v1 = 0 then some ((-1), g) else ob_b1 (f_X7_isInsult x3) fun v3 => if v3 = 0 then some ((-1), g) else ob_b1 (f_X7_in x4 0 1023) fun v5 => if v5 = 0 then some ((-2), g) else ob_b1 (f_X7_has x4 x3) fun v7 => if v7 = 0 then some ((-2), g) else ob_b1 (f_X7_in x5 0 2) fun v9 => if v9 = 0 then some ((-2), g) else ob_b1 (f_X7_layMatch g x1 x2) fun g11 => ob_b1 (ob_ld g11 2 10 x3) fun v12 => ob_b1 (ob_ld g11 7 2 0) fun v13 => ob_b2 (f_X7_bestOf g11 0 ((v12 &&& v13) &&& (x4 ^^^ (-1))) x4) fun v14 g14 => ob_b1 (f_X7_toldOf v14 x5 x1 x2 (g14 0 8)) fun v15 => some (v15, g14)
def f_X7_last_J185 (k103 : Mm → Int32 → Int32 → Int32 → Int32 → Int32 → Int32 → Option (Int32 × Mm)) (g : Mm) (x3 x4 x5 x6 x8 s0 : Int32) : Option (Int32 × Mm) := k103 g x3 x4 x5 x6 s0 (x8 + 1)
def f_X7_last_J169 (k103 : Mm → Int32 → Int32 → Int32 → Int32 → Int32 → Int32 → Option (Int32 × Mm)) (g : Mm) (x3 x4 x5 x6 x7 x8 s0 : Int32) : Option (Int32 × Mm) := if s0 ≤ x7 then f_X7_last_J185 k103 g x3 x4 x5 x6 x8 x7 else f_X7_last_J185 k103 g x3 x4 x5 x6 x8 s0
def f_X7_last_L103 (k81 : Mm → Int32 → Int32 → Int32 → Int32 → Option (Int32 × Mm)) : Nat → Mm → Int32 → Int32 → Int32 → Int32 → Int32 → Int32 → Option (Int32 × Mm)
  | 0, _, _, _, _, _, _, _ => none
  | n + 1, g, x3, x4, x5, x6, x7, x8 => if (10 : Int32) ≤ x8 then ob_b1 (f_X7_at x6 x5 x4) fun v26 => ob_b1 (ob_st g 6 20480 v26 x7) fun g27 => k81 g27 x3 x4 x5 (x6 + 1) else ob_b1 (ob_ld g 2 10 x5) fun v28 => ob_b1 (ob_ld g 7 2 x6) fun v29 => ob_b1 (f_X7_has ((v28 &&& v29) &&& (x4 ^^^ (-1))) x8) fun v30 => if v30 = 0 then f_X7_last_J169 (f_X7_last_L103 k81 n) g x3 x4 x5 x6 x7 x8 0 else ob_b1 (f_X7_at (1 - x6) x8 (x4 ||| ((1 : Int32) <<< (x8 &&& 31)))) fun v32 => ob_b1 (ob_ld g 6 20480 v32) fun v33 => f_X7_last_J169 (f_X7_last_L103 k81 n) g x3 x4 x5 x6 x7 x8 (v33 + 1)
def f_X7_last_L81 (k215 : Mm → Int32 → Int32 → Int32 → Option (Int32 × Mm)) : Nat → Mm → Int32 → Int32 → Int32 → Int32 → Option (Int32 × Mm)
  | 0, _, _, _, _, _ => none
  | n + 1, g, x3, x4, x5, x6 => if (2 : Int32) ≤ x6 then k215 g x3 x4 x5 else ob_b1 (f_X7_has x4 x5) fun v22 => if v22 = 0 then k215 g x3 x4 x5 else f_X7_last_L103 (f_X7_last_L81 k215 n) FU g x3 x4 x5 x6 0 0
def f_X7_last_J215 (k71 : Mm → Int32 → Int32 → Int32 → Option (Int32 × Mm)) (g : Mm) (x3 x4 x5 : Int32) : Option (Int32 × Mm) := k71 g x3 x4 (x5 + 1)
def f_X7_last_L71 (k63 : Mm → Int32 → Int32 → Option (Int32 × Mm)) : Nat → Mm → Int32 → Int32 → Int32 → Option (Int32 × Mm)
  | 0, _, _, _, _ => none
  | n + 1, g, x3, x4, x5 => if (10 : Int32) ≤ x5 then k63 g x3 (x4 + (-1)) else f_X7_last_L81 (f_X7_last_J215 (f_X7_last_L71 k63 n)) FU g x3 x4 x5 0
def f_X7_last_L63 (k237 : Mm → Int32 → Int32 → Int32 → Int32 → Option (Int32 × Mm)) : Nat → Mm → Int32 → Int32 → Option (Int32 × Mm)
  | 0, _, _, _ => none
  | n + 1, g, x3, x4 => if x4 ≤ 0 then k237 g x3 0 (-6) 0 else f_X7_last_L71 (f_X7_last_L63 k237 n) FU g x3 x4 0
def f_X7_last_J311 (k237 : Mm → Int32 → Int32 → Int32 → Int32 → Option (Int32 × Mm)) (g : Mm) (x3 x5 x6 s0 : Int32) : Option (Int32 × Mm) := k237 g x3 s0 x5 (x6 + 1)
def f_X7_last_J295 (k237 : Mm → Int32 → Int32 → Int32 → Int32 → Option (Int32 × Mm)) (g : Mm) (x3 x4 x6 x7 s0 : Int32) : Option (Int32 × Mm) := if x7 ≤ x4 then f_X7_last_J311 k237 g x3 s0 x6 x4 else f_X7_last_J311 k237 g x3 s0 x6 x7
def f_X7_last_J279 (k237 : Mm → Int32 → Int32 → Int32 → Int32 → Option (Int32 × Mm)) (g : Mm) (x3 x4 x5 x6 s0 : Int32) : Option (Int32 × Mm) := if s0 ≤ x4 then f_X7_last_J295 k237 g x3 x4 x6 s0 x5 else f_X7_last_J295 k237 g x3 x4 x6 s0 x6
def f_X7_last_L237 : Nat → Mm → Int32 → Int32 → Int32 → Int32 → Option (Int32 × Mm)
  | 0, _, _, _, _, _ => none
  | n + 1, g, x3, x4, x5, x6 => if (10 : Int32) ≤ x6 then if x3 = 0 then some (x4, g) else some (x5, g) else ob_b1 (ob_ld g 7 2 0) fun v14 => ob_b1 (f_X7_has v14 x6) fun v15 => if v15 = 0 then f_X7_last_J279 (f_X7_last_L237 n) g x3 x4 x5 x6 0 else ob_b1 (f_X7_at 1 x6 ((1 : Int32) <<< (x6 &&& 31))) fun v17 => ob_b1 (ob_ld g 6 20480 v17) fun v18 => f_X7_last_J279 (f_X7_last_L237 n) g x3 x4 x5 x6 (v18 + 1)
def f_X7_last (g : Mm) (x1 x2 x3 : Int32) : Option (Int32 × Mm) := ob_b1 (f_X7_areTwo x1 x2) fun v1 => if v1 = 0 then some ((-1), g) else ob_b1 (f_X7_in x3 0 1) fun v3 => if v3 = 0 then some ((-2), g) else ob_b1 (ob_ld g 5 5 x1) fun v5 => ob_b1 (f_X7_fitOf g x2) fun v6 => ob_b1 (ob_st g 7 2 0 (v5 &&& v6)) fun g7 => ob_b1 (ob_ld g7 5 5 x2) fun v8 => ob_b1 (f_X7_fitOf g7 x1) fun v9 => ob_b1 (ob_st g7 7 2 1 (v8 &&& v9)) fun g10 => f_X7_last_L63 (f_X7_last_L237 FU) FU g10 x3 1023
def f_X7_payer (g : Mm) (x1 x2 : Int32) : Option (Int32 × Mm) := ob_b1 (f_X7_layMatch g x1 x2) fun g1 => ob_b1 (ob_ld g1 7 2 0) fun v2 => ob_b2 (f_X7_bestOf g1 0 v2 0) fun v3 g3 => if (v3 - v3 / 2 * 2) = 0 then some (x1, g3) else some (x2, g3)
def f_X7_sent_J67 (k14 : Mm → Int32 → Int32 → Int32 → Int32 → Option (Int32 × Mm)) (g : Mm) (x1 x2 x3 x4 : Int32) : Option (Int32 × Mm) := k14 g x1 x2 x3 (x4 + 1)
def f_X7_sent_J65 (k14 : Mm → Int32 → Int32 → Int32 → Int32 → Option (Int32 × Mm)) (g : Mm) (x1 x2 x4 s0 s1 : Int32) : Option (Int32 × Mm) := f_X7_sent_J67 k14 g x1 x2 (s1 ||| s0) x4
def f_X7_sent_J47 (k14 : Mm → Int32 → Int32 → Int32 → Int32 → Option (Int32 × Mm)) (g : Mm) (x1 x2 x3 x4 s0 : Int32) : Option (Int32 × Mm) := if s0 = x4 then f_X7_sent_J65 k14 g x1 x2 x4 0 x3 else f_X7_sent_J65 k14 g x1 x2 x4 ((1 : Int32) <<< (x4 &&& 31)) x3
def f_X7_sent_L14 : Nat → Mm → Int32 → Int32 → Int32 → Int32 → Option (Int32 × Mm)
  | 0, _, _, _, _, _ => none
  | n + 1, g, x1, x2, x3, x4 => if (5 : Int32) ≤ x4 then some (x3, g) else if x4 = x1 then f_X7_sent_J67 (f_X7_sent_L14 n) g x1 x2 x3 x4 else if x2 = 0 then ob_b2 (f_X7_payer g x1 x4) fun v6 g6 => f_X7_sent_J47 (f_X7_sent_L14 n) g6 x1 x2 x3 x4 v6 else ob_b2 (f_X7_payer g x4 x1) fun v7 g7 => f_X7_sent_J47 (f_X7_sent_L14 n) g7 x1 x2 x3 x4 v7
def f_X7_sent (g : Mm) (x1 x2 : Int32) : Option (Int32 × Mm) := ob_b1 (f_X7_isMan x1) fun v1 => if v1 = 0 then some ((-1), g) else f_X7_sent_L14 FU g x1 x2 0 0
def f_X7_safe_J34 (g : Mm) (k13 : Int32 → Int32 → Int32 → Option (Int32)) (x1 x3 s0 s1 : Int32) : Option (Int32) := k13 x1 (s1 ||| s0) (x3 + 1)
def f_X7_safe_L13 (g : Mm) : Nat → Int32 → Int32 → Int32 → Option (Int32)
  | 0, _, _, _ => none
  | n + 1, x1, x2, x3 => if (5 : Int32) ≤ x3 then ob_b1 (f_X7_fitOf g x1) fun v4 => if (x2 &&& v4) = 0 then some 1 else some 0 else if x3 = x1 then f_X7_safe_J34 g (f_X7_safe_L13 g n) x1 x3 0 x2 else ob_b1 (ob_ld g 5 5 x3) fun v7 => f_X7_safe_J34 g (f_X7_safe_L13 g n) x1 x3 v7 x2
def f_X7_safe (g : Mm) (x1 : Int32) : Option (Int32) := ob_b1 (f_X7_isMan x1) fun v1 => if v1 = 0 then some (-1) else f_X7_safe_L13 g FU x1 0 0
def f_X7_freeMatches_J50 (k4 : Mm → Int32 → Int32 → Int32 → Option (Int32 × Mm)) (g : Mm) (x1 x2 x3 : Int32) : Option (Int32 × Mm) := k4 g x1 x2 (x3 + 1)
def f_X7_freeMatches_J48 (k4 : Mm → Int32 → Int32 → Int32 → Option (Int32 × Mm)) (g : Mm) (x1 x3 s0 s1 : Int32) : Option (Int32 × Mm) := f_X7_freeMatches_J50 k4 g x1 (s1 + s0) x3
def f_X7_freeMatches_J30 (k4 : Mm → Int32 → Int32 → Int32 → Option (Int32 × Mm)) (g : Mm) (x1 x3 s0 s1 : Int32) : Option (Int32 × Mm) := ob_b2 (f_X7_payer g x3 x1) fun v5 g5 => if v5 = x1 then f_X7_freeMatches_J48 k4 g5 x1 x3 0 (s1 + s0) else f_X7_freeMatches_J48 k4 g5 x1 x3 1 (s1 + s0)
def f_X7_freeMatches_L4 : Nat → Mm → Int32 → Int32 → Int32 → Option (Int32 × Mm)
  | 0, _, _, _, _ => none
  | n + 1, g, x1, x2, x3 => if (5 : Int32) ≤ x3 then some (x2, g) else if x3 = x1 then f_X7_freeMatches_J50 (f_X7_freeMatches_L4 n) g x1 x2 x3 else ob_b2 (f_X7_payer g x1 x3) fun v3 g3 => if v3 = x1 then f_X7_freeMatches_J30 (f_X7_freeMatches_L4 n) g3 x1 x3 0 x2 else f_X7_freeMatches_J30 (f_X7_freeMatches_L4 n) g3 x1 x3 1 x2
def f_X7_freeMatches (g : Mm) (x1 : Int32) : Option (Int32 × Mm) := f_X7_freeMatches_L4 FU g x1 0 0
def f_X7_worth (g : Mm) (x1 x2 : Int32) : Option (Int32 × Mm) := ob_b1 (f_X7_isInsult x1) fun v1 => if v1 = 0 then some ((-1), g) else ob_b1 (f_X7_isMan x2) fun v3 => if v3 = 0 then some ((-1), g) else ob_b1 (ob_ld g 5 5 x2) fun v5 => ob_b1 (f_X7_has v5 x1) fun v6 => if v6 = 0 then ob_b2 (f_X7_freeMatches g x2) fun v8 g8 => ob_b1 (ob_ld g8 5 5 x2) fun v9 => ob_b1 (ob_st g8 5 5 x2 (v9 ||| ((1 : Int32) <<< (x1 &&& 31)))) fun g10 => ob_b2 (f_X7_freeMatches g10 x2) fun v11 g11 => ob_b1 (ob_ld g11 5 5 x2) fun v12 => ob_b1 (ob_st g11 5 5 x2 (v12 &&& (((1 : Int32) <<< (x1 &&& 31)) ^^^ (-1)))) fun g13 => some (((v11 - v8) + 100), g13) else some ((-3), g)
def f_X7_fitsAt_J146 (g : Mm) (k119 : Int32 → Int32 → Int32 → Int32 → Option (Int32)) (x1 x3 x5 s0 : Int32) : Option (Int32) := k119 x1 x3 s0 (x5 + 1)
def f_X7_fitsAt_J145 (g : Mm) (k119 : Int32 → Int32 → Int32 → Int32 → Option (Int32)) (x1 x3 x5 : Int32) : Option (Int32) := f_X7_fitsAt_J146 g k119 x1 x3 x5 0
def f_X7_fitsAt_L119 (g : Mm) : Nat → Int32 → Int32 → Int32 → Int32 → Option (Int32)
  | 0, _, _, _, _ => none
  | n + 1, x1, x3, x4, x5 => if x1 ≤ x5 then ob_b1 (ob_zb x4) fun _ => some x4 else if x4 = 0 then f_X7_fitsAt_J145 g (f_X7_fitsAt_L119 g n) x1 x3 x5 else ob_b1 (ob_ld g 9 5 x5) fun v24 => if v24 = x3 then f_X7_fitsAt_J145 g (f_X7_fitsAt_L119 g n) x1 x3 x5 else f_X7_fitsAt_J146 g (f_X7_fitsAt_L119 g n) x1 x3 x5 1
def f_X7_fitsAt_J116 (g : Mm) (x1 x3 x4 : Int32) : Option (Int32) := f_X7_fitsAt_L119 g FU x1 x3 x4 0
def f_X7_fitsAt_J77 (g : Mm) (x1 x3 s0 : Int32) : Option (Int32) := f_X7_fitsAt_J116 g x1 x3 s0
def f_X7_fitsAt_J76 (g : Mm) (x1 x3 : Int32) : Option (Int32) := f_X7_fitsAt_J77 g x1 x3 0
def f_X7_fitsAt_J114 (g : Mm) (x1 x3 s0 : Int32) : Option (Int32) := f_X7_fitsAt_J116 g x1 x3 s0
def f_X7_fitsAt_J113 (g : Mm) (x1 x3 : Int32) : Option (Int32) := f_X7_fitsAt_J114 g x1 x3 0
def f_X7_fitsAt (g : Mm) (x1 x2 : Int32) : Option (Int32) := ob_b1 (ob_ld g 9 5 x1) fun v1 => ob_b1 (ob_ld g 8 5 x1) fun v2 => ob_b1 (ob_ld g 5 5 v2) fun v3 => ob_b1 (f_X7_has v3 v1) fun v4 => if x1 ≤ 0 then if x2 ≤ 1 then f_X7_fitsAt_J116 g x1 v1 v4 else if v4 = 0 then f_X7_fitsAt_J113 g x1 v1 else ob_b1 (ob_ld g 8 5 1) fun v8 => ob_b1 (f_X7_fitOf g v8) fun v9 => ob_b1 (f_X7_has v9 v1) fun v10 => if v10 = 0 then f_X7_fitsAt_J113 g x1 v1 else f_X7_fitsAt_J114 g x1 v1 1 else if v4 = 0 then f_X7_fitsAt_J76 g x1 v1 else ob_b1 (ob_ld g 9 5 (x1 - 1)) fun v13 => ob_b1 (ob_ld g 2 10 v13) fun v14 => ob_b1 (f_X7_has v14 v1) fun v15 => if v15 = 0 then f_X7_fitsAt_J76 g x1 v1 else ob_b1 (ob_ld g 8 5 (x1 - 1)) fun v17 => ob_b1 (f_X7_fitOf g v17) fun v18 => ob_b1 (f_X7_has v18 v1) fun v19 => if v19 = 0 then f_X7_fitsAt_J76 g x1 v1 else f_X7_fitsAt_J77 g x1 v1 1
def f_X7_canSay_L9 (k72 : Mm → Int32 → Int32 → Option (Int32 × Mm)) : Nat → Mm → Int32 → Int32 → Option (Int32 × Mm)
  | 0, _, _, _ => none
  | n + 1, g, x1, x2 => if x2 < 0 then k72 g x1 x2 else if x1 ≤ x2 then k72 g x1 x2 else ob_b1 (ob_ld g 9 5 x2) fun v4 => ob_b1 (ob_st g 9 5 x2 (v4 + 1)) fun g5 => ob_b1 (ob_ld g5 9 5 x2) fun v6 => if v6 ≤ 9 then ob_b1 (f_X7_fitsAt g5 x2 x1) fun v8 => if v8 = 0 then f_X7_canSay_L9 k72 n g5 x1 x2 else if x1 ≤ (x2 + 1) then f_X7_canSay_L9 k72 n g5 x1 (x2 + 1) else ob_b1 (ob_st g5 9 5 (x2 + 1) (-1)) fun g11 => f_X7_canSay_L9 k72 n g11 x1 (x2 + 1) else f_X7_canSay_L9 k72 n g5 x1 (x2 + (-1))
def f_X7_canSay_J72 (g : Mm) (x1 x2 : Int32) : Option (Int32 × Mm) := if x2 = x1 then some (1, g) else some (0, g)
def f_X7_canSay (g : Mm) (x1 : Int32) : Option (Int32 × Mm) := ob_b1 (ob_st g 9 5 0 (-1)) fun g1 => f_X7_canSay_L9 (f_X7_canSay_J72) FU g1 x1 0
def f_X7_layRow_L9 : Nat → Mm → Int32 → Int32 → Int32 → Int32 → Int32 → Option (Int32 × Mm)
  | 0, _, _, _, _, _, _ => none
  | n + 1, g, x2, x3, x4, x5, x6 => if x3 ≤ x6 then if x5 = x2 then ob_b1 (f_X7_bits x5) fun v3 => if v3 = x3 then some (1, g) else some (0, g) else some (0, g) else ob_b1 (ob_st g 8 5 x6 (x4 - x4 / 5 * 5)) fun g5 => ob_b1 (ob_ld g5 8 5 x6) fun v6 => f_X7_layRow_L9 n g5 x2 x3 (x4 / 5) (x5 ||| ((1 : Int32) <<< (v6 &&& 31))) (x6 + 1)
def f_X7_layRow (g : Mm) (x1 x2 x3 : Int32) : Option (Int32 × Mm) := f_X7_layRow_L9 FU g x2 x3 x1 0 0
def f_X7_layDay_L10 (k40 : Mm → Int32 → Int32 → Int32 → Int32 → Int32 → Option (Mm)) : Nat → Mm → Int32 → Int32 → Int32 → Int32 → Option (Mm)
  | 0, _, _, _, _, _ => none
  | n + 1, g, x1, x2, x3, x4 => if x2 ≤ x4 then if x2 = 0 then k40 g x1 x2 x3 1 x1 else k40 g x1 x2 x3 0 x1 else f_X7_layDay_L10 k40 n g x1 x2 (x3 * 5) (x4 + 1)
def f_X7_layDay_J88 (k44 : Mm → Int32 → Int32 → Int32 → Int32 → Option (Mm)) (g : Mm) (x1 x2 x3 x4 s0 s1 : Int32) : Option (Mm) := ob_b1 (ob_sz g 10 32 s1 s0) fun g12 => k44 g12 x1 x2 x3 (x4 + 1)
def f_X7_layDay_J87 (k44 : Mm → Int32 → Int32 → Int32 → Int32 → Option (Mm)) (g : Mm) (x1 x2 x3 x4 s0 : Int32) : Option (Mm) := f_X7_layDay_J88 k44 g x1 x2 x3 x4 0 s0
def f_X7_layDay_L44 : Nat → Mm → Int32 → Int32 → Int32 → Int32 → Option (Mm)
  | 0, _, _, _, _, _ => none
  | n + 1, g, x1, x2, x3, x4 => if x3 ≤ x4 then some g else ob_b1 (ob_ld g 10 32 x1) fun v6 => if v6 = 0 then ob_b2 (f_X7_layRow g x4 x1 x2) fun v8 g8 => if v8 = 0 then f_X7_layDay_J87 (f_X7_layDay_L44 n) g8 x1 x2 x3 x4 x1 else ob_b2 (f_X7_canSay g8 x2) fun v10 g10 => if v10 = 0 then f_X7_layDay_J87 (f_X7_layDay_L44 n) g10 x1 x2 x3 x4 x1 else f_X7_layDay_J88 (f_X7_layDay_L44 n) g10 x1 x2 x3 x4 1 x1 else some g
def f_X7_layDay_J40 (g : Mm) (x1 x2 x3 s0 s1 : Int32) : Option (Mm) := ob_b1 (ob_sz g 10 32 s1 s0) fun g4 => f_X7_layDay_L44 FU g4 x1 x2 x3 0
def f_X7_layDay (g : Mm) (x1 : Int32) : Option (Mm) := ob_b1 (f_X7_bits x1) fun v1 => f_X7_layDay_L10 (f_X7_layDay_J40) FU g x1 v1 1 0
def f_X7_crowd_J169 (k24 : Mm → Int32 → Int32 → Int32 → Option (Int32 × Mm)) (g : Mm) (x1 x2 x3 : Int32) : Option (Int32 × Mm) := k24 g x1 x2 (x3 + 1)
def f_X7_crowd_J163 (k62 : Mm → Int32 → Int32 → Int32 → Int32 → Option (Int32 × Mm)) (g : Mm) (x1 x2 x3 x4 : Int32) : Option (Int32 × Mm) := k62 g x1 x2 x3 (x4 + 1)
def f_X7_crowd_J144 (k62 : Mm → Int32 → Int32 → Int32 → Int32 → Option (Int32 × Mm)) (g : Mm) (x1 x2 x3 x4 : Int32) : Option (Int32 × Mm) := ob_b1 (ob_ld g 11 32 (x3 &&& (x4 ^^^ (-1)))) fun v26 => ob_b1 (ob_st g 11 32 x3 (v26 + 1)) fun g27 => f_X7_crowd_J163 k62 g27 x1 x2 x3 x4
def f_X7_crowd_J106 (k62 : Mm → Int32 → Int32 → Int32 → Int32 → Option (Int32 × Mm)) (g : Mm) (x1 x2 x3 x4 s0 : Int32) : Option (Int32 × Mm) := if s0 = 0 then f_X7_crowd_J163 k62 g x1 x2 x3 x4 else ob_b1 (ob_ld g 11 32 x3) fun v21 => if v21 < 0 then f_X7_crowd_J144 k62 g x1 x2 x3 x4 else ob_b1 (ob_ld g 11 32 (x3 &&& (x4 ^^^ (-1)))) fun v23 => ob_b1 (ob_ld g 11 32 x3) fun v24 => if v24 ≤ (v23 + 1) then f_X7_crowd_J163 k62 g x1 x2 x3 x4 else f_X7_crowd_J144 k62 g x1 x2 x3 x4
def f_X7_crowd_J105 (k62 : Mm → Int32 → Int32 → Int32 → Int32 → Option (Int32 × Mm)) (g : Mm) (x1 x2 x3 x4 : Int32) : Option (Int32 × Mm) := f_X7_crowd_J106 k62 g x1 x2 x3 x4 0
def f_X7_crowd_L62 (k169 : Mm → Int32 → Int32 → Int32 → Option (Int32 × Mm)) : Nat → Mm → Int32 → Int32 → Int32 → Int32 → Option (Int32 × Mm)
  | 0, _, _, _, _, _ => none
  | n + 1, g, x1, x2, x3, x4 => if x3 < x4 then k169 g x1 x2 x3 else if (x4 &&& (x3 ^^^ (-1))) = 0 then ob_b1 (ob_ld g 10 32 x4) fun v16 => if v16 = 0 then f_X7_crowd_J105 (f_X7_crowd_L62 k169 n) g x1 x2 x3 x4 else ob_b1 (ob_ld g 11 32 (x3 &&& (x4 ^^^ (-1)))) fun v18 => if v18 < 0 then f_X7_crowd_J105 (f_X7_crowd_L62 k169 n) g x1 x2 x3 x4 else f_X7_crowd_J106 (f_X7_crowd_L62 k169 n) g x1 x2 x3 x4 1 else f_X7_crowd_J105 (f_X7_crowd_L62 k169 n) g x1 x2 x3 x4
def f_X7_crowd_J58 (k24 : Mm → Int32 → Int32 → Int32 → Option (Int32 × Mm)) (g : Mm) (x1 x2 x3 s0 s1 : Int32) : Option (Int32 × Mm) := ob_b1 (ob_st g 11 32 s1 s0) fun g13 => f_X7_crowd_L62 (f_X7_crowd_J169 k24) FU g13 x1 x2 x3 1
def f_X7_crowd_L24 : Nat → Mm → Int32 → Int32 → Int32 → Option (Int32 × Mm)
  | 0, _, _, _, _ => none
  | n + 1, g, x1, x2, x3 => if (32 : Int32) ≤ x3 then if x2 = 1 then ob_b1 (ob_ld g 11 32 x1) fun v9 => some (v9, g) else ob_b1 (ob_ld g 10 32 x1) fun v7 => if v7 = 0 then some (0, g) else some (1, g) else if (x3 &&& (x1 ^^^ (-1))) = 0 then ob_b1 (f_X7_layDay g x3) fun g11 => if x3 = 0 then f_X7_crowd_J58 (f_X7_crowd_L24 n) g11 x1 x2 x3 0 x3 else f_X7_crowd_J58 (f_X7_crowd_L24 n) g11 x1 x2 x3 (-6) x3 else f_X7_crowd_J169 (f_X7_crowd_L24 n) g x1 x2 x3
def f_X7_crowd (g : Mm) (x1 x2 : Int32) : Option (Int32 × Mm) := ob_b1 (f_X7_in x1 0 31) fun v1 => if v1 = 0 then some ((-2), g) else ob_b1 (f_X7_in x2 0 1) fun v3 => if v3 = 0 then some ((-2), g) else f_X7_crowd_L24 FU g x1 x2 0
def f_X7_reachOf_J46 (g : Mm) (k18 : Int32 → Int32 → Int32 → Option (Int32)) (x3 x4 s0 s1 : Int32) : Option (Int32) := k18 (s1 ||| s0) x3 (x4 + 1)
def f_X7_reachOf_L18 (g : Mm) (k9 : Int32 → Int32 → Option (Int32)) : Nat → Int32 → Int32 → Int32 → Option (Int32)
  | 0, _, _, _ => none
  | n + 1, x2, x3, x4 => if (10 : Int32) ≤ x4 then k9 x2 (x3 + 1) else ob_b1 (f_X7_has x2 x4) fun v4 => if v4 = 0 then f_X7_reachOf_J46 g (f_X7_reachOf_L18 g k9 n) x3 x4 0 x2 else ob_b1 (ob_ld g 2 10 x4) fun v6 => f_X7_reachOf_J46 g (f_X7_reachOf_L18 g k9 n) x3 x4 v6 x2
def f_X7_reachOf_L9 (g : Mm) : Nat → Int32 → Int32 → Option (Int32)
  | 0, _, _ => none
  | n + 1, x2, x3 => if (10 : Int32) ≤ x3 then some x2 else f_X7_reachOf_L18 g (f_X7_reachOf_L9 g n) FU x2 x3 0
def f_X7_reachOf (g : Mm) (x1 : Int32) : Option (Int32) := ob_b1 (ob_ld g 2 10 x1) fun v1 => f_X7_reachOf_L9 g FU v1 0
def f_X7_rings_J67 (g : Mm) (k16 : Int32 → Int32 → Int32 → Option (Int32)) (x1 x3 s0 s1 : Int32) : Option (Int32) := k16 x1 (s1 ||| s0) (x3 + 1)
def f_X7_rings_J52 (g : Mm) (k16 : Int32 → Int32 → Int32 → Option (Int32)) (x1 x2 x3 s0 : Int32) : Option (Int32) := if s0 = 0 then f_X7_rings_J67 g k16 x1 x3 0 x2 else f_X7_rings_J67 g k16 x1 x3 ((1 : Int32) <<< (x3 &&& 31)) x2
def f_X7_rings_L16 (g : Mm) : Nat → Int32 → Int32 → Int32 → Option (Int32)
  | 0, _, _, _ => none
  | n + 1, x1, x2, x3 => if (10 : Int32) ≤ x3 then some x2 else if x1 = 0 then ob_b1 (f_X7_reachOf g x3) fun v7 => ob_b1 (f_X7_has v7 x3) fun v8 => f_X7_rings_J52 g (f_X7_rings_L16 g n) x1 x2 x3 v8 else ob_b1 (ob_ld g 2 10 x3) fun v5 => if v5 = 0 then f_X7_rings_J52 g (f_X7_rings_L16 g n) x1 x2 x3 1 else f_X7_rings_J52 g (f_X7_rings_L16 g n) x1 x2 x3 0
def f_X7_rings (g : Mm) (x1 : Int32) : Option (Int32) := ob_b1 (f_X7_in x1 0 1) fun v1 => if v1 = 0 then some (-2) else f_X7_rings_L16 g FU x1 0 0
def f_X7_ladder_J94 (k28 : Mm → Int32 → Int32 → Int32 → Option (Int32 × Mm)) (g : Mm) (x1 x2 x3 : Int32) : Option (Int32 × Mm) := k28 g x1 x2 (x3 + 1)
def f_X7_ladder_J93 (k28 : Mm → Int32 → Int32 → Int32 → Option (Int32 × Mm)) (g : Mm) (x1 x2 x3 s0 s1 : Int32) : Option (Int32 × Mm) := ob_b1 (ob_st g 12 1024 s1 s0) fun g33 => f_X7_ladder_J94 k28 g33 x1 x2 x3
def f_X7_ladder_L28 (k13 : Mm → Int32 → Int32 → Option (Int32 × Mm)) : Nat → Mm → Int32 → Int32 → Int32 → Option (Int32 × Mm)
  | 0, _, _, _, _ => none
  | n + 1, g, x1, x2, x3 => if (10 : Int32) ≤ x3 then k13 g x1 (x2 + (-1)) else ob_b1 (f_X7_has x2 x3) fun v8 => if v8 = 0 then ob_b1 (ob_ld g 2 10 x3) fun v10 => ob_b1 (f_X7_bits (v10 &&& x2)) fun v11 => ob_b1 (ob_ld g 12 1024 (x2 ||| ((1 : Int32) <<< (x3 &&& 31)))) fun v12 => ob_b1 (ob_ld g 12 1024 x2) fun v13 => if v13 ≤ (v11 + v12) then ob_b1 (ob_ld g 12 1024 x2) fun v15 => f_X7_ladder_J93 (f_X7_ladder_L28 k13 n) g x1 x2 x3 v15 x2 else f_X7_ladder_J93 (f_X7_ladder_L28 k13 n) g x1 x2 x3 (v11 + v12) x2 else f_X7_ladder_J94 (f_X7_ladder_L28 k13 n) g x1 x2 x3
def f_X7_ladder_L13 (k122 : Mm → Int32 → Int32 → Int32 → Option (Int32 × Mm)) : Nat → Mm → Int32 → Int32 → Option (Int32 × Mm)
  | 0, _, _, _ => none
  | n + 1, g, x1, x2 => if x2 < 0 then if x1 = (-1) then ob_b1 (ob_ld g 12 1024 0) fun v4 => some (v4, g) else k122 g x1 0 0 else ob_b1 (ob_st g 12 1024 x2 1000) fun g5 => f_X7_ladder_L28 (f_X7_ladder_L13 k122 n) FU g5 x1 x2 0
def f_X7_ladder_J208 (k135 : Mm → Int32 → Int32 → Int32 → Int32 → Int32 → Option (Int32 × Mm)) (g : Mm) (x1 x2 x3 x5 s0 : Int32) : Option (Int32 × Mm) := k135 g x1 x2 x3 s0 (x5 + 1)
def f_X7_ladder_J194 (k135 : Mm → Int32 → Int32 → Int32 → Int32 → Int32 → Option (Int32 × Mm)) (g : Mm) (x1 x2 x3 x5 s0 : Int32) : Option (Int32 × Mm) := if s0 = 0 then f_X7_ladder_J208 k135 g x1 x2 x3 x5 (-6) else f_X7_ladder_J208 k135 g x1 x2 x3 x5 x5
def f_X7_ladder_J193 (k135 : Mm → Int32 → Int32 → Int32 → Int32 → Int32 → Option (Int32 × Mm)) (g : Mm) (x1 x2 x3 x5 : Int32) : Option (Int32 × Mm) := f_X7_ladder_J194 k135 g x1 x2 x3 x5 0
def f_X7_ladder_L135 (k216 : Mm → Int32 → Int32 → Int32 → Int32 → Option (Int32 × Mm)) : Nat → Mm → Int32 → Int32 → Int32 → Int32 → Int32 → Option (Int32 × Mm)
  | 0, _, _, _, _, _, _ => none
  | n + 1, g, x1, x2, x3, x4, x5 => if (10 : Int32) ≤ x5 then k216 g x1 x2 x3 x4 else if (0 : Int32) ≤ x4 then k216 g x1 x2 x3 x4 else ob_b1 (f_X7_has x2 x5) fun v26 => if v26 = 0 then ob_b1 (ob_ld g 2 10 x5) fun v28 => ob_b1 (f_X7_bits (v28 &&& x2)) fun v29 => ob_b1 (ob_ld g 12 1024 (x2 ||| ((1 : Int32) <<< (x5 &&& 31)))) fun v30 => ob_b1 (ob_ld g 12 1024 x2) fun v31 => if (v29 + v30) = v31 then f_X7_ladder_J194 (f_X7_ladder_L135 k216 n) g x1 x2 x3 x5 1 else f_X7_ladder_J193 (f_X7_ladder_L135 k216 n) g x1 x2 x3 x5 else f_X7_ladder_J193 (f_X7_ladder_L135 k216 n) g x1 x2 x3 x5
def f_X7_ladder_J216 (k122 : Mm → Int32 → Int32 → Int32 → Option (Int32 × Mm)) (g : Mm) (x1 x2 x3 x4 : Int32) : Option (Int32 × Mm) := ob_b1 (ob_st g 13 10 x4 x3) fun g34 => k122 g34 x1 (x2 ||| ((1 : Int32) <<< (x4 &&& 31))) (x3 + 1)
def f_X7_ladder_L122 (k242 : Mm → Int32 → Int32 → Int32 → Option (Int32 × Mm)) : Nat → Mm → Int32 → Int32 → Int32 → Option (Int32 × Mm)
  | 0, _, _, _, _ => none
  | n + 1, g, x1, x2, x3 => if (10 : Int32) ≤ x3 then k242 g x1 0 0 else f_X7_ladder_L135 (f_X7_ladder_J216 (f_X7_ladder_L122 k242 n)) FU g x1 x2 x3 (-6) 0
def f_X7_ladder_J304 (k242 : Mm → Int32 → Int32 → Int32 → Option (Int32 × Mm)) (g : Mm) (x1 x3 x4 : Int32) : Option (Int32 × Mm) := k242 g x1 x3 (x4 + 1)
def f_X7_ladder_L242 : Nat → Mm → Int32 → Int32 → Int32 → Option (Int32 × Mm)
  | 0, _, _, _, _ => none
  | n + 1, g, x1, x3, x4 => if (100 : Int32) ≤ x4 then some ((-6), g) else ob_b1 (ob_ld g 2 10 (x4 / 10)) fun v17 => ob_b1 (f_X7_has v17 (x4 - x4 / 10 * 10)) fun v18 => if v18 = 0 then f_X7_ladder_J304 (f_X7_ladder_L242 n) g x1 x3 x4 else ob_b1 (ob_ld g 13 10 (x4 - x4 / 10 * 10)) fun v20 => ob_b1 (ob_ld g 13 10 (x4 / 10)) fun v21 => if v21 ≤ v20 then f_X7_ladder_J304 (f_X7_ladder_L242 n) g x1 x3 x4 else if x3 = x1 then some (x4, g) else f_X7_ladder_J304 (f_X7_ladder_L242 n) g x1 (x3 + 1) x4
def f_X7_ladder (g : Mm) (x1 : Int32) : Option (Int32 × Mm) := ob_b1 (ob_st g 12 1024 1023 0) fun g1 => f_X7_ladder_L13 (f_X7_ladder_L122 (f_X7_ladder_L242 FU) FU) FU g1 x1 1022
def f_X7_between_L39 (g : Mm) (k64 : Int32 → Int32 → Int32 → Int32 → Int32 → Int32 → Int32 → Option (Int32)) : Nat → Int32 → Int32 → Int32 → Int32 → Int32 → Int32 → Option (Int32)
  | 0, _, _, _, _, _, _ => none
  | n + 1, x1, x2, x3, x4, x5, x6 => if x3 ≤ x6 then k64 x1 x2 x3 x4 x5 0 0 else f_X7_between_L39 g k64 n x1 x2 x3 x4 (x5 * 10) (x6 + 1)
def f_X7_between_J151 (g : Mm) (k93 : Int32 → Int32 → Int32 → Int32 → Int32 → Int32 → Int32 → Int32 → Int32 → Int32 → Int32 → Int32 → Option (Int32)) (x1 x2 x3 x4 x5 x6 x7 x8 x10 x12 x13 s0 : Int32) : Option (Int32) := k93 x1 x2 x3 x4 x5 x6 x7 x8 x13 (x10 ||| ((1 : Int32) <<< (x13 &&& 31))) s0 (x12 + 1)
def f_X7_between_J150 (g : Mm) (k93 : Int32 → Int32 → Int32 → Int32 → Int32 → Int32 → Int32 → Int32 → Int32 → Int32 → Int32 → Int32 → Option (Int32)) (x1 x2 x3 x4 x5 x6 x7 x8 x10 x12 x13 : Int32) : Option (Int32) := f_X7_between_J151 g k93 x1 x2 x3 x4 x5 x6 x7 x8 x10 x12 x13 0
def f_X7_between_L93 (g : Mm) (k172 : Int32 → Int32 → Int32 → Int32 → Int32 → Int32 → Int32 → Int32 → Int32 → Option (Int32)) : Nat → Int32 → Int32 → Int32 → Int32 → Int32 → Int32 → Int32 → Int32 → Int32 → Int32 → Int32 → Int32 → Option (Int32)
  | 0, _, _, _, _, _, _, _, _, _, _, _, _ => none
  | n + 1, x1, x2, x3, x4, x5, x6, x7, x8, x9, x10, x11, x12 => if x3 ≤ x12 then k172 x1 x2 x3 x4 x5 x6 x7 x9 x11 else if x11 = 0 then k172 x1 x2 x3 x4 x5 x6 x7 x9 x11 else ob_b1 (ob_nz (x8 / 10)) fun _ => ob_b1 (ob_ld g 2 10 x9) fun v14 => ob_b1 (f_X7_has v14 ((x7 / (x8 / 10)) - (x7 / (x8 / 10)) / 10 * 10)) fun v15 => if v15 = 0 then f_X7_between_J150 g (f_X7_between_L93 g k172 n) x1 x2 x3 x4 x5 x6 x7 (x8 / 10) x10 x12 ((x7 / (x8 / 10)) - (x7 / (x8 / 10)) / 10 * 10) else ob_b1 (f_X7_has x10 ((x7 / (x8 / 10)) - (x7 / (x8 / 10)) / 10 * 10)) fun v17 => if v17 = 0 then f_X7_between_J151 g (f_X7_between_L93 g k172 n) x1 x2 x3 x4 x5 x6 x7 (x8 / 10) x10 x12 ((x7 / (x8 / 10)) - (x7 / (x8 / 10)) / 10 * 10) 1 else f_X7_between_J150 g (f_X7_between_L93 g k172 n) x1 x2 x3 x4 x5 x6 x7 (x8 / 10) x10 x12 ((x7 / (x8 / 10)) - (x7 / (x8 / 10)) / 10 * 10)
def f_X7_between_J207 (g : Mm) (k64 : Int32 → Int32 → Int32 → Int32 → Int32 → Int32 → Int32 → Option (Int32)) (x1 x2 x3 x4 x5 x6 x7 : Int32) : Option (Int32) := k64 x1 x2 x3 x4 x5 x6 (x7 + 1)
def f_X7_between_J172 (g : Mm) (k64 : Int32 → Int32 → Int32 → Int32 → Int32 → Int32 → Int32 → Option (Int32)) (x1 x2 x3 x4 x5 x6 x7 x9 x11 : Int32) : Option (Int32) := if x11 = 0 then f_X7_between_J207 g k64 x1 x2 x3 x4 x5 x6 x7 else ob_b1 (ob_ld g 2 10 x9) fun v20 => ob_b1 (f_X7_has v20 x2) fun v21 => if v21 = 0 then f_X7_between_J207 g k64 x1 x2 x3 x4 x5 x6 x7 else if x6 = x4 then some (x5 + x7) else f_X7_between_J207 g k64 x1 x2 x3 x4 x5 (x6 + 1) x7
def f_X7_between_L64 (g : Mm) : Nat → Int32 → Int32 → Int32 → Int32 → Int32 → Int32 → Int32 → Option (Int32)
  | 0, _, _, _, _, _, _, _ => none
  | n + 1, x1, x2, x3, x4, x5, x6, x7 => if x5 ≤ x7 then if x4 = (-1) then some x6 else some (-6) else f_X7_between_L93 g (f_X7_between_J172 g (f_X7_between_L64 g n)) FU x1 x2 x3 x4 x5 x6 x7 x5 x1 (((1 : Int32) <<< (x1 &&& 31)) ||| ((1 : Int32) <<< (x2 &&& 31))) 1 0
def f_X7_between (g : Mm) (x1 x2 x3 x4 : Int32) : Option (Int32) := ob_b1 (f_X7_isInsult x1) fun v1 => if v1 = 0 then some (-1) else ob_b1 (f_X7_isInsult x2) fun v3 => if v3 = 0 then some (-1) else if x1 = x2 then some (-1) else ob_b1 (f_X7_in x3 0 4) fun v6 => if v6 = 0 then some (-2) else f_X7_between_L39 g (f_X7_between_L64 g FU) FU x1 x2 x3 x4 1 0
def f_X7_high_J104 (k31 : Mm → Int32 → Int32 → Int32 → Int32 → Int32 → Option (Int32 × Mm)) (g : Mm) (x1 x2 x3 x5 s0 : Int32) : Option (Int32 × Mm) := k31 g x1 x2 x3 s0 (x5 + 1)
def f_X7_high_J88 (k31 : Mm → Int32 → Int32 → Int32 → Int32 → Int32 → Option (Int32 × Mm)) (g : Mm) (x1 x2 x3 x4 x5 s0 : Int32) : Option (Int32 × Mm) := if s0 ≤ x4 then f_X7_high_J104 k31 g x1 x2 x3 x5 x4 else f_X7_high_J104 k31 g x1 x2 x3 x5 s0
def f_X7_high_L31 (k112 : Mm → Int32 → Int32 → Int32 → Int32 → Option (Int32 × Mm)) : Nat → Mm → Int32 → Int32 → Int32 → Int32 → Int32 → Option (Int32 × Mm)
  | 0, _, _, _, _, _, _ => none
  | n + 1, g, x1, x2, x3, x4, x5 => if (10 : Int32) ≤ x5 then k112 g x1 x2 x3 x4 else ob_b1 (f_X7_has x2 x3) fun v7 => if v7 = 0 then k112 g x1 x2 x3 x4 else ob_b1 (ob_ld g 2 10 x3) fun v9 => ob_b1 (f_X7_has (v9 &&& (x2 ^^^ (-1))) x5) fun v10 => if v10 = 0 then f_X7_high_J88 (f_X7_high_L31 k112 n) g x1 x2 x3 x4 x5 0 else ob_b1 (ob_ld g 14 10240 ((1024 * x5) + (x2 ||| ((1 : Int32) <<< (x5 &&& 31))))) fun v12 => f_X7_high_J88 (f_X7_high_L31 k112 n) g x1 x2 x3 x4 x5 (v12 + 1)
def f_X7_high_J112 (k19 : Mm → Int32 → Int32 → Int32 → Option (Int32 × Mm)) (g : Mm) (x1 x2 x3 x4 : Int32) : Option (Int32 × Mm) := ob_b1 (ob_st g 14 10240 ((1024 * x3) + x2) x4) fun g13 => k19 g13 x1 x2 (x3 + 1)
def f_X7_high_L19 (k13 : Mm → Int32 → Int32 → Option (Int32 × Mm)) : Nat → Mm → Int32 → Int32 → Int32 → Option (Int32 × Mm)
  | 0, _, _, _, _ => none
  | n + 1, g, x1, x2, x3 => if (10 : Int32) ≤ x3 then k13 g x1 (x2 + (-1)) else f_X7_high_L31 (f_X7_high_J112 (f_X7_high_L19 k13 n)) FU g x1 x2 x3 0 0
def f_X7_high_L13 : Nat → Mm → Int32 → Int32 → Option (Int32 × Mm)
  | 0, _, _, _ => none
  | n + 1, g, x1, x2 => if x2 ≤ 0 then ob_b1 (ob_ld g 14 10240 ((1024 * x1) + ((1 : Int32) <<< (x1 &&& 31)))) fun v4 => some (v4, g) else f_X7_high_L19 (f_X7_high_L13 n) FU g x1 x2 0
def f_X7_high (g : Mm) (x1 : Int32) : Option (Int32 × Mm) := ob_b1 (f_X7_isInsult x1) fun v1 => if v1 = 0 then some ((-1), g) else f_X7_high_L13 FU g x1 1023
def f_X7_image_L14 (k65 : Mm → Int32 → Int32 → Option (Int32 × Mm)) : Nat → Mm → Int32 → Int32 → Option (Int32 × Mm)
  | 0, _, _, _ => none
  | n + 1, g, x1, x2 => if (10 : Int32) ≤ x2 then k65 g x1 0 else ob_b1 (ob_ld g 2 10 x2) fun v4 => ob_b1 (ob_st g 15 60 ((30 * x1) + x2) v4) fun g5 => ob_b1 (ob_ld g5 3 10 x2) fun v6 => ob_b1 (ob_st g5 15 60 (((30 * x1) + 10) + x2) v6) fun g7 => f_X7_image_L14 k65 n g7 x1 (x2 + 1)
def f_X7_image_L65 : Nat → Mm → Int32 → Int32 → Option (Int32 × Mm)
  | 0, _, _, _ => none
  | n + 1, g, x1, x2 => if (5 : Int32) ≤ x2 then ob_b1 (ob_sz g 16 2 x1 1) fun g9 => some (1, g9) else ob_b1 (ob_ld g 4 5 x2) fun v10 => ob_b1 (ob_st g 15 60 (((30 * x1) + 20) + x2) v10) fun g11 => ob_b1 (ob_ld g11 5 5 x2) fun v12 => ob_b1 (ob_st g11 15 60 (((30 * x1) + 25) + x2) v12) fun g13 => f_X7_image_L65 n g13 x1 (x2 + 1)
def f_X7_image (g : Mm) (x1 : Int32) : Option (Int32 × Mm) := ob_b1 (f_X7_in x1 0 1) fun v1 => if v1 = 0 then some ((-2), g) else f_X7_image_L14 (f_X7_image_L65 FU) FU g x1 0
def f_X7_restore_L26 (k77 : Mm → Int32 → Int32 → Option (Int32 × Mm)) : Nat → Mm → Int32 → Int32 → Option (Int32 × Mm)
  | 0, _, _, _ => none
  | n + 1, g, x1, x2 => if (10 : Int32) ≤ x2 then k77 g x1 0 else ob_b1 (ob_ld g 15 60 ((30 * x1) + x2)) fun v6 => ob_b1 (ob_st g 2 10 x2 v6) fun g7 => ob_b1 (ob_ld g7 15 60 (((30 * x1) + 10) + x2)) fun v8 => ob_b1 (ob_st g7 3 10 x2 v8) fun g9 => f_X7_restore_L26 k77 n g9 x1 (x2 + 1)
def f_X7_restore_L77 : Nat → Mm → Int32 → Int32 → Option (Int32 × Mm)
  | 0, _, _, _ => none
  | n + 1, g, x1, x2 => if (5 : Int32) ≤ x2 then some (1, g) else ob_b1 (ob_ld g 15 60 (((30 * x1) + 20) + x2)) fun v11 => ob_b1 (ob_st g 4 5 x2 v11) fun g12 => ob_b1 (ob_ld g12 15 60 (((30 * x1) + 25) + x2)) fun v13 => ob_b1 (ob_st g12 5 5 x2 v13) fun g14 => f_X7_restore_L77 n g14 x1 (x2 + 1)
def f_X7_restore (g : Mm) (x1 : Int32) : Option (Int32 × Mm) := ob_b1 (f_X7_in x1 0 1) fun v1 => if v1 = 0 then some ((-2), g) else ob_b1 (ob_ld g 16 2 x1) fun v3 => if v3 = 0 then some ((-3), g) else f_X7_restore_L26 (f_X7_restore_L77 FU) FU g x1 0
def f_X7_join_L26 : Nat → Mm → Int32 → Int32 → Option (Int32 × Mm)
  | 0, _, _, _ => none
  | n + 1, g, x1, x2 => if (10 : Int32) ≤ x2 then ob_b1 (f_X7_allSteps g) fun v6 => some (v6, g) else ob_b1 (ob_ld g 2 10 x2) fun v7 => ob_b1 (ob_ld g 15 60 ((30 * x1) + x2)) fun v8 => ob_b1 (ob_st g 2 10 x2 (v7 ||| v8)) fun g9 => f_X7_join_L26 n g9 x1 (x2 + 1)
def f_X7_join (g : Mm) (x1 : Int32) : Option (Int32 × Mm) := ob_b1 (f_X7_in x1 0 1) fun v1 => if v1 = 0 then some ((-2), g) else ob_b1 (ob_ld g 16 2 x1) fun v3 => if v3 = 0 then some ((-3), g) else f_X7_join_L26 FU g x1 0
def f_X7_told (g : Mm) (x1 : Int32) : Option (Int32) := ob_b1 (f_X7_in x1 10 19) fun v1 => if v1 = 0 then ob_b1 (f_X7_in x1 20 24) fun v3 => if v3 = 0 then ob_b1 (f_X7_in x1 30 34) fun v5 => if v5 = 0 then ob_b1 (f_X7_in x1 40 49) fun v7 => if v7 = 0 then if x1 = 0 then some (g 0 0) else if x1 = 1 then ob_b1 (f_X7_allSteps g) fun v11 => some v11 else some (-2) else ob_b1 (ob_ld g 2 10 (x1 - x1 / 10 * 10)) fun v12 => some v12 else ob_b1 (ob_ld g 5 5 (x1 - x1 / 10 * 10)) fun v13 => some v13 else ob_b1 (ob_ld g 4 5 (x1 - x1 / 10 * 10)) fun v14 => some v14 else ob_b1 (ob_ld g 3 10 (x1 - x1 / 10 * 10)) fun v15 => some v15
