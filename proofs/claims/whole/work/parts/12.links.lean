theorem iwX0a : ∀ w ∈ u_ws RX0 TX0 5, w ∈ lw_tbl := by decide +kernel
theorem iwX0b : ∀ w ∈ u_ws RX0 TX0 5, goodWord w = true := by decide +kernel
theorem iwX0 : ∀ w ∈ u_ws RX0 TX0 5, w ∈ gW := fun w h => gW_of (iwX0a w h) (iwX0b w h)
theorem iwX1a : ∀ w ∈ u_ws RX1 TX1 5, w ∈ lw_tbl := by decide +kernel
theorem iwX1b : ∀ w ∈ u_ws RX1 TX1 5, goodWord w = true := by decide +kernel
theorem iwX1 : ∀ w ∈ u_ws RX1 TX1 5, w ∈ gW := fun w h => gW_of (iwX1a w h) (iwX1b w h)
theorem iwX2a : ∀ w ∈ u_ws RX2 TX2 10, w ∈ lw_tbl := by decide +kernel
theorem iwX2b : ∀ w ∈ u_ws RX2 TX2 10, goodWord w = true := by decide +kernel
theorem iwX2 : ∀ w ∈ u_ws RX2 TX2 10, w ∈ gW := fun w h => gW_of (iwX2a w h) (iwX2b w h)
theorem iwX3a : ∀ w ∈ u_ws RX3 TX3 8, w ∈ lw_tbl := by decide +kernel
theorem iwX3b : ∀ w ∈ u_ws RX3 TX3 8, goodWord w = true := by decide +kernel
theorem iwX3 : ∀ w ∈ u_ws RX3 TX3 8, w ∈ gW := fun w h => gW_of (iwX3a w h) (iwX3b w h)
theorem iwX4a : ∀ w ∈ u_ws RX4 TX4 5, w ∈ lw_tbl := by decide +kernel
theorem iwX4b : ∀ w ∈ u_ws RX4 TX4 5, goodWord w = true := by decide +kernel
theorem iwX4 : ∀ w ∈ u_ws RX4 TX4 5, w ∈ gW := fun w h => gW_of (iwX4a w h) (iwX4b w h)
theorem iwX5a : ∀ w ∈ u_ws RX5 TX5 3, w ∈ lw_tbl := by decide +kernel
theorem iwX5b : ∀ w ∈ u_ws RX5 TX5 3, goodWord w = true := by decide +kernel
theorem iwX5 : ∀ w ∈ u_ws RX5 TX5 3, w ∈ gW := fun w h => gW_of (iwX5a w h) (iwX5b w h)
theorem iwX6a : ∀ w ∈ u_ws RX6 TX6 3, w ∈ lw_tbl := by decide +kernel
theorem iwX6b : ∀ w ∈ u_ws RX6 TX6 3, goodWord w = true := by decide +kernel
theorem iwX6 : ∀ w ∈ u_ws RX6 TX6 3, w ∈ gW := fun w h => gW_of (iwX6a w h) (iwX6b w h)
theorem iwX7a : ∀ w ∈ u_ws RX7 TX7 12, w ∈ lw_tbl := by decide +kernel
theorem iwX7b : ∀ w ∈ u_ws RX7 TX7 12, goodWord w = true := by decide +kernel
theorem iwX7 : ∀ w ∈ u_ws RX7 TX7 12, w ∈ gW := fun w h => gW_of (iwX7a w h) (iwX7b w h)
theorem iwX8a : ∀ w ∈ u_ws RX8 TX8 36, w ∈ lw_tbl := by decide +kernel
theorem iwX8b : ∀ w ∈ u_ws RX8 TX8 36, goodWord w = true := by decide +kernel
theorem iwX8 : ∀ w ∈ u_ws RX8 TX8 36, w ∈ gW := fun w h => gW_of (iwX8a w h) (iwX8b w h)
set_option maxRecDepth 100000 in
theorem lk_X0_11 : g_lnk RX0 11 0 0 := ⟨RX0, TX0, 5, rfl, iwX0, by decide, rfl, Or.inl (gW_t 28 rfl rfl)⟩
set_option maxRecDepth 100000 in
theorem lk_X0_15 : g_lnk RX0 15 0 1 := ⟨RX0, TX0, 5, rfl, iwX0, by decide, rfl, Or.inl (gW_t 29 rfl rfl)⟩
set_option maxRecDepth 100000 in
theorem lp_X0_15 : g_lnkP RX0 15 0 1 .int := ⟨RX0, TX0, 5, rfl, iwX0, by decide, rfl, Or.inl (gW_t 29 rfl rfl), ⟨tyX0, tyX0_ok⟩, nmX0, rfl, by decide +kernel⟩
set_option maxRecDepth 100000 in
theorem lk_X0_19 : g_lnk RX0 19 0 2 := ⟨RX0, TX0, 5, rfl, iwX0, by decide, rfl, Or.inl (gW_t 31 rfl rfl)⟩
set_option maxRecDepth 100000 in
theorem lp_X0_19 : g_lnkP RX0 19 0 2 .int := ⟨RX0, TX0, 5, rfl, iwX0, by decide, rfl, Or.inl (gW_t 31 rfl rfl), ⟨tyX0, tyX0_ok⟩, nmX0, rfl, by decide +kernel⟩
set_option maxRecDepth 100000 in
theorem lk_X0_22 : g_lnk RX0 22 0 3 := ⟨RX0, TX0, 5, rfl, iwX0, by decide, rfl, Or.inl (gW_t 33 rfl rfl)⟩
set_option maxRecDepth 100000 in
theorem lp_X0_22 : g_lnkP RX0 22 0 3 .long := ⟨RX0, TX0, 5, rfl, iwX0, by decide, rfl, Or.inl (gW_t 33 rfl rfl), ⟨tyX0, tyX0_ok⟩, nmX0, rfl, by decide +kernel⟩
set_option maxRecDepth 100000 in
theorem lk_X0_26 : g_lnk RX0 26 0 4 := ⟨RX0, TX0, 5, rfl, iwX0, by decide, rfl, Or.inl (gW_t 36 rfl rfl)⟩
set_option maxRecDepth 100000 in
theorem lp_X0_26 : g_lnkP RX0 26 0 4 .long := ⟨RX0, TX0, 5, rfl, iwX0, by decide, rfl, Or.inl (gW_t 36 rfl rfl), ⟨tyX0, tyX0_ok⟩, nmX0, rfl, by decide +kernel⟩
set_option maxRecDepth 100000 in
theorem lk_X1_9 : g_lnk RX1 9 1 0 := ⟨RX1, TX1, 5, rfl, iwX1, by decide, rfl, Or.inl (gW_t 57 rfl rfl)⟩
set_option maxRecDepth 100000 in
theorem lk_X1_15 : g_lnk RX1 15 1 1 := ⟨RX1, TX1, 5, rfl, iwX1, by decide, rfl, Or.inl (gW_t 59 rfl rfl)⟩
set_option maxRecDepth 100000 in
theorem lk_X1_18 : g_lnk RX1 18 1 2 := ⟨RX1, TX1, 5, rfl, iwX1, by decide, rfl, Or.inl (gW_t 61 rfl rfl)⟩
set_option maxRecDepth 100000 in
theorem lk_X1_21 : g_lnk RX1 21 1 3 := ⟨RX1, TX1, 5, rfl, iwX1, by decide, rfl, Or.inl (gW_t 63 rfl rfl)⟩
set_option maxRecDepth 100000 in
theorem lk_X1_40 : g_lnk RX1 40 5 2 := ⟨RX5, TX5, 3, rfl, iwX5, by decide, rfl, Or.inr ⟨"SnowPaths", gN_t 226 rfl rfl⟩⟩
set_option maxRecDepth 100000 in
theorem lk_X1_46 : g_lnk RX1 46 5 0 := ⟨RX5, TX5, 3, rfl, iwX5, by decide, rfl, Or.inr ⟨"SnowPaths", gN_t 221 rfl rfl⟩⟩
set_option maxRecDepth 100000 in
theorem lk_X1_49 : g_lnk RX1 49 3 2 := ⟨RX3, TX3, 8, rfl, iwX3, by decide, rfl, Or.inr ⟨"SnowPaths", gN_t 136 rfl rfl⟩⟩
set_option maxRecDepth 100000 in
theorem lk_X1_52 : g_lnk RX1 52 3 3 := ⟨RX3, TX3, 8, rfl, iwX3, by decide, rfl, Or.inr ⟨"SnowPaths", gN_t 140 rfl rfl⟩⟩
set_option maxRecDepth 100000 in
theorem lk_X2_11 : g_lnk RX2 11 2 2 := ⟨RX2, TX2, 10, rfl, iwX2, by decide, rfl, Or.inl (gW_t 178 rfl rfl)⟩
set_option maxRecDepth 100000 in
theorem lk_X2_17 : g_lnk RX2 17 2 3 := ⟨RX2, TX2, 10, rfl, iwX2, by decide, rfl, Or.inl (gW_t 179 rfl rfl)⟩
set_option maxRecDepth 100000 in
theorem lk_X2_21 : g_lnk RX2 21 2 4 := ⟨RX2, TX2, 10, rfl, iwX2, by decide, rfl, Or.inl (gW_t 180 rfl rfl)⟩
set_option maxRecDepth 100000 in
theorem lk_X2_24 : g_lnk RX2 24 2 5 := ⟨RX2, TX2, 10, rfl, iwX2, by decide, rfl, Or.inl (gW_t 182 rfl rfl)⟩
set_option maxRecDepth 100000 in
theorem lk_X2_27 : g_lnk RX2 27 2 6 := ⟨RX2, TX2, 10, rfl, iwX2, by decide, rfl, Or.inl (gW_t 184 rfl rfl)⟩
set_option maxRecDepth 100000 in
theorem lp_X2_27 : g_lnkP RX2 27 2 6 .int := ⟨RX2, TX2, 10, rfl, iwX2, by decide, rfl, Or.inl (gW_t 184 rfl rfl), ⟨tyX2, tyX2_ok⟩, nmX2, rfl, by decide +kernel⟩
set_option maxRecDepth 100000 in
theorem lk_X2_31 : g_lnk RX2 31 2 7 := ⟨RX2, TX2, 10, rfl, iwX2, by decide, rfl, Or.inl (gW_t 186 rfl rfl)⟩
set_option maxRecDepth 100000 in
theorem lp_X2_31 : g_lnkP RX2 31 2 7 .int := ⟨RX2, TX2, 10, rfl, iwX2, by decide, rfl, Or.inl (gW_t 186 rfl rfl), ⟨tyX2, tyX2_ok⟩, nmX2, rfl, by decide +kernel⟩
set_option maxRecDepth 100000 in
theorem lk_X2_34 : g_lnk RX2 34 2 8 := ⟨RX2, TX2, 10, rfl, iwX2, by decide, rfl, Or.inl (gW_t 188 rfl rfl)⟩
set_option maxRecDepth 100000 in
theorem lp_X2_34 : g_lnkP RX2 34 2 8 .int := ⟨RX2, TX2, 10, rfl, iwX2, by decide, rfl, Or.inl (gW_t 188 rfl rfl), ⟨tyX2, tyX2_ok⟩, nmX2, rfl, by decide +kernel⟩
set_option maxRecDepth 100000 in
theorem lk_X2_37 : g_lnk RX2 37 2 9 := ⟨RX2, TX2, 10, rfl, iwX2, by decide, rfl, Or.inl (gW_t 190 rfl rfl)⟩
set_option maxRecDepth 100000 in
theorem lp_X2_37 : g_lnkP RX2 37 2 9 .int := ⟨RX2, TX2, 10, rfl, iwX2, by decide, rfl, Or.inl (gW_t 190 rfl rfl), ⟨tyX2, tyX2_ok⟩, nmX2, rfl, by decide +kernel⟩
set_option maxRecDepth 100000 in
theorem lk_X2_40 : g_lnk RX2 40 2 0 := ⟨RX2, TX2, 10, rfl, iwX2, by decide, rfl, Or.inl (gW_t 176 rfl rfl)⟩
set_option maxRecDepth 100000 in
theorem lk_X2_44 : g_lnk RX2 44 2 1 := ⟨RX2, TX2, 10, rfl, iwX2, by decide, rfl, Or.inl (gW_t 177 rfl rfl)⟩
set_option maxRecDepth 100000 in
theorem lk_X2_51 : g_lnk RX2 51 6 2 := ⟨RX6, TX6, 3, rfl, iwX6, by decide, rfl, Or.inr ⟨"SnowPaths", gN_t 91 rfl rfl⟩⟩
set_option maxRecDepth 100000 in
theorem lk_X2_70 : g_lnk RX2 70 3 4 := ⟨RX3, TX3, 8, rfl, iwX3, by decide, rfl, Or.inr ⟨"SnowPaths", gN_t 143 rfl rfl⟩⟩
set_option maxRecDepth 100000 in
theorem lk_X2_77 : g_lnk RX2 77 3 3 := ⟨RX3, TX3, 8, rfl, iwX3, by decide, rfl, Or.inr ⟨"SnowPaths", gN_t 139 rfl rfl⟩⟩
set_option maxRecDepth 100000 in
theorem lk_X2_98 : g_lnk RX2 98 6 0 := ⟨RX6, TX6, 3, rfl, iwX6, by decide, rfl, Or.inr ⟨"SnowPaths", gN_t 85 rfl rfl⟩⟩
set_option maxRecDepth 100000 in
theorem lk_X2_101 : g_lnk RX2 101 6 1 := ⟨RX6, TX6, 3, rfl, iwX6, by decide, rfl, Or.inr ⟨"SnowPaths", gN_t 88 rfl rfl⟩⟩
set_option maxRecDepth 100000 in
theorem lk_X2_104 : g_lnk RX2 104 0 4 := ⟨RX0, TX0, 5, rfl, iwX0, by decide, rfl, Or.inr ⟨"SnowPaths", gN_t 37 rfl rfl⟩⟩
set_option maxRecDepth 100000 in
theorem lk_X3_9 : g_lnk RX3 9 3 2 := ⟨RX3, TX3, 8, rfl, iwX3, by decide, rfl, Or.inl (gW_t 135 rfl rfl)⟩
set_option maxRecDepth 100000 in
theorem lk_X3_15 : g_lnk RX3 15 3 3 := ⟨RX3, TX3, 8, rfl, iwX3, by decide, rfl, Or.inl (gW_t 138 rfl rfl)⟩
set_option maxRecDepth 100000 in
theorem lk_X3_18 : g_lnk RX3 18 3 4 := ⟨RX3, TX3, 8, rfl, iwX3, by decide, rfl, Or.inl (gW_t 142 rfl rfl)⟩
set_option maxRecDepth 100000 in
theorem lp_X3_18 : g_lnkP RX3 18 3 4 .int := ⟨RX3, TX3, 8, rfl, iwX3, by decide, rfl, Or.inl (gW_t 142 rfl rfl), ⟨tyX3, tyX3_ok⟩, nmX3, rfl, by decide +kernel⟩
set_option maxRecDepth 100000 in
theorem lk_X3_22 : g_lnk RX3 22 3 5 := ⟨RX3, TX3, 8, rfl, iwX3, by decide, rfl, Or.inl (gW_t 145 rfl rfl)⟩
set_option maxRecDepth 100000 in
theorem lp_X3_22 : g_lnkP RX3 22 3 5 .int := ⟨RX3, TX3, 8, rfl, iwX3, by decide, rfl, Or.inl (gW_t 145 rfl rfl), ⟨tyX3, tyX3_ok⟩, nmX3, rfl, by decide +kernel⟩
set_option maxRecDepth 100000 in
theorem lk_X3_25 : g_lnk RX3 25 3 6 := ⟨RX3, TX3, 8, rfl, iwX3, by decide, rfl, Or.inl (gW_t 147 rfl rfl)⟩
set_option maxRecDepth 100000 in
theorem lp_X3_25 : g_lnkP RX3 25 3 6 .int := ⟨RX3, TX3, 8, rfl, iwX3, by decide, rfl, Or.inl (gW_t 147 rfl rfl), ⟨tyX3, tyX3_ok⟩, nmX3, rfl, by decide +kernel⟩
set_option maxRecDepth 100000 in
theorem lk_X3_28 : g_lnk RX3 28 3 7 := ⟨RX3, TX3, 8, rfl, iwX3, by decide, rfl, Or.inl (gW_t 149 rfl rfl)⟩
set_option maxRecDepth 100000 in
theorem lp_X3_28 : g_lnkP RX3 28 3 7 .int := ⟨RX3, TX3, 8, rfl, iwX3, by decide, rfl, Or.inl (gW_t 149 rfl rfl), ⟨tyX3, tyX3_ok⟩, nmX3, rfl, by decide +kernel⟩
set_option maxRecDepth 100000 in
theorem lk_X3_31 : g_lnk RX3 31 3 0 := ⟨RX3, TX3, 8, rfl, iwX3, by decide, rfl, Or.inl (gW_t 133 rfl rfl)⟩
set_option maxRecDepth 100000 in
theorem lk_X3_35 : g_lnk RX3 35 3 1 := ⟨RX3, TX3, 8, rfl, iwX3, by decide, rfl, Or.inl (gW_t 134 rfl rfl)⟩
set_option maxRecDepth 100000 in
theorem lk_X3_55 : g_lnk RX3 55 0 3 := ⟨RX0, TX0, 5, rfl, iwX0, by decide, rfl, Or.inr ⟨"SnowPaths", gN_t 34 rfl rfl⟩⟩
set_option maxRecDepth 100000 in
theorem lk_X3_71 : g_lnk RX3 71 4 3 := ⟨RX4, TX4, 5, rfl, iwX4, by decide, rfl, Or.inr ⟨"SnowPaths", gN_t 112 rfl rfl⟩⟩
set_option maxRecDepth 100000 in
theorem lk_X3_74 : g_lnk RX3 74 4 2 := ⟨RX4, TX4, 5, rfl, iwX4, by decide, rfl, Or.inr ⟨"SnowPaths", gN_t 109 rfl rfl⟩⟩
set_option maxRecDepth 100000 in
theorem lk_X4_9 : g_lnk RX4 9 4 0 := ⟨RX4, TX4, 5, rfl, iwX4, by decide, rfl, Or.inl (gW_t 106 rfl rfl)⟩
set_option maxRecDepth 100000 in
theorem lk_X4_15 : g_lnk RX4 15 4 1 := ⟨RX4, TX4, 5, rfl, iwX4, by decide, rfl, Or.inl (gW_t 107 rfl rfl)⟩
set_option maxRecDepth 100000 in
theorem lk_X4_19 : g_lnk RX4 19 4 2 := ⟨RX4, TX4, 5, rfl, iwX4, by decide, rfl, Or.inl (gW_t 108 rfl rfl)⟩
set_option maxRecDepth 100000 in
theorem lp_X4_22 : g_lnkP RX4 22 4 3 .int := ⟨RX4, TX4, 5, rfl, iwX4, by decide, rfl, Or.inl (gW_t 111 rfl rfl), ⟨tyX4, tyX4_ok⟩, nmX4, rfl, by decide +kernel⟩
set_option maxRecDepth 100000 in
theorem lk_X4_26 : g_lnk RX4 26 4 4 := ⟨RX4, TX4, 5, rfl, iwX4, by decide, rfl, Or.inl (gW_t 114 rfl rfl)⟩
set_option maxRecDepth 100000 in
theorem lp_X4_26 : g_lnkP RX4 26 4 4 .long := ⟨RX4, TX4, 5, rfl, iwX4, by decide, rfl, Or.inl (gW_t 114 rfl rfl), ⟨tyX4, tyX4_ok⟩, nmX4, rfl, by decide +kernel⟩
set_option maxRecDepth 100000 in
theorem lk_X5_9 : g_lnk RX5 9 5 0 := ⟨RX5, TX5, 3, rfl, iwX5, by decide, rfl, Or.inl (gW_t 220 rfl rfl)⟩
set_option maxRecDepth 100000 in
theorem lk_X5_15 : g_lnk RX5 15 5 1 := ⟨RX5, TX5, 3, rfl, iwX5, by decide, rfl, Or.inl (gW_t 223 rfl rfl)⟩
set_option maxRecDepth 100000 in
theorem lp_X5_15 : g_lnkP RX5 15 5 1 .int := ⟨RX5, TX5, 3, rfl, iwX5, by decide, rfl, Or.inl (gW_t 223 rfl rfl), ⟨tyX5, tyX5_ok⟩, nmX5, rfl, by decide +kernel⟩
set_option maxRecDepth 100000 in
theorem lk_X5_19 : g_lnk RX5 19 5 2 := ⟨RX5, TX5, 3, rfl, iwX5, by decide, rfl, Or.inl (gW_t 225 rfl rfl)⟩
set_option maxRecDepth 100000 in
theorem lp_X5_19 : g_lnkP RX5 19 5 2 .int := ⟨RX5, TX5, 3, rfl, iwX5, by decide, rfl, Or.inl (gW_t 225 rfl rfl), ⟨tyX5, tyX5_ok⟩, nmX5, rfl, by decide +kernel⟩
set_option maxRecDepth 100000 in
theorem lk_X6_9 : g_lnk RX6 9 6 0 := ⟨RX6, TX6, 3, rfl, iwX6, by decide, rfl, Or.inl (gW_t 84 rfl rfl)⟩
set_option maxRecDepth 100000 in
theorem lk_X6_15 : g_lnk RX6 15 6 1 := ⟨RX6, TX6, 3, rfl, iwX6, by decide, rfl, Or.inl (gW_t 87 rfl rfl)⟩
set_option maxRecDepth 100000 in
theorem lk_X6_18 : g_lnk RX6 18 6 2 := ⟨RX6, TX6, 3, rfl, iwX6, by decide, rfl, Or.inl (gW_t 90 rfl rfl)⟩
set_option maxRecDepth 100000 in
theorem lp_X6_18 : g_lnkP RX6 18 6 2 .int := ⟨RX6, TX6, 3, rfl, iwX6, by decide, rfl, Or.inl (gW_t 90 rfl rfl), ⟨tyX6, tyX6_ok⟩, nmX6, rfl, by decide +kernel⟩
set_option maxRecDepth 100000 in
theorem lk_X7_10 : g_lnk RX7 10 7 0 := ⟨RX7, TX7, 12, rfl, iwX7, by decide, rfl, Or.inl (gW_t 235 rfl rfl)⟩
set_option maxRecDepth 100000 in
theorem lk_X7_19 : g_lnk RX7 19 7 1 := ⟨RX7, TX7, 12, rfl, iwX7, by decide, rfl, Or.inl (gW_t 236 rfl rfl)⟩
set_option maxRecDepth 100000 in
theorem lk_X7_26 : g_lnk RX7 26 7 2 := ⟨RX7, TX7, 12, rfl, iwX7, by decide, rfl, Or.inl (gW_t 237 rfl rfl)⟩
set_option maxRecDepth 100000 in
theorem lk_X7_33 : g_lnk RX7 33 7 3 := ⟨RX7, TX7, 12, rfl, iwX7, by decide, rfl, Or.inl (gW_t 238 rfl rfl)⟩
set_option maxRecDepth 100000 in
theorem lk_X7_42 : g_lnk RX7 42 7 4 := ⟨RX7, TX7, 12, rfl, iwX7, by decide, rfl, Or.inl (gW_t 239 rfl rfl)⟩
set_option maxRecDepth 100000 in
theorem lk_X7_51 : g_lnk RX7 51 7 5 := ⟨RX7, TX7, 12, rfl, iwX7, by decide, rfl, Or.inl (gW_t 240 rfl rfl)⟩
set_option maxRecDepth 100000 in
theorem lk_X7_57 : g_lnk RX7 57 7 6 := ⟨RX7, TX7, 12, rfl, iwX7, by decide, rfl, Or.inl (gW_t 241 rfl rfl)⟩
set_option maxRecDepth 100000 in
theorem lk_X7_61 : g_lnk RX7 61 7 7 := ⟨RX7, TX7, 12, rfl, iwX7, by decide, rfl, Or.inl (gW_t 242 rfl rfl)⟩
set_option maxRecDepth 100000 in
theorem lp_X7_61 : g_lnkP RX7 61 7 7 .int := ⟨RX7, TX7, 12, rfl, iwX7, by decide, rfl, Or.inl (gW_t 242 rfl rfl), ⟨tyX7, tyX7_ok⟩, nmX7, rfl, by decide +kernel⟩
set_option maxRecDepth 100000 in
theorem lk_X7_65 : g_lnk RX7 65 7 8 := ⟨RX7, TX7, 12, rfl, iwX7, by decide, rfl, Or.inl (gW_t 243 rfl rfl)⟩
set_option maxRecDepth 100000 in
theorem lp_X7_65 : g_lnkP RX7 65 7 8 .int := ⟨RX7, TX7, 12, rfl, iwX7, by decide, rfl, Or.inl (gW_t 243 rfl rfl), ⟨tyX7, tyX7_ok⟩, nmX7, rfl, by decide +kernel⟩
set_option maxRecDepth 100000 in
theorem lk_X7_68 : g_lnk RX7 68 7 9 := ⟨RX7, TX7, 12, rfl, iwX7, by decide, rfl, Or.inl (gW_t 244 rfl rfl)⟩
set_option maxRecDepth 100000 in
theorem lp_X7_68 : g_lnkP RX7 68 7 9 .int := ⟨RX7, TX7, 12, rfl, iwX7, by decide, rfl, Or.inl (gW_t 244 rfl rfl), ⟨tyX7, tyX7_ok⟩, nmX7, rfl, by decide +kernel⟩
set_option maxRecDepth 100000 in
theorem lk_X7_71 : g_lnk RX7 71 7 10 := ⟨RX7, TX7, 12, rfl, iwX7, by decide, rfl, Or.inl (gW_t 245 rfl rfl)⟩
set_option maxRecDepth 100000 in
theorem lp_X7_71 : g_lnkP RX7 71 7 10 .int := ⟨RX7, TX7, 12, rfl, iwX7, by decide, rfl, Or.inl (gW_t 245 rfl rfl), ⟨tyX7, tyX7_ok⟩, nmX7, rfl, by decide +kernel⟩
set_option maxRecDepth 100000 in
theorem lk_X7_74 : g_lnk RX7 74 7 11 := ⟨RX7, TX7, 12, rfl, iwX7, by decide, rfl, Or.inl (gW_t 246 rfl rfl)⟩
set_option maxRecDepth 100000 in
theorem lp_X7_74 : g_lnkP RX7 74 7 11 .int := ⟨RX7, TX7, 12, rfl, iwX7, by decide, rfl, Or.inl (gW_t 246 rfl rfl), ⟨tyX7, tyX7_ok⟩, nmX7, rfl, by decide +kernel⟩
set_option maxRecDepth 100000 in
theorem lk_X7_82 : g_lnk RX7 82 0 1 := ⟨RX0, TX0, 5, rfl, iwX0, by decide, rfl, Or.inr ⟨"SnowPaths", gN_t 30 rfl rfl⟩⟩
set_option maxRecDepth 100000 in
theorem lk_X7_88 : g_lnk RX7 88 0 2 := ⟨RX0, TX0, 5, rfl, iwX0, by decide, rfl, Or.inr ⟨"SnowPaths", gN_t 32 rfl rfl⟩⟩
set_option maxRecDepth 100000 in
theorem lk_X7_98 : g_lnk RX7 98 1 0 := ⟨RX1, TX1, 5, rfl, iwX1, by decide, rfl, Or.inr ⟨"SnowPaths", gN_t 58 rfl rfl⟩⟩
set_option maxRecDepth 100000 in
theorem lk_X7_102 : g_lnk RX7 102 1 1 := ⟨RX1, TX1, 5, rfl, iwX1, by decide, rfl, Or.inr ⟨"SnowPaths", gN_t 60 rfl rfl⟩⟩
set_option maxRecDepth 100000 in
theorem lk_X7_105 : g_lnk RX7 105 1 2 := ⟨RX1, TX1, 5, rfl, iwX1, by decide, rfl, Or.inr ⟨"SnowPaths", gN_t 62 rfl rfl⟩⟩
set_option maxRecDepth 100000 in
theorem lk_X7_108 : g_lnk RX7 108 1 3 := ⟨RX1, TX1, 5, rfl, iwX1, by decide, rfl, Or.inr ⟨"SnowPaths", gN_t 64 rfl rfl⟩⟩
set_option maxRecDepth 100000 in
theorem lk_X7_111 : g_lnk RX7 111 0 3 := ⟨RX0, TX0, 5, rfl, iwX0, by decide, rfl, Or.inr ⟨"SnowPaths", gN_t 35 rfl rfl⟩⟩
set_option maxRecDepth 100000 in
theorem lk_X7_155 : g_lnk RX7 155 6 2 := ⟨RX6, TX6, 3, rfl, iwX6, by decide, rfl, Or.inr ⟨"SnowPaths", gN_t 92 rfl rfl⟩⟩
set_option maxRecDepth 100000 in
theorem lp_X7_155 : g_lnkP RX7 155 6 2 .int := ⟨RX6, TX6, 3, rfl, iwX6, by decide, rfl, Or.inr ⟨"SnowPaths", gN_t 92 rfl rfl⟩, ⟨tyX6, tyX6_ok⟩, nmX6, rfl, by decide +kernel⟩
set_option maxRecDepth 100000 in
theorem lk_X7_158 : g_lnk RX7 158 0 4 := ⟨RX0, TX0, 5, rfl, iwX0, by decide, rfl, Or.inr ⟨"SnowPaths", gN_t 38 rfl rfl⟩⟩
set_option maxRecDepth 100000 in
theorem lk_X7_165 : g_lnk RX7 165 4 3 := ⟨RX4, TX4, 5, rfl, iwX4, by decide, rfl, Or.inr ⟨"SnowPaths", gN_t 113 rfl rfl⟩⟩
set_option maxRecDepth 100000 in
theorem lk_X7_166 : g_lnk RX7 166 4 2 := ⟨RX4, TX4, 5, rfl, iwX4, by decide, rfl, Or.inr ⟨"SnowPaths", gN_t 110 rfl rfl⟩⟩
set_option maxRecDepth 100000 in
theorem lk_X7_176 : g_lnk RX7 176 6 0 := ⟨RX6, TX6, 3, rfl, iwX6, by decide, rfl, Or.inr ⟨"SnowPaths", gN_t 86 rfl rfl⟩⟩
set_option maxRecDepth 100000 in
theorem lk_X7_179 : g_lnk RX7 179 6 1 := ⟨RX6, TX6, 3, rfl, iwX6, by decide, rfl, Or.inr ⟨"SnowPaths", gN_t 89 rfl rfl⟩⟩
set_option maxRecDepth 100000 in
theorem lk_X7_190 : g_lnk RX7 190 3 4 := ⟨RX3, TX3, 8, rfl, iwX3, by decide, rfl, Or.inr ⟨"SnowPaths", gN_t 144 rfl rfl⟩⟩
set_option maxRecDepth 100000 in
theorem lk_X7_203 : g_lnk RX7 203 3 5 := ⟨RX3, TX3, 8, rfl, iwX3, by decide, rfl, Or.inr ⟨"SnowPaths", gN_t 146 rfl rfl⟩⟩
set_option maxRecDepth 100000 in
theorem lk_X7_210 : g_lnk RX7 210 2 6 := ⟨RX2, TX2, 10, rfl, iwX2, by decide, rfl, Or.inr ⟨"SnowPaths", gN_t 185 rfl rfl⟩⟩
set_option maxRecDepth 100000 in
theorem lk_X7_213 : g_lnk RX7 213 2 7 := ⟨RX2, TX2, 10, rfl, iwX2, by decide, rfl, Or.inr ⟨"SnowPaths", gN_t 187 rfl rfl⟩⟩
set_option maxRecDepth 100000 in
theorem lk_X7_216 : g_lnk RX7 216 2 4 := ⟨RX2, TX2, 10, rfl, iwX2, by decide, rfl, Or.inr ⟨"SnowPaths", gN_t 181 rfl rfl⟩⟩
set_option maxRecDepth 100000 in
theorem lk_X7_246 : g_lnk RX7 246 2 8 := ⟨RX2, TX2, 10, rfl, iwX2, by decide, rfl, Or.inr ⟨"SnowPaths", gN_t 189 rfl rfl⟩⟩
set_option maxRecDepth 100000 in
theorem lk_X7_249 : g_lnk RX7 249 2 9 := ⟨RX2, TX2, 10, rfl, iwX2, by decide, rfl, Or.inr ⟨"SnowPaths", gN_t 191 rfl rfl⟩⟩
set_option maxRecDepth 100000 in
theorem lk_X7_252 : g_lnk RX7 252 2 5 := ⟨RX2, TX2, 10, rfl, iwX2, by decide, rfl, Or.inr ⟨"SnowPaths", gN_t 183 rfl rfl⟩⟩
set_option maxRecDepth 100000 in
theorem lk_X7_265 : g_lnk RX7 265 5 2 := ⟨RX5, TX5, 3, rfl, iwX5, by decide, rfl, Or.inr ⟨"SnowPaths", gN_t 227 rfl rfl⟩⟩
set_option maxRecDepth 100000 in
theorem lk_X7_276 : g_lnk RX7 276 5 0 := ⟨RX5, TX5, 3, rfl, iwX5, by decide, rfl, Or.inr ⟨"SnowPaths", gN_t 222 rfl rfl⟩⟩
set_option maxRecDepth 100000 in
theorem lk_X7_279 : g_lnk RX7 279 5 1 := ⟨RX5, TX5, 3, rfl, iwX5, by decide, rfl, Or.inr ⟨"SnowPaths", gN_t 224 rfl rfl⟩⟩
set_option maxRecDepth 100000 in
theorem lk_X7_291 : g_lnk RX7 291 3 3 := ⟨RX3, TX3, 8, rfl, iwX3, by decide, rfl, Or.inr ⟨"SnowPaths", gN_t 141 rfl rfl⟩⟩
set_option maxRecDepth 100000 in
theorem lk_X7_331 : g_lnk RX7 331 3 2 := ⟨RX3, TX3, 8, rfl, iwX3, by decide, rfl, Or.inr ⟨"SnowPaths", gN_t 137 rfl rfl⟩⟩
set_option maxRecDepth 100000 in
theorem lk_X7_335 : g_lnk RX7 335 3 6 := ⟨RX3, TX3, 8, rfl, iwX3, by decide, rfl, Or.inr ⟨"SnowPaths", gN_t 148 rfl rfl⟩⟩
set_option maxRecDepth 100000 in
theorem lk_X7_338 : g_lnk RX7 338 1 4 := ⟨RX1, TX1, 5, rfl, iwX1, by decide, rfl, Or.inr ⟨"SnowPaths", gN_t 66 rfl rfl⟩⟩
set_option maxRecDepth 100000 in
theorem lk_X8_7 : g_lnk RX8 7 8 0 := ⟨RX8, TX8, 36, rfl, iwX8, by decide, rfl, Or.inl (gW_t 681 rfl rfl)⟩
set_option maxRecDepth 100000 in
theorem lk_X8_13 : g_lnk RX8 13 8 1 := ⟨RX8, TX8, 36, rfl, iwX8, by decide, rfl, Or.inl (gW_t 682 rfl rfl)⟩
set_option maxRecDepth 100000 in
theorem lk_X8_16 : g_lnk RX8 16 8 2 := ⟨RX8, TX8, 36, rfl, iwX8, by decide, rfl, Or.inl (gW_t 683 rfl rfl)⟩
set_option maxRecDepth 100000 in
theorem lk_X8_19 : g_lnk RX8 19 8 3 := ⟨RX8, TX8, 36, rfl, iwX8, by decide, rfl, Or.inl (gW_t 684 rfl rfl)⟩
set_option maxRecDepth 100000 in
theorem lk_X8_22 : g_lnk RX8 22 8 5 := ⟨RX8, TX8, 36, rfl, iwX8, by decide, rfl, Or.inl (gW_t 686 rfl rfl)⟩
set_option maxRecDepth 100000 in
theorem lk_X8_25 : g_lnk RX8 25 8 7 := ⟨RX8, TX8, 36, rfl, iwX8, by decide, rfl, Or.inl (gW_t 688 rfl rfl)⟩
set_option maxRecDepth 100000 in
theorem lk_X8_28 : g_lnk RX8 28 8 8 := ⟨RX8, TX8, 36, rfl, iwX8, by decide, rfl, Or.inl (gW_t 689 rfl rfl)⟩
set_option maxRecDepth 100000 in
theorem lk_X8_31 : g_lnk RX8 31 8 9 := ⟨RX8, TX8, 36, rfl, iwX8, by decide, rfl, Or.inl (gW_t 690 rfl rfl)⟩
set_option maxRecDepth 100000 in
theorem lk_X8_34 : g_lnk RX8 34 8 10 := ⟨RX8, TX8, 36, rfl, iwX8, by decide, rfl, Or.inl (gW_t 691 rfl rfl)⟩
set_option maxRecDepth 100000 in
theorem lk_X8_37 : g_lnk RX8 37 8 11 := ⟨RX8, TX8, 36, rfl, iwX8, by decide, rfl, Or.inl (gW_t 692 rfl rfl)⟩
set_option maxRecDepth 100000 in
theorem lk_X8_40 : g_lnk RX8 40 8 13 := ⟨RX8, TX8, 36, rfl, iwX8, by decide, rfl, Or.inl (gW_t 694 rfl rfl)⟩
set_option maxRecDepth 100000 in
theorem lk_X8_43 : g_lnk RX8 43 8 14 := ⟨RX8, TX8, 36, rfl, iwX8, by decide, rfl, Or.inl (gW_t 695 rfl rfl)⟩
set_option maxRecDepth 100000 in
theorem lk_X8_46 : g_lnk RX8 46 8 15 := ⟨RX8, TX8, 36, rfl, iwX8, by decide, rfl, Or.inl (gW_t 696 rfl rfl)⟩
set_option maxRecDepth 100000 in
theorem lk_X8_49 : g_lnk RX8 49 8 16 := ⟨RX8, TX8, 36, rfl, iwX8, by decide, rfl, Or.inl (gW_t 697 rfl rfl)⟩
set_option maxRecDepth 100000 in
theorem lk_X8_52 : g_lnk RX8 52 8 17 := ⟨RX8, TX8, 36, rfl, iwX8, by decide, rfl, Or.inl (gW_t 698 rfl rfl)⟩
set_option maxRecDepth 100000 in
theorem lk_X8_55 : g_lnk RX8 55 8 18 := ⟨RX8, TX8, 36, rfl, iwX8, by decide, rfl, Or.inl (gW_t 699 rfl rfl)⟩
set_option maxRecDepth 100000 in
theorem lk_X8_59 : g_lnk RX8 59 8 19 := ⟨RX8, TX8, 36, rfl, iwX8, by decide, rfl, Or.inl (gW_t 700 rfl rfl)⟩
set_option maxRecDepth 100000 in
theorem lp_X8_59 : g_lnkP RX8 59 8 19 .int := ⟨RX8, TX8, 36, rfl, iwX8, by decide, rfl, Or.inl (gW_t 700 rfl rfl), ⟨tyX8, tyX8_ok⟩, nmX8, rfl, by decide +kernel⟩
set_option maxRecDepth 100000 in
theorem lk_X8_63 : g_lnk RX8 63 8 20 := ⟨RX8, TX8, 36, rfl, iwX8, by decide, rfl, Or.inl (gW_t 701 rfl rfl)⟩
set_option maxRecDepth 100000 in
theorem lk_X8_66 : g_lnk RX8 66 8 25 := ⟨RX8, TX8, 36, rfl, iwX8, by decide, rfl, Or.inl (gW_t 706 rfl rfl)⟩
set_option maxRecDepth 100000 in
theorem lk_X8_69 : g_lnk RX8 69 8 27 := ⟨RX8, TX8, 36, rfl, iwX8, by decide, rfl, Or.inl (gW_t 708 rfl rfl)⟩
set_option maxRecDepth 100000 in
theorem lk_X8_72 : g_lnk RX8 72 8 28 := ⟨RX8, TX8, 36, rfl, iwX8, by decide, rfl, Or.inl (gW_t 709 rfl rfl)⟩
set_option maxRecDepth 100000 in
theorem lk_X8_75 : g_lnk RX8 75 8 33 := ⟨RX8, TX8, 36, rfl, iwX8, by decide, rfl, Or.inl (gW_t 714 rfl rfl)⟩
set_option maxRecDepth 100000 in
theorem lk_X8_86 : g_lnk RX8 86 8 4 := ⟨RX8, TX8, 36, rfl, iwX8, by decide, rfl, Or.inl (gW_t 685 rfl rfl)⟩
set_option maxRecDepth 100000 in
theorem lp_X8_86 : g_lnkP RX8 86 8 4 .int := ⟨RX8, TX8, 36, rfl, iwX8, by decide, rfl, Or.inl (gW_t 685 rfl rfl), ⟨tyX8, tyX8_ok⟩, nmX8, rfl, by decide +kernel⟩
set_option maxRecDepth 100000 in
theorem lk_X8_112 : g_lnk RX8 112 8 6 := ⟨RX8, TX8, 36, rfl, iwX8, by decide, rfl, Or.inl (gW_t 687 rfl rfl)⟩
set_option maxRecDepth 100000 in
theorem lp_X8_112 : g_lnkP RX8 112 8 6 .int := ⟨RX8, TX8, 36, rfl, iwX8, by decide, rfl, Or.inl (gW_t 687 rfl rfl), ⟨tyX8, tyX8_ok⟩, nmX8, rfl, by decide +kernel⟩
set_option maxRecDepth 100000 in
theorem lk_X8_146 : g_lnk RX8 146 8 12 := ⟨RX8, TX8, 36, rfl, iwX8, by decide, rfl, Or.inl (gW_t 693 rfl rfl)⟩
set_option maxRecDepth 100000 in
theorem lp_X8_146 : g_lnkP RX8 146 8 12 .int := ⟨RX8, TX8, 36, rfl, iwX8, by decide, rfl, Or.inl (gW_t 693 rfl rfl), ⟨tyX8, tyX8_ok⟩, nmX8, rfl, by decide +kernel⟩
set_option maxRecDepth 100000 in
theorem lk_X8_152 : g_lnk RX8 152 8 21 := ⟨RX8, TX8, 36, rfl, iwX8, by decide, rfl, Or.inl (gW_t 702 rfl rfl)⟩
set_option maxRecDepth 100000 in
theorem lp_X8_152 : g_lnkP RX8 152 8 21 .int := ⟨RX8, TX8, 36, rfl, iwX8, by decide, rfl, Or.inl (gW_t 702 rfl rfl), ⟨tyX8, tyX8_ok⟩, nmX8, rfl, by decide +kernel⟩
set_option maxRecDepth 100000 in
theorem lk_X8_155 : g_lnk RX8 155 8 22 := ⟨RX8, TX8, 36, rfl, iwX8, by decide, rfl, Or.inl (gW_t 703 rfl rfl)⟩
set_option maxRecDepth 100000 in
theorem lp_X8_155 : g_lnkP RX8 155 8 22 .int := ⟨RX8, TX8, 36, rfl, iwX8, by decide, rfl, Or.inl (gW_t 703 rfl rfl), ⟨tyX8, tyX8_ok⟩, nmX8, rfl, by decide +kernel⟩
set_option maxRecDepth 100000 in
theorem lk_X8_158 : g_lnk RX8 158 8 23 := ⟨RX8, TX8, 36, rfl, iwX8, by decide, rfl, Or.inl (gW_t 704 rfl rfl)⟩
set_option maxRecDepth 100000 in
theorem lp_X8_158 : g_lnkP RX8 158 8 23 .int := ⟨RX8, TX8, 36, rfl, iwX8, by decide, rfl, Or.inl (gW_t 704 rfl rfl), ⟨tyX8, tyX8_ok⟩, nmX8, rfl, by decide +kernel⟩
set_option maxRecDepth 100000 in
theorem lk_X8_161 : g_lnk RX8 161 8 24 := ⟨RX8, TX8, 36, rfl, iwX8, by decide, rfl, Or.inl (gW_t 705 rfl rfl)⟩
set_option maxRecDepth 100000 in
theorem lp_X8_161 : g_lnkP RX8 161 8 24 .int := ⟨RX8, TX8, 36, rfl, iwX8, by decide, rfl, Or.inl (gW_t 705 rfl rfl), ⟨tyX8, tyX8_ok⟩, nmX8, rfl, by decide +kernel⟩
set_option maxRecDepth 100000 in
theorem lk_X8_179 : g_lnk RX8 179 8 26 := ⟨RX8, TX8, 36, rfl, iwX8, by decide, rfl, Or.inl (gW_t 707 rfl rfl)⟩
set_option maxRecDepth 100000 in
theorem lp_X8_179 : g_lnkP RX8 179 8 26 .int := ⟨RX8, TX8, 36, rfl, iwX8, by decide, rfl, Or.inl (gW_t 707 rfl rfl), ⟨tyX8, tyX8_ok⟩, nmX8, rfl, by decide +kernel⟩
set_option maxRecDepth 100000 in
theorem lk_X8_227 : g_lnk RX8 227 8 29 := ⟨RX8, TX8, 36, rfl, iwX8, by decide, rfl, Or.inl (gW_t 710 rfl rfl)⟩
set_option maxRecDepth 100000 in
theorem lp_X8_227 : g_lnkP RX8 227 8 29 .int := ⟨RX8, TX8, 36, rfl, iwX8, by decide, rfl, Or.inl (gW_t 710 rfl rfl), ⟨tyX8, tyX8_ok⟩, nmX8, rfl, by decide +kernel⟩
set_option maxRecDepth 100000 in
theorem lk_X8_230 : g_lnk RX8 230 8 30 := ⟨RX8, TX8, 36, rfl, iwX8, by decide, rfl, Or.inl (gW_t 711 rfl rfl)⟩
set_option maxRecDepth 100000 in
theorem lp_X8_230 : g_lnkP RX8 230 8 30 .int := ⟨RX8, TX8, 36, rfl, iwX8, by decide, rfl, Or.inl (gW_t 711 rfl rfl), ⟨tyX8, tyX8_ok⟩, nmX8, rfl, by decide +kernel⟩
set_option maxRecDepth 100000 in
theorem lk_X8_254 : g_lnk RX8 254 8 31 := ⟨RX8, TX8, 36, rfl, iwX8, by decide, rfl, Or.inl (gW_t 712 rfl rfl)⟩
set_option maxRecDepth 100000 in
theorem lp_X8_254 : g_lnkP RX8 254 8 31 .int := ⟨RX8, TX8, 36, rfl, iwX8, by decide, rfl, Or.inl (gW_t 712 rfl rfl), ⟨tyX8, tyX8_ok⟩, nmX8, rfl, by decide +kernel⟩
set_option maxRecDepth 100000 in
theorem lk_X8_257 : g_lnk RX8 257 8 32 := ⟨RX8, TX8, 36, rfl, iwX8, by decide, rfl, Or.inl (gW_t 713 rfl rfl)⟩
set_option maxRecDepth 100000 in
theorem lp_X8_257 : g_lnkP RX8 257 8 32 .int := ⟨RX8, TX8, 36, rfl, iwX8, by decide, rfl, Or.inl (gW_t 713 rfl rfl), ⟨tyX8, tyX8_ok⟩, nmX8, rfl, by decide +kernel⟩
set_option maxRecDepth 100000 in
theorem lk_X8_283 : g_lnk RX8 283 8 34 := ⟨RX8, TX8, 36, rfl, iwX8, by decide, rfl, Or.inl (gW_t 715 rfl rfl)⟩
set_option maxRecDepth 100000 in
theorem lp_X8_283 : g_lnkP RX8 283 8 34 .int := ⟨RX8, TX8, 36, rfl, iwX8, by decide, rfl, Or.inl (gW_t 715 rfl rfl), ⟨tyX8, tyX8_ok⟩, nmX8, rfl, by decide +kernel⟩
set_option maxRecDepth 100000 in
theorem lk_X8_286 : g_lnk RX8 286 8 35 := ⟨RX8, TX8, 36, rfl, iwX8, by decide, rfl, Or.inl (gW_t 716 rfl rfl)⟩
set_option maxRecDepth 100000 in
theorem lp_X8_286 : g_lnkP RX8 286 8 35 .int := ⟨RX8, TX8, 36, rfl, iwX8, by decide, rfl, Or.inl (gW_t 716 rfl rfl), ⟨tyX8, tyX8_ok⟩, nmX8, rfl, by decide +kernel⟩
set_option maxRecDepth 100000 in
theorem mk_L_13 : g_mlV RL 13 yX7_type cX7_type 2 (some .int) 1 7 := ⟨⟨Or.inl (gW_t 272 rfl rfl), gW_t 1 rfl rfl, gW_t 275 rfl rfl, by decide +kernel⟩, gW_t 273 rfl rfl, gW_t 274 rfl rfl, TX7, 12, rfl⟩
set_option maxRecDepth 100000 in
theorem mk_L_17 : g_mlV RL 17 yX8_type cX8_type 2 (some .int) 1 8 := ⟨⟨Or.inl (gW_t 831 rfl rfl), gW_t 9 rfl rfl, gW_t 834 rfl rfl, by decide +kernel⟩, gW_t 832 rfl rfl, gW_t 833 rfl rfl, TX8, 36, rfl⟩
set_option maxRecDepth 100000 in
theorem mk_L_18 : g_mlV RL 18 yX7_wipe cX7_wipe 2 (some .int) 0 7 := ⟨⟨Or.inl (gW_t 294 rfl rfl), gW_t 1 rfl rfl, gW_t 297 rfl rfl, by decide +kernel⟩, gW_t 295 rfl rfl, gW_t 296 rfl rfl, TX7, 12, rfl⟩
set_option maxRecDepth 100000 in
theorem mk_L_22 : g_mlV RL 22 yX8_wipe cX8_wipe 2 (some .int) 0 8 := ⟨⟨Or.inl (gW_t 836 rfl rfl), gW_t 9 rfl rfl, gW_t 839 rfl rfl, by decide +kernel⟩, gW_t 837 rfl rfl, gW_t 838 rfl rfl, TX8, 36, rfl⟩
set_option maxRecDepth 100000 in
theorem mk_L_23 : g_mlV RL 23 yX7_fault cX7_fault 1 (some .int) 0 7 := ⟨⟨Or.inl (gW_t 302 rfl rfl), gW_t 1 rfl rfl, gW_t 305 rfl rfl, by decide +kernel⟩, gW_t 303 rfl rfl, gW_t 304 rfl rfl, TX7, 12, rfl⟩
set_option maxRecDepth 100000 in
theorem mk_L_26 : g_mlV RL 26 yX8_fault cX8_fault 1 (some .int) 0 8 := ⟨⟨Or.inl (gW_t 840 rfl rfl), gW_t 9 rfl rfl, gW_t 843 rfl rfl, by decide +kernel⟩, gW_t 841 rfl rfl, gW_t 842 rfl rfl, TX8, 36, rfl⟩
set_option maxRecDepth 100000 in
theorem mk_L_27 : g_mlV RL 27 yX7_cell cX7_cell 3 (some .int) 2 7 := ⟨⟨Or.inl (gW_t 306 rfl rfl), gW_t 1 rfl rfl, gW_t 309 rfl rfl, by decide +kernel⟩, gW_t 307 rfl rfl, gW_t 308 rfl rfl, TX7, 12, rfl⟩
set_option maxRecDepth 100000 in
theorem mk_L_31 : g_mlV RL 31 yX8_cell cX8_cell 3 (some .int) 2 8 := ⟨⟨Or.inl (gW_t 855 rfl rfl), gW_t 9 rfl rfl, gW_t 858 rfl rfl, by decide +kernel⟩, gW_t 856 rfl rfl, gW_t 857 rfl rfl, TX8, 36, rfl⟩
set_option maxRecDepth 100000 in
theorem mk_L_32 : g_mlV RL 32 yX7_snows cX7_snows 2 (some .int) 1 7 := ⟨⟨Or.inl (gW_t 320 rfl rfl), gW_t 1 rfl rfl, gW_t 323 rfl rfl, by decide +kernel⟩, gW_t 321 rfl rfl, gW_t 322 rfl rfl, TX7, 12, rfl⟩
set_option maxRecDepth 100000 in
theorem mk_L_35 : g_mlV RL 35 yX8_snows cX8_snows 5 (some .int) 1 8 := ⟨⟨Or.inl (gW_t 868 rfl rfl), gW_t 9 rfl rfl, gW_t 871 rfl rfl, by decide +kernel⟩, gW_t 869 rfl rfl, gW_t 870 rfl rfl, TX8, 36, rfl⟩
set_option maxRecDepth 100000 in
theorem mk_L_36 : g_mlV RL 36 yX7_thaws cX7_thaws 2 (some .int) 1 7 := ⟨⟨Or.inl (gW_t 332 rfl rfl), gW_t 1 rfl rfl, gW_t 335 rfl rfl, by decide +kernel⟩, gW_t 333 rfl rfl, gW_t 334 rfl rfl, TX7, 12, rfl⟩
set_option maxRecDepth 100000 in
theorem mk_L_39 : g_mlV RL 39 yX8_thaws cX8_thaws 4 (some .int) 1 8 := ⟨⟨Or.inl (gW_t 876 rfl rfl), gW_t 9 rfl rfl, gW_t 879 rfl rfl, by decide +kernel⟩, gW_t 877 rfl rfl, gW_t 878 rfl rfl, TX8, 36, rfl⟩
set_option maxRecDepth 100000 in
theorem mk_L_40 : g_mlV RL 40 yX7_freezes cX7_freezes 1 (some .int) 0 7 := ⟨⟨Or.inl (gW_t 343 rfl rfl), gW_t 1 rfl rfl, gW_t 346 rfl rfl, by decide +kernel⟩, gW_t 344 rfl rfl, gW_t 345 rfl rfl, TX7, 12, rfl⟩
set_option maxRecDepth 100000 in
theorem mk_L_43 : g_mlV RL 43 yX8_freezes cX8_freezes 3 (some .int) 0 8 := ⟨⟨Or.inl (gW_t 883 rfl rfl), gW_t 9 rfl rfl, gW_t 886 rfl rfl, by decide +kernel⟩, gW_t 884 rfl rfl, gW_t 885 rfl rfl, TX8, 36, rfl⟩
set_option maxRecDepth 100000 in
theorem mk_L_44 : g_mlV RL 44 yX7_clear cX7_clear 4 (some .int) 2 7 := ⟨⟨Or.inl (gW_t 351 rfl rfl), gW_t 1 rfl rfl, gW_t 354 rfl rfl, by decide +kernel⟩, gW_t 352 rfl rfl, gW_t 353 rfl rfl, TX7, 12, rfl⟩
set_option maxRecDepth 100000 in
theorem mk_L_47 : g_mlV RL 47 yX8_clear cX8_clear 5 (some .int) 2 8 := ⟨⟨Or.inl (gW_t 887 rfl rfl), gW_t 9 rfl rfl, gW_t 890 rfl rfl, by decide +kernel⟩, gW_t 888 rfl rfl, gW_t 889 rfl rfl, TX8, 36, rfl⟩
set_option maxRecDepth 100000 in
theorem mk_L_48 : g_mlV RL 48 yX7_read cX7_read 2 (some .int) 1 7 := ⟨⟨Or.inl (gW_t 363 rfl rfl), gW_t 1 rfl rfl, gW_t 366 rfl rfl, by decide +kernel⟩, gW_t 364 rfl rfl, gW_t 365 rfl rfl, TX7, 12, rfl⟩
set_option maxRecDepth 100000 in
theorem mk_L_51 : g_mlV RL 51 yX8_read cX8_read 3 (some .int) 1 8 := ⟨⟨Or.inl (gW_t 894 rfl rfl), gW_t 9 rfl rfl, gW_t 897 rfl rfl, by decide +kernel⟩, gW_t 895 rfl rfl, gW_t 896 rfl rfl, TX8, 36, rfl⟩
set_option maxRecDepth 100000 in
theorem mk_L_52 : g_mlV RL 52 yX7_walker cX7_walker 3 (some .int) 2 7 := ⟨⟨Or.inl (gW_t 382 rfl rfl), gW_t 1 rfl rfl, gW_t 385 rfl rfl, by decide +kernel⟩, gW_t 383 rfl rfl, gW_t 384 rfl rfl, TX7, 12, rfl⟩
set_option maxRecDepth 100000 in
theorem mk_L_55 : g_mlV RL 55 yX8_walker cX8_walker 3 (some .int) 2 8 := ⟨⟨Or.inl (gW_t 899 rfl rfl), gW_t 9 rfl rfl, gW_t 902 rfl rfl, by decide +kernel⟩, gW_t 900 rfl rfl, gW_t 901 rfl rfl, TX8, 36, rfl⟩
set_option maxRecDepth 100000 in
theorem mk_L_56 : g_mlV RL 56 yX7_gone cX7_gone 2 (some .int) 0 7 := ⟨⟨Or.inl (gW_t 390 rfl rfl), gW_t 1 rfl rfl, gW_t 393 rfl rfl, by decide +kernel⟩, gW_t 391 rfl rfl, gW_t 392 rfl rfl, TX7, 12, rfl⟩
set_option maxRecDepth 100000 in
theorem mk_L_59 : g_mlV RL 59 yX8_gone cX8_gone 2 (some .int) 0 8 := ⟨⟨Or.inl (gW_t 903 rfl rfl), gW_t 9 rfl rfl, gW_t 906 rfl rfl, by decide +kernel⟩, gW_t 904 rfl rfl, gW_t 905 rfl rfl, TX8, 36, rfl⟩
set_option maxRecDepth 100000 in
theorem mk_L_60 : g_mlV RL 60 yX7_plan cX7_plan 5 (some .int) 3 7 := ⟨⟨Or.inl (gW_t 394 rfl rfl), gW_t 1 rfl rfl, gW_t 397 rfl rfl, by decide +kernel⟩, gW_t 395 rfl rfl, gW_t 396 rfl rfl, TX7, 12, rfl⟩
set_option maxRecDepth 100000 in
theorem mk_L_64 : g_mlV RL 64 yX8_plan cX8_plan 4 (some .int) 3 8 := ⟨⟨Or.inl (gW_t 907 rfl rfl), gW_t 9 rfl rfl, gW_t 910 rfl rfl, by decide +kernel⟩, gW_t 908 rfl rfl, gW_t 909 rfl rfl, TX8, 36, rfl⟩
set_option maxRecDepth 100000 in
theorem mk_L_65 : g_mlV RL 65 yX7_walk cX7_walk 2 (some .int) 1 7 := ⟨⟨Or.inl (gW_t 428 rfl rfl), gW_t 1 rfl rfl, gW_t 431 rfl rfl, by decide +kernel⟩, gW_t 429 rfl rfl, gW_t 430 rfl rfl, TX7, 12, rfl⟩
set_option maxRecDepth 100000 in
theorem mk_L_68 : g_mlV RL 68 yX8_walk cX8_walk 2 (some .int) 1 8 := ⟨⟨Or.inl (gW_t 956 rfl rfl), gW_t 9 rfl rfl, gW_t 959 rfl rfl, by decide +kernel⟩, gW_t 957 rfl rfl, gW_t 958 rfl rfl, TX8, 36, rfl⟩
set_option maxRecDepth 100000 in
theorem mk_L_69 : g_mlV RL 69 yX7_morning cX7_morning 1 (some .int) 0 7 := ⟨⟨Or.inl (gW_t 465 rfl rfl), gW_t 1 rfl rfl, gW_t 468 rfl rfl, by decide +kernel⟩, gW_t 466 rfl rfl, gW_t 467 rfl rfl, TX7, 12, rfl⟩
set_option maxRecDepth 100000 in
theorem mk_L_72 : g_mlV RL 72 yX8_morning cX8_morning 1 (some .int) 0 8 := ⟨⟨Or.inl (gW_t 980 rfl rfl), gW_t 9 rfl rfl, gW_t 983 rfl rfl, by decide +kernel⟩, gW_t 981 rfl rfl, gW_t 982 rfl rfl, TX8, 36, rfl⟩
set_option maxRecDepth 100000 in
theorem mk_L_73 : g_mlV RL 73 yX7_all cX7_all 2 (some .int) 1 7 := ⟨⟨Or.inl (gW_t 473 rfl rfl), gW_t 1 rfl rfl, gW_t 476 rfl rfl, by decide +kernel⟩, gW_t 474 rfl rfl, gW_t 475 rfl rfl, TX7, 12, rfl⟩
set_option maxRecDepth 100000 in
theorem mk_L_76 : g_mlV RL 76 yX8_all cX8_all 2 (some .int) 1 8 := ⟨⟨Or.inl (gW_t 988 rfl rfl), gW_t 9 rfl rfl, gW_t 991 rfl rfl, by decide +kernel⟩, gW_t 989 rfl rfl, gW_t 990 rfl rfl, TX8, 36, rfl⟩
set_option maxRecDepth 100000 in
theorem mk_L_77 : g_mlV RL 77 yX7_straight cX7_straight 2 (some .int) 1 7 := ⟨⟨Or.inl (gW_t 485 rfl rfl), gW_t 1 rfl rfl, gW_t 488 rfl rfl, by decide +kernel⟩, gW_t 486 rfl rfl, gW_t 487 rfl rfl, TX7, 12, rfl⟩
set_option maxRecDepth 100000 in
theorem mk_L_80 : g_mlV RL 80 yX8_straight cX8_straight 2 (some .int) 1 8 := ⟨⟨Or.inl (gW_t 996 rfl rfl), gW_t 9 rfl rfl, gW_t 999 rfl rfl, by decide +kernel⟩, gW_t 997 rfl rfl, gW_t 998 rfl rfl, TX8, 36, rfl⟩
set_option maxRecDepth 100000 in
theorem mk_L_81 : g_mlV RL 81 yX7_longer cX7_longer 4 (some .int) 0 7 := ⟨⟨Or.inl (gW_t 493 rfl rfl), gW_t 1 rfl rfl, gW_t 496 rfl rfl, by decide +kernel⟩, gW_t 494 rfl rfl, gW_t 495 rfl rfl, TX7, 12, rfl⟩
set_option maxRecDepth 100000 in
theorem mk_L_84 : g_mlV RL 84 yX8_longer cX8_longer 1 (some .int) 0 8 := ⟨⟨Or.inl (gW_t 1000 rfl rfl), gW_t 9 rfl rfl, gW_t 1003 rfl rfl, by decide +kernel⟩, gW_t 1001 rfl rfl, gW_t 1002 rfl rfl, TX8, 36, rfl⟩
set_option maxRecDepth 100000 in
theorem mk_L_85 : g_mlV RL 85 yX7_orders cX7_orders 2 (some .int) 1 7 := ⟨⟨Or.inl (gW_t 497 rfl rfl), gW_t 1 rfl rfl, gW_t 500 rfl rfl, by decide +kernel⟩, gW_t 498 rfl rfl, gW_t 499 rfl rfl, TX7, 12, rfl⟩
set_option maxRecDepth 100000 in
theorem mk_L_88 : g_mlV RL 88 yX8_orders cX8_orders 2 (some .int) 1 8 := ⟨⟨Or.inl (gW_t 1008 rfl rfl), gW_t 9 rfl rfl, gW_t 1011 rfl rfl, by decide +kernel⟩, gW_t 1009 rfl rfl, gW_t 1010 rfl rfl, TX8, 36, rfl⟩
set_option maxRecDepth 100000 in
theorem mk_L_89 : g_mlV RL 89 yX7_order cX7_order 2 (some .int) 1 7 := ⟨⟨Or.inl (gW_t 537 rfl rfl), gW_t 1 rfl rfl, gW_t 540 rfl rfl, by decide +kernel⟩, gW_t 538 rfl rfl, gW_t 539 rfl rfl, TX7, 12, rfl⟩
set_option maxRecDepth 100000 in
theorem mk_L_92 : g_mlV RL 92 yX8_order cX8_order 2 (some .int) 1 8 := ⟨⟨Or.inl (gW_t 1035 rfl rfl), gW_t 9 rfl rfl, gW_t 1038 rfl rfl, by decide +kernel⟩, gW_t 1036 rfl rfl, gW_t 1037 rfl rfl, TX8, 36, rfl⟩
set_option maxRecDepth 100000 in
theorem mk_L_93 : g_mlV RL 93 yX7_first cX7_first 2 (some .int) 1 7 := ⟨⟨Or.inl (gW_t 541 rfl rfl), gW_t 1 rfl rfl, gW_t 544 rfl rfl, by decide +kernel⟩, gW_t 542 rfl rfl, gW_t 543 rfl rfl, TX7, 12, rfl⟩
set_option maxRecDepth 100000 in
theorem mk_L_96 : g_mlV RL 96 yX8_first cX8_first 2 (some .int) 1 8 := ⟨⟨Or.inl (gW_t 1039 rfl rfl), gW_t 9 rfl rfl, gW_t 1042 rfl rfl, by decide +kernel⟩, gW_t 1040 rfl rfl, gW_t 1041 rfl rfl, TX8, 36, rfl⟩
set_option maxRecDepth 100000 in
theorem mk_L_97 : g_mlV RL 97 yX7_yard cX7_yard 2 (some .int) 1 7 := ⟨⟨Or.inl (gW_t 549 rfl rfl), gW_t 1 rfl rfl, gW_t 552 rfl rfl, by decide +kernel⟩, gW_t 550 rfl rfl, gW_t 551 rfl rfl, TX7, 12, rfl⟩
set_option maxRecDepth 100000 in
theorem mk_L_100 : g_mlV RL 100 yX8_yard cX8_yard 2 (some .int) 1 8 := ⟨⟨Or.inl (gW_t 1047 rfl rfl), gW_t 9 rfl rfl, gW_t 1050 rfl rfl, by decide +kernel⟩, gW_t 1048 rfl rfl, gW_t 1049 rfl rfl, TX8, 36, rfl⟩
set_option maxRecDepth 100000 in
theorem mk_L_101 : g_mlV RL 101 yX7_falls cX7_falls 2 (some .long) 1 7 := ⟨⟨Or.inl (gW_t 557 rfl rfl), gW_t 1 rfl rfl, gW_t 560 rfl rfl, by decide +kernel⟩, gW_t 558 rfl rfl, gW_t 559 rfl rfl, TX7, 12, rfl⟩
set_option maxRecDepth 100000 in
theorem mk_L_105 : g_mlV RL 105 yX8_falls cX8_falls 2 (some .long) 1 8 := ⟨⟨Or.inl (gW_t 1055 rfl rfl), gW_t 9 rfl rfl, gW_t 1058 rfl rfl, by decide +kernel⟩, gW_t 1056 rfl rfl, gW_t 1057 rfl rfl, TX8, 36, rfl⟩
set_option maxRecDepth 100000 in
theorem mk_L_106 : g_mlV RL 106 yX7_grit cX7_grit 7 (some .int) 2 7 := ⟨⟨Or.inl (gW_t 585 rfl rfl), gW_t 1 rfl rfl, gW_t 588 rfl rfl, by decide +kernel⟩, gW_t 586 rfl rfl, gW_t 587 rfl rfl, TX7, 12, rfl⟩
set_option maxRecDepth 100000 in
theorem mk_L_109 : g_mlV RL 109 yX8_grit cX8_grit 3 (some .int) 2 8 := ⟨⟨Or.inl (gW_t 1074 rfl rfl), gW_t 9 rfl rfl, gW_t 1077 rfl rfl, by decide +kernel⟩, gW_t 1075 rfl rfl, gW_t 1076 rfl rfl, TX8, 36, rfl⟩
set_option maxRecDepth 100000 in
theorem mk_L_110 : g_mlV RL 110 yX7_left cX7_left 3 (some .long) 2 7 := ⟨⟨Or.inl (gW_t 589 rfl rfl), gW_t 1 rfl rfl, gW_t 564 rfl rfl, by decide +kernel⟩, gW_t 562 rfl rfl, gW_t 563 rfl rfl, TX7, 12, rfl⟩
set_option maxRecDepth 100000 in
theorem mk_L_114 : g_mlV RL 114 yX8_left cX8_left 3 (some .long) 2 8 := ⟨⟨Or.inl (gW_t 1082 rfl rfl), gW_t 9 rfl rfl, gW_t 1085 rfl rfl, by decide +kernel⟩, gW_t 1083 rfl rfl, gW_t 1084 rfl rfl, TX8, 36, rfl⟩
set_option maxRecDepth 100000 in
theorem mk_L_115 : g_mlV RL 115 yX7_tower cX7_tower 3 (some .int) 2 7 := ⟨⟨Or.inl (gW_t 590 rfl rfl), gW_t 1 rfl rfl, gW_t 593 rfl rfl, by decide +kernel⟩, gW_t 591 rfl rfl, gW_t 592 rfl rfl, TX7, 12, rfl⟩
set_option maxRecDepth 100000 in
theorem mk_L_118 : g_mlV RL 118 yX8_tower cX8_tower 3 (some .int) 2 8 := ⟨⟨Or.inl (gW_t 1086 rfl rfl), gW_t 9 rfl rfl, gW_t 1089 rfl rfl, by decide +kernel⟩, gW_t 1087 rfl rfl, gW_t 1088 rfl rfl, TX8, 36, rfl⟩
set_option maxRecDepth 100000 in
theorem mk_L_119 : g_mlV RL 119 yX7_towerOrder cX7_towerOrder 3 (some .int) 2 7 := ⟨⟨Or.inl (gW_t 594 rfl rfl), gW_t 1 rfl rfl, gW_t 597 rfl rfl, by decide +kernel⟩, gW_t 595 rfl rfl, gW_t 596 rfl rfl, TX7, 12, rfl⟩
set_option maxRecDepth 100000 in
theorem mk_L_122 : g_mlV RL 122 yX8_towerOrder cX8_towerOrder 3 (some .int) 2 8 := ⟨⟨Or.inl (gW_t 1098 rfl rfl), gW_t 9 rfl rfl, gW_t 1101 rfl rfl, by decide +kernel⟩, gW_t 1099 rfl rfl, gW_t 1100 rfl rfl, TX8, 36, rfl⟩
set_option maxRecDepth 100000 in
theorem mk_L_123 : g_mlV RL 123 yX7_hints cX7_hints 7 (some .int) 3 7 := ⟨⟨Or.inl (gW_t 598 rfl rfl), gW_t 1 rfl rfl, gW_t 601 rfl rfl, by decide +kernel⟩, gW_t 599 rfl rfl, gW_t 600 rfl rfl, TX7, 12, rfl⟩
set_option maxRecDepth 100000 in
theorem mk_L_126 : g_mlV RL 126 yX8_hints cX8_hints 8 (some .int) 3 8 := ⟨⟨Or.inl (gW_t 1102 rfl rfl), gW_t 9 rfl rfl, gW_t 1105 rfl rfl, by decide +kernel⟩, gW_t 1103 rfl rfl, gW_t 1104 rfl rfl, TX8, 36, rfl⟩
set_option maxRecDepth 100000 in
theorem mk_L_127 : g_mlV RL 127 yX7_sheet cX7_sheet 4 (some .int) 3 7 := ⟨⟨Or.inl (gW_t 607 rfl rfl), gW_t 1 rfl rfl, gW_t 610 rfl rfl, by decide +kernel⟩, gW_t 608 rfl rfl, gW_t 609 rfl rfl, TX7, 12, rfl⟩
set_option maxRecDepth 100000 in
theorem mk_L_130 : g_mlV RL 130 yX8_sheet cX8_sheet 5 (some .int) 3 8 := ⟨⟨Or.inl (gW_t 791 rfl rfl), gW_t 9 rfl rfl, gW_t 794 rfl rfl, by decide +kernel⟩, gW_t 792 rfl rfl, gW_t 793 rfl rfl, TX8, 36, rfl⟩
set_option maxRecDepth 100000 in
theorem mk_L_131 : g_mlV RL 131 yX7_lose cX7_lose 3 (some .int) 1 7 := ⟨⟨Or.inl (gW_t 619 rfl rfl), gW_t 1 rfl rfl, gW_t 622 rfl rfl, by decide +kernel⟩, gW_t 620 rfl rfl, gW_t 621 rfl rfl, TX7, 12, rfl⟩
set_option maxRecDepth 100000 in
theorem mk_L_134 : g_mlV RL 134 yX8_lose cX8_lose 2 (some .int) 1 8 := ⟨⟨Or.inl (gW_t 807 rfl rfl), gW_t 9 rfl rfl, gW_t 810 rfl rfl, by decide +kernel⟩, gW_t 808 rfl rfl, gW_t 809 rfl rfl, TX8, 36, rfl⟩
set_option maxRecDepth 100000 in
theorem mk_L_135 : g_mlV RL 135 yX7_lay cX7_lay 6 (some .int) 4 7 := ⟨⟨Or.inl (gW_t 623 rfl rfl), gW_t 1 rfl rfl, gW_t 626 rfl rfl, by decide +kernel⟩, gW_t 624 rfl rfl, gW_t 625 rfl rfl, TX7, 12, rfl⟩
set_option maxRecDepth 100000 in
theorem mk_L_139 : g_mlV RL 139 yX8_lay cX8_lay 6 (some .int) 4 8 := ⟨⟨Or.inl (gW_t 811 rfl rfl), gW_t 9 rfl rfl, gW_t 814 rfl rfl, by decide +kernel⟩, gW_t 812 rfl rfl, gW_t 813 rfl rfl, TX8, 36, rfl⟩
set_option maxRecDepth 100000 in
theorem mk_L_140 : g_mlV RL 140 yX7_get cX7_get 4 (some .int) 3 7 := ⟨⟨Or.inl (gW_t 639 rfl rfl), gW_t 1 rfl rfl, gW_t 642 rfl rfl, by decide +kernel⟩, gW_t 640 rfl rfl, gW_t 641 rfl rfl, TX7, 12, rfl⟩
set_option maxRecDepth 100000 in
theorem mk_L_143 : g_mlV RL 143 yX8_get cX8_get 4 (some .int) 3 8 := ⟨⟨Or.inl (gW_t 822 rfl rfl), gW_t 9 rfl rfl, gW_t 825 rfl rfl, by decide +kernel⟩, gW_t 823 rfl rfl, gW_t 824 rfl rfl, TX8, 36, rfl⟩
set_option maxRecDepth 100000 in
theorem mk_L_144 : g_mlV RL 144 yX7_copy cX7_copy 6 (some .int) 5 7 := ⟨⟨Or.inl (gW_t 644 rfl rfl), gW_t 1 rfl rfl, gW_t 647 rfl rfl, by decide +kernel⟩, gW_t 645 rfl rfl, gW_t 646 rfl rfl, TX7, 12, rfl⟩
set_option maxRecDepth 100000 in
theorem mk_L_148 : g_mlV RL 148 yX8_copy cX8_copy 7 (some .int) 5 8 := ⟨⟨Or.inl (gW_t 827 rfl rfl), gW_t 9 rfl rfl, gW_t 830 rfl rfl, by decide +kernel⟩, gW_t 828 rfl rfl, gW_t 829 rfl rfl, TX8, 36, rfl⟩
set_option maxRecDepth 100000 in
theorem mk_L_149 : g_mlV RL 149 yX7_write cX7_write 3 (some .int) 1 7 := ⟨⟨Or.inl (gW_t 649 rfl rfl), gW_t 1 rfl rfl, gW_t 652 rfl rfl, by decide +kernel⟩, gW_t 650 rfl rfl, gW_t 651 rfl rfl, TX7, 12, rfl⟩
set_option maxRecDepth 100000 in
theorem mk_L_152 : g_mlV RL 152 yX8_write cX8_write 3 (some .int) 1 8 := ⟨⟨Or.inl (gW_t 1106 rfl rfl), gW_t 9 rfl rfl, gW_t 1109 rfl rfl, by decide +kernel⟩, gW_t 1107 rfl rfl, gW_t 1108 rfl rfl, TX8, 36, rfl⟩
set_option maxRecDepth 100000 in
theorem mk_L_153 : g_mlV RL 153 yX7_count cX7_count 2 (some .int) 1 7 := ⟨⟨Or.inl (gW_t 653 rfl rfl), gW_t 1 rfl rfl, gW_t 656 rfl rfl, by decide +kernel⟩, gW_t 654 rfl rfl, gW_t 655 rfl rfl, TX7, 12, rfl⟩
set_option maxRecDepth 100000 in
theorem mk_L_156 : g_mlV RL 156 yX8_count cX8_count 4 (some .int) 1 8 := ⟨⟨Or.inl (gW_t 1110 rfl rfl), gW_t 9 rfl rfl, gW_t 1113 rfl rfl, by decide +kernel⟩, gW_t 1111 rfl rfl, gW_t 1112 rfl rfl, TX8, 36, rfl⟩
set_option maxRecDepth 100000 in
theorem mk_L_157 : g_mlV RL 157 yX7_digest cX7_digest 5 (some .long) 0 7 := ⟨⟨Or.inl (gW_t 661 rfl rfl), gW_t 1 rfl rfl, gW_t 664 rfl rfl, by decide +kernel⟩, gW_t 662 rfl rfl, gW_t 663 rfl rfl, TX7, 12, rfl⟩
set_option maxRecDepth 100000 in
theorem mk_L_161 : g_mlV RL 161 yX8_digest cX8_digest 5 (some .long) 0 8 := ⟨⟨Or.inl (gW_t 1114 rfl rfl), gW_t 9 rfl rfl, gW_t 1117 rfl rfl, by decide +kernel⟩, gW_t 1115 rfl rfl, gW_t 1116 rfl rfl, TX8, 36, rfl⟩
set_option maxRecDepth 100000 in
theorem mk_X0_29 : g_mlV RX0 29 yX0_parse cX0_parse 3 none 0 0 := ⟨⟨Or.inl (gW_t 280 rfl rfl), gW_t 2 rfl rfl, gW_t 283 rfl rfl, by decide +kernel⟩, gW_t 282 rfl rfl, gW_p 1 rfl rfl, TX0, 5, rfl⟩
set_option maxRecDepth 100000 in
theorem mk_X0_32 : g_mlS RX0 32 yX7_has cX7_has 3 (some .boolean) 2 := ⟨⟨Or.inr ⟨"SnowPaths", gN_t 317 rfl rfl⟩, gW_t 1 rfl rfl, gW_t 319 rfl rfl, by decide +kernel⟩, gW_t 318 rfl rfl⟩
set_option maxRecDepth 100000 in
theorem mk_X0_36 : g_mlV RX0 36 yX0_seekFault cX0_seekFault 2 (some .int) 0 0 := ⟨⟨Or.inl (gW_t 284 rfl rfl), gW_t 2 rfl rfl, gW_t 287 rfl rfl, by decide +kernel⟩, gW_t 286 rfl rfl, gW_p 2 rfl rfl, TX0, 5, rfl⟩
set_option maxRecDepth 100000 in
theorem mk_X0_40 : g_mlS RX0 40 yX7_bit cX7_bit 1 (some .long) 1 := ⟨⟨Or.inr ⟨"SnowPaths", gN_t 291 rfl rfl⟩, gW_t 1 rfl rfl, gW_t 293 rfl rfl, by decide +kernel⟩, gW_t 292 rfl rfl⟩
set_option maxRecDepth 100000 in
theorem mk_X0_44 : g_mlS RX0 44 yX0_fits cX0_fits 2 (some .boolean) 2 := ⟨⟨Or.inl (gW_t 288 rfl rfl), gW_t 2 rfl rfl, gW_t 290 rfl rfl, by decide +kernel⟩, gW_t 289 rfl rfl⟩
set_option maxRecDepth 100000 in
theorem mk_X1_27 : g_mlS RX1 27 yX7_has cX7_has 3 (some .boolean) 2 := ⟨⟨Or.inr ⟨"SnowPaths", gN_t 328 rfl rfl⟩, gW_t 1 rfl rfl, gW_t 319 rfl rfl, by decide +kernel⟩, gW_t 318 rfl rfl⟩
set_option maxRecDepth 100000 in
theorem mm_X1_31 : Cond.methodLink RX1 31 Lib.Math.min.name ∈ gW ∧ Cond.static Lib.Math.min.name ∈ gW ∧ Cond.initialized "java/lang/Math" ∈ gW ∧ Cond.code Lib.Math.min.name Lib.Math.min.code 2 (some .int) ∈ gW := ⟨gW_t 329 rfl rfl, gW_t 330 rfl rfl, gW_t 10 rfl rfl, gW_t 331 (by decide +kernel) rfl⟩
set_option maxRecDepth 100000 in
theorem mm_X1_37 : Cond.methodLink RX1 37 Lib.Math.max.name ∈ gW ∧ Cond.static Lib.Math.max.name ∈ gW ∧ Cond.initialized "java/lang/Math" ∈ gW ∧ Cond.code Lib.Math.max.name Lib.Math.max.code 2 (some .int) ∈ gW := ⟨gW_t 340 rfl rfl, gW_t 341 rfl rfl, gW_t 10 rfl rfl, gW_t 342 (by decide +kernel) rfl⟩
set_option maxRecDepth 100000 in
theorem mm_X2_56 : Cond.methodLink RX2 56 Lib.Math.min.name ∈ gW ∧ Cond.static Lib.Math.min.name ∈ gW ∧ Cond.initialized "java/lang/Math" ∈ gW ∧ Cond.code Lib.Math.min.name Lib.Math.min.code 2 (some .int) ∈ gW := ⟨gW_t 505 rfl rfl, gW_t 330 rfl rfl, gW_t 10 rfl rfl, gW_t 331 (by decide +kernel) rfl⟩
set_option maxRecDepth 100000 in
theorem mk_X2_62 : g_mlV RX2 62 yX3_begin cX3_begin 2 none 1 3 := ⟨⟨Or.inr ⟨"SnowPaths", gN_t 506 rfl rfl⟩, gW_t 6 rfl rfl, gW_t 439 rfl rfl, by decide +kernel⟩, gW_t 438 rfl rfl, gW_p 17 rfl rfl, TX3, 8, rfl⟩
set_option maxRecDepth 100000 in
theorem mk_X2_66 : g_mlV RX2 66 yX2_sendFrom cX2_sendFrom 4 none 2 2 := ⟨⟨Or.inl (gW_t 507 rfl rfl), gW_t 7 rfl rfl, gW_t 510 rfl rfl, by decide +kernel⟩, gW_t 509 rfl rfl, gW_p 27 rfl rfl, TX2, 10, rfl⟩
set_option maxRecDepth 100000 in
theorem mk_X2_73 : g_mlV RX2 73 yX2_weigh cX2_weigh 3 none 2 2 := ⟨⟨Or.inl (gW_t 516 rfl rfl), gW_t 7 rfl rfl, gW_t 519 rfl rfl, by decide +kernel⟩, gW_t 518 rfl rfl, gW_p 29 rfl rfl, TX2, 10, rfl⟩
set_option maxRecDepth 100000 in
theorem mk_X2_80 : g_mlV RX2 80 yX5_shows cX5_shows 3 (some .boolean) 1 5 := ⟨⟨Or.inr ⟨"SnowPaths", gN_t 521 rfl rfl⟩, gW_t 8 rfl rfl, gW_t 524 rfl rfl, by decide +kernel⟩, gW_t 523 rfl rfl, gW_p 30 rfl rfl, TX5, 3, rfl⟩
set_option maxRecDepth 100000 in
theorem mk_X2_86 : g_mlV RX2 86 yX2_keepAlike cX2_keepAlike 2 none 1 2 := ⟨⟨Or.inl (gW_t 525 rfl rfl), gW_t 7 rfl rfl, gW_t 528 rfl rfl, by decide +kernel⟩, gW_t 527 rfl rfl, gW_p 31 rfl rfl, TX2, 10, rfl⟩
set_option maxRecDepth 100000 in
theorem mk_X2_90 : g_mlV RX2 90 yX2_advance cX2_advance 6 (some .int) 1 2 := ⟨⟨Or.inl (gW_t 529 rfl rfl), gW_t 7 rfl rfl, gW_t 532 rfl rfl, by decide +kernel⟩, gW_t 531 rfl rfl, gW_p 32 rfl rfl, TX2, 10, rfl⟩
set_option maxRecDepth 100000 in
theorem mk_X2_94 : g_mlV RX2 94 yX3_beginAs cX3_beginAs 2 none 1 3 := ⟨⟨Or.inr ⟨"SnowPaths", gN_t 511 rfl rfl⟩, gW_t 6 rfl rfl, gW_t 514 rfl rfl, by decide +kernel⟩, gW_t 513 rfl rfl, gW_p 28 rfl rfl, TX3, 8, rfl⟩
set_option maxRecDepth 100000 in
theorem mk_X2_110 : g_mlV RX2 110 yX3_go cX3_go 9 (some .boolean) 3 3 := ⟨⟨Or.inr ⟨"SnowPaths", gN_t 515 rfl rfl⟩, gW_t 6 rfl rfl, gW_t 449 rfl rfl, by decide +kernel⟩, gW_t 448 rfl rfl, gW_p 18 rfl rfl, TX3, 8, rfl⟩
set_option maxRecDepth 100000 in
theorem ac_X2_114 : Cond.methodLink RX2 114 arraycopyName ∈ gW ∧ Cond.native arraycopyName ∈ gW ∧ Cond.static arraycopyName ∈ gW ∧ Cond.initialized "java/lang/System" ∈ gW := ⟨gW_t 520 rfl rfl, gW_t 442 rfl rfl, gW_t 441 rfl rfl, gW_t 13 rfl rfl⟩
set_option maxRecDepth 100000 in
theorem mk_X2_120 : g_mlV RX2 120 yX2_swap cX2_swap 4 none 2 2 := ⟨⟨Or.inl (gW_t 533 rfl rfl), gW_t 7 rfl rfl, gW_t 536 rfl rfl, by decide +kernel⟩, gW_t 535 rfl rfl, gW_p 33 rfl rfl, TX2, 10, rfl⟩
set_option maxRecDepth 100000 in
theorem ac_X3_39 : Cond.methodLink RX3 39 arraycopyName ∈ gW ∧ Cond.native arraycopyName ∈ gW ∧ Cond.static arraycopyName ∈ gW ∧ Cond.initialized "java/lang/System" ∈ gW := ⟨gW_t 440 rfl rfl, gW_t 442 rfl rfl, gW_t 441 rfl rfl, gW_t 13 rfl rfl⟩
set_option maxRecDepth 100000 in
theorem mk_X3_45 : g_mlS RX3 45 yJ7_fill_53178 cJ7_fill_53178 4 none 2 := ⟨⟨Or.inl (gW_t 443 rfl rfl), gW_t 11 rfl rfl, gW_t 445 rfl rfl, by decide +kernel⟩, gW_t 444 rfl rfl⟩
set_option maxRecDepth 100000 in
theorem mk_X3_51 : g_mlS RX3 51 yX7_bit cX7_bit 1 (some .long) 1 := ⟨⟨Or.inr ⟨"SnowPaths", gN_t 450 rfl rfl⟩, gW_t 1 rfl rfl, gW_t 293 rfl rfl, by decide +kernel⟩, gW_t 292 rfl rfl⟩
set_option maxRecDepth 100000 in
theorem mk_X3_61 : g_mlV RX3 61 yX4_find cX4_find 8 (some .int) 4 4 := ⟨⟨Or.inr ⟨"SnowPaths", gN_t 451 rfl rfl⟩, gW_t 5 rfl rfl, gW_t 401 rfl rfl, by decide +kernel⟩, gW_t 400 rfl rfl, gW_p 13 rfl rfl, TX4, 5, rfl⟩
set_option maxRecDepth 100000 in
theorem mk_X3_67 : g_mlV RX3 67 yX3_follow cX3_follow 7 (some .int) 2 3 := ⟨⟨Or.inl (gW_t 452 rfl rfl), gW_t 6 rfl rfl, gW_t 455 rfl rfl, by decide +kernel⟩, gW_t 454 rfl rfl, gW_p 19 rfl rfl, TX3, 8, rfl⟩
set_option maxRecDepth 100000 in
theorem mk_X3_77 : g_mlS RX3 77 yX7_has cX7_has 3 (some .boolean) 2 := ⟨⟨Or.inr ⟨"SnowPaths", gN_t 456 rfl rfl⟩, gW_t 1 rfl rfl, gW_t 319 rfl rfl, by decide +kernel⟩, gW_t 318 rfl rfl⟩
set_option maxRecDepth 100000 in
theorem mk_X3_81 : g_mlV RX3 81 yX3_tread cX3_tread 2 none 1 3 := ⟨⟨Or.inl (gW_t 457 rfl rfl), gW_t 6 rfl rfl, gW_t 460 rfl rfl, by decide +kernel⟩, gW_t 459 rfl rfl, gW_p 20 rfl rfl, TX3, 8, rfl⟩
set_option maxRecDepth 100000 in
theorem mk_X4_30 : g_mlS RX4 30 yX7_has cX7_has 3 (some .boolean) 2 := ⟨⟨Or.inr ⟨"SnowPaths", gN_t 402 rfl rfl⟩, gW_t 1 rfl rfl, gW_t 319 rfl rfl, by decide +kernel⟩, gW_t 318 rfl rfl⟩
set_option maxRecDepth 100000 in
theorem mk_X4_34 : g_mlV RX4 34 yX4_spread cX4_spread 13 none 4 4 := ⟨⟨Or.inl (gW_t 403 rfl rfl), gW_t 5 rfl rfl, gW_t 406 rfl rfl, by decide +kernel⟩, gW_t 405 rfl rfl, gW_p 14 rfl rfl, TX4, 5, rfl⟩
set_option maxRecDepth 100000 in
theorem mk_X4_38 : g_mlV RX4 38 yX4_onward cX4_onward 5 (some .int) 2 4 := ⟨⟨Or.inl (gW_t 423 rfl rfl), gW_t 5 rfl rfl, gW_t 426 rfl rfl, by decide +kernel⟩, gW_t 425 rfl rfl, gW_p 15 rfl rfl, TX4, 5, rfl⟩
set_option maxRecDepth 100000 in
theorem mk_X4_42 : g_mlS RX4 42 yJ7_fill_d0a16 cJ7_fill_d0a16 5 none 2 := ⟨⟨Or.inl (gW_t 407 rfl rfl), gW_t 11 rfl rfl, gW_t 409 rfl rfl, by decide +kernel⟩, gW_t 408 rfl rfl⟩
set_option maxRecDepth 100000 in
theorem mk_X4_48 : g_mlS RX4 48 yX7_bit cX7_bit 1 (some .long) 1 := ⟨⟨Or.inr ⟨"SnowPaths", gN_t 410 rfl rfl⟩, gW_t 1 rfl rfl, gW_t 293 rfl rfl, by decide +kernel⟩, gW_t 292 rfl rfl⟩
set_option maxRecDepth 100000 in
theorem mk_X4_54 : g_mlS RX4 54 yJ13_bitCount_95d88 cJ13_bitCount_95d88 2 (some .int) 1 := ⟨⟨Or.inl (gW_t 412 rfl rfl), gW_t 12 rfl rfl, gW_t 414 rfl rfl, by decide +kernel⟩, gW_t 413 rfl rfl⟩
set_option maxRecDepth 100000 in
theorem mk_X4_60 : g_mlS RX4 60 yX4_around cX4_around 6 (some .long) 1 := ⟨⟨Or.inl (gW_t 418 rfl rfl), gW_t 5 rfl rfl, gW_t 420 rfl rfl, by decide +kernel⟩, gW_t 419 rfl rfl⟩
set_option maxRecDepth 100000 in
theorem mm_X4_64 : Cond.methodLink RX4 64 Lib.Math.max.name ∈ gW ∧ Cond.static Lib.Math.max.name ∈ gW ∧ Cond.initialized "java/lang/Math" ∈ gW ∧ Cond.code Lib.Math.max.name Lib.Math.max.code 2 (some .int) ∈ gW := ⟨gW_t 422 rfl rfl, gW_t 341 rfl rfl, gW_t 10 rfl rfl, gW_t 342 (by decide +kernel) rfl⟩
set_option maxRecDepth 100000 in
theorem mk_X4_70 : g_mlS RX4 70 yX7_beside cX7_beside 3 (some .int) 2 := ⟨⟨Or.inr ⟨"SnowPaths", gN_t 427 rfl rfl⟩, gW_t 1 rfl rfl, gW_t 357 rfl rfl, by decide +kernel⟩, gW_t 356 rfl rfl⟩
set_option maxRecDepth 100000 in
theorem mk_X5_22 : g_mlS RX5 22 yJ7_fill_53178 cJ7_fill_53178 4 none 2 := ⟨⟨Or.inl (gW_t 618 rfl rfl), gW_t 11 rfl rfl, gW_t 445 rfl rfl, by decide +kernel⟩, gW_t 444 rfl rfl⟩
set_option maxRecDepth 100000 in
theorem mk_X7_78 : g_mlV RX7 78 yX0_append cX0_append 2 (some .boolean) 1 0 := ⟨⟨Or.inr ⟨"SnowPaths", gN_t 276 rfl rfl⟩, gW_t 2 rfl rfl, gW_t 279 rfl rfl, by decide +kernel⟩, gW_t 278 rfl rfl, gW_p 0 rfl rfl, TX0, 5, rfl⟩
set_option maxRecDepth 100000 in
theorem mk_X7_85 : g_mlV RX7 85 yX0_empty cX0_empty 1 none 0 0 := ⟨⟨Or.inr ⟨"SnowPaths", gN_t 298 rfl rfl⟩, gW_t 2 rfl rfl, gW_t 301 rfl rfl, by decide +kernel⟩, gW_t 300 rfl rfl, gW_p 3 rfl rfl, TX0, 5, rfl⟩
set_option maxRecDepth 100000 in
theorem mk_X7_91 : g_mlS RX7 91 yX7_isCell cX7_isCell 1 (some .boolean) 1 := ⟨⟨Or.inl (gW_t 310 rfl rfl), gW_t 1 rfl rfl, gW_t 312 rfl rfl, by decide +kernel⟩, gW_t 311 rfl rfl⟩
set_option maxRecDepth 100000 in
theorem mk_X7_94 : g_mlV RX7 94 yX0_kindOf cX0_kindOf 2 (some .int) 1 0 := ⟨⟨Or.inr ⟨"SnowPaths", gN_t 313 rfl rfl⟩, gW_t 2 rfl rfl, gW_t 316 rfl rfl, by decide +kernel⟩, gW_t 315 rfl rfl, gW_p 4 rfl rfl, TX0, 5, rfl⟩
set_option maxRecDepth 100000 in
theorem mk_X7_115 : g_mlV RX7 115 yX1_addSnow cX1_addSnow 7 (some .int) 2 1 := ⟨⟨Or.inr ⟨"SnowPaths", gN_t 324 rfl rfl⟩, gW_t 3 rfl rfl, gW_t 327 rfl rfl, by decide +kernel⟩, gW_t 326 rfl rfl, gW_p 5 rfl rfl, TX1, 5, rfl⟩
set_option maxRecDepth 100000 in
theorem mk_X7_119 : g_mlV RX7 119 yX1_melt cX1_melt 4 (some .int) 1 1 := ⟨⟨Or.inr ⟨"SnowPaths", gN_t 336 rfl rfl⟩, gW_t 3 rfl rfl, gW_t 339 rfl rfl, by decide +kernel⟩, gW_t 338 rfl rfl, gW_p 6 rfl rfl, TX1, 5, rfl⟩
set_option maxRecDepth 100000 in
theorem mk_X7_122 : g_mlV RX7 122 yX1_freeze cX1_freeze 3 (some .int) 0 1 := ⟨⟨Or.inr ⟨"SnowPaths", gN_t 347 rfl rfl⟩, gW_t 3 rfl rfl, gW_t 350 rfl rfl, by decide +kernel⟩, gW_t 349 rfl rfl, gW_p 7 rfl rfl, TX1, 5, rfl⟩
set_option maxRecDepth 100000 in
theorem mk_X7_126 : g_mlS RX7 126 yX7_beside cX7_beside 3 (some .int) 2 := ⟨⟨Or.inl (gW_t 355 rfl rfl), gW_t 1 rfl rfl, gW_t 357 rfl rfl, by decide +kernel⟩, gW_t 356 rfl rfl⟩
set_option maxRecDepth 100000 in
theorem mk_X7_130 : g_mlS RX7 130 yX7_has cX7_has 3 (some .boolean) 2 := ⟨⟨Or.inl (gW_t 358 rfl rfl), gW_t 1 rfl rfl, gW_t 319 rfl rfl, by decide +kernel⟩, gW_t 318 rfl rfl⟩
set_option maxRecDepth 100000 in
theorem mk_X7_134 : g_mlV RX7 134 yX1_shovel cX1_shovel 4 (some .int) 2 1 := ⟨⟨Or.inr ⟨"SnowPaths", gN_t 359 rfl rfl⟩, gW_t 3 rfl rfl, gW_t 362 rfl rfl, by decide +kernel⟩, gW_t 361 rfl rfl, gW_p 8 rfl rfl, TX1, 5, rfl⟩
set_option maxRecDepth 100000 in
theorem mk_X7_137 : g_mlS RX7 137 yX7_isSheet cX7_isSheet 1 (some .boolean) 1 := ⟨⟨Or.inl (gW_t 367 rfl rfl), gW_t 1 rfl rfl, gW_t 369 rfl rfl, by decide +kernel⟩, gW_t 368 rfl rfl⟩
set_option maxRecDepth 100000 in
theorem mk_X7_140 : g_mlV RX7 140 yX5_isLost cX5_isLost 1 (some .boolean) 0 5 := ⟨⟨Or.inr ⟨"SnowPaths", gN_t 370 rfl rfl⟩, gW_t 8 rfl rfl, gW_t 373 rfl rfl, by decide +kernel⟩, gW_t 372 rfl rfl, gW_p 9 rfl rfl, TX5, 3, rfl⟩
set_option maxRecDepth 100000 in
theorem mk_X7_144 : g_mlV RX7 144 yX7_found cX7_found 2 (some .int) 1 7 := ⟨⟨Or.inl (gW_t 374 rfl rfl), gW_t 1 rfl rfl, gW_t 377 rfl rfl, by decide +kernel⟩, gW_t 376 rfl rfl, gW_p 10 rfl rfl, TX7, 12, rfl⟩
set_option maxRecDepth 100000 in
theorem mk_X7_147 : g_mlV RX7 147 yX1_setSnow cX1_setSnow 3 (some .int) 1 1 := ⟨⟨Or.inr ⟨"SnowPaths", gN_t 378 rfl rfl⟩, gW_t 3 rfl rfl, gW_t 381 rfl rfl, by decide +kernel⟩, gW_t 380 rfl rfl, gW_p 11 rfl rfl, TX1, 5, rfl⟩
set_option maxRecDepth 100000 in
theorem mk_X7_151 : g_mlV RX7 151 yX6_join cX6_join 3 (some .boolean) 2 6 := ⟨⟨Or.inr ⟨"SnowPaths", gN_t 386 rfl rfl⟩, gW_t 4 rfl rfl, gW_t 389 rfl rfl, by decide +kernel⟩, gW_t 388 rfl rfl, gW_p 12 rfl rfl, TX6, 3, rfl⟩
set_option maxRecDepth 100000 in
theorem mk_X7_161 : g_mlV RX7 161 yX4_find cX4_find 8 (some .int) 4 4 := ⟨⟨Or.inr ⟨"SnowPaths", gN_t 398 rfl rfl⟩, gW_t 5 rfl rfl, gW_t 401 rfl rfl, by decide +kernel⟩, gW_t 400 rfl rfl, gW_p 13 rfl rfl, TX4, 5, rfl⟩
set_option maxRecDepth 100000 in
theorem mk_X7_169 : g_mlV RX7 169 yX7_isWalker cX7_isWalker 2 (some .boolean) 1 7 := ⟨⟨Or.inl (gW_t 432 rfl rfl), gW_t 1 rfl rfl, gW_t 435 rfl rfl, by decide +kernel⟩, gW_t 434 rfl rfl, gW_p 16 rfl rfl, TX7, 12, rfl⟩
set_option maxRecDepth 100000 in
theorem mk_X7_172 : g_mlV RX7 172 yX3_begin cX3_begin 2 none 1 3 := ⟨⟨Or.inr ⟨"SnowPaths", gN_t 436 rfl rfl⟩, gW_t 6 rfl rfl, gW_t 439 rfl rfl, by decide +kernel⟩, gW_t 438 rfl rfl, gW_p 17 rfl rfl, TX3, 8, rfl⟩
set_option maxRecDepth 100000 in
theorem mk_X7_182 : g_mlV RX7 182 yX3_go cX3_go 9 (some .boolean) 3 3 := ⟨⟨Or.inr ⟨"SnowPaths", gN_t 446 rfl rfl⟩, gW_t 6 rfl rfl, gW_t 449 rfl rfl, by decide +kernel⟩, gW_t 448 rfl rfl, gW_p 18 rfl rfl, TX3, 8, rfl⟩
set_option maxRecDepth 100000 in
theorem mk_X7_186 : g_mlV RX7 186 yX1_treadAs cX1_treadAs 3 none 1 1 := ⟨⟨Or.inr ⟨"SnowPaths", gN_t 461 rfl rfl⟩, gW_t 3 rfl rfl, gW_t 464 rfl rfl, by decide +kernel⟩, gW_t 463 rfl rfl, gW_p 21 rfl rfl, TX1, 5, rfl⟩
set_option maxRecDepth 100000 in
theorem mk_X7_193 : g_mlV RX7 193 yX7_tryMorning cX7_tryMorning 4 none 2 7 := ⟨⟨Or.inl (gW_t 469 rfl rfl), gW_t 1 rfl rfl, gW_t 472 rfl rfl, by decide +kernel⟩, gW_t 471 rfl rfl, gW_p 22 rfl rfl, TX7, 12, rfl⟩
set_option maxRecDepth 100000 in
theorem mk_X7_197 : g_mlV RX7 197 yX7_told cX7_told 2 (some .int) 1 7 := ⟨⟨Or.inl (gW_t 477 rfl rfl), gW_t 1 rfl rfl, gW_t 480 rfl rfl, by decide +kernel⟩, gW_t 479 rfl rfl, gW_p 23 rfl rfl, TX7, 12, rfl⟩
set_option maxRecDepth 100000 in
theorem mk_X7_200 : g_mlV RX7 200 yX7_fewestSteps cX7_fewestSteps 4 (some .int) 1 7 := ⟨⟨Or.inl (gW_t 489 rfl rfl), gW_t 1 rfl rfl, gW_t 492 rfl rfl, by decide +kernel⟩, gW_t 491 rfl rfl, gW_p 25 rfl rfl, TX7, 12, rfl⟩
set_option maxRecDepth 100000 in
theorem mk_X7_206 : g_mlV RX7 206 yX2_tryAll cX2_tryAll 6 none 2 2 := ⟨⟨Or.inr ⟨"SnowPaths", gN_t 501 rfl rfl⟩, gW_t 7 rfl rfl, gW_t 504 rfl rfl, by decide +kernel⟩, gW_t 503 rfl rfl, gW_p 26 rfl rfl, TX2, 10, rfl⟩
set_option maxRecDepth 100000 in
theorem mk_X7_219 : g_mlV RX7 219 yX7_seekFirst cX7_seekFirst 2 none 0 7 := ⟨⟨Or.inl (gW_t 545 rfl rfl), gW_t 1 rfl rfl, gW_t 548 rfl rfl, by decide +kernel⟩, gW_t 547 rfl rfl, gW_p 34 rfl rfl, TX7, 12, rfl⟩
set_option maxRecDepth 100000 in
theorem mk_X7_222 : g_mlV RX7 222 yX7_seekYard cX7_seekYard 3 none 0 7 := ⟨⟨Or.inl (gW_t 553 rfl rfl), gW_t 1 rfl rfl, gW_t 556 rfl rfl, by decide +kernel⟩, gW_t 555 rfl rfl, gW_p 35 rfl rfl, TX7, 12, rfl⟩
set_option maxRecDepth 100000 in
theorem mk_X7_225 : g_mlV RX7 225 yX7_left cX7_left 3 (some .long) 2 7 := ⟨⟨Or.inl (gW_t 561 rfl rfl), gW_t 1 rfl rfl, gW_t 564 rfl rfl, by decide +kernel⟩, gW_t 562 rfl rfl, gW_t 563 rfl rfl, TX7, 12, rfl⟩
set_option maxRecDepth 100000 in
theorem mk_X7_229 : g_mlV RX7 229 yX7_mostSlippery cX7_mostSlippery 6 (some .int) 1 7 := ⟨⟨Or.inl (gW_t 577 rfl rfl), gW_t 1 rfl rfl, gW_t 580 rfl rfl, by decide +kernel⟩, gW_t 579 rfl rfl, gW_p 38 rfl rfl, TX7, 12, rfl⟩
set_option maxRecDepth 100000 in
theorem mk_X7_233 : g_mlS RX7 233 yX7_bit cX7_bit 1 (some .long) 1 := ⟨⟨Or.inl (gW_t 581 rfl rfl), gW_t 1 rfl rfl, gW_t 293 rfl rfl, by decide +kernel⟩, gW_t 292 rfl rfl⟩
set_option maxRecDepth 100000 in
theorem mk_X7_237 : g_mlS RX7 237 yX7_refusedLong cX7_refusedLong 1 (some .long) 1 := ⟨⟨Or.inl (gW_t 565 rfl rfl), gW_t 1 rfl rfl, gW_t 567 rfl rfl, by decide +kernel⟩, gW_t 566 rfl rfl⟩
set_option maxRecDepth 100000 in
theorem mk_X7_240 : g_mlV RX7 240 yX7_slipperinessLeft cX7_slipperinessLeft 7 (some .int) 1 7 := ⟨⟨Or.inl (gW_t 569 rfl rfl), gW_t 1 rfl rfl, gW_t 572 rfl rfl, by decide +kernel⟩, gW_t 571 rfl rfl, gW_p 36 rfl rfl, TX7, 12, rfl⟩
set_option maxRecDepth 100000 in
theorem mk_X7_243 : g_mlS RX7 243 yX7_thirtieths cX7_thirtieths 3 (some .long) 2 := ⟨⟨Or.inl (gW_t 582 rfl rfl), gW_t 1 rfl rfl, gW_t 584 rfl rfl, by decide +kernel⟩, gW_t 583 rfl rfl⟩
set_option maxRecDepth 100000 in
theorem mk_X7_255 : g_mlV RX7 255 yX7_wouldShow cX7_wouldShow 6 (some .boolean) 3 7 := ⟨⟨Or.inl (gW_t 602 rfl rfl), gW_t 1 rfl rfl, gW_t 605 rfl rfl, by decide +kernel⟩, gW_t 604 rfl rfl, gW_p 39 rfl rfl, TX7, 12, rfl⟩
set_option maxRecDepth 100000 in
theorem mk_X7_259 : g_mlS RX7 259 yX7_isForm cX7_isForm 1 (some .boolean) 1 := ⟨⟨Or.inl (gW_t 611 rfl rfl), gW_t 1 rfl rfl, gW_t 613 rfl rfl, by decide +kernel⟩, gW_t 612 rfl rfl⟩
set_option maxRecDepth 100000 in
theorem mk_X7_262 : g_mlV RX7 262 yX5_renew cX5_renew 3 none 2 5 := ⟨⟨Or.inr ⟨"SnowPaths", gN_t 614 rfl rfl⟩, gW_t 8 rfl rfl, gW_t 617 rfl rfl, by decide +kernel⟩, gW_t 616 rfl rfl, gW_p 40 rfl rfl, TX5, 3, rfl⟩
set_option maxRecDepth 100000 in
theorem mk_X7_268 : g_mlV RX7 268 yX7_refusedItem cX7_refusedItem 4 (some .int) 3 7 := ⟨⟨Or.inl (gW_t 627 rfl rfl), gW_t 1 rfl rfl, gW_t 630 rfl rfl, by decide +kernel⟩, gW_t 629 rfl rfl, gW_p 41 rfl rfl, TX7, 12, rfl⟩
set_option maxRecDepth 100000 in
theorem mk_X7_272 : g_mlV RX7 272 yX5_put cX5_put 3 none 2 5 := ⟨⟨Or.inr ⟨"SnowPaths", gN_t 635 rfl rfl⟩, gW_t 8 rfl rfl, gW_t 638 rfl rfl, by decide +kernel⟩, gW_t 637 rfl rfl, gW_p 43 rfl rfl, TX5, 3, rfl⟩
set_option maxRecDepth 100000 in
theorem mk_X7_282 : g_mlV RX7 282 yX5_holds cX5_holds 3 (some .boolean) 2 5 := ⟨⟨Or.inr ⟨"SnowPaths", gN_t 631 rfl rfl⟩, gW_t 8 rfl rfl, gW_t 634 rfl rfl, by decide +kernel⟩, gW_t 633 rfl rfl, gW_p 42 rfl rfl, TX5, 3, rfl⟩
set_option maxRecDepth 100000 in
theorem ac_X7_285 : Cond.methodLink RX7 285 arraycopyName ∈ gW ∧ Cond.native arraycopyName ∈ gW ∧ Cond.static arraycopyName ∈ gW ∧ Cond.initialized "java/lang/System" ∈ gW := ⟨gW_t 648 rfl rfl, gW_t 442 rfl rfl, gW_t 441 rfl rfl, gW_t 13 rfl rfl⟩
set_option maxRecDepth 100000 in
theorem mk_X7_294 : g_mlS RX7 294 yJ13_bitCount_95d88 cJ13_bitCount_95d88 2 (some .int) 1 := ⟨⟨Or.inl (gW_t 657 rfl rfl), gW_t 12 rfl rfl, gW_t 414 rfl rfl, by decide +kernel⟩, gW_t 413 rfl rfl⟩
set_option maxRecDepth 100000 in
theorem mk_X7_299 : g_mlS RX7 299 yX7_sum cX7_sum 6 (some .int) 1 := ⟨⟨Or.inl (gW_t 658 rfl rfl), gW_t 1 rfl rfl, gW_t 660 rfl rfl, by decide +kernel⟩, gW_t 659 rfl rfl⟩
set_option maxRecDepth 100000 in
theorem mk_X7_307 : g_mlV RX7 307 yX7_count cX7_count 2 (some .int) 1 7 := ⟨⟨Or.inl (gW_t 667 rfl rfl), gW_t 1 rfl rfl, gW_t 656 rfl rfl, by decide +kernel⟩, gW_t 654 rfl rfl, gW_t 655 rfl rfl, TX7, 12, rfl⟩
set_option maxRecDepth 100000 in
theorem mk_X7_310 : g_mlV RX7 310 yX7_fault cX7_fault 1 (some .int) 0 7 := ⟨⟨Or.inl (gW_t 668 rfl rfl), gW_t 1 rfl rfl, gW_t 305 rfl rfl, by decide +kernel⟩, gW_t 303 rfl rfl, gW_t 304 rfl rfl, TX7, 12, rfl⟩
set_option maxRecDepth 100000 in
theorem mk_X7_313 : g_mlV RX7 313 yX7_cell cX7_cell 3 (some .int) 2 7 := ⟨⟨Or.inl (gW_t 669 rfl rfl), gW_t 1 rfl rfl, gW_t 309 rfl rfl, by decide +kernel⟩, gW_t 307 rfl rfl, gW_t 308 rfl rfl, TX7, 12, rfl⟩
set_option maxRecDepth 100000 in
theorem mk_X7_316 : g_mlV RX7 316 yX7_straight cX7_straight 2 (some .int) 1 7 := ⟨⟨Or.inl (gW_t 670 rfl rfl), gW_t 1 rfl rfl, gW_t 488 rfl rfl, by decide +kernel⟩, gW_t 486 rfl rfl, gW_t 487 rfl rfl, TX7, 12, rfl⟩
set_option maxRecDepth 100000 in
theorem mk_X7_319 : g_mlV RX7 319 yX7_plan cX7_plan 5 (some .int) 3 7 := ⟨⟨Or.inl (gW_t 671 rfl rfl), gW_t 1 rfl rfl, gW_t 397 rfl rfl, by decide +kernel⟩, gW_t 395 rfl rfl, gW_t 396 rfl rfl, TX7, 12, rfl⟩
set_option maxRecDepth 100000 in
theorem mk_X7_322 : g_mlV RX7 322 yX7_longer cX7_longer 4 (some .int) 0 7 := ⟨⟨Or.inl (gW_t 672 rfl rfl), gW_t 1 rfl rfl, gW_t 496 rfl rfl, by decide +kernel⟩, gW_t 494 rfl rfl, gW_t 495 rfl rfl, TX7, 12, rfl⟩
set_option maxRecDepth 100000 in
theorem mk_X7_325 : g_mlV RX7 325 yX7_first cX7_first 2 (some .int) 1 7 := ⟨⟨Or.inl (gW_t 673 rfl rfl), gW_t 1 rfl rfl, gW_t 544 rfl rfl, by decide +kernel⟩, gW_t 542 rfl rfl, gW_t 543 rfl rfl, TX7, 12, rfl⟩
set_option maxRecDepth 100000 in
theorem mk_X7_328 : g_mlV RX7 328 yX7_falls cX7_falls 2 (some .long) 1 7 := ⟨⟨Or.inl (gW_t 674 rfl rfl), gW_t 1 rfl rfl, gW_t 560 rfl rfl, by decide +kernel⟩, gW_t 558 rfl rfl, gW_t 559 rfl rfl, TX7, 12, rfl⟩
set_option maxRecDepth 100000 in
theorem mk_X7_332 : g_mlV RX7 332 yX3_cellsPassed cX3_cellsPassed 6 (some .int) 0 3 := ⟨⟨Or.inr ⟨"SnowPaths", gN_t 481 rfl rfl⟩, gW_t 6 rfl rfl, gW_t 484 rfl rfl, by decide +kernel⟩, gW_t 483 rfl rfl, gW_p 24 rfl rfl, TX3, 8, rfl⟩
set_option maxRecDepth 100000 in
theorem mk_X7_341 : g_mlV RX7 341 yX5_shows cX5_shows 3 (some .boolean) 1 5 := ⟨⟨Or.inr ⟨"SnowPaths", gN_t 606 rfl rfl⟩, gW_t 8 rfl rfl, gW_t 524 rfl rfl, by decide +kernel⟩, gW_t 523 rfl rfl, gW_p 30 rfl rfl, TX5, 3, rfl⟩
set_option maxRecDepth 100000 in
theorem mk_X7_345 : g_mlV RX7 345 yX7_slipperiness cX7_slipperiness 2 (some .int) 1 7 := ⟨⟨Or.inl (gW_t 573 rfl rfl), gW_t 1 rfl rfl, gW_t 576 rfl rfl, by decide +kernel⟩, gW_t 575 rfl rfl, gW_p 37 rfl rfl, TX7, 12, rfl⟩
set_option maxRecDepth 100000 in
theorem mk_X8_80 : g_mlS RX8 80 yX8_in cX8_in 6 (some .boolean) 3 := ⟨⟨Or.inl (gW_t 799 rfl rfl), gW_t 9 rfl rfl, gW_t 801 rfl rfl, by decide +kernel⟩, gW_t 800 rfl rfl⟩
set_option maxRecDepth 100000 in
theorem mk_X8_91 : g_mlS RX8 91 yX8_isSheet cX8_isSheet 1 (some .boolean) 1 := ⟨⟨Or.inl (gW_t 795 rfl rfl), gW_t 9 rfl rfl, gW_t 797 rfl rfl, by decide +kernel⟩, gW_t 796 rfl rfl⟩
set_option maxRecDepth 100000 in
theorem mk_X8_97 : g_mlV RX8 97 yX8_met cX8_met 2 (some .int) 1 8 := ⟨⟨Or.inl (gW_t 803 rfl rfl), gW_t 9 rfl rfl, gW_t 806 rfl rfl, by decide +kernel⟩, gW_t 805 rfl rfl, gW_p 44 rfl rfl, TX8, 36, rfl⟩
set_option maxRecDepth 100000 in
theorem mk_X8_101 : g_mlV RX8 101 yX8_lacks cX8_lacks 4 (some .int) 3 8 := ⟨⟨Or.inl (gW_t 815 rfl rfl), gW_t 9 rfl rfl, gW_t 818 rfl rfl, by decide +kernel⟩, gW_t 817 rfl rfl, gW_p 45 rfl rfl, TX8, 36, rfl⟩
set_option maxRecDepth 100000 in
theorem mk_X8_105 : g_mlS RX8 105 yX8_cut cX8_cut 2 (some .int) 2 := ⟨⟨Or.inl (gW_t 819 rfl rfl), gW_t 9 rfl rfl, gW_t 821 rfl rfl, by decide +kernel⟩, gW_t 820 rfl rfl⟩
set_option maxRecDepth 100000 in
theorem mk_X8_115 : g_mlS RX8 115 yX8_kindOf cX8_kindOf 1 (some .int) 1 := ⟨⟨Or.inl (gW_t 852 rfl rfl), gW_t 9 rfl rfl, gW_t 854 rfl rfl, by decide +kernel⟩, gW_t 853 rfl rfl⟩
set_option maxRecDepth 100000 in
theorem mk_X8_118 : g_mlV RX8 118 yX8_faultNow cX8_faultNow 2 (some .int) 0 8 := ⟨⟨Or.inl (gW_t 848 rfl rfl), gW_t 9 rfl rfl, gW_t 851 rfl rfl, by decide +kernel⟩, gW_t 850 rfl rfl, gW_p 47 rfl rfl, TX8, 36, rfl⟩
set_option maxRecDepth 100000 in
theorem mk_X8_122 : g_mlV RX8 122 yX8_reads cX8_reads 3 (some .int) 0 8 := ⟨⟨Or.inl (gW_t 844 rfl rfl), gW_t 9 rfl rfl, gW_t 847 rfl rfl, by decide +kernel⟩, gW_t 846 rfl rfl, gW_p 46 rfl rfl, TX8, 36, rfl⟩
set_option maxRecDepth 100000 in
theorem mk_X8_125 : g_mlS RX8 125 yX8_isCell cX8_isCell 1 (some .boolean) 1 := ⟨⟨Or.inl (gW_t 859 rfl rfl), gW_t 9 rfl rfl, gW_t 861 rfl rfl, by decide +kernel⟩, gW_t 860 rfl rfl⟩
set_option maxRecDepth 100000 in
theorem mk_X8_130 : g_mlV RX8 130 yX8_cellOf cX8_cellOf 3 (some .int) 2 8 := ⟨⟨Or.inl (gW_t 864 rfl rfl), gW_t 9 rfl rfl, gW_t 867 rfl rfl, by decide +kernel⟩, gW_t 866 rfl rfl, gW_p 48 rfl rfl, TX8, 36, rfl⟩
set_option maxRecDepth 100000 in
theorem mk_X8_135 : g_mlS RX8 135 yX8_least cX8_least 2 (some .int) 2 := ⟨⟨Or.inl (gW_t 873 rfl rfl), gW_t 9 rfl rfl, gW_t 875 rfl rfl, by decide +kernel⟩, gW_t 874 rfl rfl⟩
set_option maxRecDepth 100000 in
theorem mk_X8_138 : g_mlS RX8 138 yX8_less cX8_less 2 (some .int) 2 := ⟨⟨Or.inl (gW_t 880 rfl rfl), gW_t 9 rfl rfl, gW_t 882 rfl rfl, by decide +kernel⟩, gW_t 881 rfl rfl⟩
set_option maxRecDepth 100000 in
theorem mk_X8_141 : g_mlS RX8 141 yX8_next cX8_next 2 (some .int) 2 := ⟨⟨Or.inl (gW_t 891 rfl rfl), gW_t 9 rfl rfl, gW_t 893 rfl rfl, by decide +kernel⟩, gW_t 892 rfl rfl⟩
set_option maxRecDepth 100000 in
theorem mk_X8_149 : g_mlV RX8 149 yX8_begins cX8_begins 2 none 0 8 := ⟨⟨Or.inl (gW_t 919 rfl rfl), gW_t 9 rfl rfl, gW_t 922 rfl rfl, by decide +kernel⟩, gW_t 921 rfl rfl, gW_p 51 rfl rfl, TX8, 36, rfl⟩
set_option maxRecDepth 100000 in
theorem mk_X8_164 : g_mlV RX8 164 yX8_isHidden cX8_isHidden 2 (some .boolean) 1 8 := ⟨⟨Or.inl (gW_t 927 rfl rfl), gW_t 9 rfl rfl, gW_t 930 rfl rfl, by decide +kernel⟩, gW_t 929 rfl rfl, gW_p 53 rfl rfl, TX8, 36, rfl⟩
set_option maxRecDepth 100000 in
theorem mk_X8_167 : g_mlV RX8 167 yX8_mayPass cX8_mayPass 2 (some .boolean) 1 8 := ⟨⟨Or.inl (gW_t 939 rfl rfl), gW_t 9 rfl rfl, gW_t 942 rfl rfl, by decide +kernel⟩, gW_t 941 rfl rfl, gW_p 56 rfl rfl, TX8, 36, rfl⟩
set_option maxRecDepth 100000 in
theorem mk_X8_171 : g_mlV RX8 171 yX8_wades cX8_wades 3 (some .int) 2 8 := ⟨⟨Or.inl (gW_t 944 rfl rfl), gW_t 9 rfl rfl, gW_t 947 rfl rfl, by decide +kernel⟩, gW_t 946 rfl rfl, gW_p 57 rfl rfl, TX8, 36, rfl⟩
set_option maxRecDepth 100000 in
theorem mk_X8_175 : g_mlV RX8 175 yX8_findCosts cX8_findCosts 7 none 2 8 := ⟨⟨Or.inl (gW_t 935 rfl rfl), gW_t 9 rfl rfl, gW_t 938 rfl rfl, by decide +kernel⟩, gW_t 937 rfl rfl, gW_p 55 rfl rfl, TX8, 36, rfl⟩
set_option maxRecDepth 100000 in
theorem mk_X8_182 : g_mlV RX8 182 yX8_mayBegin cX8_mayBegin 2 (some .boolean) 1 8 := ⟨⟨Or.inl (gW_t 948 rfl rfl), gW_t 9 rfl rfl, gW_t 951 rfl rfl, by decide +kernel⟩, gW_t 950 rfl rfl, gW_p 58 rfl rfl, TX8, 36, rfl⟩
set_option maxRecDepth 100000 in
theorem mk_X8_185 : g_mlV RX8 185 yX8_goesTo cX8_goesTo 4 (some .int) 1 8 := ⟨⟨Or.inl (gW_t 952 rfl rfl), gW_t 9 rfl rfl, gW_t 955 rfl rfl, by decide +kernel⟩, gW_t 954 rfl rfl, gW_p 59 rfl rfl, TX8, 36, rfl⟩
set_option maxRecDepth 100000 in
theorem mk_X8_188 : g_mlV RX8 188 yX8_tries cX8_tries 1 none 0 8 := ⟨⟨Or.inl (gW_t 915 rfl rfl), gW_t 9 rfl rfl, gW_t 918 rfl rfl, by decide +kernel⟩, gW_t 917 rfl rfl, gW_p 50 rfl rfl, TX8, 36, rfl⟩
set_option maxRecDepth 100000 in
theorem mk_X8_191 : g_mlV RX8 191 yX8_knows cX8_knows 3 none 1 8 := ⟨⟨Or.inl (gW_t 923 rfl rfl), gW_t 9 rfl rfl, gW_t 926 rfl rfl, by decide +kernel⟩, gW_t 925 rfl rfl, gW_p 52 rfl rfl, TX8, 36, rfl⟩
set_option maxRecDepth 100000 in
theorem mk_X8_195 : g_mlV RX8 195 yX8_plans cX8_plans 4 (some .boolean) 2 8 := ⟨⟨Or.inl (gW_t 931 rfl rfl), gW_t 9 rfl rfl, gW_t 934 rfl rfl, by decide +kernel⟩, gW_t 933 rfl rfl, gW_p 54 rfl rfl, TX8, 36, rfl⟩
set_option maxRecDepth 100000 in
theorem mk_X8_199 : g_mlV RX8 199 yX8_planOf cX8_planOf 4 (some .int) 3 8 := ⟨⟨Or.inl (gW_t 911 rfl rfl), gW_t 9 rfl rfl, gW_t 914 rfl rfl, by decide +kernel⟩, gW_t 913 rfl rfl, gW_p 49 rfl rfl, TX8, 36, rfl⟩
set_option maxRecDepth 100000 in
theorem mk_X8_202 : g_mlV RX8 202 yX8_treads cX8_treads 2 none 1 8 := ⟨⟨Or.inl (gW_t 968 rfl rfl), gW_t 9 rfl rfl, gW_t 971 rfl rfl, by decide +kernel⟩, gW_t 970 rfl rfl, gW_p 62 rfl rfl, TX8, 36, rfl⟩
set_option maxRecDepth 100000 in
theorem mk_X8_206 : g_mlV RX8 206 yX8_straightOf cX8_straightOf 2 (some .int) 1 8 := ⟨⟨Or.inl (gW_t 972 rfl rfl), gW_t 9 rfl rfl, gW_t 975 rfl rfl, by decide +kernel⟩, gW_t 974 rfl rfl, gW_p 63 rfl rfl, TX8, 36, rfl⟩
set_option maxRecDepth 100000 in
theorem mk_X8_209 : g_mlV RX8 209 yX8_isWalker cX8_isWalker 2 (some .boolean) 1 8 := ⟨⟨Or.inl (gW_t 960 rfl rfl), gW_t 9 rfl rfl, gW_t 963 rfl rfl, by decide +kernel⟩, gW_t 962 rfl rfl, gW_p 60 rfl rfl, TX8, 36, rfl⟩
set_option maxRecDepth 100000 in
theorem mk_X8_212 : g_mlV RX8 212 yX8_walks cX8_walks 7 none 1 8 := ⟨⟨Or.inl (gW_t 964 rfl rfl), gW_t 9 rfl rfl, gW_t 967 rfl rfl, by decide +kernel⟩, gW_t 966 rfl rfl, gW_p 61 rfl rfl, TX8, 36, rfl⟩
set_option maxRecDepth 100000 in
theorem mk_X8_215 : g_mlV RX8 215 yX8_becomes cX8_becomes 2 (some .int) 0 8 := ⟨⟨Or.inl (gW_t 976 rfl rfl), gW_t 9 rfl rfl, gW_t 979 rfl rfl, by decide +kernel⟩, gW_t 978 rfl rfl, gW_p 64 rfl rfl, TX8, 36, rfl⟩
set_option maxRecDepth 100000 in
theorem mk_X8_218 : g_mlV RX8 218 yX8_mornings cX8_mornings 2 none 0 8 := ⟨⟨Or.inl (gW_t 984 rfl rfl), gW_t 9 rfl rfl, gW_t 987 rfl rfl, by decide +kernel⟩, gW_t 986 rfl rfl, gW_p 65 rfl rfl, TX8, 36, rfl⟩
set_option maxRecDepth 100000 in
theorem mk_X8_221 : g_mlV RX8 221 yX8_allOf cX8_allOf 4 (some .int) 1 8 := ⟨⟨Or.inl (gW_t 992 rfl rfl), gW_t 9 rfl rfl, gW_t 995 rfl rfl, by decide +kernel⟩, gW_t 994 rfl rfl, gW_p 66 rfl rfl, TX8, 36, rfl⟩
set_option maxRecDepth 100000 in
theorem mk_X8_224 : g_mlV RX8 224 yX8_longerNow cX8_longerNow 1 (some .int) 0 8 := ⟨⟨Or.inl (gW_t 1004 rfl rfl), gW_t 9 rfl rfl, gW_t 1007 rfl rfl, by decide +kernel⟩, gW_t 1006 rfl rfl, gW_p 67 rfl rfl, TX8, 36, rfl⟩
set_option maxRecDepth 100000 in
theorem mk_X8_233 : g_mlV RX8 233 yX8_codes cX8_codes 3 (some .int) 0 8 := ⟨⟨Or.inl (gW_t 1019 rfl rfl), gW_t 9 rfl rfl, gW_t 1022 rfl rfl, by decide +kernel⟩, gW_t 1021 rfl rfl, gW_p 69 rfl rfl, TX8, 36, rfl⟩
set_option maxRecDepth 100000 in
theorem mk_X8_236 : g_mlV RX8 236 yX8_isOrder cX8_isOrder 5 (some .boolean) 1 8 := ⟨⟨Or.inl (gW_t 1023 rfl rfl), gW_t 9 rfl rfl, gW_t 1026 rfl rfl, by decide +kernel⟩, gW_t 1025 rfl rfl, gW_p 70 rfl rfl, TX8, 36, rfl⟩
set_option maxRecDepth 100000 in
theorem mk_X8_239 : g_mlV RX8 239 yX8_triesRow cX8_triesRow 2 none 0 8 := ⟨⟨Or.inl (gW_t 1027 rfl rfl), gW_t 9 rfl rfl, gW_t 1030 rfl rfl, by decide +kernel⟩, gW_t 1029 rfl rfl, gW_p 71 rfl rfl, TX8, 36, rfl⟩
set_option maxRecDepth 100000 in
theorem mk_X8_242 : g_mlV RX8 242 yX8_keepsRow cX8_keepsRow 2 none 0 8 := ⟨⟨Or.inl (gW_t 1031 rfl rfl), gW_t 9 rfl rfl, gW_t 1034 rfl rfl, by decide +kernel⟩, gW_t 1033 rfl rfl, gW_p 72 rfl rfl, TX8, 36, rfl⟩
set_option maxRecDepth 100000 in
theorem mk_X8_245 : g_mlS RX8 245 yX8_isTwo cX8_isTwo 1 (some .boolean) 1 := ⟨⟨Or.inl (gW_t 1012 rfl rfl), gW_t 9 rfl rfl, gW_t 1014 rfl rfl, by decide +kernel⟩, gW_t 1013 rfl rfl⟩
set_option maxRecDepth 100000 in
theorem mk_X8_248 : g_mlV RX8 248 yX8_findOrders cX8_findOrders 2 none 0 8 := ⟨⟨Or.inl (gW_t 1015 rfl rfl), gW_t 9 rfl rfl, gW_t 1018 rfl rfl, by decide +kernel⟩, gW_t 1017 rfl rfl, gW_p 68 rfl rfl, TX8, 36, rfl⟩
set_option maxRecDepth 100000 in
theorem mk_X8_251 : g_mlV RX8 251 yX8_firstOf cX8_firstOf 6 (some .int) 1 8 := ⟨⟨Or.inl (gW_t 1043 rfl rfl), gW_t 9 rfl rfl, gW_t 1046 rfl rfl, by decide +kernel⟩, gW_t 1045 rfl rfl, gW_p 73 rfl rfl, TX8, 36, rfl⟩
set_option maxRecDepth 100000 in
theorem mk_X8_260 : g_mlV RX8 260 yX8_findYard cX8_findYard 3 none 0 8 := ⟨⟨Or.inl (gW_t 1051 rfl rfl), gW_t 9 rfl rfl, gW_t 1054 rfl rfl, by decide +kernel⟩, gW_t 1053 rfl rfl, gW_p 74 rfl rfl, TX8, 36, rfl⟩
set_option maxRecDepth 100000 in
theorem mk_X8_263 : g_mlV RX8 263 yX8_grits cX8_grits 9 (some .int) 2 8 := ⟨⟨Or.inl (gW_t 1063 rfl rfl), gW_t 9 rfl rfl, gW_t 1066 rfl rfl, by decide +kernel⟩, gW_t 1065 rfl rfl, gW_p 76 rfl rfl, TX8, 36, rfl⟩
set_option maxRecDepth 100000 in
theorem mk_X8_266 : g_mlS RX8 266 yX8_part cX8_part 11 (some .long) 3 := ⟨⟨Or.inl (gW_t 1067 rfl rfl), gW_t 9 rfl rfl, gW_t 1069 rfl rfl, by decide +kernel⟩, gW_t 1068 rfl rfl⟩
set_option maxRecDepth 100000 in
theorem mk_X8_270 : g_mlV RX8 270 yX8_leftOf cX8_leftOf 6 (some .long) 2 8 := ⟨⟨Or.inl (gW_t 1059 rfl rfl), gW_t 9 rfl rfl, gW_t 1062 rfl rfl, by decide +kernel⟩, gW_t 1061 rfl rfl, gW_p 75 rfl rfl, TX8, 36, rfl⟩
set_option maxRecDepth 100000 in
theorem mk_X8_274 : g_mlS RX8 274 yX8_no cX8_no 1 (some .long) 1 := ⟨⟨Or.inl (gW_t 1070 rfl rfl), gW_t 9 rfl rfl, gW_t 1072 rfl rfl, by decide +kernel⟩, gW_t 1071 rfl rfl⟩
set_option maxRecDepth 100000 in
theorem mk_X8_280 : g_mlS RX8 280 yX8_isGrit cX8_isGrit 1 (some .boolean) 1 := ⟨⟨Or.inl (gW_t 1078 rfl rfl), gW_t 9 rfl rfl, gW_t 1080 rfl rfl, by decide +kernel⟩, gW_t 1079 rfl rfl⟩
set_option maxRecDepth 100000 in
theorem mk_X8_289 : g_mlV RX8 289 yX8_isPicture cX8_isPicture 4 (some .boolean) 1 8 := ⟨⟨Or.inl (gW_t 1094 rfl rfl), gW_t 9 rfl rfl, gW_t 1097 rfl rfl, by decide +kernel⟩, gW_t 1096 rfl rfl, gW_p 78 rfl rfl, TX8, 36, rfl⟩
set_option maxRecDepth 100000 in
theorem mk_X8_292 : g_mlV RX8 292 yX8_findTower cX8_findTower 3 none 1 8 := ⟨⟨Or.inl (gW_t 1090 rfl rfl), gW_t 9 rfl rfl, gW_t 1093 rfl rfl, by decide +kernel⟩, gW_t 1092 rfl rfl, gW_p 77 rfl rfl, TX8, 36, rfl⟩
set_option maxRecDepth 100000 in
theorem mk_X8_299 : g_mlV RX8 299 yX8_count cX8_count 4 (some .int) 1 8 := ⟨⟨Or.inl (gW_t 1120 rfl rfl), gW_t 9 rfl rfl, gW_t 1113 rfl rfl, by decide +kernel⟩, gW_t 1111 rfl rfl, gW_t 1112 rfl rfl, TX8, 36, rfl⟩
set_option maxRecDepth 100000 in
theorem ck_J13_314 : Cond.constantLong RJ13 314 (6148914691236517205) ∈ gW := gW_t 415 rfl rfl
set_option maxRecDepth 100000 in
theorem ck_J13_316 : Cond.constantLong RJ13 316 (3689348814741910323) ∈ gW := gW_t 416 rfl rfl
set_option maxRecDepth 100000 in
theorem ck_J13_318 : Cond.constantLong RJ13 318 (1085102592571150095) ∈ gW := gW_t 417 rfl rfl
set_option maxRecDepth 100000 in
theorem ck_X4_52 : Cond.constantLong RX4 52 (-1) ∈ gW := gW_t 411 rfl rfl
set_option maxRecDepth 100000 in
theorem ck_X4_73 : Cond.constantLong RX4 73 (-72340172838076674) ∈ gW := gW_t 421 rfl rfl
set_option maxRecDepth 100000 in
theorem ck_X7_275 : Cond.constant RX7 275 (-2147483648) ∈ gW := gW_t 643 rfl rfl
set_option maxRecDepth 100000 in
theorem ck_X7_303 : Cond.constantLong RX7 303 (17) ∈ gW := gW_t 665 rfl rfl
set_option maxRecDepth 100000 in
theorem ck_X7_305 : Cond.constantLong RX7 305 (31) ∈ gW := gW_t 666 rfl rfl
set_option maxRecDepth 100000 in
theorem ck_X7_348 : Cond.constantLong RX7 348 (-9223372036854775808) ∈ gW := gW_t 568 rfl rfl
set_option maxRecDepth 100000 in
theorem ck_X8_78 : Cond.constantLong RX8 78 (-9223372036854775808) ∈ gW := gW_t 1073 rfl rfl
set_option maxRecDepth 100000 in
theorem ck_X8_84 : Cond.constantLong RX8 84 (63) ∈ gW := gW_t 862 rfl rfl
set_option maxRecDepth 100000 in
theorem ck_X8_89 : Cond.constantLong RX8 89 (3) ∈ gW := gW_t 798 rfl rfl
set_option maxRecDepth 100000 in
theorem ck_X8_95 : Cond.constantLong RX8 95 (2) ∈ gW := gW_t 802 rfl rfl
set_option maxRecDepth 100000 in
theorem ck_X8_109 : Cond.constant RX8 109 (-2147483648) ∈ gW := gW_t 826 rfl rfl
set_option maxRecDepth 100000 in
theorem ck_X8_110 : Cond.constantLong RX8 110 (255) ∈ gW := gW_t 835 rfl rfl
set_option maxRecDepth 100000 in
theorem ck_X8_128 : Cond.constantLong RX8 128 (4) ∈ gW := gW_t 863 rfl rfl
set_option maxRecDepth 100000 in
theorem ck_X8_133 : Cond.constantLong RX8 133 (9) ∈ gW := gW_t 872 rfl rfl
set_option maxRecDepth 100000 in
theorem ck_X8_144 : Cond.constantLong RX8 144 (30) ∈ gW := gW_t 898 rfl rfl
set_option maxRecDepth 100000 in
theorem ck_X8_170 : Cond.constant RX8 170 (100000) ∈ gW := gW_t 943 rfl rfl
set_option maxRecDepth 100000 in
theorem ck_X8_278 : Cond.constantLong RX8 278 (8) ∈ gW := gW_t 1081 rfl rfl
set_option maxRecDepth 100000 in
theorem ck_X8_295 : Cond.constantLong RX8 295 (17) ∈ gW := gW_t 1118 rfl rfl
set_option maxRecDepth 100000 in
theorem ck_X8_297 : Cond.constantLong RX8 297 (31) ∈ gW := gW_t 1119 rfl rfl
theorem sf_0_0 : g_isR 0 7 0 1 := ⟨_, rfl, rfl⟩
theorem sf_0_1 : g_isR 0 7 1 3 := ⟨_, rfl, rfl⟩
theorem sf_0_2 : g_isR 0 7 2 9 := ⟨_, rfl, rfl⟩
theorem sf_0_3 : g_isR 0 7 3 12 := ⟨_, rfl, rfl⟩
theorem sf_0_4 : g_isR 0 7 4 16 := ⟨_, rfl, rfl⟩
theorem sf_0_5 : g_isR 0 7 5 19 := ⟨_, rfl, rfl⟩
theorem sf_0_6 : g_isR 0 7 6 42 := ⟨_, rfl, rfl⟩
theorem sf_0_7 : g_isI 0 7 7 := ⟨_, rfl, rfl⟩
theorem sf_0_8 : g_isI 0 7 8 := ⟨_, rfl, rfl⟩
theorem sf_0_9 : g_isI 0 7 9 := ⟨_, rfl, rfl⟩
theorem sf_0_10 : g_isI 0 7 10 := ⟨_, rfl, rfl⟩
theorem sf_0_11 : g_isI 0 7 11 := ⟨_, rfl, rfl⟩
theorem so_0 : g_isO 0 7 := ⟨_, rfl⟩
theorem sf_1_0 : g_isR 1 0 0 2 := ⟨_, rfl, rfl⟩
theorem sf_1_1 : g_isI 1 0 1 := ⟨_, rfl, rfl⟩
theorem sf_1_2 : g_isI 1 0 2 := ⟨_, rfl, rfl⟩
theorem sf_1_3 : g_isJ 1 0 3 := ⟨_, rfl, rfl⟩
theorem sf_1_4 : g_isJ 1 0 4 := ⟨_, rfl, rfl⟩
theorem so_1 : g_isO 1 0 := ⟨_, rfl⟩
theorem sa_2 : g_isA 2 0 75 := ⟨_, _, rfl⟩
theorem sf_3_0 : g_isR 3 1 0 4 := ⟨_, rfl, rfl⟩
theorem sf_3_1 : g_isR 3 1 1 5 := ⟨_, rfl, rfl⟩
theorem sf_3_2 : g_isR 3 1 2 6 := ⟨_, rfl, rfl⟩
theorem sf_3_3 : g_isR 3 1 3 7 := ⟨_, rfl, rfl⟩
theorem sf_3_4 : g_isR 3 1 4 8 := ⟨_, rfl, rfl⟩
theorem so_3 : g_isO 3 1 := ⟨_, rfl⟩
theorem sa_4 : g_isA 4 0 64 := ⟨_, _, rfl⟩
theorem sa_5 : g_isA 5 0 64 := ⟨_, _, rfl⟩
theorem sa_6 : g_isA 6 0 64 := ⟨_, _, rfl⟩
theorem sa_7 : g_isA 7 0 64 := ⟨_, _, rfl⟩
theorem sa_8 : g_isA 8 0 64 := ⟨_, _, rfl⟩
theorem sf_9_0 : g_isR 9 6 0 10 := ⟨_, rfl, rfl⟩
theorem sf_9_1 : g_isR 9 6 1 11 := ⟨_, rfl, rfl⟩
theorem sf_9_2 : g_isI 9 6 2 := ⟨_, rfl, rfl⟩
theorem so_9 : g_isO 9 6 := ⟨_, rfl⟩
theorem sa_10 : g_isA 10 0 8 := ⟨_, _, rfl⟩
theorem sa_11 : g_isA 11 0 8 := ⟨_, _, rfl⟩
theorem sf_12_0 : g_isR 12 4 0 13 := ⟨_, rfl, rfl⟩
theorem sf_12_1 : g_isR 12 4 1 14 := ⟨_, rfl, rfl⟩
theorem sf_12_2 : g_isR 12 4 2 15 := ⟨_, rfl, rfl⟩
theorem sf_12_3 : g_isI 12 4 3 := ⟨_, rfl, rfl⟩
theorem sf_12_4 : g_isJ 12 4 4 := ⟨_, rfl, rfl⟩
theorem so_12 : g_isO 12 4 := ⟨_, rfl⟩
theorem sa_13 : g_isA 13 0 64 := ⟨_, _, rfl⟩
theorem sa_14 : g_isA 14 1 32 := ⟨_, _, rfl⟩
theorem sa_15 : g_isA 15 0 64 := ⟨_, _, rfl⟩
theorem sf_16_0 : g_isR 16 3 0 1 := ⟨_, rfl, rfl⟩
theorem sf_16_1 : g_isR 16 3 1 12 := ⟨_, rfl, rfl⟩
theorem sf_16_2 : g_isR 16 3 2 17 := ⟨_, rfl, rfl⟩
theorem sf_16_3 : g_isR 16 3 3 18 := ⟨_, rfl, rfl⟩
theorem sf_16_4 : g_isI 16 3 4 := ⟨_, rfl, rfl⟩
theorem sf_16_5 : g_isI 16 3 5 := ⟨_, rfl, rfl⟩
theorem sf_16_6 : g_isI 16 3 6 := ⟨_, rfl, rfl⟩
theorem sf_16_7 : g_isI 16 3 7 := ⟨_, rfl, rfl⟩
theorem so_16 : g_isO 16 3 := ⟨_, rfl⟩
theorem sa_17 : g_isA 17 0 64 := ⟨_, _, rfl⟩
theorem sa_18 : g_isA 18 0 64 := ⟨_, _, rfl⟩
theorem sf_19_0 : g_isR 19 2 0 1 := ⟨_, rfl, rfl⟩
theorem sf_19_1 : g_isR 19 2 1 9 := ⟨_, rfl, rfl⟩
theorem sf_19_2 : g_isR 19 2 2 20 := ⟨_, rfl, rfl⟩
theorem sf_19_3 : g_isR 19 2 3 21 := ⟨_, rfl, rfl⟩
theorem sf_19_4 : g_isR 19 2 4 22 := ⟨_, rfl, rfl⟩
theorem sf_19_5 : g_isR 19 2 5 23 := ⟨_, rfl, rfl⟩
theorem sf_19_6 : g_isI 19 2 6 := ⟨_, rfl, rfl⟩
theorem sf_19_7 : g_isI 19 2 7 := ⟨_, rfl, rfl⟩
theorem sf_19_8 : g_isI 19 2 8 := ⟨_, rfl, rfl⟩
theorem sf_19_9 : g_isI 19 2 9 := ⟨_, rfl, rfl⟩
theorem so_19 : g_isO 19 2 := ⟨_, rfl⟩
theorem sa_20 : g_isAR 20 3 6 24 3 := rfl
theorem sa_21 : g_isA 21 0 5 := ⟨_, _, rfl⟩
theorem sa_22 : g_isA 22 0 5 := ⟨_, _, rfl⟩
theorem sa_23 : g_isA 23 0 5 := ⟨_, _, rfl⟩
theorem sf_24_0 : g_isR 24 3 0 1 := ⟨_, rfl, rfl⟩
theorem sf_24_1 : g_isR 24 3 1 12 := ⟨_, rfl, rfl⟩
theorem sf_24_2 : g_isR 24 3 2 25 := ⟨_, rfl, rfl⟩
theorem sf_24_3 : g_isR 24 3 3 26 := ⟨_, rfl, rfl⟩
theorem sf_24_4 : g_isI 24 3 4 := ⟨_, rfl, rfl⟩
theorem sf_24_5 : g_isI 24 3 5 := ⟨_, rfl, rfl⟩
theorem sf_24_6 : g_isI 24 3 6 := ⟨_, rfl, rfl⟩
theorem sf_24_7 : g_isI 24 3 7 := ⟨_, rfl, rfl⟩
theorem so_24 : g_isO 24 3 := ⟨_, rfl⟩
theorem sa_25 : g_isA 25 0 64 := ⟨_, _, rfl⟩
theorem sa_26 : g_isA 26 0 64 := ⟨_, _, rfl⟩
theorem sf_27_0 : g_isR 27 3 0 1 := ⟨_, rfl, rfl⟩
theorem sf_27_1 : g_isR 27 3 1 12 := ⟨_, rfl, rfl⟩
theorem sf_27_2 : g_isR 27 3 2 28 := ⟨_, rfl, rfl⟩
theorem sf_27_3 : g_isR 27 3 3 29 := ⟨_, rfl, rfl⟩
theorem sf_27_4 : g_isI 27 3 4 := ⟨_, rfl, rfl⟩
theorem sf_27_5 : g_isI 27 3 5 := ⟨_, rfl, rfl⟩
theorem sf_27_6 : g_isI 27 3 6 := ⟨_, rfl, rfl⟩
theorem sf_27_7 : g_isI 27 3 7 := ⟨_, rfl, rfl⟩
theorem so_27 : g_isO 27 3 := ⟨_, rfl⟩
theorem sa_28 : g_isA 28 0 64 := ⟨_, _, rfl⟩
theorem sa_29 : g_isA 29 0 64 := ⟨_, _, rfl⟩
theorem sf_30_0 : g_isR 30 3 0 1 := ⟨_, rfl, rfl⟩
theorem sf_30_1 : g_isR 30 3 1 12 := ⟨_, rfl, rfl⟩
theorem sf_30_2 : g_isR 30 3 2 31 := ⟨_, rfl, rfl⟩
theorem sf_30_3 : g_isR 30 3 3 32 := ⟨_, rfl, rfl⟩
theorem sf_30_4 : g_isI 30 3 4 := ⟨_, rfl, rfl⟩
theorem sf_30_5 : g_isI 30 3 5 := ⟨_, rfl, rfl⟩
theorem sf_30_6 : g_isI 30 3 6 := ⟨_, rfl, rfl⟩
theorem sf_30_7 : g_isI 30 3 7 := ⟨_, rfl, rfl⟩
theorem so_30 : g_isO 30 3 := ⟨_, rfl⟩
theorem sa_31 : g_isA 31 0 64 := ⟨_, _, rfl⟩
theorem sa_32 : g_isA 32 0 64 := ⟨_, _, rfl⟩
theorem sf_33_0 : g_isR 33 3 0 1 := ⟨_, rfl, rfl⟩
theorem sf_33_1 : g_isR 33 3 1 12 := ⟨_, rfl, rfl⟩
theorem sf_33_2 : g_isR 33 3 2 34 := ⟨_, rfl, rfl⟩
theorem sf_33_3 : g_isR 33 3 3 35 := ⟨_, rfl, rfl⟩
theorem sf_33_4 : g_isI 33 3 4 := ⟨_, rfl, rfl⟩
theorem sf_33_5 : g_isI 33 3 5 := ⟨_, rfl, rfl⟩
theorem sf_33_6 : g_isI 33 3 6 := ⟨_, rfl, rfl⟩
theorem sf_33_7 : g_isI 33 3 7 := ⟨_, rfl, rfl⟩
theorem so_33 : g_isO 33 3 := ⟨_, rfl⟩
theorem sa_34 : g_isA 34 0 64 := ⟨_, _, rfl⟩
theorem sa_35 : g_isA 35 0 64 := ⟨_, _, rfl⟩
theorem sf_36_0 : g_isR 36 3 0 1 := ⟨_, rfl, rfl⟩
theorem sf_36_1 : g_isR 36 3 1 12 := ⟨_, rfl, rfl⟩
theorem sf_36_2 : g_isR 36 3 2 37 := ⟨_, rfl, rfl⟩
theorem sf_36_3 : g_isR 36 3 3 38 := ⟨_, rfl, rfl⟩
theorem sf_36_4 : g_isI 36 3 4 := ⟨_, rfl, rfl⟩
theorem sf_36_5 : g_isI 36 3 5 := ⟨_, rfl, rfl⟩
theorem sf_36_6 : g_isI 36 3 6 := ⟨_, rfl, rfl⟩
theorem sf_36_7 : g_isI 36 3 7 := ⟨_, rfl, rfl⟩
theorem so_36 : g_isO 36 3 := ⟨_, rfl⟩
theorem sa_37 : g_isA 37 0 64 := ⟨_, _, rfl⟩
theorem sa_38 : g_isA 38 0 64 := ⟨_, _, rfl⟩
theorem sf_39_0 : g_isR 39 3 0 1 := ⟨_, rfl, rfl⟩
theorem sf_39_1 : g_isR 39 3 1 12 := ⟨_, rfl, rfl⟩
theorem sf_39_2 : g_isR 39 3 2 40 := ⟨_, rfl, rfl⟩
theorem sf_39_3 : g_isR 39 3 3 41 := ⟨_, rfl, rfl⟩
theorem sf_39_4 : g_isI 39 3 4 := ⟨_, rfl, rfl⟩
theorem sf_39_5 : g_isI 39 3 5 := ⟨_, rfl, rfl⟩
theorem sf_39_6 : g_isI 39 3 6 := ⟨_, rfl, rfl⟩
theorem sf_39_7 : g_isI 39 3 7 := ⟨_, rfl, rfl⟩
theorem so_39 : g_isO 39 3 := ⟨_, rfl⟩
theorem sa_40 : g_isA 40 0 64 := ⟨_, _, rfl⟩
theorem sa_41 : g_isA 41 0 64 := ⟨_, _, rfl⟩
theorem sa_42 : g_isAR 42 4 4 43 2 := rfl
theorem sf_43_0 : g_isR 43 5 0 44 := ⟨_, rfl, rfl⟩
theorem sf_43_1 : g_isI 43 5 1 := ⟨_, rfl, rfl⟩
theorem sf_43_2 : g_isI 43 5 2 := ⟨_, rfl, rfl⟩
theorem so_43 : g_isO 43 5 := ⟨_, rfl⟩
theorem sa_44 : g_isA 44 0 64 := ⟨_, _, rfl⟩
theorem sf_45_0 : g_isR 45 5 0 46 := ⟨_, rfl, rfl⟩
theorem sf_45_1 : g_isI 45 5 1 := ⟨_, rfl, rfl⟩
theorem sf_45_2 : g_isI 45 5 2 := ⟨_, rfl, rfl⟩
theorem so_45 : g_isO 45 5 := ⟨_, rfl⟩
theorem sa_46 : g_isA 46 0 64 := ⟨_, _, rfl⟩
theorem sf_47_0 : g_isR 47 5 0 48 := ⟨_, rfl, rfl⟩
theorem sf_47_1 : g_isI 47 5 1 := ⟨_, rfl, rfl⟩
theorem sf_47_2 : g_isI 47 5 2 := ⟨_, rfl, rfl⟩
theorem so_47 : g_isO 47 5 := ⟨_, rfl⟩
theorem sa_48 : g_isA 48 0 64 := ⟨_, _, rfl⟩
theorem sf_49_0 : g_isR 49 5 0 50 := ⟨_, rfl, rfl⟩
theorem sf_49_1 : g_isI 49 5 1 := ⟨_, rfl, rfl⟩
theorem sf_49_2 : g_isI 49 5 2 := ⟨_, rfl, rfl⟩
theorem so_49 : g_isO 49 5 := ⟨_, rfl⟩
theorem sa_50 : g_isA 50 0 64 := ⟨_, _, rfl⟩
theorem sf_51_0 : g_isR 51 8 0 52 := ⟨_, rfl, rfl⟩
theorem sf_51_1 : g_isR 51 8 1 53 := ⟨_, rfl, rfl⟩
theorem sf_51_2 : g_isR 51 8 2 54 := ⟨_, rfl, rfl⟩
theorem sf_51_3 : g_isR 51 8 3 55 := ⟨_, rfl, rfl⟩
theorem sf_51_4 : g_isI 51 8 4 := ⟨_, rfl, rfl⟩
theorem sf_51_5 : g_isR 51 8 5 56 := ⟨_, rfl, rfl⟩
theorem sf_51_6 : g_isI 51 8 6 := ⟨_, rfl, rfl⟩
theorem sf_51_7 : g_isR 51 8 7 57 := ⟨_, rfl, rfl⟩
theorem sf_51_8 : g_isR 51 8 8 58 := ⟨_, rfl, rfl⟩
theorem sf_51_9 : g_isR 51 8 9 59 := ⟨_, rfl, rfl⟩
theorem sf_51_10 : g_isR 51 8 10 60 := ⟨_, rfl, rfl⟩
theorem sf_51_11 : g_isR 51 8 11 61 := ⟨_, rfl, rfl⟩
theorem sf_51_12 : g_isI 51 8 12 := ⟨_, rfl, rfl⟩
theorem sf_51_13 : g_isR 51 8 13 62 := ⟨_, rfl, rfl⟩
theorem sf_51_14 : g_isR 51 8 14 63 := ⟨_, rfl, rfl⟩
theorem sf_51_15 : g_isR 51 8 15 64 := ⟨_, rfl, rfl⟩
theorem sf_51_16 : g_isR 51 8 16 65 := ⟨_, rfl, rfl⟩
theorem sf_51_17 : g_isR 51 8 17 66 := ⟨_, rfl, rfl⟩
theorem sf_51_18 : g_isR 51 8 18 67 := ⟨_, rfl, rfl⟩
theorem sf_51_19 : g_isI 51 8 19 := ⟨_, rfl, rfl⟩
theorem sf_51_20 : g_isR 51 8 20 68 := ⟨_, rfl, rfl⟩
theorem sf_51_21 : g_isI 51 8 21 := ⟨_, rfl, rfl⟩
theorem sf_51_22 : g_isI 51 8 22 := ⟨_, rfl, rfl⟩
theorem sf_51_23 : g_isI 51 8 23 := ⟨_, rfl, rfl⟩
theorem sf_51_24 : g_isI 51 8 24 := ⟨_, rfl, rfl⟩
theorem sf_51_25 : g_isR 51 8 25 69 := ⟨_, rfl, rfl⟩
theorem sf_51_26 : g_isI 51 8 26 := ⟨_, rfl, rfl⟩
theorem sf_51_27 : g_isR 51 8 27 70 := ⟨_, rfl, rfl⟩
theorem sf_51_28 : g_isR 51 8 28 71 := ⟨_, rfl, rfl⟩
theorem sf_51_29 : g_isI 51 8 29 := ⟨_, rfl, rfl⟩
theorem sf_51_30 : g_isI 51 8 30 := ⟨_, rfl, rfl⟩
theorem sf_51_31 : g_isI 51 8 31 := ⟨_, rfl, rfl⟩
theorem sf_51_32 : g_isI 51 8 32 := ⟨_, rfl, rfl⟩
theorem sf_51_33 : g_isR 51 8 33 72 := ⟨_, rfl, rfl⟩
theorem sf_51_34 : g_isI 51 8 34 := ⟨_, rfl, rfl⟩
theorem sf_51_35 : g_isI 51 8 35 := ⟨_, rfl, rfl⟩
theorem so_51 : g_isO 51 8 := ⟨_, rfl⟩
theorem sa_52 : g_isA 52 0 4 := ⟨_, _, rfl⟩
theorem sa_53 : g_isA 53 0 4 := ⟨_, _, rfl⟩
theorem sa_54 : g_isA 54 0 256 := ⟨_, _, rfl⟩
theorem sa_55 : g_isA 55 0 64 := ⟨_, _, rfl⟩
theorem sa_56 : g_isA 56 0 75 := ⟨_, _, rfl⟩
theorem sa_57 : g_isA 57 0 64 := ⟨_, _, rfl⟩
theorem sa_58 : g_isA 58 0 64 := ⟨_, _, rfl⟩
theorem sa_59 : g_isA 59 0 64 := ⟨_, _, rfl⟩
theorem sa_60 : g_isA 60 0 64 := ⟨_, _, rfl⟩
theorem sa_61 : g_isA 61 0 64 := ⟨_, _, rfl⟩
theorem sa_62 : g_isA 62 0 8 := ⟨_, _, rfl⟩
theorem sa_63 : g_isA 63 0 8 := ⟨_, _, rfl⟩
theorem sa_64 : g_isA 64 0 64 := ⟨_, _, rfl⟩
theorem sa_65 : g_isA 65 0 64 := ⟨_, _, rfl⟩
theorem sa_66 : g_isA 66 0 64 := ⟨_, _, rfl⟩
theorem sa_67 : g_isA 67 2 64 := ⟨_, _, rfl⟩
theorem sa_68 : g_isA 68 0 64 := ⟨_, _, rfl⟩
theorem sa_69 : g_isA 69 0 64 := ⟨_, _, rfl⟩
theorem sa_70 : g_isA 70 0 5 := ⟨_, _, rfl⟩
theorem sa_71 : g_isA 71 0 5 := ⟨_, _, rfl⟩
theorem sa_72 : g_isA 72 2 64 := ⟨_, _, rfl⟩
def g_isOut (o : Nat) : Prop := g_shps[o]? = some (.inl (3, [some (some 1), some (some 12), some (some (o + 1)), some (some (o + 2)), some none, some none, some none, some none])) ∧ g_shps[o + 1]? = some (.inr (0, 64, 0, 0)) ∧ g_shps[o + 2]? = some (.inr (0, 64, 0, 0))
def g_isSht (o : Nat) : Prop := g_shps[o]? = some (.inl (5, [some (some (o + 1)), some none, some none])) ∧ g_shps[o + 1]? = some (.inr (0, 64, 0, 0))
theorem out_16 : g_isOut 16 := ⟨rfl, rfl, rfl⟩
theorem out_st' : ∀ k, k < 6 → g_isOut (24 + 3 * k) := by
  intro k hk
  rcases (show k = 0 ∨ k = 1 ∨ k = 2 ∨ k = 3 ∨ k = 4 ∨ k = 5 by omega) with rfl | rfl | rfl | rfl | rfl | rfl <;> exact ⟨rfl, rfl, rfl⟩
theorem sht_at' : ∀ k, k < 4 → g_isSht (43 + 2 * k) := by
  intro k hk
  rcases (show k = 0 ∨ k = 1 ∨ k = 2 ∨ k = 3 by omega) with rfl | rfl | rfl | rfl <;> exact ⟨rfl, rfl⟩
theorem out_st {j : Int32} (h : vp_in j 6) : g_isOut (24 + 3 * j.toNatClampNeg) := out_st' _ (Nat.not_le.mp fun q => h (Or.inr q))
theorem sht_at {j : Int32} (h : vp_in j 4) : g_isSht (43 + 2 * j.toNatClampNeg) := sht_at' _ (Nat.not_le.mp fun q => h (Or.inr q))
theorem out_o {o : Nat} (h : g_isOut o) : g_isO o 3 := ⟨_, h.1⟩
theorem out_0 {o : Nat} (h : g_isOut o) : g_isR o 3 0 1 := ⟨_, h.1, rfl⟩
theorem out_1 {o : Nat} (h : g_isOut o) : g_isR o 3 1 12 := ⟨_, h.1, rfl⟩
theorem out_2 {o : Nat} (h : g_isOut o) : g_isR o 3 2 (o + 1) := ⟨_, h.1, rfl⟩
theorem out_3 {o : Nat} (h : g_isOut o) : g_isR o 3 3 (o + 2) := ⟨_, h.1, rfl⟩
theorem out_4 {o : Nat} (h : g_isOut o) : g_isI o 3 4 := ⟨_, h.1, rfl⟩
theorem out_5 {o : Nat} (h : g_isOut o) : g_isI o 3 5 := ⟨_, h.1, rfl⟩
theorem out_6 {o : Nat} (h : g_isOut o) : g_isI o 3 6 := ⟨_, h.1, rfl⟩
theorem out_7 {o : Nat} (h : g_isOut o) : g_isI o 3 7 := ⟨_, h.1, rfl⟩
theorem out_a1 {o : Nat} (h : g_isOut o) : g_isA (o + 1) 0 64 := ⟨_, _, h.2.1⟩
theorem out_a2 {o : Nat} (h : g_isOut o) : g_isA (o + 2) 0 64 := ⟨_, _, h.2.2⟩
theorem sht_o {o : Nat} (h : g_isSht o) : g_isO o 5 := ⟨_, h.1⟩
theorem sht_0 {o : Nat} (h : g_isSht o) : g_isR o 5 0 (o + 1) := ⟨_, h.1, rfl⟩
theorem sht_1 {o : Nat} (h : g_isSht o) : g_isI o 5 1 := ⟨_, h.1, rfl⟩
theorem sht_2 {o : Nat} (h : g_isSht o) : g_isI o 5 2 := ⟨_, h.1, rfl⟩
theorem sht_a1 {o : Nat} (h : g_isSht o) : g_isA (o + 1) 0 64 := ⟨_, _, h.2⟩
