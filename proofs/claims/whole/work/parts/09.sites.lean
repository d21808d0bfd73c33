/-! what the tables say, by their places (printed by wip/gen/vc.py) -/
theorem am_inps (ws : List Cond) (ps : List Nat) (h : ws = ps.filterMap (fun i => lw_tbl[i]?)) (hg : ws.all goodWord = true) : ∀ w ∈ ws, w ∈ am_T := by
  intro w hw
  have h1 := List.all_eq_true.mp hg w hw
  rw [h] at hw
  obtain ⟨i, -, hi⟩ := List.mem_filterMap.mp hw
  exact am_in (List.mem_of_getElem? hi) h1
set_option maxRecDepth 20000 in
theorem cs_X0 : am_cS 0 (RX0, TX0, 3) := ⟨rfl, rfl, am_inps _ [80, 82, 84] (by decide +kernel) (by decide +kernel), tyX0_ok, nmX0⟩
set_option maxRecDepth 20000 in
theorem cs_X1 : am_cS 1 (RX1, TX1, 6) := ⟨rfl, rfl, am_inps _ [156, 158, 160, 162, 164, 166] (by decide +kernel) (by decide +kernel), tyX1_ok, nmX1⟩
set_option maxRecDepth 20000 in
theorem cs_X2 : am_cS 2 (RX2, TX2, 6) := ⟨rfl, rfl, am_inps _ [120, 122, 124, 126, 128, 130] (by decide +kernel) (by decide +kernel), tyX2_ok, nmX2⟩
set_option maxRecDepth 20000 in
theorem cs_X3 : am_cS 3 (RX3, TX3, 10) := ⟨rfl, rfl, am_inps _ [265, 267, 269, 271, 273, 275, 277, 279, 281, 283] (by decide +kernel) (by decide +kernel), tyX3_ok, nmX3⟩
set_option maxRecDepth 20000 in
theorem cs_X4 : am_cS 4 (RX4, TX4, 9) := ⟨rfl, rfl, am_inps _ [227, 229, 231, 233, 235, 237, 239, 241, 243] (by decide +kernel) (by decide +kernel), tyX4_ok, nmX4⟩
set_option maxRecDepth 20000 in
theorem cs_X5 : am_cS 5 (RX5, TX5, 8) := ⟨rfl, rfl, am_inps _ [195, 197, 199, 201, 203, 205, 207, 209] (by decide +kernel) (by decide +kernel), tyX5_ok, nmX5⟩
set_option maxRecDepth 20000 in
theorem cs_X6 : am_cS 6 (RX6, TX6, 9) := ⟨rfl, rfl, am_inps _ [295, 297, 299, 301, 303, 305, 307, 309, 311] (by decide +kernel) (by decide +kernel), tyX6_ok, nmX6⟩
set_option maxRecDepth 20000 in
theorem cs_X7 : am_cS 7 (RX7, TX7, 36) := ⟨rfl, rfl, am_inps _ [732, 734, 736, 738, 740, 742, 744, 746, 748, 750, 752, 754, 756, 758, 760, 762, 764, 766, 768, 770, 772, 774, 776, 778, 780, 782, 784, 786, 788, 790, 792, 794, 796, 798, 800, 802] (by decide +kernel) (by decide +kernel), tyX7_ok, nmX7⟩
theorem o_1 : fO 1 6 := ⟨by decide, by decide, rfl⟩
theorem o_2 : fO 2 0 := ⟨by decide, by decide, rfl⟩
theorem a_3 : fA 3 44 := ⟨by decide, by decide, rfl⟩
theorem o_4 : fO 4 5 := ⟨by decide, by decide, rfl⟩
theorem a_5 : fA 5 7 := ⟨by decide, by decide, rfl⟩
theorem o_8 : fO 8 2 := ⟨by decide, by decide, rfl⟩
theorem o_9 : fO 9 2 := ⟨by decide, by decide, rfl⟩
theorem o_10 : fO 10 2 := ⟨by decide, by decide, rfl⟩
theorem o_11 : fO 11 2 := ⟨by decide, by decide, rfl⟩
theorem o_12 : fO 12 2 := ⟨by decide, by decide, rfl⟩
theorem o_13 : fO 13 2 := ⟨by decide, by decide, rfl⟩
theorem o_14 : fO 14 2 := ⟨by decide, by decide, rfl⟩
theorem o_15 : fO 15 2 := ⟨by decide, by decide, rfl⟩
theorem o_16 : fO 16 1 := ⟨by decide, by decide, rfl⟩
theorem a_17 : fA 17 8 := ⟨by decide, by decide, rfl⟩
theorem o_18 : fO 18 1 := ⟨by decide, by decide, rfl⟩
theorem a_19 : fA 19 8 := ⟨by decide, by decide, rfl⟩
theorem o_20 : fO 20 1 := ⟨by decide, by decide, rfl⟩
theorem a_21 : fA 21 8 := ⟨by decide, by decide, rfl⟩
theorem o_22 : fO 22 1 := ⟨by decide, by decide, rfl⟩
theorem a_23 : fA 23 8 := ⟨by decide, by decide, rfl⟩
theorem o_24 : fO 24 5 := ⟨by decide, by decide, rfl⟩
theorem a_25 : fA 25 7 := ⟨by decide, by decide, rfl⟩
theorem o_28 : fO 28 2 := ⟨by decide, by decide, rfl⟩
theorem o_29 : fO 29 2 := ⟨by decide, by decide, rfl⟩
theorem o_30 : fO 30 2 := ⟨by decide, by decide, rfl⟩
theorem o_31 : fO 31 2 := ⟨by decide, by decide, rfl⟩
theorem o_32 : fO 32 2 := ⟨by decide, by decide, rfl⟩
theorem o_33 : fO 33 2 := ⟨by decide, by decide, rfl⟩
theorem o_34 : fO 34 2 := ⟨by decide, by decide, rfl⟩
theorem o_35 : fO 35 2 := ⟨by decide, by decide, rfl⟩
theorem o_36 : fO 36 1 := ⟨by decide, by decide, rfl⟩
theorem a_37 : fA 37 8 := ⟨by decide, by decide, rfl⟩
theorem o_38 : fO 38 1 := ⟨by decide, by decide, rfl⟩
theorem a_39 : fA 39 8 := ⟨by decide, by decide, rfl⟩
theorem o_40 : fO 40 1 := ⟨by decide, by decide, rfl⟩
theorem a_41 : fA 41 8 := ⟨by decide, by decide, rfl⟩
theorem o_42 : fO 42 1 := ⟨by decide, by decide, rfl⟩
theorem a_43 : fA 43 8 := ⟨by decide, by decide, rfl⟩
theorem o_44 : fO 44 5 := ⟨by decide, by decide, rfl⟩
theorem a_45 : fA 45 7 := ⟨by decide, by decide, rfl⟩
theorem o_48 : fO 48 2 := ⟨by decide, by decide, rfl⟩
theorem o_49 : fO 49 2 := ⟨by decide, by decide, rfl⟩
theorem o_50 : fO 50 2 := ⟨by decide, by decide, rfl⟩
theorem o_51 : fO 51 2 := ⟨by decide, by decide, rfl⟩
theorem o_52 : fO 52 2 := ⟨by decide, by decide, rfl⟩
theorem o_53 : fO 53 2 := ⟨by decide, by decide, rfl⟩
theorem o_54 : fO 54 2 := ⟨by decide, by decide, rfl⟩
theorem o_55 : fO 55 2 := ⟨by decide, by decide, rfl⟩
theorem o_56 : fO 56 1 := ⟨by decide, by decide, rfl⟩
theorem a_57 : fA 57 8 := ⟨by decide, by decide, rfl⟩
theorem o_58 : fO 58 1 := ⟨by decide, by decide, rfl⟩
theorem a_59 : fA 59 8 := ⟨by decide, by decide, rfl⟩
theorem o_60 : fO 60 1 := ⟨by decide, by decide, rfl⟩
theorem a_61 : fA 61 8 := ⟨by decide, by decide, rfl⟩
theorem o_62 : fO 62 1 := ⟨by decide, by decide, rfl⟩
theorem a_63 : fA 63 8 := ⟨by decide, by decide, rfl⟩
theorem o_64 : fO 64 4 := ⟨by decide, by decide, rfl⟩
theorem a_65 : fA 65 9 := ⟨by decide, by decide, rfl⟩
theorem a_66 : fA 66 9 := ⟨by decide, by decide, rfl⟩
theorem a_67 : fA 67 9 := ⟨by decide, by decide, rfl⟩
theorem a_68 : fA 68 9 := ⟨by decide, by decide, rfl⟩
theorem a_69 : fA 69 512 := ⟨by decide, by decide, rfl⟩
theorem a_70 : fA 70 3072 := ⟨by decide, by decide, rfl⟩
theorem o_71 : fO 71 3 := ⟨by decide, by decide, rfl⟩
theorem a_72 : fA 72 61 := ⟨by decide, by decide, rfl⟩
theorem a_73 : fA 73 8 := ⟨by decide, by decide, rfl⟩
theorem a_74 : fA 74 1536 := ⟨by decide, by decide, rfl⟩
theorem a_75 : fA 75 1536 := ⟨by decide, by decide, rfl⟩
theorem a_76 : fA 76 1536 := ⟨by decide, by decide, rfl⟩
theorem a_77 : fA 77 1536 := ⟨by decide, by decide, rfl⟩
theorem o_78 : fO 78 7 := ⟨by decide, by decide, rfl⟩
theorem a_79 : fA 79 44 := ⟨by decide, by decide, rfl⟩
theorem a_80 : fA 80 32 := ⟨by decide, by decide, rfl⟩
theorem a_81 : fA 81 45 := ⟨by decide, by decide, rfl⟩
theorem a_82 : fA 82 20 := ⟨by decide, by decide, rfl⟩
theorem a_83 : fA 83 32 := ⟨by decide, by decide, rfl⟩
theorem a_84 : fA 84 3072 := ⟨by decide, by decide, rfl⟩
theorem a_85 : fA 85 3072 := ⟨by decide, by decide, rfl⟩
theorem a_86 : fA 86 3072 := ⟨by decide, by decide, rfl⟩
theorem a_87 : fA 87 7 := ⟨by decide, by decide, rfl⟩
theorem a_88 : fA 88 13824 := ⟨by decide, by decide, rfl⟩
theorem a_89 : fA 89 13824 := ⟨by decide, by decide, rfl⟩
theorem a_90 : fA 90 20 := ⟨by decide, by decide, rfl⟩
theorem a_91 : fA 91 32 := ⟨by decide, by decide, rfl⟩
theorem a_92 : fA 92 45 := ⟨by decide, by decide, rfl⟩
theorem a_93 : fA 93 20 := ⟨by decide, by decide, rfl⟩
theorem a_94 : fA 94 32 := ⟨by decide, by decide, rfl⟩
theorem a_95 : fA 95 7 := ⟨by decide, by decide, rfl⟩
theorem wd_4 : isWd 4 := Or.inl rfl
theorem wd_24 : isWd 24 := Or.inr (Or.inl rfl)
theorem wd_44 : isWd 44 := Or.inr (Or.inr rfl)
set_option maxRecDepth 100000 in
theorem fs_X0_11 : am_fS RX0 11 0 0 := ⟨(RX0, TX0, 3), cs_X0, by decide, am_in (List.mem_of_getElem? (i := 75) rfl) rfl⟩
set_option maxRecDepth 100000 in
theorem fs_X0_15 : am_fS RX0 15 0 1 := ⟨(RX0, TX0, 3), cs_X0, by decide, am_in (List.mem_of_getElem? (i := 77) rfl) rfl⟩
set_option maxRecDepth 100000 in
theorem fs_X0_19 : am_fS RX0 19 0 2 := ⟨(RX0, TX0, 3), cs_X0, by decide, am_in (List.mem_of_getElem? (i := 79) rfl) rfl⟩
set_option maxRecDepth 100000 in
theorem fs_X0_30 : am_fS RX0 30 5 0 := ⟨(RX5, TX5, 8), cs_X5, by decide, am_in (List.mem_of_getElem? (i := 170) rfl) rfl⟩
set_option maxRecDepth 100000 in
theorem fs_X0_39 : am_fS RX0 39 5 6 := ⟨(RX5, TX5, 8), cs_X5, by decide, am_in (List.mem_of_getElem? (i := 190) rfl) rfl⟩
set_option maxRecDepth 100000 in
theorem fs_X0_49 : am_fS RX0 49 5 1 := ⟨(RX5, TX5, 8), cs_X5, by decide, am_in (List.mem_of_getElem? (i := 176) rfl) rfl⟩
set_option maxRecDepth 100000 in
theorem fs_X1_9 : am_fS RX1 9 1 0 := ⟨(RX1, TX1, 6), cs_X1, by decide, am_in (List.mem_of_getElem? (i := 138) rfl) rfl⟩
set_option maxRecDepth 100000 in
theorem fs_X1_15 : am_fS RX1 15 1 1 := ⟨(RX1, TX1, 6), cs_X1, by decide, am_in (List.mem_of_getElem? (i := 141) rfl) rfl⟩
set_option maxRecDepth 100000 in
theorem fs_X1_18 : am_fS RX1 18 1 2 := ⟨(RX1, TX1, 6), cs_X1, by decide, am_in (List.mem_of_getElem? (i := 145) rfl) rfl⟩
set_option maxRecDepth 100000 in
theorem fs_X1_21 : am_fS RX1 21 1 3 := ⟨(RX1, TX1, 6), cs_X1, by decide, am_in (List.mem_of_getElem? (i := 149) rfl) rfl⟩
set_option maxRecDepth 100000 in
theorem fs_X1_24 : am_fS RX1 24 1 4 := ⟨(RX1, TX1, 6), cs_X1, by decide, am_in (List.mem_of_getElem? (i := 151) rfl) rfl⟩
set_option maxRecDepth 100000 in
theorem fs_X1_28 : am_fS RX1 28 1 5 := ⟨(RX1, TX1, 6), cs_X1, by decide, am_in (List.mem_of_getElem? (i := 154) rfl) rfl⟩
set_option maxRecDepth 100000 in
theorem fs_X1_46 : am_fS RX1 46 2 0 := ⟨(RX2, TX2, 6), cs_X2, by decide, am_in (List.mem_of_getElem? (i := 104) rfl) rfl⟩
set_option maxRecDepth 100000 in
theorem fs_X1_49 : am_fS RX1 49 2 4 := ⟨(RX2, TX2, 6), cs_X2, by decide, am_in (List.mem_of_getElem? (i := 115) rfl) rfl⟩
set_option maxRecDepth 100000 in
theorem fs_X2_9 : am_fS RX2 9 2 1 := ⟨(RX2, TX2, 6), cs_X2, by decide, am_in (List.mem_of_getElem? (i := 105) rfl) rfl⟩
set_option maxRecDepth 100000 in
theorem fs_X2_13 : am_fS RX2 13 2 2 := ⟨(RX2, TX2, 6), cs_X2, by decide, am_in (List.mem_of_getElem? (i := 107) rfl) rfl⟩
set_option maxRecDepth 100000 in
theorem fs_X2_16 : am_fS RX2 16 2 3 := ⟨(RX2, TX2, 6), cs_X2, by decide, am_in (List.mem_of_getElem? (i := 110) rfl) rfl⟩
set_option maxRecDepth 100000 in
theorem fs_X2_19 : am_fS RX2 19 2 4 := ⟨(RX2, TX2, 6), cs_X2, by decide, am_in (List.mem_of_getElem? (i := 113) rfl) rfl⟩
set_option maxRecDepth 100000 in
theorem fs_X2_22 : am_fS RX2 22 2 5 := ⟨(RX2, TX2, 6), cs_X2, by decide, am_in (List.mem_of_getElem? (i := 118) rfl) rfl⟩
set_option maxRecDepth 100000 in
theorem fs_X2_26 : am_fS RX2 26 2 0 := ⟨(RX2, TX2, 6), cs_X2, by decide, am_in (List.mem_of_getElem? (i := 103) rfl) rfl⟩
set_option maxRecDepth 100000 in
theorem fs_X3_9 : am_fS RX3 9 3 0 := ⟨(RX3, TX3, 10), cs_X3, by decide, am_in (List.mem_of_getElem? (i := 252) rfl) rfl⟩
set_option maxRecDepth 100000 in
theorem fs_X3_15 : am_fS RX3 15 3 1 := ⟨(RX3, TX3, 10), cs_X3, by decide, am_in (List.mem_of_getElem? (i := 254) rfl) rfl⟩
set_option maxRecDepth 100000 in
theorem fs_X3_18 : am_fS RX3 18 3 2 := ⟨(RX3, TX3, 10), cs_X3, by decide, am_in (List.mem_of_getElem? (i := 256) rfl) rfl⟩
set_option maxRecDepth 100000 in
theorem fs_X3_22 : am_fS RX3 22 3 3 := ⟨(RX3, TX3, 10), cs_X3, by decide, am_in (List.mem_of_getElem? (i := 258) rfl) rfl⟩
set_option maxRecDepth 100000 in
theorem fs_X3_25 : am_fS RX3 25 3 4 := ⟨(RX3, TX3, 10), cs_X3, by decide, am_in (List.mem_of_getElem? (i := 259) rfl) rfl⟩
set_option maxRecDepth 100000 in
theorem fs_X3_28 : am_fS RX3 28 3 5 := ⟨(RX3, TX3, 10), cs_X3, by decide, am_in (List.mem_of_getElem? (i := 260) rfl) rfl⟩
set_option maxRecDepth 100000 in
theorem fs_X3_31 : am_fS RX3 31 3 6 := ⟨(RX3, TX3, 10), cs_X3, by decide, am_in (List.mem_of_getElem? (i := 261) rfl) rfl⟩
set_option maxRecDepth 100000 in
theorem fs_X3_34 : am_fS RX3 34 3 7 := ⟨(RX3, TX3, 10), cs_X3, by decide, am_in (List.mem_of_getElem? (i := 262) rfl) rfl⟩
set_option maxRecDepth 100000 in
theorem fs_X3_37 : am_fS RX3 37 3 8 := ⟨(RX3, TX3, 10), cs_X3, by decide, am_in (List.mem_of_getElem? (i := 263) rfl) rfl⟩
set_option maxRecDepth 100000 in
theorem fs_X3_40 : am_fS RX3 40 3 9 := ⟨(RX3, TX3, 10), cs_X3, by decide, am_in (List.mem_of_getElem? (i := 264) rfl) rfl⟩
set_option maxRecDepth 100000 in
theorem fs_X3_54 : am_fS RX3 54 5 4 := ⟨(RX5, TX5, 8), cs_X5, by decide, am_in (List.mem_of_getElem? (i := 183) rfl) rfl⟩
set_option maxRecDepth 100000 in
theorem fs_X3_59 : am_fS RX3 59 5 5 := ⟨(RX5, TX5, 8), cs_X5, by decide, am_in (List.mem_of_getElem? (i := 186) rfl) rfl⟩
set_option maxRecDepth 100000 in
theorem fs_X3_69 : am_fS RX3 69 5 1 := ⟨(RX5, TX5, 8), cs_X5, by decide, am_in (List.mem_of_getElem? (i := 174) rfl) rfl⟩
set_option maxRecDepth 100000 in
theorem fs_X3_72 : am_fS RX3 72 5 6 := ⟨(RX5, TX5, 8), cs_X5, by decide, am_in (List.mem_of_getElem? (i := 189) rfl) rfl⟩
set_option maxRecDepth 100000 in
theorem fs_X4_11 : am_fS RX4 11 4 0 := ⟨(RX4, TX4, 9), cs_X4, by decide, am_in (List.mem_of_getElem? (i := 218) rfl) rfl⟩
set_option maxRecDepth 100000 in
theorem fs_X4_15 : am_fS RX4 15 4 1 := ⟨(RX4, TX4, 9), cs_X4, by decide, am_in (List.mem_of_getElem? (i := 219) rfl) rfl⟩
set_option maxRecDepth 100000 in
theorem fs_X4_18 : am_fS RX4 18 4 2 := ⟨(RX4, TX4, 9), cs_X4, by decide, am_in (List.mem_of_getElem? (i := 220) rfl) rfl⟩
set_option maxRecDepth 100000 in
theorem fs_X4_21 : am_fS RX4 21 4 3 := ⟨(RX4, TX4, 9), cs_X4, by decide, am_in (List.mem_of_getElem? (i := 221) rfl) rfl⟩
set_option maxRecDepth 100000 in
theorem fs_X4_24 : am_fS RX4 24 4 4 := ⟨(RX4, TX4, 9), cs_X4, by decide, am_in (List.mem_of_getElem? (i := 222) rfl) rfl⟩
set_option maxRecDepth 100000 in
theorem fs_X4_27 : am_fS RX4 27 4 5 := ⟨(RX4, TX4, 9), cs_X4, by decide, am_in (List.mem_of_getElem? (i := 223) rfl) rfl⟩
set_option maxRecDepth 100000 in
theorem fs_X4_30 : am_fS RX4 30 4 6 := ⟨(RX4, TX4, 9), cs_X4, by decide, am_in (List.mem_of_getElem? (i := 224) rfl) rfl⟩
set_option maxRecDepth 100000 in
theorem fs_X4_34 : am_fS RX4 34 4 7 := ⟨(RX4, TX4, 9), cs_X4, by decide, am_in (List.mem_of_getElem? (i := 225) rfl) rfl⟩
set_option maxRecDepth 100000 in
theorem fs_X4_37 : am_fS RX4 37 4 8 := ⟨(RX4, TX4, 9), cs_X4, by decide, am_in (List.mem_of_getElem? (i := 226) rfl) rfl⟩
set_option maxRecDepth 100000 in
theorem fs_X4_44 : am_fS RX4 44 1 1 := ⟨(RX1, TX1, 6), cs_X1, by decide, am_in (List.mem_of_getElem? (i := 142) rfl) rfl⟩
set_option maxRecDepth 100000 in
theorem fs_X4_49 : am_fS RX4 49 1 0 := ⟨(RX1, TX1, 6), cs_X1, by decide, am_in (List.mem_of_getElem? (i := 139) rfl) rfl⟩
set_option maxRecDepth 100000 in
theorem fs_X4_52 : am_fS RX4 52 5 0 := ⟨(RX5, TX5, 8), cs_X5, by decide, am_in (List.mem_of_getElem? (i := 171) rfl) rfl⟩
set_option maxRecDepth 100000 in
theorem fs_X4_57 : am_fS RX4 57 1 2 := ⟨(RX1, TX1, 6), cs_X1, by decide, am_in (List.mem_of_getElem? (i := 146) rfl) rfl⟩
set_option maxRecDepth 100000 in
theorem fs_X4_69 : am_fS RX4 69 5 1 := ⟨(RX5, TX5, 8), cs_X5, by decide, am_in (List.mem_of_getElem? (i := 177) rfl) rfl⟩
set_option maxRecDepth 100000 in
theorem fs_X4_91 : am_fS RX4 91 5 6 := ⟨(RX5, TX5, 8), cs_X5, by decide, am_in (List.mem_of_getElem? (i := 192) rfl) rfl⟩
set_option maxRecDepth 100000 in
theorem fs_X4_95 : am_fS RX4 95 2 2 := ⟨(RX2, TX2, 6), cs_X2, by decide, am_in (List.mem_of_getElem? (i := 109) rfl) rfl⟩
set_option maxRecDepth 100000 in
theorem fs_X4_99 : am_fS RX4 99 2 3 := ⟨(RX2, TX2, 6), cs_X2, by decide, am_in (List.mem_of_getElem? (i := 112) rfl) rfl⟩
set_option maxRecDepth 100000 in
theorem fs_X4_101 : am_fS RX4 101 2 4 := ⟨(RX2, TX2, 6), cs_X2, by decide, am_in (List.mem_of_getElem? (i := 117) rfl) rfl⟩
set_option maxRecDepth 100000 in
theorem fs_X5_9 : am_fS RX5 9 5 0 := ⟨(RX5, TX5, 8), cs_X5, by decide, am_in (List.mem_of_getElem? (i := 169) rfl) rfl⟩
set_option maxRecDepth 100000 in
theorem fs_X5_15 : am_fS RX5 15 5 1 := ⟨(RX5, TX5, 8), cs_X5, by decide, am_in (List.mem_of_getElem? (i := 173) rfl) rfl⟩
set_option maxRecDepth 100000 in
theorem fs_X5_18 : am_fS RX5 18 5 2 := ⟨(RX5, TX5, 8), cs_X5, by decide, am_in (List.mem_of_getElem? (i := 178) rfl) rfl⟩
set_option maxRecDepth 100000 in
theorem fs_X5_21 : am_fS RX5 21 5 3 := ⟨(RX5, TX5, 8), cs_X5, by decide, am_in (List.mem_of_getElem? (i := 180) rfl) rfl⟩
set_option maxRecDepth 100000 in
theorem fs_X5_24 : am_fS RX5 24 5 4 := ⟨(RX5, TX5, 8), cs_X5, by decide, am_in (List.mem_of_getElem? (i := 182) rfl) rfl⟩
set_option maxRecDepth 100000 in
theorem fs_X5_27 : am_fS RX5 27 5 5 := ⟨(RX5, TX5, 8), cs_X5, by decide, am_in (List.mem_of_getElem? (i := 185) rfl) rfl⟩
set_option maxRecDepth 100000 in
theorem fs_X5_33 : am_fS RX5 33 5 6 := ⟨(RX5, TX5, 8), cs_X5, by decide, am_in (List.mem_of_getElem? (i := 188) rfl) rfl⟩
set_option maxRecDepth 100000 in
theorem fs_X5_39 : am_fS RX5 39 5 7 := ⟨(RX5, TX5, 8), cs_X5, by decide, am_in (List.mem_of_getElem? (i := 193) rfl) rfl⟩
set_option maxRecDepth 100000 in
theorem fs_X5_54 : am_fS RX5 54 1 4 := ⟨(RX1, TX1, 6), cs_X1, by decide, am_in (List.mem_of_getElem? (i := 152) rfl) rfl⟩
set_option maxRecDepth 100000 in
theorem fs_X5_67 : am_fS RX5 67 2 4 := ⟨(RX2, TX2, 6), cs_X2, by decide, am_in (List.mem_of_getElem? (i := 114) rfl) rfl⟩
set_option maxRecDepth 100000 in
theorem fs_X5_94 : am_fS RX5 94 1 1 := ⟨(RX1, TX1, 6), cs_X1, by decide, am_in (List.mem_of_getElem? (i := 143) rfl) rfl⟩
set_option maxRecDepth 100000 in
theorem fs_X5_97 : am_fS RX5 97 1 2 := ⟨(RX1, TX1, 6), cs_X1, by decide, am_in (List.mem_of_getElem? (i := 147) rfl) rfl⟩
set_option maxRecDepth 100000 in
theorem fs_X6_10 : am_fS RX6 10 6 0 := ⟨(RX6, TX6, 9), cs_X6, by decide, am_in (List.mem_of_getElem? (i := 286) rfl) rfl⟩
set_option maxRecDepth 100000 in
theorem fs_X6_19 : am_fS RX6 19 6 1 := ⟨(RX6, TX6, 9), cs_X6, by decide, am_in (List.mem_of_getElem? (i := 287) rfl) rfl⟩
set_option maxRecDepth 100000 in
theorem fs_X6_23 : am_fS RX6 23 6 2 := ⟨(RX6, TX6, 9), cs_X6, by decide, am_in (List.mem_of_getElem? (i := 288) rfl) rfl⟩
set_option maxRecDepth 100000 in
theorem fs_X6_26 : am_fS RX6 26 6 3 := ⟨(RX6, TX6, 9), cs_X6, by decide, am_in (List.mem_of_getElem? (i := 289) rfl) rfl⟩
set_option maxRecDepth 100000 in
theorem fs_X6_32 : am_fS RX6 32 6 4 := ⟨(RX6, TX6, 9), cs_X6, by decide, am_in (List.mem_of_getElem? (i := 290) rfl) rfl⟩
set_option maxRecDepth 100000 in
theorem fs_X6_39 : am_fS RX6 39 6 5 := ⟨(RX6, TX6, 9), cs_X6, by decide, am_in (List.mem_of_getElem? (i := 291) rfl) rfl⟩
set_option maxRecDepth 100000 in
theorem fs_X6_43 : am_fS RX6 43 6 6 := ⟨(RX6, TX6, 9), cs_X6, by decide, am_in (List.mem_of_getElem? (i := 292) rfl) rfl⟩
set_option maxRecDepth 100000 in
theorem fs_X6_47 : am_fS RX6 47 6 7 := ⟨(RX6, TX6, 9), cs_X6, by decide, am_in (List.mem_of_getElem? (i := 293) rfl) rfl⟩
set_option maxRecDepth 100000 in
theorem fs_X6_51 : am_fS RX6 51 6 8 := ⟨(RX6, TX6, 9), cs_X6, by decide, am_in (List.mem_of_getElem? (i := 294) rfl) rfl⟩
set_option maxRecDepth 100000 in
theorem fs_X6_58 : am_fS RX6 58 0 1 := ⟨(RX0, TX0, 3), cs_X0, by decide, am_in (List.mem_of_getElem? (i := 78) rfl) rfl⟩
set_option maxRecDepth 100000 in
theorem fs_X6_79 : am_fS RX6 79 5 1 := ⟨(RX5, TX5, 8), cs_X5, by decide, am_in (List.mem_of_getElem? (i := 175) rfl) rfl⟩
set_option maxRecDepth 100000 in
theorem fs_X6_85 : am_fS RX6 85 5 6 := ⟨(RX5, TX5, 8), cs_X5, by decide, am_in (List.mem_of_getElem? (i := 191) rfl) rfl⟩
set_option maxRecDepth 100000 in
theorem fs_X6_89 : am_fS RX6 89 2 1 := ⟨(RX2, TX2, 6), cs_X2, by decide, am_in (List.mem_of_getElem? (i := 106) rfl) rfl⟩
set_option maxRecDepth 100000 in
theorem fs_X6_94 : am_fS RX6 94 2 2 := ⟨(RX2, TX2, 6), cs_X2, by decide, am_in (List.mem_of_getElem? (i := 108) rfl) rfl⟩
set_option maxRecDepth 100000 in
theorem fs_X6_97 : am_fS RX6 97 2 3 := ⟨(RX2, TX2, 6), cs_X2, by decide, am_in (List.mem_of_getElem? (i := 111) rfl) rfl⟩
set_option maxRecDepth 100000 in
theorem fs_X6_100 : am_fS RX6 100 2 4 := ⟨(RX2, TX2, 6), cs_X2, by decide, am_in (List.mem_of_getElem? (i := 116) rfl) rfl⟩
set_option maxRecDepth 100000 in
theorem fs_X6_106 : am_fS RX6 106 2 5 := ⟨(RX2, TX2, 6), cs_X2, by decide, am_in (List.mem_of_getElem? (i := 119) rfl) rfl⟩
set_option maxRecDepth 100000 in
theorem fs_X6_116 : am_fS RX6 116 5 2 := ⟨(RX5, TX5, 8), cs_X5, by decide, am_in (List.mem_of_getElem? (i := 179) rfl) rfl⟩
set_option maxRecDepth 100000 in
theorem fs_X6_119 : am_fS RX6 119 5 7 := ⟨(RX5, TX5, 8), cs_X5, by decide, am_in (List.mem_of_getElem? (i := 194) rfl) rfl⟩
set_option maxRecDepth 100000 in
theorem fs_X6_129 : am_fS RX6 129 1 5 := ⟨(RX1, TX1, 6), cs_X1, by decide, am_in (List.mem_of_getElem? (i := 155) rfl) rfl⟩
set_option maxRecDepth 100000 in
theorem fs_X6_133 : am_fS RX6 133 1 0 := ⟨(RX1, TX1, 6), cs_X1, by decide, am_in (List.mem_of_getElem? (i := 140) rfl) rfl⟩
set_option maxRecDepth 100000 in
theorem fs_X6_136 : am_fS RX6 136 1 1 := ⟨(RX1, TX1, 6), cs_X1, by decide, am_in (List.mem_of_getElem? (i := 144) rfl) rfl⟩
set_option maxRecDepth 100000 in
theorem fs_X6_139 : am_fS RX6 139 1 2 := ⟨(RX1, TX1, 6), cs_X1, by decide, am_in (List.mem_of_getElem? (i := 148) rfl) rfl⟩
set_option maxRecDepth 100000 in
theorem fs_X6_142 : am_fS RX6 142 1 4 := ⟨(RX1, TX1, 6), cs_X1, by decide, am_in (List.mem_of_getElem? (i := 153) rfl) rfl⟩
set_option maxRecDepth 100000 in
theorem fs_X6_145 : am_fS RX6 145 1 3 := ⟨(RX1, TX1, 6), cs_X1, by decide, am_in (List.mem_of_getElem? (i := 150) rfl) rfl⟩
set_option maxRecDepth 100000 in
theorem fs_X6_156 : am_fS RX6 156 5 3 := ⟨(RX5, TX5, 8), cs_X5, by decide, am_in (List.mem_of_getElem? (i := 181) rfl) rfl⟩
set_option maxRecDepth 100000 in
theorem fs_X6_162 : am_fS RX6 162 5 0 := ⟨(RX5, TX5, 8), cs_X5, by decide, am_in (List.mem_of_getElem? (i := 172) rfl) rfl⟩
set_option maxRecDepth 100000 in
theorem fs_X6_197 : am_fS RX6 197 5 4 := ⟨(RX5, TX5, 8), cs_X5, by decide, am_in (List.mem_of_getElem? (i := 184) rfl) rfl⟩
set_option maxRecDepth 100000 in
theorem fs_X6_200 : am_fS RX6 200 5 5 := ⟨(RX5, TX5, 8), cs_X5, by decide, am_in (List.mem_of_getElem? (i := 187) rfl) rfl⟩
set_option maxRecDepth 100000 in
theorem fs_X6_206 : am_fS RX6 206 3 0 := ⟨(RX3, TX3, 10), cs_X3, by decide, am_in (List.mem_of_getElem? (i := 253) rfl) rfl⟩
set_option maxRecDepth 100000 in
theorem fs_X6_209 : am_fS RX6 209 3 2 := ⟨(RX3, TX3, 10), cs_X3, by decide, am_in (List.mem_of_getElem? (i := 257) rfl) rfl⟩
set_option maxRecDepth 100000 in
theorem fs_X6_212 : am_fS RX6 212 3 1 := ⟨(RX3, TX3, 10), cs_X3, by decide, am_in (List.mem_of_getElem? (i := 255) rfl) rfl⟩
set_option maxRecDepth 100000 in
theorem fs_X6_251 : am_fS RX6 251 0 0 := ⟨(RX0, TX0, 3), cs_X0, by decide, am_in (List.mem_of_getElem? (i := 76) rfl) rfl⟩
set_option maxRecDepth 100000 in
theorem fs_X7_7 : am_fS RX7 7 7 0 := ⟨(RX7, TX7, 36), cs_X7, by decide, am_in (List.mem_of_getElem? (i := 696) rfl) rfl⟩
set_option maxRecDepth 100000 in
theorem fs_X7_13 : am_fS RX7 13 7 2 := ⟨(RX7, TX7, 36), cs_X7, by decide, am_in (List.mem_of_getElem? (i := 698) rfl) rfl⟩
set_option maxRecDepth 100000 in
theorem fs_X7_16 : am_fS RX7 16 7 10 := ⟨(RX7, TX7, 36), cs_X7, by decide, am_in (List.mem_of_getElem? (i := 706) rfl) rfl⟩
set_option maxRecDepth 100000 in
theorem fs_X7_19 : am_fS RX7 19 7 12 := ⟨(RX7, TX7, 36), cs_X7, by decide, am_in (List.mem_of_getElem? (i := 708) rfl) rfl⟩
set_option maxRecDepth 100000 in
theorem fs_X7_22 : am_fS RX7 22 7 13 := ⟨(RX7, TX7, 36), cs_X7, by decide, am_in (List.mem_of_getElem? (i := 709) rfl) rfl⟩
set_option maxRecDepth 100000 in
theorem fs_X7_25 : am_fS RX7 25 7 15 := ⟨(RX7, TX7, 36), cs_X7, by decide, am_in (List.mem_of_getElem? (i := 711) rfl) rfl⟩
set_option maxRecDepth 100000 in
theorem fs_X7_28 : am_fS RX7 28 7 16 := ⟨(RX7, TX7, 36), cs_X7, by decide, am_in (List.mem_of_getElem? (i := 712) rfl) rfl⟩
set_option maxRecDepth 100000 in
theorem fs_X7_31 : am_fS RX7 31 7 17 := ⟨(RX7, TX7, 36), cs_X7, by decide, am_in (List.mem_of_getElem? (i := 713) rfl) rfl⟩
set_option maxRecDepth 100000 in
theorem fs_X7_34 : am_fS RX7 34 7 21 := ⟨(RX7, TX7, 36), cs_X7, by decide, am_in (List.mem_of_getElem? (i := 717) rfl) rfl⟩
set_option maxRecDepth 100000 in
theorem fs_X7_37 : am_fS RX7 37 7 22 := ⟨(RX7, TX7, 36), cs_X7, by decide, am_in (List.mem_of_getElem? (i := 718) rfl) rfl⟩
set_option maxRecDepth 100000 in
theorem fs_X7_40 : am_fS RX7 40 7 23 := ⟨(RX7, TX7, 36), cs_X7, by decide, am_in (List.mem_of_getElem? (i := 719) rfl) rfl⟩
set_option maxRecDepth 100000 in
theorem fs_X7_43 : am_fS RX7 43 7 25 := ⟨(RX7, TX7, 36), cs_X7, by decide, am_in (List.mem_of_getElem? (i := 721) rfl) rfl⟩
set_option maxRecDepth 100000 in
theorem fs_X7_46 : am_fS RX7 46 7 26 := ⟨(RX7, TX7, 36), cs_X7, by decide, am_in (List.mem_of_getElem? (i := 722) rfl) rfl⟩
set_option maxRecDepth 100000 in
theorem fs_X7_49 : am_fS RX7 49 7 31 := ⟨(RX7, TX7, 36), cs_X7, by decide, am_in (List.mem_of_getElem? (i := 727) rfl) rfl⟩
set_option maxRecDepth 100000 in
theorem fs_X7_52 : am_fS RX7 52 7 32 := ⟨(RX7, TX7, 36), cs_X7, by decide, am_in (List.mem_of_getElem? (i := 728) rfl) rfl⟩
set_option maxRecDepth 100000 in
theorem fs_X7_55 : am_fS RX7 55 7 33 := ⟨(RX7, TX7, 36), cs_X7, by decide, am_in (List.mem_of_getElem? (i := 729) rfl) rfl⟩
set_option maxRecDepth 100000 in
theorem fs_X7_58 : am_fS RX7 58 7 34 := ⟨(RX7, TX7, 36), cs_X7, by decide, am_in (List.mem_of_getElem? (i := 730) rfl) rfl⟩
set_option maxRecDepth 100000 in
theorem fs_X7_61 : am_fS RX7 61 7 27 := ⟨(RX7, TX7, 36), cs_X7, by decide, am_in (List.mem_of_getElem? (i := 723) rfl) rfl⟩
set_option maxRecDepth 100000 in
theorem fs_X7_71 : am_fS RX7 71 7 1 := ⟨(RX7, TX7, 36), cs_X7, by decide, am_in (List.mem_of_getElem? (i := 697) rfl) rfl⟩
set_option maxRecDepth 100000 in
theorem fs_X7_74 : am_fS RX7 74 7 3 := ⟨(RX7, TX7, 36), cs_X7, by decide, am_in (List.mem_of_getElem? (i := 699) rfl) rfl⟩
set_option maxRecDepth 100000 in
theorem fs_X7_77 : am_fS RX7 77 7 5 := ⟨(RX7, TX7, 36), cs_X7, by decide, am_in (List.mem_of_getElem? (i := 701) rfl) rfl⟩
set_option maxRecDepth 100000 in
theorem fs_X7_92 : am_fS RX7 92 7 4 := ⟨(RX7, TX7, 36), cs_X7, by decide, am_in (List.mem_of_getElem? (i := 700) rfl) rfl⟩
set_option maxRecDepth 100000 in
theorem fs_X7_104 : am_fS RX7 104 7 6 := ⟨(RX7, TX7, 36), cs_X7, by decide, am_in (List.mem_of_getElem? (i := 702) rfl) rfl⟩
set_option maxRecDepth 100000 in
theorem fs_X7_107 : am_fS RX7 107 7 7 := ⟨(RX7, TX7, 36), cs_X7, by decide, am_in (List.mem_of_getElem? (i := 703) rfl) rfl⟩
set_option maxRecDepth 100000 in
theorem fs_X7_110 : am_fS RX7 110 7 11 := ⟨(RX7, TX7, 36), cs_X7, by decide, am_in (List.mem_of_getElem? (i := 707) rfl) rfl⟩
set_option maxRecDepth 100000 in
theorem fs_X7_113 : am_fS RX7 113 7 9 := ⟨(RX7, TX7, 36), cs_X7, by decide, am_in (List.mem_of_getElem? (i := 705) rfl) rfl⟩
set_option maxRecDepth 100000 in
theorem fs_X7_116 : am_fS RX7 116 7 20 := ⟨(RX7, TX7, 36), cs_X7, by decide, am_in (List.mem_of_getElem? (i := 716) rfl) rfl⟩
set_option maxRecDepth 100000 in
theorem fs_X7_119 : am_fS RX7 119 7 8 := ⟨(RX7, TX7, 36), cs_X7, by decide, am_in (List.mem_of_getElem? (i := 704) rfl) rfl⟩
set_option maxRecDepth 100000 in
theorem fs_X7_172 : am_fS RX7 172 7 18 := ⟨(RX7, TX7, 36), cs_X7, by decide, am_in (List.mem_of_getElem? (i := 714) rfl) rfl⟩
set_option maxRecDepth 100000 in
theorem fs_X7_175 : am_fS RX7 175 7 19 := ⟨(RX7, TX7, 36), cs_X7, by decide, am_in (List.mem_of_getElem? (i := 715) rfl) rfl⟩
set_option maxRecDepth 100000 in
theorem fs_X7_185 : am_fS RX7 185 7 14 := ⟨(RX7, TX7, 36), cs_X7, by decide, am_in (List.mem_of_getElem? (i := 710) rfl) rfl⟩
set_option maxRecDepth 100000 in
theorem fs_X7_217 : am_fS RX7 217 7 24 := ⟨(RX7, TX7, 36), cs_X7, by decide, am_in (List.mem_of_getElem? (i := 720) rfl) rfl⟩
set_option maxRecDepth 100000 in
theorem fs_X7_237 : am_fS RX7 237 7 28 := ⟨(RX7, TX7, 36), cs_X7, by decide, am_in (List.mem_of_getElem? (i := 724) rfl) rfl⟩
set_option maxRecDepth 100000 in
theorem fs_X7_240 : am_fS RX7 240 7 29 := ⟨(RX7, TX7, 36), cs_X7, by decide, am_in (List.mem_of_getElem? (i := 725) rfl) rfl⟩
set_option maxRecDepth 100000 in
theorem fs_X7_243 : am_fS RX7 243 7 30 := ⟨(RX7, TX7, 36), cs_X7, by decide, am_in (List.mem_of_getElem? (i := 726) rfl) rfl⟩
set_option maxRecDepth 100000 in
theorem fs_X7_251 : am_fS RX7 251 7 35 := ⟨(RX7, TX7, 36), cs_X7, by decide, am_in (List.mem_of_getElem? (i := 731) rfl) rfl⟩
set_option maxRecDepth 100000 in
theorem fp_X0_11 : am_fP RX0 11 0 0 true := ⟨(RX0, TX0, 3), cs_X0, by decide, am_in (List.mem_of_getElem? (i := 75) rfl) rfl, rfl, rfl⟩
set_option maxRecDepth 100000 in
theorem fq_X0_15 : am_fQ RX0 15 0 1 := ⟨(RX0, TX0, 3), cs_X0, by decide, am_in (List.mem_of_getElem? (i := 77) rfl) rfl, rfl⟩
set_option maxRecDepth 100000 in
theorem fq_X0_19 : am_fQ RX0 19 0 2 := ⟨(RX0, TX0, 3), cs_X0, by decide, am_in (List.mem_of_getElem? (i := 79) rfl) rfl, rfl⟩
set_option maxRecDepth 100000 in
theorem fq_X0_30 : am_fQ RX0 30 5 0 := ⟨(RX5, TX5, 8), cs_X5, by decide, am_in (List.mem_of_getElem? (i := 170) rfl) rfl, rfl⟩
set_option maxRecDepth 100000 in
theorem fq_X0_49 : am_fQ RX0 49 5 1 := ⟨(RX5, TX5, 8), cs_X5, by decide, am_in (List.mem_of_getElem? (i := 176) rfl) rfl, rfl⟩
set_option maxRecDepth 100000 in
theorem fq_X1_9 : am_fQ RX1 9 1 0 := ⟨(RX1, TX1, 6), cs_X1, by decide, am_in (List.mem_of_getElem? (i := 138) rfl) rfl, rfl⟩
set_option maxRecDepth 100000 in
theorem fq_X1_15 : am_fQ RX1 15 1 1 := ⟨(RX1, TX1, 6), cs_X1, by decide, am_in (List.mem_of_getElem? (i := 141) rfl) rfl, rfl⟩
set_option maxRecDepth 100000 in
theorem fq_X1_18 : am_fQ RX1 18 1 2 := ⟨(RX1, TX1, 6), cs_X1, by decide, am_in (List.mem_of_getElem? (i := 145) rfl) rfl, rfl⟩
set_option maxRecDepth 100000 in
theorem fq_X1_21 : am_fQ RX1 21 1 3 := ⟨(RX1, TX1, 6), cs_X1, by decide, am_in (List.mem_of_getElem? (i := 149) rfl) rfl, rfl⟩
set_option maxRecDepth 100000 in
theorem fq_X1_24 : am_fQ RX1 24 1 4 := ⟨(RX1, TX1, 6), cs_X1, by decide, am_in (List.mem_of_getElem? (i := 151) rfl) rfl, rfl⟩
set_option maxRecDepth 100000 in
theorem fp_X1_28 : am_fP RX1 28 1 5 true := ⟨(RX1, TX1, 6), cs_X1, by decide, am_in (List.mem_of_getElem? (i := 154) rfl) rfl, rfl, rfl⟩
set_option maxRecDepth 100000 in
theorem fq_X2_9 : am_fQ RX2 9 2 1 := ⟨(RX2, TX2, 6), cs_X2, by decide, am_in (List.mem_of_getElem? (i := 105) rfl) rfl, rfl⟩
set_option maxRecDepth 100000 in
theorem fq_X2_13 : am_fQ RX2 13 2 2 := ⟨(RX2, TX2, 6), cs_X2, by decide, am_in (List.mem_of_getElem? (i := 107) rfl) rfl, rfl⟩
set_option maxRecDepth 100000 in
theorem fq_X2_16 : am_fQ RX2 16 2 3 := ⟨(RX2, TX2, 6), cs_X2, by decide, am_in (List.mem_of_getElem? (i := 110) rfl) rfl, rfl⟩
set_option maxRecDepth 100000 in
theorem fq_X2_19 : am_fQ RX2 19 2 4 := ⟨(RX2, TX2, 6), cs_X2, by decide, am_in (List.mem_of_getElem? (i := 113) rfl) rfl, rfl⟩
set_option maxRecDepth 100000 in
theorem fq_X2_22 : am_fQ RX2 22 2 5 := ⟨(RX2, TX2, 6), cs_X2, by decide, am_in (List.mem_of_getElem? (i := 118) rfl) rfl, rfl⟩
set_option maxRecDepth 100000 in
theorem fp_X2_26 : am_fP RX2 26 2 0 true := ⟨(RX2, TX2, 6), cs_X2, by decide, am_in (List.mem_of_getElem? (i := 103) rfl) rfl, rfl, rfl⟩
set_option maxRecDepth 100000 in
theorem fq_X3_9 : am_fQ RX3 9 3 0 := ⟨(RX3, TX3, 10), cs_X3, by decide, am_in (List.mem_of_getElem? (i := 252) rfl) rfl, rfl⟩
set_option maxRecDepth 100000 in
theorem fq_X3_15 : am_fQ RX3 15 3 1 := ⟨(RX3, TX3, 10), cs_X3, by decide, am_in (List.mem_of_getElem? (i := 254) rfl) rfl, rfl⟩
set_option maxRecDepth 100000 in
theorem fp_X3_18 : am_fP RX3 18 3 2 true := ⟨(RX3, TX3, 10), cs_X3, by decide, am_in (List.mem_of_getElem? (i := 256) rfl) rfl, rfl, rfl⟩
set_option maxRecDepth 100000 in
theorem fp_X3_22 : am_fP RX3 22 3 3 true := ⟨(RX3, TX3, 10), cs_X3, by decide, am_in (List.mem_of_getElem? (i := 258) rfl) rfl, rfl, rfl⟩
set_option maxRecDepth 100000 in
theorem fq_X3_25 : am_fQ RX3 25 3 4 := ⟨(RX3, TX3, 10), cs_X3, by decide, am_in (List.mem_of_getElem? (i := 259) rfl) rfl, rfl⟩
set_option maxRecDepth 100000 in
theorem fq_X3_28 : am_fQ RX3 28 3 5 := ⟨(RX3, TX3, 10), cs_X3, by decide, am_in (List.mem_of_getElem? (i := 260) rfl) rfl, rfl⟩
set_option maxRecDepth 100000 in
theorem fq_X3_31 : am_fQ RX3 31 3 6 := ⟨(RX3, TX3, 10), cs_X3, by decide, am_in (List.mem_of_getElem? (i := 261) rfl) rfl, rfl⟩
set_option maxRecDepth 100000 in
theorem fq_X3_34 : am_fQ RX3 34 3 7 := ⟨(RX3, TX3, 10), cs_X3, by decide, am_in (List.mem_of_getElem? (i := 262) rfl) rfl, rfl⟩
set_option maxRecDepth 100000 in
theorem fq_X3_37 : am_fQ RX3 37 3 8 := ⟨(RX3, TX3, 10), cs_X3, by decide, am_in (List.mem_of_getElem? (i := 263) rfl) rfl, rfl⟩
set_option maxRecDepth 100000 in
theorem fq_X3_40 : am_fQ RX3 40 3 9 := ⟨(RX3, TX3, 10), cs_X3, by decide, am_in (List.mem_of_getElem? (i := 264) rfl) rfl, rfl⟩
set_option maxRecDepth 100000 in
theorem fp_X4_11 : am_fP RX4 11 4 0 true := ⟨(RX4, TX4, 9), cs_X4, by decide, am_in (List.mem_of_getElem? (i := 218) rfl) rfl, rfl, rfl⟩
set_option maxRecDepth 100000 in
theorem fp_X4_15 : am_fP RX4 15 4 1 true := ⟨(RX4, TX4, 9), cs_X4, by decide, am_in (List.mem_of_getElem? (i := 219) rfl) rfl, rfl, rfl⟩
set_option maxRecDepth 100000 in
theorem fp_X4_18 : am_fP RX4 18 4 2 true := ⟨(RX4, TX4, 9), cs_X4, by decide, am_in (List.mem_of_getElem? (i := 220) rfl) rfl, rfl, rfl⟩
set_option maxRecDepth 100000 in
theorem fp_X4_21 : am_fP RX4 21 4 3 true := ⟨(RX4, TX4, 9), cs_X4, by decide, am_in (List.mem_of_getElem? (i := 221) rfl) rfl, rfl, rfl⟩
set_option maxRecDepth 100000 in
theorem fp_X4_24 : am_fP RX4 24 4 4 true := ⟨(RX4, TX4, 9), cs_X4, by decide, am_in (List.mem_of_getElem? (i := 222) rfl) rfl, rfl, rfl⟩
set_option maxRecDepth 100000 in
theorem fp_X4_27 : am_fP RX4 27 4 5 true := ⟨(RX4, TX4, 9), cs_X4, by decide, am_in (List.mem_of_getElem? (i := 223) rfl) rfl, rfl, rfl⟩
set_option maxRecDepth 100000 in
theorem fq_X4_30 : am_fQ RX4 30 4 6 := ⟨(RX4, TX4, 9), cs_X4, by decide, am_in (List.mem_of_getElem? (i := 224) rfl) rfl, rfl⟩
set_option maxRecDepth 100000 in
theorem fq_X4_34 : am_fQ RX4 34 4 7 := ⟨(RX4, TX4, 9), cs_X4, by decide, am_in (List.mem_of_getElem? (i := 225) rfl) rfl, rfl⟩
set_option maxRecDepth 100000 in
theorem fq_X4_37 : am_fQ RX4 37 4 8 := ⟨(RX4, TX4, 9), cs_X4, by decide, am_in (List.mem_of_getElem? (i := 226) rfl) rfl, rfl⟩
set_option maxRecDepth 100000 in
theorem fq_X5_9 : am_fQ RX5 9 5 0 := ⟨(RX5, TX5, 8), cs_X5, by decide, am_in (List.mem_of_getElem? (i := 169) rfl) rfl, rfl⟩
set_option maxRecDepth 100000 in
theorem fq_X5_15 : am_fQ RX5 15 5 1 := ⟨(RX5, TX5, 8), cs_X5, by decide, am_in (List.mem_of_getElem? (i := 173) rfl) rfl, rfl⟩
set_option maxRecDepth 100000 in
theorem fq_X5_18 : am_fQ RX5 18 5 2 := ⟨(RX5, TX5, 8), cs_X5, by decide, am_in (List.mem_of_getElem? (i := 178) rfl) rfl, rfl⟩
set_option maxRecDepth 100000 in
theorem fq_X5_21 : am_fQ RX5 21 5 3 := ⟨(RX5, TX5, 8), cs_X5, by decide, am_in (List.mem_of_getElem? (i := 180) rfl) rfl, rfl⟩
set_option maxRecDepth 100000 in
theorem fq_X5_24 : am_fQ RX5 24 5 4 := ⟨(RX5, TX5, 8), cs_X5, by decide, am_in (List.mem_of_getElem? (i := 182) rfl) rfl, rfl⟩
set_option maxRecDepth 100000 in
theorem fp_X5_27 : am_fP RX5 27 5 5 true := ⟨(RX5, TX5, 8), cs_X5, by decide, am_in (List.mem_of_getElem? (i := 185) rfl) rfl, rfl, rfl⟩
set_option maxRecDepth 100000 in
theorem fp_X5_33 : am_fP RX5 33 5 6 true := ⟨(RX5, TX5, 8), cs_X5, by decide, am_in (List.mem_of_getElem? (i := 188) rfl) rfl, rfl, rfl⟩
set_option maxRecDepth 100000 in
theorem fp_X5_39 : am_fP RX5 39 5 7 true := ⟨(RX5, TX5, 8), cs_X5, by decide, am_in (List.mem_of_getElem? (i := 193) rfl) rfl, rfl, rfl⟩
set_option maxRecDepth 100000 in
theorem fp_X6_10 : am_fP RX6 10 6 0 true := ⟨(RX6, TX6, 9), cs_X6, by decide, am_in (List.mem_of_getElem? (i := 286) rfl) rfl, rfl, rfl⟩
set_option maxRecDepth 100000 in
theorem fp_X6_19 : am_fP RX6 19 6 1 true := ⟨(RX6, TX6, 9), cs_X6, by decide, am_in (List.mem_of_getElem? (i := 287) rfl) rfl, rfl, rfl⟩
set_option maxRecDepth 100000 in
theorem fp_X6_23 : am_fP RX6 23 6 2 true := ⟨(RX6, TX6, 9), cs_X6, by decide, am_in (List.mem_of_getElem? (i := 288) rfl) rfl, rfl, rfl⟩
set_option maxRecDepth 100000 in
theorem fp_X6_26 : am_fP RX6 26 6 3 true := ⟨(RX6, TX6, 9), cs_X6, by decide, am_in (List.mem_of_getElem? (i := 289) rfl) rfl, rfl, rfl⟩
set_option maxRecDepth 100000 in
theorem fp_X6_32 : am_fP RX6 32 6 4 true := ⟨(RX6, TX6, 9), cs_X6, by decide, am_in (List.mem_of_getElem? (i := 290) rfl) rfl, rfl, rfl⟩
set_option maxRecDepth 100000 in
theorem fp_X6_39 : am_fP RX6 39 6 5 true := ⟨(RX6, TX6, 9), cs_X6, by decide, am_in (List.mem_of_getElem? (i := 291) rfl) rfl, rfl, rfl⟩
set_option maxRecDepth 100000 in
theorem fq_X6_43 : am_fQ RX6 43 6 6 := ⟨(RX6, TX6, 9), cs_X6, by decide, am_in (List.mem_of_getElem? (i := 292) rfl) rfl, rfl⟩
set_option maxRecDepth 100000 in
theorem fq_X6_47 : am_fQ RX6 47 6 7 := ⟨(RX6, TX6, 9), cs_X6, by decide, am_in (List.mem_of_getElem? (i := 293) rfl) rfl, rfl⟩
set_option maxRecDepth 100000 in
theorem fq_X6_51 : am_fQ RX6 51 6 8 := ⟨(RX6, TX6, 9), cs_X6, by decide, am_in (List.mem_of_getElem? (i := 294) rfl) rfl, rfl⟩
set_option maxRecDepth 100000 in
theorem fq_X6_58 : am_fQ RX6 58 0 1 := ⟨(RX0, TX0, 3), cs_X0, by decide, am_in (List.mem_of_getElem? (i := 78) rfl) rfl, rfl⟩
set_option maxRecDepth 100000 in
theorem fq_X6_100 : am_fQ RX6 100 2 4 := ⟨(RX2, TX2, 6), cs_X2, by decide, am_in (List.mem_of_getElem? (i := 116) rfl) rfl, rfl⟩
set_option maxRecDepth 100000 in
theorem fq_X6_106 : am_fQ RX6 106 2 5 := ⟨(RX2, TX2, 6), cs_X2, by decide, am_in (List.mem_of_getElem? (i := 119) rfl) rfl, rfl⟩
set_option maxRecDepth 100000 in
theorem fq_X6_116 : am_fQ RX6 116 5 2 := ⟨(RX5, TX5, 8), cs_X5, by decide, am_in (List.mem_of_getElem? (i := 179) rfl) rfl, rfl⟩
set_option maxRecDepth 100000 in
theorem fq_X6_156 : am_fQ RX6 156 5 3 := ⟨(RX5, TX5, 8), cs_X5, by decide, am_in (List.mem_of_getElem? (i := 181) rfl) rfl, rfl⟩
set_option maxRecDepth 100000 in
theorem fq_X6_197 : am_fQ RX6 197 5 4 := ⟨(RX5, TX5, 8), cs_X5, by decide, am_in (List.mem_of_getElem? (i := 184) rfl) rfl, rfl⟩
set_option maxRecDepth 100000 in
theorem fp_X7_7 : am_fP RX7 7 7 0 true := ⟨(RX7, TX7, 36), cs_X7, by decide, am_in (List.mem_of_getElem? (i := 696) rfl) rfl, rfl, rfl⟩
set_option maxRecDepth 100000 in
theorem fp_X7_13 : am_fP RX7 13 7 2 true := ⟨(RX7, TX7, 36), cs_X7, by decide, am_in (List.mem_of_getElem? (i := 698) rfl) rfl, rfl, rfl⟩
set_option maxRecDepth 100000 in
theorem fp_X7_16 : am_fP RX7 16 7 10 true := ⟨(RX7, TX7, 36), cs_X7, by decide, am_in (List.mem_of_getElem? (i := 706) rfl) rfl, rfl, rfl⟩
set_option maxRecDepth 100000 in
theorem fp_X7_19 : am_fP RX7 19 7 12 true := ⟨(RX7, TX7, 36), cs_X7, by decide, am_in (List.mem_of_getElem? (i := 708) rfl) rfl, rfl, rfl⟩
set_option maxRecDepth 100000 in
theorem fp_X7_22 : am_fP RX7 22 7 13 true := ⟨(RX7, TX7, 36), cs_X7, by decide, am_in (List.mem_of_getElem? (i := 709) rfl) rfl, rfl, rfl⟩
set_option maxRecDepth 100000 in
theorem fp_X7_25 : am_fP RX7 25 7 15 true := ⟨(RX7, TX7, 36), cs_X7, by decide, am_in (List.mem_of_getElem? (i := 711) rfl) rfl, rfl, rfl⟩
set_option maxRecDepth 100000 in
theorem fp_X7_28 : am_fP RX7 28 7 16 true := ⟨(RX7, TX7, 36), cs_X7, by decide, am_in (List.mem_of_getElem? (i := 712) rfl) rfl, rfl, rfl⟩
set_option maxRecDepth 100000 in
theorem fp_X7_31 : am_fP RX7 31 7 17 true := ⟨(RX7, TX7, 36), cs_X7, by decide, am_in (List.mem_of_getElem? (i := 713) rfl) rfl, rfl, rfl⟩
set_option maxRecDepth 100000 in
theorem fp_X7_34 : am_fP RX7 34 7 21 true := ⟨(RX7, TX7, 36), cs_X7, by decide, am_in (List.mem_of_getElem? (i := 717) rfl) rfl, rfl, rfl⟩
set_option maxRecDepth 100000 in
theorem fp_X7_37 : am_fP RX7 37 7 22 true := ⟨(RX7, TX7, 36), cs_X7, by decide, am_in (List.mem_of_getElem? (i := 718) rfl) rfl, rfl, rfl⟩
set_option maxRecDepth 100000 in
theorem fp_X7_40 : am_fP RX7 40 7 23 true := ⟨(RX7, TX7, 36), cs_X7, by decide, am_in (List.mem_of_getElem? (i := 719) rfl) rfl, rfl, rfl⟩
set_option maxRecDepth 100000 in
theorem fp_X7_43 : am_fP RX7 43 7 25 true := ⟨(RX7, TX7, 36), cs_X7, by decide, am_in (List.mem_of_getElem? (i := 721) rfl) rfl, rfl, rfl⟩
set_option maxRecDepth 100000 in
theorem fp_X7_46 : am_fP RX7 46 7 26 true := ⟨(RX7, TX7, 36), cs_X7, by decide, am_in (List.mem_of_getElem? (i := 722) rfl) rfl, rfl, rfl⟩
set_option maxRecDepth 100000 in
theorem fp_X7_49 : am_fP RX7 49 7 31 true := ⟨(RX7, TX7, 36), cs_X7, by decide, am_in (List.mem_of_getElem? (i := 727) rfl) rfl, rfl, rfl⟩
set_option maxRecDepth 100000 in
theorem fp_X7_52 : am_fP RX7 52 7 32 true := ⟨(RX7, TX7, 36), cs_X7, by decide, am_in (List.mem_of_getElem? (i := 728) rfl) rfl, rfl, rfl⟩
set_option maxRecDepth 100000 in
theorem fp_X7_55 : am_fP RX7 55 7 33 true := ⟨(RX7, TX7, 36), cs_X7, by decide, am_in (List.mem_of_getElem? (i := 729) rfl) rfl, rfl, rfl⟩
set_option maxRecDepth 100000 in
theorem fp_X7_58 : am_fP RX7 58 7 34 true := ⟨(RX7, TX7, 36), cs_X7, by decide, am_in (List.mem_of_getElem? (i := 730) rfl) rfl, rfl, rfl⟩
set_option maxRecDepth 100000 in
theorem fq_X7_61 : am_fQ RX7 61 7 27 := ⟨(RX7, TX7, 36), cs_X7, by decide, am_in (List.mem_of_getElem? (i := 723) rfl) rfl, rfl⟩
set_option maxRecDepth 100000 in
theorem fq_X7_71 : am_fQ RX7 71 7 1 := ⟨(RX7, TX7, 36), cs_X7, by decide, am_in (List.mem_of_getElem? (i := 697) rfl) rfl, rfl⟩
set_option maxRecDepth 100000 in
theorem fq_X7_74 : am_fQ RX7 74 7 3 := ⟨(RX7, TX7, 36), cs_X7, by decide, am_in (List.mem_of_getElem? (i := 699) rfl) rfl, rfl⟩
set_option maxRecDepth 100000 in
theorem fq_X7_77 : am_fQ RX7 77 7 5 := ⟨(RX7, TX7, 36), cs_X7, by decide, am_in (List.mem_of_getElem? (i := 701) rfl) rfl, rfl⟩
set_option maxRecDepth 100000 in
theorem fq_X7_92 : am_fQ RX7 92 7 4 := ⟨(RX7, TX7, 36), cs_X7, by decide, am_in (List.mem_of_getElem? (i := 700) rfl) rfl, rfl⟩
set_option maxRecDepth 100000 in
theorem fq_X7_104 : am_fQ RX7 104 7 6 := ⟨(RX7, TX7, 36), cs_X7, by decide, am_in (List.mem_of_getElem? (i := 702) rfl) rfl, rfl⟩
set_option maxRecDepth 100000 in
theorem fq_X7_107 : am_fQ RX7 107 7 7 := ⟨(RX7, TX7, 36), cs_X7, by decide, am_in (List.mem_of_getElem? (i := 703) rfl) rfl, rfl⟩
set_option maxRecDepth 100000 in
theorem fq_X7_110 : am_fQ RX7 110 7 11 := ⟨(RX7, TX7, 36), cs_X7, by decide, am_in (List.mem_of_getElem? (i := 707) rfl) rfl, rfl⟩
set_option maxRecDepth 100000 in
theorem fq_X7_113 : am_fQ RX7 113 7 9 := ⟨(RX7, TX7, 36), cs_X7, by decide, am_in (List.mem_of_getElem? (i := 705) rfl) rfl, rfl⟩
set_option maxRecDepth 100000 in
theorem fq_X7_116 : am_fQ RX7 116 7 20 := ⟨(RX7, TX7, 36), cs_X7, by decide, am_in (List.mem_of_getElem? (i := 716) rfl) rfl, rfl⟩
set_option maxRecDepth 100000 in
theorem fq_X7_119 : am_fQ RX7 119 7 8 := ⟨(RX7, TX7, 36), cs_X7, by decide, am_in (List.mem_of_getElem? (i := 704) rfl) rfl, rfl⟩
set_option maxRecDepth 100000 in
theorem fq_X7_172 : am_fQ RX7 172 7 18 := ⟨(RX7, TX7, 36), cs_X7, by decide, am_in (List.mem_of_getElem? (i := 714) rfl) rfl, rfl⟩
set_option maxRecDepth 100000 in
theorem fq_X7_175 : am_fQ RX7 175 7 19 := ⟨(RX7, TX7, 36), cs_X7, by decide, am_in (List.mem_of_getElem? (i := 715) rfl) rfl, rfl⟩
set_option maxRecDepth 100000 in
theorem fq_X7_185 : am_fQ RX7 185 7 14 := ⟨(RX7, TX7, 36), cs_X7, by decide, am_in (List.mem_of_getElem? (i := 710) rfl) rfl, rfl⟩
set_option maxRecDepth 100000 in
theorem fq_X7_217 : am_fQ RX7 217 7 24 := ⟨(RX7, TX7, 36), cs_X7, by decide, am_in (List.mem_of_getElem? (i := 720) rfl) rfl, rfl⟩
set_option maxRecDepth 100000 in
theorem fq_X7_237 : am_fQ RX7 237 7 28 := ⟨(RX7, TX7, 36), cs_X7, by decide, am_in (List.mem_of_getElem? (i := 724) rfl) rfl, rfl⟩
set_option maxRecDepth 100000 in
theorem fq_X7_240 : am_fQ RX7 240 7 29 := ⟨(RX7, TX7, 36), cs_X7, by decide, am_in (List.mem_of_getElem? (i := 725) rfl) rfl, rfl⟩
set_option maxRecDepth 100000 in
theorem fq_X7_243 : am_fQ RX7 243 7 30 := ⟨(RX7, TX7, 36), cs_X7, by decide, am_in (List.mem_of_getElem? (i := 726) rfl) rfl, rfl⟩
set_option maxRecDepth 100000 in
theorem fq_X7_251 : am_fQ RX7 251 7 35 := ⟨(RX7, TX7, 36), cs_X7, by decide, am_in (List.mem_of_getElem? (i := 731) rfl) rfl, rfl⟩
abbrev mX0_init : am_M := (cX0_init, yX0_init, 1, none)
set_option maxRecDepth 100000 in
theorem mv_X0_init : am_mI mX0_init 0 := ⟨⟨am_in (List.mem_of_getElem? (i := 73) rfl) rfl, am_in (List.mem_of_getElem? (i := 53) rfl) rfl, ⟨by decide, by decide, by decide +kernel⟩, by decide⟩, am_in (List.mem_of_getElem? (i := 72) rfl) rfl, rfl, rfl⟩
abbrev mX0_append : am_M := (cX0_append, yX0_append, 2, (some .boolean))
set_option maxRecDepth 100000 in
theorem mv_X0_append : am_mV mX0_append 1 := ⟨⟨am_in (List.mem_of_getElem? (i := 321) rfl) rfl, am_in (List.mem_of_getElem? (i := 53) rfl) rfl, ⟨by decide, by decide, by decide +kernel⟩, by decide⟩, am_in (List.mem_of_getElem? (i := 319) rfl) rfl, am_in (List.mem_of_getElem? (i := 320) rfl) rfl⟩
abbrev mX0_firstWrong : am_M := (cX0_firstWrong, yX0_firstWrong, 4, (some .int))
set_option maxRecDepth 100000 in
theorem mv_X0_firstWrong : am_mV mX0_firstWrong 0 := ⟨⟨am_in (List.mem_of_getElem? (i := 333) rfl) rfl, am_in (List.mem_of_getElem? (i := 53) rfl) rfl, ⟨by decide, by decide, by decide +kernel⟩, by decide⟩, am_in (List.mem_of_getElem? (i := 331) rfl) rfl, am_in (List.mem_of_getElem? (i := 332) rfl) rfl⟩
abbrev mX0_isWhole : am_M := (cX0_isWhole, yX0_isWhole, 1, (some .boolean))
set_option maxRecDepth 100000 in
theorem mv_X0_isWhole : am_mV mX0_isWhole 0 := ⟨⟨am_in (List.mem_of_getElem? (i := 353) rfl) rfl, am_in (List.mem_of_getElem? (i := 53) rfl) rfl, ⟨by decide, by decide, by decide +kernel⟩, by decide⟩, am_in (List.mem_of_getElem? (i := 351) rfl) rfl, am_in (List.mem_of_getElem? (i := 352) rfl) rfl⟩
abbrev mX0_layRoads : am_M := (cX0_layRoads, yX0_layRoads, 6, none)
set_option maxRecDepth 100000 in
theorem mv_X0_layRoads : am_mV mX0_layRoads 1 := ⟨⟨am_in (List.mem_of_getElem? (i := 362) rfl) rfl, am_in (List.mem_of_getElem? (i := 53) rfl) rfl, ⟨by decide, by decide, by decide +kernel⟩, by decide⟩, am_in (List.mem_of_getElem? (i := 360) rfl) rfl, am_in (List.mem_of_getElem? (i := 361) rfl) rfl⟩
abbrev mX0_slotBehind : am_M := (cX0_slotBehind, yX0_slotBehind, 4, (some .int))
set_option maxRecDepth 100000 in
theorem mv_X0_slotBehind : am_mS mX0_slotBehind 4 := ⟨⟨am_in (List.mem_of_getElem? (i := 336) rfl) rfl, am_in (List.mem_of_getElem? (i := 53) rfl) rfl, ⟨by decide, by decide, by decide +kernel⟩, by decide⟩, am_in (List.mem_of_getElem? (i := 335) rfl) rfl⟩
abbrev mX0_isOnes : am_M := (cX0_isOnes, yX0_isOnes, 2, (some .boolean))
set_option maxRecDepth 100000 in
theorem mv_X0_isOnes : am_mS mX0_isOnes 2 := ⟨⟨am_in (List.mem_of_getElem? (i := 342) rfl) rfl, am_in (List.mem_of_getElem? (i := 53) rfl) rfl, ⟨by decide, by decide, by decide +kernel⟩, by decide⟩, am_in (List.mem_of_getElem? (i := 341) rfl) rfl⟩
abbrev mX0_isDigit : am_M := (cX0_isDigit, yX0_isDigit, 3, (some .boolean))
set_option maxRecDepth 100000 in
theorem mv_X0_isDigit : am_mS mX0_isDigit 3 := ⟨⟨am_in (List.mem_of_getElem? (i := 339) rfl) rfl, am_in (List.mem_of_getElem? (i := 53) rfl) rfl, ⟨by decide, by decide, by decide +kernel⟩, by decide⟩, am_in (List.mem_of_getElem? (i := 338) rfl) rfl⟩
abbrev mX0_kindOf : am_M := (cX0_kindOf, yX0_kindOf, 1, (some .int))
set_option maxRecDepth 100000 in
theorem mv_X0_kindOf : am_mS mX0_kindOf 1 := ⟨⟨am_in (List.mem_of_getElem? (i := 345) rfl) rfl, am_in (List.mem_of_getElem? (i := 53) rfl) rfl, ⟨by decide, by decide, by decide +kernel⟩, by decide⟩, am_in (List.mem_of_getElem? (i := 344) rfl) rfl⟩
abbrev mX1_init : am_M := (cX1_init, yX1_init, 1, none)
set_option maxRecDepth 100000 in
theorem mv_X1_init : am_mI mX1_init 0 := ⟨⟨am_in (List.mem_of_getElem? (i := 136) rfl) rfl, am_in (List.mem_of_getElem? (i := 56) rfl) rfl, ⟨by decide, by decide, by decide +kernel⟩, by decide⟩, am_in (List.mem_of_getElem? (i := 135) rfl) rfl, rfl, rfl⟩
abbrev mX1_startAnew : am_M := (cX1_startAnew, yX1_startAnew, 2, none)
set_option maxRecDepth 100000 in
theorem mv_X1_startAnew : am_mV mX1_startAnew 0 := ⟨⟨am_in (List.mem_of_getElem? (i := 409) rfl) rfl, am_in (List.mem_of_getElem? (i := 56) rfl) rfl, ⟨by decide, by decide, by decide +kernel⟩, by decide⟩, am_in (List.mem_of_getElem? (i := 407) rfl) rfl, am_in (List.mem_of_getElem? (i := 408) rfl) rfl⟩
abbrev mX1_become : am_M := (cX1_become, yX1_become, 3, none)
set_option maxRecDepth 100000 in
theorem mv_X1_become : am_mV mX1_become 1 := ⟨⟨am_in (List.mem_of_getElem? (i := 625) rfl) rfl, am_in (List.mem_of_getElem? (i := 56) rfl) rfl, ⟨by decide, by decide, by decide +kernel⟩, by decide⟩, am_in (List.mem_of_getElem? (i := 623) rfl) rfl, am_in (List.mem_of_getElem? (i := 624) rfl) rfl⟩
abbrev mX1_may : am_M := (cX1_may, yX1_may, 3, (some .boolean))
set_option maxRecDepth 100000 in
theorem mv_X1_may : am_mV mX1_may 2 := ⟨⟨am_in (List.mem_of_getElem? (i := 425) rfl) rfl, am_in (List.mem_of_getElem? (i := 56) rfl) rfl, ⟨by decide, by decide, by decide +kernel⟩, by decide⟩, am_in (List.mem_of_getElem? (i := 423) rfl) rfl, am_in (List.mem_of_getElem? (i := 424) rfl) rfl⟩
abbrev mX1_go : am_M := (cX1_go, yX1_go, 4, none)
set_option maxRecDepth 100000 in
theorem mv_X1_go : am_mV mX1_go 3 := ⟨⟨am_in (List.mem_of_getElem? (i := 433) rfl) rfl, am_in (List.mem_of_getElem? (i := 56) rfl) rfl, ⟨by decide, by decide, by decide +kernel⟩, by decide⟩, am_in (List.mem_of_getElem? (i := 431) rfl) rfl, am_in (List.mem_of_getElem? (i := 432) rfl) rfl⟩
abbrev mX1_wouldCount : am_M := (cX1_wouldCount, yX1_wouldCount, 2, (some .boolean))
set_option maxRecDepth 100000 in
theorem mv_X1_wouldCount : am_mV mX1_wouldCount 1 := ⟨⟨am_in (List.mem_of_getElem? (i := 441) rfl) rfl, am_in (List.mem_of_getElem? (i := 56) rfl) rfl, ⟨by decide, by decide, by decide +kernel⟩, by decide⟩, am_in (List.mem_of_getElem? (i := 439) rfl) rfl, am_in (List.mem_of_getElem? (i := 440) rfl) rfl⟩
abbrev mX1_recover : am_M := (cX1_recover, yX1_recover, 1, none)
set_option maxRecDepth 100000 in
theorem mv_X1_recover : am_mV mX1_recover 0 := ⟨⟨am_in (List.mem_of_getElem? (i := 453) rfl) rfl, am_in (List.mem_of_getElem? (i := 56) rfl) rfl, ⟨by decide, by decide, by decide +kernel⟩, by decide⟩, am_in (List.mem_of_getElem? (i := 451) rfl) rfl, am_in (List.mem_of_getElem? (i := 452) rfl) rfl⟩
abbrev mX1_ask : am_M := (cX1_ask, yX1_ask, 2, none)
set_option maxRecDepth 100000 in
theorem mv_X1_ask : am_mV mX1_ask 1 := ⟨⟨am_in (List.mem_of_getElem? (i := 464) rfl) rfl, am_in (List.mem_of_getElem? (i := 56) rfl) rfl, ⟨by decide, by decide, by decide +kernel⟩, by decide⟩, am_in (List.mem_of_getElem? (i := 462) rfl) rfl, am_in (List.mem_of_getElem? (i := 463) rfl) rfl⟩
abbrev mX2_init : am_M := (cX2_init, yX2_init, 2, none)
set_option maxRecDepth 100000 in
theorem mv_X2_init : am_mI mX2_init 1 := ⟨⟨am_in (List.mem_of_getElem? (i := 101) rfl) rfl, am_in (List.mem_of_getElem? (i := 55) rfl) rfl, ⟨by decide, by decide, by decide +kernel⟩, by decide⟩, am_in (List.mem_of_getElem? (i := 100) rfl) rfl, rfl, rfl⟩
abbrev mX2_lay : am_M := (cX2_lay, yX2_lay, 5, none)
set_option maxRecDepth 100000 in
theorem mv_X2_lay : am_mV mX2_lay 4 := ⟨⟨am_in (List.mem_of_getElem? (i := 366) rfl) rfl, am_in (List.mem_of_getElem? (i := 55) rfl) rfl, ⟨by decide, by decide, by decide +kernel⟩, by decide⟩, am_in (List.mem_of_getElem? (i := 364) rfl) rfl, am_in (List.mem_of_getElem? (i := 365) rfl) rfl⟩
abbrev mX2_become : am_M := (cX2_become, yX2_become, 2, none)
set_option maxRecDepth 100000 in
theorem mv_X2_become : am_mV mX2_become 1 := ⟨⟨am_in (List.mem_of_getElem? (i := 620) rfl) rfl, am_in (List.mem_of_getElem? (i := 55) rfl) rfl, ⟨by decide, by decide, by decide +kernel⟩, by decide⟩, am_in (List.mem_of_getElem? (i := 618) rfl) rfl, am_in (List.mem_of_getElem? (i := 619) rfl) rfl⟩
abbrev mX2_worth : am_M := (cX2_worth, yX2_worth, 1, (some .int))
set_option maxRecDepth 100000 in
theorem mv_X2_worth : am_mV mX2_worth 0 := ⟨⟨am_in (List.mem_of_getElem? (i := 382) rfl) rfl, am_in (List.mem_of_getElem? (i := 55) rfl) rfl, ⟨by decide, by decide, by decide +kernel⟩, by decide⟩, am_in (List.mem_of_getElem? (i := 380) rfl) rfl, am_in (List.mem_of_getElem? (i := 381) rfl) rfl⟩
abbrev mX2_isOfKind : am_M := (cX2_isOfKind, yX2_isOfKind, 2, (some .boolean))
set_option maxRecDepth 100000 in
theorem mv_X2_isOfKind : am_mV mX2_isOfKind 1 := ⟨⟨am_in (List.mem_of_getElem? (i := 393) rfl) rfl, am_in (List.mem_of_getElem? (i := 55) rfl) rfl, ⟨by decide, by decide, by decide +kernel⟩, by decide⟩, am_in (List.mem_of_getElem? (i := 391) rfl) rfl, am_in (List.mem_of_getElem? (i := 392) rfl) rfl⟩
abbrev mX2_touches : am_M := (cX2_touches, yX2_touches, 2, (some .boolean))
set_option maxRecDepth 100000 in
theorem mv_X2_touches : am_mV mX2_touches 1 := ⟨⟨am_in (List.mem_of_getElem? (i := 429) rfl) rfl, am_in (List.mem_of_getElem? (i := 55) rfl) rfl, ⟨by decide, by decide, by decide +kernel⟩, by decide⟩, am_in (List.mem_of_getElem? (i := 427) rfl) rfl, am_in (List.mem_of_getElem? (i := 428) rfl) rfl⟩
abbrev mX2_across : am_M := (cX2_across, yX2_across, 2, (some .int))
set_option maxRecDepth 100000 in
theorem mv_X2_across : am_mV mX2_across 1 := ⟨⟨am_in (List.mem_of_getElem? (i := 437) rfl) rfl, am_in (List.mem_of_getElem? (i := 55) rfl) rfl, ⟨by decide, by decide, by decide +kernel⟩, by decide⟩, am_in (List.mem_of_getElem? (i := 435) rfl) rfl, am_in (List.mem_of_getElem? (i := 436) rfl) rfl⟩
abbrev mX3_init : am_M := (cX3_init, yX3_init, 1, none)
set_option maxRecDepth 100000 in
theorem mv_X3_init : am_mI mX3_init 0 := ⟨⟨am_in (List.mem_of_getElem? (i := 250) rfl) rfl, am_in (List.mem_of_getElem? (i := 58) rfl) rfl, ⟨by decide, by decide, by decide +kernel⟩, by decide⟩, am_in (List.mem_of_getElem? (i := 249) rfl) rfl, rfl, rfl⟩
abbrev mX3_outdate : am_M := (cX3_outdate, yX3_outdate, 1, none)
set_option maxRecDepth 100000 in
theorem mv_X3_outdate : am_mV mX3_outdate 0 := ⟨⟨am_in (List.mem_of_getElem? (i := 370) rfl) rfl, am_in (List.mem_of_getElem? (i := 58) rfl) rfl, ⟨by decide, by decide, by decide +kernel⟩, by decide⟩, am_in (List.mem_of_getElem? (i := 368) rfl) rfl, am_in (List.mem_of_getElem? (i := 369) rfl) rfl⟩
abbrev mX3_tally : am_M := (cX3_tally, yX3_tally, 3, none)
set_option maxRecDepth 100000 in
theorem mv_X3_tally : am_mV mX3_tally 1 := ⟨⟨am_in (List.mem_of_getElem? (i := 566) rfl) rfl, am_in (List.mem_of_getElem? (i := 58) rfl) rfl, ⟨by decide, by decide, by decide +kernel⟩, by decide⟩, am_in (List.mem_of_getElem? (i := 564) rfl) rfl, am_in (List.mem_of_getElem? (i := 565) rfl) rfl⟩
abbrev mX3_giveBits : am_M := (cX3_giveBits, yX3_giveBits, 3, none)
set_option maxRecDepth 100000 in
theorem mv_X3_giveBits : am_mV mX3_giveBits 1 := ⟨⟨am_in (List.mem_of_getElem? (i := 570) rfl) rfl, am_in (List.mem_of_getElem? (i := 58) rfl) rfl, ⟨by decide, by decide, by decide +kernel⟩, by decide⟩, am_in (List.mem_of_getElem? (i := 569) rfl) rfl, am_in (List.mem_of_getElem? (i := 11) rfl) rfl⟩
abbrev mX3_clearThen : am_M := (cX3_clearThen, yX3_clearThen, 3, none)
set_option maxRecDepth 100000 in
theorem mv_X3_clearThen : am_mV mX3_clearThen 0 := ⟨⟨am_in (List.mem_of_getElem? (i := 575) rfl) rfl, am_in (List.mem_of_getElem? (i := 58) rfl) rfl, ⟨by decide, by decide, by decide +kernel⟩, by decide⟩, am_in (List.mem_of_getElem? (i := 574) rfl) rfl, am_in (List.mem_of_getElem? (i := 12) rfl) rfl⟩
abbrev mX3_swap : am_M := (cX3_swap, yX3_swap, 3, none)
set_option maxRecDepth 100000 in
theorem mv_X3_swap : am_mV mX3_swap 0 := ⟨⟨am_in (List.mem_of_getElem? (i := 579) rfl) rfl, am_in (List.mem_of_getElem? (i := 58) rfl) rfl, ⟨by decide, by decide, by decide +kernel⟩, by decide⟩, am_in (List.mem_of_getElem? (i := 578) rfl) rfl, am_in (List.mem_of_getElem? (i := 13) rfl) rfl⟩
abbrev mX3_passMonth : am_M := (cX3_passMonth, yX3_passMonth, 5, none)
set_option maxRecDepth 100000 in
theorem mv_X3_passMonth : am_mV mX3_passMonth 2 := ⟨⟨am_in (List.mem_of_getElem? (i := 583) rfl) rfl, am_in (List.mem_of_getElem? (i := 58) rfl) rfl, ⟨by decide, by decide, by decide +kernel⟩, by decide⟩, am_in (List.mem_of_getElem? (i := 582) rfl) rfl, am_in (List.mem_of_getElem? (i := 14) rfl) rfl⟩
abbrev mX3_goOn : am_M := (cX3_goOn, yX3_goOn, 11, none)
set_option maxRecDepth 100000 in
theorem mv_X3_goOn : am_mV mX3_goOn 4 := ⟨⟨am_in (List.mem_of_getElem? (i := 587) rfl) rfl, am_in (List.mem_of_getElem? (i := 58) rfl) rfl, ⟨by decide, by decide, by decide +kernel⟩, by decide⟩, am_in (List.mem_of_getElem? (i := 586) rfl) rfl, am_in (List.mem_of_getElem? (i := 15) rfl) rfl⟩
abbrev mX3_sumUp : am_M := (cX3_sumUp, yX3_sumUp, 7, none)
set_option maxRecDepth 100000 in
theorem mv_X3_sumUp : am_mV mX3_sumUp 1 := ⟨⟨am_in (List.mem_of_getElem? (i := 593) rfl) rfl, am_in (List.mem_of_getElem? (i := 58) rfl) rfl, ⟨by decide, by decide, by decide +kernel⟩, by decide⟩, am_in (List.mem_of_getElem? (i := 592) rfl) rfl, am_in (List.mem_of_getElem? (i := 16) rfl) rfl⟩
abbrev mX3_halvesOf : am_M := (cX3_halvesOf, yX3_halvesOf, 5, (some .int))
set_option maxRecDepth 100000 in
theorem mv_X3_halvesOf : am_mV mX3_halvesOf 2 := ⟨⟨am_in (List.mem_of_getElem? (i := 597) rfl) rfl, am_in (List.mem_of_getElem? (i := 58) rfl) rfl, ⟨by decide, by decide, by decide +kernel⟩, by decide⟩, am_in (List.mem_of_getElem? (i := 596) rfl) rfl, am_in (List.mem_of_getElem? (i := 17) rfl) rfl⟩
abbrev mX3_onlyRoad : am_M := (cX3_onlyRoad, yX3_onlyRoad, 2, (some .int))
set_option maxRecDepth 100000 in
theorem mv_X3_onlyRoad : am_mS mX3_onlyRoad 1 := ⟨⟨am_in (List.mem_of_getElem? (i := 600) rfl) rfl, am_in (List.mem_of_getElem? (i := 58) rfl) rfl, ⟨by decide, by decide, by decide +kernel⟩, by decide⟩, am_in (List.mem_of_getElem? (i := 599) rfl) rfl⟩
abbrev mX4_init : am_M := (cX4_init, yX4_init, 1, none)
set_option maxRecDepth 100000 in
theorem mv_X4_init : am_mI mX4_init 0 := ⟨⟨am_in (List.mem_of_getElem? (i := 216) rfl) rfl, am_in (List.mem_of_getElem? (i := 57) rfl) rfl, ⟨by decide, by decide, by decide +kernel⟩, by decide⟩, am_in (List.mem_of_getElem? (i := 215) rfl) rfl, rfl, rfl⟩
abbrev mX4_harmOf : am_M := (cX4_harmOf, yX4_harmOf, 1, (some .int))
set_option maxRecDepth 100000 in
theorem mv_X4_harmOf : am_mS mX4_harmOf 1 := ⟨⟨am_in (List.mem_of_getElem? (i := 518) rfl) rfl, am_in (List.mem_of_getElem? (i := 57) rfl) rfl, ⟨by decide, by decide, by decide +kernel⟩, by decide⟩, am_in (List.mem_of_getElem? (i := 517) rfl) rfl⟩
abbrev mX4_walksOf : am_M := (cX4_walksOf, yX4_walksOf, 1, (some .int))
set_option maxRecDepth 100000 in
theorem mv_X4_walksOf : am_mS mX4_walksOf 1 := ⟨⟨am_in (List.mem_of_getElem? (i := 521) rfl) rfl, am_in (List.mem_of_getElem? (i := 57) rfl) rfl, ⟨by decide, by decide, by decide +kernel⟩, by decide⟩, am_in (List.mem_of_getElem? (i := 520) rfl) rfl⟩
abbrev mX4_firstOf : am_M := (cX4_firstOf, yX4_firstOf, 1, (some .int))
set_option maxRecDepth 100000 in
theorem mv_X4_firstOf : am_mS mX4_firstOf 1 := ⟨⟨am_in (List.mem_of_getElem? (i := 524) rfl) rfl, am_in (List.mem_of_getElem? (i := 57) rfl) rfl, ⟨by decide, by decide, by decide +kernel⟩, by decide⟩, am_in (List.mem_of_getElem? (i := 523) rfl) rfl⟩
abbrev mX4_leastWay : am_M := (cX4_leastWay, yX4_leastWay, 4, (some .int))
set_option maxRecDepth 100000 in
theorem mv_X4_leastWay : am_mV mX4_leastWay 3 := ⟨⟨am_in (List.mem_of_getElem? (i := 476) rfl) rfl, am_in (List.mem_of_getElem? (i := 57) rfl) rfl, ⟨by decide, by decide, by decide +kernel⟩, by decide⟩, am_in (List.mem_of_getElem? (i := 474) rfl) rfl, am_in (List.mem_of_getElem? (i := 475) rfl) rfl⟩
abbrev mX4_leastBar : am_M := (cX4_leastBar, yX4_leastBar, 4, (some .int))
set_option maxRecDepth 100000 in
theorem mv_X4_leastBar : am_mV mX4_leastBar 2 := ⟨⟨am_in (List.mem_of_getElem? (i := 532) rfl) rfl, am_in (List.mem_of_getElem? (i := 57) rfl) rfl, ⟨by decide, by decide, by decide +kernel⟩, by decide⟩, am_in (List.mem_of_getElem? (i := 530) rfl) rfl, am_in (List.mem_of_getElem? (i := 531) rfl) rfl⟩
abbrev mX4_mostCounted : am_M := (cX4_mostCounted, yX4_mostCounted, 6, (some .int))
set_option maxRecDepth 100000 in
theorem mv_X4_mostCounted : am_mV mX4_mostCounted 3 := ⟨⟨am_in (List.mem_of_getElem? (i := 541) rfl) rfl, am_in (List.mem_of_getElem? (i := 57) rfl) rfl, ⟨by decide, by decide, by decide +kernel⟩, by decide⟩, am_in (List.mem_of_getElem? (i := 539) rfl) rfl, am_in (List.mem_of_getElem? (i := 540) rfl) rfl⟩
abbrev mX4_bestBridge : am_M := (cX4_bestBridge, yX4_bestBridge, 10, (some .int))
set_option maxRecDepth 100000 in
theorem mv_X4_bestBridge : am_mV mX4_bestBridge 2 := ⟨⟨am_in (List.mem_of_getElem? (i := 549) rfl) rfl, am_in (List.mem_of_getElem? (i := 57) rfl) rfl, ⟨by decide, by decide, by decide +kernel⟩, by decide⟩, am_in (List.mem_of_getElem? (i := 547) rfl) rfl, am_in (List.mem_of_getElem? (i := 548) rfl) rfl⟩
abbrev mX4_takeRoads : am_M := (cX4_takeRoads, yX4_takeRoads, 6, none)
set_option maxRecDepth 100000 in
theorem mv_X4_takeRoads : am_mV mX4_takeRoads 3 := ⟨⟨am_in (List.mem_of_getElem? (i := 480) rfl) rfl, am_in (List.mem_of_getElem? (i := 57) rfl) rfl, ⟨by decide, by decide, by decide +kernel⟩, by decide⟩, am_in (List.mem_of_getElem? (i := 479) rfl) rfl, am_in (List.mem_of_getElem? (i := 3) rfl) rfl⟩
abbrev mX4_addRoad : am_M := (cX4_addRoad, yX4_addRoad, 6, none)
set_option maxRecDepth 100000 in
theorem mv_X4_addRoad : am_mV mX4_addRoad 4 := ⟨⟨am_in (List.mem_of_getElem? (i := 486) rfl) rfl, am_in (List.mem_of_getElem? (i := 57) rfl) rfl, ⟨by decide, by decide, by decide +kernel⟩, by decide⟩, am_in (List.mem_of_getElem? (i := 485) rfl) rfl, am_in (List.mem_of_getElem? (i := 4) rfl) rfl⟩
abbrev mX4_leastCost : am_M := (cX4_leastCost, yX4_leastCost, 5, (some .int))
set_option maxRecDepth 100000 in
theorem mv_X4_leastCost : am_mV mX4_leastCost 2 := ⟨⟨am_in (List.mem_of_getElem? (i := 490) rfl) rfl, am_in (List.mem_of_getElem? (i := 57) rfl) rfl, ⟨by decide, by decide, by decide +kernel⟩, by decide⟩, am_in (List.mem_of_getElem? (i := 489) rfl) rfl, am_in (List.mem_of_getElem? (i := 5) rfl) rfl⟩
abbrev mX4_spread : am_M := (cX4_spread, yX4_spread, 5, none)
set_option maxRecDepth 100000 in
theorem mv_X4_spread : am_mV mX4_spread 2 := ⟨⟨am_in (List.mem_of_getElem? (i := 495) rfl) rfl, am_in (List.mem_of_getElem? (i := 57) rfl) rfl, ⟨by decide, by decide, by decide +kernel⟩, by decide⟩, am_in (List.mem_of_getElem? (i := 494) rfl) rfl, am_in (List.mem_of_getElem? (i := 6) rfl) rfl⟩
abbrev mX4_isReached : am_M := (cX4_isReached, yX4_isReached, 4, (some .boolean))
set_option maxRecDepth 100000 in
theorem mv_X4_isReached : am_mV mX4_isReached 1 := ⟨⟨am_in (List.mem_of_getElem? (i := 499) rfl) rfl, am_in (List.mem_of_getElem? (i := 57) rfl) rfl, ⟨by decide, by decide, by decide +kernel⟩, by decide⟩, am_in (List.mem_of_getElem? (i := 498) rfl) rfl, am_in (List.mem_of_getElem? (i := 7) rfl) rfl⟩
abbrev mX4_settle : am_M := (cX4_settle, yX4_settle, 6, none)
set_option maxRecDepth 100000 in
theorem mv_X4_settle : am_mV mX4_settle 1 := ⟨⟨am_in (List.mem_of_getElem? (i := 503) rfl) rfl, am_in (List.mem_of_getElem? (i := 57) rfl) rfl, ⟨by decide, by decide, by decide +kernel⟩, by decide⟩, am_in (List.mem_of_getElem? (i := 502) rfl) rfl, am_in (List.mem_of_getElem? (i := 8) rfl) rfl⟩
abbrev mX4_leave : am_M := (cX4_leave, yX4_leave, 6, none)
set_option maxRecDepth 100000 in
theorem mv_X4_leave : am_mV mX4_leave 2 := ⟨⟨am_in (List.mem_of_getElem? (i := 511) rfl) rfl, am_in (List.mem_of_getElem? (i := 57) rfl) rfl, ⟨by decide, by decide, by decide +kernel⟩, by decide⟩, am_in (List.mem_of_getElem? (i := 510) rfl) rfl, am_in (List.mem_of_getElem? (i := 10) rfl) rfl⟩
abbrev mX4_improve : am_M := (cX4_improve, yX4_improve, 6, (some .boolean))
set_option maxRecDepth 100000 in
theorem mv_X4_improve : am_mV mX4_improve 3 := ⟨⟨am_in (List.mem_of_getElem? (i := 507) rfl) rfl, am_in (List.mem_of_getElem? (i := 57) rfl) rfl, ⟨by decide, by decide, by decide +kernel⟩, by decide⟩, am_in (List.mem_of_getElem? (i := 506) rfl) rfl, am_in (List.mem_of_getElem? (i := 9) rfl) rfl⟩
abbrev mX5_init : am_M := (cX5_init, yX5_init, 2, none)
set_option maxRecDepth 100000 in
theorem mv_X5_init : am_mI mX5_init 0 := ⟨⟨am_in (List.mem_of_getElem? (i := 92) rfl) rfl, am_in (List.mem_of_getElem? (i := 54) rfl) rfl, ⟨by decide, by decide, by decide +kernel⟩, by decide⟩, am_in (List.mem_of_getElem? (i := 91) rfl) rfl, rfl, rfl⟩
abbrev mX5_startAnew : am_M := (cX5_startAnew, yX5_startAnew, 1, none)
set_option maxRecDepth 100000 in
theorem mv_X5_startAnew : am_mV mX5_startAnew 0 := ⟨⟨am_in (List.mem_of_getElem? (i := 358) rfl) rfl, am_in (List.mem_of_getElem? (i := 54) rfl) rfl, ⟨by decide, by decide, by decide +kernel⟩, by decide⟩, am_in (List.mem_of_getElem? (i := 356) rfl) rfl, am_in (List.mem_of_getElem? (i := 357) rfl) rfl⟩
abbrev mX5_become : am_M := (cX5_become, yX5_become, 3, none)
set_option maxRecDepth 100000 in
theorem mv_X5_become : am_mV mX5_become 1 := ⟨⟨am_in (List.mem_of_getElem? (i := 616) rfl) rfl, am_in (List.mem_of_getElem? (i := 54) rfl) rfl, ⟨by decide, by decide, by decide +kernel⟩, by decide⟩, am_in (List.mem_of_getElem? (i := 614) rfl) rfl, am_in (List.mem_of_getElem? (i := 615) rfl) rfl⟩
abbrev mX5_live : am_M := (cX5_live, yX5_live, 6, (some .int))
set_option maxRecDepth 100000 in
theorem mv_X5_live : am_mV mX5_live 2 := ⟨⟨am_in (List.mem_of_getElem? (i := 629) rfl) rfl, am_in (List.mem_of_getElem? (i := 54) rfl) rfl, ⟨by decide, by decide, by decide +kernel⟩, by decide⟩, am_in (List.mem_of_getElem? (i := 627) rfl) rfl, am_in (List.mem_of_getElem? (i := 628) rfl) rfl⟩
abbrev mX5_passMonth : am_M := (cX5_passMonth, yX5_passMonth, 4, none)
set_option maxRecDepth 100000 in
theorem mv_X5_passMonth : am_mV mX5_passMonth 2 := ⟨⟨am_in (List.mem_of_getElem? (i := 639) rfl) rfl, am_in (List.mem_of_getElem? (i := 54) rfl) rfl, ⟨by decide, by decide, by decide +kernel⟩, by decide⟩, am_in (List.mem_of_getElem? (i := 638) rfl) rfl, am_in (List.mem_of_getElem? (i := 18) rfl) rfl⟩
abbrev mX5_nextSeed : am_M := (cX5_nextSeed, yX5_nextSeed, 1, (some .int))
set_option maxRecDepth 100000 in
theorem mv_X5_nextSeed : am_mS mX5_nextSeed 1 := ⟨⟨am_in (List.mem_of_getElem? (i := 632) rfl) rfl, am_in (List.mem_of_getElem? (i := 54) rfl) rfl, ⟨by decide, by decide, by decide +kernel⟩, by decide⟩, am_in (List.mem_of_getElem? (i := 631) rfl) rfl⟩
abbrev mX5_letInCount : am_M := (cX5_letInCount, yX5_letInCount, 3, (some .int))
set_option maxRecDepth 100000 in
theorem mv_X5_letInCount : am_mV mX5_letInCount 0 := ⟨⟨am_in (List.mem_of_getElem? (i := 649) rfl) rfl, am_in (List.mem_of_getElem? (i := 54) rfl) rfl, ⟨by decide, by decide, by decide +kernel⟩, by decide⟩, am_in (List.mem_of_getElem? (i := 647) rfl) rfl, am_in (List.mem_of_getElem? (i := 648) rfl) rfl⟩
abbrev mX5_hurtOfAll : am_M := (cX5_hurtOfAll, yX5_hurtOfAll, 3, (some .int))
set_option maxRecDepth 100000 in
theorem mv_X5_hurtOfAll : am_mV mX5_hurtOfAll 0 := ⟨⟨am_in (List.mem_of_getElem? (i := 653) rfl) rfl, am_in (List.mem_of_getElem? (i := 54) rfl) rfl, ⟨by decide, by decide, by decide +kernel⟩, by decide⟩, am_in (List.mem_of_getElem? (i := 651) rfl) rfl, am_in (List.mem_of_getElem? (i := 652) rfl) rfl⟩
abbrev mX5_countedByAll : am_M := (cX5_countedByAll, yX5_countedByAll, 3, (some .int))
set_option maxRecDepth 100000 in
theorem mv_X5_countedByAll : am_mV mX5_countedByAll 0 := ⟨⟨am_in (List.mem_of_getElem? (i := 657) rfl) rfl, am_in (List.mem_of_getElem? (i := 54) rfl) rfl, ⟨by decide, by decide, by decide +kernel⟩, by decide⟩, am_in (List.mem_of_getElem? (i := 655) rfl) rfl, am_in (List.mem_of_getElem? (i := 656) rfl) rfl⟩
abbrev mX6_init : am_M := (cX6_init, yX6_init, 1, none)
set_option maxRecDepth 100000 in
theorem mv_X6_init : am_mI mX6_init 0 := ⟨⟨am_in (List.mem_of_getElem? (i := 65) rfl) rfl, am_in (List.mem_of_getElem? (i := 52) rfl) rfl, ⟨by decide, by decide, by decide +kernel⟩, by decide⟩, am_in (List.mem_of_getElem? (i := 64) rfl) rfl, rfl, rfl⟩
abbrev mX6_letter : am_M := (cX6_letter, yX6_letter, 2, (some .int))
set_option maxRecDepth 100000 in
theorem mv_X6_letter : am_mV mX6_letter 1 := ⟨⟨am_in (List.mem_of_getElem? (i := 317) rfl) rfl, am_in (List.mem_of_getElem? (i := 52) rfl) rfl, ⟨by decide, by decide, by decide +kernel⟩, by decide⟩, am_in (List.mem_of_getElem? (i := 315) rfl) rfl, am_in (List.mem_of_getElem? (i := 316) rfl) rfl⟩
abbrev mX6_blank : am_M := (cX6_blank, yX6_blank, 2, (some .int))
set_option maxRecDepth 100000 in
theorem mv_X6_blank : am_mV mX6_blank 0 := ⟨⟨am_in (List.mem_of_getElem? (i := 325) rfl) rfl, am_in (List.mem_of_getElem? (i := 52) rfl) rfl, ⟨by decide, by decide, by decide +kernel⟩, by decide⟩, am_in (List.mem_of_getElem? (i := 323) rfl) rfl, am_in (List.mem_of_getElem? (i := 324) rfl) rfl⟩
abbrev mX6_fault : am_M := (cX6_fault, yX6_fault, 1, (some .int))
set_option maxRecDepth 100000 in
theorem mv_X6_fault : am_mV mX6_fault 0 := ⟨⟨am_in (List.mem_of_getElem? (i := 329) rfl) rfl, am_in (List.mem_of_getElem? (i := 52) rfl) rfl, ⟨by decide, by decide, by decide +kernel⟩, by decide⟩, am_in (List.mem_of_getElem? (i := 327) rfl) rfl, am_in (List.mem_of_getElem? (i := 328) rfl) rfl⟩
abbrev mX6_roads : am_M := (cX6_roads, yX6_roads, 1, (some .int))
set_option maxRecDepth 100000 in
theorem mv_X6_roads : am_mV mX6_roads 0 := ⟨⟨am_in (List.mem_of_getElem? (i := 349) rfl) rfl, am_in (List.mem_of_getElem? (i := 52) rfl) rfl, ⟨by decide, by decide, by decide +kernel⟩, by decide⟩, am_in (List.mem_of_getElem? (i := 347) rfl) rfl, am_in (List.mem_of_getElem? (i := 348) rfl) rfl⟩
abbrev mX6_road : am_M := (cX6_road, yX6_road, 4, (some .int))
set_option maxRecDepth 100000 in
theorem mv_X6_road : am_mV mX6_road 2 := ⟨⟨am_in (List.mem_of_getElem? (i := 374) rfl) rfl, am_in (List.mem_of_getElem? (i := 52) rfl) rfl, ⟨by decide, by decide, by decide +kernel⟩, by decide⟩, am_in (List.mem_of_getElem? (i := 372) rfl) rfl, am_in (List.mem_of_getElem? (i := 373) rfl) rfl⟩
abbrev mX6_as : am_M := (cX6_as, yX6_as, 3, (some .int))
set_option maxRecDepth 100000 in
theorem mv_X6_as : am_mV mX6_as 2 := ⟨⟨am_in (List.mem_of_getElem? (i := 389) rfl) rfl, am_in (List.mem_of_getElem? (i := 52) rfl) rfl, ⟨by decide, by decide, by decide +kernel⟩, by decide⟩, am_in (List.mem_of_getElem? (i := 387) rfl) rfl, am_in (List.mem_of_getElem? (i := 388) rfl) rfl⟩
abbrev mX6_worsen : am_M := (cX6_worsen, yX6_worsen, 4, (some .int))
set_option maxRecDepth 100000 in
theorem mv_X6_worsen : am_mV mX6_worsen 2 := ⟨⟨am_in (List.mem_of_getElem? (i := 397) rfl) rfl, am_in (List.mem_of_getElem? (i := 52) rfl) rfl, ⟨by decide, by decide, by decide +kernel⟩, by decide⟩, am_in (List.mem_of_getElem? (i := 395) rfl) rfl, am_in (List.mem_of_getElem? (i := 396) rfl) rfl⟩
abbrev mX6_licence : am_M := (cX6_licence, yX6_licence, 4, (some .int))
set_option maxRecDepth 100000 in
theorem mv_X6_licence : am_mV mX6_licence 2 := ⟨⟨am_in (List.mem_of_getElem? (i := 401) rfl) rfl, am_in (List.mem_of_getElem? (i := 52) rfl) rfl, ⟨by decide, by decide, by decide +kernel⟩, by decide⟩, am_in (List.mem_of_getElem? (i := 399) rfl) rfl, am_in (List.mem_of_getElem? (i := 400) rfl) rfl⟩
abbrev mX6_pilgrim : am_M := (cX6_pilgrim, yX6_pilgrim, 2, (some .int))
set_option maxRecDepth 100000 in
theorem mv_X6_pilgrim : am_mV mX6_pilgrim 0 := ⟨⟨am_in (List.mem_of_getElem? (i := 405) rfl) rfl, am_in (List.mem_of_getElem? (i := 52) rfl) rfl, ⟨by decide, by decide, by decide +kernel⟩, by decide⟩, am_in (List.mem_of_getElem? (i := 403) rfl) rfl, am_in (List.mem_of_getElem? (i := 404) rfl) rfl⟩
abbrev mX6_about : am_M := (cX6_about, yX6_about, 4, (some .int))
set_option maxRecDepth 100000 in
theorem mv_X6_about : am_mV mX6_about 2 := ⟨⟨am_in (List.mem_of_getElem? (i := 413) rfl) rfl, am_in (List.mem_of_getElem? (i := 52) rfl) rfl, ⟨by decide, by decide, by decide +kernel⟩, by decide⟩, am_in (List.mem_of_getElem? (i := 411) rfl) rfl, am_in (List.mem_of_getElem? (i := 412) rfl) rfl⟩
abbrev mX6_walk : am_M := (cX6_walk, yX6_walk, 5, (some .int))
set_option maxRecDepth 100000 in
theorem mv_X6_walk : am_mV mX6_walk 2 := ⟨⟨am_in (List.mem_of_getElem? (i := 421) rfl) rfl, am_in (List.mem_of_getElem? (i := 52) rfl) rfl, ⟨by decide, by decide, by decide +kernel⟩, by decide⟩, am_in (List.mem_of_getElem? (i := 419) rfl) rfl, am_in (List.mem_of_getElem? (i := 420) rfl) rfl⟩
abbrev mX6_together : am_M := (cX6_together, yX6_together, 8, (some .int))
set_option maxRecDepth 100000 in
theorem mv_X6_together : am_mV mX6_together 3 := ⟨⟨am_in (List.mem_of_getElem? (i := 445) rfl) rfl, am_in (List.mem_of_getElem? (i := 52) rfl) rfl, ⟨by decide, by decide, by decide +kernel⟩, by decide⟩, am_in (List.mem_of_getElem? (i := 443) rfl) rfl, am_in (List.mem_of_getElem? (i := 444) rfl) rfl⟩
abbrev mX6_rest : am_M := (cX6_rest, yX6_rest, 3, (some .int))
set_option maxRecDepth 100000 in
theorem mv_X6_rest : am_mV mX6_rest 1 := ⟨⟨am_in (List.mem_of_getElem? (i := 449) rfl) rfl, am_in (List.mem_of_getElem? (i := 52) rfl) rfl, ⟨by decide, by decide, by decide +kernel⟩, by decide⟩, am_in (List.mem_of_getElem? (i := 447) rfl) rfl, am_in (List.mem_of_getElem? (i := 448) rfl) rfl⟩
abbrev mX6_enter : am_M := (cX6_enter, yX6_enter, 3, (some .int))
set_option maxRecDepth 100000 in
theorem mv_X6_enter : am_mV mX6_enter 1 := ⟨⟨am_in (List.mem_of_getElem? (i := 460) rfl) rfl, am_in (List.mem_of_getElem? (i := 52) rfl) rfl, ⟨by decide, by decide, by decide +kernel⟩, by decide⟩, am_in (List.mem_of_getElem? (i := 458) rfl) rfl, am_in (List.mem_of_getElem? (i := 459) rfl) rfl⟩
abbrev mX6_way : am_M := (cX6_way, yX6_way, 4, (some .int))
set_option maxRecDepth 100000 in
theorem mv_X6_way : am_mV mX6_way 2 := ⟨⟨am_in (List.mem_of_getElem? (i := 468) rfl) rfl, am_in (List.mem_of_getElem? (i := 52) rfl) rfl, ⟨by decide, by decide, by decide +kernel⟩, by decide⟩, am_in (List.mem_of_getElem? (i := 466) rfl) rfl, am_in (List.mem_of_getElem? (i := 467) rfl) rfl⟩
abbrev mX6_bars : am_M := (cX6_bars, yX6_bars, 2, (some .int))
set_option maxRecDepth 100000 in
theorem mv_X6_bars : am_mV mX6_bars 1 := ⟨⟨am_in (List.mem_of_getElem? (i := 528) rfl) rfl, am_in (List.mem_of_getElem? (i := 52) rfl) rfl, ⟨by decide, by decide, by decide +kernel⟩, by decide⟩, am_in (List.mem_of_getElem? (i := 526) rfl) rfl, am_in (List.mem_of_getElem? (i := 527) rfl) rfl⟩
abbrev mX6_most : am_M := (cX6_most, yX6_most, 3, (some .int))
set_option maxRecDepth 100000 in
theorem mv_X6_most : am_mV mX6_most 2 := ⟨⟨am_in (List.mem_of_getElem? (i := 537) rfl) rfl, am_in (List.mem_of_getElem? (i := 52) rfl) rfl, ⟨by decide, by decide, by decide +kernel⟩, by decide⟩, am_in (List.mem_of_getElem? (i := 535) rfl) rfl, am_in (List.mem_of_getElem? (i := 536) rfl) rfl⟩
abbrev mX6_bridge : am_M := (cX6_bridge, yX6_bridge, 2, (some .int))
set_option maxRecDepth 100000 in
theorem mv_X6_bridge : am_mV mX6_bridge 1 := ⟨⟨am_in (List.mem_of_getElem? (i := 545) rfl) rfl, am_in (List.mem_of_getElem? (i := 52) rfl) rfl, ⟨by decide, by decide, by decide +kernel⟩, by decide⟩, am_in (List.mem_of_getElem? (i := 543) rfl) rfl, am_in (List.mem_of_getElem? (i := 544) rfl) rfl⟩
abbrev mX6_log : am_M := (cX6_log, yX6_log, 2, (some .int))
set_option maxRecDepth 100000 in
theorem mv_X6_log : am_mV mX6_log 1 := ⟨⟨am_in (List.mem_of_getElem? (i := 554) rfl) rfl, am_in (List.mem_of_getElem? (i := 52) rfl) rfl, ⟨by decide, by decide, by decide +kernel⟩, by decide⟩, am_in (List.mem_of_getElem? (i := 552) rfl) rfl, am_in (List.mem_of_getElem? (i := 553) rfl) rfl⟩
abbrev mX6_forget : am_M := (cX6_forget, yX6_forget, 2, (some .int))
set_option maxRecDepth 100000 in
theorem mv_X6_forget : am_mV mX6_forget 0 := ⟨⟨am_in (List.mem_of_getElem? (i := 558) rfl) rfl, am_in (List.mem_of_getElem? (i := 52) rfl) rfl, ⟨by decide, by decide, by decide +kernel⟩, by decide⟩, am_in (List.mem_of_getElem? (i := 556) rfl) rfl, am_in (List.mem_of_getElem? (i := 557) rfl) rfl⟩
abbrev mX6_walks : am_M := (cX6_walks, yX6_walks, 1, (some .int))
set_option maxRecDepth 100000 in
theorem mv_X6_walks : am_mV mX6_walks 0 := ⟨⟨am_in (List.mem_of_getElem? (i := 562) rfl) rfl, am_in (List.mem_of_getElem? (i := 52) rfl) rfl, ⟨by decide, by decide, by decide +kernel⟩, by decide⟩, am_in (List.mem_of_getElem? (i := 560) rfl) rfl, am_in (List.mem_of_getElem? (i := 561) rfl) rfl⟩
abbrev mX6_walksBy : am_M := (cX6_walksBy, yX6_walksBy, 2, (some .int))
set_option maxRecDepth 100000 in
theorem mv_X6_walksBy : am_mV mX6_walksBy 1 := ⟨⟨am_in (List.mem_of_getElem? (i := 604) rfl) rfl, am_in (List.mem_of_getElem? (i := 52) rfl) rfl, ⟨by decide, by decide, by decide +kernel⟩, by decide⟩, am_in (List.mem_of_getElem? (i := 602) rfl) rfl, am_in (List.mem_of_getElem? (i := 603) rfl) rfl⟩
abbrev mX6_last : am_M := (cX6_last, yX6_last, 1, (some .int))
set_option maxRecDepth 100000 in
theorem mv_X6_last : am_mV mX6_last 0 := ⟨⟨am_in (List.mem_of_getElem? (i := 608) rfl) rfl, am_in (List.mem_of_getElem? (i := 52) rfl) rfl, ⟨by decide, by decide, by decide +kernel⟩, by decide⟩, am_in (List.mem_of_getElem? (i := 606) rfl) rfl, am_in (List.mem_of_getElem? (i := 607) rfl) rfl⟩
abbrev mX6_months : am_M := (cX6_months, yX6_months, 5, (some .int))
set_option maxRecDepth 100000 in
theorem mv_X6_months : am_mV mX6_months 3 := ⟨⟨am_in (List.mem_of_getElem? (i := 612) rfl) rfl, am_in (List.mem_of_getElem? (i := 52) rfl) rfl, ⟨by decide, by decide, by decide +kernel⟩, by decide⟩, am_in (List.mem_of_getElem? (i := 610) rfl) rfl, am_in (List.mem_of_getElem? (i := 611) rfl) rfl⟩
abbrev mX6_image : am_M := (cX6_image, yX6_image, 1, (some .int))
set_option maxRecDepth 100000 in
theorem mv_X6_image : am_mV mX6_image 0 := ⟨⟨am_in (List.mem_of_getElem? (i := 661) rfl) rfl, am_in (List.mem_of_getElem? (i := 52) rfl) rfl, ⟨by decide, by decide, by decide +kernel⟩, by decide⟩, am_in (List.mem_of_getElem? (i := 659) rfl) rfl, am_in (List.mem_of_getElem? (i := 660) rfl) rfl⟩
abbrev mX6_restore : am_M := (cX6_restore, yX6_restore, 1, (some .int))
set_option maxRecDepth 100000 in
theorem mv_X6_restore : am_mV mX6_restore 0 := ⟨⟨am_in (List.mem_of_getElem? (i := 665) rfl) rfl, am_in (List.mem_of_getElem? (i := 52) rfl) rfl, ⟨by decide, by decide, by decide +kernel⟩, by decide⟩, am_in (List.mem_of_getElem? (i := 663) rfl) rfl, am_in (List.mem_of_getElem? (i := 664) rfl) rfl⟩
abbrev mX6_count : am_M := (cX6_count, yX6_count, 2, (some .int))
set_option maxRecDepth 100000 in
theorem mv_X6_count : am_mV mX6_count 1 := ⟨⟨am_in (List.mem_of_getElem? (i := 669) rfl) rfl, am_in (List.mem_of_getElem? (i := 52) rfl) rfl, ⟨by decide, by decide, by decide +kernel⟩, by decide⟩, am_in (List.mem_of_getElem? (i := 667) rfl) rfl, am_in (List.mem_of_getElem? (i := 668) rfl) rfl⟩
abbrev mX6_digest : am_M := (cX6_digest, yX6_digest, 4, (some .long))
set_option maxRecDepth 100000 in
theorem mv_X6_digest : am_mV mX6_digest 0 := ⟨⟨am_in (List.mem_of_getElem? (i := 673) rfl) rfl, am_in (List.mem_of_getElem? (i := 52) rfl) rfl, ⟨by decide, by decide, by decide +kernel⟩, by decide⟩, am_in (List.mem_of_getElem? (i := 671) rfl) rfl, am_in (List.mem_of_getElem? (i := 672) rfl) rfl⟩
abbrev mX6_digestOfRoads : am_M := (cX6_digestOfRoads, yX6_digestOfRoads, 7, (some .long))
set_option maxRecDepth 100000 in
theorem mv_X6_digestOfRoads : am_mV mX6_digestOfRoads 1 := ⟨⟨am_in (List.mem_of_getElem? (i := 678) rfl) rfl, am_in (List.mem_of_getElem? (i := 52) rfl) rfl, ⟨by decide, by decide, by decide +kernel⟩, by decide⟩, am_in (List.mem_of_getElem? (i := 677) rfl) rfl, am_in (List.mem_of_getElem? (i := 19) rfl) rfl⟩
abbrev mX6_digestOfPilgrims : am_M := (cX6_digestOfPilgrims, yX6_digestOfPilgrims, 7, (some .long))
set_option maxRecDepth 100000 in
theorem mv_X6_digestOfPilgrims : am_mV mX6_digestOfPilgrims 1 := ⟨⟨am_in (List.mem_of_getElem? (i := 684) rfl) rfl, am_in (List.mem_of_getElem? (i := 52) rfl) rfl, ⟨by decide, by decide, by decide +kernel⟩, by decide⟩, am_in (List.mem_of_getElem? (i := 683) rfl) rfl, am_in (List.mem_of_getElem? (i := 20) rfl) rfl⟩
abbrev mX6_isRoad : am_M := (cX6_isRoad, yX6_isRoad, 2, (some .boolean))
set_option maxRecDepth 100000 in
theorem mv_X6_isRoad : am_mV mX6_isRoad 1 := ⟨⟨am_in (List.mem_of_getElem? (i := 378) rfl) rfl, am_in (List.mem_of_getElem? (i := 52) rfl) rfl, ⟨by decide, by decide, by decide +kernel⟩, by decide⟩, am_in (List.mem_of_getElem? (i := 377) rfl) rfl, am_in (List.mem_of_getElem? (i := 0) rfl) rfl⟩
abbrev mX6_isPilgrim : am_M := (cX6_isPilgrim, yX6_isPilgrim, 2, (some .boolean))
set_option maxRecDepth 100000 in
theorem mv_X6_isPilgrim : am_mV mX6_isPilgrim 1 := ⟨⟨am_in (List.mem_of_getElem? (i := 417) rfl) rfl, am_in (List.mem_of_getElem? (i := 52) rfl) rfl, ⟨by decide, by decide, by decide +kernel⟩, by decide⟩, am_in (List.mem_of_getElem? (i := 416) rfl) rfl, am_in (List.mem_of_getElem? (i := 1) rfl) rfl⟩
abbrev mX6_mayForesee : am_M := (cX6_mayForesee, yX6_mayForesee, 2, (some .boolean))
set_option maxRecDepth 100000 in
theorem mv_X6_mayForesee : am_mV mX6_mayForesee 1 := ⟨⟨am_in (List.mem_of_getElem? (i := 472) rfl) rfl, am_in (List.mem_of_getElem? (i := 52) rfl) rfl, ⟨by decide, by decide, by decide +kernel⟩, by decide⟩, am_in (List.mem_of_getElem? (i := 471) rfl) rfl, am_in (List.mem_of_getElem? (i := 2) rfl) rfl⟩
abbrev mX6_asNumber : am_M := (cX6_asNumber, yX6_asNumber, 1, (some .int))
set_option maxRecDepth 100000 in
theorem mv_X6_asNumber : am_mS mX6_asNumber 1 := ⟨⟨am_in (List.mem_of_getElem? (i := 385) rfl) rfl, am_in (List.mem_of_getElem? (i := 52) rfl) rfl, ⟨by decide, by decide, by decide +kernel⟩, by decide⟩, am_in (List.mem_of_getElem? (i := 384) rfl) rfl⟩
abbrev mX7_init : am_M := (cX7_init, yX7_init, 1, none)
set_option maxRecDepth 100000 in
theorem mv_X7_init : am_mI mX7_init 0 := ⟨⟨am_in (List.mem_of_getElem? (i := 694) rfl) rfl, am_in (List.mem_of_getElem? (i := 59) rfl) rfl, ⟨by decide, by decide, by decide +kernel⟩, by decide⟩, am_in (List.mem_of_getElem? (i := 693) rfl) rfl, rfl, rfl⟩
abbrev mX7_in : am_M := (cX7_in, yX7_in, 6, (some .boolean))
set_option maxRecDepth 100000 in
theorem mv_X7_in : am_mS mX7_in 3 := ⟨⟨am_in (List.mem_of_getElem? (i := 812) rfl) rfl, am_in (List.mem_of_getElem? (i := 59) rfl) rfl, ⟨by decide, by decide, by decide +kernel⟩, by decide⟩, am_in (List.mem_of_getElem? (i := 811) rfl) rfl⟩
abbrev mX7_letter : am_M := (cX7_letter, yX7_letter, 2, (some .int))
set_option maxRecDepth 100000 in
theorem mv_X7_letter : am_mV mX7_letter 1 := ⟨⟨am_in (List.mem_of_getElem? (i := 808) rfl) rfl, am_in (List.mem_of_getElem? (i := 59) rfl) rfl, ⟨by decide, by decide, by decide +kernel⟩, by decide⟩, am_in (List.mem_of_getElem? (i := 806) rfl) rfl, am_in (List.mem_of_getElem? (i := 807) rfl) rfl⟩
abbrev mX7_blank : am_M := (cX7_blank, yX7_blank, 2, (some .int))
set_option maxRecDepth 100000 in
theorem mv_X7_blank : am_mV mX7_blank 0 := ⟨⟨am_in (List.mem_of_getElem? (i := 816) rfl) rfl, am_in (List.mem_of_getElem? (i := 59) rfl) rfl, ⟨by decide, by decide, by decide +kernel⟩, by decide⟩, am_in (List.mem_of_getElem? (i := 814) rfl) rfl, am_in (List.mem_of_getElem? (i := 815) rfl) rfl⟩
abbrev mX7_kindBy : am_M := (cX7_kindBy, yX7_kindBy, 1, (some .int))
set_option maxRecDepth 100000 in
theorem mv_X7_kindBy : am_mS mX7_kindBy 1 := ⟨⟨am_in (List.mem_of_getElem? (i := 837) rfl) rfl, am_in (List.mem_of_getElem? (i := 59) rfl) rfl, ⟨by decide, by decide, by decide +kernel⟩, by decide⟩, am_in (List.mem_of_getElem? (i := 836) rfl) rfl⟩
abbrev mX7_goRoad : am_M := (cX7_goRoad, yX7_goRoad, 4, (some .boolean))
set_option maxRecDepth 100000 in
theorem mv_X7_goRoad : am_mV mX7_goRoad 1 := ⟨⟨am_in (List.mem_of_getElem? (i := 832) rfl) rfl, am_in (List.mem_of_getElem? (i := 59) rfl) rfl, ⟨by decide, by decide, by decide +kernel⟩, by decide⟩, am_in (List.mem_of_getElem? (i := 831) rfl) rfl, am_in (List.mem_of_getElem? (i := 23) rfl) rfl⟩
abbrev mX7_go : am_M := (cX7_go, yX7_go, 3, (some .boolean))
set_option maxRecDepth 100000 in
theorem mv_X7_go : am_mV mX7_go 1 := ⟨⟨am_in (List.mem_of_getElem? (i := 828) rfl) rfl, am_in (List.mem_of_getElem? (i := 59) rfl) rfl, ⟨by decide, by decide, by decide +kernel⟩, by decide⟩, am_in (List.mem_of_getElem? (i := 827) rfl) rfl, am_in (List.mem_of_getElem? (i := 22) rfl) rfl⟩
abbrev mX7_faultOf : am_M := (cX7_faultOf, yX7_faultOf, 2, (some .int))
set_option maxRecDepth 100000 in
theorem mv_X7_faultOf : am_mV mX7_faultOf 0 := ⟨⟨am_in (List.mem_of_getElem? (i := 824) rfl) rfl, am_in (List.mem_of_getElem? (i := 59) rfl) rfl, ⟨by decide, by decide, by decide +kernel⟩, by decide⟩, am_in (List.mem_of_getElem? (i := 823) rfl) rfl, am_in (List.mem_of_getElem? (i := 21) rfl) rfl⟩
abbrev mX7_fault : am_M := (cX7_fault, yX7_fault, 1, (some .int))
set_option maxRecDepth 100000 in
theorem mv_X7_fault : am_mV mX7_fault 0 := ⟨⟨am_in (List.mem_of_getElem? (i := 820) rfl) rfl, am_in (List.mem_of_getElem? (i := 59) rfl) rfl, ⟨by decide, by decide, by decide +kernel⟩, by decide⟩, am_in (List.mem_of_getElem? (i := 818) rfl) rfl, am_in (List.mem_of_getElem? (i := 819) rfl) rfl⟩
abbrev mX7_roads : am_M := (cX7_roads, yX7_roads, 3, (some .int))
set_option maxRecDepth 100000 in
theorem mv_X7_roads : am_mV mX7_roads 0 := ⟨⟨am_in (List.mem_of_getElem? (i := 842) rfl) rfl, am_in (List.mem_of_getElem? (i := 59) rfl) rfl, ⟨by decide, by decide, by decide +kernel⟩, by decide⟩, am_in (List.mem_of_getElem? (i := 840) rfl) rfl, am_in (List.mem_of_getElem? (i := 841) rfl) rfl⟩
abbrev mX7_lacks : am_M := (cX7_lacks, yX7_lacks, 1, (some .boolean))
set_option maxRecDepth 100000 in
theorem mv_X7_lacks : am_mV mX7_lacks 0 := ⟨⟨am_in (List.mem_of_getElem? (i := 879) rfl) rfl, am_in (List.mem_of_getElem? (i := 59) rfl) rfl, ⟨by decide, by decide, by decide +kernel⟩, by decide⟩, am_in (List.mem_of_getElem? (i := 878) rfl) rfl, am_in (List.mem_of_getElem? (i := 27) rfl) rfl⟩
abbrev mX7_isRoad : am_M := (cX7_isRoad, yX7_isRoad, 2, (some .boolean))
set_option maxRecDepth 100000 in
theorem mv_X7_isRoad : am_mV mX7_isRoad 1 := ⟨⟨am_in (List.mem_of_getElem? (i := 850) rfl) rfl, am_in (List.mem_of_getElem? (i := 59) rfl) rfl, ⟨by decide, by decide, by decide +kernel⟩, by decide⟩, am_in (List.mem_of_getElem? (i := 849) rfl) rfl, am_in (List.mem_of_getElem? (i := 24) rfl) rfl⟩
abbrev mX7_worthOf : am_M := (cX7_worthOf, yX7_worthOf, 3, (some .int))
set_option maxRecDepth 100000 in
theorem mv_X7_worthOf : am_mV mX7_worthOf 1 := ⟨⟨am_in (List.mem_of_getElem? (i := 858) rfl) rfl, am_in (List.mem_of_getElem? (i := 59) rfl) rfl, ⟨by decide, by decide, by decide +kernel⟩, by decide⟩, am_in (List.mem_of_getElem? (i := 857) rfl) rfl, am_in (List.mem_of_getElem? (i := 26) rfl) rfl⟩
abbrev mX7_tellRoad : am_M := (cX7_tellRoad, yX7_tellRoad, 3, (some .int))
set_option maxRecDepth 100000 in
theorem mv_X7_tellRoad : am_mV mX7_tellRoad 2 := ⟨⟨am_in (List.mem_of_getElem? (i := 854) rfl) rfl, am_in (List.mem_of_getElem? (i := 59) rfl) rfl, ⟨by decide, by decide, by decide +kernel⟩, by decide⟩, am_in (List.mem_of_getElem? (i := 853) rfl) rfl, am_in (List.mem_of_getElem? (i := 25) rfl) rfl⟩
abbrev mX7_road : am_M := (cX7_road, yX7_road, 3, (some .int))
set_option maxRecDepth 100000 in
theorem mv_X7_road : am_mV mX7_road 2 := ⟨⟨am_in (List.mem_of_getElem? (i := 846) rfl) rfl, am_in (List.mem_of_getElem? (i := 59) rfl) rfl, ⟨by decide, by decide, by decide +kernel⟩, by decide⟩, am_in (List.mem_of_getElem? (i := 844) rfl) rfl, am_in (List.mem_of_getElem? (i := 845) rfl) rfl⟩
abbrev mX7_as : am_M := (cX7_as, yX7_as, 5, (some .int))
set_option maxRecDepth 100000 in
theorem mv_X7_as : am_mV mX7_as 2 := ⟨⟨am_in (List.mem_of_getElem? (i := 862) rfl) rfl, am_in (List.mem_of_getElem? (i := 59) rfl) rfl, ⟨by decide, by decide, by decide +kernel⟩, by decide⟩, am_in (List.mem_of_getElem? (i := 860) rfl) rfl, am_in (List.mem_of_getElem? (i := 861) rfl) rfl⟩
abbrev mX7_worsen : am_M := (cX7_worsen, yX7_worsen, 4, (some .int))
set_option maxRecDepth 100000 in
theorem mv_X7_worsen : am_mV mX7_worsen 2 := ⟨⟨am_in (List.mem_of_getElem? (i := 867) rfl) rfl, am_in (List.mem_of_getElem? (i := 59) rfl) rfl, ⟨by decide, by decide, by decide +kernel⟩, by decide⟩, am_in (List.mem_of_getElem? (i := 865) rfl) rfl, am_in (List.mem_of_getElem? (i := 866) rfl) rfl⟩
abbrev mX7_licence : am_M := (cX7_licence, yX7_licence, 4, (some .int))
set_option maxRecDepth 100000 in
theorem mv_X7_licence : am_mV mX7_licence 2 := ⟨⟨am_in (List.mem_of_getElem? (i := 871) rfl) rfl, am_in (List.mem_of_getElem? (i := 59) rfl) rfl, ⟨by decide, by decide, by decide +kernel⟩, by decide⟩, am_in (List.mem_of_getElem? (i := 869) rfl) rfl, am_in (List.mem_of_getElem? (i := 870) rfl) rfl⟩
abbrev mX7_isPilgrim : am_M := (cX7_isPilgrim, yX7_isPilgrim, 2, (some .boolean))
set_option maxRecDepth 100000 in
theorem mv_X7_isPilgrim : am_mV mX7_isPilgrim 1 := ⟨⟨am_in (List.mem_of_getElem? (i := 887) rfl) rfl, am_in (List.mem_of_getElem? (i := 59) rfl) rfl, ⟨by decide, by decide, by decide +kernel⟩, by decide⟩, am_in (List.mem_of_getElem? (i := 886) rfl) rfl, am_in (List.mem_of_getElem? (i := 28) rfl) rfl⟩
abbrev mX7_pilgrim : am_M := (cX7_pilgrim, yX7_pilgrim, 2, (some .int))
set_option maxRecDepth 100000 in
theorem mv_X7_pilgrim : am_mV mX7_pilgrim 0 := ⟨⟨am_in (List.mem_of_getElem? (i := 875) rfl) rfl, am_in (List.mem_of_getElem? (i := 59) rfl) rfl, ⟨by decide, by decide, by decide +kernel⟩, by decide⟩, am_in (List.mem_of_getElem? (i := 873) rfl) rfl, am_in (List.mem_of_getElem? (i := 874) rfl) rfl⟩
abbrev mX7_tell : am_M := (cX7_tell, yX7_tell, 3, (some .int))
set_option maxRecDepth 100000 in
theorem mv_X7_tell : am_mV mX7_tell 2 := ⟨⟨am_in (List.mem_of_getElem? (i := 891) rfl) rfl, am_in (List.mem_of_getElem? (i := 59) rfl) rfl, ⟨by decide, by decide, by decide +kernel⟩, by decide⟩, am_in (List.mem_of_getElem? (i := 890) rfl) rfl, am_in (List.mem_of_getElem? (i := 29) rfl) rfl⟩
abbrev mX7_about : am_M := (cX7_about, yX7_about, 3, (some .int))
set_option maxRecDepth 100000 in
theorem mv_X7_about : am_mV mX7_about 2 := ⟨⟨am_in (List.mem_of_getElem? (i := 883) rfl) rfl, am_in (List.mem_of_getElem? (i := 59) rfl) rfl, ⟨by decide, by decide, by decide +kernel⟩, by decide⟩, am_in (List.mem_of_getElem? (i := 881) rfl) rfl, am_in (List.mem_of_getElem? (i := 882) rfl) rfl⟩
abbrev mX7_isIn : am_M := (cX7_isIn, yX7_isIn, 2, (some .boolean))
set_option maxRecDepth 100000 in
theorem mv_X7_isIn : am_mV mX7_isIn 1 := ⟨⟨am_in (List.mem_of_getElem? (i := 905) rfl) rfl, am_in (List.mem_of_getElem? (i := 59) rfl) rfl, ⟨by decide, by decide, by decide +kernel⟩, by decide⟩, am_in (List.mem_of_getElem? (i := 904) rfl) rfl, am_in (List.mem_of_getElem? (i := 31) rfl) rfl⟩
abbrev mX7_otherEnd : am_M := (cX7_otherEnd, yX7_otherEnd, 5, (some .int))
set_option maxRecDepth 100000 in
theorem mv_X7_otherEnd : am_mV mX7_otherEnd 2 := ⟨⟨am_in (List.mem_of_getElem? (i := 909) rfl) rfl, am_in (List.mem_of_getElem? (i := 59) rfl) rfl, ⟨by decide, by decide, by decide +kernel⟩, by decide⟩, am_in (List.mem_of_getElem? (i := 908) rfl) rfl, am_in (List.mem_of_getElem? (i := 32) rfl) rfl⟩
abbrev mX7_mayWalk : am_M := (cX7_mayWalk, yX7_mayWalk, 4, (some .boolean))
set_option maxRecDepth 100000 in
theorem mv_X7_mayWalk : am_mV mX7_mayWalk 3 := ⟨⟨am_in (List.mem_of_getElem? (i := 901) rfl) rfl, am_in (List.mem_of_getElem? (i := 59) rfl) rfl, ⟨by decide, by decide, by decide +kernel⟩, by decide⟩, am_in (List.mem_of_getElem? (i := 900) rfl) rfl, am_in (List.mem_of_getElem? (i := 30) rfl) rfl⟩
abbrev mX7_goes : am_M := (cX7_goes, yX7_goes, 6, none)
set_option maxRecDepth 100000 in
theorem mv_X7_goes : am_mV mX7_goes 4 := ⟨⟨am_in (List.mem_of_getElem? (i := 913) rfl) rfl, am_in (List.mem_of_getElem? (i := 59) rfl) rfl, ⟨by decide, by decide, by decide +kernel⟩, by decide⟩, am_in (List.mem_of_getElem? (i := 912) rfl) rfl, am_in (List.mem_of_getElem? (i := 33) rfl) rfl⟩
abbrev mX7_walk : am_M := (cX7_walk, yX7_walk, 3, (some .int))
set_option maxRecDepth 100000 in
theorem mv_X7_walk : am_mV mX7_walk 2 := ⟨⟨am_in (List.mem_of_getElem? (i := 897) rfl) rfl, am_in (List.mem_of_getElem? (i := 59) rfl) rfl, ⟨by decide, by decide, by decide +kernel⟩, by decide⟩, am_in (List.mem_of_getElem? (i := 895) rfl) rfl, am_in (List.mem_of_getElem? (i := 896) rfl) rfl⟩
abbrev mX7_together : am_M := (cX7_together, yX7_together, 5, (some .int))
set_option maxRecDepth 100000 in
theorem mv_X7_together : am_mV mX7_together 3 := ⟨⟨am_in (List.mem_of_getElem? (i := 917) rfl) rfl, am_in (List.mem_of_getElem? (i := 59) rfl) rfl, ⟨by decide, by decide, by decide +kernel⟩, by decide⟩, am_in (List.mem_of_getElem? (i := 915) rfl) rfl, am_in (List.mem_of_getElem? (i := 916) rfl) rfl⟩
abbrev mX7_rests : am_M := (cX7_rests, yX7_rests, 2, none)
set_option maxRecDepth 100000 in
theorem mv_X7_rests : am_mV mX7_rests 1 := ⟨⟨am_in (List.mem_of_getElem? (i := 925) rfl) rfl, am_in (List.mem_of_getElem? (i := 59) rfl) rfl, ⟨by decide, by decide, by decide +kernel⟩, by decide⟩, am_in (List.mem_of_getElem? (i := 924) rfl) rfl, am_in (List.mem_of_getElem? (i := 34) rfl) rfl⟩
abbrev mX7_rest : am_M := (cX7_rest, yX7_rest, 2, (some .int))
set_option maxRecDepth 100000 in
theorem mv_X7_rest : am_mV mX7_rest 1 := ⟨⟨am_in (List.mem_of_getElem? (i := 921) rfl) rfl, am_in (List.mem_of_getElem? (i := 59) rfl) rfl, ⟨by decide, by decide, by decide +kernel⟩, by decide⟩, am_in (List.mem_of_getElem? (i := 919) rfl) rfl, am_in (List.mem_of_getElem? (i := 920) rfl) rfl⟩
abbrev mX7_asks : am_M := (cX7_asks, yX7_asks, 2, none)
set_option maxRecDepth 100000 in
theorem mv_X7_asks : am_mV mX7_asks 1 := ⟨⟨am_in (List.mem_of_getElem? (i := 933) rfl) rfl, am_in (List.mem_of_getElem? (i := 59) rfl) rfl, ⟨by decide, by decide, by decide +kernel⟩, by decide⟩, am_in (List.mem_of_getElem? (i := 932) rfl) rfl, am_in (List.mem_of_getElem? (i := 35) rfl) rfl⟩
abbrev mX7_enter : am_M := (cX7_enter, yX7_enter, 2, (some .int))
set_option maxRecDepth 100000 in
theorem mv_X7_enter : am_mV mX7_enter 1 := ⟨⟨am_in (List.mem_of_getElem? (i := 929) rfl) rfl, am_in (List.mem_of_getElem? (i := 59) rfl) rfl, ⟨by decide, by decide, by decide +kernel⟩, by decide⟩, am_in (List.mem_of_getElem? (i := 927) rfl) rfl, am_in (List.mem_of_getElem? (i := 928) rfl) rfl⟩
abbrev mX7_isFresh : am_M := (cX7_isFresh, yX7_isFresh, 3, (some .boolean))
set_option maxRecDepth 100000 in
theorem mv_X7_isFresh : am_mV mX7_isFresh 2 := ⟨⟨am_in (List.mem_of_getElem? (i := 958) rfl) rfl, am_in (List.mem_of_getElem? (i := 59) rfl) rfl, ⟨by decide, by decide, by decide +kernel⟩, by decide⟩, am_in (List.mem_of_getElem? (i := 957) rfl) rfl, am_in (List.mem_of_getElem? (i := 40) rfl) rfl⟩
abbrev mX7_relax : am_M := (cX7_relax, yX7_relax, 6, none)
set_option maxRecDepth 100000 in
theorem mv_X7_relax : am_mV mX7_relax 4 := ⟨⟨am_in (List.mem_of_getElem? (i := 954) rfl) rfl, am_in (List.mem_of_getElem? (i := 59) rfl) rfl, ⟨by decide, by decide, by decide +kernel⟩, by decide⟩, am_in (List.mem_of_getElem? (i := 953) rfl) rfl, am_in (List.mem_of_getElem? (i := 39) rfl) rfl⟩
abbrev mX7_layWays : am_M := (cX7_layWays, yX7_layWays, 10, none)
set_option maxRecDepth 100000 in
theorem mv_X7_layWays : am_mV mX7_layWays 2 := ⟨⟨am_in (List.mem_of_getElem? (i := 950) rfl) rfl, am_in (List.mem_of_getElem? (i := 59) rfl) rfl, ⟨by decide, by decide, by decide +kernel⟩, by decide⟩, am_in (List.mem_of_getElem? (i := 949) rfl) rfl, am_in (List.mem_of_getElem? (i := 38) rfl) rfl⟩
abbrev mX7_countedBy : am_M := (cX7_countedBy, yX7_countedBy, 5, (some .int))
set_option maxRecDepth 100000 in
theorem mv_X7_countedBy : am_mV mX7_countedBy 2 := ⟨⟨am_in (List.mem_of_getElem? (i := 966) rfl) rfl, am_in (List.mem_of_getElem? (i := 59) rfl) rfl, ⟨by decide, by decide, by decide +kernel⟩, by decide⟩, am_in (List.mem_of_getElem? (i := 965) rfl) rfl, am_in (List.mem_of_getElem? (i := 42) rfl) rfl⟩
abbrev mX7_bestAt : am_M := (cX7_bestAt, yX7_bestAt, 6, (some .int))
set_option maxRecDepth 100000 in
theorem mv_X7_bestAt : am_mV mX7_bestAt 1 := ⟨⟨am_in (List.mem_of_getElem? (i := 962) rfl) rfl, am_in (List.mem_of_getElem? (i := 59) rfl) rfl, ⟨by decide, by decide, by decide +kernel⟩, by decide⟩, am_in (List.mem_of_getElem? (i := 961) rfl) rfl, am_in (List.mem_of_getElem? (i := 41) rfl) rfl⟩
abbrev mX7_isDone : am_M := (cX7_isDone, yX7_isDone, 2, (some .boolean))
set_option maxRecDepth 100000 in
theorem mv_X7_isDone : am_mV mX7_isDone 1 := ⟨⟨am_in (List.mem_of_getElem? (i := 942) rfl) rfl, am_in (List.mem_of_getElem? (i := 59) rfl) rfl, ⟨by decide, by decide, by decide +kernel⟩, by decide⟩, am_in (List.mem_of_getElem? (i := 941) rfl) rfl, am_in (List.mem_of_getElem? (i := 36) rfl) rfl⟩
abbrev mX7_wayBy : am_M := (cX7_wayBy, yX7_wayBy, 3, (some .int))
set_option maxRecDepth 100000 in
theorem mv_X7_wayBy : am_mV mX7_wayBy 2 := ⟨⟨am_in (List.mem_of_getElem? (i := 946) rfl) rfl, am_in (List.mem_of_getElem? (i := 59) rfl) rfl, ⟨by decide, by decide, by decide +kernel⟩, by decide⟩, am_in (List.mem_of_getElem? (i := 945) rfl) rfl, am_in (List.mem_of_getElem? (i := 37) rfl) rfl⟩
abbrev mX7_way : am_M := (cX7_way, yX7_way, 4, (some .int))
set_option maxRecDepth 100000 in
theorem mv_X7_way : am_mV mX7_way 2 := ⟨⟨am_in (List.mem_of_getElem? (i := 937) rfl) rfl, am_in (List.mem_of_getElem? (i := 59) rfl) rfl, ⟨by decide, by decide, by decide +kernel⟩, by decide⟩, am_in (List.mem_of_getElem? (i := 935) rfl) rfl, am_in (List.mem_of_getElem? (i := 936) rfl) rfl⟩
abbrev mX7_bars : am_M := (cX7_bars, yX7_bars, 3, (some .int))
set_option maxRecDepth 100000 in
theorem mv_X7_bars : am_mV mX7_bars 1 := ⟨⟨am_in (List.mem_of_getElem? (i := 970) rfl) rfl, am_in (List.mem_of_getElem? (i := 59) rfl) rfl, ⟨by decide, by decide, by decide +kernel⟩, by decide⟩, am_in (List.mem_of_getElem? (i := 968) rfl) rfl, am_in (List.mem_of_getElem? (i := 969) rfl) rfl⟩
abbrev mX7_most : am_M := (cX7_most, yX7_most, 7, (some .int))
set_option maxRecDepth 100000 in
theorem mv_X7_most : am_mV mX7_most 2 := ⟨⟨am_in (List.mem_of_getElem? (i := 974) rfl) rfl, am_in (List.mem_of_getElem? (i := 59) rfl) rfl, ⟨by decide, by decide, by decide +kernel⟩, by decide⟩, am_in (List.mem_of_getElem? (i := 972) rfl) rfl, am_in (List.mem_of_getElem? (i := 973) rfl) rfl⟩
abbrev mX7_bridge : am_M := (cX7_bridge, yX7_bridge, 8, (some .int))
set_option maxRecDepth 100000 in
theorem mv_X7_bridge : am_mV mX7_bridge 1 := ⟨⟨am_in (List.mem_of_getElem? (i := 978) rfl) rfl, am_in (List.mem_of_getElem? (i := 59) rfl) rfl, ⟨by decide, by decide, by decide +kernel⟩, by decide⟩, am_in (List.mem_of_getElem? (i := 976) rfl) rfl, am_in (List.mem_of_getElem? (i := 977) rfl) rfl⟩
abbrev mX7_log : am_M := (cX7_log, yX7_log, 2, (some .int))
set_option maxRecDepth 100000 in
theorem mv_X7_log : am_mV mX7_log 1 := ⟨⟨am_in (List.mem_of_getElem? (i := 982) rfl) rfl, am_in (List.mem_of_getElem? (i := 59) rfl) rfl, ⟨by decide, by decide, by decide +kernel⟩, by decide⟩, am_in (List.mem_of_getElem? (i := 980) rfl) rfl, am_in (List.mem_of_getElem? (i := 981) rfl) rfl⟩
abbrev mX7_forget : am_M := (cX7_forget, yX7_forget, 2, (some .int))
set_option maxRecDepth 100000 in
theorem mv_X7_forget : am_mV mX7_forget 0 := ⟨⟨am_in (List.mem_of_getElem? (i := 986) rfl) rfl, am_in (List.mem_of_getElem? (i := 59) rfl) rfl, ⟨by decide, by decide, by decide +kernel⟩, by decide⟩, am_in (List.mem_of_getElem? (i := 984) rfl) rfl, am_in (List.mem_of_getElem? (i := 985) rfl) rfl⟩
abbrev mX7_passLog : am_M := (cX7_passLog, yX7_passLog, 8, none)
set_option maxRecDepth 100000 in
theorem mv_X7_passLog : am_mV mX7_passLog 1 := ⟨⟨am_in (List.mem_of_getElem? (i := 1002) rfl) rfl, am_in (List.mem_of_getElem? (i := 59) rfl) rfl, ⟨by decide, by decide, by decide +kernel⟩, by decide⟩, am_in (List.mem_of_getElem? (i := 1001) rfl) rfl, am_in (List.mem_of_getElem? (i := 45) rfl) rfl⟩
abbrev mX7_layLog : am_M := (cX7_layLog, yX7_layLog, 2, none)
set_option maxRecDepth 100000 in
theorem mv_X7_layLog : am_mV mX7_layLog 0 := ⟨⟨am_in (List.mem_of_getElem? (i := 998) rfl) rfl, am_in (List.mem_of_getElem? (i := 59) rfl) rfl, ⟨by decide, by decide, by decide +kernel⟩, by decide⟩, am_in (List.mem_of_getElem? (i := 997) rfl) rfl, am_in (List.mem_of_getElem? (i := 44) rfl) rfl⟩
abbrev mX7_rowsBy : am_M := (cX7_rowsBy, yX7_rowsBy, 6, (some .int))
set_option maxRecDepth 100000 in
theorem mv_X7_rowsBy : am_mV mX7_rowsBy 1 := ⟨⟨am_in (List.mem_of_getElem? (i := 994) rfl) rfl, am_in (List.mem_of_getElem? (i := 59) rfl) rfl, ⟨by decide, by decide, by decide +kernel⟩, by decide⟩, am_in (List.mem_of_getElem? (i := 993) rfl) rfl, am_in (List.mem_of_getElem? (i := 43) rfl) rfl⟩
abbrev mX7_walks : am_M := (cX7_walks, yX7_walks, 1, (some .int))
set_option maxRecDepth 100000 in
theorem mv_X7_walks : am_mV mX7_walks 0 := ⟨⟨am_in (List.mem_of_getElem? (i := 990) rfl) rfl, am_in (List.mem_of_getElem? (i := 59) rfl) rfl, ⟨by decide, by decide, by decide +kernel⟩, by decide⟩, am_in (List.mem_of_getElem? (i := 988) rfl) rfl, am_in (List.mem_of_getElem? (i := 989) rfl) rfl⟩
abbrev mX7_walksBy : am_M := (cX7_walksBy, yX7_walksBy, 2, (some .int))
set_option maxRecDepth 100000 in
theorem mv_X7_walksBy : am_mV mX7_walksBy 1 := ⟨⟨am_in (List.mem_of_getElem? (i := 1006) rfl) rfl, am_in (List.mem_of_getElem? (i := 59) rfl) rfl, ⟨by decide, by decide, by decide +kernel⟩, by decide⟩, am_in (List.mem_of_getElem? (i := 1004) rfl) rfl, am_in (List.mem_of_getElem? (i := 1005) rfl) rfl⟩
abbrev mX7_lastOf : am_M := (cX7_lastOf, yX7_lastOf, 3, (some .int))
set_option maxRecDepth 100000 in
theorem mv_X7_lastOf : am_mV mX7_lastOf 0 := ⟨⟨am_in (List.mem_of_getElem? (i := 1014) rfl) rfl, am_in (List.mem_of_getElem? (i := 59) rfl) rfl, ⟨by decide, by decide, by decide +kernel⟩, by decide⟩, am_in (List.mem_of_getElem? (i := 1013) rfl) rfl, am_in (List.mem_of_getElem? (i := 46) rfl) rfl⟩
abbrev mX7_last : am_M := (cX7_last, yX7_last, 1, (some .int))
set_option maxRecDepth 100000 in
theorem mv_X7_last : am_mV mX7_last 0 := ⟨⟨am_in (List.mem_of_getElem? (i := 1010) rfl) rfl, am_in (List.mem_of_getElem? (i := 59) rfl) rfl, ⟨by decide, by decide, by decide +kernel⟩, by decide⟩, am_in (List.mem_of_getElem? (i := 1008) rfl) rfl, am_in (List.mem_of_getElem? (i := 1009) rfl) rfl⟩
abbrev mX7_draw : am_M := (cX7_draw, yX7_draw, 2, (some .int))
set_option maxRecDepth 100000 in
theorem mv_X7_draw : am_mV mX7_draw 1 := ⟨⟨am_in (List.mem_of_getElem? (i := 1026) rfl) rfl, am_in (List.mem_of_getElem? (i := 59) rfl) rfl, ⟨by decide, by decide, by decide +kernel⟩, by decide⟩, am_in (List.mem_of_getElem? (i := 1025) rfl) rfl, am_in (List.mem_of_getElem? (i := 47) rfl) rfl⟩
abbrev mX7_copy : am_M := (cX7_copy, yX7_copy, 3, none)
set_option maxRecDepth 100000 in
theorem mv_X7_copy : am_mS mX7_copy 2 := ⟨⟨am_in (List.mem_of_getElem? (i := 1022) rfl) rfl, am_in (List.mem_of_getElem? (i := 59) rfl) rfl, ⟨by decide, by decide, by decide +kernel⟩, by decide⟩, am_in (List.mem_of_getElem? (i := 1021) rfl) rfl⟩
abbrev mX7_sumOf : am_M := (cX7_sumOf, yX7_sumOf, 4, (some .int))
set_option maxRecDepth 100000 in
theorem mv_X7_sumOf : am_mV mX7_sumOf 1 := ⟨⟨am_in (List.mem_of_getElem? (i := 1034) rfl) rfl, am_in (List.mem_of_getElem? (i := 59) rfl) rfl, ⟨by decide, by decide, by decide +kernel⟩, by decide⟩, am_in (List.mem_of_getElem? (i := 1033) rfl) rfl, am_in (List.mem_of_getElem? (i := 48) rfl) rfl⟩
abbrev mX7_months : am_M := (cX7_months, yX7_months, 7, (some .int))
set_option maxRecDepth 100000 in
theorem mv_X7_months : am_mV mX7_months 3 := ⟨⟨am_in (List.mem_of_getElem? (i := 1018) rfl) rfl, am_in (List.mem_of_getElem? (i := 59) rfl) rfl, ⟨by decide, by decide, by decide +kernel⟩, by decide⟩, am_in (List.mem_of_getElem? (i := 1016) rfl) rfl, am_in (List.mem_of_getElem? (i := 1017) rfl) rfl⟩
abbrev mX7_image : am_M := (cX7_image, yX7_image, 1, (some .int))
set_option maxRecDepth 100000 in
theorem mv_X7_image : am_mV mX7_image 0 := ⟨⟨am_in (List.mem_of_getElem? (i := 1038) rfl) rfl, am_in (List.mem_of_getElem? (i := 59) rfl) rfl, ⟨by decide, by decide, by decide +kernel⟩, by decide⟩, am_in (List.mem_of_getElem? (i := 1036) rfl) rfl, am_in (List.mem_of_getElem? (i := 1037) rfl) rfl⟩
abbrev mX7_restore : am_M := (cX7_restore, yX7_restore, 1, (some .int))
set_option maxRecDepth 100000 in
theorem mv_X7_restore : am_mV mX7_restore 0 := ⟨⟨am_in (List.mem_of_getElem? (i := 1042) rfl) rfl, am_in (List.mem_of_getElem? (i := 59) rfl) rfl, ⟨by decide, by decide, by decide +kernel⟩, by decide⟩, am_in (List.mem_of_getElem? (i := 1040) rfl) rfl, am_in (List.mem_of_getElem? (i := 1041) rfl) rfl⟩
abbrev mX7_countOf : am_M := (cX7_countOf, yX7_countOf, 2, (some .int))
set_option maxRecDepth 100000 in
theorem mv_X7_countOf : am_mV mX7_countOf 1 := ⟨⟨am_in (List.mem_of_getElem? (i := 1050) rfl) rfl, am_in (List.mem_of_getElem? (i := 59) rfl) rfl, ⟨by decide, by decide, by decide +kernel⟩, by decide⟩, am_in (List.mem_of_getElem? (i := 1049) rfl) rfl, am_in (List.mem_of_getElem? (i := 49) rfl) rfl⟩
abbrev mX7_count : am_M := (cX7_count, yX7_count, 2, (some .int))
set_option maxRecDepth 100000 in
theorem mv_X7_count : am_mV mX7_count 1 := ⟨⟨am_in (List.mem_of_getElem? (i := 1046) rfl) rfl, am_in (List.mem_of_getElem? (i := 59) rfl) rfl, ⟨by decide, by decide, by decide +kernel⟩, by decide⟩, am_in (List.mem_of_getElem? (i := 1044) rfl) rfl, am_in (List.mem_of_getElem? (i := 1045) rfl) rfl⟩
abbrev mX7_say : am_M := (cX7_say, yX7_say, 3, none)
set_option maxRecDepth 100000 in
theorem mv_X7_say : am_mV mX7_say 1 := ⟨⟨am_in (List.mem_of_getElem? (i := 1059) rfl) rfl, am_in (List.mem_of_getElem? (i := 59) rfl) rfl, ⟨by decide, by decide, by decide +kernel⟩, by decide⟩, am_in (List.mem_of_getElem? (i := 1058) rfl) rfl, am_in (List.mem_of_getElem? (i := 50) rfl) rfl⟩
abbrev mX7_digest : am_M := (cX7_digest, yX7_digest, 3, (some .long))
set_option maxRecDepth 100000 in
theorem mv_X7_digest : am_mV mX7_digest 0 := ⟨⟨am_in (List.mem_of_getElem? (i := 1054) rfl) rfl, am_in (List.mem_of_getElem? (i := 59) rfl) rfl, ⟨by decide, by decide, by decide +kernel⟩, by decide⟩, am_in (List.mem_of_getElem? (i := 1052) rfl) rfl, am_in (List.mem_of_getElem? (i := 1053) rfl) rfl⟩
abbrev mL_law : am_M := (cL_law, yL_law, 4, (some .boolean))
set_option maxRecDepth 100000 in
theorem ml_L_9 : Cond.methodLink RL 9 yX6_init ∈ am_T := am_in (List.mem_of_getElem? (i := 63) rfl) rfl
set_option maxRecDepth 100000 in
theorem ml_L_12 : Cond.methodLink RL 12 yX7_init ∈ am_T := am_in (List.mem_of_getElem? (i := 692) rfl) rfl
set_option maxRecDepth 100000 in
theorem ml_L_13 : Cond.methodLink RL 13 yX6_letter ∈ am_T := am_in (List.mem_of_getElem? (i := 314) rfl) rfl
set_option maxRecDepth 100000 in
theorem ml_L_17 : Cond.methodLink RL 17 yX7_letter ∈ am_T := am_in (List.mem_of_getElem? (i := 805) rfl) rfl
set_option maxRecDepth 100000 in
theorem ml_L_18 : Cond.methodLink RL 18 yX6_blank ∈ am_T := am_in (List.mem_of_getElem? (i := 322) rfl) rfl
set_option maxRecDepth 100000 in
theorem ml_L_22 : Cond.methodLink RL 22 yX7_blank ∈ am_T := am_in (List.mem_of_getElem? (i := 813) rfl) rfl
set_option maxRecDepth 100000 in
theorem ml_L_23 : Cond.methodLink RL 23 yX6_fault ∈ am_T := am_in (List.mem_of_getElem? (i := 326) rfl) rfl
set_option maxRecDepth 100000 in
theorem ml_L_26 : Cond.methodLink RL 26 yX7_fault ∈ am_T := am_in (List.mem_of_getElem? (i := 817) rfl) rfl
set_option maxRecDepth 100000 in
theorem ml_L_27 : Cond.methodLink RL 27 yX6_roads ∈ am_T := am_in (List.mem_of_getElem? (i := 346) rfl) rfl
set_option maxRecDepth 100000 in
theorem ml_L_30 : Cond.methodLink RL 30 yX7_roads ∈ am_T := am_in (List.mem_of_getElem? (i := 839) rfl) rfl
set_option maxRecDepth 100000 in
theorem ml_L_31 : Cond.methodLink RL 31 yX6_road ∈ am_T := am_in (List.mem_of_getElem? (i := 371) rfl) rfl
set_option maxRecDepth 100000 in
theorem ml_L_35 : Cond.methodLink RL 35 yX7_road ∈ am_T := am_in (List.mem_of_getElem? (i := 843) rfl) rfl
set_option maxRecDepth 100000 in
theorem ml_L_36 : Cond.methodLink RL 36 yX6_as ∈ am_T := am_in (List.mem_of_getElem? (i := 386) rfl) rfl
set_option maxRecDepth 100000 in
theorem ml_L_39 : Cond.methodLink RL 39 yX7_as ∈ am_T := am_in (List.mem_of_getElem? (i := 859) rfl) rfl
set_option maxRecDepth 100000 in
theorem ml_L_40 : Cond.methodLink RL 40 yX6_worsen ∈ am_T := am_in (List.mem_of_getElem? (i := 394) rfl) rfl
set_option maxRecDepth 100000 in
theorem ml_L_43 : Cond.methodLink RL 43 yX7_worsen ∈ am_T := am_in (List.mem_of_getElem? (i := 864) rfl) rfl
set_option maxRecDepth 100000 in
theorem ml_L_44 : Cond.methodLink RL 44 yX6_licence ∈ am_T := am_in (List.mem_of_getElem? (i := 398) rfl) rfl
set_option maxRecDepth 100000 in
theorem ml_L_48 : Cond.methodLink RL 48 yX7_licence ∈ am_T := am_in (List.mem_of_getElem? (i := 868) rfl) rfl
set_option maxRecDepth 100000 in
theorem ml_L_49 : Cond.methodLink RL 49 yX6_pilgrim ∈ am_T := am_in (List.mem_of_getElem? (i := 402) rfl) rfl
set_option maxRecDepth 100000 in
theorem ml_L_52 : Cond.methodLink RL 52 yX7_pilgrim ∈ am_T := am_in (List.mem_of_getElem? (i := 872) rfl) rfl
set_option maxRecDepth 100000 in
theorem ml_L_53 : Cond.methodLink RL 53 yX6_about ∈ am_T := am_in (List.mem_of_getElem? (i := 410) rfl) rfl
set_option maxRecDepth 100000 in
theorem ml_L_56 : Cond.methodLink RL 56 yX7_about ∈ am_T := am_in (List.mem_of_getElem? (i := 880) rfl) rfl
set_option maxRecDepth 100000 in
theorem ml_L_57 : Cond.methodLink RL 57 yX6_walk ∈ am_T := am_in (List.mem_of_getElem? (i := 418) rfl) rfl
set_option maxRecDepth 100000 in
theorem ml_L_60 : Cond.methodLink RL 60 yX7_walk ∈ am_T := am_in (List.mem_of_getElem? (i := 894) rfl) rfl
set_option maxRecDepth 100000 in
theorem ml_L_61 : Cond.methodLink RL 61 yX6_together ∈ am_T := am_in (List.mem_of_getElem? (i := 442) rfl) rfl
set_option maxRecDepth 100000 in
theorem ml_L_65 : Cond.methodLink RL 65 yX7_together ∈ am_T := am_in (List.mem_of_getElem? (i := 914) rfl) rfl
set_option maxRecDepth 100000 in
theorem ml_L_66 : Cond.methodLink RL 66 yX6_rest ∈ am_T := am_in (List.mem_of_getElem? (i := 446) rfl) rfl
set_option maxRecDepth 100000 in
theorem ml_L_69 : Cond.methodLink RL 69 yX7_rest ∈ am_T := am_in (List.mem_of_getElem? (i := 918) rfl) rfl
set_option maxRecDepth 100000 in
theorem ml_L_70 : Cond.methodLink RL 70 yX6_enter ∈ am_T := am_in (List.mem_of_getElem? (i := 457) rfl) rfl
set_option maxRecDepth 100000 in
theorem ml_L_73 : Cond.methodLink RL 73 yX7_enter ∈ am_T := am_in (List.mem_of_getElem? (i := 926) rfl) rfl
set_option maxRecDepth 100000 in
theorem ml_L_74 : Cond.methodLink RL 74 yX6_way ∈ am_T := am_in (List.mem_of_getElem? (i := 465) rfl) rfl
set_option maxRecDepth 100000 in
theorem ml_L_77 : Cond.methodLink RL 77 yX7_way ∈ am_T := am_in (List.mem_of_getElem? (i := 934) rfl) rfl
set_option maxRecDepth 100000 in
theorem ml_L_78 : Cond.methodLink RL 78 yX6_bars ∈ am_T := am_in (List.mem_of_getElem? (i := 525) rfl) rfl
set_option maxRecDepth 100000 in
theorem ml_L_81 : Cond.methodLink RL 81 yX7_bars ∈ am_T := am_in (List.mem_of_getElem? (i := 967) rfl) rfl
set_option maxRecDepth 100000 in
theorem ml_L_82 : Cond.methodLink RL 82 yX6_most ∈ am_T := am_in (List.mem_of_getElem? (i := 534) rfl) rfl
set_option maxRecDepth 100000 in
theorem ml_L_85 : Cond.methodLink RL 85 yX7_most ∈ am_T := am_in (List.mem_of_getElem? (i := 971) rfl) rfl
set_option maxRecDepth 100000 in
theorem ml_L_86 : Cond.methodLink RL 86 yX6_bridge ∈ am_T := am_in (List.mem_of_getElem? (i := 542) rfl) rfl
set_option maxRecDepth 100000 in
theorem ml_L_89 : Cond.methodLink RL 89 yX7_bridge ∈ am_T := am_in (List.mem_of_getElem? (i := 975) rfl) rfl
set_option maxRecDepth 100000 in
theorem ml_L_90 : Cond.methodLink RL 90 yX6_log ∈ am_T := am_in (List.mem_of_getElem? (i := 551) rfl) rfl
set_option maxRecDepth 100000 in
theorem ml_L_93 : Cond.methodLink RL 93 yX7_log ∈ am_T := am_in (List.mem_of_getElem? (i := 979) rfl) rfl
set_option maxRecDepth 100000 in
theorem ml_L_94 : Cond.methodLink RL 94 yX6_forget ∈ am_T := am_in (List.mem_of_getElem? (i := 555) rfl) rfl
set_option maxRecDepth 100000 in
theorem ml_L_97 : Cond.methodLink RL 97 yX7_forget ∈ am_T := am_in (List.mem_of_getElem? (i := 983) rfl) rfl
set_option maxRecDepth 100000 in
theorem ml_L_98 : Cond.methodLink RL 98 yX6_walks ∈ am_T := am_in (List.mem_of_getElem? (i := 559) rfl) rfl
set_option maxRecDepth 100000 in
theorem ml_L_101 : Cond.methodLink RL 101 yX7_walks ∈ am_T := am_in (List.mem_of_getElem? (i := 987) rfl) rfl
set_option maxRecDepth 100000 in
theorem ml_L_102 : Cond.methodLink RL 102 yX6_walksBy ∈ am_T := am_in (List.mem_of_getElem? (i := 601) rfl) rfl
set_option maxRecDepth 100000 in
theorem ml_L_105 : Cond.methodLink RL 105 yX7_walksBy ∈ am_T := am_in (List.mem_of_getElem? (i := 1003) rfl) rfl
set_option maxRecDepth 100000 in
theorem ml_L_106 : Cond.methodLink RL 106 yX6_last ∈ am_T := am_in (List.mem_of_getElem? (i := 605) rfl) rfl
set_option maxRecDepth 100000 in
theorem ml_L_109 : Cond.methodLink RL 109 yX7_last ∈ am_T := am_in (List.mem_of_getElem? (i := 1007) rfl) rfl
set_option maxRecDepth 100000 in
theorem ml_L_110 : Cond.methodLink RL 110 yX6_months ∈ am_T := am_in (List.mem_of_getElem? (i := 609) rfl) rfl
set_option maxRecDepth 100000 in
theorem ml_L_113 : Cond.methodLink RL 113 yX7_months ∈ am_T := am_in (List.mem_of_getElem? (i := 1015) rfl) rfl
set_option maxRecDepth 100000 in
theorem ml_L_114 : Cond.methodLink RL 114 yX6_image ∈ am_T := am_in (List.mem_of_getElem? (i := 658) rfl) rfl
set_option maxRecDepth 100000 in
theorem ml_L_117 : Cond.methodLink RL 117 yX7_image ∈ am_T := am_in (List.mem_of_getElem? (i := 1035) rfl) rfl
set_option maxRecDepth 100000 in
theorem ml_L_118 : Cond.methodLink RL 118 yX6_restore ∈ am_T := am_in (List.mem_of_getElem? (i := 662) rfl) rfl
set_option maxRecDepth 100000 in
theorem ml_L_121 : Cond.methodLink RL 121 yX7_restore ∈ am_T := am_in (List.mem_of_getElem? (i := 1039) rfl) rfl
set_option maxRecDepth 100000 in
theorem ml_L_122 : Cond.methodLink RL 122 yX6_count ∈ am_T := am_in (List.mem_of_getElem? (i := 666) rfl) rfl
set_option maxRecDepth 100000 in
theorem ml_L_125 : Cond.methodLink RL 125 yX7_count ∈ am_T := am_in (List.mem_of_getElem? (i := 1043) rfl) rfl
set_option maxRecDepth 100000 in
theorem ml_L_126 : Cond.methodLink RL 126 yX6_digest ∈ am_T := am_in (List.mem_of_getElem? (i := 670) rfl) rfl
set_option maxRecDepth 100000 in
theorem ml_L_130 : Cond.methodLink RL 130 yX7_digest ∈ am_T := am_in (List.mem_of_getElem? (i := 1051) rfl) rfl
set_option maxRecDepth 100000 in
theorem ml_X0_3 : Cond.methodLink RX0 3 Lib.objectInit ∈ am_T := am_in (List.mem_of_getElem? (i := 74) rfl) rfl
set_option maxRecDepth 100000 in
theorem ml_X0_22 : Cond.methodLink RX0 22 yX0_slotBehind ∈ am_T := am_in (List.mem_of_getElem? (i := 334) rfl) rfl
set_option maxRecDepth 100000 in
theorem ml_X0_26 : Cond.methodLink RX0 26 yX0_firstWrong ∈ am_T := am_in (List.mem_of_getElem? (i := 354) rfl) rfl
set_option maxRecDepth 100000 in
theorem ml_X0_35 : Cond.methodLink RX0 35 yX0_kindOf ∈ am_T := am_in (List.mem_of_getElem? (i := 343) rfl) rfl
set_option maxRecDepth 100000 in
theorem ml_X0_43 : Cond.methodLink RX0 43 yX2_lay ∈ am_T := am_in (List.mem_of_getElem? (i := 363) rfl) rfl
set_option maxRecDepth 100000 in
theorem ml_X0_52 : Cond.methodLink RX0 52 yX0_isDigit ∈ am_T := am_in (List.mem_of_getElem? (i := 337) rfl) rfl
set_option maxRecDepth 100000 in
theorem ml_X0_56 : Cond.methodLink RX0 56 yX0_isOnes ∈ am_T := am_in (List.mem_of_getElem? (i := 340) rfl) rfl
set_option maxRecDepth 100000 in
theorem ml_X1_3 : Cond.methodLink RX1 3 Lib.objectInit ∈ am_T := am_in (List.mem_of_getElem? (i := 137) rfl) rfl
set_option maxRecDepth 100000 in
theorem ml_X1_32 : Cond.methodLink RX1 32 yX2_touches ∈ am_T := am_in (List.mem_of_getElem? (i := 426) rfl) rfl
set_option maxRecDepth 100000 in
theorem ml_X1_38 : Cond.methodLink RX1 38 yX2_across ∈ am_T := am_in (List.mem_of_getElem? (i := 434) rfl) rfl
set_option maxRecDepth 100000 in
theorem ml_X1_42 : Cond.methodLink RX1 42 yX1_wouldCount ∈ am_T := am_in (List.mem_of_getElem? (i := 438) rfl) rfl
set_option maxRecDepth 100000 in
theorem ml_X1_52 : Cond.methodLink RX1 52 Lib.Math.max.name ∈ am_T := am_in (List.mem_of_getElem? (i := 454) rfl) rfl
set_option maxRecDepth 100000 in
theorem ml_X2_1 : Cond.methodLink RX2 1 Lib.objectInit ∈ am_T := am_in (List.mem_of_getElem? (i := 102) rfl) rfl
set_option maxRecDepth 100000 in
theorem ml_X2_29 : Cond.methodLink RX2 29 yX2_lay ∈ am_T := am_in (List.mem_of_getElem? (i := 621) rfl) rfl
set_option maxRecDepth 100000 in
theorem ml_X3_3 : Cond.methodLink RX3 3 Lib.objectInit ∈ am_T := am_in (List.mem_of_getElem? (i := 251) rfl) rfl
set_option maxRecDepth 100000 in
theorem ml_X3_44 : Cond.methodLink RX3 44 yX3_giveBits ∈ am_T := am_in (List.mem_of_getElem? (i := 567) rfl) rfl
set_option maxRecDepth 100000 in
theorem ml_X3_48 : Cond.methodLink RX3 48 yX3_clearThen ∈ am_T := am_in (List.mem_of_getElem? (i := 572) rfl) rfl
set_option maxRecDepth 100000 in
theorem ml_X3_51 : Cond.methodLink RX3 51 yX3_swap ∈ am_T := am_in (List.mem_of_getElem? (i := 576) rfl) rfl
set_option maxRecDepth 100000 in
theorem ml_X3_62 : Cond.methodLink RX3 62 yX3_passMonth ∈ am_T := am_in (List.mem_of_getElem? (i := 580) rfl) rfl
set_option maxRecDepth 100000 in
theorem ml_X3_66 : Cond.methodLink RX3 66 yX3_sumUp ∈ am_T := am_in (List.mem_of_getElem? (i := 590) rfl) rfl
set_option maxRecDepth 100000 in
theorem ml_X3_76 : Cond.methodLink RX3 76 yX2_worth ∈ am_T := am_in (List.mem_of_getElem? (i := 571) rfl) rfl
set_option maxRecDepth 100000 in
theorem ml_X3_82 : Cond.methodLink RX3 82 yX3_goOn ∈ am_T := am_in (List.mem_of_getElem? (i := 584) rfl) rfl
set_option maxRecDepth 100000 in
theorem ml_X3_86 : Cond.methodLink RX3 86 yX2_across ∈ am_T := am_in (List.mem_of_getElem? (i := 588) rfl) rfl
set_option maxRecDepth 100000 in
theorem ml_X3_90 : Cond.methodLink RX3 90 yX2_touches ∈ am_T := am_in (List.mem_of_getElem? (i := 589) rfl) rfl
set_option maxRecDepth 100000 in
theorem ml_X3_94 : Cond.methodLink RX3 94 yX3_halvesOf ∈ am_T := am_in (List.mem_of_getElem? (i := 594) rfl) rfl
set_option maxRecDepth 100000 in
theorem ml_X3_98 : Cond.methodLink RX3 98 yX3_onlyRoad ∈ am_T := am_in (List.mem_of_getElem? (i := 598) rfl) rfl
set_option maxRecDepth 100000 in
theorem ml_X4_5 : Cond.methodLink RX4 5 Lib.objectInit ∈ am_T := am_in (List.mem_of_getElem? (i := 217) rfl) rfl
set_option maxRecDepth 100000 in
theorem ml_X4_40 : Cond.methodLink RX4 40 yX4_takeRoads ∈ am_T := am_in (List.mem_of_getElem? (i := 477) rfl) rfl
set_option maxRecDepth 100000 in
theorem ml_X4_60 : Cond.methodLink RX4 60 yX4_leastCost ∈ am_T := am_in (List.mem_of_getElem? (i := 487) rfl) rfl
set_option maxRecDepth 100000 in
theorem ml_X4_64 : Cond.methodLink RX4 64 yX4_leastWay ∈ am_T := am_in (List.mem_of_getElem? (i := 533) rfl) rfl
set_option maxRecDepth 100000 in
theorem ml_X4_70 : Cond.methodLink RX4 70 Lib.Math.min.name ∈ am_T := am_in (List.mem_of_getElem? (i := 512) rfl) rfl
set_option maxRecDepth 100000 in
theorem ml_X4_75 : Cond.methodLink RX4 75 yX4_spread ∈ am_T := am_in (List.mem_of_getElem? (i := 492) rfl) rfl
set_option maxRecDepth 100000 in
theorem ml_X4_79 : Cond.methodLink RX4 79 yX4_isReached ∈ am_T := am_in (List.mem_of_getElem? (i := 496) rfl) rfl
set_option maxRecDepth 100000 in
theorem ml_X4_83 : Cond.methodLink RX4 83 yX4_harmOf ∈ am_T := am_in (List.mem_of_getElem? (i := 550) rfl) rfl
set_option maxRecDepth 100000 in
theorem ml_X4_87 : Cond.methodLink RX4 87 yX4_addRoad ∈ am_T := am_in (List.mem_of_getElem? (i := 483) rfl) rfl
set_option maxRecDepth 100000 in
theorem ml_X4_103 : Cond.methodLink RX4 103 yX1_wouldCount ∈ am_T := am_in (List.mem_of_getElem? (i := 481) rfl) rfl
set_option maxRecDepth 100000 in
theorem ml_X4_107 : Cond.methodLink RX4 107 yX2_worth ∈ am_T := am_in (List.mem_of_getElem? (i := 482) rfl) rfl
set_option maxRecDepth 100000 in
theorem ml_X4_111 : Cond.methodLink RX4 111 yX4_settle ∈ am_T := am_in (List.mem_of_getElem? (i := 500) rfl) rfl
set_option maxRecDepth 100000 in
theorem ml_X4_115 : Cond.methodLink RX4 115 yX4_leave ∈ am_T := am_in (List.mem_of_getElem? (i := 508) rfl) rfl
set_option maxRecDepth 100000 in
theorem ml_X4_118 : Cond.methodLink RX4 118 yX4_improve ∈ am_T := am_in (List.mem_of_getElem? (i := 504) rfl) rfl
set_option maxRecDepth 100000 in
theorem ml_X5_3 : Cond.methodLink RX5 3 Lib.objectInit ∈ am_T := am_in (List.mem_of_getElem? (i := 93) rfl) rfl
set_option maxRecDepth 100000 in
theorem ml_X5_43 : Cond.methodLink RX5 43 yX2_init ∈ am_T := am_in (List.mem_of_getElem? (i := 99) rfl) rfl
set_option maxRecDepth 100000 in
theorem ml_X5_46 : Cond.methodLinkNest RX5 46 yX1_init "CountedTrials" ∈ lw_tbl := List.mem_of_getElem? (i := 134) rfl
set_option maxRecDepth 100000 in
theorem ml_X5_47 : Cond.methodLink RX5 47 yX2_become ∈ am_T := am_in (List.mem_of_getElem? (i := 617) rfl) rfl
set_option maxRecDepth 100000 in
theorem ml_X5_51 : Cond.methodLink RX5 51 yX1_become ∈ am_T := am_in (List.mem_of_getElem? (i := 622) rfl) rfl
set_option maxRecDepth 100000 in
theorem ml_X5_58 : Cond.methodLink RX5 58 yX5_nextSeed ∈ am_T := am_in (List.mem_of_getElem? (i := 630) rfl) rfl
set_option maxRecDepth 100000 in
theorem ml_X5_62 : Cond.methodLink RX5 62 yX5_passMonth ∈ am_T := am_in (List.mem_of_getElem? (i := 636) rfl) rfl
set_option maxRecDepth 100000 in
theorem ml_X5_70 : Cond.methodLink RX5 70 yX1_may ∈ am_T := am_in (List.mem_of_getElem? (i := 641) rfl) rfl
set_option maxRecDepth 100000 in
theorem ml_X5_74 : Cond.methodLink RX5 74 yX2_worth ∈ am_T := am_in (List.mem_of_getElem? (i := 642) rfl) rfl
set_option maxRecDepth 100000 in
theorem ml_X5_78 : Cond.methodLink RX5 78 yX1_go ∈ am_T := am_in (List.mem_of_getElem? (i := 643) rfl) rfl
set_option maxRecDepth 100000 in
theorem ml_X5_82 : Cond.methodLink RX5 82 yX1_recover ∈ am_T := am_in (List.mem_of_getElem? (i := 644) rfl) rfl
set_option maxRecDepth 100000 in
theorem ml_X5_85 : Cond.methodLink RX5 85 yX1_ask ∈ am_T := am_in (List.mem_of_getElem? (i := 645) rfl) rfl
set_option maxRecDepth 100000 in
theorem ml_X6_1 : Cond.methodLink RX6 1 Lib.objectInit ∈ am_T := am_in (List.mem_of_getElem? (i := 66) rfl) rfl
set_option maxRecDepth 100000 in
theorem ml_X6_9 : Cond.methodLinkNest RX6 9 yX0_init "CountedTrials" ∈ lw_tbl := List.mem_of_getElem? (i := 71) rfl
set_option maxRecDepth 100000 in
theorem ml_X6_18 : Cond.methodLink RX6 18 yX5_init ∈ am_T := am_in (List.mem_of_getElem? (i := 90) rfl) rfl
set_option maxRecDepth 100000 in
theorem ml_X6_31 : Cond.methodLinkNest RX6 31 yX4_init "CountedTrials" ∈ lw_tbl := List.mem_of_getElem? (i := 214) rfl
set_option maxRecDepth 100000 in
theorem ml_X6_38 : Cond.methodLinkNest RX6 38 yX3_init "CountedTrials" ∈ lw_tbl := List.mem_of_getElem? (i := 248) rfl
set_option maxRecDepth 100000 in
theorem ml_X6_54 : Cond.methodLink RX6 54 yX0_append ∈ am_T := am_in (List.mem_of_getElem? (i := 318) rfl) rfl
set_option maxRecDepth 100000 in
theorem ml_X6_61 : Cond.methodLink RX6 61 yX0_firstWrong ∈ am_T := am_in (List.mem_of_getElem? (i := 330) rfl) rfl
set_option maxRecDepth 100000 in
theorem ml_X6_65 : Cond.methodLink RX6 65 yX0_isWhole ∈ am_T := am_in (List.mem_of_getElem? (i := 350) rfl) rfl
set_option maxRecDepth 100000 in
theorem ml_X6_69 : Cond.methodLink RX6 69 yX5_startAnew ∈ am_T := am_in (List.mem_of_getElem? (i := 355) rfl) rfl
set_option maxRecDepth 100000 in
theorem ml_X6_72 : Cond.methodLink RX6 72 yX0_layRoads ∈ am_T := am_in (List.mem_of_getElem? (i := 359) rfl) rfl
set_option maxRecDepth 100000 in
theorem ml_X6_76 : Cond.methodLink RX6 76 yX3_outdate ∈ am_T := am_in (List.mem_of_getElem? (i := 367) rfl) rfl
set_option maxRecDepth 100000 in
theorem ml_X6_82 : Cond.methodLink RX6 82 yX6_isRoad ∈ am_T := am_in (List.mem_of_getElem? (i := 375) rfl) rfl
set_option maxRecDepth 100000 in
theorem ml_X6_103 : Cond.methodLink RX6 103 yX2_worth ∈ am_T := am_in (List.mem_of_getElem? (i := 379) rfl) rfl
set_option maxRecDepth 100000 in
theorem ml_X6_109 : Cond.methodLink RX6 109 yX6_asNumber ∈ am_T := am_in (List.mem_of_getElem? (i := 383) rfl) rfl
set_option maxRecDepth 100000 in
theorem ml_X6_113 : Cond.methodLink RX6 113 yX2_isOfKind ∈ am_T := am_in (List.mem_of_getElem? (i := 390) rfl) rfl
set_option maxRecDepth 100000 in
theorem ml_X6_123 : Cond.methodLink RX6 123 yX1_startAnew ∈ am_T := am_in (List.mem_of_getElem? (i := 406) rfl) rfl
set_option maxRecDepth 100000 in
theorem ml_X6_126 : Cond.methodLink RX6 126 yX6_isPilgrim ∈ am_T := am_in (List.mem_of_getElem? (i := 414) rfl) rfl
set_option maxRecDepth 100000 in
theorem ml_X6_148 : Cond.methodLink RX6 148 yX1_may ∈ am_T := am_in (List.mem_of_getElem? (i := 422) rfl) rfl
set_option maxRecDepth 100000 in
theorem ml_X6_152 : Cond.methodLink RX6 152 yX1_go ∈ am_T := am_in (List.mem_of_getElem? (i := 430) rfl) rfl
set_option maxRecDepth 100000 in
theorem ml_X6_159 : Cond.methodLink RX6 159 yX1_recover ∈ am_T := am_in (List.mem_of_getElem? (i := 450) rfl) rfl
set_option maxRecDepth 100000 in
theorem ml_X6_165 : Cond.methodLink RX6 165 yX1_ask ∈ am_T := am_in (List.mem_of_getElem? (i := 461) rfl) rfl
set_option maxRecDepth 100000 in
theorem ml_X6_169 : Cond.methodLink RX6 169 yX6_mayForesee ∈ am_T := am_in (List.mem_of_getElem? (i := 469) rfl) rfl
set_option maxRecDepth 100000 in
theorem ml_X6_172 : Cond.methodLink RX6 172 yX4_leastWay ∈ am_T := am_in (List.mem_of_getElem? (i := 473) rfl) rfl
set_option maxRecDepth 100000 in
theorem ml_X6_177 : Cond.methodLink RX6 177 yX4_harmOf ∈ am_T := am_in (List.mem_of_getElem? (i := 516) rfl) rfl
set_option maxRecDepth 100000 in
theorem ml_X6_181 : Cond.methodLink RX6 181 yX4_walksOf ∈ am_T := am_in (List.mem_of_getElem? (i := 519) rfl) rfl
set_option maxRecDepth 100000 in
theorem ml_X6_184 : Cond.methodLink RX6 184 yX4_firstOf ∈ am_T := am_in (List.mem_of_getElem? (i := 522) rfl) rfl
set_option maxRecDepth 100000 in
theorem ml_X6_187 : Cond.methodLink RX6 187 yX4_leastBar ∈ am_T := am_in (List.mem_of_getElem? (i := 529) rfl) rfl
set_option maxRecDepth 100000 in
theorem ml_X6_191 : Cond.methodLink RX6 191 yX4_mostCounted ∈ am_T := am_in (List.mem_of_getElem? (i := 538) rfl) rfl
set_option maxRecDepth 100000 in
theorem ml_X6_194 : Cond.methodLink RX6 194 yX4_bestBridge ∈ am_T := am_in (List.mem_of_getElem? (i := 546) rfl) rfl
set_option maxRecDepth 100000 in
theorem ml_X6_203 : Cond.methodLink RX6 203 yX3_tally ∈ am_T := am_in (List.mem_of_getElem? (i := 563) rfl) rfl
set_option maxRecDepth 100000 in
theorem ml_X6_215 : Cond.methodLink RX6 215 yX5_become ∈ am_T := am_in (List.mem_of_getElem? (i := 613) rfl) rfl
set_option maxRecDepth 100000 in
theorem ml_X6_218 : Cond.methodLink RX6 218 yX5_live ∈ am_T := am_in (List.mem_of_getElem? (i := 626) rfl) rfl
set_option maxRecDepth 100000 in
theorem ml_X6_222 : Cond.methodLink RX6 222 yX5_letInCount ∈ am_T := am_in (List.mem_of_getElem? (i := 646) rfl) rfl
set_option maxRecDepth 100000 in
theorem ml_X6_225 : Cond.methodLink RX6 225 yX5_hurtOfAll ∈ am_T := am_in (List.mem_of_getElem? (i := 650) rfl) rfl
set_option maxRecDepth 100000 in
theorem ml_X6_228 : Cond.methodLink RX6 228 yX5_countedByAll ∈ am_T := am_in (List.mem_of_getElem? (i := 654) rfl) rfl
set_option maxRecDepth 100000 in
theorem ml_X6_233 : Cond.methodLink RX6 233 yX6_digestOfRoads ∈ am_T := am_in (List.mem_of_getElem? (i := 675) rfl) rfl
set_option maxRecDepth 100000 in
theorem ml_X6_237 : Cond.methodLink RX6 237 yX6_digestOfPilgrims ∈ am_T := am_in (List.mem_of_getElem? (i := 681) rfl) rfl
set_option maxRecDepth 100000 in
theorem ml_X6_242 : Cond.methodLink RX6 242 yX6_walks ∈ am_T := am_in (List.mem_of_getElem? (i := 686) rfl) rfl
set_option maxRecDepth 100000 in
theorem ml_X6_245 : Cond.methodLink RX6 245 yX6_walksBy ∈ am_T := am_in (List.mem_of_getElem? (i := 687) rfl) rfl
set_option maxRecDepth 100000 in
theorem ml_X6_248 : Cond.methodLink RX6 248 yX6_last ∈ am_T := am_in (List.mem_of_getElem? (i := 688) rfl) rfl
set_option maxRecDepth 100000 in
theorem ml_X6_254 : Cond.methodLink RX6 254 yX6_count ∈ am_T := am_in (List.mem_of_getElem? (i := 689) rfl) rfl
set_option maxRecDepth 100000 in
theorem ml_X6_257 : Cond.methodLink RX6 257 yX6_road ∈ am_T := am_in (List.mem_of_getElem? (i := 680) rfl) rfl
set_option maxRecDepth 100000 in
theorem ml_X6_260 : Cond.methodLink RX6 260 yX6_about ∈ am_T := am_in (List.mem_of_getElem? (i := 685) rfl) rfl
set_option maxRecDepth 100000 in
theorem ml_X7_1 : Cond.methodLink RX7 1 Lib.objectInit ∈ am_T := am_in (List.mem_of_getElem? (i := 695) rfl) rfl
set_option maxRecDepth 100000 in
theorem ml_X7_67 : Cond.methodLink RX7 67 yX7_in ∈ am_T := am_in (List.mem_of_getElem? (i := 810) rfl) rfl
set_option maxRecDepth 100000 in
theorem ml_X7_84 : Cond.methodLink RX7 84 yX7_kindBy ∈ am_T := am_in (List.mem_of_getElem? (i := 835) rfl) rfl
set_option maxRecDepth 100000 in
theorem ml_X7_88 : Cond.methodLink RX7 88 yX7_goRoad ∈ am_T := am_in (List.mem_of_getElem? (i := 829) rfl) rfl
set_option maxRecDepth 100000 in
theorem ml_X7_97 : Cond.methodLink RX7 97 yX7_go ∈ am_T := am_in (List.mem_of_getElem? (i := 825) rfl) rfl
set_option maxRecDepth 100000 in
theorem ml_X7_100 : Cond.methodLink RX7 100 yX7_faultOf ∈ am_T := am_in (List.mem_of_getElem? (i := 821) rfl) rfl
set_option maxRecDepth 100000 in
theorem ml_X7_122 : Cond.methodLink RX7 122 yX7_worthOf ∈ am_T := am_in (List.mem_of_getElem? (i := 855) rfl) rfl
set_option maxRecDepth 100000 in
theorem ml_X7_125 : Cond.methodLink RX7 125 yX7_isRoad ∈ am_T := am_in (List.mem_of_getElem? (i := 847) rfl) rfl
set_option maxRecDepth 100000 in
theorem ml_X7_128 : Cond.methodLink RX7 128 yX7_tellRoad ∈ am_T := am_in (List.mem_of_getElem? (i := 851) rfl) rfl
set_option maxRecDepth 100000 in
theorem ml_X7_134 : Cond.methodLink RX7 134 yX7_lacks ∈ am_T := am_in (List.mem_of_getElem? (i := 876) rfl) rfl
set_option maxRecDepth 100000 in
theorem ml_X7_142 : Cond.methodLink RX7 142 yX7_isPilgrim ∈ am_T := am_in (List.mem_of_getElem? (i := 884) rfl) rfl
set_option maxRecDepth 100000 in
theorem ml_X7_145 : Cond.methodLink RX7 145 yX7_tell ∈ am_T := am_in (List.mem_of_getElem? (i := 888) rfl) rfl
set_option maxRecDepth 100000 in
theorem ml_X7_148 : Cond.methodLink RX7 148 yX7_isIn ∈ am_T := am_in (List.mem_of_getElem? (i := 902) rfl) rfl
set_option maxRecDepth 100000 in
theorem ml_X7_151 : Cond.methodLink RX7 151 yX7_otherEnd ∈ am_T := am_in (List.mem_of_getElem? (i := 906) rfl) rfl
set_option maxRecDepth 100000 in
theorem ml_X7_154 : Cond.methodLink RX7 154 yX7_mayWalk ∈ am_T := am_in (List.mem_of_getElem? (i := 898) rfl) rfl
set_option maxRecDepth 100000 in
theorem ml_X7_158 : Cond.methodLink RX7 158 yX7_goes ∈ am_T := am_in (List.mem_of_getElem? (i := 910) rfl) rfl
set_option maxRecDepth 100000 in
theorem ml_X7_162 : Cond.methodLink RX7 162 yX7_rests ∈ am_T := am_in (List.mem_of_getElem? (i := 922) rfl) rfl
set_option maxRecDepth 100000 in
theorem ml_X7_166 : Cond.methodLink RX7 166 yX7_asks ∈ am_T := am_in (List.mem_of_getElem? (i := 930) rfl) rfl
set_option maxRecDepth 100000 in
theorem ml_X7_169 : Cond.methodLink RX7 169 yX7_relax ∈ am_T := am_in (List.mem_of_getElem? (i := 951) rfl) rfl
set_option maxRecDepth 100000 in
theorem ml_X7_178 : Cond.methodLink RX7 178 yX7_isFresh ∈ am_T := am_in (List.mem_of_getElem? (i := 955) rfl) rfl
set_option maxRecDepth 100000 in
theorem ml_X7_182 : Cond.methodLink RX7 182 yX7_countedBy ∈ am_T := am_in (List.mem_of_getElem? (i := 963) rfl) rfl
set_option maxRecDepth 100000 in
theorem ml_X7_188 : Cond.methodLink RX7 188 yX7_layWays ∈ am_T := am_in (List.mem_of_getElem? (i := 947) rfl) rfl
set_option maxRecDepth 100000 in
theorem ml_X7_192 : Cond.methodLink RX7 192 yX7_bestAt ∈ am_T := am_in (List.mem_of_getElem? (i := 959) rfl) rfl
set_option maxRecDepth 100000 in
theorem ml_X7_197 : Cond.methodLink RX7 197 yX7_isDone ∈ am_T := am_in (List.mem_of_getElem? (i := 939) rfl) rfl
set_option maxRecDepth 100000 in
theorem ml_X7_200 : Cond.methodLink RX7 200 yX7_wayBy ∈ am_T := am_in (List.mem_of_getElem? (i := 943) rfl) rfl
set_option maxRecDepth 100000 in
theorem ml_X7_203 : Cond.methodLink RX7 203 yX7_passLog ∈ am_T := am_in (List.mem_of_getElem? (i := 999) rfl) rfl
set_option maxRecDepth 100000 in
theorem ml_X7_206 : Cond.methodLink RX7 206 yX7_layLog ∈ am_T := am_in (List.mem_of_getElem? (i := 995) rfl) rfl
set_option maxRecDepth 100000 in
theorem ml_X7_209 : Cond.methodLink RX7 209 yX7_rowsBy ∈ am_T := am_in (List.mem_of_getElem? (i := 991) rfl) rfl
set_option maxRecDepth 100000 in
theorem ml_X7_212 : Cond.methodLink RX7 212 yX7_lastOf ∈ am_T := am_in (List.mem_of_getElem? (i := 1011) rfl) rfl
set_option maxRecDepth 100000 in
theorem ml_X7_227 : Cond.methodLink RX7 227 yX7_copy ∈ am_T := am_in (List.mem_of_getElem? (i := 1020) rfl) rfl
set_option maxRecDepth 100000 in
theorem ml_X7_231 : Cond.methodLink RX7 231 yX7_draw ∈ am_T := am_in (List.mem_of_getElem? (i := 1023) rfl) rfl
set_option maxRecDepth 100000 in
theorem ml_X7_234 : Cond.methodLink RX7 234 yX7_sumOf ∈ am_T := am_in (List.mem_of_getElem? (i := 1031) rfl) rfl
set_option maxRecDepth 100000 in
theorem ml_X7_246 : Cond.methodLink RX7 246 yX7_countOf ∈ am_T := am_in (List.mem_of_getElem? (i := 1047) rfl) rfl
set_option maxRecDepth 100000 in
theorem ml_X7_257 : Cond.methodLink RX7 257 yX7_say ∈ am_T := am_in (List.mem_of_getElem? (i := 1056) rfl) rfl
set_option maxRecDepth 100000 in
theorem jm_max : Cond.static Lib.Math.max.name ∈ am_T ∧ Cond.initialized "java/lang/Math" ∈ am_T ∧ Cond.code Lib.Math.max.name Lib.Math.max.code 2 (some .int) ∈ am_T := ⟨am_in (List.mem_of_getElem? (i := 455) rfl) rfl, am_in (List.mem_of_getElem? (i := 60) rfl) rfl, am_in (List.mem_of_getElem? (i := 456) rfl) rfl⟩
set_option maxRecDepth 100000 in
theorem jm_min : Cond.static Lib.Math.min.name ∈ am_T ∧ Cond.initialized "java/lang/Math" ∈ am_T ∧ Cond.code Lib.Math.min.name Lib.Math.min.code 2 (some .int) ∈ am_T := ⟨am_in (List.mem_of_getElem? (i := 513) rfl) rfl, am_in (List.mem_of_getElem? (i := 60) rfl) rfl, am_in (List.mem_of_getElem? (i := 514) rfl) rfl⟩
set_option maxRecDepth 100000 in
theorem jo_init : Cond.instanceMethod Lib.objectInit ∈ am_T ∧ Cond.code Lib.objectInit ⟨#[0xb1]⟩ 1 none ∈ am_T := ⟨am_in (List.mem_of_getElem? (i := 67) rfl) rfl, am_in (List.mem_of_getElem? (i := 68) rfl) rfl⟩
set_option maxRecDepth 100000 in
theorem ct_X4_68 : Cond.constant RX4 68 (1000000000) ∈ am_T := am_in (List.mem_of_getElem? (i := 491) rfl) rfl
set_option maxRecDepth 100000 in
theorem ct_X5_66 : Cond.constant RX5 66 (65536) ∈ am_T := am_in (List.mem_of_getElem? (i := 640) rfl) rfl
set_option maxRecDepth 100000 in
theorem ct_X5_88 : Cond.constantLong RX5 88 (1103515245) ∈ am_T := am_in (List.mem_of_getElem? (i := 633) rfl) rfl
set_option maxRecDepth 100000 in
theorem ct_X5_90 : Cond.constantLong RX5 90 (12345) ∈ am_T := am_in (List.mem_of_getElem? (i := 634) rfl) rfl
set_option maxRecDepth 100000 in
theorem ct_X5_92 : Cond.constantLong RX5 92 (2147483647) ∈ am_T := am_in (List.mem_of_getElem? (i := 635) rfl) rfl
set_option maxRecDepth 100000 in
theorem ct_X6_176 : Cond.constant RX6 176 (1000000000) ∈ am_T := am_in (List.mem_of_getElem? (i := 515) rfl) rfl
set_option maxRecDepth 100000 in
theorem ct_X6_231 : Cond.constantLong RX6 231 (761) ∈ am_T := am_in (List.mem_of_getElem? (i := 674) rfl) rfl
set_option maxRecDepth 100000 in
theorem ct_X6_240 : Cond.constantLong RX6 240 (31) ∈ am_T := am_in (List.mem_of_getElem? (i := 679) rfl) rfl
set_option maxRecDepth 100000 in
theorem ct_X7_65 : Cond.constantLong RX7 65 (126) ∈ am_T := am_in (List.mem_of_getElem? (i := 809) rfl) rfl
set_option maxRecDepth 100000 in
theorem ct_X7_80 : Cond.constantLong RX7 80 (9) ∈ am_T := am_in (List.mem_of_getElem? (i := 833) rfl) rfl
set_option maxRecDepth 100000 in
theorem ct_X7_82 : Cond.constantLong RX7 82 (5) ∈ am_T := am_in (List.mem_of_getElem? (i := 834) rfl) rfl
set_option maxRecDepth 100000 in
theorem ct_X7_95 : Cond.constantLong RX7 95 (60) ∈ am_T := am_in (List.mem_of_getElem? (i := 838) rfl) rfl
set_option maxRecDepth 100000 in
theorem ct_X7_132 : Cond.constantLong RX7 132 (4) ∈ am_T := am_in (List.mem_of_getElem? (i := 863) rfl) rfl
set_option maxRecDepth 100000 in
theorem ct_X7_138 : Cond.constantLong RX7 138 (10) ∈ am_T := am_in (List.mem_of_getElem? (i := 892) rfl) rfl
set_option maxRecDepth 100000 in
theorem ct_X7_140 : Cond.constantLong RX7 140 (17) ∈ am_T := am_in (List.mem_of_getElem? (i := 893) rfl) rfl
set_option maxRecDepth 100000 in
theorem ct_X7_195 : Cond.constantLong RX7 195 (2) ∈ am_T := am_in (List.mem_of_getElem? (i := 938) rfl) rfl
set_option maxRecDepth 100000 in
theorem ct_X7_215 : Cond.constantLong RX7 215 (1103515245) ∈ am_T := am_in (List.mem_of_getElem? (i := 1027) rfl) rfl
set_option maxRecDepth 100000 in
theorem ct_X7_220 : Cond.constantLong RX7 220 (12345) ∈ am_T := am_in (List.mem_of_getElem? (i := 1028) rfl) rfl
set_option maxRecDepth 100000 in
theorem ct_X7_222 : Cond.constantLong RX7 222 (2147483647) ∈ am_T := am_in (List.mem_of_getElem? (i := 1029) rfl) rfl
set_option maxRecDepth 100000 in
theorem ct_X7_224 : Cond.constant RX7 224 (65536) ∈ am_T := am_in (List.mem_of_getElem? (i := 1030) rfl) rfl
set_option maxRecDepth 100000 in
theorem ct_X7_225 : Cond.constantLong RX7 225 (3) ∈ am_T := am_in (List.mem_of_getElem? (i := 1019) rfl) rfl
set_option maxRecDepth 100000 in
theorem ct_X7_249 : Cond.constantLong RX7 249 (31) ∈ am_T := am_in (List.mem_of_getElem? (i := 1060) rfl) rfl
set_option maxRecDepth 100000 in
theorem ct_X7_255 : Cond.constantLong RX7 255 (761) ∈ am_T := am_in (List.mem_of_getElem? (i := 1055) rfl) rfl
