theorem shc_14 : shp 14 = (0, 3) := by decide +kernel
theorem shc_15 : shp 15 = (1, 10) := by decide +kernel
theorem shc_16 : shp 16 = (4, 14) := by decide +kernel
theorem shc_17 : shp 17 = (5, 6) := by decide +kernel
theorem shc_18 : shp 18 = (6, 12) := by decide +kernel
theorem shc_19 : shp 19 = (0, 8) := by decide +kernel
theorem shc_20 : shp 20 = (1, 12) := by decide +kernel
theorem shc_21 : shp 21 = (1, 12) := by decide +kernel
theorem shc_22 : shp 22 = (1, 12) := by decide +kernel
theorem shc_23 : shp 23 = (1, 400) := by decide +kernel
theorem shc_24 : shp 24 = (1, 17) := by decide +kernel
theorem shc_25 : shp 25 = (1, 100) := by decide +kernel
theorem shc_26 : shp 26 = (3, 40) := by decide +kernel
theorem shc_27 : shp 27 = (0, 1) := by decide +kernel
theorem shc_28 : shp 28 = (0, 1) := by decide +kernel
theorem shc_29 : shp 29 = (0, 1) := by decide +kernel
theorem shc_30 : shp 30 = (0, 1) := by decide +kernel
theorem shc_31 : shp 31 = (0, 1) := by decide +kernel
theorem shc_32 : shp 32 = (0, 1) := by decide +kernel
theorem shc_33 : shp 33 = (0, 1) := by decide +kernel
theorem shc_34 : shp 34 = (0, 1) := by decide +kernel
theorem shc_35 : shp 35 = (0, 1) := by decide +kernel
theorem shc_36 : shp 36 = (0, 1) := by decide +kernel
theorem shc_37 : shp 37 = (0, 1) := by decide +kernel
theorem shc_38 : shp 38 = (0, 1) := by decide +kernel
theorem shc_39 : shp 39 = (0, 1) := by decide +kernel
theorem shc_40 : shp 40 = (0, 1) := by decide +kernel
theorem shc_41 : shp 41 = (0, 2) := by decide +kernel
theorem shc_42 : shp 42 = (0, 2) := by decide +kernel
theorem shc_43 : shp 43 = (0, 2) := by decide +kernel
theorem shc_44 : shp 44 = (0, 2) := by decide +kernel
theorem shc_45 : shp 45 = (0, 2) := by decide +kernel
theorem shc_46 : shp 46 = (0, 2) := by decide +kernel
theorem shc_47 : shp 47 = (0, 4) := by decide +kernel
theorem shc_48 : shp 48 = (0, 4) := by decide +kernel
theorem shc_49 : shp 49 = (0, 4) := by decide +kernel
theorem shc_50 : shp 50 = (0, 4) := by decide +kernel
theorem shc_51 : shp 51 = (0, 4) := by decide +kernel
theorem shc_52 : shp 52 = (0, 4) := by decide +kernel
theorem shc_53 : shp 53 = (0, 4) := by decide +kernel
theorem shc_54 : shp 54 = (0, 4) := by decide +kernel
theorem shc_55 : shp 55 = (0, 4) := by decide +kernel
theorem shc_56 : shp 56 = (0, 4) := by decide +kernel
theorem shc_57 : shp 57 = (0, 4) := by decide +kernel
theorem shc_58 : shp 58 = (0, 4) := by decide +kernel
theorem shc_59 : shp 59 = (0, 3) := by decide +kernel
theorem shc_60 : shp 60 = (1, 10) := by decide +kernel
theorem shc_61 : shp 61 = (4, 14) := by decide +kernel
theorem shc_62 : shp 62 = (5, 6) := by decide +kernel
theorem shc_63 : shp 63 = (6, 12) := by decide +kernel
theorem shc_64 : shp 64 = (0, 8) := by decide +kernel
theorem shc_65 : shp 65 = (1, 12) := by decide +kernel
theorem shc_66 : shp 66 = (1, 12) := by decide +kernel
theorem shc_67 : shp 67 = (1, 12) := by decide +kernel
theorem shc_68 : shp 68 = (1, 400) := by decide +kernel
theorem shc_69 : shp 69 = (1, 17) := by decide +kernel
theorem shc_70 : shp 70 = (1, 100) := by decide +kernel
theorem shc_71 : shp 71 = (3, 40) := by decide +kernel
theorem shc_72 : shp 72 = (0, 1) := by decide +kernel
theorem shc_73 : shp 73 = (0, 1) := by decide +kernel
theorem shc_74 : shp 74 = (0, 1) := by decide +kernel
theorem shc_75 : shp 75 = (0, 1) := by decide +kernel
theorem shc_76 : shp 76 = (0, 1) := by decide +kernel
theorem shc_77 : shp 77 = (0, 1) := by decide +kernel
theorem shc_78 : shp 78 = (0, 1) := by decide +kernel
theorem shc_79 : shp 79 = (0, 1) := by decide +kernel
theorem shc_80 : shp 80 = (0, 1) := by decide +kernel
theorem shc_81 : shp 81 = (0, 1) := by decide +kernel
theorem shc_82 : shp 82 = (0, 1) := by decide +kernel
theorem shc_83 : shp 83 = (0, 1) := by decide +kernel
theorem shc_84 : shp 84 = (0, 1) := by decide +kernel
theorem shc_85 : shp 85 = (0, 1) := by decide +kernel
theorem shc_86 : shp 86 = (0, 2) := by decide +kernel
theorem shc_87 : shp 87 = (0, 2) := by decide +kernel
theorem shc_88 : shp 88 = (0, 2) := by decide +kernel
theorem shc_89 : shp 89 = (0, 2) := by decide +kernel
theorem shc_90 : shp 90 = (0, 2) := by decide +kernel
theorem shc_91 : shp 91 = (0, 2) := by decide +kernel
theorem shc_92 : shp 92 = (0, 4) := by decide +kernel
theorem shc_93 : shp 93 = (0, 4) := by decide +kernel
theorem shc_94 : shp 94 = (0, 4) := by decide +kernel
theorem shc_95 : shp 95 = (0, 4) := by decide +kernel
theorem shc_96 : shp 96 = (0, 4) := by decide +kernel
theorem shc_97 : shp 97 = (0, 4) := by decide +kernel
theorem shc_98 : shp 98 = (0, 4) := by decide +kernel
theorem shc_99 : shp 99 = (0, 4) := by decide +kernel
theorem shc_100 : shp 100 = (0, 4) := by decide +kernel
theorem shc_101 : shp 101 = (0, 4) := by decide +kernel
theorem shc_102 : shp 102 = (0, 4) := by decide +kernel
theorem shc_103 : shp 103 = (0, 4) := by decide +kernel
theorem shc_104 : shp 104 = (0, 3) := by decide +kernel
theorem shc_105 : shp 105 = (1, 10) := by decide +kernel
theorem shc_106 : shp 106 = (4, 14) := by decide +kernel
theorem shc_107 : shp 107 = (5, 6) := by decide +kernel
theorem shc_108 : shp 108 = (6, 12) := by decide +kernel
theorem shc_109 : shp 109 = (0, 8) := by decide +kernel
theorem shc_110 : shp 110 = (1, 12) := by decide +kernel
theorem shc_111 : shp 111 = (1, 12) := by decide +kernel
theorem shc_112 : shp 112 = (1, 12) := by decide +kernel
theorem shc_113 : shp 113 = (1, 400) := by decide +kernel
theorem shc_114 : shp 114 = (1, 17) := by decide +kernel
theorem shc_115 : shp 115 = (1, 100) := by decide +kernel
theorem shc_116 : shp 116 = (3, 40) := by decide +kernel
theorem shc_117 : shp 117 = (0, 1) := by decide +kernel
theorem shc_118 : shp 118 = (0, 1) := by decide +kernel
theorem shc_119 : shp 119 = (0, 1) := by decide +kernel
theorem shc_120 : shp 120 = (0, 1) := by decide +kernel
theorem shc_121 : shp 121 = (0, 1) := by decide +kernel
theorem shc_122 : shp 122 = (0, 1) := by decide +kernel
theorem shc_123 : shp 123 = (0, 1) := by decide +kernel
theorem shc_124 : shp 124 = (0, 1) := by decide +kernel
theorem shc_125 : shp 125 = (0, 1) := by decide +kernel
theorem shc_126 : shp 126 = (0, 1) := by decide +kernel
theorem shc_127 : shp 127 = (0, 1) := by decide +kernel
theorem shc_128 : shp 128 = (0, 1) := by decide +kernel
theorem shc_129 : shp 129 = (0, 1) := by decide +kernel
theorem shc_130 : shp 130 = (0, 1) := by decide +kernel
theorem shc_131 : shp 131 = (0, 2) := by decide +kernel
theorem shc_132 : shp 132 = (0, 2) := by decide +kernel
theorem shc_133 : shp 133 = (0, 2) := by decide +kernel
theorem shc_134 : shp 134 = (0, 2) := by decide +kernel
theorem shc_135 : shp 135 = (0, 2) := by decide +kernel
theorem shc_136 : shp 136 = (0, 2) := by decide +kernel
theorem shc_137 : shp 137 = (0, 4) := by decide +kernel
theorem shc_138 : shp 138 = (0, 4) := by decide +kernel
theorem shc_139 : shp 139 = (0, 4) := by decide +kernel
theorem shc_140 : shp 140 = (0, 4) := by decide +kernel
theorem shc_141 : shp 141 = (0, 4) := by decide +kernel
theorem shc_142 : shp 142 = (0, 4) := by decide +kernel
theorem shc_143 : shp 143 = (0, 4) := by decide +kernel
theorem shc_144 : shp 144 = (0, 4) := by decide +kernel
theorem shc_145 : shp 145 = (0, 4) := by decide +kernel
theorem shc_146 : shp 146 = (0, 4) := by decide +kernel
theorem shc_147 : shp 147 = (0, 4) := by decide +kernel
theorem shc_148 : shp 148 = (0, 4) := by decide +kernel
theorem acI : Cond.arrayClass .int ∈ lw_good := tg1 102 rfl rfl
theorem acB : Cond.arrayClass .byte ∈ lw_good := tg1 71 rfl rfl
theorem acL : Cond.arrayClass .long ∈ lw_good := tg1 129 rfl rfl
theorem cl_X3_28 : Cond.classLink RX3 28 RX1 ∈ lw_good := tg1 161 rfl rfl
theorem cl_X3_34 : Cond.classLink RX3 34 RX2 ∈ lw_good := tg1 163 rfl rfl
theorem cl_X3_40 : Cond.classLink RX3 40 RX5 ∈ lw_good := tg1 165 rfl rfl
theorem nw_X11_16 : NW RX11 16 0 6 := ⟨_, _, _, kc_0, tg1 72 rfl rfl, tg1 73 rfl rfl, tg1 3 rfl rfl, by decide +kernel⟩
theorem nw_X11_23 : NW RX11 23 5 5 := ⟨_, _, _, kc_5, tg1 103 rfl rfl, tg1 104 rfl rfl, tg1 4 rfl rfl, by decide +kernel⟩
theorem nw_X11_30 : NW RX11 30 6 6 := ⟨_, _, _, kc_6, tg1 130 rfl rfl, tg1 131 rfl rfl, tg1 5 rfl rfl, by decide +kernel⟩
theorem nw_X11_37 : NW RX11 37 3 19 := ⟨_, _, _, kc_3, tg1 155 rfl rfl, tg1 156 rfl rfl, tg1 6 rfl rfl, by decide +kernel⟩
theorem nw_X11_7 : NW RX11 7 7 8 := ⟨_, _, _, kc_7, tg1 36 rfl rfl, tg1 37 rfl rfl, tg1 2 rfl rfl, by decide +kernel⟩
theorem nw_X3_28 : NW RX3 28 1 3 := ⟨_, _, _, kc_1, tg1 161 rfl rfl, tg1 196 rfl rfl, tg1 8 rfl rfl, by decide +kernel⟩
theorem nw_X3_34 : NW RX3 34 2 3 := ⟨_, _, _, kc_2, tg1 163 rfl rfl, tg1 214 rfl rfl, tg1 9 rfl rfl, by decide +kernel⟩
theorem nw_X3_40 : NW RX3 40 4 10 := ⟨_, _, _, kc_4, tg1 165 rfl rfl, tg1 234 rfl rfl, tg1 10 rfl rfl, by decide +kernel⟩
theorem nw_X3_46 : NW RX3 46 8 7 := ⟨_, _, _, kc_8, tg1 167 rfl rfl, tg1 168 rfl rfl, tg1 7 rfl rfl, by decide +kernel⟩
theorem oi_X0_3 : OI RX0 3 := ⟨tg1 77 rfl rfl, tg1 34 rfl rfl, tg1 35 rfl rfl⟩
theorem oi_X11_1 : OI RX11 1 := ⟨tg1 33 rfl rfl, tg1 34 rfl rfl, tg1 35 rfl rfl⟩
theorem oi_X12_7 : OI RX12 7 := ⟨tg6 81 rfl rfl, tg1 34 rfl rfl, tg1 35 rfl rfl⟩
theorem oi_X1_1 : OI RX1 1 := ⟨tg1 200 rfl rfl, tg1 34 rfl rfl, tg1 35 rfl rfl⟩
theorem oi_X2_1 : OI RX2 1 := ⟨tg1 218 rfl rfl, tg1 34 rfl rfl, tg1 35 rfl rfl⟩
theorem oi_X3_3 : OI RX3 3 := ⟨tg1 160 rfl rfl, tg1 34 rfl rfl, tg1 35 rfl rfl⟩
theorem oi_X5_3 : OI RX5 3 := ⟨tg1 238 rfl rfl, tg1 34 rfl rfl, tg1 35 rfl rfl⟩
theorem oi_X6_3 : OI RX6 3 := ⟨tg1 108 rfl rfl, tg1 34 rfl rfl, tg1 35 rfl rfl⟩
theorem oi_X7_3 : OI RX7 3 := ⟨tg1 135 rfl rfl, tg1 34 rfl rfl, tg1 35 rfl rfl⟩
theorem oi_X8_3 : OI RX8 3 := ⟨tg1 41 rfl rfl, tg1 34 rfl rfl, tg1 35 rfl rfl⟩
theorem oi_X9_3 : OI RX9 3 := ⟨tg1 172 rfl rfl, tg1 34 rfl rfl, tg1 35 rfl rfl⟩
def jI_X1 (q : Nat) (I : MI) : MI := up2 (up2 (up2 I q 0 0) q 1 0) q 2 0
abbrev mX1_init : Mth := (yX1_init, cX1_init, 1, none)
set_option maxRecDepth 100000 in
set_option maxHeartbeats 4000000 in
theorem D_X1 {g : Gx} {a n : Nat} (ha : shp a = (0, 1)) (hn : a < n) {I : MI} {L : ML} {S : MS} : EntC g 2 0 0 mX1_init a (I, L, S, n) (jI_X1 a I, L, S, n) := by
  refine EntC_of (by decide +kernel) rfl (by have := shp_lt ha (by decide); omega) (by decide) ?_
  refine EC_aload_n 1 rfl dX1_init_0 rfl 0 rfl ?_
  refine EC_obj 4 rfl dX1_init_1 oi_X1_1 (by decide) (Nat.le_of_ble_eq_true rfl) ?_
  refine EC_aload_n 5 rfl dX1_init_4 rfl 0 rfl ?_
  refine EC_iconst (v := 0) 6 rfl dX1_init_5 (by decide) ?_
  refine EC_pI 9 rfl dX1_init_6 ha hn fl_X1_7 rfl rfl ?_
  refine EC_aload_n 10 rfl dX1_init_9 rfl 0 rfl ?_
  refine EC_iconst (v := 0) 11 rfl dX1_init_10 (by decide) ?_
  refine EC_pI 14 rfl dX1_init_11 ha hn fl_X1_13 rfl rfl ?_
  refine EC_aload_n 15 rfl dX1_init_14 rfl 0 rfl ?_
  refine EC_iconst (v := 0) 16 rfl dX1_init_15 (by decide) ?_
  refine EC_pI 19 rfl dX1_init_16 ha hn fl_X1_16 rfl rfl ?_
  exact EC_ret rfl dX1_init_19 rfl
theorem cn_X3_85 : CN RX3 85 mX1_init := ⟨by decide +kernel, tg1 8 rfl rfl, tg1 199 rfl rfl, ⟨by decide, by decide⟩, by decide +kernel, by decide, rfl, rfl, tg1 198 rfl rfl⟩
def jI_X2 (q : Nat) (I : MI) : MI := up2 (up2 (up2 I q 0 0) q 1 0) q 2 0
abbrev mX2_init : Mth := (yX2_init, cX2_init, 1, none)
set_option maxRecDepth 100000 in
set_option maxHeartbeats 4000000 in
theorem D_X2 {g : Gx} {a n : Nat} (ha : shp a = (0, 2)) (hn : a < n) {I : MI} {L : ML} {S : MS} : EntC g 2 0 0 mX2_init a (I, L, S, n) (jI_X2 a I, L, S, n) := by
  refine EntC_of (by decide +kernel) rfl (by have := shp_lt ha (by decide); omega) (by decide) ?_
  refine EC_aload_n 1 rfl dX2_init_0 rfl 0 rfl ?_
  refine EC_obj 4 rfl dX2_init_1 oi_X2_1 (by decide) (Nat.le_of_ble_eq_true rfl) ?_
  refine EC_aload_n 5 rfl dX2_init_4 rfl 0 rfl ?_
  refine EC_iconst (v := 0) 6 rfl dX2_init_5 (by decide) ?_
  refine EC_pI 9 rfl dX2_init_6 ha hn fl_X2_7 rfl rfl ?_
  refine EC_aload_n 10 rfl dX2_init_9 rfl 0 rfl ?_
  refine EC_iconst (v := 0) 11 rfl dX2_init_10 (by decide) ?_
  refine EC_pI 14 rfl dX2_init_11 ha hn fl_X2_13 rfl rfl ?_
  refine EC_aload_n 15 rfl dX2_init_14 rfl 0 rfl ?_
  refine EC_iconst (v := 0) 16 rfl dX2_init_15 (by decide) ?_
  refine EC_pI 19 rfl dX2_init_16 ha hn fl_X2_16 rfl rfl ?_
  exact EC_ret rfl dX2_init_19 rfl
theorem cn_X3_86 : CN RX3 86 mX2_init := ⟨by decide +kernel, tg1 9 rfl rfl, tg1 217 rfl rfl, ⟨by decide, by decide⟩, by decide +kernel, by decide, rfl, rfl, tg1 216 rfl rfl⟩
def jI_X5 (q : Nat) (I : MI) : MI := up2 (up2 (up2 (up2 (up2 (up2 (up2 (up2 (up2 (up2 I q 0 0) q 1 0) q 2 0) q 3 0) q 4 0) q 5 0) q 6 0) q 7 ((-1))) q 8 0) q 9 (bI false)
abbrev mX5_init : Mth := (yX5_init, cX5_init, 1, none)
set_option maxRecDepth 100000 in
set_option maxHeartbeats 4000000 in
theorem D_X5 {g : Gx} {a n : Nat} (ha : shp a = (0, 4)) (hn : a < n) {I : MI} {L : ML} {S : MS} : EntC g 2 0 0 mX5_init a (I, L, S, n) (jI_X5 a I, L, S, n) := by
  refine EntC_of (by decide +kernel) rfl (by have := shp_lt ha (by decide); omega) (by decide) ?_
  refine EC_aload_n 1 rfl dX5_init_0 rfl 0 rfl ?_
  refine EC_obj 4 rfl dX5_init_1 oi_X5_3 (by decide) (Nat.le_of_ble_eq_true rfl) ?_
  refine EC_aload_n 5 rfl dX5_init_4 rfl 0 rfl ?_
  refine EC_iconst (v := 0) 6 rfl dX5_init_5 (by decide) ?_
  refine EC_pI 9 rfl dX5_init_6 ha hn fl_X5_9 rfl rfl ?_
  refine EC_aload_n 10 rfl dX5_init_9 rfl 0 rfl ?_
  refine EC_iconst (v := 0) 11 rfl dX5_init_10 (by decide) ?_
  refine EC_pI 14 rfl dX5_init_11 ha hn fl_X5_15 rfl rfl ?_
  refine EC_aload_n 15 rfl dX5_init_14 rfl 0 rfl ?_
  refine EC_iconst (v := 0) 16 rfl dX5_init_15 (by decide) ?_
  refine EC_pI 19 rfl dX5_init_16 ha hn fl_X5_18 rfl rfl ?_
  refine EC_aload_n 20 rfl dX5_init_19 rfl 0 rfl ?_
  refine EC_iconst (v := 0) 21 rfl dX5_init_20 (by decide) ?_
  refine EC_pI 24 rfl dX5_init_21 ha hn fl_X5_21 rfl rfl ?_
  refine EC_aload_n 25 rfl dX5_init_24 rfl 0 rfl ?_
  refine EC_iconst (v := 0) 26 rfl dX5_init_25 (by decide) ?_
  refine EC_pI 29 rfl dX5_init_26 ha hn fl_X5_24 rfl rfl ?_
  refine EC_aload_n 30 rfl dX5_init_29 rfl 0 rfl ?_
  refine EC_iconst (v := 0) 31 rfl dX5_init_30 (by decide) ?_
  refine EC_pI 34 rfl dX5_init_31 ha hn fl_X5_27 rfl rfl ?_
  refine EC_aload_n 35 rfl dX5_init_34 rfl 0 rfl ?_
  refine EC_iconst (v := 0) 36 rfl dX5_init_35 (by decide) ?_
  refine EC_pI 39 rfl dX5_init_36 ha hn fl_X5_30 rfl rfl ?_
  refine EC_aload_n 40 rfl dX5_init_39 rfl 0 rfl ?_
  refine EC_iconst (v := (-1)) 41 rfl dX5_init_40 (by decide) ?_
  refine EC_pI 44 rfl dX5_init_41 ha hn fl_X5_33 rfl rfl ?_
  refine EC_aload_n 45 rfl dX5_init_44 rfl 0 rfl ?_
  refine EC_iconst (v := 0) 46 rfl dX5_init_45 (by decide) ?_
  refine EC_pI 49 rfl dX5_init_46 ha hn fl_X5_36 rfl rfl ?_
  refine EC_aload_n 50 rfl dX5_init_49 rfl 0 rfl ?_
  refine EC_iconst (v := 0) 51 rfl dX5_init_50 (by decide) ?_
  refine EC_pB (x := false) 54 rfl dX5_init_51 ha hn fl_X5_39 rfl ?_
  exact EC_ret rfl dX5_init_54 rfl
theorem cn_X3_87 : CN RX3 87 mX5_init := ⟨by decide +kernel, tg1 10 rfl rfl, tg1 237 rfl rfl, ⟨by decide, by decide⟩, by decide +kernel, by decide, rfl, rfl, tg1 236 rfl rfl⟩
def jI_X8 (I : MI) : MI := up2 (up2 (up2 (up2 (up2 (up2 (up2 I 1 1 0) 1 2 0) 1 3 0) 1 4 0) 1 5 0) 1 6 ((-1))) 1 7 ((-1))
def jS_X8 (S : MS) : MS := upS S 1 0
abbrev mX8_init : Mth := (yX8_init, cX8_init, 1, none)
set_option maxRecDepth 100000 in
set_option maxHeartbeats 4000000 in
theorem D_X8 {g : Gx} {I : MI} {L : ML} {S : MS} : EntC g 2 1 400 mX8_init 1 (I, L, S, 2) (jI_X8 I, L, jS_X8 S, 3) := by
  refine EntC_of (by decide +kernel) rfl (by decide) (by decide) ?_
  refine EC_aload_n 1 rfl dX8_init_0 rfl 0 rfl ?_
  refine EC_obj 4 rfl dX8_init_1 oi_X8_3 (by decide) (Nat.le_of_ble_eq_true rfl) ?_
  refine EC_aload_n 5 rfl dX8_init_4 rfl 0 rfl ?_
  refine EC_sipush (v := 400) 8 rfl dX8_init_5 (by decide) ?_
  refine EC_nab (M := mX8_init) (N := 400) (bc := 0) (bs := 0) 10 rfl dX8_init_8 shc_2 (by decide) (by decide) (by decide) acB ?_
  refine EC_pR 13 rfl dX8_init_10 shc_1 (by decide) fl_X8_9 (fun C T N h9 => by cases h9; rfl) (Or.inr ⟨_, rfl⟩) rfl (by decide) (by decide) ?_
  refine EC_aload_n 14 rfl dX8_init_13 rfl 0 rfl ?_
  refine EC_iconst (v := 0) 15 rfl dX8_init_14 (by decide) ?_
  refine EC_pI 18 rfl dX8_init_15 shc_1 (by decide) fl_X8_15 rfl rfl ?_
  refine EC_aload_n 19 rfl dX8_init_18 rfl 0 rfl ?_
  refine EC_iconst (v := 0) 20 rfl dX8_init_19 (by decide) ?_
  refine EC_pI 23 rfl dX8_init_20 shc_1 (by decide) fl_X8_19 rfl rfl ?_
  refine EC_aload_n 24 rfl dX8_init_23 rfl 0 rfl ?_
  refine EC_iconst (v := 0) 25 rfl dX8_init_24 (by decide) ?_
  refine EC_pI 28 rfl dX8_init_25 shc_1 (by decide) fl_X8_22 rfl rfl ?_
  refine EC_aload_n 29 rfl dX8_init_28 rfl 0 rfl ?_
  refine EC_iconst (v := 0) 30 rfl dX8_init_29 (by decide) ?_
  refine EC_pI 33 rfl dX8_init_30 shc_1 (by decide) fl_X8_25 rfl rfl ?_
  refine EC_aload_n 34 rfl dX8_init_33 rfl 0 rfl ?_
  refine EC_iconst (v := 0) 35 rfl dX8_init_34 (by decide) ?_
  refine EC_pI 38 rfl dX8_init_35 shc_1 (by decide) fl_X8_28 rfl rfl ?_
  refine EC_aload_n 39 rfl dX8_init_38 rfl 0 rfl ?_
  refine EC_iconst (v := (-1)) 40 rfl dX8_init_39 (by decide) ?_
  refine EC_pI 43 rfl dX8_init_40 shc_1 (by decide) fl_X8_31 rfl rfl ?_
  refine EC_aload_n 44 rfl dX8_init_43 rfl 0 rfl ?_
  refine EC_iconst (v := (-1)) 45 rfl dX8_init_44 (by decide) ?_
  refine EC_pI 48 rfl dX8_init_45 shc_1 (by decide) fl_X8_34 rfl rfl ?_
  exact EC_ret rfl dX8_init_48 rfl
theorem cn_X11_9 : CN RX11 9 mX8_init := ⟨by decide +kernel, tg1 2 rfl rfl, tg1 40 rfl rfl, ⟨by decide, by decide⟩, by decide +kernel, by decide, rfl, rfl, tg1 39 rfl rfl⟩
def jI_X0 (I : MI) : MI := up2 (up2 I 3 4 0) 3 5 0
def jS_X0 (S : MS) : MS := upS (upS (upS (upS S 3 0) 3 1) 3 2) 3 3
abbrev mX0_init : Mth := (yX0_init, cX0_init, 1, none)
set_option maxRecDepth 100000 in
set_option maxHeartbeats 4000000 in
theorem D_X0 {g : Gx} {I : MI} {L : ML} {S : MS} : EntC g 2 4 48 mX0_init 3 (I, L, S, 4) (jI_X0 I, L, jS_X0 S, 8) := by
  refine EntC_of (by decide +kernel) rfl (by decide) (by decide) ?_
  refine EC_aload_n 1 rfl dX0_init_0 rfl 0 rfl ?_
  refine EC_obj 4 rfl dX0_init_1 oi_X0_3 (by decide) (Nat.le_of_ble_eq_true rfl) ?_
  refine EC_aload_n 5 rfl dX0_init_4 rfl 0 rfl ?_
  refine EC_bipush (v := 12) 7 rfl dX0_init_5 (by decide) ?_
  refine EC_nai (M := mX0_init) (N := 12) (bc := 3) (bs := 36) 9 rfl dX0_init_7 shc_4 (by decide) (by decide) (by decide) acI ?_
  refine EC_pR 12 rfl dX0_init_9 shc_3 (by decide) fl_X0_9 (fun C T N h9 => by cases h9; rfl) (Or.inr ⟨_, rfl⟩) rfl (by decide) (by decide) ?_
  refine EC_aload_n 13 rfl dX0_init_12 rfl 0 rfl ?_
  refine EC_bipush (v := 12) 15 rfl dX0_init_13 (by decide) ?_
  refine EC_nai (M := mX0_init) (N := 12) (bc := 2) (bs := 24) 17 rfl dX0_init_15 shc_5 (by decide) (by decide) (by decide) acI ?_
  refine EC_pR 20 rfl dX0_init_17 shc_3 (by decide) fl_X0_15 (fun C T N h9 => by cases h9; rfl) (Or.inr ⟨_, rfl⟩) rfl (by decide) (by decide) ?_
  refine EC_aload_n 21 rfl dX0_init_20 rfl 0 rfl ?_
  refine EC_bipush (v := 12) 23 rfl dX0_init_21 (by decide) ?_
  refine EC_nai (M := mX0_init) (N := 12) (bc := 1) (bs := 12) 25 rfl dX0_init_23 shc_6 (by decide) (by decide) (by decide) acI ?_
  refine EC_pR 28 rfl dX0_init_25 shc_3 (by decide) fl_X0_18 (fun C T N h9 => by cases h9; rfl) (Or.inr ⟨_, rfl⟩) rfl (by decide) (by decide) ?_
  refine EC_aload_n 29 rfl dX0_init_28 rfl 0 rfl ?_
  refine EC_bipush (v := 12) 31 rfl dX0_init_29 (by decide) ?_
  refine EC_nai (M := mX0_init) (N := 12) (bc := 0) (bs := 0) 33 rfl dX0_init_31 shc_7 (by decide) (by decide) (by decide) acI ?_
  refine EC_pR 36 rfl dX0_init_33 shc_3 (by decide) fl_X0_21 (fun C T N h9 => by cases h9; rfl) (Or.inr ⟨_, rfl⟩) rfl (by decide) (by decide) ?_
  refine EC_aload_n 37 rfl dX0_init_36 rfl 0 rfl ?_
  refine EC_iconst (v := 0) 38 rfl dX0_init_37 (by decide) ?_
  refine EC_pI 41 rfl dX0_init_38 shc_3 (by decide) fl_X0_24 rfl rfl ?_
  refine EC_aload_n 42 rfl dX0_init_41 rfl 0 rfl ?_
  refine EC_iconst (v := 0) 43 rfl dX0_init_42 (by decide) ?_
  refine EC_pI 46 rfl dX0_init_43 shc_3 (by decide) fl_X0_28 rfl rfl ?_
  exact EC_ret rfl dX0_init_46 rfl
theorem cn_X11_18 : CN RX11 18 mX0_init := ⟨by decide +kernel, tg1 3 rfl rfl, tg1 76 rfl rfl, ⟨by decide, by decide⟩, by decide +kernel, by decide, rfl, rfl, tg1 75 rfl rfl⟩
def jI_X6 (I : MI) : MI := up2 (up2 I 8 0 0) 8 2 0
def jS_X6 (S : MS) : MS := upS (upS S 8 1) 8 3
def jL_X6 (L : ML) : ML := upl L 8 4 0
abbrev mX6_init : Mth := (yX6_init, cX6_init, 1, none)
set_option maxRecDepth 100000 in
set_option maxHeartbeats 4000000 in
theorem D_X6 {g : Gx} {I : MI} {L : ML} {S : MS} : EntC g 2 2 12 mX6_init 8 (I, L, S, 9) (jI_X6 I, jL_X6 L, jS_X6 S, 11) := by
  refine EntC_of (by decide +kernel) rfl (by decide) (by decide) ?_
  refine EC_aload_n 1 rfl dX6_init_0 rfl 0 rfl ?_
  refine EC_obj 4 rfl dX6_init_1 oi_X6_3 (by decide) (Nat.le_of_ble_eq_true rfl) ?_
  refine EC_aload_n 5 rfl dX6_init_4 rfl 0 rfl ?_
  refine EC_iconst (v := 0) 6 rfl dX6_init_5 (by decide) ?_
  refine EC_pI 9 rfl dX6_init_6 shc_8 (by decide) fl_X6_9 rfl rfl ?_
  refine EC_aload_n 10 rfl dX6_init_9 rfl 0 rfl ?_
  refine EC_bipush (v := 6) 12 rfl dX6_init_10 (by decide) ?_
  refine EC_nai (M := mX6_init) (N := 6) (bc := 1) (bs := 6) 14 rfl dX6_init_12 shc_9 (by decide) (by decide) (by decide) acI ?_
  refine EC_pR 17 rfl dX6_init_14 shc_8 (by decide) fl_X6_15 (fun C T N h9 => by cases h9; rfl) (Or.inr ⟨_, rfl⟩) rfl (by decide) (by decide) ?_
  refine EC_aload_n 18 rfl dX6_init_17 rfl 0 rfl ?_
  refine EC_iconst (v := 0) 19 rfl dX6_init_18 (by decide) ?_
  refine EC_pI 22 rfl dX6_init_19 shc_8 (by decide) fl_X6_19 rfl rfl ?_
  refine EC_aload_n 23 rfl dX6_init_22 rfl 0 rfl ?_
  refine EC_bipush (v := 6) 25 rfl dX6_init_23 (by decide) ?_
  refine EC_nal (M := mX6_init) (N := 6) (bc := 0) (bs := 0) 27 rfl dX6_init_25 shc_10 (by decide) (by decide) (by decide) acL ?_
  refine EC_pR 30 rfl dX6_init_27 shc_8 (by decide) fl_X6_22 (fun C T N h9 => by cases h9; rfl) (Or.inr ⟨_, rfl⟩) rfl (by decide) (by decide) ?_
  refine EC_aload_n 31 rfl dX6_init_30 rfl 0 rfl ?_
  refine EC_lconst (v := 0) 32 rfl dX6_init_31 (by decide) ?_
  refine EC_pL 35 rfl dX6_init_32 shc_8 (by decide) fl_X6_26 rfl ?_
  exact EC_ret rfl dX6_init_35 rfl
theorem cn_X11_25 : CN RX11 25 mX6_init := ⟨by decide +kernel, tg1 4 rfl rfl, tg1 107 rfl rfl, ⟨by decide, by decide⟩, by decide +kernel, by decide, rfl, rfl, tg1 106 rfl rfl⟩
def jI_X7 (I : MI) : MI := up2 (up2 (up2 I 11 2 0) 11 3 0) 11 4 0
def jS_X7 (S : MS) : MS := upS (upS S 11 0) 11 1
def jL_X7 (L : ML) : ML := upl L 11 5 0
abbrev mX7_init : Mth := (yX7_init, cX7_init, 1, none)
set_option maxRecDepth 100000 in
set_option maxHeartbeats 4000000 in
theorem D_X7 {g : Gx} {I : MI} {L : ML} {S : MS} : EntC g 2 2 24 mX7_init 11 (I, L, S, 12) (jI_X7 I, jL_X7 L, jS_X7 S, 14) := by
  refine EntC_of (by decide +kernel) rfl (by decide) (by decide) ?_
  refine EC_aload_n 1 rfl dX7_init_0 rfl 0 rfl ?_
  refine EC_obj 4 rfl dX7_init_1 oi_X7_3 (by decide) (Nat.le_of_ble_eq_true rfl) ?_
  refine EC_aload_n 5 rfl dX7_init_4 rfl 0 rfl ?_
  refine EC_bipush (v := 12) 7 rfl dX7_init_5 (by decide) ?_
  refine EC_nai (M := mX7_init) (N := 12) (bc := 1) (bs := 12) 9 rfl dX7_init_7 shc_12 (by decide) (by decide) (by decide) acI ?_
  refine EC_pR 12 rfl dX7_init_9 shc_11 (by decide) fl_X7_9 (fun C T N h9 => by cases h9; rfl) (Or.inr ⟨_, rfl⟩) rfl (by decide) (by decide) ?_
  refine EC_aload_n 13 rfl dX7_init_12 rfl 0 rfl ?_
  refine EC_bipush (v := 12) 15 rfl dX7_init_13 (by decide) ?_
  refine EC_nal (M := mX7_init) (N := 12) (bc := 0) (bs := 0) 17 rfl dX7_init_15 shc_13 (by decide) (by decide) (by decide) acL ?_
  refine EC_pR 20 rfl dX7_init_17 shc_11 (by decide) fl_X7_15 (fun C T N h9 => by cases h9; rfl) (Or.inr ⟨_, rfl⟩) rfl (by decide) (by decide) ?_
  refine EC_aload_n 21 rfl dX7_init_20 rfl 0 rfl ?_
  refine EC_iconst (v := 0) 22 rfl dX7_init_21 (by decide) ?_
  refine EC_pI 25 rfl dX7_init_22 shc_11 (by decide) fl_X7_19 rfl rfl ?_
  refine EC_aload_n 26 rfl dX7_init_25 rfl 0 rfl ?_
  refine EC_iconst (v := 0) 27 rfl dX7_init_26 (by decide) ?_
  refine EC_pI 30 rfl dX7_init_27 shc_11 (by decide) fl_X7_23 rfl rfl ?_
  refine EC_aload_n 31 rfl dX7_init_30 rfl 0 rfl ?_
  refine EC_iconst (v := 0) 32 rfl dX7_init_31 (by decide) ?_
  refine EC_pI 35 rfl dX7_init_32 shc_11 (by decide) fl_X7_26 rfl rfl ?_
  refine EC_aload_n 36 rfl dX7_init_35 rfl 0 rfl ?_
  refine EC_lconst (v := 0) 37 rfl dX7_init_36 (by decide) ?_
  refine EC_pL 40 rfl dX7_init_37 shc_11 (by decide) fl_X7_29 rfl ?_
  exact EC_ret rfl dX7_init_40 rfl
theorem cn_X11_32 : CN RX11 32 mX7_init := ⟨by decide +kernel, tg1 5 rfl rfl, tg1 134 rfl rfl, ⟨by decide, by decide⟩, by decide +kernel, by decide, rfl, rfl, tg1 133 rfl rfl⟩
def jI_X12 (I : MI) : MI := up2 (up2 I 149 13 ((-1))) 150 13 1
def jS_X12 (S : MS) : MS := upS (upS (upS (upS (upS (upS (upS (upS (upS (upS S 149 1) 149 2) 149 3) 149 4) 149 7) 149 14) 149 16) 149 17) 149 18) 149 19
abbrev mX12_init : Mth := (yX12_init, cX12_init, 1, none)
set_option maxRecDepth 100000 in
set_option maxHeartbeats 4000000 in
theorem D_X12 {g : Gx} {I : MI} {L : ML} {S : MS} : EntC g 2 10 10988 mX12_init 149 (I, L, S, 150) (jI_X12 I, L, jS_X12 S, 160) := by
  refine EntC_of (by decide +kernel) rfl (by decide) (by decide) ?_
  refine EC_aload_n 1 rfl dX12_init_0 rfl 0 rfl ?_
  refine EC_obj 4 rfl dX12_init_1 oi_X12_7 (by decide) (Nat.le_of_ble_eq_true rfl) ?_
  refine EC_aload_n 5 rfl dX12_init_4 rfl 0 rfl ?_
  refine EC_sipush (v := 2143) 8 rfl dX12_init_5 (by decide) ?_
  refine EC_nai (M := mX12_init) (N := 2143) (bc := 9) (bs := 8845) 10 rfl dX12_init_8 shc_150 (by decide) (by decide) (by decide) acI ?_
  refine EC_pR 13 rfl dX12_init_10 shc_149 (by decide) fl_X12_13 (fun C T N h9 => by cases h9; rfl) (Or.inr ⟨_, rfl⟩) rfl (by decide) (by decide) ?_
  refine EC_aload_n 14 rfl dX12_init_13 rfl 0 rfl ?_
  refine EC_sipush (v := 1294) 17 rfl dX12_init_14 (by decide) ?_
  refine EC_nai (M := mX12_init) (N := 1294) (bc := 8) (bs := 7551) 19 rfl dX12_init_17 shc_151 (by decide) (by decide) (by decide) acI ?_
  refine EC_pR 22 rfl dX12_init_19 shc_149 (by decide) fl_X12_17 (fun C T N h9 => by cases h9; rfl) (Or.inr ⟨_, rfl⟩) rfl (by decide) (by decide) ?_
  refine EC_aload_n 23 rfl dX12_init_22 rfl 0 rfl ?_
  refine EC_sipush (v := 1294) 26 rfl dX12_init_23 (by decide) ?_
  refine EC_nai (M := mX12_init) (N := 1294) (bc := 7) (bs := 6257) 28 rfl dX12_init_26 shc_152 (by decide) (by decide) (by decide) acI ?_
  refine EC_pR 31 rfl dX12_init_28 shc_149 (by decide) fl_X12_20 (fun C T N h9 => by cases h9; rfl) (Or.inr ⟨_, rfl⟩) rfl (by decide) (by decide) ?_
  refine EC_aload_n 32 rfl dX12_init_31 rfl 0 rfl ?_
  refine EC_sipush (v := 5340) 35 rfl dX12_init_32 (by decide) ?_
  refine EC_nai (M := mX12_init) (N := 5340) (bc := 6) (bs := 917) 37 rfl dX12_init_35 shc_153 (by decide) (by decide) (by decide) acI ?_
  refine EC_pR 40 rfl dX12_init_37 shc_149 (by decide) fl_X12_23 (fun C T N h9 => by cases h9; rfl) (Or.inr ⟨_, rfl⟩) rfl (by decide) (by decide) ?_
  refine EC_aload_n 41 rfl dX12_init_40 rfl 0 rfl ?_
  refine EC_sipush (v := 400) 44 rfl dX12_init_41 (by decide) ?_
  refine EC_nab (M := mX12_init) (N := 400) (bc := 5) (bs := 517) 46 rfl dX12_init_44 shc_154 (by decide) (by decide) (by decide) acB ?_
  refine EC_pR 49 rfl dX12_init_46 shc_149 (by decide) fl_X12_26 (fun C T N h9 => by cases h9; rfl) (Or.inr ⟨_, rfl⟩) rfl (by decide) (by decide) ?_
  refine EC_aload_n 50 rfl dX12_init_49 rfl 0 rfl ?_
  refine EC_iconst (v := (-1)) 51 rfl dX12_init_50 (by decide) ?_
  refine EC_pI 54 rfl dX12_init_51 shc_149 (by decide) fl_X12_30 rfl rfl ?_
  refine EC_aload_n 55 rfl dX12_init_54 rfl 0 rfl ?_
  refine EC_iconst (v := 5) 56 rfl dX12_init_55 (by decide) ?_
  refine EC_nai (M := mX12_init) (N := 5) (bc := 4) (bs := 512) 58 rfl dX12_init_56 shc_155 (by decide) (by decide) (by decide) acI ?_
  refine EC_pR 61 rfl dX12_init_58 shc_149 (by decide) fl_X12_33 (fun C T N h9 => by cases h9; rfl) (Or.inr ⟨_, rfl⟩) rfl (by decide) (by decide) ?_
  refine EC_aload_n 62 rfl dX12_init_61 rfl 0 rfl ?_
  refine EC_bipush (v := 100) 64 rfl dX12_init_62 (by decide) ?_
  refine EC_nai (M := mX12_init) (N := 100) (bc := 3) (bs := 412) 66 rfl dX12_init_64 shc_156 (by decide) (by decide) (by decide) acI ?_
  refine EC_pR 69 rfl dX12_init_66 shc_149 (by decide) fl_X12_36 (fun C T N h9 => by cases h9; rfl) (Or.inr ⟨_, rfl⟩) rfl (by decide) (by decide) ?_
  refine EC_aload_n 70 rfl dX12_init_69 rfl 0 rfl ?_
  refine EC_sipush (v := 400) 73 rfl dX12_init_70 (by decide) ?_
  refine EC_nai (M := mX12_init) (N := 400) (bc := 2) (bs := 12) 75 rfl dX12_init_73 shc_157 (by decide) (by decide) (by decide) acI ?_
  refine EC_pR 78 rfl dX12_init_75 shc_149 (by decide) fl_X12_39 (fun C T N h9 => by cases h9; rfl) (Or.inr ⟨_, rfl⟩) rfl (by decide) (by decide) ?_
  refine EC_aload_n 79 rfl dX12_init_78 rfl 0 rfl ?_
  refine EC_bipush (v := 6) 81 rfl dX12_init_79 (by decide) ?_
  refine EC_nai (M := mX12_init) (N := 6) (bc := 1) (bs := 6) 83 rfl dX12_init_81 shc_158 (by decide) (by decide) (by decide) acI ?_
  refine EC_pR 86 rfl dX12_init_83 shc_149 (by decide) fl_X12_42 (fun C T N h9 => by cases h9; rfl) (Or.inr ⟨_, rfl⟩) rfl (by decide) (by decide) ?_
  refine EC_aload_n 87 rfl dX12_init_86 rfl 0 rfl ?_
  refine EC_bipush (v := 6) 89 rfl dX12_init_87 (by decide) ?_
  refine EC_nal (M := mX12_init) (N := 6) (bc := 0) (bs := 0) 91 rfl dX12_init_89 shc_159 (by decide) (by decide) (by decide) acL ?_
  refine EC_pR 94 rfl dX12_init_91 shc_149 (by decide) fl_X12_45 (fun C T N h9 => by cases h9; rfl) (Or.inr ⟨_, rfl⟩) rfl (by decide) (by decide) ?_
  refine EC_aload_n 95 rfl dX12_init_94 rfl 0 rfl ?_
  refine EC_gR 150 98 rfl dX12_init_95 shc_149 (by decide) fl_X12_13 rfl (by simp [upS]) (by decide) (by decide) ?_
  refine EC_bipush (v := 13) 100 rfl dX12_init_98 (by decide) ?_
  refine EC_iconst (v := 1) 101 rfl dX12_init_100 (by decide) ?_
  refine EC_ist 13 (by decide) 102 rfl dX12_init_101 shc_150 (by decide) (by unfold vp_in; decide) ?_
  exact EC_ret rfl dX12_init_102 rfl
def jI_X9 (h : Nat) (I : MI) : MI := up2 (up2 I (h + 5) 4 ((-1))) (h + 5) 5 0
def jS_X9 (h : Nat) (S : MS) : MS := upS (upS (upS (upS (upS S (h + 5) 0) (h + 5) 1) (h + 5) 2) (h + 5) 3) (h + 5) 6
abbrev mX9_init : Mth := (yX9_init, cX9_init, 1, none)
set_option maxRecDepth 100000 in
set_option maxHeartbeats 4000000 in
theorem D_X9 {g : Gx} {h : Nat} (hh : isH h) {I : MI} {L : ML} {S : MS} : EntC g 2 5 453 mX9_init (h + 5) (I, L, S, h + 6) (jI_X9 h I, L, jS_X9 h S, h + 11) := by
  refine EntC_of (by decide +kernel) rfl (H_lt hh 5 (by decide)) (by decide) ?_
  refine EC_aload_n 1 rfl dX9_init_0 rfl 0 rfl ?_
  refine EC_obj 4 rfl dX9_init_1 oi_X9_3 (by decide) (Nat.le_of_ble_eq_true rfl) ?_
  refine EC_aload_n 5 rfl dX9_init_4 rfl 0 rfl ?_
  refine EC_bipush (v := 12) 7 rfl dX9_init_5 (by decide) ?_
  refine EC_nai (M := mX9_init) (N := 12) (bc := 4) (bs := 441) 9 rfl dX9_init_7 (sh_H6 hh) (by decide) (by decide) (by decide) acI ?_
  refine EC_pR 12 rfl dX9_init_9 (sh_H5 hh) (by omega) fl_X9_9 (fun C T N h9 => by cases h9; rfl) (Or.inr ⟨_, rfl⟩) rfl (rt_W0 hh) (H_lt hh 6 (by decide)) ?_
  refine EC_aload_n 13 rfl dX9_init_12 rfl 0 rfl ?_
  refine EC_bipush (v := 12) 15 rfl dX9_init_13 (by decide) ?_
  refine EC_nai (M := mX9_init) (N := 12) (bc := 3) (bs := 429) 17 rfl dX9_init_15 (sh_H7 hh) (by decide) (by decide) (by decide) acI ?_
  refine EC_pR 20 rfl dX9_init_17 (sh_H5 hh) (by omega) fl_X9_15 (fun C T N h9 => by cases h9; rfl) (Or.inr ⟨_, rfl⟩) rfl (rt_W1 hh) (H_lt hh 7 (by decide)) ?_
  refine EC_aload_n 21 rfl dX9_init_20 rfl 0 rfl ?_
  refine EC_bipush (v := 12) 23 rfl dX9_init_21 (by decide) ?_
  refine EC_nai (M := mX9_init) (N := 12) (bc := 2) (bs := 417) 25 rfl dX9_init_23 (sh_H8 hh) (by decide) (by decide) (by decide) acI ?_
  refine EC_pR 28 rfl dX9_init_25 (sh_H5 hh) (by omega) fl_X9_18 (fun C T N h9 => by cases h9; rfl) (Or.inr ⟨_, rfl⟩) rfl (rt_W2 hh) (H_lt hh 8 (by decide)) ?_
  refine EC_aload_n 29 rfl dX9_init_28 rfl 0 rfl ?_
  refine EC_sipush (v := 400) 32 rfl dX9_init_29 (by decide) ?_
  refine EC_nai (M := mX9_init) (N := 400) (bc := 1) (bs := 17) 34 rfl dX9_init_32 (sh_H9 hh) (by decide) (by decide) (by decide) acI ?_
  refine EC_pR 37 rfl dX9_init_34 (sh_H5 hh) (by omega) fl_X9_21 (fun C T N h9 => by cases h9; rfl) (Or.inr ⟨_, rfl⟩) rfl (rt_W3 hh) (H_lt hh 9 (by decide)) ?_
  refine EC_aload_n 38 rfl dX9_init_37 rfl 0 rfl ?_
  refine EC_iconst (v := (-1)) 39 rfl dX9_init_38 (by decide) ?_
  refine EC_pI 42 rfl dX9_init_39 (sh_H5 hh) (by omega) fl_X9_24 rfl rfl ?_
  refine EC_aload_n 43 rfl dX9_init_42 rfl 0 rfl ?_
  refine EC_iconst (v := 0) 44 rfl dX9_init_43 (by decide) ?_
  refine EC_pI 47 rfl dX9_init_44 (sh_H5 hh) (by omega) fl_X9_28 rfl rfl ?_
  refine EC_aload_n 48 rfl dX9_init_47 rfl 0 rfl ?_
  refine EC_bipush (v := 17) 50 rfl dX9_init_48 (by decide) ?_
  refine EC_nai (M := mX9_init) (N := 17) (bc := 0) (bs := 0) 52 rfl dX9_init_50 (sh_H10 hh) (by decide) (by decide) (by decide) acI ?_
  refine EC_pR 55 rfl dX9_init_52 (sh_H5 hh) (by omega) fl_X9_31 (fun C T N h9 => by cases h9; rfl) (Or.inr ⟨_, rfl⟩) rfl (rt_W6 hh) (H_lt hh 10 (by decide)) ?_
  exact EC_ret rfl dX9_init_55 rfl
theorem cn_X3_48 : CN RX3 48 mX9_init := ⟨by decide +kernel, tg1 7 rfl rfl, tg1 171 rfl rfl, ⟨by decide, by decide⟩, by decide +kernel, by decide, rfl, rfl, tg1 170 rfl rfl⟩
def jI_X3 (h : Nat) (I : MI) : MI := jI_X5 (h + 44) (jI_X5 (h + 43) (jI_X5 (h + 42) (jI_X5 (h + 41) (jI_X5 (h + 40) (jI_X5 (h + 39) (jI_X5 (h + 38) (jI_X5 (h + 37) (jI_X5 (h + 36) (jI_X5 (h + 35) (jI_X5 (h + 34) (jI_X5 (h + 33) (jI_X2 (h + 32) (jI_X2 (h + 31) (jI_X2 (h + 30) (jI_X2 (h + 29) (jI_X2 (h + 28) (jI_X2 (h + 27) (jI_X1 (h + 26) (jI_X1 (h + 25) (jI_X1 (h + 24) (jI_X1 (h + 23) (jI_X1 (h + 22) (jI_X1 (h + 21) (jI_X1 (h + 20) (jI_X1 (h + 19) (jI_X1 (h + 18) (jI_X1 (h + 17) (jI_X1 (h + 16) (jI_X1 (h + 15) (jI_X1 (h + 14) (jI_X1 (h + 13) (up2 (up2 (up2 (up2 (up2 (up2 (up2 (up2 (jI_X9 h (up2 (up2 (up2 (up2 I h 0 0) h 1 0) h 2 0) h 3 0)) h 11 0) h 12 0) h 13 0) h 14 (bI false)) h 15 0) h 16 0) h 17 0) h 18 1))))))))))))))))))))))))))))))))
def jS_X3 (h : Nat) (S : MS) : MS := upS (upS (upS (upS (upS (upS (upS (upS (upS (upS (upS (upS (upS (upS (upS (upS (upS (upS (upS (upS (upS (upS (upS (upS (upS (upS (upS (upS (upS (upS (upS (upS (upS (upS (upS (jS_X9 h (upS (upS (upS (upS S h 4) h 5) h 6) h 7)) h 8) h 9) h 10) (h + 2) 0) (h + 2) 1) (h + 2) 2) (h + 2) 3) (h + 2) 4) (h + 2) 5) (h + 2) 6) (h + 2) 7) (h + 2) 8) (h + 2) 9) (h + 2) 10) (h + 2) 11) (h + 2) 12) (h + 2) 13) (h + 3) 0) (h + 3) 1) (h + 3) 2) (h + 3) 3) (h + 3) 4) (h + 3) 5) (h + 4) 0) (h + 4) 1) (h + 4) 2) (h + 4) 3) (h + 4) 4) (h + 4) 5) (h + 4) 6) (h + 4) 7) (h + 4) 8) (h + 4) 9) (h + 4) 10) (h + 4) 11
abbrev mX3_init : Mth := (yX3_init, cX3_init, 2, none)
set_option maxRecDepth 100000 in
set_option maxHeartbeats 4000000 in
theorem D_X3 {g : Gx} {h : Nat} (hh : isH h) {I : MI} {L : ML} {S : MS} : EntC g 4 44 822 mX3_init h (I, L, S, h + 1) (jI_X3 h I, L, jS_X3 h S, h + 45) := by
  refine EntC_of (by decide +kernel) rfl (H_lt0 hh) (by decide) ?_
  refine EC_aload_n 1 rfl dX3_init_0 rfl 0 rfl ?_
  refine EC_obj 4 rfl dX3_init_1 oi_X3_3 (by decide) (Nat.le_of_ble_eq_true rfl) ?_
  refine EC_aload_n 5 rfl dX3_init_4 rfl 0 rfl ?_
  refine EC_iconst (v := 0) 6 rfl dX3_init_5 (by decide) ?_
  refine EC_pI 9 rfl dX3_init_6 (sh_H hh) (by omega) fl_X3_9 rfl rfl ?_
  refine EC_aload_n 10 rfl dX3_init_9 rfl 0 rfl ?_
  refine EC_iconst (v := 0) 11 rfl dX3_init_10 (by decide) ?_
  refine EC_pI 14 rfl dX3_init_11 (sh_H hh) (by omega) fl_X3_15 rfl rfl ?_
  refine EC_aload_n 15 rfl dX3_init_14 rfl 0 rfl ?_
  refine EC_iconst (v := 0) 16 rfl dX3_init_15 (by decide) ?_
  refine EC_pI 19 rfl dX3_init_16 (sh_H hh) (by omega) fl_X3_18 rfl rfl ?_
  refine EC_aload_n 20 rfl dX3_init_19 rfl 0 rfl ?_
  refine EC_iconst (v := 0) 21 rfl dX3_init_20 (by decide) ?_
  refine EC_pI 24 rfl dX3_init_21 (sh_H hh) (by omega) fl_X3_21 rfl rfl ?_
  refine EC_aload_n 25 rfl dX3_init_24 rfl 0 rfl ?_
  refine EC_bipush (v := 10) 27 rfl dX3_init_25 (by decide) ?_
  refine EC_nai (M := mX3_init) (N := 10) (bc := 43) (bs := 812) 29 rfl dX3_init_27 (sh_H1 hh) (by decide) (by decide) (by decide) acI ?_
  refine EC_pR 32 rfl dX3_init_29 (sh_H hh) (by omega) fl_X3_24 (fun C T N h9 => by cases h9; rfl) (Or.inr ⟨_, rfl⟩) rfl (rt_H4 hh) (H_lt hh 1 (by decide)) ?_
  refine EC_aload_n 33 rfl dX3_init_32 rfl 0 rfl ?_
  refine EC_bipush (v := 14) 35 rfl dX3_init_33 (by decide) ?_
  refine EC_naq (M := mX3_init) (t0 := 3) (C0 := RX1) (bc := 42) (bs := 798) 38 rfl dX3_init_35 (sh_H2 hh) (.inl rfl) (by decide) (by decide) (by decide) cl_X3_28 (fun U h => h.2.1) (fun _ => rfl) ?_
  refine EC_pR 41 rfl dX3_init_38 (sh_H hh) (by omega) fl_X3_30 (fun C T N h9 => by cases h9; rfl) (Or.inr ⟨_, rfl⟩) rfl (rt_H5 hh) (H_lt hh 2 (by decide)) ?_
  refine EC_aload_n 42 rfl dX3_init_41 rfl 0 rfl ?_
  refine EC_bipush (v := 6) 44 rfl dX3_init_42 (by decide) ?_
  refine EC_naq (M := mX3_init) (t0 := 4) (C0 := RX2) (bc := 41) (bs := 792) 47 rfl dX3_init_44 (sh_H3 hh) (.inr (.inl rfl)) (by decide) (by decide) (by decide) cl_X3_34 (fun U h => h.2.2.1) (fun _ => rfl) ?_
  refine EC_pR 50 rfl dX3_init_47 (sh_H hh) (by omega) fl_X3_36 (fun C T N h9 => by cases h9; rfl) (Or.inr ⟨_, rfl⟩) rfl (rt_H6 hh) (H_lt hh 3 (by decide)) ?_
  refine EC_aload_n 51 rfl dX3_init_50 rfl 0 rfl ?_
  refine EC_bipush (v := 12) 53 rfl dX3_init_51 (by decide) ?_
  refine EC_naq (M := mX3_init) (t0 := 5) (C0 := RX5) (bc := 40) (bs := 780) 56 rfl dX3_init_53 (sh_H4 hh) (.inr (.inr rfl)) (by decide) (by decide) (by decide) cl_X3_40 (fun U h => h.2.2.2) (fun _ => rfl) ?_
  refine EC_pR 59 rfl dX3_init_56 (sh_H hh) (by omega) fl_X3_42 (fun C T N h9 => by cases h9; rfl) (Or.inr ⟨_, rfl⟩) rfl (rt_H7 hh) (H_lt hh 4 (by decide)) ?_
  refine EC_aload_n 60 rfl dX3_init_59 rfl 0 rfl ?_
  refine EC_new (M := mX3_init) (idx := 46) (N := 7) (bc := 39) (bs := 773) 63 rfl dX3_init_60 (sh_H5 hh) nw_X3_46 ?_
  refine EC_dup 64 rfl dX3_init_63 rfl ?_
  refine EC_cN (M := mX3_init) (bc := 34) (bs := 320) 67 rfl dX3_init_64 cn_X3_48 (by decide) (Nat.le_of_ble_eq_true rfl) (H_lt hh 5 (by decide)) (D_X9 hh) ?_
  refine EC_pR 70 rfl dX3_init_67 (sh_H hh) (by omega) fl_X3_49 (fun C T N h9 => by cases h9; rfl) (Or.inl ⟨_, rfl⟩) rfl (rt_H8 hh) (H_lt hh 5 (by decide)) ?_
  refine EC_aload_n 71 rfl dX3_init_70 rfl 0 rfl ?_
  refine EC_bipush (v := 100) 73 rfl dX3_init_71 (by decide) ?_
  refine EC_nai (M := mX3_init) (N := 100) (bc := 33) (bs := 220) 75 rfl dX3_init_73 (sh_H11 hh) (by decide) (by decide) (by decide) acI ?_
  refine EC_pR 78 rfl dX3_init_75 (sh_H hh) (by omega) fl_X3_53 (fun C T N h9 => by cases h9; rfl) (Or.inr ⟨_, rfl⟩) rfl (rt_H9 hh) (H_lt hh 11 (by decide)) ?_
  refine EC_aload_n 79 rfl dX3_init_78 rfl 0 rfl ?_
  refine EC_bipush (v := 40) 81 rfl dX3_init_79 (by decide) ?_
  refine EC_nal (M := mX3_init) (N := 40) (bc := 32) (bs := 180) 83 rfl dX3_init_81 (sh_H12 hh) (by decide) (by decide) (by decide) acL ?_
  refine EC_pR 86 rfl dX3_init_83 (sh_H hh) (by omega) fl_X3_56 (fun C T N h9 => by cases h9; rfl) (Or.inr ⟨_, rfl⟩) rfl (rt_H10 hh) (H_lt hh 12 (by decide)) ?_
  refine EC_aload_n 87 rfl dX3_init_86 rfl 0 rfl ?_
  refine EC_iconst (v := 0) 88 rfl dX3_init_87 (by decide) ?_
  refine EC_pI 91 rfl dX3_init_88 (sh_H hh) (by omega) fl_X3_60 rfl rfl ?_
  refine EC_aload_n 92 rfl dX3_init_91 rfl 0 rfl ?_
  refine EC_iconst (v := 0) 93 rfl dX3_init_92 (by decide) ?_
  refine EC_pI 96 rfl dX3_init_93 (sh_H hh) (by omega) fl_X3_63 rfl rfl ?_
  refine EC_aload_n 97 rfl dX3_init_96 rfl 0 rfl ?_
  refine EC_iconst (v := 0) 98 rfl dX3_init_97 (by decide) ?_
  refine EC_pI 101 rfl dX3_init_98 (sh_H hh) (by omega) fl_X3_66 rfl rfl ?_
  refine EC_aload_n 102 rfl dX3_init_101 rfl 0 rfl ?_
  refine EC_iconst (v := 0) 103 rfl dX3_init_102 (by decide) ?_
  refine EC_pB (x := false) 106 rfl dX3_init_103 (sh_H hh) (by omega) fl_X3_69 rfl ?_
  refine EC_aload_n 107 rfl dX3_init_106 rfl 0 rfl ?_
  refine EC_iconst (v := 0) 108 rfl dX3_init_107 (by decide) ?_
  refine EC_pI 111 rfl dX3_init_108 (sh_H hh) (by omega) fl_X3_73 rfl rfl ?_
  refine EC_aload_n 112 rfl dX3_init_111 rfl 0 rfl ?_
  refine EC_iconst (v := 0) 113 rfl dX3_init_112 (by decide) ?_
  refine EC_pI 116 rfl dX3_init_113 (sh_H hh) (by omega) fl_X3_76 rfl rfl ?_
  refine EC_aload_n 117 rfl dX3_init_116 rfl 0 rfl ?_
  refine EC_iconst (v := 0) 118 rfl dX3_init_117 (by decide) ?_
  refine EC_pI 121 rfl dX3_init_118 (sh_H hh) (by omega) fl_X3_79 rfl rfl ?_
  refine EC_aload_n 122 rfl dX3_init_121 rfl 0 rfl ?_
  refine EC_iconst (v := 1) 123 rfl dX3_init_122 (by decide) ?_
  refine EC_pI 126 rfl dX3_init_123 (sh_H hh) (by omega) fl_X3_82 rfl rfl ?_
  refine EC_iconst (v := 0) 127 rfl dX3_init_126 (by decide) ?_
  refine EC_istore_n (lv' := [(1, .int 0), (0, .ref h)]) 128 rfl dX3_init_127 rfl (Nat.le_of_ble_eq_true rfl) rfl ?_
  refine EC_iload_n 129 rfl dX3_init_128 rfl 0 rfl ?_
  refine EC_bipush (v := 14) 131 rfl dX3_init_129 (by decide) ?_
  refine EC_geF 153 134 (by decide) rfl dX3_init_131 (by decide) ?_
  refine EC_aload_n 135 rfl dX3_init_134 rfl 1 rfl ?_
  refine EC_gR (h + 2) 138 rfl dX3_init_135 (sh_H hh) (by omega) fl_X3_30 rfl (by simp [upS, jS_X9]) (rt_H5 hh) (H_lt hh 2 (by decide)) ?_
  refine EC_iload_n 139 rfl dX3_init_138 rfl 0 rfl ?_
  refine EC_new (M := mX3_init) (idx := 28) (N := 3) (bc := 31) (bs := 177) 142 rfl dX3_init_139 (sh_D ⟨h, 0, hh, by decide, rfl⟩) nw_X3_28 ?_
  refine EC_dup 143 rfl dX3_init_142 rfl ?_
  refine EC_cN (M := mX3_init) (bc := 31) (bs := 177) 146 rfl dX3_init_143 cn_X3_85 (by decide) (Nat.le_of_ble_eq_true rfl) (H_lt hh 13 (by decide)) (D_X1 (sh_D ⟨h, 0, hh, by decide, rfl⟩) (by omega)) ?_
  refine EC_ast (t0 := 3) (ci := 1) 0 (by decide) 147 rfl dX3_init_146 (sh_H2 hh) (.inl rfl) (sh_D ⟨h, 0, hh, by decide, rfl⟩) (by omega) (by omega) rfl (fun _ => rfl) (by unfold vp_in; decide) (rt_aD hh (i := 0) (by decide)) ?_
  refine EC_iinc (j := 0) (v := 1) (lv' := [(1, .int 1), (0, .ref h)]) 150 rfl dX3_init_147 rfl (by decide) (Nat.le_of_ble_eq_true rfl) rfl ?_
  refine EC_goto 128 (by decide) dX3_init_150 ?_
  refine EC_iload_n 129 rfl dX3_init_128 rfl 0 rfl ?_
  refine EC_bipush (v := 14) 131 rfl dX3_init_129 (by decide) ?_
  refine EC_geF 153 134 (by decide) rfl dX3_init_131 (by decide) ?_
  refine EC_aload_n 135 rfl dX3_init_134 rfl 1 rfl ?_
  refine EC_gR (h + 2) 138 rfl dX3_init_135 (sh_H hh) (by omega) fl_X3_30 rfl (by simp [upS, jS_X9]) (rt_H5 hh) (H_lt hh 2 (by decide)) ?_
  refine EC_iload_n 139 rfl dX3_init_138 rfl 0 rfl ?_
  refine EC_new (M := mX3_init) (idx := 28) (N := 3) (bc := 30) (bs := 174) 142 rfl dX3_init_139 (sh_D ⟨h, 1, hh, by decide, rfl⟩) nw_X3_28 ?_
  refine EC_dup 143 rfl dX3_init_142 rfl ?_
  refine EC_cN (M := mX3_init) (bc := 30) (bs := 174) 146 rfl dX3_init_143 cn_X3_85 (by decide) (Nat.le_of_ble_eq_true rfl) (H_lt hh 14 (by decide)) (D_X1 (sh_D ⟨h, 1, hh, by decide, rfl⟩) (by omega)) ?_
  refine EC_ast (t0 := 3) (ci := 1) 1 (by decide) 147 rfl dX3_init_146 (sh_H2 hh) (.inl rfl) (sh_D ⟨h, 1, hh, by decide, rfl⟩) (by omega) (by omega) rfl (fun _ => rfl) (by unfold vp_in; decide) (rt_aD hh (i := 1) (by decide)) ?_
  refine EC_iinc (j := 0) (v := 2) (lv' := [(1, .int 2), (0, .ref h)]) 150 rfl dX3_init_147 rfl (by decide) (Nat.le_of_ble_eq_true rfl) rfl ?_
  refine EC_goto 128 (by decide) dX3_init_150 ?_
  refine EC_iload_n 129 rfl dX3_init_128 rfl 0 rfl ?_
  refine EC_bipush (v := 14) 131 rfl dX3_init_129 (by decide) ?_
  refine EC_geF 153 134 (by decide) rfl dX3_init_131 (by decide) ?_
  refine EC_aload_n 135 rfl dX3_init_134 rfl 1 rfl ?_
  refine EC_gR (h + 2) 138 rfl dX3_init_135 (sh_H hh) (by omega) fl_X3_30 rfl (by simp [upS, jS_X9]) (rt_H5 hh) (H_lt hh 2 (by decide)) ?_
  refine EC_iload_n 139 rfl dX3_init_138 rfl 0 rfl ?_
  refine EC_new (M := mX3_init) (idx := 28) (N := 3) (bc := 29) (bs := 171) 142 rfl dX3_init_139 (sh_D ⟨h, 2, hh, by decide, rfl⟩) nw_X3_28 ?_
  refine EC_dup 143 rfl dX3_init_142 rfl ?_
  refine EC_cN (M := mX3_init) (bc := 29) (bs := 171) 146 rfl dX3_init_143 cn_X3_85 (by decide) (Nat.le_of_ble_eq_true rfl) (H_lt hh 15 (by decide)) (D_X1 (sh_D ⟨h, 2, hh, by decide, rfl⟩) (by omega)) ?_
  refine EC_ast (t0 := 3) (ci := 1) 2 (by decide) 147 rfl dX3_init_146 (sh_H2 hh) (.inl rfl) (sh_D ⟨h, 2, hh, by decide, rfl⟩) (by omega) (by omega) rfl (fun _ => rfl) (by unfold vp_in; decide) (rt_aD hh (i := 2) (by decide)) ?_
  refine EC_iinc (j := 0) (v := 3) (lv' := [(1, .int 3), (0, .ref h)]) 150 rfl dX3_init_147 rfl (by decide) (Nat.le_of_ble_eq_true rfl) rfl ?_
  refine EC_goto 128 (by decide) dX3_init_150 ?_
  refine EC_iload_n 129 rfl dX3_init_128 rfl 0 rfl ?_
  refine EC_bipush (v := 14) 131 rfl dX3_init_129 (by decide) ?_
  refine EC_geF 153 134 (by decide) rfl dX3_init_131 (by decide) ?_
  refine EC_aload_n 135 rfl dX3_init_134 rfl 1 rfl ?_
  refine EC_gR (h + 2) 138 rfl dX3_init_135 (sh_H hh) (by omega) fl_X3_30 rfl (by simp [upS, jS_X9]) (rt_H5 hh) (H_lt hh 2 (by decide)) ?_
  refine EC_iload_n 139 rfl dX3_init_138 rfl 0 rfl ?_
  refine EC_new (M := mX3_init) (idx := 28) (N := 3) (bc := 28) (bs := 168) 142 rfl dX3_init_139 (sh_D ⟨h, 3, hh, by decide, rfl⟩) nw_X3_28 ?_
  refine EC_dup 143 rfl dX3_init_142 rfl ?_
  refine EC_cN (M := mX3_init) (bc := 28) (bs := 168) 146 rfl dX3_init_143 cn_X3_85 (by decide) (Nat.le_of_ble_eq_true rfl) (H_lt hh 16 (by decide)) (D_X1 (sh_D ⟨h, 3, hh, by decide, rfl⟩) (by omega)) ?_
  refine EC_ast (t0 := 3) (ci := 1) 3 (by decide) 147 rfl dX3_init_146 (sh_H2 hh) (.inl rfl) (sh_D ⟨h, 3, hh, by decide, rfl⟩) (by omega) (by omega) rfl (fun _ => rfl) (by unfold vp_in; decide) (rt_aD hh (i := 3) (by decide)) ?_
  refine EC_iinc (j := 0) (v := 4) (lv' := [(1, .int 4), (0, .ref h)]) 150 rfl dX3_init_147 rfl (by decide) (Nat.le_of_ble_eq_true rfl) rfl ?_
  refine EC_goto 128 (by decide) dX3_init_150 ?_
  refine EC_iload_n 129 rfl dX3_init_128 rfl 0 rfl ?_
  refine EC_bipush (v := 14) 131 rfl dX3_init_129 (by decide) ?_
  refine EC_geF 153 134 (by decide) rfl dX3_init_131 (by decide) ?_
  refine EC_aload_n 135 rfl dX3_init_134 rfl 1 rfl ?_
  refine EC_gR (h + 2) 138 rfl dX3_init_135 (sh_H hh) (by omega) fl_X3_30 rfl (by simp [upS, jS_X9]) (rt_H5 hh) (H_lt hh 2 (by decide)) ?_
  refine EC_iload_n 139 rfl dX3_init_138 rfl 0 rfl ?_
  refine EC_new (M := mX3_init) (idx := 28) (N := 3) (bc := 27) (bs := 165) 142 rfl dX3_init_139 (sh_D ⟨h, 4, hh, by decide, rfl⟩) nw_X3_28 ?_
  refine EC_dup 143 rfl dX3_init_142 rfl ?_
  refine EC_cN (M := mX3_init) (bc := 27) (bs := 165) 146 rfl dX3_init_143 cn_X3_85 (by decide) (Nat.le_of_ble_eq_true rfl) (H_lt hh 17 (by decide)) (D_X1 (sh_D ⟨h, 4, hh, by decide, rfl⟩) (by omega)) ?_
  refine EC_ast (t0 := 3) (ci := 1) 4 (by decide) 147 rfl dX3_init_146 (sh_H2 hh) (.inl rfl) (sh_D ⟨h, 4, hh, by decide, rfl⟩) (by omega) (by omega) rfl (fun _ => rfl) (by unfold vp_in; decide) (rt_aD hh (i := 4) (by decide)) ?_
  refine EC_iinc (j := 0) (v := 5) (lv' := [(1, .int 5), (0, .ref h)]) 150 rfl dX3_init_147 rfl (by decide) (Nat.le_of_ble_eq_true rfl) rfl ?_
  refine EC_goto 128 (by decide) dX3_init_150 ?_
  refine EC_iload_n 129 rfl dX3_init_128 rfl 0 rfl ?_
  refine EC_bipush (v := 14) 131 rfl dX3_init_129 (by decide) ?_
  refine EC_geF 153 134 (by decide) rfl dX3_init_131 (by decide) ?_
  refine EC_aload_n 135 rfl dX3_init_134 rfl 1 rfl ?_
  refine EC_gR (h + 2) 138 rfl dX3_init_135 (sh_H hh) (by omega) fl_X3_30 rfl (by simp [upS, jS_X9]) (rt_H5 hh) (H_lt hh 2 (by decide)) ?_
  refine EC_iload_n 139 rfl dX3_init_138 rfl 0 rfl ?_
  refine EC_new (M := mX3_init) (idx := 28) (N := 3) (bc := 26) (bs := 162) 142 rfl dX3_init_139 (sh_D ⟨h, 5, hh, by decide, rfl⟩) nw_X3_28 ?_
  refine EC_dup 143 rfl dX3_init_142 rfl ?_
  refine EC_cN (M := mX3_init) (bc := 26) (bs := 162) 146 rfl dX3_init_143 cn_X3_85 (by decide) (Nat.le_of_ble_eq_true rfl) (H_lt hh 18 (by decide)) (D_X1 (sh_D ⟨h, 5, hh, by decide, rfl⟩) (by omega)) ?_
  refine EC_ast (t0 := 3) (ci := 1) 5 (by decide) 147 rfl dX3_init_146 (sh_H2 hh) (.inl rfl) (sh_D ⟨h, 5, hh, by decide, rfl⟩) (by omega) (by omega) rfl (fun _ => rfl) (by unfold vp_in; decide) (rt_aD hh (i := 5) (by decide)) ?_
  refine EC_iinc (j := 0) (v := 6) (lv' := [(1, .int 6), (0, .ref h)]) 150 rfl dX3_init_147 rfl (by decide) (Nat.le_of_ble_eq_true rfl) rfl ?_
  refine EC_goto 128 (by decide) dX3_init_150 ?_
  refine EC_iload_n 129 rfl dX3_init_128 rfl 0 rfl ?_
  refine EC_bipush (v := 14) 131 rfl dX3_init_129 (by decide) ?_
  refine EC_geF 153 134 (by decide) rfl dX3_init_131 (by decide) ?_
  refine EC_aload_n 135 rfl dX3_init_134 rfl 1 rfl ?_
  refine EC_gR (h + 2) 138 rfl dX3_init_135 (sh_H hh) (by omega) fl_X3_30 rfl (by simp [upS, jS_X9]) (rt_H5 hh) (H_lt hh 2 (by decide)) ?_
  refine EC_iload_n 139 rfl dX3_init_138 rfl 0 rfl ?_
  refine EC_new (M := mX3_init) (idx := 28) (N := 3) (bc := 25) (bs := 159) 142 rfl dX3_init_139 (sh_D ⟨h, 6, hh, by decide, rfl⟩) nw_X3_28 ?_
  refine EC_dup 143 rfl dX3_init_142 rfl ?_
  refine EC_cN (M := mX3_init) (bc := 25) (bs := 159) 146 rfl dX3_init_143 cn_X3_85 (by decide) (Nat.le_of_ble_eq_true rfl) (H_lt hh 19 (by decide)) (D_X1 (sh_D ⟨h, 6, hh, by decide, rfl⟩) (by omega)) ?_
  refine EC_ast (t0 := 3) (ci := 1) 6 (by decide) 147 rfl dX3_init_146 (sh_H2 hh) (.inl rfl) (sh_D ⟨h, 6, hh, by decide, rfl⟩) (by omega) (by omega) rfl (fun _ => rfl) (by unfold vp_in; decide) (rt_aD hh (i := 6) (by decide)) ?_
  refine EC_iinc (j := 0) (v := 7) (lv' := [(1, .int 7), (0, .ref h)]) 150 rfl dX3_init_147 rfl (by decide) (Nat.le_of_ble_eq_true rfl) rfl ?_
  refine EC_goto 128 (by decide) dX3_init_150 ?_
  refine EC_iload_n 129 rfl dX3_init_128 rfl 0 rfl ?_
  refine EC_bipush (v := 14) 131 rfl dX3_init_129 (by decide) ?_
  refine EC_geF 153 134 (by decide) rfl dX3_init_131 (by decide) ?_
  refine EC_aload_n 135 rfl dX3_init_134 rfl 1 rfl ?_
  refine EC_gR (h + 2) 138 rfl dX3_init_135 (sh_H hh) (by omega) fl_X3_30 rfl (by simp [upS, jS_X9]) (rt_H5 hh) (H_lt hh 2 (by decide)) ?_
  refine EC_iload_n 139 rfl dX3_init_138 rfl 0 rfl ?_
  refine EC_new (M := mX3_init) (idx := 28) (N := 3) (bc := 24) (bs := 156) 142 rfl dX3_init_139 (sh_D ⟨h, 7, hh, by decide, rfl⟩) nw_X3_28 ?_
  refine EC_dup 143 rfl dX3_init_142 rfl ?_
  refine EC_cN (M := mX3_init) (bc := 24) (bs := 156) 146 rfl dX3_init_143 cn_X3_85 (by decide) (Nat.le_of_ble_eq_true rfl) (H_lt hh 20 (by decide)) (D_X1 (sh_D ⟨h, 7, hh, by decide, rfl⟩) (by omega)) ?_
  refine EC_ast (t0 := 3) (ci := 1) 7 (by decide) 147 rfl dX3_init_146 (sh_H2 hh) (.inl rfl) (sh_D ⟨h, 7, hh, by decide, rfl⟩) (by omega) (by omega) rfl (fun _ => rfl) (by unfold vp_in; decide) (rt_aD hh (i := 7) (by decide)) ?_
  refine EC_iinc (j := 0) (v := 8) (lv' := [(1, .int 8), (0, .ref h)]) 150 rfl dX3_init_147 rfl (by decide) (Nat.le_of_ble_eq_true rfl) rfl ?_
  refine EC_goto 128 (by decide) dX3_init_150 ?_
  refine EC_iload_n 129 rfl dX3_init_128 rfl 0 rfl ?_
  refine EC_bipush (v := 14) 131 rfl dX3_init_129 (by decide) ?_
  refine EC_geF 153 134 (by decide) rfl dX3_init_131 (by decide) ?_
  refine EC_aload_n 135 rfl dX3_init_134 rfl 1 rfl ?_
  refine EC_gR (h + 2) 138 rfl dX3_init_135 (sh_H hh) (by omega) fl_X3_30 rfl (by simp [upS, jS_X9]) (rt_H5 hh) (H_lt hh 2 (by decide)) ?_
  refine EC_iload_n 139 rfl dX3_init_138 rfl 0 rfl ?_
  refine EC_new (M := mX3_init) (idx := 28) (N := 3) (bc := 23) (bs := 153) 142 rfl dX3_init_139 (sh_D ⟨h, 8, hh, by decide, rfl⟩) nw_X3_28 ?_
  refine EC_dup 143 rfl dX3_init_142 rfl ?_
  refine EC_cN (M := mX3_init) (bc := 23) (bs := 153) 146 rfl dX3_init_143 cn_X3_85 (by decide) (Nat.le_of_ble_eq_true rfl) (H_lt hh 21 (by decide)) (D_X1 (sh_D ⟨h, 8, hh, by decide, rfl⟩) (by omega)) ?_
  refine EC_ast (t0 := 3) (ci := 1) 8 (by decide) 147 rfl dX3_init_146 (sh_H2 hh) (.inl rfl) (sh_D ⟨h, 8, hh, by decide, rfl⟩) (by omega) (by omega) rfl (fun _ => rfl) (by unfold vp_in; decide) (rt_aD hh (i := 8) (by decide)) ?_
  refine EC_iinc (j := 0) (v := 9) (lv' := [(1, .int 9), (0, .ref h)]) 150 rfl dX3_init_147 rfl (by decide) (Nat.le_of_ble_eq_true rfl) rfl ?_
  refine EC_goto 128 (by decide) dX3_init_150 ?_
  refine EC_iload_n 129 rfl dX3_init_128 rfl 0 rfl ?_
  refine EC_bipush (v := 14) 131 rfl dX3_init_129 (by decide) ?_
  refine EC_geF 153 134 (by decide) rfl dX3_init_131 (by decide) ?_
  refine EC_aload_n 135 rfl dX3_init_134 rfl 1 rfl ?_
  refine EC_gR (h + 2) 138 rfl dX3_init_135 (sh_H hh) (by omega) fl_X3_30 rfl (by simp [upS, jS_X9]) (rt_H5 hh) (H_lt hh 2 (by decide)) ?_
  refine EC_iload_n 139 rfl dX3_init_138 rfl 0 rfl ?_
  refine EC_new (M := mX3_init) (idx := 28) (N := 3) (bc := 22) (bs := 150) 142 rfl dX3_init_139 (sh_D ⟨h, 9, hh, by decide, rfl⟩) nw_X3_28 ?_
  refine EC_dup 143 rfl dX3_init_142 rfl ?_
  refine EC_cN (M := mX3_init) (bc := 22) (bs := 150) 146 rfl dX3_init_143 cn_X3_85 (by decide) (Nat.le_of_ble_eq_true rfl) (H_lt hh 22 (by decide)) (D_X1 (sh_D ⟨h, 9, hh, by decide, rfl⟩) (by omega)) ?_
  refine EC_ast (t0 := 3) (ci := 1) 9 (by decide) 147 rfl dX3_init_146 (sh_H2 hh) (.inl rfl) (sh_D ⟨h, 9, hh, by decide, rfl⟩) (by omega) (by omega) rfl (fun _ => rfl) (by unfold vp_in; decide) (rt_aD hh (i := 9) (by decide)) ?_
  refine EC_iinc (j := 0) (v := 10) (lv' := [(1, .int 10), (0, .ref h)]) 150 rfl dX3_init_147 rfl (by decide) (Nat.le_of_ble_eq_true rfl) rfl ?_
  refine EC_goto 128 (by decide) dX3_init_150 ?_
  refine EC_iload_n 129 rfl dX3_init_128 rfl 0 rfl ?_
  refine EC_bipush (v := 14) 131 rfl dX3_init_129 (by decide) ?_
  refine EC_geF 153 134 (by decide) rfl dX3_init_131 (by decide) ?_
  refine EC_aload_n 135 rfl dX3_init_134 rfl 1 rfl ?_
  refine EC_gR (h + 2) 138 rfl dX3_init_135 (sh_H hh) (by omega) fl_X3_30 rfl (by simp [upS, jS_X9]) (rt_H5 hh) (H_lt hh 2 (by decide)) ?_
  refine EC_iload_n 139 rfl dX3_init_138 rfl 0 rfl ?_
  refine EC_new (M := mX3_init) (idx := 28) (N := 3) (bc := 21) (bs := 147) 142 rfl dX3_init_139 (sh_D ⟨h, 10, hh, by decide, rfl⟩) nw_X3_28 ?_
  refine EC_dup 143 rfl dX3_init_142 rfl ?_
  refine EC_cN (M := mX3_init) (bc := 21) (bs := 147) 146 rfl dX3_init_143 cn_X3_85 (by decide) (Nat.le_of_ble_eq_true rfl) (H_lt hh 23 (by decide)) (D_X1 (sh_D ⟨h, 10, hh, by decide, rfl⟩) (by omega)) ?_
  refine EC_ast (t0 := 3) (ci := 1) 10 (by decide) 147 rfl dX3_init_146 (sh_H2 hh) (.inl rfl) (sh_D ⟨h, 10, hh, by decide, rfl⟩) (by omega) (by omega) rfl (fun _ => rfl) (by unfold vp_in; decide) (rt_aD hh (i := 10) (by decide)) ?_
  refine EC_iinc (j := 0) (v := 11) (lv' := [(1, .int 11), (0, .ref h)]) 150 rfl dX3_init_147 rfl (by decide) (Nat.le_of_ble_eq_true rfl) rfl ?_
  refine EC_goto 128 (by decide) dX3_init_150 ?_
  refine EC_iload_n 129 rfl dX3_init_128 rfl 0 rfl ?_
  refine EC_bipush (v := 14) 131 rfl dX3_init_129 (by decide) ?_
  refine EC_geF 153 134 (by decide) rfl dX3_init_131 (by decide) ?_
  refine EC_aload_n 135 rfl dX3_init_134 rfl 1 rfl ?_
  refine EC_gR (h + 2) 138 rfl dX3_init_135 (sh_H hh) (by omega) fl_X3_30 rfl (by simp [upS, jS_X9]) (rt_H5 hh) (H_lt hh 2 (by decide)) ?_
  refine EC_iload_n 139 rfl dX3_init_138 rfl 0 rfl ?_
  refine EC_new (M := mX3_init) (idx := 28) (N := 3) (bc := 20) (bs := 144) 142 rfl dX3_init_139 (sh_D ⟨h, 11, hh, by decide, rfl⟩) nw_X3_28 ?_
  refine EC_dup 143 rfl dX3_init_142 rfl ?_
  refine EC_cN (M := mX3_init) (bc := 20) (bs := 144) 146 rfl dX3_init_143 cn_X3_85 (by decide) (Nat.le_of_ble_eq_true rfl) (H_lt hh 24 (by decide)) (D_X1 (sh_D ⟨h, 11, hh, by decide, rfl⟩) (by omega)) ?_
  refine EC_ast (t0 := 3) (ci := 1) 11 (by decide) 147 rfl dX3_init_146 (sh_H2 hh) (.inl rfl) (sh_D ⟨h, 11, hh, by decide, rfl⟩) (by omega) (by omega) rfl (fun _ => rfl) (by unfold vp_in; decide) (rt_aD hh (i := 11) (by decide)) ?_
  refine EC_iinc (j := 0) (v := 12) (lv' := [(1, .int 12), (0, .ref h)]) 150 rfl dX3_init_147 rfl (by decide) (Nat.le_of_ble_eq_true rfl) rfl ?_
  refine EC_goto 128 (by decide) dX3_init_150 ?_
  refine EC_iload_n 129 rfl dX3_init_128 rfl 0 rfl ?_
  refine EC_bipush (v := 14) 131 rfl dX3_init_129 (by decide) ?_
  refine EC_geF 153 134 (by decide) rfl dX3_init_131 (by decide) ?_
  refine EC_aload_n 135 rfl dX3_init_134 rfl 1 rfl ?_
  refine EC_gR (h + 2) 138 rfl dX3_init_135 (sh_H hh) (by omega) fl_X3_30 rfl (by simp [upS, jS_X9]) (rt_H5 hh) (H_lt hh 2 (by decide)) ?_
  refine EC_iload_n 139 rfl dX3_init_138 rfl 0 rfl ?_
  refine EC_new (M := mX3_init) (idx := 28) (N := 3) (bc := 19) (bs := 141) 142 rfl dX3_init_139 (sh_D ⟨h, 12, hh, by decide, rfl⟩) nw_X3_28 ?_
  refine EC_dup 143 rfl dX3_init_142 rfl ?_
  refine EC_cN (M := mX3_init) (bc := 19) (bs := 141) 146 rfl dX3_init_143 cn_X3_85 (by decide) (Nat.le_of_ble_eq_true rfl) (H_lt hh 25 (by decide)) (D_X1 (sh_D ⟨h, 12, hh, by decide, rfl⟩) (by omega)) ?_
  refine EC_ast (t0 := 3) (ci := 1) 12 (by decide) 147 rfl dX3_init_146 (sh_H2 hh) (.inl rfl) (sh_D ⟨h, 12, hh, by decide, rfl⟩) (by omega) (by omega) rfl (fun _ => rfl) (by unfold vp_in; decide) (rt_aD hh (i := 12) (by decide)) ?_
  refine EC_iinc (j := 0) (v := 13) (lv' := [(1, .int 13), (0, .ref h)]) 150 rfl dX3_init_147 rfl (by decide) (Nat.le_of_ble_eq_true rfl) rfl ?_
  refine EC_goto 128 (by decide) dX3_init_150 ?_
  refine EC_iload_n 129 rfl dX3_init_128 rfl 0 rfl ?_
  refine EC_bipush (v := 14) 131 rfl dX3_init_129 (by decide) ?_
  refine EC_geF 153 134 (by decide) rfl dX3_init_131 (by decide) ?_
  refine EC_aload_n 135 rfl dX3_init_134 rfl 1 rfl ?_
  refine EC_gR (h + 2) 138 rfl dX3_init_135 (sh_H hh) (by omega) fl_X3_30 rfl (by simp [upS, jS_X9]) (rt_H5 hh) (H_lt hh 2 (by decide)) ?_
  refine EC_iload_n 139 rfl dX3_init_138 rfl 0 rfl ?_
  refine EC_new (M := mX3_init) (idx := 28) (N := 3) (bc := 18) (bs := 138) 142 rfl dX3_init_139 (sh_D ⟨h, 13, hh, by decide, rfl⟩) nw_X3_28 ?_
  refine EC_dup 143 rfl dX3_init_142 rfl ?_
  refine EC_cN (M := mX3_init) (bc := 18) (bs := 138) 146 rfl dX3_init_143 cn_X3_85 (by decide) (Nat.le_of_ble_eq_true rfl) (H_lt hh 26 (by decide)) (D_X1 (sh_D ⟨h, 13, hh, by decide, rfl⟩) (by omega)) ?_
  refine EC_ast (t0 := 3) (ci := 1) 13 (by decide) 147 rfl dX3_init_146 (sh_H2 hh) (.inl rfl) (sh_D ⟨h, 13, hh, by decide, rfl⟩) (by omega) (by omega) rfl (fun _ => rfl) (by unfold vp_in; decide) (rt_aD hh (i := 13) (by decide)) ?_
  refine EC_iinc (j := 0) (v := 14) (lv' := [(1, .int 14), (0, .ref h)]) 150 rfl dX3_init_147 rfl (by decide) (Nat.le_of_ble_eq_true rfl) rfl ?_
  refine EC_goto 128 (by decide) dX3_init_150 ?_
  refine EC_iload_n 129 rfl dX3_init_128 rfl 0 rfl ?_
  refine EC_bipush (v := 14) 131 rfl dX3_init_129 (by decide) ?_
  refine EC_geT 153 (by decide) dX3_init_131 (by decide) ?_
  refine EC_iconst (v := 0) 154 rfl dX3_init_153 (by decide) ?_
  refine EC_istore_n (lv' := [(1, .int 0), (0, .ref h)]) 155 rfl dX3_init_154 rfl (Nat.le_of_ble_eq_true rfl) rfl ?_
  refine EC_iload_n 156 rfl dX3_init_155 rfl 0 rfl ?_
  refine EC_bipush (v := 6) 158 rfl dX3_init_156 (by decide) ?_
  refine EC_geF 180 161 (by decide) rfl dX3_init_158 (by decide) ?_
  refine EC_aload_n 162 rfl dX3_init_161 rfl 1 rfl ?_
  refine EC_gR (h + 3) 165 rfl dX3_init_162 (sh_H hh) (by omega) fl_X3_36 rfl (by simp [upS, jS_X9]) (rt_H6 hh) (H_lt hh 3 (by decide)) ?_
  refine EC_iload_n 166 rfl dX3_init_165 rfl 0 rfl ?_
  refine EC_new (M := mX3_init) (idx := 34) (N := 3) (bc := 17) (bs := 135) 169 rfl dX3_init_166 (sh_E ⟨h, 0, hh, by decide, rfl⟩) nw_X3_34 ?_
  refine EC_dup 170 rfl dX3_init_169 rfl ?_
  refine EC_cN (M := mX3_init) (bc := 17) (bs := 135) 173 rfl dX3_init_170 cn_X3_86 (by decide) (Nat.le_of_ble_eq_true rfl) (H_lt hh 27 (by decide)) (D_X2 (sh_E ⟨h, 0, hh, by decide, rfl⟩) (by omega)) ?_
  refine EC_ast (t0 := 4) (ci := 2) 0 (by decide) 174 rfl dX3_init_173 (sh_H3 hh) (.inr (.inl rfl)) (sh_E ⟨h, 0, hh, by decide, rfl⟩) (by omega) (by omega) rfl (fun _ => rfl) (by unfold vp_in; decide) (rt_aE hh (i := 0) (by decide)) ?_
  refine EC_iinc (j := 0) (v := 1) (lv' := [(1, .int 1), (0, .ref h)]) 177 rfl dX3_init_174 rfl (by decide) (Nat.le_of_ble_eq_true rfl) rfl ?_
  refine EC_goto 155 (by decide) dX3_init_177 ?_
  refine EC_iload_n 156 rfl dX3_init_155 rfl 0 rfl ?_
  refine EC_bipush (v := 6) 158 rfl dX3_init_156 (by decide) ?_
  refine EC_geF 180 161 (by decide) rfl dX3_init_158 (by decide) ?_
  refine EC_aload_n 162 rfl dX3_init_161 rfl 1 rfl ?_
  refine EC_gR (h + 3) 165 rfl dX3_init_162 (sh_H hh) (by omega) fl_X3_36 rfl (by simp [upS, jS_X9]) (rt_H6 hh) (H_lt hh 3 (by decide)) ?_
  refine EC_iload_n 166 rfl dX3_init_165 rfl 0 rfl ?_
  refine EC_new (M := mX3_init) (idx := 34) (N := 3) (bc := 16) (bs := 132) 169 rfl dX3_init_166 (sh_E ⟨h, 1, hh, by decide, rfl⟩) nw_X3_34 ?_
  refine EC_dup 170 rfl dX3_init_169 rfl ?_
  refine EC_cN (M := mX3_init) (bc := 16) (bs := 132) 173 rfl dX3_init_170 cn_X3_86 (by decide) (Nat.le_of_ble_eq_true rfl) (H_lt hh 28 (by decide)) (D_X2 (sh_E ⟨h, 1, hh, by decide, rfl⟩) (by omega)) ?_
  refine EC_ast (t0 := 4) (ci := 2) 1 (by decide) 174 rfl dX3_init_173 (sh_H3 hh) (.inr (.inl rfl)) (sh_E ⟨h, 1, hh, by decide, rfl⟩) (by omega) (by omega) rfl (fun _ => rfl) (by unfold vp_in; decide) (rt_aE hh (i := 1) (by decide)) ?_
  refine EC_iinc (j := 0) (v := 2) (lv' := [(1, .int 2), (0, .ref h)]) 177 rfl dX3_init_174 rfl (by decide) (Nat.le_of_ble_eq_true rfl) rfl ?_
  refine EC_goto 155 (by decide) dX3_init_177 ?_
  refine EC_iload_n 156 rfl dX3_init_155 rfl 0 rfl ?_
  refine EC_bipush (v := 6) 158 rfl dX3_init_156 (by decide) ?_
  refine EC_geF 180 161 (by decide) rfl dX3_init_158 (by decide) ?_
  refine EC_aload_n 162 rfl dX3_init_161 rfl 1 rfl ?_
  refine EC_gR (h + 3) 165 rfl dX3_init_162 (sh_H hh) (by omega) fl_X3_36 rfl (by simp [upS, jS_X9]) (rt_H6 hh) (H_lt hh 3 (by decide)) ?_
  refine EC_iload_n 166 rfl dX3_init_165 rfl 0 rfl ?_
  refine EC_new (M := mX3_init) (idx := 34) (N := 3) (bc := 15) (bs := 129) 169 rfl dX3_init_166 (sh_E ⟨h, 2, hh, by decide, rfl⟩) nw_X3_34 ?_
  refine EC_dup 170 rfl dX3_init_169 rfl ?_
  refine EC_cN (M := mX3_init) (bc := 15) (bs := 129) 173 rfl dX3_init_170 cn_X3_86 (by decide) (Nat.le_of_ble_eq_true rfl) (H_lt hh 29 (by decide)) (D_X2 (sh_E ⟨h, 2, hh, by decide, rfl⟩) (by omega)) ?_
  refine EC_ast (t0 := 4) (ci := 2) 2 (by decide) 174 rfl dX3_init_173 (sh_H3 hh) (.inr (.inl rfl)) (sh_E ⟨h, 2, hh, by decide, rfl⟩) (by omega) (by omega) rfl (fun _ => rfl) (by unfold vp_in; decide) (rt_aE hh (i := 2) (by decide)) ?_
  refine EC_iinc (j := 0) (v := 3) (lv' := [(1, .int 3), (0, .ref h)]) 177 rfl dX3_init_174 rfl (by decide) (Nat.le_of_ble_eq_true rfl) rfl ?_
  refine EC_goto 155 (by decide) dX3_init_177 ?_
  refine EC_iload_n 156 rfl dX3_init_155 rfl 0 rfl ?_
  refine EC_bipush (v := 6) 158 rfl dX3_init_156 (by decide) ?_
  refine EC_geF 180 161 (by decide) rfl dX3_init_158 (by decide) ?_
  refine EC_aload_n 162 rfl dX3_init_161 rfl 1 rfl ?_
  refine EC_gR (h + 3) 165 rfl dX3_init_162 (sh_H hh) (by omega) fl_X3_36 rfl (by simp [upS, jS_X9]) (rt_H6 hh) (H_lt hh 3 (by decide)) ?_
  refine EC_iload_n 166 rfl dX3_init_165 rfl 0 rfl ?_
  refine EC_new (M := mX3_init) (idx := 34) (N := 3) (bc := 14) (bs := 126) 169 rfl dX3_init_166 (sh_E ⟨h, 3, hh, by decide, rfl⟩) nw_X3_34 ?_
  refine EC_dup 170 rfl dX3_init_169 rfl ?_
  refine EC_cN (M := mX3_init) (bc := 14) (bs := 126) 173 rfl dX3_init_170 cn_X3_86 (by decide) (Nat.le_of_ble_eq_true rfl) (H_lt hh 30 (by decide)) (D_X2 (sh_E ⟨h, 3, hh, by decide, rfl⟩) (by omega)) ?_
  refine EC_ast (t0 := 4) (ci := 2) 3 (by decide) 174 rfl dX3_init_173 (sh_H3 hh) (.inr (.inl rfl)) (sh_E ⟨h, 3, hh, by decide, rfl⟩) (by omega) (by omega) rfl (fun _ => rfl) (by unfold vp_in; decide) (rt_aE hh (i := 3) (by decide)) ?_
  refine EC_iinc (j := 0) (v := 4) (lv' := [(1, .int 4), (0, .ref h)]) 177 rfl dX3_init_174 rfl (by decide) (Nat.le_of_ble_eq_true rfl) rfl ?_
  refine EC_goto 155 (by decide) dX3_init_177 ?_
  refine EC_iload_n 156 rfl dX3_init_155 rfl 0 rfl ?_
  refine EC_bipush (v := 6) 158 rfl dX3_init_156 (by decide) ?_
  refine EC_geF 180 161 (by decide) rfl dX3_init_158 (by decide) ?_
  refine EC_aload_n 162 rfl dX3_init_161 rfl 1 rfl ?_
  refine EC_gR (h + 3) 165 rfl dX3_init_162 (sh_H hh) (by omega) fl_X3_36 rfl (by simp [upS, jS_X9]) (rt_H6 hh) (H_lt hh 3 (by decide)) ?_
  refine EC_iload_n 166 rfl dX3_init_165 rfl 0 rfl ?_
  refine EC_new (M := mX3_init) (idx := 34) (N := 3) (bc := 13) (bs := 123) 169 rfl dX3_init_166 (sh_E ⟨h, 4, hh, by decide, rfl⟩) nw_X3_34 ?_
  refine EC_dup 170 rfl dX3_init_169 rfl ?_
  refine EC_cN (M := mX3_init) (bc := 13) (bs := 123) 173 rfl dX3_init_170 cn_X3_86 (by decide) (Nat.le_of_ble_eq_true rfl) (H_lt hh 31 (by decide)) (D_X2 (sh_E ⟨h, 4, hh, by decide, rfl⟩) (by omega)) ?_
  refine EC_ast (t0 := 4) (ci := 2) 4 (by decide) 174 rfl dX3_init_173 (sh_H3 hh) (.inr (.inl rfl)) (sh_E ⟨h, 4, hh, by decide, rfl⟩) (by omega) (by omega) rfl (fun _ => rfl) (by unfold vp_in; decide) (rt_aE hh (i := 4) (by decide)) ?_
  refine EC_iinc (j := 0) (v := 5) (lv' := [(1, .int 5), (0, .ref h)]) 177 rfl dX3_init_174 rfl (by decide) (Nat.le_of_ble_eq_true rfl) rfl ?_
  refine EC_goto 155 (by decide) dX3_init_177 ?_
  refine EC_iload_n 156 rfl dX3_init_155 rfl 0 rfl ?_
  refine EC_bipush (v := 6) 158 rfl dX3_init_156 (by decide) ?_
  refine EC_geF 180 161 (by decide) rfl dX3_init_158 (by decide) ?_
  refine EC_aload_n 162 rfl dX3_init_161 rfl 1 rfl ?_
  refine EC_gR (h + 3) 165 rfl dX3_init_162 (sh_H hh) (by omega) fl_X3_36 rfl (by simp [upS, jS_X9]) (rt_H6 hh) (H_lt hh 3 (by decide)) ?_
  refine EC_iload_n 166 rfl dX3_init_165 rfl 0 rfl ?_
  refine EC_new (M := mX3_init) (idx := 34) (N := 3) (bc := 12) (bs := 120) 169 rfl dX3_init_166 (sh_E ⟨h, 5, hh, by decide, rfl⟩) nw_X3_34 ?_
  refine EC_dup 170 rfl dX3_init_169 rfl ?_
  refine EC_cN (M := mX3_init) (bc := 12) (bs := 120) 173 rfl dX3_init_170 cn_X3_86 (by decide) (Nat.le_of_ble_eq_true rfl) (H_lt hh 32 (by decide)) (D_X2 (sh_E ⟨h, 5, hh, by decide, rfl⟩) (by omega)) ?_
  refine EC_ast (t0 := 4) (ci := 2) 5 (by decide) 174 rfl dX3_init_173 (sh_H3 hh) (.inr (.inl rfl)) (sh_E ⟨h, 5, hh, by decide, rfl⟩) (by omega) (by omega) rfl (fun _ => rfl) (by unfold vp_in; decide) (rt_aE hh (i := 5) (by decide)) ?_
  refine EC_iinc (j := 0) (v := 6) (lv' := [(1, .int 6), (0, .ref h)]) 177 rfl dX3_init_174 rfl (by decide) (Nat.le_of_ble_eq_true rfl) rfl ?_
  refine EC_goto 155 (by decide) dX3_init_177 ?_
  refine EC_iload_n 156 rfl dX3_init_155 rfl 0 rfl ?_
  refine EC_bipush (v := 6) 158 rfl dX3_init_156 (by decide) ?_
  refine EC_geT 180 (by decide) dX3_init_158 (by decide) ?_
  refine EC_iconst (v := 0) 181 rfl dX3_init_180 (by decide) ?_
  refine EC_istore_n (lv' := [(1, .int 0), (0, .ref h)]) 182 rfl dX3_init_181 rfl (Nat.le_of_ble_eq_true rfl) rfl ?_
  refine EC_iload_n 183 rfl dX3_init_182 rfl 0 rfl ?_
  refine EC_bipush (v := 12) 185 rfl dX3_init_183 (by decide) ?_
  refine EC_geF 207 188 (by decide) rfl dX3_init_185 (by decide) ?_
  refine EC_aload_n 189 rfl dX3_init_188 rfl 1 rfl ?_
  refine EC_gR (h + 4) 192 rfl dX3_init_189 (sh_H hh) (by omega) fl_X3_42 rfl (by simp [upS, jS_X9]) (rt_H7 hh) (H_lt hh 4 (by decide)) ?_
  refine EC_iload_n 193 rfl dX3_init_192 rfl 0 rfl ?_
  refine EC_new (M := mX3_init) (idx := 40) (N := 10) (bc := 11) (bs := 110) 196 rfl dX3_init_193 (sh_N ⟨h, 0, hh, by decide, rfl⟩) nw_X3_40 ?_
  refine EC_dup 197 rfl dX3_init_196 rfl ?_
  refine EC_cN (M := mX3_init) (bc := 11) (bs := 110) 200 rfl dX3_init_197 cn_X3_87 (by decide) (Nat.le_of_ble_eq_true rfl) (H_lt hh 33 (by decide)) (D_X5 (sh_N ⟨h, 0, hh, by decide, rfl⟩) (by omega)) ?_
  refine EC_ast (t0 := 5) (ci := 4) 0 (by decide) 201 rfl dX3_init_200 (sh_H4 hh) (.inr (.inr rfl)) (sh_N ⟨h, 0, hh, by decide, rfl⟩) (by omega) (by omega) rfl (fun _ => rfl) (by unfold vp_in; decide) (rt_aN hh (i := 0) (by decide)) ?_
  refine EC_iinc (j := 0) (v := 1) (lv' := [(1, .int 1), (0, .ref h)]) 204 rfl dX3_init_201 rfl (by decide) (Nat.le_of_ble_eq_true rfl) rfl ?_
  refine EC_goto 182 (by decide) dX3_init_204 ?_
  refine EC_iload_n 183 rfl dX3_init_182 rfl 0 rfl ?_
  refine EC_bipush (v := 12) 185 rfl dX3_init_183 (by decide) ?_
  refine EC_geF 207 188 (by decide) rfl dX3_init_185 (by decide) ?_
  refine EC_aload_n 189 rfl dX3_init_188 rfl 1 rfl ?_
  refine EC_gR (h + 4) 192 rfl dX3_init_189 (sh_H hh) (by omega) fl_X3_42 rfl (by simp [upS, jS_X9]) (rt_H7 hh) (H_lt hh 4 (by decide)) ?_
  refine EC_iload_n 193 rfl dX3_init_192 rfl 0 rfl ?_
  refine EC_new (M := mX3_init) (idx := 40) (N := 10) (bc := 10) (bs := 100) 196 rfl dX3_init_193 (sh_N ⟨h, 1, hh, by decide, rfl⟩) nw_X3_40 ?_
  refine EC_dup 197 rfl dX3_init_196 rfl ?_
  refine EC_cN (M := mX3_init) (bc := 10) (bs := 100) 200 rfl dX3_init_197 cn_X3_87 (by decide) (Nat.le_of_ble_eq_true rfl) (H_lt hh 34 (by decide)) (D_X5 (sh_N ⟨h, 1, hh, by decide, rfl⟩) (by omega)) ?_
  refine EC_ast (t0 := 5) (ci := 4) 1 (by decide) 201 rfl dX3_init_200 (sh_H4 hh) (.inr (.inr rfl)) (sh_N ⟨h, 1, hh, by decide, rfl⟩) (by omega) (by omega) rfl (fun _ => rfl) (by unfold vp_in; decide) (rt_aN hh (i := 1) (by decide)) ?_
  refine EC_iinc (j := 0) (v := 2) (lv' := [(1, .int 2), (0, .ref h)]) 204 rfl dX3_init_201 rfl (by decide) (Nat.le_of_ble_eq_true rfl) rfl ?_
  refine EC_goto 182 (by decide) dX3_init_204 ?_
  refine EC_iload_n 183 rfl dX3_init_182 rfl 0 rfl ?_
  refine EC_bipush (v := 12) 185 rfl dX3_init_183 (by decide) ?_
  refine EC_geF 207 188 (by decide) rfl dX3_init_185 (by decide) ?_
  refine EC_aload_n 189 rfl dX3_init_188 rfl 1 rfl ?_
  refine EC_gR (h + 4) 192 rfl dX3_init_189 (sh_H hh) (by omega) fl_X3_42 rfl (by simp [upS, jS_X9]) (rt_H7 hh) (H_lt hh 4 (by decide)) ?_
  refine EC_iload_n 193 rfl dX3_init_192 rfl 0 rfl ?_
  refine EC_new (M := mX3_init) (idx := 40) (N := 10) (bc := 9) (bs := 90) 196 rfl dX3_init_193 (sh_N ⟨h, 2, hh, by decide, rfl⟩) nw_X3_40 ?_
  refine EC_dup 197 rfl dX3_init_196 rfl ?_
  refine EC_cN (M := mX3_init) (bc := 9) (bs := 90) 200 rfl dX3_init_197 cn_X3_87 (by decide) (Nat.le_of_ble_eq_true rfl) (H_lt hh 35 (by decide)) (D_X5 (sh_N ⟨h, 2, hh, by decide, rfl⟩) (by omega)) ?_
  refine EC_ast (t0 := 5) (ci := 4) 2 (by decide) 201 rfl dX3_init_200 (sh_H4 hh) (.inr (.inr rfl)) (sh_N ⟨h, 2, hh, by decide, rfl⟩) (by omega) (by omega) rfl (fun _ => rfl) (by unfold vp_in; decide) (rt_aN hh (i := 2) (by decide)) ?_
  refine EC_iinc (j := 0) (v := 3) (lv' := [(1, .int 3), (0, .ref h)]) 204 rfl dX3_init_201 rfl (by decide) (Nat.le_of_ble_eq_true rfl) rfl ?_
  refine EC_goto 182 (by decide) dX3_init_204 ?_
  refine EC_iload_n 183 rfl dX3_init_182 rfl 0 rfl ?_
  refine EC_bipush (v := 12) 185 rfl dX3_init_183 (by decide) ?_
  refine EC_geF 207 188 (by decide) rfl dX3_init_185 (by decide) ?_
  refine EC_aload_n 189 rfl dX3_init_188 rfl 1 rfl ?_
  refine EC_gR (h + 4) 192 rfl dX3_init_189 (sh_H hh) (by omega) fl_X3_42 rfl (by simp [upS, jS_X9]) (rt_H7 hh) (H_lt hh 4 (by decide)) ?_
  refine EC_iload_n 193 rfl dX3_init_192 rfl 0 rfl ?_
  refine EC_new (M := mX3_init) (idx := 40) (N := 10) (bc := 8) (bs := 80) 196 rfl dX3_init_193 (sh_N ⟨h, 3, hh, by decide, rfl⟩) nw_X3_40 ?_
  refine EC_dup 197 rfl dX3_init_196 rfl ?_
  refine EC_cN (M := mX3_init) (bc := 8) (bs := 80) 200 rfl dX3_init_197 cn_X3_87 (by decide) (Nat.le_of_ble_eq_true rfl) (H_lt hh 36 (by decide)) (D_X5 (sh_N ⟨h, 3, hh, by decide, rfl⟩) (by omega)) ?_
  refine EC_ast (t0 := 5) (ci := 4) 3 (by decide) 201 rfl dX3_init_200 (sh_H4 hh) (.inr (.inr rfl)) (sh_N ⟨h, 3, hh, by decide, rfl⟩) (by omega) (by omega) rfl (fun _ => rfl) (by unfold vp_in; decide) (rt_aN hh (i := 3) (by decide)) ?_
  refine EC_iinc (j := 0) (v := 4) (lv' := [(1, .int 4), (0, .ref h)]) 204 rfl dX3_init_201 rfl (by decide) (Nat.le_of_ble_eq_true rfl) rfl ?_
  refine EC_goto 182 (by decide) dX3_init_204 ?_
  refine EC_iload_n 183 rfl dX3_init_182 rfl 0 rfl ?_
  refine EC_bipush (v := 12) 185 rfl dX3_init_183 (by decide) ?_
  refine EC_geF 207 188 (by decide) rfl dX3_init_185 (by decide) ?_
  refine EC_aload_n 189 rfl dX3_init_188 rfl 1 rfl ?_
  refine EC_gR (h + 4) 192 rfl dX3_init_189 (sh_H hh) (by omega) fl_X3_42 rfl (by simp [upS, jS_X9]) (rt_H7 hh) (H_lt hh 4 (by decide)) ?_
  refine EC_iload_n 193 rfl dX3_init_192 rfl 0 rfl ?_
  refine EC_new (M := mX3_init) (idx := 40) (N := 10) (bc := 7) (bs := 70) 196 rfl dX3_init_193 (sh_N ⟨h, 4, hh, by decide, rfl⟩) nw_X3_40 ?_
  refine EC_dup 197 rfl dX3_init_196 rfl ?_
  refine EC_cN (M := mX3_init) (bc := 7) (bs := 70) 200 rfl dX3_init_197 cn_X3_87 (by decide) (Nat.le_of_ble_eq_true rfl) (H_lt hh 37 (by decide)) (D_X5 (sh_N ⟨h, 4, hh, by decide, rfl⟩) (by omega)) ?_
  refine EC_ast (t0 := 5) (ci := 4) 4 (by decide) 201 rfl dX3_init_200 (sh_H4 hh) (.inr (.inr rfl)) (sh_N ⟨h, 4, hh, by decide, rfl⟩) (by omega) (by omega) rfl (fun _ => rfl) (by unfold vp_in; decide) (rt_aN hh (i := 4) (by decide)) ?_
  refine EC_iinc (j := 0) (v := 5) (lv' := [(1, .int 5), (0, .ref h)]) 204 rfl dX3_init_201 rfl (by decide) (Nat.le_of_ble_eq_true rfl) rfl ?_
  refine EC_goto 182 (by decide) dX3_init_204 ?_
  refine EC_iload_n 183 rfl dX3_init_182 rfl 0 rfl ?_
  refine EC_bipush (v := 12) 185 rfl dX3_init_183 (by decide) ?_
  refine EC_geF 207 188 (by decide) rfl dX3_init_185 (by decide) ?_
  refine EC_aload_n 189 rfl dX3_init_188 rfl 1 rfl ?_
  refine EC_gR (h + 4) 192 rfl dX3_init_189 (sh_H hh) (by omega) fl_X3_42 rfl (by simp [upS, jS_X9]) (rt_H7 hh) (H_lt hh 4 (by decide)) ?_
  refine EC_iload_n 193 rfl dX3_init_192 rfl 0 rfl ?_
  refine EC_new (M := mX3_init) (idx := 40) (N := 10) (bc := 6) (bs := 60) 196 rfl dX3_init_193 (sh_N ⟨h, 5, hh, by decide, rfl⟩) nw_X3_40 ?_
  refine EC_dup 197 rfl dX3_init_196 rfl ?_
  refine EC_cN (M := mX3_init) (bc := 6) (bs := 60) 200 rfl dX3_init_197 cn_X3_87 (by decide) (Nat.le_of_ble_eq_true rfl) (H_lt hh 38 (by decide)) (D_X5 (sh_N ⟨h, 5, hh, by decide, rfl⟩) (by omega)) ?_
  refine EC_ast (t0 := 5) (ci := 4) 5 (by decide) 201 rfl dX3_init_200 (sh_H4 hh) (.inr (.inr rfl)) (sh_N ⟨h, 5, hh, by decide, rfl⟩) (by omega) (by omega) rfl (fun _ => rfl) (by unfold vp_in; decide) (rt_aN hh (i := 5) (by decide)) ?_
  refine EC_iinc (j := 0) (v := 6) (lv' := [(1, .int 6), (0, .ref h)]) 204 rfl dX3_init_201 rfl (by decide) (Nat.le_of_ble_eq_true rfl) rfl ?_
  refine EC_goto 182 (by decide) dX3_init_204 ?_
  refine EC_iload_n 183 rfl dX3_init_182 rfl 0 rfl ?_
  refine EC_bipush (v := 12) 185 rfl dX3_init_183 (by decide) ?_
  refine EC_geF 207 188 (by decide) rfl dX3_init_185 (by decide) ?_
  refine EC_aload_n 189 rfl dX3_init_188 rfl 1 rfl ?_
  refine EC_gR (h + 4) 192 rfl dX3_init_189 (sh_H hh) (by omega) fl_X3_42 rfl (by simp [upS, jS_X9]) (rt_H7 hh) (H_lt hh 4 (by decide)) ?_
  refine EC_iload_n 193 rfl dX3_init_192 rfl 0 rfl ?_
  refine EC_new (M := mX3_init) (idx := 40) (N := 10) (bc := 5) (bs := 50) 196 rfl dX3_init_193 (sh_N ⟨h, 6, hh, by decide, rfl⟩) nw_X3_40 ?_
  refine EC_dup 197 rfl dX3_init_196 rfl ?_
  refine EC_cN (M := mX3_init) (bc := 5) (bs := 50) 200 rfl dX3_init_197 cn_X3_87 (by decide) (Nat.le_of_ble_eq_true rfl) (H_lt hh 39 (by decide)) (D_X5 (sh_N ⟨h, 6, hh, by decide, rfl⟩) (by omega)) ?_
  refine EC_ast (t0 := 5) (ci := 4) 6 (by decide) 201 rfl dX3_init_200 (sh_H4 hh) (.inr (.inr rfl)) (sh_N ⟨h, 6, hh, by decide, rfl⟩) (by omega) (by omega) rfl (fun _ => rfl) (by unfold vp_in; decide) (rt_aN hh (i := 6) (by decide)) ?_
  refine EC_iinc (j := 0) (v := 7) (lv' := [(1, .int 7), (0, .ref h)]) 204 rfl dX3_init_201 rfl (by decide) (Nat.le_of_ble_eq_true rfl) rfl ?_
  refine EC_goto 182 (by decide) dX3_init_204 ?_
  refine EC_iload_n 183 rfl dX3_init_182 rfl 0 rfl ?_
  refine EC_bipush (v := 12) 185 rfl dX3_init_183 (by decide) ?_
  refine EC_geF 207 188 (by decide) rfl dX3_init_185 (by decide) ?_
  refine EC_aload_n 189 rfl dX3_init_188 rfl 1 rfl ?_
  refine EC_gR (h + 4) 192 rfl dX3_init_189 (sh_H hh) (by omega) fl_X3_42 rfl (by simp [upS, jS_X9]) (rt_H7 hh) (H_lt hh 4 (by decide)) ?_
  refine EC_iload_n 193 rfl dX3_init_192 rfl 0 rfl ?_
  refine EC_new (M := mX3_init) (idx := 40) (N := 10) (bc := 4) (bs := 40) 196 rfl dX3_init_193 (sh_N ⟨h, 7, hh, by decide, rfl⟩) nw_X3_40 ?_
  refine EC_dup 197 rfl dX3_init_196 rfl ?_
  refine EC_cN (M := mX3_init) (bc := 4) (bs := 40) 200 rfl dX3_init_197 cn_X3_87 (by decide) (Nat.le_of_ble_eq_true rfl) (H_lt hh 40 (by decide)) (D_X5 (sh_N ⟨h, 7, hh, by decide, rfl⟩) (by omega)) ?_
  refine EC_ast (t0 := 5) (ci := 4) 7 (by decide) 201 rfl dX3_init_200 (sh_H4 hh) (.inr (.inr rfl)) (sh_N ⟨h, 7, hh, by decide, rfl⟩) (by omega) (by omega) rfl (fun _ => rfl) (by unfold vp_in; decide) (rt_aN hh (i := 7) (by decide)) ?_
  refine EC_iinc (j := 0) (v := 8) (lv' := [(1, .int 8), (0, .ref h)]) 204 rfl dX3_init_201 rfl (by decide) (Nat.le_of_ble_eq_true rfl) rfl ?_
  refine EC_goto 182 (by decide) dX3_init_204 ?_
  refine EC_iload_n 183 rfl dX3_init_182 rfl 0 rfl ?_
  refine EC_bipush (v := 12) 185 rfl dX3_init_183 (by decide) ?_
  refine EC_geF 207 188 (by decide) rfl dX3_init_185 (by decide) ?_
  refine EC_aload_n 189 rfl dX3_init_188 rfl 1 rfl ?_
  refine EC_gR (h + 4) 192 rfl dX3_init_189 (sh_H hh) (by omega) fl_X3_42 rfl (by simp [upS, jS_X9]) (rt_H7 hh) (H_lt hh 4 (by decide)) ?_
  refine EC_iload_n 193 rfl dX3_init_192 rfl 0 rfl ?_
  refine EC_new (M := mX3_init) (idx := 40) (N := 10) (bc := 3) (bs := 30) 196 rfl dX3_init_193 (sh_N ⟨h, 8, hh, by decide, rfl⟩) nw_X3_40 ?_
  refine EC_dup 197 rfl dX3_init_196 rfl ?_
  refine EC_cN (M := mX3_init) (bc := 3) (bs := 30) 200 rfl dX3_init_197 cn_X3_87 (by decide) (Nat.le_of_ble_eq_true rfl) (H_lt hh 41 (by decide)) (D_X5 (sh_N ⟨h, 8, hh, by decide, rfl⟩) (by omega)) ?_
  refine EC_ast (t0 := 5) (ci := 4) 8 (by decide) 201 rfl dX3_init_200 (sh_H4 hh) (.inr (.inr rfl)) (sh_N ⟨h, 8, hh, by decide, rfl⟩) (by omega) (by omega) rfl (fun _ => rfl) (by unfold vp_in; decide) (rt_aN hh (i := 8) (by decide)) ?_
  refine EC_iinc (j := 0) (v := 9) (lv' := [(1, .int 9), (0, .ref h)]) 204 rfl dX3_init_201 rfl (by decide) (Nat.le_of_ble_eq_true rfl) rfl ?_
  refine EC_goto 182 (by decide) dX3_init_204 ?_
  refine EC_iload_n 183 rfl dX3_init_182 rfl 0 rfl ?_
  refine EC_bipush (v := 12) 185 rfl dX3_init_183 (by decide) ?_
  refine EC_geF 207 188 (by decide) rfl dX3_init_185 (by decide) ?_
  refine EC_aload_n 189 rfl dX3_init_188 rfl 1 rfl ?_
  refine EC_gR (h + 4) 192 rfl dX3_init_189 (sh_H hh) (by omega) fl_X3_42 rfl (by simp [upS, jS_X9]) (rt_H7 hh) (H_lt hh 4 (by decide)) ?_
  refine EC_iload_n 193 rfl dX3_init_192 rfl 0 rfl ?_
  refine EC_new (M := mX3_init) (idx := 40) (N := 10) (bc := 2) (bs := 20) 196 rfl dX3_init_193 (sh_N ⟨h, 9, hh, by decide, rfl⟩) nw_X3_40 ?_
  refine EC_dup 197 rfl dX3_init_196 rfl ?_
  refine EC_cN (M := mX3_init) (bc := 2) (bs := 20) 200 rfl dX3_init_197 cn_X3_87 (by decide) (Nat.le_of_ble_eq_true rfl) (H_lt hh 42 (by decide)) (D_X5 (sh_N ⟨h, 9, hh, by decide, rfl⟩) (by omega)) ?_
  refine EC_ast (t0 := 5) (ci := 4) 9 (by decide) 201 rfl dX3_init_200 (sh_H4 hh) (.inr (.inr rfl)) (sh_N ⟨h, 9, hh, by decide, rfl⟩) (by omega) (by omega) rfl (fun _ => rfl) (by unfold vp_in; decide) (rt_aN hh (i := 9) (by decide)) ?_
  refine EC_iinc (j := 0) (v := 10) (lv' := [(1, .int 10), (0, .ref h)]) 204 rfl dX3_init_201 rfl (by decide) (Nat.le_of_ble_eq_true rfl) rfl ?_
  refine EC_goto 182 (by decide) dX3_init_204 ?_
  refine EC_iload_n 183 rfl dX3_init_182 rfl 0 rfl ?_
  refine EC_bipush (v := 12) 185 rfl dX3_init_183 (by decide) ?_
  refine EC_geF 207 188 (by decide) rfl dX3_init_185 (by decide) ?_
  refine EC_aload_n 189 rfl dX3_init_188 rfl 1 rfl ?_
  refine EC_gR (h + 4) 192 rfl dX3_init_189 (sh_H hh) (by omega) fl_X3_42 rfl (by simp [upS, jS_X9]) (rt_H7 hh) (H_lt hh 4 (by decide)) ?_
  refine EC_iload_n 193 rfl dX3_init_192 rfl 0 rfl ?_
  refine EC_new (M := mX3_init) (idx := 40) (N := 10) (bc := 1) (bs := 10) 196 rfl dX3_init_193 (sh_N ⟨h, 10, hh, by decide, rfl⟩) nw_X3_40 ?_
  refine EC_dup 197 rfl dX3_init_196 rfl ?_
  refine EC_cN (M := mX3_init) (bc := 1) (bs := 10) 200 rfl dX3_init_197 cn_X3_87 (by decide) (Nat.le_of_ble_eq_true rfl) (H_lt hh 43 (by decide)) (D_X5 (sh_N ⟨h, 10, hh, by decide, rfl⟩) (by omega)) ?_
  refine EC_ast (t0 := 5) (ci := 4) 10 (by decide) 201 rfl dX3_init_200 (sh_H4 hh) (.inr (.inr rfl)) (sh_N ⟨h, 10, hh, by decide, rfl⟩) (by omega) (by omega) rfl (fun _ => rfl) (by unfold vp_in; decide) (rt_aN hh (i := 10) (by decide)) ?_
  refine EC_iinc (j := 0) (v := 11) (lv' := [(1, .int 11), (0, .ref h)]) 204 rfl dX3_init_201 rfl (by decide) (Nat.le_of_ble_eq_true rfl) rfl ?_
  refine EC_goto 182 (by decide) dX3_init_204 ?_
  refine EC_iload_n 183 rfl dX3_init_182 rfl 0 rfl ?_
  refine EC_bipush (v := 12) 185 rfl dX3_init_183 (by decide) ?_
  refine EC_geF 207 188 (by decide) rfl dX3_init_185 (by decide) ?_
  refine EC_aload_n 189 rfl dX3_init_188 rfl 1 rfl ?_
  refine EC_gR (h + 4) 192 rfl dX3_init_189 (sh_H hh) (by omega) fl_X3_42 rfl (by simp [upS, jS_X9]) (rt_H7 hh) (H_lt hh 4 (by decide)) ?_
  refine EC_iload_n 193 rfl dX3_init_192 rfl 0 rfl ?_
  refine EC_new (M := mX3_init) (idx := 40) (N := 10) (bc := 0) (bs := 0) 196 rfl dX3_init_193 (sh_N ⟨h, 11, hh, by decide, rfl⟩) nw_X3_40 ?_
  refine EC_dup 197 rfl dX3_init_196 rfl ?_
  refine EC_cN (M := mX3_init) (bc := 0) (bs := 0) 200 rfl dX3_init_197 cn_X3_87 (by decide) (Nat.le_of_ble_eq_true rfl) (H_lt hh 44 (by decide)) (D_X5 (sh_N ⟨h, 11, hh, by decide, rfl⟩) (by omega)) ?_
  refine EC_ast (t0 := 5) (ci := 4) 11 (by decide) 201 rfl dX3_init_200 (sh_H4 hh) (.inr (.inr rfl)) (sh_N ⟨h, 11, hh, by decide, rfl⟩) (by omega) (by omega) rfl (fun _ => rfl) (by unfold vp_in; decide) (rt_aN hh (i := 11) (by decide)) ?_
  refine EC_iinc (j := 0) (v := 12) (lv' := [(1, .int 12), (0, .ref h)]) 204 rfl dX3_init_201 rfl (by decide) (Nat.le_of_ble_eq_true rfl) rfl ?_
  refine EC_goto 182 (by decide) dX3_init_204 ?_
  refine EC_iload_n 183 rfl dX3_init_182 rfl 0 rfl ?_
  refine EC_bipush (v := 12) 185 rfl dX3_init_183 (by decide) ?_
  refine EC_geT 207 (by decide) dX3_init_185 (by decide) ?_
  exact EC_ret rfl dX3_init_207 rfl
theorem ci_X11_39 : CI RX11 39 mX3_init := ⟨⟨tg1 157 rfl rfl, tg1 6 rfl rfl, tg1 159 rfl rfl, ⟨by decide, by decide⟩, by decide +kernel, by decide⟩, rfl, rfl, tg1 158 rfl rfl⟩
def jI_X11 (I : MI) : MI := up2 (jI_X3 104 (up2 (jI_X3 59 (up2 (jI_X3 14 (jI_X7 (jI_X6 (jI_X0 (jI_X8 I))))) 0 4 (nI 14))) 0 5 (nI 59))) 0 7 (bI false)
def jS_X11 (S : MS) : MS := upS (jS_X3 104 (upS (jS_X3 59 (upS (jS_X3 14 (upS (jS_X7 (upS (jS_X6 (upS (jS_X0 (upS (jS_X8 S) 0 0)) 0 1)) 0 2)) 0 3)) 0 4)) 0 5)) 0 6
def jL_X11 (L : ML) : ML := jL_X7 (jL_X6 L)
abbrev mX11_init : Mth := (yX11_init, cX11_init, 1, none)
set_option maxRecDepth 100000 in
set_option maxHeartbeats 4000000 in
theorem D_X11 {g : Gx} {I : MI} {L : ML} {S : MS} : EntC g 6 148 3032 mX11_init 0 (I, L, S, 1) (jI_X11 I, jL_X11 L, jS_X11 S, 149) := by
  refine EntC_of (by decide +kernel) rfl (by decide) (by decide) ?_
  refine EC_aload_n 1 rfl dX11_init_0 rfl 0 rfl ?_
  refine EC_obj 4 rfl dX11_init_1 oi_X11_1 (by decide) (Nat.le_of_ble_eq_true rfl) ?_
  refine EC_aload_n 5 rfl dX11_init_4 rfl 0 rfl ?_
  refine EC_new (M := mX11_init) (idx := 7) (N := 8) (bc := 147) (bs := 3024) 8 rfl dX11_init_5 shc_1 nw_X11_7 ?_
  refine EC_dup 9 rfl dX11_init_8 rfl ?_
  refine EC_cN (M := mX11_init) (bc := 146) (bs := 2624) 12 rfl dX11_init_9 cn_X11_9 (by decide) (Nat.le_of_ble_eq_true rfl) (by decide) D_X8 ?_
  refine EC_pR 15 rfl dX11_init_12 shc_0 (by decide) fl_X11_10 (fun C T N h9 => by cases h9; rfl) (Or.inl ⟨_, rfl⟩) rfl (by decide) (by decide) ?_
  refine EC_aload_n 16 rfl dX11_init_15 rfl 0 rfl ?_
  refine EC_new (M := mX11_init) (idx := 16) (N := 6) (bc := 145) (bs := 2618) 19 rfl dX11_init_16 shc_3 nw_X11_16 ?_
  refine EC_dup 20 rfl dX11_init_19 rfl ?_
  refine EC_cN (M := mX11_init) (bc := 141) (bs := 2570) 23 rfl dX11_init_20 cn_X11_18 (by decide) (Nat.le_of_ble_eq_true rfl) (by decide) D_X0 ?_
  refine EC_pR 26 rfl dX11_init_23 shc_0 (by decide) fl_X11_19 (fun C T N h9 => by cases h9; rfl) (Or.inl ⟨_, rfl⟩) rfl (by decide) (by decide) ?_
  refine EC_aload_n 27 rfl dX11_init_26 rfl 0 rfl ?_
  refine EC_new (M := mX11_init) (idx := 23) (N := 5) (bc := 140) (bs := 2565) 30 rfl dX11_init_27 shc_8 nw_X11_23 ?_
  refine EC_dup 31 rfl dX11_init_30 rfl ?_
  refine EC_cN (M := mX11_init) (bc := 138) (bs := 2553) 34 rfl dX11_init_31 cn_X11_25 (by decide) (Nat.le_of_ble_eq_true rfl) (by decide) D_X6 ?_
  refine EC_pR 37 rfl dX11_init_34 shc_0 (by decide) fl_X11_26 (fun C T N h9 => by cases h9; rfl) (Or.inl ⟨_, rfl⟩) rfl (by decide) (by decide) ?_
  refine EC_aload_n 38 rfl dX11_init_37 rfl 0 rfl ?_
  refine EC_new (M := mX11_init) (idx := 30) (N := 6) (bc := 137) (bs := 2547) 41 rfl dX11_init_38 shc_11 nw_X11_30 ?_
  refine EC_dup 42 rfl dX11_init_41 rfl ?_
  refine EC_cN (M := mX11_init) (bc := 135) (bs := 2523) 45 rfl dX11_init_42 cn_X11_32 (by decide) (Nat.le_of_ble_eq_true rfl) (by decide) D_X7 ?_
  refine EC_pR 48 rfl dX11_init_45 shc_0 (by decide) fl_X11_33 (fun C T N h9 => by cases h9; rfl) (Or.inl ⟨_, rfl⟩) rfl (by decide) (by decide) ?_
  refine EC_aload_n 49 rfl dX11_init_48 rfl 0 rfl ?_
  refine EC_new (M := mX11_init) (idx := 37) (N := 19) (bc := 134) (bs := 2504) 52 rfl dX11_init_49 shc_14 nw_X11_37 ?_
  refine EC_dup 53 rfl dX11_init_52 rfl ?_
  refine EC_cI (M := mX11_init) (bc := 90) (bs := 1682) 56 rfl dX11_init_53 ci_X11_39 (by decide) (Nat.le_of_ble_eq_true rfl) (by decide) (D_X3 (h := 14) (Or.inl rfl)) ?_
  refine EC_pD 59 rfl dX11_init_56 shc_0 (by decide) fl_X11_40 rfl (by decide) ?_
  refine EC_aload_n 60 rfl dX11_init_59 rfl 0 rfl ?_
  refine EC_new (M := mX11_init) (idx := 37) (N := 19) (bc := 89) (bs := 1663) 63 rfl dX11_init_60 shc_59 nw_X11_37 ?_
  refine EC_dup 64 rfl dX11_init_63 rfl ?_
  refine EC_cI (M := mX11_init) (bc := 45) (bs := 841) 67 rfl dX11_init_64 ci_X11_39 (by decide) (Nat.le_of_ble_eq_true rfl) (by decide) (D_X3 (h := 59) (Or.inr (Or.inl rfl))) ?_
  refine EC_pD 70 rfl dX11_init_67 shc_0 (by decide) fl_X11_44 rfl (by decide) ?_
  refine EC_aload_n 71 rfl dX11_init_70 rfl 0 rfl ?_
  refine EC_new (M := mX11_init) (idx := 37) (N := 19) (bc := 44) (bs := 822) 74 rfl dX11_init_71 shc_104 nw_X11_37 ?_
  refine EC_dup 75 rfl dX11_init_74 rfl ?_
  refine EC_cI (M := mX11_init) (bc := 0) (bs := 0) 78 rfl dX11_init_75 ci_X11_39 (by decide) (Nat.le_of_ble_eq_true rfl) (by decide) (D_X3 (h := 104) (Or.inr (Or.inr rfl))) ?_
  refine EC_pR 81 rfl dX11_init_78 shc_0 (by decide) fl_X11_47 (fun C T N h9 => by cases h9; rfl) (Or.inl ⟨_, rfl⟩) rfl (by decide) (by decide) ?_
  refine EC_aload_n 82 rfl dX11_init_81 rfl 0 rfl ?_
  refine EC_iconst (v := 0) 83 rfl dX11_init_82 (by decide) ?_
  refine EC_pB (x := false) 86 rfl dX11_init_83 shc_0 (by decide) fl_X11_50 rfl ?_
  exact EC_ret rfl dX11_init_86 rfl
