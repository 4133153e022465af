/-! Names and words of the constructors. Printed by wip/whole/emitc.py. -/
abbrev cc_P_init : ByteArray := prog_4_method_1_code
def y_P_init : MethodName := ⟨"PanelOffice$Pool", "<init>", "()V"⟩
abbrev rm_P_init : Room := { frames := 1, cells := 4, slots := 75, locals := 20 }
theorem d_P_init_0 : decode cc_P_init 0 = .ok (.aload_n 0, 1) := by decide +kernel
theorem d_P_init_1 : decode cc_P_init 1 = .ok (.invokespecial 3, 3) := by decide +kernel
theorem d_P_init_4 : decode cc_P_init 4 = .ok (.aload_n 0, 1) := by decide +kernel
theorem d_P_init_5 : decode cc_P_init 5 = .ok (.iconst 3, 1) := by decide +kernel
theorem d_P_init_6 : decode cc_P_init 6 = .ok (.newarray .int, 2) := by decide +kernel
theorem d_P_init_8 : decode cc_P_init 8 = .ok (.dup, 1) := by decide +kernel
theorem d_P_init_9 : decode cc_P_init 9 = .ok (.iconst 0, 1) := by decide +kernel
theorem d_P_init_10 : decode cc_P_init 10 = .ok (.iconst 1, 1) := by decide +kernel
theorem d_P_init_11 : decode cc_P_init 11 = .ok (.iastore, 1) := by decide +kernel
theorem d_P_init_12 : decode cc_P_init 12 = .ok (.dup, 1) := by decide +kernel
theorem d_P_init_13 : decode cc_P_init 13 = .ok (.iconst 1, 1) := by decide +kernel
theorem d_P_init_14 : decode cc_P_init 14 = .ok (.iconst 1, 1) := by decide +kernel
theorem d_P_init_15 : decode cc_P_init 15 = .ok (.iastore, 1) := by decide +kernel
theorem d_P_init_16 : decode cc_P_init 16 = .ok (.dup, 1) := by decide +kernel
theorem d_P_init_17 : decode cc_P_init 17 = .ok (.iconst 2, 1) := by decide +kernel
theorem d_P_init_18 : decode cc_P_init 18 = .ok (.iconst 1, 1) := by decide +kernel
theorem d_P_init_19 : decode cc_P_init 19 = .ok (.iastore, 1) := by decide +kernel
theorem d_P_init_20 : decode cc_P_init 20 = .ok (.putfield 9, 3) := by decide +kernel
theorem d_P_init_23 : decode cc_P_init 23 = .ok (.aload_n 0, 1) := by decide +kernel
theorem d_P_init_24 : decode cc_P_init 24 = .ok (.bipush 40, 2) := by decide +kernel
theorem d_P_init_26 : decode cc_P_init 26 = .ok (.newarray .int, 2) := by decide +kernel
theorem d_P_init_28 : decode cc_P_init 28 = .ok (.putfield 15, 3) := by decide +kernel
theorem d_P_init_31 : decode cc_P_init 31 = .ok (.aload_n 0, 1) := by decide +kernel
theorem d_P_init_32 : decode cc_P_init 32 = .ok (.bipush 16, 2) := by decide +kernel
theorem d_P_init_34 : decode cc_P_init 34 = .ok (.newarray .int, 2) := by decide +kernel
theorem d_P_init_36 : decode cc_P_init 36 = .ok (.putfield 18, 3) := by decide +kernel
theorem d_P_init_39 : decode cc_P_init 39 = .ok (.aload_n 0, 1) := by decide +kernel
theorem d_P_init_40 : decode cc_P_init 40 = .ok (.bipush 16, 2) := by decide +kernel
theorem d_P_init_42 : decode cc_P_init 42 = .ok (.newarray .int, 2) := by decide +kernel
theorem d_P_init_44 : decode cc_P_init 44 = .ok (.putfield 21, 3) := by decide +kernel
theorem d_P_init_47 : decode cc_P_init 47 = .ok (.aload_n 0, 1) := by decide +kernel
theorem d_P_init_48 : decode cc_P_init 48 = .ok (.iconst 0, 1) := by decide +kernel
theorem d_P_init_49 : decode cc_P_init 49 = .ok (.putfield 24, 3) := by decide +kernel
theorem d_P_init_52 : decode cc_P_init 52 = .ok (.aload_n 0, 1) := by decide +kernel
theorem d_P_init_53 : decode cc_P_init 53 = .ok (.iconst 0, 1) := by decide +kernel
theorem d_P_init_54 : decode cc_P_init 54 = .ok (.putfield 28, 3) := by decide +kernel
theorem d_P_init_57 : decode cc_P_init 57 = .ok (.return_, 1) := by decide +kernel
abbrev cc_Q_init : ByteArray := prog_5_method_1_code
def y_Q_init : MethodName := ⟨"PanelOffice$Quotas", "<init>", "()V"⟩
abbrev rm_Q_init : Room := { frames := 1, cells := 2, slots := 24, locals := 23 }
theorem d_Q_init_0 : decode cc_Q_init 0 = .ok (.aload_n 0, 1) := by decide +kernel
theorem d_Q_init_1 : decode cc_Q_init 1 = .ok (.invokespecial 3, 3) := by decide +kernel
theorem d_Q_init_4 : decode cc_Q_init 4 = .ok (.aload_n 0, 1) := by decide +kernel
theorem d_Q_init_5 : decode cc_Q_init 5 = .ok (.bipush 12, 2) := by decide +kernel
theorem d_Q_init_7 : decode cc_Q_init 7 = .ok (.newarray .int, 2) := by decide +kernel
theorem d_Q_init_9 : decode cc_Q_init 9 = .ok (.putfield 9, 3) := by decide +kernel
theorem d_Q_init_12 : decode cc_Q_init 12 = .ok (.aload_n 0, 1) := by decide +kernel
theorem d_Q_init_13 : decode cc_Q_init 13 = .ok (.bipush 12, 2) := by decide +kernel
theorem d_Q_init_15 : decode cc_Q_init 15 = .ok (.newarray .int, 2) := by decide +kernel
theorem d_Q_init_17 : decode cc_Q_init 17 = .ok (.putfield 15, 3) := by decide +kernel
theorem d_Q_init_20 : decode cc_Q_init 20 = .ok (.aload_n 0, 1) := by decide +kernel
theorem d_Q_init_21 : decode cc_Q_init 21 = .ok (.getfield 15, 3) := by decide +kernel
theorem d_Q_init_24 : decode cc_Q_init 24 = .ok (.bipush 8, 2) := by decide +kernel
theorem d_Q_init_26 : decode cc_Q_init 26 = .ok (.invokestatic 18, 3) := by decide +kernel
theorem d_Q_init_29 : decode cc_Q_init 29 = .ok (.return_, 1) := by decide +kernel
abbrev cc_T_init : ByteArray := prog_8_method_1_code
def y_T_init : MethodName := ⟨"PanelOffice$Tally", "<init>", "(LPanelOffice$Pool;)V"⟩
abbrev rm_T_init : Room := { frames := 1, cells := 9, slots := 8440, locals := 23 }
theorem d_T_init_0 : decode cc_T_init 0 = .ok (.aload_n 0, 1) := by decide +kernel
theorem d_T_init_1 : decode cc_T_init 1 = .ok (.invokespecial 5, 3) := by decide +kernel
theorem d_T_init_4 : decode cc_T_init 4 = .ok (.aload_n 0, 1) := by decide +kernel
theorem d_T_init_5 : decode cc_T_init 5 = .ok (.sipush 1001, 3) := by decide +kernel
theorem d_T_init_8 : decode cc_T_init 8 = .ok (.newarray .long, 2) := by decide +kernel
theorem d_T_init_10 : decode cc_T_init 10 = .ok (.putfield 11, 3) := by decide +kernel
theorem d_T_init_13 : decode cc_T_init 13 = .ok (.aload_n 0, 1) := by decide +kernel
theorem d_T_init_14 : decode cc_T_init 14 = .ok (.sipush 1001, 3) := by decide +kernel
theorem d_T_init_17 : decode cc_T_init 17 = .ok (.newarray .int, 2) := by decide +kernel
theorem d_T_init_19 : decode cc_T_init 19 = .ok (.putfield 15, 3) := by decide +kernel
theorem d_T_init_22 : decode cc_T_init 22 = .ok (.aload_n 0, 1) := by decide +kernel
theorem d_T_init_23 : decode cc_T_init 23 = .ok (.sipush 1001, 3) := by decide +kernel
theorem d_T_init_26 : decode cc_T_init 26 = .ok (.newarray .int, 2) := by decide +kernel
theorem d_T_init_28 : decode cc_T_init 28 = .ok (.putfield 19, 3) := by decide +kernel
theorem d_T_init_31 : decode cc_T_init 31 = .ok (.aload_n 0, 1) := by decide +kernel
theorem d_T_init_32 : decode cc_T_init 32 = .ok (.sipush 1001, 3) := by decide +kernel
theorem d_T_init_35 : decode cc_T_init 35 = .ok (.newarray .int, 2) := by decide +kernel
theorem d_T_init_37 : decode cc_T_init 37 = .ok (.putfield 22, 3) := by decide +kernel
theorem d_T_init_40 : decode cc_T_init 40 = .ok (.aload_n 0, 1) := by decide +kernel
theorem d_T_init_41 : decode cc_T_init 41 = .ok (.sipush 1001, 3) := by decide +kernel
theorem d_T_init_44 : decode cc_T_init 44 = .ok (.newarray .long, 2) := by decide +kernel
theorem d_T_init_46 : decode cc_T_init 46 = .ok (.putfield 25, 3) := by decide +kernel
theorem d_T_init_49 : decode cc_T_init 49 = .ok (.aload_n 0, 1) := by decide +kernel
theorem d_T_init_50 : decode cc_T_init 50 = .ok (.sipush 1001, 3) := by decide +kernel
theorem d_T_init_53 : decode cc_T_init 53 = .ok (.newarray .long, 2) := by decide +kernel
theorem d_T_init_55 : decode cc_T_init 55 = .ok (.putfield 28, 3) := by decide +kernel
theorem d_T_init_58 : decode cc_T_init 58 = .ok (.aload_n 0, 1) := by decide +kernel
theorem d_T_init_59 : decode cc_T_init 59 = .ok (.sipush 2048, 3) := by decide +kernel
theorem d_T_init_62 : decode cc_T_init 62 = .ok (.newarray .int, 2) := by decide +kernel
theorem d_T_init_64 : decode cc_T_init 64 = .ok (.putfield 31, 3) := by decide +kernel
theorem d_T_init_67 : decode cc_T_init 67 = .ok (.aload_n 0, 1) := by decide +kernel
theorem d_T_init_68 : decode cc_T_init 68 = .ok (.bipush 17, 2) := by decide +kernel
theorem d_T_init_70 : decode cc_T_init 70 = .ok (.newarray .int, 2) := by decide +kernel
theorem d_T_init_72 : decode cc_T_init 72 = .ok (.putfield 34, 3) := by decide +kernel
theorem d_T_init_75 : decode cc_T_init 75 = .ok (.aload_n 0, 1) := by decide +kernel
theorem d_T_init_76 : decode cc_T_init 76 = .ok (.sipush 369, 3) := by decide +kernel
theorem d_T_init_79 : decode cc_T_init 79 = .ok (.newarray .int, 2) := by decide +kernel
theorem d_T_init_81 : decode cc_T_init 81 = .ok (.putfield 37, 3) := by decide +kernel
theorem d_T_init_84 : decode cc_T_init 84 = .ok (.aload_n 0, 1) := by decide +kernel
theorem d_T_init_85 : decode cc_T_init 85 = .ok (.iconst 0, 1) := by decide +kernel
theorem d_T_init_86 : decode cc_T_init 86 = .ok (.putfield 40, 3) := by decide +kernel
theorem d_T_init_89 : decode cc_T_init 89 = .ok (.aload_n 0, 1) := by decide +kernel
theorem d_T_init_90 : decode cc_T_init 90 = .ok (.iconst 0, 1) := by decide +kernel
theorem d_T_init_91 : decode cc_T_init 91 = .ok (.putfield 44, 3) := by decide +kernel
theorem d_T_init_94 : decode cc_T_init 94 = .ok (.aload_n 0, 1) := by decide +kernel
theorem d_T_init_95 : decode cc_T_init 95 = .ok (.iconst 0, 1) := by decide +kernel
theorem d_T_init_96 : decode cc_T_init 96 = .ok (.putfield 48, 3) := by decide +kernel
theorem d_T_init_99 : decode cc_T_init 99 = .ok (.aload_n 0, 1) := by decide +kernel
theorem d_T_init_100 : decode cc_T_init 100 = .ok (.aload_n 1, 1) := by decide +kernel
theorem d_T_init_101 : decode cc_T_init 101 = .ok (.putfield 51, 3) := by decide +kernel
theorem d_T_init_104 : decode cc_T_init 104 = .ok (.iconst 0, 1) := by decide +kernel
theorem d_T_init_105 : decode cc_T_init 105 = .ok (.istore_n 2, 1) := by decide +kernel
theorem d_T_init_106 : decode cc_T_init 106 = .ok (.iload_n 2, 1) := by decide +kernel
theorem d_T_init_107 : decode cc_T_init 107 = .ok (.bipush 40, 2) := by decide +kernel
theorem d_T_init_109 : decode cc_T_init 109 = .ok (.if_icmp .gt 77, 3) := by decide +kernel
theorem d_T_init_112 : decode cc_T_init 112 = .ok (.aload_n 0, 1) := by decide +kernel
theorem d_T_init_113 : decode cc_T_init 113 = .ok (.getfield 37, 3) := by decide +kernel
theorem d_T_init_116 : decode cc_T_init 116 = .ok (.iload_n 2, 1) := by decide +kernel
theorem d_T_init_117 : decode cc_T_init 117 = .ok (.bipush 9, 2) := by decide +kernel
theorem d_T_init_119 : decode cc_T_init 119 = .ok (.imul, 1) := by decide +kernel
theorem d_T_init_120 : decode cc_T_init 120 = .ok (.iconst 1, 1) := by decide +kernel
theorem d_T_init_121 : decode cc_T_init 121 = .ok (.iastore, 1) := by decide +kernel
theorem d_T_init_122 : decode cc_T_init 122 = .ok (.iconst 1, 1) := by decide +kernel
theorem d_T_init_123 : decode cc_T_init 123 = .ok (.istore_n 3, 1) := by decide +kernel
theorem d_T_init_124 : decode cc_T_init 124 = .ok (.iload_n 3, 1) := by decide +kernel
theorem d_T_init_125 : decode cc_T_init 125 = .ok (.iload_n 2, 1) := by decide +kernel
theorem d_T_init_126 : decode cc_T_init 126 = .ok (.bipush 8, 2) := by decide +kernel
theorem d_T_init_128 : decode cc_T_init 128 = .ok (.invokestatic 55, 3) := by decide +kernel
theorem d_T_init_131 : decode cc_T_init 131 = .ok (.if_icmp .gt 49, 3) := by decide +kernel
theorem d_T_init_134 : decode cc_T_init 134 = .ok (.aload_n 0, 1) := by decide +kernel
theorem d_T_init_135 : decode cc_T_init 135 = .ok (.getfield 37, 3) := by decide +kernel
theorem d_T_init_138 : decode cc_T_init 138 = .ok (.iload_n 2, 1) := by decide +kernel
theorem d_T_init_139 : decode cc_T_init 139 = .ok (.bipush 9, 2) := by decide +kernel
theorem d_T_init_141 : decode cc_T_init 141 = .ok (.imul, 1) := by decide +kernel
theorem d_T_init_142 : decode cc_T_init 142 = .ok (.iload_n 3, 1) := by decide +kernel
theorem d_T_init_143 : decode cc_T_init 143 = .ok (.iadd, 1) := by decide +kernel
theorem d_T_init_144 : decode cc_T_init 144 = .ok (.aload_n 0, 1) := by decide +kernel
theorem d_T_init_145 : decode cc_T_init 145 = .ok (.getfield 37, 3) := by decide +kernel
theorem d_T_init_148 : decode cc_T_init 148 = .ok (.iload_n 2, 1) := by decide +kernel
theorem d_T_init_149 : decode cc_T_init 149 = .ok (.iconst 1, 1) := by decide +kernel
theorem d_T_init_150 : decode cc_T_init 150 = .ok (.isub, 1) := by decide +kernel
theorem d_T_init_151 : decode cc_T_init 151 = .ok (.bipush 9, 2) := by decide +kernel
theorem d_T_init_153 : decode cc_T_init 153 = .ok (.imul, 1) := by decide +kernel
theorem d_T_init_154 : decode cc_T_init 154 = .ok (.iload_n 3, 1) := by decide +kernel
theorem d_T_init_155 : decode cc_T_init 155 = .ok (.iadd, 1) := by decide +kernel
theorem d_T_init_156 : decode cc_T_init 156 = .ok (.iconst 1, 1) := by decide +kernel
theorem d_T_init_157 : decode cc_T_init 157 = .ok (.isub, 1) := by decide +kernel
theorem d_T_init_158 : decode cc_T_init 158 = .ok (.iaload, 1) := by decide +kernel
theorem d_T_init_159 : decode cc_T_init 159 = .ok (.aload_n 0, 1) := by decide +kernel
theorem d_T_init_160 : decode cc_T_init 160 = .ok (.getfield 37, 3) := by decide +kernel
theorem d_T_init_163 : decode cc_T_init 163 = .ok (.iload_n 2, 1) := by decide +kernel
theorem d_T_init_164 : decode cc_T_init 164 = .ok (.iconst 1, 1) := by decide +kernel
theorem d_T_init_165 : decode cc_T_init 165 = .ok (.isub, 1) := by decide +kernel
theorem d_T_init_166 : decode cc_T_init 166 = .ok (.bipush 9, 2) := by decide +kernel
theorem d_T_init_168 : decode cc_T_init 168 = .ok (.imul, 1) := by decide +kernel
theorem d_T_init_169 : decode cc_T_init 169 = .ok (.iload_n 3, 1) := by decide +kernel
theorem d_T_init_170 : decode cc_T_init 170 = .ok (.iadd, 1) := by decide +kernel
theorem d_T_init_171 : decode cc_T_init 171 = .ok (.iaload, 1) := by decide +kernel
theorem d_T_init_172 : decode cc_T_init 172 = .ok (.iadd, 1) := by decide +kernel
theorem d_T_init_173 : decode cc_T_init 173 = .ok (.iastore, 1) := by decide +kernel
theorem d_T_init_174 : decode cc_T_init 174 = .ok (.iinc 3 1, 3) := by decide +kernel
theorem d_T_init_177 : decode cc_T_init 177 = .ok (.goto (-53), 3) := by decide +kernel
theorem d_T_init_180 : decode cc_T_init 180 = .ok (.iinc 2 1, 3) := by decide +kernel
theorem d_T_init_183 : decode cc_T_init 183 = .ok (.goto (-77), 3) := by decide +kernel
theorem d_T_init_186 : decode cc_T_init 186 = .ok (.return_, 1) := by decide +kernel
abbrev cc_R_init : ByteArray := prog_6_method_1_code
def y_R_init : MethodName := ⟨"PanelOffice$Ranking", "<init>", "(LPanelOffice$Pool;LPanelOffice$Tally;)V"⟩
abbrev rm_R_init : Room := { frames := 1, cells := 0, slots := 0, locals := 20 }
theorem d_R_init_0 : decode cc_R_init 0 = .ok (.aload_n 0, 1) := by decide +kernel
theorem d_R_init_1 : decode cc_R_init 1 = .ok (.invokespecial 1, 3) := by decide +kernel
theorem d_R_init_4 : decode cc_R_init 4 = .ok (.aload_n 0, 1) := by decide +kernel
theorem d_R_init_5 : decode cc_R_init 5 = .ok (.aload_n 1, 1) := by decide +kernel
theorem d_R_init_6 : decode cc_R_init 6 = .ok (.putfield 7, 3) := by decide +kernel
theorem d_R_init_9 : decode cc_R_init 9 = .ok (.aload_n 0, 1) := by decide +kernel
theorem d_R_init_10 : decode cc_R_init 10 = .ok (.aload_n 2, 1) := by decide +kernel
theorem d_R_init_11 : decode cc_R_init 11 = .ok (.putfield 13, 3) := by decide +kernel
theorem d_R_init_14 : decode cc_R_init 14 = .ok (.return_, 1) := by decide +kernel
abbrev cc_C_init : ByteArray := prog_2_method_1_code
def y_C_init : MethodName := ⟨"PanelOffice$Clash", "<init>", "(LPanelOffice$Pool;LPanelOffice$Tally;)V"⟩
abbrev rm_C_init : Room := { frames := 2, cells := 4, slots := 38, locals := 43 }
theorem d_C_init_0 : decode cc_C_init 0 = .ok (.aload_n 0, 1) := by decide +kernel
theorem d_C_init_1 : decode cc_C_init 1 = .ok (.invokespecial 3, 3) := by decide +kernel
theorem d_C_init_4 : decode cc_C_init 4 = .ok (.aload_n 0, 1) := by decide +kernel
theorem d_C_init_5 : decode cc_C_init 5 = .ok (.new 9, 3) := by decide +kernel
theorem d_C_init_8 : decode cc_C_init 8 = .ok (.dup, 1) := by decide +kernel
theorem d_C_init_9 : decode cc_C_init 9 = .ok (.invokespecial 11, 3) := by decide +kernel
theorem d_C_init_12 : decode cc_C_init 12 = .ok (.putfield 12, 3) := by decide +kernel
theorem d_C_init_15 : decode cc_C_init 15 = .ok (.aload_n 0, 1) := by decide +kernel
theorem d_C_init_16 : decode cc_C_init 16 = .ok (.bipush 12, 2) := by decide +kernel
theorem d_C_init_18 : decode cc_C_init 18 = .ok (.newarray .int, 2) := by decide +kernel
theorem d_C_init_20 : decode cc_C_init 20 = .ok (.putfield 18, 3) := by decide +kernel
theorem d_C_init_23 : decode cc_C_init 23 = .ok (.aload_n 0, 1) := by decide +kernel
theorem d_C_init_24 : decode cc_C_init 24 = .ok (.iconst 0, 1) := by decide +kernel
theorem d_C_init_25 : decode cc_C_init 25 = .ok (.putfield 22, 3) := by decide +kernel
theorem d_C_init_28 : decode cc_C_init 28 = .ok (.aload_n 0, 1) := by decide +kernel
theorem d_C_init_29 : decode cc_C_init 29 = .ok (.iconst 0, 1) := by decide +kernel
theorem d_C_init_30 : decode cc_C_init 30 = .ok (.putfield 26, 3) := by decide +kernel
theorem d_C_init_33 : decode cc_C_init 33 = .ok (.aload_n 0, 1) := by decide +kernel
theorem d_C_init_34 : decode cc_C_init 34 = .ok (.aload_n 1, 1) := by decide +kernel
theorem d_C_init_35 : decode cc_C_init 35 = .ok (.putfield 30, 3) := by decide +kernel
theorem d_C_init_38 : decode cc_C_init 38 = .ok (.aload_n 0, 1) := by decide +kernel
theorem d_C_init_39 : decode cc_C_init 39 = .ok (.aload_n 2, 1) := by decide +kernel
theorem d_C_init_40 : decode cc_C_init 40 = .ok (.putfield 34, 3) := by decide +kernel
theorem d_C_init_43 : decode cc_C_init 43 = .ok (.return_, 1) := by decide +kernel
abbrev cc_D_init : ByteArray := prog_3_method_1_code
def y_D_init : MethodName := ⟨"PanelOffice$Dice", "<init>", "()V"⟩
abbrev rm_D_init : Room := { frames := 1, cells := 0, slots := 0, locals := 20 }
theorem d_D_init_0 : decode cc_D_init 0 = .ok (.aload_n 0, 1) := by decide +kernel
theorem d_D_init_1 : decode cc_D_init 1 = .ok (.invokespecial 3, 3) := by decide +kernel
theorem d_D_init_4 : decode cc_D_init 4 = .ok (.aload_n 0, 1) := by decide +kernel
theorem d_D_init_5 : decode cc_D_init 5 = .ok (.iconst 0, 1) := by decide +kernel
theorem d_D_init_6 : decode cc_D_init 6 = .ok (.putfield 9, 3) := by decide +kernel
theorem d_D_init_9 : decode cc_D_init 9 = .ok (.aload_n 0, 1) := by decide +kernel
theorem d_D_init_10 : decode cc_D_init 10 = .ok (.iconst 0, 1) := by decide +kernel
theorem d_D_init_11 : decode cc_D_init 11 = .ok (.putfield 15, 3) := by decide +kernel
theorem d_D_init_14 : decode cc_D_init 14 = .ok (.aload_n 0, 1) := by decide +kernel
theorem d_D_init_15 : decode cc_D_init 15 = .ok (.iconst 2, 1) := by decide +kernel
theorem d_D_init_16 : decode cc_D_init 16 = .ok (.putfield 18, 3) := by decide +kernel
theorem d_D_init_19 : decode cc_D_init 19 = .ok (.aload_n 0, 1) := by decide +kernel
theorem d_D_init_20 : decode cc_D_init 20 = .ok (.lconst 1, 1) := by decide +kernel
theorem d_D_init_21 : decode cc_D_init 21 = .ok (.putfield 22, 3) := by decide +kernel
theorem d_D_init_24 : decode cc_D_init 24 = .ok (.aload_n 0, 1) := by decide +kernel
theorem d_D_init_25 : decode cc_D_init 25 = .ok (.lconst 1, 1) := by decide +kernel
theorem d_D_init_26 : decode cc_D_init 26 = .ok (.putfield 26, 3) := by decide +kernel
theorem d_D_init_29 : decode cc_D_init 29 = .ok (.aload_n 0, 1) := by decide +kernel
theorem d_D_init_30 : decode cc_D_init 30 = .ok (.iconst 0, 1) := by decide +kernel
theorem d_D_init_31 : decode cc_D_init 31 = .ok (.putfield 29, 3) := by decide +kernel
theorem d_D_init_34 : decode cc_D_init 34 = .ok (.aload_n 0, 1) := by decide +kernel
theorem d_D_init_35 : decode cc_D_init 35 = .ok (.iconst 0, 1) := by decide +kernel
theorem d_D_init_36 : decode cc_D_init 36 = .ok (.putfield 32, 3) := by decide +kernel
theorem d_D_init_39 : decode cc_D_init 39 = .ok (.aload_n 0, 1) := by decide +kernel
theorem d_D_init_40 : decode cc_D_init 40 = .ok (.lconst 0, 1) := by decide +kernel
theorem d_D_init_41 : decode cc_D_init 41 = .ok (.putfield 35, 3) := by decide +kernel
theorem d_D_init_44 : decode cc_D_init 44 = .ok (.return_, 1) := by decide +kernel
abbrev cc_S_init : ByteArray := prog_7_method_1_code
def y_S_init : MethodName := ⟨"PanelOffice$Seats", "<init>", "(LPanelOffice$Pool;LPanelOffice$Quotas;)V"⟩
abbrev rm_S_init : Room := { frames := 1, cells := 3, slots := 60, locals := 20 }
theorem d_S_init_0 : decode cc_S_init 0 = .ok (.aload_n 0, 1) := by decide +kernel
theorem d_S_init_1 : decode cc_S_init 1 = .ok (.invokespecial 3, 3) := by decide +kernel
theorem d_S_init_4 : decode cc_S_init 4 = .ok (.aload_n 0, 1) := by decide +kernel
theorem d_S_init_5 : decode cc_S_init 5 = .ok (.bipush 8, 2) := by decide +kernel
theorem d_S_init_7 : decode cc_S_init 7 = .ok (.newarray .int, 2) := by decide +kernel
theorem d_S_init_9 : decode cc_S_init 9 = .ok (.putfield 9, 3) := by decide +kernel
theorem d_S_init_12 : decode cc_S_init 12 = .ok (.aload_n 0, 1) := by decide +kernel
theorem d_S_init_13 : decode cc_S_init 13 = .ok (.bipush 12, 2) := by decide +kernel
theorem d_S_init_15 : decode cc_S_init 15 = .ok (.newarray .int, 2) := by decide +kernel
theorem d_S_init_17 : decode cc_S_init 17 = .ok (.putfield 15, 3) := by decide +kernel
theorem d_S_init_20 : decode cc_S_init 20 = .ok (.aload_n 0, 1) := by decide +kernel
theorem d_S_init_21 : decode cc_S_init 21 = .ok (.bipush 40, 2) := by decide +kernel
theorem d_S_init_23 : decode cc_S_init 23 = .ok (.newarray .int, 2) := by decide +kernel
theorem d_S_init_25 : decode cc_S_init 25 = .ok (.putfield 18, 3) := by decide +kernel
theorem d_S_init_28 : decode cc_S_init 28 = .ok (.aload_n 0, 1) := by decide +kernel
theorem d_S_init_29 : decode cc_S_init 29 = .ok (.iconst 0, 1) := by decide +kernel
theorem d_S_init_30 : decode cc_S_init 30 = .ok (.putfield 21, 3) := by decide +kernel
theorem d_S_init_33 : decode cc_S_init 33 = .ok (.aload_n 0, 1) := by decide +kernel
theorem d_S_init_34 : decode cc_S_init 34 = .ok (.lconst 0, 1) := by decide +kernel
theorem d_S_init_35 : decode cc_S_init 35 = .ok (.putfield 25, 3) := by decide +kernel
theorem d_S_init_38 : decode cc_S_init 38 = .ok (.aload_n 0, 1) := by decide +kernel
theorem d_S_init_39 : decode cc_S_init 39 = .ok (.lconst 0, 1) := by decide +kernel
theorem d_S_init_40 : decode cc_S_init 40 = .ok (.putfield 29, 3) := by decide +kernel
theorem d_S_init_43 : decode cc_S_init 43 = .ok (.aload_n 0, 1) := by decide +kernel
theorem d_S_init_44 : decode cc_S_init 44 = .ok (.iconst (-1), 1) := by decide +kernel
theorem d_S_init_45 : decode cc_S_init 45 = .ok (.putfield 32, 3) := by decide +kernel
theorem d_S_init_48 : decode cc_S_init 48 = .ok (.aload_n 0, 1) := by decide +kernel
theorem d_S_init_49 : decode cc_S_init 49 = .ok (.aload_n 1, 1) := by decide +kernel
theorem d_S_init_50 : decode cc_S_init 50 = .ok (.putfield 35, 3) := by decide +kernel
theorem d_S_init_53 : decode cc_S_init 53 = .ok (.aload_n 0, 1) := by decide +kernel
theorem d_S_init_54 : decode cc_S_init 54 = .ok (.aload_n 2, 1) := by decide +kernel
theorem d_S_init_55 : decode cc_S_init 55 = .ok (.putfield 39, 3) := by decide +kernel
theorem d_S_init_58 : decode cc_S_init 58 = .ok (.return_, 1) := by decide +kernel
abbrev cc_O_init : ByteArray := prog_1_method_1_code
def y_O_init : MethodName := ⟨"PanelOffice", "<init>", "()V"⟩
abbrev rm_O_init : Room := { frames := 3, cells := 30, slots := 8691, locals := 65 }
theorem d_O_init_0 : decode cc_O_init 0 = .ok (.aload_n 0, 1) := by decide +kernel
theorem d_O_init_1 : decode cc_O_init 1 = .ok (.invokespecial 3, 3) := by decide +kernel
theorem d_O_init_4 : decode cc_O_init 4 = .ok (.aload_n 0, 1) := by decide +kernel
theorem d_O_init_5 : decode cc_O_init 5 = .ok (.new 9, 3) := by decide +kernel
theorem d_O_init_8 : decode cc_O_init 8 = .ok (.dup, 1) := by decide +kernel
theorem d_O_init_9 : decode cc_O_init 9 = .ok (.invokespecial 11, 3) := by decide +kernel
theorem d_O_init_12 : decode cc_O_init 12 = .ok (.putfield 12, 3) := by decide +kernel
theorem d_O_init_15 : decode cc_O_init 15 = .ok (.aload_n 0, 1) := by decide +kernel
theorem d_O_init_16 : decode cc_O_init 16 = .ok (.new 16, 3) := by decide +kernel
theorem d_O_init_19 : decode cc_O_init 19 = .ok (.dup, 1) := by decide +kernel
theorem d_O_init_20 : decode cc_O_init 20 = .ok (.invokespecial 18, 3) := by decide +kernel
theorem d_O_init_23 : decode cc_O_init 23 = .ok (.putfield 19, 3) := by decide +kernel
theorem d_O_init_26 : decode cc_O_init 26 = .ok (.aload_n 0, 1) := by decide +kernel
theorem d_O_init_27 : decode cc_O_init 27 = .ok (.new 23, 3) := by decide +kernel
theorem d_O_init_30 : decode cc_O_init 30 = .ok (.dup, 1) := by decide +kernel
theorem d_O_init_31 : decode cc_O_init 31 = .ok (.aload_n 0, 1) := by decide +kernel
theorem d_O_init_32 : decode cc_O_init 32 = .ok (.getfield 12, 3) := by decide +kernel
theorem d_O_init_35 : decode cc_O_init 35 = .ok (.invokespecial 25, 3) := by decide +kernel
theorem d_O_init_38 : decode cc_O_init 38 = .ok (.putfield 28, 3) := by decide +kernel
theorem d_O_init_41 : decode cc_O_init 41 = .ok (.aload_n 0, 1) := by decide +kernel
theorem d_O_init_42 : decode cc_O_init 42 = .ok (.new 32, 3) := by decide +kernel
theorem d_O_init_45 : decode cc_O_init 45 = .ok (.dup, 1) := by decide +kernel
theorem d_O_init_46 : decode cc_O_init 46 = .ok (.aload_n 0, 1) := by decide +kernel
theorem d_O_init_47 : decode cc_O_init 47 = .ok (.getfield 12, 3) := by decide +kernel
theorem d_O_init_50 : decode cc_O_init 50 = .ok (.aload_n 0, 1) := by decide +kernel
theorem d_O_init_51 : decode cc_O_init 51 = .ok (.getfield 28, 3) := by decide +kernel
theorem d_O_init_54 : decode cc_O_init 54 = .ok (.invokespecial 34, 3) := by decide +kernel
theorem d_O_init_57 : decode cc_O_init 57 = .ok (.putfield 37, 3) := by decide +kernel
theorem d_O_init_60 : decode cc_O_init 60 = .ok (.aload_n 0, 1) := by decide +kernel
theorem d_O_init_61 : decode cc_O_init 61 = .ok (.new 41, 3) := by decide +kernel
theorem d_O_init_64 : decode cc_O_init 64 = .ok (.dup, 1) := by decide +kernel
theorem d_O_init_65 : decode cc_O_init 65 = .ok (.aload_n 0, 1) := by decide +kernel
theorem d_O_init_66 : decode cc_O_init 66 = .ok (.getfield 12, 3) := by decide +kernel
theorem d_O_init_69 : decode cc_O_init 69 = .ok (.aload_n 0, 1) := by decide +kernel
theorem d_O_init_70 : decode cc_O_init 70 = .ok (.getfield 28, 3) := by decide +kernel
theorem d_O_init_73 : decode cc_O_init 73 = .ok (.invokespecial 43, 3) := by decide +kernel
theorem d_O_init_76 : decode cc_O_init 76 = .ok (.putfield 44, 3) := by decide +kernel
theorem d_O_init_79 : decode cc_O_init 79 = .ok (.aload_n 0, 1) := by decide +kernel
theorem d_O_init_80 : decode cc_O_init 80 = .ok (.new 48, 3) := by decide +kernel
theorem d_O_init_83 : decode cc_O_init 83 = .ok (.dup, 1) := by decide +kernel
theorem d_O_init_84 : decode cc_O_init 84 = .ok (.invokespecial 50, 3) := by decide +kernel
theorem d_O_init_87 : decode cc_O_init 87 = .ok (.putfield 51, 3) := by decide +kernel
theorem d_O_init_90 : decode cc_O_init 90 = .ok (.aload_n 0, 1) := by decide +kernel
theorem d_O_init_91 : decode cc_O_init 91 = .ok (.new 55, 3) := by decide +kernel
theorem d_O_init_94 : decode cc_O_init 94 = .ok (.dup, 1) := by decide +kernel
theorem d_O_init_95 : decode cc_O_init 95 = .ok (.aload_n 0, 1) := by decide +kernel
theorem d_O_init_96 : decode cc_O_init 96 = .ok (.getfield 12, 3) := by decide +kernel
theorem d_O_init_99 : decode cc_O_init 99 = .ok (.aload_n 0, 1) := by decide +kernel
theorem d_O_init_100 : decode cc_O_init 100 = .ok (.getfield 19, 3) := by decide +kernel
theorem d_O_init_103 : decode cc_O_init 103 = .ok (.invokespecial 57, 3) := by decide +kernel
theorem d_O_init_106 : decode cc_O_init 106 = .ok (.putfield 60, 3) := by decide +kernel
theorem d_O_init_109 : decode cc_O_init 109 = .ok (.aload_n 0, 1) := by decide +kernel
theorem d_O_init_110 : decode cc_O_init 110 = .ok (.bipush 8, 2) := by decide +kernel
theorem d_O_init_112 : decode cc_O_init 112 = .ok (.newarray .int, 2) := by decide +kernel
theorem d_O_init_114 : decode cc_O_init 114 = .ok (.putfield 64, 3) := by decide +kernel
theorem d_O_init_117 : decode cc_O_init 117 = .ok (.aload_n 0, 1) := by decide +kernel
theorem d_O_init_118 : decode cc_O_init 118 = .ok (.iconst 1, 1) := by decide +kernel
theorem d_O_init_119 : decode cc_O_init 119 = .ok (.putfield 68, 3) := by decide +kernel
theorem d_O_init_122 : decode cc_O_init 122 = .ok (.aload_n 0, 1) := by decide +kernel
theorem d_O_init_123 : decode cc_O_init 123 = .ok (.lconst 0, 1) := by decide +kernel
theorem d_O_init_124 : decode cc_O_init 124 = .ok (.putfield 72, 3) := by decide +kernel
theorem d_O_init_127 : decode cc_O_init 127 = .ok (.aload_n 0, 1) := by decide +kernel
theorem d_O_init_128 : decode cc_O_init 128 = .ok (.iconst 0, 1) := by decide +kernel
theorem d_O_init_129 : decode cc_O_init 129 = .ok (.putfield 76, 3) := by decide +kernel
theorem d_O_init_132 : decode cc_O_init 132 = .ok (.aload_n 0, 1) := by decide +kernel
theorem d_O_init_133 : decode cc_O_init 133 = .ok (.iconst 0, 1) := by decide +kernel
theorem d_O_init_134 : decode cc_O_init 134 = .ok (.putfield 80, 3) := by decide +kernel
theorem d_O_init_137 : decode cc_O_init 137 = .ok (.return_, 1) := by decide +kernel
abbrev cc_M_init : ByteArray := prog_10_method_1_code
def y_M_init : MethodName := ⟨"PanelOfficeModel", "<init>", "()V"⟩
abbrev rm_M_init : Room := { frames := 1, cells := 17, slots := 7445, locals := 20 }
theorem d_M_init_0 : decode cc_M_init 0 = .ok (.aload_n 0, 1) := by decide +kernel
theorem d_M_init_1 : decode cc_M_init 1 = .ok (.invokespecial 1, 3) := by decide +kernel
theorem d_M_init_4 : decode cc_M_init 4 = .ok (.aload_n 0, 1) := by decide +kernel
theorem d_M_init_5 : decode cc_M_init 5 = .ok (.bipush 120, 2) := by decide +kernel
theorem d_M_init_7 : decode cc_M_init 7 = .ok (.newarray .int, 2) := by decide +kernel
theorem d_M_init_9 : decode cc_M_init 9 = .ok (.putfield 7, 3) := by decide +kernel
theorem d_M_init_12 : decode cc_M_init 12 = .ok (.aload_n 0, 1) := by decide +kernel
theorem d_M_init_13 : decode cc_M_init 13 = .ok (.bipush 40, 2) := by decide +kernel
theorem d_M_init_15 : decode cc_M_init 15 = .ok (.newarray .boolean, 2) := by decide +kernel
theorem d_M_init_17 : decode cc_M_init 17 = .ok (.putfield 13, 3) := by decide +kernel
theorem d_M_init_20 : decode cc_M_init 20 = .ok (.aload_n 0, 1) := by decide +kernel
theorem d_M_init_21 : decode cc_M_init 21 = .ok (.iconst 3, 1) := by decide +kernel
theorem d_M_init_22 : decode cc_M_init 22 = .ok (.newarray .int, 2) := by decide +kernel
theorem d_M_init_24 : decode cc_M_init 24 = .ok (.dup, 1) := by decide +kernel
theorem d_M_init_25 : decode cc_M_init 25 = .ok (.iconst 0, 1) := by decide +kernel
theorem d_M_init_26 : decode cc_M_init 26 = .ok (.iconst 1, 1) := by decide +kernel
theorem d_M_init_27 : decode cc_M_init 27 = .ok (.iastore, 1) := by decide +kernel
theorem d_M_init_28 : decode cc_M_init 28 = .ok (.dup, 1) := by decide +kernel
theorem d_M_init_29 : decode cc_M_init 29 = .ok (.iconst 1, 1) := by decide +kernel
theorem d_M_init_30 : decode cc_M_init 30 = .ok (.iconst 1, 1) := by decide +kernel
theorem d_M_init_31 : decode cc_M_init 31 = .ok (.iastore, 1) := by decide +kernel
theorem d_M_init_32 : decode cc_M_init 32 = .ok (.dup, 1) := by decide +kernel
theorem d_M_init_33 : decode cc_M_init 33 = .ok (.iconst 2, 1) := by decide +kernel
theorem d_M_init_34 : decode cc_M_init 34 = .ok (.iconst 1, 1) := by decide +kernel
theorem d_M_init_35 : decode cc_M_init 35 = .ok (.iastore, 1) := by decide +kernel
theorem d_M_init_36 : decode cc_M_init 36 = .ok (.putfield 17, 3) := by decide +kernel
theorem d_M_init_39 : decode cc_M_init 39 = .ok (.aload_n 0, 1) := by decide +kernel
theorem d_M_init_40 : decode cc_M_init 40 = .ok (.bipush 12, 2) := by decide +kernel
theorem d_M_init_42 : decode cc_M_init 42 = .ok (.newarray .int, 2) := by decide +kernel
theorem d_M_init_44 : decode cc_M_init 44 = .ok (.putfield 20, 3) := by decide +kernel
theorem d_M_init_47 : decode cc_M_init 47 = .ok (.aload_n 0, 1) := by decide +kernel
theorem d_M_init_48 : decode cc_M_init 48 = .ok (.bipush 12, 2) := by decide +kernel
theorem d_M_init_50 : decode cc_M_init 50 = .ok (.newarray .int, 2) := by decide +kernel
theorem d_M_init_52 : decode cc_M_init 52 = .ok (.dup, 1) := by decide +kernel
theorem d_M_init_53 : decode cc_M_init 53 = .ok (.iconst 0, 1) := by decide +kernel
theorem d_M_init_54 : decode cc_M_init 54 = .ok (.bipush 8, 2) := by decide +kernel
theorem d_M_init_56 : decode cc_M_init 56 = .ok (.iastore, 1) := by decide +kernel
theorem d_M_init_57 : decode cc_M_init 57 = .ok (.dup, 1) := by decide +kernel
theorem d_M_init_58 : decode cc_M_init 58 = .ok (.iconst 1, 1) := by decide +kernel
theorem d_M_init_59 : decode cc_M_init 59 = .ok (.bipush 8, 2) := by decide +kernel
theorem d_M_init_61 : decode cc_M_init 61 = .ok (.iastore, 1) := by decide +kernel
theorem d_M_init_62 : decode cc_M_init 62 = .ok (.dup, 1) := by decide +kernel
theorem d_M_init_63 : decode cc_M_init 63 = .ok (.iconst 2, 1) := by decide +kernel
theorem d_M_init_64 : decode cc_M_init 64 = .ok (.bipush 8, 2) := by decide +kernel
theorem d_M_init_66 : decode cc_M_init 66 = .ok (.iastore, 1) := by decide +kernel
theorem d_M_init_67 : decode cc_M_init 67 = .ok (.dup, 1) := by decide +kernel
theorem d_M_init_68 : decode cc_M_init 68 = .ok (.iconst 3, 1) := by decide +kernel
theorem d_M_init_69 : decode cc_M_init 69 = .ok (.bipush 8, 2) := by decide +kernel
theorem d_M_init_71 : decode cc_M_init 71 = .ok (.iastore, 1) := by decide +kernel
theorem d_M_init_72 : decode cc_M_init 72 = .ok (.dup, 1) := by decide +kernel
theorem d_M_init_73 : decode cc_M_init 73 = .ok (.iconst 4, 1) := by decide +kernel
theorem d_M_init_74 : decode cc_M_init 74 = .ok (.bipush 8, 2) := by decide +kernel
theorem d_M_init_76 : decode cc_M_init 76 = .ok (.iastore, 1) := by decide +kernel
theorem d_M_init_77 : decode cc_M_init 77 = .ok (.dup, 1) := by decide +kernel
theorem d_M_init_78 : decode cc_M_init 78 = .ok (.iconst 5, 1) := by decide +kernel
theorem d_M_init_79 : decode cc_M_init 79 = .ok (.bipush 8, 2) := by decide +kernel
theorem d_M_init_81 : decode cc_M_init 81 = .ok (.iastore, 1) := by decide +kernel
theorem d_M_init_82 : decode cc_M_init 82 = .ok (.dup, 1) := by decide +kernel
theorem d_M_init_83 : decode cc_M_init 83 = .ok (.bipush 6, 2) := by decide +kernel
theorem d_M_init_85 : decode cc_M_init 85 = .ok (.bipush 8, 2) := by decide +kernel
theorem d_M_init_87 : decode cc_M_init 87 = .ok (.iastore, 1) := by decide +kernel
theorem d_M_init_88 : decode cc_M_init 88 = .ok (.dup, 1) := by decide +kernel
theorem d_M_init_89 : decode cc_M_init 89 = .ok (.bipush 7, 2) := by decide +kernel
theorem d_M_init_91 : decode cc_M_init 91 = .ok (.bipush 8, 2) := by decide +kernel
theorem d_M_init_93 : decode cc_M_init 93 = .ok (.iastore, 1) := by decide +kernel
theorem d_M_init_94 : decode cc_M_init 94 = .ok (.dup, 1) := by decide +kernel
theorem d_M_init_95 : decode cc_M_init 95 = .ok (.bipush 8, 2) := by decide +kernel
theorem d_M_init_97 : decode cc_M_init 97 = .ok (.bipush 8, 2) := by decide +kernel
theorem d_M_init_99 : decode cc_M_init 99 = .ok (.iastore, 1) := by decide +kernel
theorem d_M_init_100 : decode cc_M_init 100 = .ok (.dup, 1) := by decide +kernel
theorem d_M_init_101 : decode cc_M_init 101 = .ok (.bipush 9, 2) := by decide +kernel
theorem d_M_init_103 : decode cc_M_init 103 = .ok (.bipush 8, 2) := by decide +kernel
theorem d_M_init_105 : decode cc_M_init 105 = .ok (.iastore, 1) := by decide +kernel
theorem d_M_init_106 : decode cc_M_init 106 = .ok (.dup, 1) := by decide +kernel
theorem d_M_init_107 : decode cc_M_init 107 = .ok (.bipush 10, 2) := by decide +kernel
theorem d_M_init_109 : decode cc_M_init 109 = .ok (.bipush 8, 2) := by decide +kernel
theorem d_M_init_111 : decode cc_M_init 111 = .ok (.iastore, 1) := by decide +kernel
theorem d_M_init_112 : decode cc_M_init 112 = .ok (.dup, 1) := by decide +kernel
theorem d_M_init_113 : decode cc_M_init 113 = .ok (.bipush 11, 2) := by decide +kernel
theorem d_M_init_115 : decode cc_M_init 115 = .ok (.bipush 8, 2) := by decide +kernel
theorem d_M_init_117 : decode cc_M_init 117 = .ok (.iastore, 1) := by decide +kernel
theorem d_M_init_118 : decode cc_M_init 118 = .ok (.putfield 23, 3) := by decide +kernel
theorem d_M_init_121 : decode cc_M_init 121 = .ok (.aload_n 0, 1) := by decide +kernel
theorem d_M_init_122 : decode cc_M_init 122 = .ok (.iconst 1, 1) := by decide +kernel
theorem d_M_init_123 : decode cc_M_init 123 = .ok (.putfield 26, 3) := by decide +kernel
theorem d_M_init_126 : decode cc_M_init 126 = .ok (.aload_n 0, 1) := by decide +kernel
theorem d_M_init_127 : decode cc_M_init 127 = .ok (.bipush 17, 2) := by decide +kernel
theorem d_M_init_129 : decode cc_M_init 129 = .ok (.newarray .int, 2) := by decide +kernel
theorem d_M_init_131 : decode cc_M_init 131 = .ok (.putfield 30, 3) := by decide +kernel
theorem d_M_init_134 : decode cc_M_init 134 = .ok (.aload_n 0, 1) := by decide +kernel
theorem d_M_init_135 : decode cc_M_init 135 = .ok (.bipush 17, 2) := by decide +kernel
theorem d_M_init_137 : decode cc_M_init 137 = .ok (.newarray .int, 2) := by decide +kernel
theorem d_M_init_139 : decode cc_M_init 139 = .ok (.putfield 33, 3) := by decide +kernel
theorem d_M_init_142 : decode cc_M_init 142 = .ok (.aload_n 0, 1) := by decide +kernel
theorem d_M_init_143 : decode cc_M_init 143 = .ok (.bipush 18, 2) := by decide +kernel
theorem d_M_init_145 : decode cc_M_init 145 = .ok (.newarray .int, 2) := by decide +kernel
theorem d_M_init_147 : decode cc_M_init 147 = .ok (.putfield 36, 3) := by decide +kernel
theorem d_M_init_150 : decode cc_M_init 150 = .ok (.aload_n 0, 1) := by decide +kernel
theorem d_M_init_151 : decode cc_M_init 151 = .ok (.sipush 1010, 3) := by decide +kernel
theorem d_M_init_154 : decode cc_M_init 154 = .ok (.newarray .long, 2) := by decide +kernel
theorem d_M_init_156 : decode cc_M_init 156 = .ok (.putfield 39, 3) := by decide +kernel
theorem d_M_init_159 : decode cc_M_init 159 = .ok (.aload_n 0, 1) := by decide +kernel
theorem d_M_init_160 : decode cc_M_init 160 = .ok (.sipush 1010, 3) := by decide +kernel
theorem d_M_init_163 : decode cc_M_init 163 = .ok (.newarray .long, 2) := by decide +kernel
theorem d_M_init_165 : decode cc_M_init 165 = .ok (.putfield 43, 3) := by decide +kernel
theorem d_M_init_168 : decode cc_M_init 168 = .ok (.aload_n 0, 1) := by decide +kernel
theorem d_M_init_169 : decode cc_M_init 169 = .ok (.sipush 1010, 3) := by decide +kernel
theorem d_M_init_172 : decode cc_M_init 172 = .ok (.newarray .int, 2) := by decide +kernel
theorem d_M_init_174 : decode cc_M_init 174 = .ok (.putfield 46, 3) := by decide +kernel
theorem d_M_init_177 : decode cc_M_init 177 = .ok (.aload_n 0, 1) := by decide +kernel
theorem d_M_init_178 : decode cc_M_init 178 = .ok (.sipush 4096, 3) := by decide +kernel
theorem d_M_init_181 : decode cc_M_init 181 = .ok (.newarray .int, 2) := by decide +kernel
theorem d_M_init_183 : decode cc_M_init 183 = .ok (.putfield 49, 3) := by decide +kernel
theorem d_M_init_186 : decode cc_M_init 186 = .ok (.aload_n 0, 1) := by decide +kernel
theorem d_M_init_187 : decode cc_M_init 187 = .ok (.bipush 8, 2) := by decide +kernel
theorem d_M_init_189 : decode cc_M_init 189 = .ok (.newarray .int, 2) := by decide +kernel
theorem d_M_init_191 : decode cc_M_init 191 = .ok (.putfield 52, 3) := by decide +kernel
theorem d_M_init_194 : decode cc_M_init 194 = .ok (.aload_n 0, 1) := by decide +kernel
theorem d_M_init_195 : decode cc_M_init 195 = .ok (.iconst (-1), 1) := by decide +kernel
theorem d_M_init_196 : decode cc_M_init 196 = .ok (.putfield 55, 3) := by decide +kernel
theorem d_M_init_199 : decode cc_M_init 199 = .ok (.aload_n 0, 1) := by decide +kernel
theorem d_M_init_200 : decode cc_M_init 200 = .ok (.bipush 40, 2) := by decide +kernel
theorem d_M_init_202 : decode cc_M_init 202 = .ok (.newarray .boolean, 2) := by decide +kernel
theorem d_M_init_204 : decode cc_M_init 204 = .ok (.putfield 58, 3) := by decide +kernel
theorem d_M_init_207 : decode cc_M_init 207 = .ok (.aload_n 0, 1) := by decide +kernel
theorem d_M_init_208 : decode cc_M_init 208 = .ok (.bipush 12, 2) := by decide +kernel
theorem d_M_init_210 : decode cc_M_init 210 = .ok (.newarray .int, 2) := by decide +kernel
theorem d_M_init_212 : decode cc_M_init 212 = .ok (.putfield 61, 3) := by decide +kernel
theorem d_M_init_215 : decode cc_M_init 215 = .ok (.aload_n 0, 1) := by decide +kernel
theorem d_M_init_216 : decode cc_M_init 216 = .ok (.bipush 12, 2) := by decide +kernel
theorem d_M_init_218 : decode cc_M_init 218 = .ok (.newarray .int, 2) := by decide +kernel
theorem d_M_init_220 : decode cc_M_init 220 = .ok (.putfield 64, 3) := by decide +kernel
theorem d_M_init_223 : decode cc_M_init 223 = .ok (.aload_n 0, 1) := by decide +kernel
theorem d_M_init_224 : decode cc_M_init 224 = .ok (.bipush 8, 2) := by decide +kernel
theorem d_M_init_226 : decode cc_M_init 226 = .ok (.newarray .int, 2) := by decide +kernel
theorem d_M_init_228 : decode cc_M_init 228 = .ok (.putfield 67, 3) := by decide +kernel
theorem d_M_init_231 : decode cc_M_init 231 = .ok (.return_, 1) := by decide +kernel
theorem df_O : ∀ j, j < 12 → defaultValue (ft_O j) = vp_V [.null, .null, .null, .null, .null, .null, .null, .null, .int 0, .long 0, .int 0, .int 0] j := by
  intro j hj
  match j, hj with
  | 0, _ => rfl
  | 1, _ => rfl
  | 2, _ => rfl
  | 3, _ => rfl
  | 4, _ => rfl
  | 5, _ => rfl
  | 6, _ => rfl
  | 7, _ => rfl
  | 8, _ => rfl
  | 9, _ => rfl
  | 10, _ => rfl
  | 11, _ => rfl
  | j + 12, h => exact absurd h (by omega)
theorem df_P : ∀ j, j < 6 → defaultValue (ft_P j) = vp_V [.null, .null, .null, .null, .int 0, .int 0] j := by
  intro j hj
  match j, hj with
  | 0, _ => rfl
  | 1, _ => rfl
  | 2, _ => rfl
  | 3, _ => rfl
  | 4, _ => rfl
  | 5, _ => rfl
  | j + 6, h => exact absurd h (by omega)
theorem df_Q : ∀ j, j < 2 → defaultValue (ft_Q j) = vp_V [.null, .null] j := by
  intro j hj
  match j, hj with
  | 0, _ => rfl
  | 1, _ => rfl
  | j + 2, h => exact absurd h (by omega)
theorem df_T : ∀ j, j < 13 → defaultValue (ft_T j) = vp_V [.null, .null, .null, .null, .null, .null, .null, .null, .null, .null, .int 0, .int 0, .int 0] j := by
  intro j hj
  match j, hj with
  | 0, _ => rfl
  | 1, _ => rfl
  | 2, _ => rfl
  | 3, _ => rfl
  | 4, _ => rfl
  | 5, _ => rfl
  | 6, _ => rfl
  | 7, _ => rfl
  | 8, _ => rfl
  | 9, _ => rfl
  | 10, _ => rfl
  | 11, _ => rfl
  | 12, _ => rfl
  | j + 13, h => exact absurd h (by omega)
theorem df_R : ∀ j, j < 2 → defaultValue (ft_R j) = vp_V [.null, .null] j := by
  intro j hj
  match j, hj with
  | 0, _ => rfl
  | 1, _ => rfl
  | j + 2, h => exact absurd h (by omega)
theorem df_C : ∀ j, j < 6 → defaultValue (ft_C j) = vp_V [.null, .null, .null, .null, .int 0, .int 0] j := by
  intro j hj
  match j, hj with
  | 0, _ => rfl
  | 1, _ => rfl
  | 2, _ => rfl
  | 3, _ => rfl
  | 4, _ => rfl
  | 5, _ => rfl
  | j + 6, h => exact absurd h (by omega)
theorem df_D : ∀ j, j < 8 → defaultValue (ft_D j) = vp_V [.int 0, .int 0, .int 0, .long 0, .long 0, .int 0, .int 0, .long 0] j := by
  intro j hj
  match j, hj with
  | 0, _ => rfl
  | 1, _ => rfl
  | 2, _ => rfl
  | 3, _ => rfl
  | 4, _ => rfl
  | 5, _ => rfl
  | 6, _ => rfl
  | 7, _ => rfl
  | j + 8, h => exact absurd h (by omega)
theorem df_S : ∀ j, j < 9 → defaultValue (ft_S j) = vp_V [.null, .null, .null, .null, .null, .int 0, .long 0, .long 0, .int 0] j := by
  intro j hj
  match j, hj with
  | 0, _ => rfl
  | 1, _ => rfl
  | 2, _ => rfl
  | 3, _ => rfl
  | 4, _ => rfl
  | 5, _ => rfl
  | 6, _ => rfl
  | 7, _ => rfl
  | 8, _ => rfl
  | j + 9, h => exact absurd h (by omega)
theorem df_M : ∀ j, j < 35 → defaultValue (ft_M j) = vp_V [.int 0, .int 0, .null, .null, .null, .null, .null, .int 0, .int 0, .null, .null, .int 0, .int 0, .int 0, .null, .null, .null, .null, .null, .int 0, .null, .int 0, .null, .int 0, .int 0, .int 0, .long 0, .long 0, .long 0, .int 0, .long 0, .null, .null, .null, .int 0] j := by
  intro j hj
  match j, hj with
  | 0, _ => rfl
  | 1, _ => rfl
  | 2, _ => rfl
  | 3, _ => rfl
  | 4, _ => rfl
  | 5, _ => rfl
  | 6, _ => rfl
  | 7, _ => rfl
  | 8, _ => rfl
  | 9, _ => rfl
  | 10, _ => rfl
  | 11, _ => rfl
  | 12, _ => rfl
  | 13, _ => rfl
  | 14, _ => rfl
  | 15, _ => rfl
  | 16, _ => rfl
  | 17, _ => rfl
  | 18, _ => rfl
  | 19, _ => rfl
  | 20, _ => rfl
  | 21, _ => rfl
  | 22, _ => rfl
  | 23, _ => rfl
  | 24, _ => rfl
  | 25, _ => rfl
  | 26, _ => rfl
  | 27, _ => rfl
  | 28, _ => rfl
  | 29, _ => rfl
  | 30, _ => rfl
  | 31, _ => rfl
  | 32, _ => rfl
  | 33, _ => rfl
  | 34, _ => rfl
  | j + 35, h => exact absurd h (by omega)
section CL
variable {l : Launch} {G : GG} {s : State} {args : Array Value}
theorem nin_O (h : KK l G s) : (Cond.instantiable R_O 12).before args s = true := h.w (List.mem_append_right _ (List.mem_append_left _ (List.mem_of_getElem? (i := 20) rfl))) rfl
theorem nz_O (h : KK l G s) : (Cond.initialized R_O).before args s = true := h.w (List.mem_append_right _ (List.mem_append_left _ (List.mem_of_getElem? (i := 1) rfl))) rfl
theorem oi_O (h : KK l G s) : (Cond.methodLink R_O 3 objectInit).before args s = true := h.w (List.mem_append_right _ (List.mem_append_left _ (List.mem_of_getElem? (i := 24) rfl))) rfl
theorem nin_P (h : KK l G s) : (Cond.instantiable R_P 6).before args s = true := h.w (List.mem_append_right _ (List.mem_append_left _ (List.mem_of_getElem? (i := 28) rfl))) rfl
theorem nz_P (h : KK l G s) : (Cond.initialized R_P).before args s = true := h.w (List.mem_append_right _ (List.mem_append_left _ (List.mem_of_getElem? (i := 2) rfl))) rfl
theorem oi_P (h : KK l G s) : (Cond.methodLink R_P 3 objectInit).before args s = true := h.w (List.mem_append_right _ (List.mem_append_left _ (List.mem_of_getElem? (i := 32) rfl))) rfl
theorem nin_Q (h : KK l G s) : (Cond.instantiable R_Q 2).before args s = true := h.w (List.mem_append_right _ (List.mem_append_left _ (List.mem_of_getElem? (i := 70) rfl))) rfl
theorem nz_Q (h : KK l G s) : (Cond.initialized R_Q).before args s = true := h.w (List.mem_append_right _ (List.mem_append_left _ (List.mem_of_getElem? (i := 3) rfl))) rfl
theorem oi_Q (h : KK l G s) : (Cond.methodLink R_Q 3 objectInit).before args s = true := h.w (List.mem_append_right _ (List.mem_append_left _ (List.mem_of_getElem? (i := 74) rfl))) rfl
theorem nin_T (h : KK l G s) : (Cond.instantiable R_T 13).before args s = true := h.w (List.mem_append_right _ (List.mem_append_left _ (List.mem_of_getElem? (i := 88) rfl))) rfl
theorem nz_T (h : KK l G s) : (Cond.initialized R_T).before args s = true := h.w (List.mem_append_right _ (List.mem_append_left _ (List.mem_of_getElem? (i := 5) rfl))) rfl
theorem oi_T (h : KK l G s) : (Cond.methodLink R_T 5 objectInit).before args s = true := h.w (List.mem_append_right _ (List.mem_append_left _ (List.mem_of_getElem? (i := 92) rfl))) rfl
theorem nin_R (h : KK l G s) : (Cond.instantiable R_R 2).before args s = true := h.w (List.mem_append_right _ (List.mem_append_left _ (List.mem_of_getElem? (i := 142) rfl))) rfl
theorem nz_R (h : KK l G s) : (Cond.initialized R_R).before args s = true := h.w (List.mem_append_right _ (List.mem_append_left _ (List.mem_of_getElem? (i := 7) rfl))) rfl
theorem oi_R (h : KK l G s) : (Cond.methodLink R_R 1 objectInit).before args s = true := h.w (List.mem_append_right _ (List.mem_append_left _ (List.mem_of_getElem? (i := 146) rfl))) rfl
theorem nin_C (h : KK l G s) : (Cond.instantiable R_C 6).before args s = true := h.w (List.mem_append_right _ (List.mem_append_left _ (List.mem_of_getElem? (i := 155) rfl))) rfl
theorem nz_C (h : KK l G s) : (Cond.initialized R_C).before args s = true := h.w (List.mem_append_right _ (List.mem_append_left _ (List.mem_of_getElem? (i := 8) rfl))) rfl
theorem oi_C (h : KK l G s) : (Cond.methodLink R_C 3 objectInit).before args s = true := h.w (List.mem_append_right _ (List.mem_append_left _ (List.mem_of_getElem? (i := 159) rfl))) rfl
theorem nin_D (h : KK l G s) : (Cond.instantiable R_D 8).before args s = true := h.w (List.mem_append_right _ (List.mem_append_left _ (List.mem_of_getElem? (i := 182) rfl))) rfl
theorem nz_D (h : KK l G s) : (Cond.initialized R_D).before args s = true := h.w (List.mem_append_right _ (List.mem_append_left _ (List.mem_of_getElem? (i := 9) rfl))) rfl
theorem oi_D (h : KK l G s) : (Cond.methodLink R_D 3 objectInit).before args s = true := h.w (List.mem_append_right _ (List.mem_append_left _ (List.mem_of_getElem? (i := 186) rfl))) rfl
theorem nin_S (h : KK l G s) : (Cond.instantiable R_S 9).before args s = true := h.w (List.mem_append_right _ (List.mem_append_left _ (List.mem_of_getElem? (i := 213) rfl))) rfl
theorem nz_S (h : KK l G s) : (Cond.initialized R_S).before args s = true := h.w (List.mem_append_right _ (List.mem_append_left _ (List.mem_of_getElem? (i := 10) rfl))) rfl
theorem oi_S (h : KK l G s) : (Cond.methodLink R_S 3 objectInit).before args s = true := h.w (List.mem_append_right _ (List.mem_append_left _ (List.mem_of_getElem? (i := 217) rfl))) rfl
theorem nin_M (h : KK l G s) : (Cond.instantiable R_M 35).before args s = true := h.w (List.mem_append_right _ (List.mem_append_right _ (List.mem_append_right _ (List.mem_append_right _ (List.mem_append_left _ (List.mem_of_getElem? (i := 183) rfl)))))) rfl
theorem nz_M (h : KK l G s) : (Cond.initialized R_M).before args s = true := h.w (List.mem_append_right _ (List.mem_append_left _ (List.mem_of_getElem? (i := 11) rfl))) rfl
theorem oi_M (h : KK l G s) : (Cond.methodLink R_M 1 objectInit).before args s = true := h.w (List.mem_append_right _ (List.mem_append_right _ (List.mem_append_right _ (List.mem_append_right _ (List.mem_append_left _ (List.mem_of_getElem? (i := 187) rfl)))))) rfl
theorem oi_im (h : KK l G s) : (Cond.instanceMethod objectInit).before args s = true := h.w (List.mem_append_right _ (List.mem_append_left _ (List.mem_of_getElem? (i := 25) rfl))) rfl
theorem oi_code (h : KK l G s) : (Cond.code objectInit ⟨#[0xb1]⟩ 1 none).before args s = true := h.w (List.mem_append_right _ (List.mem_append_left _ (List.mem_of_getElem? (i := 26) (by decide +kernel)))) rfl
theorem aw_I (h : KK l G s) : (Cond.arrayClass .int).before args s = true := h.w (List.mem_append_right _ (List.mem_append_left _ (List.mem_of_getElem? (i := 68) rfl))) rfl
theorem aw_J (h : KK l G s) : (Cond.arrayClass .long).before args s = true := h.w (List.mem_append_right _ (List.mem_append_left _ (List.mem_of_getElem? (i := 140) rfl))) rfl
theorem aw_Z (h : KK l G s) : (Cond.arrayClass .boolean).before args s = true := h.w (List.mem_append_right _ (List.mem_append_right _ (List.mem_append_right _ (List.mem_append_right _ (List.mem_append_right _ (List.mem_append_left _ (List.mem_of_getElem? (i := 54) rfl))))))) rfl
theorem cs_Q_18 (h : KK l G s) : LkS s args R_Q 18 y_A_fill2 cc_A_fill2 4 none 2 := ⟨⟨by decide +kernel, by decide +kernel, by decide +kernel⟩, h.w (List.mem_append_right _ (List.mem_append_left _ (List.mem_of_getElem? (i := 75) rfl))) rfl, h.w (List.mem_append_right _ (List.mem_append_left _ (List.mem_of_getElem? (i := 76) rfl))) rfl, h.w (List.mem_append_right _ (List.mem_append_left _ (List.mem_of_getElem? (i := 4) rfl))) rfl, fun a U hW => wk_at hW rfl (h.w (a := #[]) (List.mem_append_right _ (List.mem_append_left _ (List.mem_of_getElem? (i := 77) rfl))) rfl)⟩
theorem nl_C_9 (h : KK l G s) : (Cond.classLink R_C 9 R_Q).before args s = true := h.w (List.mem_append_right _ (List.mem_append_left _ (List.mem_of_getElem? (i := 160) rfl))) rfl
theorem ci_C_11 (h : KK l G s) : LkI s args R_C 11 y_Q_init cc_Q_init 1 0 := ⟨⟨by decide +kernel, by decide +kernel, by decide +kernel⟩, rfl, Or.inl (h.w (List.mem_append_right _ (List.mem_append_left _ (List.mem_of_getElem? (i := 161) rfl))) rfl), h.w (List.mem_append_right _ (List.mem_append_left _ (List.mem_of_getElem? (i := 72) rfl))) rfl, h.w (List.mem_append_right _ (List.mem_append_left _ (List.mem_of_getElem? (i := 3) rfl))) rfl, fun a U hW => wk_at hW rfl (h.w (a := #[]) (List.mem_append_right _ (List.mem_append_left _ (List.mem_of_getElem? (i := 73) rfl))) rfl)⟩
theorem nl_O_9 (h : KK l G s) : (Cond.classLink R_O 9 R_P).before args s = true := h.w (List.mem_append_right _ (List.mem_append_left _ (List.mem_of_getElem? (i := 27) rfl))) rfl
theorem nl_O_16 (h : KK l G s) : (Cond.classLink R_O 16 R_Q).before args s = true := h.w (List.mem_append_right _ (List.mem_append_left _ (List.mem_of_getElem? (i := 69) rfl))) rfl
theorem nl_O_23 (h : KK l G s) : (Cond.classLink R_O 23 R_T).before args s = true := h.w (List.mem_append_right _ (List.mem_append_left _ (List.mem_of_getElem? (i := 87) rfl))) rfl
theorem nl_O_32 (h : KK l G s) : (Cond.classLink R_O 32 R_R).before args s = true := h.w (List.mem_append_right _ (List.mem_append_left _ (List.mem_of_getElem? (i := 141) rfl))) rfl
theorem nl_O_41 (h : KK l G s) : (Cond.classLink R_O 41 R_C).before args s = true := h.w (List.mem_append_right _ (List.mem_append_left _ (List.mem_of_getElem? (i := 154) rfl))) rfl
theorem nl_O_48 (h : KK l G s) : (Cond.classLink R_O 48 R_D).before args s = true := h.w (List.mem_append_right _ (List.mem_append_left _ (List.mem_of_getElem? (i := 181) rfl))) rfl
theorem nl_O_55 (h : KK l G s) : (Cond.classLink R_O 55 R_S).before args s = true := h.w (List.mem_append_right _ (List.mem_append_left _ (List.mem_of_getElem? (i := 212) rfl))) rfl
theorem ci_O_11 (h : KK l G s) : LkI s args R_O 11 y_P_init cc_P_init 1 0 := ⟨⟨by decide +kernel, by decide +kernel, by decide +kernel⟩, rfl, Or.inr ⟨"PanelOffice", h.w (List.mem_append_right _ (List.mem_append_left _ (List.mem_of_getElem? (i := 29) rfl))) rfl⟩, h.w (List.mem_append_right _ (List.mem_append_left _ (List.mem_of_getElem? (i := 30) rfl))) rfl, h.w (List.mem_append_right _ (List.mem_append_left _ (List.mem_of_getElem? (i := 2) rfl))) rfl, fun a U hW => wk_at hW rfl (h.w (a := #[]) (List.mem_append_right _ (List.mem_append_left _ (List.mem_of_getElem? (i := 31) rfl))) rfl)⟩
theorem ci_O_18 (h : KK l G s) : LkI s args R_O 18 y_Q_init cc_Q_init 1 0 := ⟨⟨by decide +kernel, by decide +kernel, by decide +kernel⟩, rfl, Or.inl (h.w (List.mem_append_right _ (List.mem_append_left _ (List.mem_of_getElem? (i := 71) rfl))) rfl), h.w (List.mem_append_right _ (List.mem_append_left _ (List.mem_of_getElem? (i := 72) rfl))) rfl, h.w (List.mem_append_right _ (List.mem_append_left _ (List.mem_of_getElem? (i := 3) rfl))) rfl, fun a U hW => wk_at hW rfl (h.w (a := #[]) (List.mem_append_right _ (List.mem_append_left _ (List.mem_of_getElem? (i := 73) rfl))) rfl)⟩
theorem ci_O_25 (h : KK l G s) : LkI s args R_O 25 y_T_init cc_T_init 4 1 := ⟨⟨by decide +kernel, by decide +kernel, by decide +kernel⟩, rfl, Or.inl (h.w (List.mem_append_right _ (List.mem_append_left _ (List.mem_of_getElem? (i := 89) rfl))) rfl), h.w (List.mem_append_right _ (List.mem_append_left _ (List.mem_of_getElem? (i := 90) rfl))) rfl, h.w (List.mem_append_right _ (List.mem_append_left _ (List.mem_of_getElem? (i := 5) rfl))) rfl, fun a U hW => wk_at hW rfl (h.w (a := #[]) (List.mem_append_right _ (List.mem_append_left _ (List.mem_of_getElem? (i := 91) rfl))) rfl)⟩
theorem ci_O_34 (h : KK l G s) : LkI s args R_O 34 y_R_init cc_R_init 3 2 := ⟨⟨by decide +kernel, by decide +kernel, by decide +kernel⟩, rfl, Or.inl (h.w (List.mem_append_right _ (List.mem_append_left _ (List.mem_of_getElem? (i := 143) rfl))) rfl), h.w (List.mem_append_right _ (List.mem_append_left _ (List.mem_of_getElem? (i := 144) rfl))) rfl, h.w (List.mem_append_right _ (List.mem_append_left _ (List.mem_of_getElem? (i := 7) rfl))) rfl, fun a U hW => wk_at hW rfl (h.w (a := #[]) (List.mem_append_right _ (List.mem_append_left _ (List.mem_of_getElem? (i := 145) rfl))) rfl)⟩
theorem ci_O_43 (h : KK l G s) : LkI s args R_O 43 y_C_init cc_C_init 3 2 := ⟨⟨by decide +kernel, by decide +kernel, by decide +kernel⟩, rfl, Or.inl (h.w (List.mem_append_right _ (List.mem_append_left _ (List.mem_of_getElem? (i := 156) rfl))) rfl), h.w (List.mem_append_right _ (List.mem_append_left _ (List.mem_of_getElem? (i := 157) rfl))) rfl, h.w (List.mem_append_right _ (List.mem_append_left _ (List.mem_of_getElem? (i := 8) rfl))) rfl, fun a U hW => wk_at hW rfl (h.w (a := #[]) (List.mem_append_right _ (List.mem_append_left _ (List.mem_of_getElem? (i := 158) rfl))) rfl)⟩
theorem ci_O_50 (h : KK l G s) : LkI s args R_O 50 y_D_init cc_D_init 1 0 := ⟨⟨by decide +kernel, by decide +kernel, by decide +kernel⟩, rfl, Or.inr ⟨"PanelOffice", h.w (List.mem_append_right _ (List.mem_append_left _ (List.mem_of_getElem? (i := 183) rfl))) rfl⟩, h.w (List.mem_append_right _ (List.mem_append_left _ (List.mem_of_getElem? (i := 184) rfl))) rfl, h.w (List.mem_append_right _ (List.mem_append_left _ (List.mem_of_getElem? (i := 9) rfl))) rfl, fun a U hW => wk_at hW rfl (h.w (a := #[]) (List.mem_append_right _ (List.mem_append_left _ (List.mem_of_getElem? (i := 185) rfl))) rfl)⟩
theorem ci_O_57 (h : KK l G s) : LkI s args R_O 57 y_S_init cc_S_init 3 2 := ⟨⟨by decide +kernel, by decide +kernel, by decide +kernel⟩, rfl, Or.inl (h.w (List.mem_append_right _ (List.mem_append_left _ (List.mem_of_getElem? (i := 214) rfl))) rfl), h.w (List.mem_append_right _ (List.mem_append_left _ (List.mem_of_getElem? (i := 215) rfl))) rfl, h.w (List.mem_append_right _ (List.mem_append_left _ (List.mem_of_getElem? (i := 10) rfl))) rfl, fun a U hW => wk_at hW rfl (h.w (a := #[]) (List.mem_append_right _ (List.mem_append_left _ (List.mem_of_getElem? (i := 216) rfl))) rfl)⟩
end CL
