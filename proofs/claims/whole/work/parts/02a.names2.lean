theorem dX2_init_0 : decode cX2_init 0 = .ok (.aload_n 0, 1) := by decide +kernel
theorem dX2_init_1 : decode cX2_init 1 = .ok (.invokespecial 1, 3) := by decide +kernel
theorem dX2_init_4 : decode cX2_init 4 = .ok (.aload_n 0, 1) := by decide +kernel
theorem dX2_init_5 : decode cX2_init 5 = .ok (.bipush 120, 2) := by decide +kernel
theorem dX2_init_7 : decode cX2_init 7 = .ok (.newarray .int, 2) := by decide +kernel
theorem dX2_init_9 : decode cX2_init 9 = .ok (.putfield 7, 3) := by decide +kernel
theorem dX2_init_12 : decode cX2_init 12 = .ok (.aload_n 0, 1) := by decide +kernel
theorem dX2_init_13 : decode cX2_init 13 = .ok (.bipush 64, 2) := by decide +kernel
theorem dX2_init_15 : decode cX2_init 15 = .ok (.newarray .int, 2) := by decide +kernel
theorem dX2_init_17 : decode cX2_init 17 = .ok (.putfield 13, 3) := by decide +kernel
theorem dX2_init_20 : decode cX2_init 20 = .ok (.aload_n 0, 1) := by decide +kernel
theorem dX2_init_21 : decode cX2_init 21 = .ok (.bipush 64, 2) := by decide +kernel
theorem dX2_init_23 : decode cX2_init 23 = .ok (.newarray .int, 2) := by decide +kernel
theorem dX2_init_25 : decode cX2_init 25 = .ok (.putfield 16, 3) := by decide +kernel
theorem dX2_init_28 : decode cX2_init 28 = .ok (.aload_n 0, 1) := by decide +kernel
theorem dX2_init_29 : decode cX2_init 29 = .ok (.bipush 64, 2) := by decide +kernel
theorem dX2_init_31 : decode cX2_init 31 = .ok (.newarray .int, 2) := by decide +kernel
theorem dX2_init_33 : decode cX2_init 33 = .ok (.putfield 19, 3) := by decide +kernel
theorem dX2_init_36 : decode cX2_init 36 = .ok (.aload_n 0, 1) := by decide +kernel
theorem dX2_init_37 : decode cX2_init 37 = .ok (.sipush 896, 3) := by decide +kernel
theorem dX2_init_40 : decode cX2_init 40 = .ok (.newarray .int, 2) := by decide +kernel
theorem dX2_init_42 : decode cX2_init 42 = .ok (.putfield 22, 3) := by decide +kernel
theorem dX2_init_45 : decode cX2_init 45 = .ok (.aload_n 0, 1) := by decide +kernel
theorem dX2_init_46 : decode cX2_init 46 = .ok (.sipush 128, 3) := by decide +kernel
theorem dX2_init_49 : decode cX2_init 49 = .ok (.newarray .int, 2) := by decide +kernel
theorem dX2_init_51 : decode cX2_init 51 = .ok (.putfield 25, 3) := by decide +kernel
theorem dX2_init_54 : decode cX2_init 54 = .ok (.aload_n 0, 1) := by decide +kernel
theorem dX2_init_55 : decode cX2_init 55 = .ok (.iconst 2, 1) := by decide +kernel
theorem dX2_init_56 : decode cX2_init 56 = .ok (.newarray .boolean, 2) := by decide +kernel
theorem dX2_init_58 : decode cX2_init 58 = .ok (.putfield 28, 3) := by decide +kernel
theorem dX2_init_61 : decode cX2_init 61 = .ok (.aload_n 0, 1) := by decide +kernel
theorem dX2_init_62 : decode cX2_init 62 = .ok (.bipush 6, 2) := by decide +kernel
theorem dX2_init_64 : decode cX2_init 64 = .ok (.newarray .int, 2) := by decide +kernel
theorem dX2_init_66 : decode cX2_init 66 = .ok (.putfield 32, 3) := by decide +kernel
theorem dX2_init_69 : decode cX2_init 69 = .ok (.aload_n 0, 1) := by decide +kernel
theorem dX2_init_70 : decode cX2_init 70 = .ok (.bipush 6, 2) := by decide +kernel
theorem dX2_init_72 : decode cX2_init 72 = .ok (.newarray .int, 2) := by decide +kernel
theorem dX2_init_74 : decode cX2_init 74 = .ok (.putfield 35, 3) := by decide +kernel
theorem dX2_init_77 : decode cX2_init 77 = .ok (.aload_n 0, 1) := by decide +kernel
theorem dX2_init_78 : decode cX2_init 78 = .ok (.iconst 2, 1) := by decide +kernel
theorem dX2_init_79 : decode cX2_init 79 = .ok (.putfield 38, 3) := by decide +kernel
theorem dX2_init_82 : decode cX2_init 82 = .ok (.iconst 0, 1) := by decide +kernel
theorem dX2_init_83 : decode cX2_init 83 = .ok (.istore_n 1, 1) := by decide +kernel
theorem dX2_init_84 : decode cX2_init 84 = .ok (.iload_n 1, 1) := by decide +kernel
theorem dX2_init_85 : decode cX2_init 85 = .ok (.iconst 2, 1) := by decide +kernel
theorem dX2_init_86 : decode cX2_init 86 = .ok (.if_icmp .ge 29, 3) := by decide +kernel
theorem dX2_init_89 : decode cX2_init 89 = .ok (.aload_n 0, 1) := by decide +kernel
theorem dX2_init_90 : decode cX2_init 90 = .ok (.getfield 16, 3) := by decide +kernel
theorem dX2_init_93 : decode cX2_init 93 = .ok (.iconst 0, 1) := by decide +kernel
theorem dX2_init_94 : decode cX2_init 94 = .ok (.iload_n 1, 1) := by decide +kernel
theorem dX2_init_95 : decode cX2_init 95 = .ok (.iadd, 1) := by decide +kernel
theorem dX2_init_96 : decode cX2_init 96 = .ok (.iconst 5, 1) := by decide +kernel
theorem dX2_init_97 : decode cX2_init 97 = .ok (.iastore, 1) := by decide +kernel
theorem dX2_init_98 : decode cX2_init 98 = .ok (.aload_n 0, 1) := by decide +kernel
theorem dX2_init_99 : decode cX2_init 99 = .ok (.getfield 16, 3) := by decide +kernel
theorem dX2_init_102 : decode cX2_init 102 = .ok (.bipush 18, 2) := by decide +kernel
theorem dX2_init_104 : decode cX2_init 104 = .ok (.iload_n 1, 1) := by decide +kernel
theorem dX2_init_105 : decode cX2_init 105 = .ok (.iadd, 1) := by decide +kernel
theorem dX2_init_106 : decode cX2_init 106 = .ok (.bipush 50, 2) := by decide +kernel
theorem dX2_init_108 : decode cX2_init 108 = .ok (.iastore, 1) := by decide +kernel
theorem dX2_init_109 : decode cX2_init 109 = .ok (.iinc 1 1, 3) := by decide +kernel
theorem dX2_init_112 : decode cX2_init 112 = .ok (.goto (-28), 3) := by decide +kernel
theorem dX2_init_115 : decode cX2_init 115 = .ok (.aload_n 0, 1) := by decide +kernel
theorem dX2_init_116 : decode cX2_init 116 = .ok (.getfield 16, 3) := by decide +kernel
theorem dX2_init_119 : decode cX2_init 119 = .ok (.bipush 48, 2) := by decide +kernel
theorem dX2_init_121 : decode cX2_init 121 = .ok (.bipush 100, 2) := by decide +kernel
theorem dX2_init_123 : decode cX2_init 123 = .ok (.iastore, 1) := by decide +kernel
theorem dX2_init_124 : decode cX2_init 124 = .ok (.aload_n 0, 1) := by decide +kernel
theorem dX2_init_125 : decode cX2_init 125 = .ok (.getfield 16, 3) := by decide +kernel
theorem dX2_init_128 : decode cX2_init 128 = .ok (.bipush 49, 2) := by decide +kernel
theorem dX2_init_130 : decode cX2_init 130 = .ok (.bipush 90, 2) := by decide +kernel
theorem dX2_init_132 : decode cX2_init 132 = .ok (.iastore, 1) := by decide +kernel
theorem dX2_init_133 : decode cX2_init 133 = .ok (.aload_n 0, 1) := by decide +kernel
theorem dX2_init_134 : decode cX2_init 134 = .ok (.getfield 16, 3) := by decide +kernel
theorem dX2_init_137 : decode cX2_init 137 = .ok (.bipush 50, 2) := by decide +kernel
theorem dX2_init_139 : decode cX2_init 139 = .ok (.bipush 10, 2) := by decide +kernel
theorem dX2_init_141 : decode cX2_init 141 = .ok (.iastore, 1) := by decide +kernel
theorem dX2_init_142 : decode cX2_init 142 = .ok (.aload_n 0, 1) := by decide +kernel
theorem dX2_init_143 : decode cX2_init 143 = .ok (.getfield 16, 3) := by decide +kernel
theorem dX2_init_146 : decode cX2_init 146 = .ok (.bipush 52, 2) := by decide +kernel
theorem dX2_init_148 : decode cX2_init 148 = .ok (.iconst 5, 1) := by decide +kernel
theorem dX2_init_149 : decode cX2_init 149 = .ok (.iastore, 1) := by decide +kernel
theorem dX2_init_150 : decode cX2_init 150 = .ok (.return_, 1) := by decide +kernel
theorem dX2_thrown_0 : decode cX2_thrown 0 = .ok (.aload_n 0, 1) := by decide +kernel
theorem dX2_thrown_1 : decode cX2_thrown 1 = .ok (.getfield 42, 3) := by decide +kernel
theorem dX2_thrown_4 : decode cX2_thrown 4 = .ok (.ireturn, 1) := by decide +kernel
theorem dX2_refused_0 : decode cX2_refused 0 = .ok (.aload_n 0, 1) := by decide +kernel
theorem dX2_refused_1 : decode cX2_refused 1 = .ok (.iload_n 1, 1) := by decide +kernel
theorem dX2_refused_2 : decode cX2_refused 2 = .ok (.putfield 42, 3) := by decide +kernel
theorem dX2_refused_5 : decode cX2_refused 5 = .ok (.iload_n 1, 1) := by decide +kernel
theorem dX2_refused_6 : decode cX2_refused 6 = .ok (.ifCond .le 7, 3) := by decide +kernel
theorem dX2_refused_9 : decode cX2_refused 9 = .ok (.iconst 1, 1) := by decide +kernel
theorem dX2_refused_10 : decode cX2_refused 10 = .ok (.goto 4, 3) := by decide +kernel
theorem dX2_refused_13 : decode cX2_refused 13 = .ok (.iconst 0, 1) := by decide +kernel
theorem dX2_refused_14 : decode cX2_refused 14 = .ok (.ireturn, 1) := by decide +kernel
theorem dX2_in_0 : decode cX2_in 0 = .ok (.lload_n 0, 1) := by decide +kernel
theorem dX2_in_1 : decode cX2_in 1 = .ok (.lload_n 2, 1) := by decide +kernel
theorem dX2_in_2 : decode cX2_in 2 = .ok (.lcmp, 1) := by decide +kernel
theorem dX2_in_3 : decode cX2_in 3 = .ok (.ifCond .lt 14, 3) := by decide +kernel
theorem dX2_in_6 : decode cX2_in 6 = .ok (.lload_n 0, 1) := by decide +kernel
theorem dX2_in_7 : decode cX2_in 7 = .ok (.lload 4, 2) := by decide +kernel
theorem dX2_in_9 : decode cX2_in 9 = .ok (.lcmp, 1) := by decide +kernel
theorem dX2_in_10 : decode cX2_in 10 = .ok (.ifCond .gt 7, 3) := by decide +kernel
theorem dX2_in_13 : decode cX2_in 13 = .ok (.iconst 1, 1) := by decide +kernel
theorem dX2_in_14 : decode cX2_in 14 = .ok (.goto 4, 3) := by decide +kernel
theorem dX2_in_17 : decode cX2_in 17 = .ok (.iconst 0, 1) := by decide +kernel
theorem dX2_in_18 : decode cX2_in 18 = .ok (.ireturn, 1) := by decide +kernel
theorem dX2_copy_0 : decode cX2_copy 0 = .ok (.iconst 0, 1) := by decide +kernel
theorem dX2_copy_1 : decode cX2_copy 1 = .ok (.istore 5, 2) := by decide +kernel
theorem dX2_copy_3 : decode cX2_copy 3 = .ok (.iload 5, 2) := by decide +kernel
theorem dX2_copy_5 : decode cX2_copy 5 = .ok (.iload 4, 2) := by decide +kernel
theorem dX2_copy_7 : decode cX2_copy 7 = .ok (.if_icmp .ge 21, 3) := by decide +kernel
theorem dX2_copy_10 : decode cX2_copy 10 = .ok (.aload_n 2, 1) := by decide +kernel
theorem dX2_copy_11 : decode cX2_copy 11 = .ok (.iload_n 3, 1) := by decide +kernel
theorem dX2_copy_12 : decode cX2_copy 12 = .ok (.iload 5, 2) := by decide +kernel
theorem dX2_copy_14 : decode cX2_copy 14 = .ok (.iadd, 1) := by decide +kernel
theorem dX2_copy_15 : decode cX2_copy 15 = .ok (.aload_n 0, 1) := by decide +kernel
theorem dX2_copy_16 : decode cX2_copy 16 = .ok (.iload_n 1, 1) := by decide +kernel
theorem dX2_copy_17 : decode cX2_copy 17 = .ok (.iload 5, 2) := by decide +kernel
theorem dX2_copy_19 : decode cX2_copy 19 = .ok (.iadd, 1) := by decide +kernel
theorem dX2_copy_20 : decode cX2_copy 20 = .ok (.iaload, 1) := by decide +kernel
theorem dX2_copy_21 : decode cX2_copy 21 = .ok (.iastore, 1) := by decide +kernel
theorem dX2_copy_22 : decode cX2_copy 22 = .ok (.iinc 5 1, 3) := by decide +kernel
theorem dX2_copy_25 : decode cX2_copy 25 = .ok (.goto (-22), 3) := by decide +kernel
theorem dX2_copy_28 : decode cX2_copy 28 = .ok (.return_, 1) := by decide +kernel
theorem dX2_tenTo_0 : decode cX2_tenTo 0 = .ok (.lconst 1, 1) := by decide +kernel
theorem dX2_tenTo_1 : decode cX2_tenTo 1 = .ok (.lstore_n 1, 1) := by decide +kernel
theorem dX2_tenTo_2 : decode cX2_tenTo 2 = .ok (.iconst 0, 1) := by decide +kernel
theorem dX2_tenTo_3 : decode cX2_tenTo 3 = .ok (.istore_n 3, 1) := by decide +kernel
theorem dX2_tenTo_4 : decode cX2_tenTo 4 = .ok (.iload_n 3, 1) := by decide +kernel
theorem dX2_tenTo_5 : decode cX2_tenTo 5 = .ok (.iload_n 0, 1) := by decide +kernel
theorem dX2_tenTo_6 : decode cX2_tenTo 6 = .ok (.if_icmp .ge 15, 3) := by decide +kernel
theorem dX2_tenTo_9 : decode cX2_tenTo 9 = .ok (.lload_n 1, 1) := by decide +kernel
theorem dX2_tenTo_10 : decode cX2_tenTo 10 = .ok (.ldc2_w 45, 3) := by decide +kernel
theorem dX2_tenTo_13 : decode cX2_tenTo 13 = .ok (.lmul, 1) := by decide +kernel
theorem dX2_tenTo_14 : decode cX2_tenTo 14 = .ok (.lstore_n 1, 1) := by decide +kernel
theorem dX2_tenTo_15 : decode cX2_tenTo 15 = .ok (.iinc 3 1, 3) := by decide +kernel
theorem dX2_tenTo_18 : decode cX2_tenTo 18 = .ok (.goto (-14), 3) := by decide +kernel
theorem dX2_tenTo_21 : decode cX2_tenTo 21 = .ok (.lload_n 1, 1) := by decide +kernel
theorem dX2_tenTo_22 : decode cX2_tenTo 22 = .ok (.lreturn, 1) := by decide +kernel
theorem dX2_less_0 : decode cX2_less 0 = .ok (.iload_n 0, 1) := by decide +kernel
theorem dX2_less_1 : decode cX2_less 1 = .ok (.iload_n 1, 1) := by decide +kernel
theorem dX2_less_2 : decode cX2_less 2 = .ok (.if_icmp .ge 7, 3) := by decide +kernel
theorem dX2_less_5 : decode cX2_less 5 = .ok (.iload_n 0, 1) := by decide +kernel
theorem dX2_less_6 : decode cX2_less 6 = .ok (.goto 4, 3) := by decide +kernel
theorem dX2_less_9 : decode cX2_less 9 = .ok (.iload_n 1, 1) := by decide +kernel
theorem dX2_less_10 : decode cX2_less 10 = .ok (.ireturn, 1) := by decide +kernel
set_option maxRecDepth 20000 in
theorem ggX2_note_X2_copy : GoodIn wsX2_note wsX2_copy := (by refine gI_c (gw 7 rfl rfl) ?_; exact gI_n)
set_option maxRecDepth 20000 in
theorem gX2_note_X2_copy : GoodIn wsX2_note (va_wsS RX2 50 yX2_copy wsX2_copy) := goodIn_app (goodIn_of _ (by decide +kernel)) ggX2_note_X2_copy
theorem dX2_note_0 : decode cX2_note 0 = .ok (.aload_n 0, 1) := by decide +kernel
theorem dX2_note_1 : decode cX2_note 1 = .ok (.getfield 47, 3) := by decide +kernel
theorem dX2_note_4 : decode cX2_note 4 = .ok (.bipush 14, 2) := by decide +kernel
theorem dX2_note_6 : decode cX2_note 6 = .ok (.if_icmp .ne 30, 3) := by decide +kernel
theorem dX2_note_9 : decode cX2_note 9 = .ok (.aload_n 0, 1) := by decide +kernel
theorem dX2_note_10 : decode cX2_note 10 = .ok (.getfield 22, 3) := by decide +kernel
theorem dX2_note_13 : decode cX2_note 13 = .ok (.bipush 64, 2) := by decide +kernel
theorem dX2_note_15 : decode cX2_note 15 = .ok (.aload_n 0, 1) := by decide +kernel
theorem dX2_note_16 : decode cX2_note 16 = .ok (.getfield 22, 3) := by decide +kernel
theorem dX2_note_19 : decode cX2_note 19 = .ok (.iconst 0, 1) := by decide +kernel
theorem dX2_note_20 : decode cX2_note 20 = .ok (.sipush 832, 3) := by decide +kernel
theorem dX2_note_23 : decode cX2_note 23 = .ok (.invokestatic 50, 3) := by decide +kernel
theorem dX2_note_26 : decode cX2_note 26 = .ok (.aload_n 0, 1) := by decide +kernel
theorem dX2_note_27 : decode cX2_note 27 = .ok (.dup, 1) := by decide +kernel
theorem dX2_note_28 : decode cX2_note 28 = .ok (.getfield 47, 3) := by decide +kernel
theorem dX2_note_31 : decode cX2_note 31 = .ok (.iconst 1, 1) := by decide +kernel
theorem dX2_note_32 : decode cX2_note 32 = .ok (.isub, 1) := by decide +kernel
theorem dX2_note_33 : decode cX2_note 33 = .ok (.putfield 47, 3) := by decide +kernel
theorem dX2_note_36 : decode cX2_note 36 = .ok (.aload_n 0, 1) := by decide +kernel
theorem dX2_note_37 : decode cX2_note 37 = .ok (.getfield 16, 3) := by decide +kernel
theorem dX2_note_40 : decode cX2_note 40 = .ok (.iconst 0, 1) := by decide +kernel
theorem dX2_note_41 : decode cX2_note 41 = .ok (.aload_n 0, 1) := by decide +kernel
theorem dX2_note_42 : decode cX2_note 42 = .ok (.getfield 22, 3) := by decide +kernel
theorem dX2_note_45 : decode cX2_note 45 = .ok (.bipush 64, 2) := by decide +kernel
theorem dX2_note_47 : decode cX2_note 47 = .ok (.aload_n 0, 1) := by decide +kernel
theorem dX2_note_48 : decode cX2_note 48 = .ok (.getfield 47, 3) := by decide +kernel
theorem dX2_note_51 : decode cX2_note 51 = .ok (.imul, 1) := by decide +kernel
theorem dX2_note_52 : decode cX2_note 52 = .ok (.bipush 64, 2) := by decide +kernel
theorem dX2_note_54 : decode cX2_note 54 = .ok (.invokestatic 50, 3) := by decide +kernel
theorem dX2_note_57 : decode cX2_note 57 = .ok (.aload_n 0, 1) := by decide +kernel
theorem dX2_note_58 : decode cX2_note 58 = .ok (.dup, 1) := by decide +kernel
theorem dX2_note_59 : decode cX2_note 59 = .ok (.getfield 47, 3) := by decide +kernel
theorem dX2_note_62 : decode cX2_note 62 = .ok (.iconst 1, 1) := by decide +kernel
theorem dX2_note_63 : decode cX2_note 63 = .ok (.iadd, 1) := by decide +kernel
theorem dX2_note_64 : decode cX2_note 64 = .ok (.putfield 47, 3) := by decide +kernel
theorem dX2_note_67 : decode cX2_note 67 = .ok (.return_, 1) := by decide +kernel
set_option maxRecDepth 20000 in
theorem ggX2_isEffect_X2_in : GoodIn wsX2_isEffect wsX2_in := (by refine gI_c (gw 5 rfl rfl) ?_; exact gI_n)
set_option maxRecDepth 20000 in
theorem gX2_isEffect_X2_in : GoodIn wsX2_isEffect (va_wsS RX2 54 yX2_in wsX2_in) := goodIn_app (goodIn_of _ (by decide +kernel)) ggX2_isEffect_X2_in
theorem dX2_isEffect_0 : decode cX2_isEffect 0 = .ok (.iload_n 1, 1) := by decide +kernel
theorem dX2_isEffect_1 : decode cX2_isEffect 1 = .ok (.i2l, 1) := by decide +kernel
theorem dX2_isEffect_2 : decode cX2_isEffect 2 = .ok (.lconst 0, 1) := by decide +kernel
theorem dX2_isEffect_3 : decode cX2_isEffect 3 = .ok (.aload_n 0, 1) := by decide +kernel
theorem dX2_isEffect_4 : decode cX2_isEffect 4 = .ok (.getfield 38, 3) := by decide +kernel
theorem dX2_isEffect_7 : decode cX2_isEffect 7 = .ok (.iconst 1, 1) := by decide +kernel
theorem dX2_isEffect_8 : decode cX2_isEffect 8 = .ok (.isub, 1) := by decide +kernel
theorem dX2_isEffect_9 : decode cX2_isEffect 9 = .ok (.i2l, 1) := by decide +kernel
theorem dX2_isEffect_10 : decode cX2_isEffect 10 = .ok (.invokestatic 54, 3) := by decide +kernel
theorem dX2_isEffect_13 : decode cX2_isEffect 13 = .ok (.ireturn, 1) := by decide +kernel
theorem dX2_amount_0 : decode cX2_amount 0 = .ok (.aload_n 0, 1) := by decide +kernel
theorem dX2_amount_1 : decode cX2_amount 1 = .ok (.bipush 6, 2) := by decide +kernel
theorem dX2_amount_3 : decode cX2_amount 3 = .ok (.iload_n 1, 1) := by decide +kernel
theorem dX2_amount_4 : decode cX2_amount 4 = .ok (.iadd, 1) := by decide +kernel
theorem dX2_amount_5 : decode cX2_amount 5 = .ok (.iaload, 1) := by decide +kernel
theorem dX2_amount_6 : decode cX2_amount 6 = .ok (.aload_n 0, 1) := by decide +kernel
theorem dX2_amount_7 : decode cX2_amount 7 = .ok (.bipush 12, 2) := by decide +kernel
theorem dX2_amount_9 : decode cX2_amount 9 = .ok (.iload_n 1, 1) := by decide +kernel
theorem dX2_amount_10 : decode cX2_amount 10 = .ok (.iadd, 1) := by decide +kernel
theorem dX2_amount_11 : decode cX2_amount 11 = .ok (.iaload, 1) := by decide +kernel
theorem dX2_amount_12 : decode cX2_amount 12 = .ok (.iadd, 1) := by decide +kernel
theorem dX2_amount_13 : decode cX2_amount 13 = .ok (.ireturn, 1) := by decide +kernel
set_option maxRecDepth 20000 in
theorem ggX2_thickness_X2_amount : GoodIn wsX2_thickness wsX2_amount := (by refine gI_c (gw 4 rfl rfl) ?_; exact gI_n)
set_option maxRecDepth 20000 in
theorem gX2_thickness_X2_amount : GoodIn wsX2_thickness (va_wsS RX2 58 yX2_amount wsX2_amount) := goodIn_app (goodIn_of _ (by decide +kernel)) ggX2_thickness_X2_amount
theorem dX2_thickness_0 : decode cX2_thickness 0 = .ok (.aload_n 0, 1) := by decide +kernel
theorem dX2_thickness_1 : decode cX2_thickness 1 = .ok (.iload_n 1, 1) := by decide +kernel
theorem dX2_thickness_2 : decode cX2_thickness 2 = .ok (.invokestatic 58, 3) := by decide +kernel
theorem dX2_thickness_5 : decode cX2_thickness 5 = .ok (.ifCond .ne 7, 3) := by decide +kernel
theorem dX2_thickness_8 : decode cX2_thickness 8 = .ok (.iconst 0, 1) := by decide +kernel
theorem dX2_thickness_9 : decode cX2_thickness 9 = .ok (.goto 18, 3) := by decide +kernel
theorem dX2_thickness_12 : decode cX2_thickness 12 = .ok (.bipush 100, 2) := by decide +kernel
theorem dX2_thickness_14 : decode cX2_thickness 14 = .ok (.aload_n 0, 1) := by decide +kernel
theorem dX2_thickness_15 : decode cX2_thickness 15 = .ok (.bipush 12, 2) := by decide +kernel
theorem dX2_thickness_17 : decode cX2_thickness 17 = .ok (.iload_n 1, 1) := by decide +kernel
theorem dX2_thickness_18 : decode cX2_thickness 18 = .ok (.iadd, 1) := by decide +kernel
theorem dX2_thickness_19 : decode cX2_thickness 19 = .ok (.iaload, 1) := by decide +kernel
theorem dX2_thickness_20 : decode cX2_thickness 20 = .ok (.imul, 1) := by decide +kernel
theorem dX2_thickness_21 : decode cX2_thickness 21 = .ok (.aload_n 0, 1) := by decide +kernel
theorem dX2_thickness_22 : decode cX2_thickness 22 = .ok (.iload_n 1, 1) := by decide +kernel
theorem dX2_thickness_23 : decode cX2_thickness 23 = .ok (.invokestatic 58, 3) := by decide +kernel
theorem dX2_thickness_26 : decode cX2_thickness 26 = .ok (.idiv, 1) := by decide +kernel
theorem dX2_thickness_27 : decode cX2_thickness 27 = .ok (.ireturn, 1) := by decide +kernel
theorem dX2_power_0 : decode cX2_power 0 = .ok (.bipush 100, 2) := by decide +kernel
theorem dX2_power_2 : decode cX2_power 2 = .ok (.aload_n 0, 1) := by decide +kernel
theorem dX2_power_3 : decode cX2_power 3 = .ok (.iconst 0, 1) := by decide +kernel
theorem dX2_power_4 : decode cX2_power 4 = .ok (.iload_n 1, 1) := by decide +kernel
theorem dX2_power_5 : decode cX2_power 5 = .ok (.iadd, 1) := by decide +kernel
theorem dX2_power_6 : decode cX2_power 6 = .ok (.iaload, 1) := by decide +kernel
theorem dX2_power_7 : decode cX2_power 7 = .ok (.imul, 1) := by decide +kernel
theorem dX2_power_8 : decode cX2_power 8 = .ok (.bipush 10, 2) := by decide +kernel
theorem dX2_power_10 : decode cX2_power 10 = .ok (.aload_n 0, 1) := by decide +kernel
theorem dX2_power_11 : decode cX2_power 11 = .ok (.bipush 30, 2) := by decide +kernel
theorem dX2_power_13 : decode cX2_power 13 = .ok (.iload_n 1, 1) := by decide +kernel
theorem dX2_power_14 : decode cX2_power 14 = .ok (.iadd, 1) := by decide +kernel
theorem dX2_power_15 : decode cX2_power 15 = .ok (.iaload, 1) := by decide +kernel
theorem dX2_power_16 : decode cX2_power 16 = .ok (.iadd, 1) := by decide +kernel
theorem dX2_power_17 : decode cX2_power 17 = .ok (.idiv, 1) := by decide +kernel
theorem dX2_power_18 : decode cX2_power 18 = .ok (.ireturn, 1) := by decide +kernel
theorem dX2_works_0 : decode cX2_works 0 = .ok (.aload_n 0, 1) := by decide +kernel
theorem dX2_works_1 : decode cX2_works 1 = .ok (.bipush 42, 2) := by decide +kernel
theorem dX2_works_3 : decode cX2_works 3 = .ok (.iload_n 1, 1) := by decide +kernel
theorem dX2_works_4 : decode cX2_works 4 = .ok (.iadd, 1) := by decide +kernel
theorem dX2_works_5 : decode cX2_works 5 = .ok (.iaload, 1) := by decide +kernel
theorem dX2_works_6 : decode cX2_works 6 = .ok (.ifCond .ne 7, 3) := by decide +kernel
theorem dX2_works_9 : decode cX2_works 9 = .ok (.iconst 1, 1) := by decide +kernel
theorem dX2_works_10 : decode cX2_works 10 = .ok (.goto 4, 3) := by decide +kernel
theorem dX2_works_13 : decode cX2_works 13 = .ok (.iconst 0, 1) := by decide +kernel
theorem dX2_works_14 : decode cX2_works 14 = .ok (.ireturn, 1) := by decide +kernel
set_option maxRecDepth 20000 in
theorem ggX2_before_X2_works : GoodIn wsX2_before wsX2_works := (by refine gI_c (gw 4 rfl rfl) ?_; exact gI_n)
set_option maxRecDepth 20000 in
theorem gX2_before_X2_works : GoodIn wsX2_before (va_wsS RX2 62 yX2_works wsX2_works) := goodIn_app (goodIn_of _ (by decide +kernel)) ggX2_before_X2_works
theorem dX2_before_0 : decode cX2_before 0 = .ok (.iload_n 1, 1) := by decide +kernel
theorem dX2_before_1 : decode cX2_before 1 = .ok (.iconst 1, 1) := by decide +kernel
theorem dX2_before_2 : decode cX2_before 2 = .ok (.isub, 1) := by decide +kernel
theorem dX2_before_3 : decode cX2_before 3 = .ok (.istore_n 2, 1) := by decide +kernel
theorem dX2_before_4 : decode cX2_before 4 = .ok (.iload_n 2, 1) := by decide +kernel
theorem dX2_before_5 : decode cX2_before 5 = .ok (.ifCond .lt 17, 3) := by decide +kernel
theorem dX2_before_8 : decode cX2_before 8 = .ok (.aload_n 0, 1) := by decide +kernel
theorem dX2_before_9 : decode cX2_before 9 = .ok (.iload_n 2, 1) := by decide +kernel
theorem dX2_before_10 : decode cX2_before 10 = .ok (.invokestatic 62, 3) := by decide +kernel
theorem dX2_before_13 : decode cX2_before 13 = .ok (.ifCond .ne 9, 3) := by decide +kernel
theorem dX2_before_16 : decode cX2_before 16 = .ok (.iinc 2 (-1), 3) := by decide +kernel
theorem dX2_before_19 : decode cX2_before 19 = .ok (.goto (-15), 3) := by decide +kernel
theorem dX2_before_22 : decode cX2_before 22 = .ok (.iload_n 2, 1) := by decide +kernel
theorem dX2_before_23 : decode cX2_before 23 = .ok (.ifCond .ge 8, 3) := by decide +kernel
theorem dX2_before_26 : decode cX2_before 26 = .ok (.bipush (-9), 2) := by decide +kernel
theorem dX2_before_28 : decode cX2_before 28 = .ok (.goto 4, 3) := by decide +kernel
theorem dX2_before_31 : decode cX2_before 31 = .ok (.iload_n 2, 1) := by decide +kernel
theorem dX2_before_32 : decode cX2_before 32 = .ok (.ireturn, 1) := by decide +kernel
set_option maxRecDepth 20000 in
theorem ggX2_behind_X2_works : GoodIn wsX2_behind wsX2_works := (by refine gI_c (gw 5 rfl rfl) ?_; exact gI_n)
set_option maxRecDepth 20000 in
theorem gX2_behind_X2_works : GoodIn wsX2_behind (va_wsS RX2 62 yX2_works wsX2_works) := goodIn_app (goodIn_of _ (by decide +kernel)) ggX2_behind_X2_works
theorem dX2_behind_0 : decode cX2_behind 0 = .ok (.iload_n 2, 1) := by decide +kernel
theorem dX2_behind_1 : decode cX2_behind 1 = .ok (.iconst 1, 1) := by decide +kernel
theorem dX2_behind_2 : decode cX2_behind 2 = .ok (.iadd, 1) := by decide +kernel
theorem dX2_behind_3 : decode cX2_behind 3 = .ok (.istore_n 3, 1) := by decide +kernel
theorem dX2_behind_4 : decode cX2_behind 4 = .ok (.iload_n 3, 1) := by decide +kernel
theorem dX2_behind_5 : decode cX2_behind 5 = .ok (.aload_n 0, 1) := by decide +kernel
theorem dX2_behind_6 : decode cX2_behind 6 = .ok (.getfield 38, 3) := by decide +kernel
theorem dX2_behind_9 : decode cX2_behind 9 = .ok (.if_icmp .ge 17, 3) := by decide +kernel
theorem dX2_behind_12 : decode cX2_behind 12 = .ok (.aload_n 1, 1) := by decide +kernel
theorem dX2_behind_13 : decode cX2_behind 13 = .ok (.iload_n 3, 1) := by decide +kernel
theorem dX2_behind_14 : decode cX2_behind 14 = .ok (.invokestatic 62, 3) := by decide +kernel
theorem dX2_behind_17 : decode cX2_behind 17 = .ok (.ifCond .ne 9, 3) := by decide +kernel
theorem dX2_behind_20 : decode cX2_behind 20 = .ok (.iinc 3 1, 3) := by decide +kernel
theorem dX2_behind_23 : decode cX2_behind 23 = .ok (.goto (-19), 3) := by decide +kernel
theorem dX2_behind_26 : decode cX2_behind 26 = .ok (.iload_n 3, 1) := by decide +kernel
theorem dX2_behind_27 : decode cX2_behind 27 = .ok (.aload_n 0, 1) := by decide +kernel
theorem dX2_behind_28 : decode cX2_behind 28 = .ok (.getfield 38, 3) := by decide +kernel
theorem dX2_behind_31 : decode cX2_behind 31 = .ok (.if_icmp .ne 8, 3) := by decide +kernel
theorem dX2_behind_34 : decode cX2_behind 34 = .ok (.bipush (-9), 2) := by decide +kernel
theorem dX2_behind_36 : decode cX2_behind 36 = .ok (.goto 4, 3) := by decide +kernel
theorem dX2_behind_39 : decode cX2_behind 39 = .ok (.iload_n 3, 1) := by decide +kernel
theorem dX2_behind_40 : decode cX2_behind 40 = .ok (.ireturn, 1) := by decide +kernel
set_option maxRecDepth 20000 in
theorem ggX2_washed_X2_works : GoodIn wsX2_washed wsX2_works := (by refine gI_c (gw 5 rfl rfl) ?_; exact gI_n)
set_option maxRecDepth 20000 in
theorem gX2_washed_X2_works : GoodIn wsX2_washed (va_wsS RX2 62 yX2_works wsX2_works) := goodIn_app (goodIn_of _ (by decide +kernel)) ggX2_washed_X2_works
theorem dX2_washed_0 : decode cX2_washed 0 = .ok (.iconst 0, 1) := by decide +kernel
theorem dX2_washed_1 : decode cX2_washed 1 = .ok (.istore_n 2, 1) := by decide +kernel
theorem dX2_washed_2 : decode cX2_washed 2 = .ok (.iconst 0, 1) := by decide +kernel
theorem dX2_washed_3 : decode cX2_washed 3 = .ok (.istore_n 3, 1) := by decide +kernel
theorem dX2_washed_4 : decode cX2_washed 4 = .ok (.iload_n 3, 1) := by decide +kernel
theorem dX2_washed_5 : decode cX2_washed 5 = .ok (.aload_n 0, 1) := by decide +kernel
theorem dX2_washed_6 : decode cX2_washed 6 = .ok (.getfield 38, 3) := by decide +kernel
theorem dX2_washed_9 : decode cX2_washed 9 = .ok (.if_icmp .ge 25, 3) := by decide +kernel
theorem dX2_washed_12 : decode cX2_washed 12 = .ok (.iload_n 2, 1) := by decide +kernel
theorem dX2_washed_13 : decode cX2_washed 13 = .ok (.aload_n 1, 1) := by decide +kernel
theorem dX2_washed_14 : decode cX2_washed 14 = .ok (.iload_n 3, 1) := by decide +kernel
theorem dX2_washed_15 : decode cX2_washed 15 = .ok (.invokestatic 62, 3) := by decide +kernel
theorem dX2_washed_18 : decode cX2_washed 18 = .ok (.ifCond .eq 7, 3) := by decide +kernel
theorem dX2_washed_21 : decode cX2_washed 21 = .ok (.iconst 0, 1) := by decide +kernel
theorem dX2_washed_22 : decode cX2_washed 22 = .ok (.goto 4, 3) := by decide +kernel
theorem dX2_washed_25 : decode cX2_washed 25 = .ok (.iconst 1, 1) := by decide +kernel
theorem dX2_washed_26 : decode cX2_washed 26 = .ok (.iadd, 1) := by decide +kernel
theorem dX2_washed_27 : decode cX2_washed 27 = .ok (.istore_n 2, 1) := by decide +kernel
theorem dX2_washed_28 : decode cX2_washed 28 = .ok (.iinc 3 1, 3) := by decide +kernel
theorem dX2_washed_31 : decode cX2_washed 31 = .ok (.goto (-27), 3) := by decide +kernel
theorem dX2_washed_34 : decode cX2_washed 34 = .ok (.iload_n 2, 1) := by decide +kernel
theorem dX2_washed_35 : decode cX2_washed 35 = .ok (.ireturn, 1) := by decide +kernel
set_option maxRecDepth 20000 in
theorem ggX2_tickOn_X2_washed : GoodIn wsX2_tickOn wsX2_washed := (by refine gI_c (gw 6 rfl rfl) ?_; refine gI_c (gw 1 rfl rfl) ?_; refine gI_c (gw 7 rfl rfl) ?_; refine gI_c (gw 8 rfl rfl) ?_; refine gI_c (gw 5 rfl rfl) ?_; refine gI_c (gw 9 rfl rfl) ?_; refine gI_c (gw 36 rfl rfl) ?_; refine gI_c (gw 37 rfl rfl) ?_; refine gI_c (gw 38 rfl rfl) ?_; refine gI_c (gw 39 rfl rfl) ?_; refine gI_c (gw 40 rfl rfl) ?_; refine gI_c (gw 41 rfl rfl) ?_; refine gI_c (gw 42 rfl rfl) ?_; refine gI_c (gw 43 rfl rfl) ?_; refine gI_c (gw 44 rfl rfl) ?_; refine gI_c (gw 45 rfl rfl) ?_; refine gI_c (gw 46 rfl rfl) ?_; refine gI_c (gw 47 rfl rfl) ?_; refine gI_c (gw 48 rfl rfl) ?_; refine gI_c (gw 49 rfl rfl) ?_; refine gI_c (gw 50 rfl rfl) ?_; exact gI_n)
set_option maxRecDepth 20000 in
theorem gX2_tickOn_X2_washed : GoodIn wsX2_tickOn (wsV RX2 66 RX2 yX2_washed wsX2_washed) := goodIn_app (goodIn_of _ (by decide +kernel)) ggX2_tickOn_X2_washed
set_option maxRecDepth 20000 in
theorem ggX2_tickOn_X2_boil : GoodIn wsX2_tickOn wsX2_boil := (by refine gI_c (gw 13 rfl rfl) ?_; refine gI_c (gw 1 rfl rfl) ?_; refine gI_c (gw 2 rfl rfl) ?_; refine gI_c (gw 3 rfl rfl) ?_; refine gI_c (gw 4 rfl rfl) ?_; refine gI_c (gw 5 rfl rfl) ?_; refine gI_c (gw 6 rfl rfl) ?_; refine gI_c (gw 7 rfl rfl) ?_; refine gI_c (gw 8 rfl rfl) ?_; refine gI_c (gw 9 rfl rfl) ?_; refine gI_c (gw 14 rfl rfl) ?_; refine gI_c (gw 15 rfl rfl) ?_; refine gI_c (gw 16 rfl rfl) ?_; refine gI_c (gw 17 rfl rfl) ?_; refine gI_c (gw 18 rfl rfl) ?_; refine gI_c (gw 19 rfl rfl) ?_; refine gI_c (gw 20 rfl rfl) ?_; refine gI_c (gw 21 rfl rfl) ?_; refine gI_c (gw 22 rfl rfl) ?_; refine gI_c (gw 23 rfl rfl) ?_; refine gI_c (gw 24 rfl rfl) ?_; refine gI_c (gw 25 rfl rfl) ?_; refine gI_c (gw 36 rfl rfl) ?_; refine gI_c (gw 37 rfl rfl) ?_; refine gI_c (gw 38 rfl rfl) ?_; refine gI_c (gw 39 rfl rfl) ?_; refine gI_c (gw 40 rfl rfl) ?_; refine gI_c (gw 41 rfl rfl) ?_; refine gI_c (gw 42 rfl rfl) ?_; refine gI_c (gw 43 rfl rfl) ?_; refine gI_c (gw 44 rfl rfl) ?_; refine gI_c (gw 45 rfl rfl) ?_; refine gI_c (gw 46 rfl rfl) ?_; refine gI_c (gw 47 rfl rfl) ?_; refine gI_c (gw 48 rfl rfl) ?_; refine gI_c (gw 49 rfl rfl) ?_; refine gI_c (gw 50 rfl rfl) ?_; exact gI_n)
set_option maxRecDepth 20000 in
theorem gX2_tickOn_X2_boil : GoodIn wsX2_tickOn (wsV RX2 70 RX2 yX2_boil wsX2_boil) := goodIn_app (goodIn_of _ (by decide +kernel)) ggX2_tickOn_X2_boil
set_option maxRecDepth 20000 in
theorem ggX2_tickOn_X2_go : GoodIn wsX2_tickOn wsX2_go := (by refine gI_c (gw 29 rfl rfl) ?_; refine gI_c (gw 1 rfl rfl) ?_; refine gI_c (gw 30 rfl rfl) ?_; refine gI_c (gw 31 rfl rfl) ?_; refine gI_c (gw 32 rfl rfl) ?_; refine gI_c (gw 33 rfl rfl) ?_; refine gI_c (gw 34 rfl rfl) ?_; refine gI_c (gw 5 rfl rfl) ?_; refine gI_c (gw 35 rfl rfl) ?_; refine gI_c (gw 7 rfl rfl) ?_; refine gI_c (gw 8 rfl rfl) ?_; refine gI_c (gw 9 rfl rfl) ?_; refine gI_c (gw 17 rfl rfl) ?_; refine gI_c (gw 18 rfl rfl) ?_; refine gI_c (gw 19 rfl rfl) ?_; refine gI_c (gw 23 rfl rfl) ?_; refine gI_c (gw 24 rfl rfl) ?_; refine gI_c (gw 25 rfl rfl) ?_; refine gI_c (gw 36 rfl rfl) ?_; refine gI_c (gw 37 rfl rfl) ?_; refine gI_c (gw 38 rfl rfl) ?_; refine gI_c (gw 39 rfl rfl) ?_; refine gI_c (gw 40 rfl rfl) ?_; refine gI_c (gw 41 rfl rfl) ?_; refine gI_c (gw 42 rfl rfl) ?_; refine gI_c (gw 43 rfl rfl) ?_; refine gI_c (gw 44 rfl rfl) ?_; refine gI_c (gw 45 rfl rfl) ?_; refine gI_c (gw 46 rfl rfl) ?_; refine gI_c (gw 47 rfl rfl) ?_; refine gI_c (gw 48 rfl rfl) ?_; refine gI_c (gw 49 rfl rfl) ?_; refine gI_c (gw 50 rfl rfl) ?_; exact gI_n)
set_option maxRecDepth 20000 in
theorem gX2_tickOn_X2_go : GoodIn wsX2_tickOn (wsV RX2 74 RX2 yX2_go wsX2_go) := goodIn_app (goodIn_of _ (by decide +kernel)) ggX2_tickOn_X2_go
set_option maxRecDepth 20000 in
theorem ggX2_tickOn_X2_works : GoodIn wsX2_tickOn wsX2_works := (by refine gI_c (gw 9 rfl rfl) ?_; exact gI_n)
set_option maxRecDepth 20000 in
theorem gX2_tickOn_X2_works : GoodIn wsX2_tickOn (va_wsS RX2 62 yX2_works wsX2_works) := goodIn_app (goodIn_of _ (by decide +kernel)) ggX2_tickOn_X2_works
theorem dX2_tickOn_0 : decode cX2_tickOn 0 = .ok (.aload_n 1, 1) := by decide +kernel
theorem dX2_tickOn_1 : decode cX2_tickOn 1 = .ok (.bipush 51, 2) := by decide +kernel
theorem dX2_tickOn_3 : decode cX2_tickOn 3 = .ok (.iaload, 1) := by decide +kernel
theorem dX2_tickOn_4 : decode cX2_tickOn 4 = .ok (.ifCond .le 85, 3) := by decide +kernel
theorem dX2_tickOn_7 : decode cX2_tickOn 7 = .ok (.aload_n 1, 1) := by decide +kernel
theorem dX2_tickOn_8 : decode cX2_tickOn 8 = .ok (.bipush 53, 2) := by decide +kernel
theorem dX2_tickOn_10 : decode cX2_tickOn 10 = .ok (.iaload, 1) := by decide +kernel
theorem dX2_tickOn_11 : decode cX2_tickOn 11 = .ok (.aload_n 1, 1) := by decide +kernel
theorem dX2_tickOn_12 : decode cX2_tickOn 12 = .ok (.bipush 51, 2) := by decide +kernel
theorem dX2_tickOn_14 : decode cX2_tickOn 14 = .ok (.iaload, 1) := by decide +kernel
theorem dX2_tickOn_15 : decode cX2_tickOn 15 = .ok (.irem, 1) := by decide +kernel
theorem dX2_tickOn_16 : decode cX2_tickOn 16 = .ok (.ifCond .ne 73, 3) := by decide +kernel
theorem dX2_tickOn_19 : decode cX2_tickOn 19 = .ok (.aload_n 0, 1) := by decide +kernel
theorem dX2_tickOn_20 : decode cX2_tickOn 20 = .ok (.aload_n 1, 1) := by decide +kernel
theorem dX2_tickOn_21 : decode cX2_tickOn 21 = .ok (.invokevirtual 66, 3) := by decide +kernel
theorem dX2_tickOn_24 : decode cX2_tickOn 24 = .ok (.ifCond .ne 65, 3) := by decide +kernel
theorem dX2_tickOn_27 : decode cX2_tickOn 27 = .ok (.iconst 0, 1) := by decide +kernel
theorem dX2_tickOn_28 : decode cX2_tickOn 28 = .ok (.istore_n 2, 1) := by decide +kernel
theorem dX2_tickOn_29 : decode cX2_tickOn 29 = .ok (.iconst 1, 1) := by decide +kernel
theorem dX2_tickOn_30 : decode cX2_tickOn 30 = .ok (.istore_n 3, 1) := by decide +kernel
theorem dX2_tickOn_31 : decode cX2_tickOn 31 = .ok (.iload_n 3, 1) := by decide +kernel
theorem dX2_tickOn_32 : decode cX2_tickOn 32 = .ok (.aload_n 0, 1) := by decide +kernel
theorem dX2_tickOn_33 : decode cX2_tickOn 33 = .ok (.getfield 38, 3) := by decide +kernel
theorem dX2_tickOn_36 : decode cX2_tickOn 36 = .ok (.if_icmp .ge 30, 3) := by decide +kernel
theorem dX2_tickOn_39 : decode cX2_tickOn 39 = .ok (.aload_n 1, 1) := by decide +kernel
theorem dX2_tickOn_40 : decode cX2_tickOn 40 = .ok (.bipush 30, 2) := by decide +kernel
theorem dX2_tickOn_42 : decode cX2_tickOn 42 = .ok (.iload_n 3, 1) := by decide +kernel
theorem dX2_tickOn_43 : decode cX2_tickOn 43 = .ok (.iadd, 1) := by decide +kernel
theorem dX2_tickOn_44 : decode cX2_tickOn 44 = .ok (.iaload, 1) := by decide +kernel
theorem dX2_tickOn_45 : decode cX2_tickOn 45 = .ok (.aload_n 1, 1) := by decide +kernel
theorem dX2_tickOn_46 : decode cX2_tickOn 46 = .ok (.bipush 30, 2) := by decide +kernel
theorem dX2_tickOn_48 : decode cX2_tickOn 48 = .ok (.iload_n 2, 1) := by decide +kernel
theorem dX2_tickOn_49 : decode cX2_tickOn 49 = .ok (.iadd, 1) := by decide +kernel
theorem dX2_tickOn_50 : decode cX2_tickOn 50 = .ok (.iaload, 1) := by decide +kernel
theorem dX2_tickOn_51 : decode cX2_tickOn 51 = .ok (.if_icmp .le 7, 3) := by decide +kernel
theorem dX2_tickOn_54 : decode cX2_tickOn 54 = .ok (.iload_n 3, 1) := by decide +kernel
theorem dX2_tickOn_55 : decode cX2_tickOn 55 = .ok (.goto 4, 3) := by decide +kernel
theorem dX2_tickOn_58 : decode cX2_tickOn 58 = .ok (.iload_n 2, 1) := by decide +kernel
theorem dX2_tickOn_59 : decode cX2_tickOn 59 = .ok (.istore_n 2, 1) := by decide +kernel
theorem dX2_tickOn_60 : decode cX2_tickOn 60 = .ok (.iinc 3 1, 3) := by decide +kernel
theorem dX2_tickOn_63 : decode cX2_tickOn 63 = .ok (.goto (-32), 3) := by decide +kernel
theorem dX2_tickOn_66 : decode cX2_tickOn 66 = .ok (.aload_n 1, 1) := by decide +kernel
theorem dX2_tickOn_67 : decode cX2_tickOn 67 = .ok (.bipush 42, 2) := by decide +kernel
theorem dX2_tickOn_69 : decode cX2_tickOn 69 = .ok (.iload_n 2, 1) := by decide +kernel
theorem dX2_tickOn_70 : decode cX2_tickOn 70 = .ok (.iadd, 1) := by decide +kernel
theorem dX2_tickOn_71 : decode cX2_tickOn 71 = .ok (.aload_n 1, 1) := by decide +kernel
theorem dX2_tickOn_72 : decode cX2_tickOn 72 = .ok (.bipush 30, 2) := by decide +kernel
theorem dX2_tickOn_74 : decode cX2_tickOn 74 = .ok (.iload_n 2, 1) := by decide +kernel
theorem dX2_tickOn_75 : decode cX2_tickOn 75 = .ok (.iadd, 1) := by decide +kernel
theorem dX2_tickOn_76 : decode cX2_tickOn 76 = .ok (.iaload, 1) := by decide +kernel
theorem dX2_tickOn_77 : decode cX2_tickOn 77 = .ok (.ifCond .le 10, 3) := by decide +kernel
theorem dX2_tickOn_80 : decode cX2_tickOn 80 = .ok (.aload_n 1, 1) := by decide +kernel
theorem dX2_tickOn_81 : decode cX2_tickOn 81 = .ok (.bipush 52, 2) := by decide +kernel
theorem dX2_tickOn_83 : decode cX2_tickOn 83 = .ok (.iaload, 1) := by decide +kernel
theorem dX2_tickOn_84 : decode cX2_tickOn 84 = .ok (.goto 4, 3) := by decide +kernel
theorem dX2_tickOn_87 : decode cX2_tickOn 87 = .ok (.iconst 0, 1) := by decide +kernel
theorem dX2_tickOn_88 : decode cX2_tickOn 88 = .ok (.iastore, 1) := by decide +kernel
theorem dX2_tickOn_89 : decode cX2_tickOn 89 = .ok (.aload_n 0, 1) := by decide +kernel
theorem dX2_tickOn_90 : decode cX2_tickOn 90 = .ok (.aload_n 1, 1) := by decide +kernel
theorem dX2_tickOn_91 : decode cX2_tickOn 91 = .ok (.invokevirtual 70, 3) := by decide +kernel
theorem dX2_tickOn_94 : decode cX2_tickOn 94 = .ok (.aload_n 0, 1) := by decide +kernel
theorem dX2_tickOn_95 : decode cX2_tickOn 95 = .ok (.aload_n 1, 1) := by decide +kernel
theorem dX2_tickOn_96 : decode cX2_tickOn 96 = .ok (.invokevirtual 74, 3) := by decide +kernel
theorem dX2_tickOn_99 : decode cX2_tickOn 99 = .ok (.iconst 0, 1) := by decide +kernel
theorem dX2_tickOn_100 : decode cX2_tickOn 100 = .ok (.istore_n 2, 1) := by decide +kernel
theorem dX2_tickOn_101 : decode cX2_tickOn 101 = .ok (.iload_n 2, 1) := by decide +kernel
theorem dX2_tickOn_102 : decode cX2_tickOn 102 = .ok (.aload_n 0, 1) := by decide +kernel
theorem dX2_tickOn_103 : decode cX2_tickOn 103 = .ok (.getfield 38, 3) := by decide +kernel
theorem dX2_tickOn_106 : decode cX2_tickOn 106 = .ok (.if_icmp .ge 55, 3) := by decide +kernel
theorem dX2_tickOn_109 : decode cX2_tickOn 109 = .ok (.aload_n 1, 1) := by decide +kernel
theorem dX2_tickOn_110 : decode cX2_tickOn 110 = .ok (.iload_n 2, 1) := by decide +kernel
theorem dX2_tickOn_111 : decode cX2_tickOn 111 = .ok (.invokestatic 62, 3) := by decide +kernel
theorem dX2_tickOn_114 : decode cX2_tickOn 114 = .ok (.ifCond .ne 41, 3) := by decide +kernel
theorem dX2_tickOn_117 : decode cX2_tickOn 117 = .ok (.aload_n 1, 1) := by decide +kernel
theorem dX2_tickOn_118 : decode cX2_tickOn 118 = .ok (.bipush 30, 2) := by decide +kernel
theorem dX2_tickOn_120 : decode cX2_tickOn 120 = .ok (.iload_n 2, 1) := by decide +kernel
theorem dX2_tickOn_121 : decode cX2_tickOn 121 = .ok (.iadd, 1) := by decide +kernel
theorem dX2_tickOn_122 : decode cX2_tickOn 122 = .ok (.aload_n 1, 1) := by decide +kernel
theorem dX2_tickOn_123 : decode cX2_tickOn 123 = .ok (.bipush 30, 2) := by decide +kernel
theorem dX2_tickOn_125 : decode cX2_tickOn 125 = .ok (.iload_n 2, 1) := by decide +kernel
theorem dX2_tickOn_126 : decode cX2_tickOn 126 = .ok (.iadd, 1) := by decide +kernel
theorem dX2_tickOn_127 : decode cX2_tickOn 127 = .ok (.iaload, 1) := by decide +kernel
theorem dX2_tickOn_128 : decode cX2_tickOn 128 = .ok (.iconst 5, 1) := by decide +kernel
theorem dX2_tickOn_129 : decode cX2_tickOn 129 = .ok (.if_icmp .ge 7, 3) := by decide +kernel
theorem dX2_tickOn_132 : decode cX2_tickOn 132 = .ok (.iconst 0, 1) := by decide +kernel
theorem dX2_tickOn_133 : decode cX2_tickOn 133 = .ok (.goto 11, 3) := by decide +kernel
theorem dX2_tickOn_136 : decode cX2_tickOn 136 = .ok (.aload_n 1, 1) := by decide +kernel
theorem dX2_tickOn_137 : decode cX2_tickOn 137 = .ok (.bipush 30, 2) := by decide +kernel
theorem dX2_tickOn_139 : decode cX2_tickOn 139 = .ok (.iload_n 2, 1) := by decide +kernel
theorem dX2_tickOn_140 : decode cX2_tickOn 140 = .ok (.iadd, 1) := by decide +kernel
theorem dX2_tickOn_141 : decode cX2_tickOn 141 = .ok (.iaload, 1) := by decide +kernel
theorem dX2_tickOn_142 : decode cX2_tickOn 142 = .ok (.iconst 5, 1) := by decide +kernel
theorem dX2_tickOn_143 : decode cX2_tickOn 143 = .ok (.isub, 1) := by decide +kernel
theorem dX2_tickOn_144 : decode cX2_tickOn 144 = .ok (.iastore, 1) := by decide +kernel
theorem dX2_tickOn_145 : decode cX2_tickOn 145 = .ok (.aload_n 1, 1) := by decide +kernel
theorem dX2_tickOn_146 : decode cX2_tickOn 146 = .ok (.bipush 42, 2) := by decide +kernel
theorem dX2_tickOn_148 : decode cX2_tickOn 148 = .ok (.iload_n 2, 1) := by decide +kernel
theorem dX2_tickOn_149 : decode cX2_tickOn 149 = .ok (.iadd, 1) := by decide +kernel
theorem dX2_tickOn_150 : decode cX2_tickOn 150 = .ok (.dup2, 1) := by decide +kernel
theorem dX2_tickOn_151 : decode cX2_tickOn 151 = .ok (.iaload, 1) := by decide +kernel
theorem dX2_tickOn_152 : decode cX2_tickOn 152 = .ok (.iconst 1, 1) := by decide +kernel
theorem dX2_tickOn_153 : decode cX2_tickOn 153 = .ok (.isub, 1) := by decide +kernel
theorem dX2_tickOn_154 : decode cX2_tickOn 154 = .ok (.iastore, 1) := by decide +kernel
theorem dX2_tickOn_155 : decode cX2_tickOn 155 = .ok (.iinc 2 1, 3) := by decide +kernel
theorem dX2_tickOn_158 : decode cX2_tickOn 158 = .ok (.goto (-57), 3) := by decide +kernel
theorem dX2_tickOn_161 : decode cX2_tickOn 161 = .ok (.aload_n 1, 1) := by decide +kernel
theorem dX2_tickOn_162 : decode cX2_tickOn 162 = .ok (.bipush 53, 2) := by decide +kernel
theorem dX2_tickOn_164 : decode cX2_tickOn 164 = .ok (.dup2, 1) := by decide +kernel
theorem dX2_tickOn_165 : decode cX2_tickOn 165 = .ok (.iaload, 1) := by decide +kernel
theorem dX2_tickOn_166 : decode cX2_tickOn 166 = .ok (.iconst 1, 1) := by decide +kernel
theorem dX2_tickOn_167 : decode cX2_tickOn 167 = .ok (.iadd, 1) := by decide +kernel
theorem dX2_tickOn_168 : decode cX2_tickOn 168 = .ok (.iastore, 1) := by decide +kernel
theorem dX2_tickOn_169 : decode cX2_tickOn 169 = .ok (.return_, 1) := by decide +kernel
set_option maxRecDepth 20000 in
theorem ggX2_boil_X2_washed : GoodIn wsX2_boil wsX2_washed := (by refine gI_c (gw 6 rfl rfl) ?_; refine gI_c (gw 1 rfl rfl) ?_; refine gI_c (gw 7 rfl rfl) ?_; refine gI_c (gw 8 rfl rfl) ?_; refine gI_c (gw 5 rfl rfl) ?_; refine gI_c (gw 9 rfl rfl) ?_; refine gI_c (gw 22 rfl rfl) ?_; refine gI_c (gw 23 rfl rfl) ?_; refine gI_c (gw 24 rfl rfl) ?_; refine gI_c (gw 25 rfl rfl) ?_; refine gI_c (gw 26 rfl rfl) ?_; refine gI_c (gw 27 rfl rfl) ?_; refine gI_c (gw 28 rfl rfl) ?_; refine gI_c (gw 29 rfl rfl) ?_; refine gI_c (gw 30 rfl rfl) ?_; refine gI_c (gw 31 rfl rfl) ?_; refine gI_c (gw 32 rfl rfl) ?_; refine gI_c (gw 33 rfl rfl) ?_; refine gI_c (gw 34 rfl rfl) ?_; refine gI_c (gw 35 rfl rfl) ?_; refine gI_c (gw 36 rfl rfl) ?_; exact gI_n)
set_option maxRecDepth 20000 in
theorem gX2_boil_X2_washed : GoodIn wsX2_boil (wsV RX2 66 RX2 yX2_washed wsX2_washed) := goodIn_app (goodIn_of _ (by decide +kernel)) ggX2_boil_X2_washed
set_option maxRecDepth 20000 in
theorem ggX2_boil_X2_works : GoodIn wsX2_boil wsX2_works := (by refine gI_c (gw 9 rfl rfl) ?_; exact gI_n)
set_option maxRecDepth 20000 in
theorem gX2_boil_X2_works : GoodIn wsX2_boil (va_wsS RX2 62 yX2_works wsX2_works) := goodIn_app (goodIn_of _ (by decide +kernel)) ggX2_boil_X2_works
set_option maxRecDepth 20000 in
theorem ggX2_boil_X2_thickness : GoodIn wsX2_boil wsX2_thickness := (by refine gI_c (gw 12 rfl rfl) ?_; refine gI_c (gw 13 rfl rfl) ?_; refine gI_c (gw 14 rfl rfl) ?_; refine gI_c (gw 5 rfl rfl) ?_; refine gI_c (gw 15 rfl rfl) ?_; exact gI_n)
set_option maxRecDepth 20000 in
theorem gX2_boil_X2_thickness : GoodIn wsX2_boil (va_wsS RX2 77 yX2_thickness wsX2_thickness) := goodIn_app (goodIn_of _ (by decide +kernel)) ggX2_boil_X2_thickness
set_option maxRecDepth 20000 in
theorem ggX2_boil_X2_power : GoodIn wsX2_boil wsX2_power := (by refine gI_c (gw 18 rfl rfl) ?_; exact gI_n)
set_option maxRecDepth 20000 in
theorem gX2_boil_X2_power : GoodIn wsX2_boil (va_wsS RX2 80 yX2_power wsX2_power) := goodIn_app (goodIn_of _ (by decide +kernel)) ggX2_boil_X2_power
set_option maxRecDepth 20000 in
theorem ggX2_boil_X2_less : GoodIn wsX2_boil wsX2_less := (by refine gI_c (gw 21 rfl rfl) ?_; exact gI_n)
set_option maxRecDepth 20000 in
theorem gX2_boil_X2_less : GoodIn wsX2_boil (va_wsS RX2 83 yX2_less wsX2_less) := goodIn_app (goodIn_of _ (by decide +kernel)) ggX2_boil_X2_less
theorem dX2_boil_0 : decode cX2_boil 0 = .ok (.aload_n 0, 1) := by decide +kernel
theorem dX2_boil_1 : decode cX2_boil 1 = .ok (.aload_n 1, 1) := by decide +kernel
theorem dX2_boil_2 : decode cX2_boil 2 = .ok (.invokevirtual 66, 3) := by decide +kernel
theorem dX2_boil_5 : decode cX2_boil 5 = .ok (.aload_n 0, 1) := by decide +kernel
theorem dX2_boil_6 : decode cX2_boil 6 = .ok (.getfield 38, 3) := by decide +kernel
theorem dX2_boil_9 : decode cX2_boil 9 = .ok (.if_icmp .ne 4, 3) := by decide +kernel
theorem dX2_boil_12 : decode cX2_boil 12 = .ok (.return_, 1) := by decide +kernel
theorem dX2_boil_13 : decode cX2_boil 13 = .ok (.aload_n 1, 1) := by decide +kernel
theorem dX2_boil_14 : decode cX2_boil 14 = .ok (.bipush 48, 2) := by decide +kernel
theorem dX2_boil_16 : decode cX2_boil 16 = .ok (.iaload, 1) := by decide +kernel
theorem dX2_boil_17 : decode cX2_boil 17 = .ok (.istore_n 2, 1) := by decide +kernel
theorem dX2_boil_18 : decode cX2_boil 18 = .ok (.aload_n 1, 1) := by decide +kernel
theorem dX2_boil_19 : decode cX2_boil 19 = .ok (.bipush 54, 2) := by decide +kernel
theorem dX2_boil_21 : decode cX2_boil 21 = .ok (.dup2, 1) := by decide +kernel
theorem dX2_boil_22 : decode cX2_boil 22 = .ok (.iaload, 1) := by decide +kernel
theorem dX2_boil_23 : decode cX2_boil 23 = .ok (.iload_n 2, 1) := by decide +kernel
theorem dX2_boil_24 : decode cX2_boil 24 = .ok (.iadd, 1) := by decide +kernel
theorem dX2_boil_25 : decode cX2_boil 25 = .ok (.iastore, 1) := by decide +kernel
theorem dX2_boil_26 : decode cX2_boil 26 = .ok (.iconst 0, 1) := by decide +kernel
theorem dX2_boil_27 : decode cX2_boil 27 = .ok (.istore_n 3, 1) := by decide +kernel
theorem dX2_boil_28 : decode cX2_boil 28 = .ok (.iload_n 3, 1) := by decide +kernel
theorem dX2_boil_29 : decode cX2_boil 29 = .ok (.aload_n 0, 1) := by decide +kernel
theorem dX2_boil_30 : decode cX2_boil 30 = .ok (.getfield 38, 3) := by decide +kernel
theorem dX2_boil_33 : decode cX2_boil 33 = .ok (.if_icmp .ge 192, 3) := by decide +kernel
theorem dX2_boil_36 : decode cX2_boil 36 = .ok (.aload_n 1, 1) := by decide +kernel
theorem dX2_boil_37 : decode cX2_boil 37 = .ok (.iload_n 3, 1) := by decide +kernel
theorem dX2_boil_38 : decode cX2_boil 38 = .ok (.invokestatic 62, 3) := by decide +kernel
theorem dX2_boil_41 : decode cX2_boil 41 = .ok (.ifCond .eq 178, 3) := by decide +kernel
theorem dX2_boil_44 : decode cX2_boil 44 = .ok (.aload_n 1, 1) := by decide +kernel
theorem dX2_boil_45 : decode cX2_boil 45 = .ok (.iload_n 3, 1) := by decide +kernel
theorem dX2_boil_46 : decode cX2_boil 46 = .ok (.invokestatic 77, 3) := by decide +kernel
theorem dX2_boil_49 : decode cX2_boil 49 = .ok (.istore 4, 2) := by decide +kernel
theorem dX2_boil_51 : decode cX2_boil 51 = .ok (.iload_n 2, 1) := by decide +kernel
theorem dX2_boil_52 : decode cX2_boil 52 = .ok (.aload_n 1, 1) := by decide +kernel
theorem dX2_boil_53 : decode cX2_boil 53 = .ok (.iload_n 3, 1) := by decide +kernel
theorem dX2_boil_54 : decode cX2_boil 54 = .ok (.invokestatic 80, 3) := by decide +kernel
theorem dX2_boil_57 : decode cX2_boil 57 = .ok (.invokestatic 83, 3) := by decide +kernel
theorem dX2_boil_60 : decode cX2_boil 60 = .ok (.istore 5, 2) := by decide +kernel
theorem dX2_boil_62 : decode cX2_boil 62 = .ok (.iload 5, 2) := by decide +kernel
theorem dX2_boil_64 : decode cX2_boil 64 = .ok (.iload 5, 2) := by decide +kernel
theorem dX2_boil_66 : decode cX2_boil 66 = .ok (.iload 4, 2) := by decide +kernel
theorem dX2_boil_68 : decode cX2_boil 68 = .ok (.imul, 1) := by decide +kernel
theorem dX2_boil_69 : decode cX2_boil 69 = .ok (.sipush 200, 3) := by decide +kernel
theorem dX2_boil_72 : decode cX2_boil 72 = .ok (.idiv, 1) := by decide +kernel
theorem dX2_boil_73 : decode cX2_boil 73 = .ok (.isub, 1) := by decide +kernel
theorem dX2_boil_74 : decode cX2_boil 74 = .ok (.aload_n 1, 1) := by decide +kernel
theorem dX2_boil_75 : decode cX2_boil 75 = .ok (.bipush 6, 2) := by decide +kernel
theorem dX2_boil_77 : decode cX2_boil 77 = .ok (.iload_n 3, 1) := by decide +kernel
theorem dX2_boil_78 : decode cX2_boil 78 = .ok (.iadd, 1) := by decide +kernel
theorem dX2_boil_79 : decode cX2_boil 79 = .ok (.iaload, 1) := by decide +kernel
theorem dX2_boil_80 : decode cX2_boil 80 = .ok (.invokestatic 83, 3) := by decide +kernel
theorem dX2_boil_83 : decode cX2_boil 83 = .ok (.istore 5, 2) := by decide +kernel
theorem dX2_boil_85 : decode cX2_boil 85 = .ok (.iload 5, 2) := by decide +kernel
theorem dX2_boil_87 : decode cX2_boil 87 = .ok (.aload_n 1, 1) := by decide +kernel
theorem dX2_boil_88 : decode cX2_boil 88 = .ok (.bipush 24, 2) := by decide +kernel
theorem dX2_boil_90 : decode cX2_boil 90 = .ok (.iload_n 3, 1) := by decide +kernel
theorem dX2_boil_91 : decode cX2_boil 91 = .ok (.iadd, 1) := by decide +kernel
theorem dX2_boil_92 : decode cX2_boil 92 = .ok (.iaload, 1) := by decide +kernel
theorem dX2_boil_93 : decode cX2_boil 93 = .ok (.imul, 1) := by decide +kernel
theorem dX2_boil_94 : decode cX2_boil 94 = .ok (.bipush 100, 2) := by decide +kernel
theorem dX2_boil_96 : decode cX2_boil 96 = .ok (.idiv, 1) := by decide +kernel
theorem dX2_boil_97 : decode cX2_boil 97 = .ok (.istore 6, 2) := by decide +kernel
theorem dX2_boil_99 : decode cX2_boil 99 = .ok (.aload_n 1, 1) := by decide +kernel
theorem dX2_boil_100 : decode cX2_boil 100 = .ok (.bipush 6, 2) := by decide +kernel
theorem dX2_boil_102 : decode cX2_boil 102 = .ok (.iload_n 3, 1) := by decide +kernel
theorem dX2_boil_103 : decode cX2_boil 103 = .ok (.iadd, 1) := by decide +kernel
theorem dX2_boil_104 : decode cX2_boil 104 = .ok (.dup2, 1) := by decide +kernel
theorem dX2_boil_105 : decode cX2_boil 105 = .ok (.iaload, 1) := by decide +kernel
theorem dX2_boil_106 : decode cX2_boil 106 = .ok (.iload 5, 2) := by decide +kernel
theorem dX2_boil_108 : decode cX2_boil 108 = .ok (.isub, 1) := by decide +kernel
theorem dX2_boil_109 : decode cX2_boil 109 = .ok (.iastore, 1) := by decide +kernel
theorem dX2_boil_110 : decode cX2_boil 110 = .ok (.aload_n 1, 1) := by decide +kernel
theorem dX2_boil_111 : decode cX2_boil 111 = .ok (.bipush 55, 2) := by decide +kernel
theorem dX2_boil_113 : decode cX2_boil 113 = .ok (.dup2, 1) := by decide +kernel
theorem dX2_boil_114 : decode cX2_boil 114 = .ok (.iaload, 1) := by decide +kernel
theorem dX2_boil_115 : decode cX2_boil 115 = .ok (.iload 5, 2) := by decide +kernel
theorem dX2_boil_117 : decode cX2_boil 117 = .ok (.iadd, 1) := by decide +kernel
theorem dX2_boil_118 : decode cX2_boil 118 = .ok (.iastore, 1) := by decide +kernel
theorem dX2_boil_119 : decode cX2_boil 119 = .ok (.aload_n 1, 1) := by decide +kernel
theorem dX2_boil_120 : decode cX2_boil 120 = .ok (.bipush 56, 2) := by decide +kernel
theorem dX2_boil_122 : decode cX2_boil 122 = .ok (.dup2, 1) := by decide +kernel
theorem dX2_boil_123 : decode cX2_boil 123 = .ok (.iaload, 1) := by decide +kernel
theorem dX2_boil_124 : decode cX2_boil 124 = .ok (.iload 6, 2) := by decide +kernel
theorem dX2_boil_126 : decode cX2_boil 126 = .ok (.iadd, 1) := by decide +kernel
theorem dX2_boil_127 : decode cX2_boil 127 = .ok (.iastore, 1) := by decide +kernel
theorem dX2_boil_128 : decode cX2_boil 128 = .ok (.aload_n 1, 1) := by decide +kernel
theorem dX2_boil_129 : decode cX2_boil 129 = .ok (.bipush 58, 2) := by decide +kernel
theorem dX2_boil_131 : decode cX2_boil 131 = .ok (.dup2, 1) := by decide +kernel
theorem dX2_boil_132 : decode cX2_boil 132 = .ok (.iaload, 1) := by decide +kernel
theorem dX2_boil_133 : decode cX2_boil 133 = .ok (.iload_n 2, 1) := by decide +kernel
theorem dX2_boil_134 : decode cX2_boil 134 = .ok (.iload 5, 2) := by decide +kernel
theorem dX2_boil_136 : decode cX2_boil 136 = .ok (.isub, 1) := by decide +kernel
theorem dX2_boil_137 : decode cX2_boil 137 = .ok (.iadd, 1) := by decide +kernel
theorem dX2_boil_138 : decode cX2_boil 138 = .ok (.iastore, 1) := by decide +kernel
theorem dX2_boil_139 : decode cX2_boil 139 = .ok (.aload_n 1, 1) := by decide +kernel
theorem dX2_boil_140 : decode cX2_boil 140 = .ok (.bipush 36, 2) := by decide +kernel
theorem dX2_boil_142 : decode cX2_boil 142 = .ok (.iload_n 3, 1) := by decide +kernel
theorem dX2_boil_143 : decode cX2_boil 143 = .ok (.iadd, 1) := by decide +kernel
theorem dX2_boil_144 : decode cX2_boil 144 = .ok (.dup2, 1) := by decide +kernel
theorem dX2_boil_145 : decode cX2_boil 145 = .ok (.iaload, 1) := by decide +kernel
theorem dX2_boil_146 : decode cX2_boil 146 = .ok (.iload 5, 2) := by decide +kernel
theorem dX2_boil_148 : decode cX2_boil 148 = .ok (.iload 4, 2) := by decide +kernel
theorem dX2_boil_150 : decode cX2_boil 150 = .ok (.imul, 1) := by decide +kernel
theorem dX2_boil_151 : decode cX2_boil 151 = .ok (.bipush 10, 2) := by decide +kernel
theorem dX2_boil_153 : decode cX2_boil 153 = .ok (.idiv, 1) := by decide +kernel
theorem dX2_boil_154 : decode cX2_boil 154 = .ok (.iadd, 1) := by decide +kernel
theorem dX2_boil_155 : decode cX2_boil 155 = .ok (.iastore, 1) := by decide +kernel
theorem dX2_boil_156 : decode cX2_boil 156 = .ok (.aload_n 1, 1) := by decide +kernel
theorem dX2_boil_157 : decode cX2_boil 157 = .ok (.bipush 36, 2) := by decide +kernel
theorem dX2_boil_159 : decode cX2_boil 159 = .ok (.iload_n 3, 1) := by decide +kernel
theorem dX2_boil_160 : decode cX2_boil 160 = .ok (.iadd, 1) := by decide +kernel
theorem dX2_boil_161 : decode cX2_boil 161 = .ok (.iaload, 1) := by decide +kernel
theorem dX2_boil_162 : decode cX2_boil 162 = .ok (.sipush 1000, 3) := by decide +kernel
theorem dX2_boil_165 : decode cX2_boil 165 = .ok (.if_icmp .lt 48, 3) := by decide +kernel
theorem dX2_boil_168 : decode cX2_boil 168 = .ok (.aload_n 1, 1) := by decide +kernel
theorem dX2_boil_169 : decode cX2_boil 169 = .ok (.bipush 36, 2) := by decide +kernel
theorem dX2_boil_171 : decode cX2_boil 171 = .ok (.iload_n 3, 1) := by decide +kernel
theorem dX2_boil_172 : decode cX2_boil 172 = .ok (.iadd, 1) := by decide +kernel
theorem dX2_boil_173 : decode cX2_boil 173 = .ok (.dup2, 1) := by decide +kernel
theorem dX2_boil_174 : decode cX2_boil 174 = .ok (.iaload, 1) := by decide +kernel
theorem dX2_boil_175 : decode cX2_boil 175 = .ok (.sipush 1000, 3) := by decide +kernel
theorem dX2_boil_178 : decode cX2_boil 178 = .ok (.isub, 1) := by decide +kernel
theorem dX2_boil_179 : decode cX2_boil 179 = .ok (.iastore, 1) := by decide +kernel
theorem dX2_boil_180 : decode cX2_boil 180 = .ok (.aload_n 1, 1) := by decide +kernel
theorem dX2_boil_181 : decode cX2_boil 181 = .ok (.bipush 30, 2) := by decide +kernel
theorem dX2_boil_183 : decode cX2_boil 183 = .ok (.iload_n 3, 1) := by decide +kernel
theorem dX2_boil_184 : decode cX2_boil 184 = .ok (.iadd, 1) := by decide +kernel
theorem dX2_boil_185 : decode cX2_boil 185 = .ok (.aload_n 1, 1) := by decide +kernel
theorem dX2_boil_186 : decode cX2_boil 186 = .ok (.bipush 30, 2) := by decide +kernel
theorem dX2_boil_188 : decode cX2_boil 188 = .ok (.iload_n 3, 1) := by decide +kernel
theorem dX2_boil_189 : decode cX2_boil 189 = .ok (.iadd, 1) := by decide +kernel
theorem dX2_boil_190 : decode cX2_boil 190 = .ok (.iaload, 1) := by decide +kernel
theorem dX2_boil_191 : decode cX2_boil 191 = .ok (.bipush 99, 2) := by decide +kernel
theorem dX2_boil_193 : decode cX2_boil 193 = .ok (.if_icmp .ge 14, 3) := by decide +kernel
theorem dX2_boil_196 : decode cX2_boil 196 = .ok (.aload_n 1, 1) := by decide +kernel
theorem dX2_boil_197 : decode cX2_boil 197 = .ok (.bipush 30, 2) := by decide +kernel
theorem dX2_boil_199 : decode cX2_boil 199 = .ok (.iload_n 3, 1) := by decide +kernel
theorem dX2_boil_200 : decode cX2_boil 200 = .ok (.iadd, 1) := by decide +kernel
theorem dX2_boil_201 : decode cX2_boil 201 = .ok (.iaload, 1) := by decide +kernel
theorem dX2_boil_202 : decode cX2_boil 202 = .ok (.iconst 1, 1) := by decide +kernel
theorem dX2_boil_203 : decode cX2_boil 203 = .ok (.iadd, 1) := by decide +kernel
theorem dX2_boil_204 : decode cX2_boil 204 = .ok (.goto 5, 3) := by decide +kernel
theorem dX2_boil_207 : decode cX2_boil 207 = .ok (.bipush 99, 2) := by decide +kernel
theorem dX2_boil_209 : decode cX2_boil 209 = .ok (.iastore, 1) := by decide +kernel
theorem dX2_boil_210 : decode cX2_boil 210 = .ok (.goto (-54), 3) := by decide +kernel
theorem dX2_boil_213 : decode cX2_boil 213 = .ok (.iload 5, 2) := by decide +kernel
theorem dX2_boil_215 : decode cX2_boil 215 = .ok (.iload 6, 2) := by decide +kernel
theorem dX2_boil_217 : decode cX2_boil 217 = .ok (.isub, 1) := by decide +kernel
theorem dX2_boil_218 : decode cX2_boil 218 = .ok (.istore_n 2, 1) := by decide +kernel
theorem dX2_boil_219 : decode cX2_boil 219 = .ok (.iinc 3 1, 3) := by decide +kernel
theorem dX2_boil_222 : decode cX2_boil 222 = .ok (.goto (-194), 3) := by decide +kernel
theorem dX2_boil_225 : decode cX2_boil 225 = .ok (.aload_n 1, 1) := by decide +kernel
theorem dX2_boil_226 : decode cX2_boil 226 = .ok (.bipush 57, 2) := by decide +kernel
theorem dX2_boil_228 : decode cX2_boil 228 = .ok (.dup2, 1) := by decide +kernel
theorem dX2_boil_229 : decode cX2_boil 229 = .ok (.iaload, 1) := by decide +kernel
theorem dX2_boil_230 : decode cX2_boil 230 = .ok (.iload_n 2, 1) := by decide +kernel
theorem dX2_boil_231 : decode cX2_boil 231 = .ok (.iadd, 1) := by decide +kernel
theorem dX2_boil_232 : decode cX2_boil 232 = .ok (.iastore, 1) := by decide +kernel
theorem dX2_boil_233 : decode cX2_boil 233 = .ok (.return_, 1) := by decide +kernel
set_option maxRecDepth 20000 in
theorem ggX2_go_X2_behind : GoodIn wsX2_go wsX2_behind := (by refine gI_c (gw 8 rfl rfl) ?_; refine gI_c (gw 1 rfl rfl) ?_; refine gI_c (gw 9 rfl rfl) ?_; refine gI_c (gw 10 rfl rfl) ?_; refine gI_c (gw 7 rfl rfl) ?_; refine gI_c (gw 11 rfl rfl) ?_; refine gI_c (gw 18 rfl rfl) ?_; refine gI_c (gw 19 rfl rfl) ?_; refine gI_c (gw 20 rfl rfl) ?_; refine gI_c (gw 21 rfl rfl) ?_; refine gI_c (gw 22 rfl rfl) ?_; refine gI_c (gw 23 rfl rfl) ?_; refine gI_c (gw 24 rfl rfl) ?_; refine gI_c (gw 25 rfl rfl) ?_; refine gI_c (gw 26 rfl rfl) ?_; refine gI_c (gw 27 rfl rfl) ?_; refine gI_c (gw 28 rfl rfl) ?_; refine gI_c (gw 29 rfl rfl) ?_; refine gI_c (gw 30 rfl rfl) ?_; refine gI_c (gw 31 rfl rfl) ?_; refine gI_c (gw 32 rfl rfl) ?_; exact gI_n)
set_option maxRecDepth 20000 in
theorem gX2_go_X2_behind : GoodIn wsX2_go (wsV RX2 87 RX2 yX2_behind wsX2_behind) := goodIn_app (goodIn_of _ (by decide +kernel)) ggX2_go_X2_behind
set_option maxRecDepth 20000 in
theorem ggX2_go_X2_amount : GoodIn wsX2_go wsX2_amount := (by refine gI_c (gw 14 rfl rfl) ?_; exact gI_n)
set_option maxRecDepth 20000 in
theorem gX2_go_X2_amount : GoodIn wsX2_go (va_wsS RX2 58 yX2_amount wsX2_amount) := goodIn_app (goodIn_of _ (by decide +kernel)) ggX2_go_X2_amount
set_option maxRecDepth 20000 in
theorem ggX2_go_X2_works : GoodIn wsX2_go wsX2_works := (by refine gI_c (gw 11 rfl rfl) ?_; exact gI_n)
set_option maxRecDepth 20000 in
theorem gX2_go_X2_works : GoodIn wsX2_go (va_wsS RX2 62 yX2_works wsX2_works) := goodIn_app (goodIn_of _ (by decide +kernel)) ggX2_go_X2_works
set_option maxRecDepth 20000 in
theorem ggX2_go_X2_less : GoodIn wsX2_go wsX2_less := (by refine gI_c (gw 17 rfl rfl) ?_; exact gI_n)
set_option maxRecDepth 20000 in
theorem gX2_go_X2_less : GoodIn wsX2_go (va_wsS RX2 83 yX2_less wsX2_less) := goodIn_app (goodIn_of _ (by decide +kernel)) ggX2_go_X2_less
theorem dX2_go_0 : decode cX2_go 0 = .ok (.aload_n 0, 1) := by decide +kernel
theorem dX2_go_1 : decode cX2_go 1 = .ok (.aload_n 1, 1) := by decide +kernel
theorem dX2_go_2 : decode cX2_go 2 = .ok (.iconst (-1), 1) := by decide +kernel
theorem dX2_go_3 : decode cX2_go 3 = .ok (.invokevirtual 87, 3) := by decide +kernel
theorem dX2_go_6 : decode cX2_go 6 = .ok (.istore_n 2, 1) := by decide +kernel
theorem dX2_go_7 : decode cX2_go 7 = .ok (.aload_n 1, 1) := by decide +kernel
theorem dX2_go_8 : decode cX2_go 8 = .ok (.bipush 49, 2) := by decide +kernel
theorem dX2_go_10 : decode cX2_go 10 = .ok (.iaload, 1) := by decide +kernel
theorem dX2_go_11 : decode cX2_go 11 = .ok (.aload_n 1, 1) := by decide +kernel
theorem dX2_go_12 : decode cX2_go 12 = .ok (.bipush 50, 2) := by decide +kernel
theorem dX2_go_14 : decode cX2_go 14 = .ok (.iaload, 1) := by decide +kernel
theorem dX2_go_15 : decode cX2_go 15 = .ok (.iadd, 1) := by decide +kernel
theorem dX2_go_16 : decode cX2_go 16 = .ok (.istore_n 3, 1) := by decide +kernel
theorem dX2_go_17 : decode cX2_go 17 = .ok (.iload_n 2, 1) := by decide +kernel
theorem dX2_go_18 : decode cX2_go 18 = .ok (.bipush (-9), 2) := by decide +kernel
theorem dX2_go_20 : decode cX2_go 20 = .ok (.if_icmp .eq 16, 3) := by decide +kernel
theorem dX2_go_23 : decode cX2_go 23 = .ok (.sipush 5000, 3) := by decide +kernel
theorem dX2_go_26 : decode cX2_go 26 = .ok (.aload_n 1, 1) := by decide +kernel
theorem dX2_go_27 : decode cX2_go 27 = .ok (.iload_n 2, 1) := by decide +kernel
theorem dX2_go_28 : decode cX2_go 28 = .ok (.invokestatic 58, 3) := by decide +kernel
theorem dX2_go_31 : decode cX2_go 31 = .ok (.isub, 1) := by decide +kernel
theorem dX2_go_32 : decode cX2_go 32 = .ok (.iload_n 3, 1) := by decide +kernel
theorem dX2_go_33 : decode cX2_go 33 = .ok (.if_icmp .ge 7, 3) := by decide +kernel
theorem dX2_go_36 : decode cX2_go 36 = .ok (.iconst 1, 1) := by decide +kernel
theorem dX2_go_37 : decode cX2_go 37 = .ok (.goto 4, 3) := by decide +kernel
theorem dX2_go_40 : decode cX2_go 40 = .ok (.iconst 0, 1) := by decide +kernel
theorem dX2_go_41 : decode cX2_go 41 = .ok (.istore 4, 2) := by decide +kernel
theorem dX2_go_43 : decode cX2_go 43 = .ok (.iconst 0, 1) := by decide +kernel
theorem dX2_go_44 : decode cX2_go 44 = .ok (.istore 5, 2) := by decide +kernel
theorem dX2_go_46 : decode cX2_go 46 = .ok (.iload 5, 2) := by decide +kernel
theorem dX2_go_48 : decode cX2_go 48 = .ok (.aload_n 0, 1) := by decide +kernel
theorem dX2_go_49 : decode cX2_go 49 = .ok (.getfield 38, 3) := by decide +kernel
theorem dX2_go_52 : decode cX2_go 52 = .ok (.if_icmp .ge 134, 3) := by decide +kernel
theorem dX2_go_55 : decode cX2_go 55 = .ok (.aload_n 0, 1) := by decide +kernel
theorem dX2_go_56 : decode cX2_go 56 = .ok (.getfield 32, 3) := by decide +kernel
theorem dX2_go_59 : decode cX2_go 59 = .ok (.iload 5, 2) := by decide +kernel
theorem dX2_go_61 : decode cX2_go 61 = .ok (.iconst 0, 1) := by decide +kernel
theorem dX2_go_62 : decode cX2_go 62 = .ok (.iastore, 1) := by decide +kernel
theorem dX2_go_63 : decode cX2_go 63 = .ok (.aload_n 0, 1) := by decide +kernel
theorem dX2_go_64 : decode cX2_go 64 = .ok (.getfield 35, 3) := by decide +kernel
theorem dX2_go_67 : decode cX2_go 67 = .ok (.iload 5, 2) := by decide +kernel
theorem dX2_go_69 : decode cX2_go 69 = .ok (.iconst 0, 1) := by decide +kernel
theorem dX2_go_70 : decode cX2_go 70 = .ok (.iastore, 1) := by decide +kernel
theorem dX2_go_71 : decode cX2_go 71 = .ok (.aload_n 1, 1) := by decide +kernel
theorem dX2_go_72 : decode cX2_go 72 = .ok (.iload 5, 2) := by decide +kernel
theorem dX2_go_74 : decode cX2_go 74 = .ok (.invokestatic 62, 3) := by decide +kernel
theorem dX2_go_77 : decode cX2_go 77 = .ok (.ifCond .eq 103, 3) := by decide +kernel
theorem dX2_go_80 : decode cX2_go 80 = .ok (.aload_n 1, 1) := by decide +kernel
theorem dX2_go_81 : decode cX2_go 81 = .ok (.iload 5, 2) := by decide +kernel
theorem dX2_go_83 : decode cX2_go 83 = .ok (.invokestatic 58, 3) := by decide +kernel
theorem dX2_go_86 : decode cX2_go 86 = .ok (.ifCond .le 94, 3) := by decide +kernel
theorem dX2_go_89 : decode cX2_go 89 = .ok (.aload_n 0, 1) := by decide +kernel
theorem dX2_go_90 : decode cX2_go 90 = .ok (.aload_n 1, 1) := by decide +kernel
theorem dX2_go_91 : decode cX2_go 91 = .ok (.iload 5, 2) := by decide +kernel
theorem dX2_go_93 : decode cX2_go 93 = .ok (.invokevirtual 87, 3) := by decide +kernel
theorem dX2_go_96 : decode cX2_go 96 = .ok (.istore 6, 2) := by decide +kernel
theorem dX2_go_98 : decode cX2_go 98 = .ok (.iload 6, 2) := by decide +kernel
theorem dX2_go_100 : decode cX2_go 100 = .ok (.bipush (-9), 2) := by decide +kernel
theorem dX2_go_102 : decode cX2_go 102 = .ok (.if_icmp .ne 9, 3) := by decide +kernel
theorem dX2_go_105 : decode cX2_go 105 = .ok (.sipush 5000, 3) := by decide +kernel
theorem dX2_go_108 : decode cX2_go 108 = .ok (.goto 13, 3) := by decide +kernel
theorem dX2_go_111 : decode cX2_go 111 = .ok (.sipush 5000, 3) := by decide +kernel
theorem dX2_go_114 : decode cX2_go 114 = .ok (.aload_n 1, 1) := by decide +kernel
theorem dX2_go_115 : decode cX2_go 115 = .ok (.iload 6, 2) := by decide +kernel
theorem dX2_go_117 : decode cX2_go 117 = .ok (.invokestatic 58, 3) := by decide +kernel
theorem dX2_go_120 : decode cX2_go 120 = .ok (.isub, 1) := by decide +kernel
theorem dX2_go_121 : decode cX2_go 121 = .ok (.istore 7, 2) := by decide +kernel
theorem dX2_go_123 : decode cX2_go 123 = .ok (.aload_n 0, 1) := by decide +kernel
theorem dX2_go_124 : decode cX2_go 124 = .ok (.getfield 32, 3) := by decide +kernel
theorem dX2_go_127 : decode cX2_go 127 = .ok (.iload 5, 2) := by decide +kernel
theorem dX2_go_129 : decode cX2_go 129 = .ok (.aload_n 1, 1) := by decide +kernel
theorem dX2_go_130 : decode cX2_go 130 = .ok (.bipush 18, 2) := by decide +kernel
theorem dX2_go_132 : decode cX2_go 132 = .ok (.iload 5, 2) := by decide +kernel
theorem dX2_go_134 : decode cX2_go 134 = .ok (.iadd, 1) := by decide +kernel
theorem dX2_go_135 : decode cX2_go 135 = .ok (.iaload, 1) := by decide +kernel
theorem dX2_go_136 : decode cX2_go 136 = .ok (.aload_n 1, 1) := by decide +kernel
theorem dX2_go_137 : decode cX2_go 137 = .ok (.iload 5, 2) := by decide +kernel
theorem dX2_go_139 : decode cX2_go 139 = .ok (.invokestatic 58, 3) := by decide +kernel
theorem dX2_go_142 : decode cX2_go 142 = .ok (.invokestatic 83, 3) := by decide +kernel
theorem dX2_go_145 : decode cX2_go 145 = .ok (.iload 7, 2) := by decide +kernel
theorem dX2_go_147 : decode cX2_go 147 = .ok (.invokestatic 83, 3) := by decide +kernel
theorem dX2_go_150 : decode cX2_go 150 = .ok (.iastore, 1) := by decide +kernel
theorem dX2_go_151 : decode cX2_go 151 = .ok (.aload_n 0, 1) := by decide +kernel
theorem dX2_go_152 : decode cX2_go 152 = .ok (.getfield 35, 3) := by decide +kernel
theorem dX2_go_155 : decode cX2_go 155 = .ok (.iload 5, 2) := by decide +kernel
theorem dX2_go_157 : decode cX2_go 157 = .ok (.aload_n 1, 1) := by decide +kernel
theorem dX2_go_158 : decode cX2_go 158 = .ok (.bipush 12, 2) := by decide +kernel
theorem dX2_go_160 : decode cX2_go 160 = .ok (.iload 5, 2) := by decide +kernel
theorem dX2_go_162 : decode cX2_go 162 = .ok (.iadd, 1) := by decide +kernel
theorem dX2_go_163 : decode cX2_go 163 = .ok (.iaload, 1) := by decide +kernel
theorem dX2_go_164 : decode cX2_go 164 = .ok (.aload_n 0, 1) := by decide +kernel
theorem dX2_go_165 : decode cX2_go 165 = .ok (.getfield 32, 3) := by decide +kernel
theorem dX2_go_168 : decode cX2_go 168 = .ok (.iload 5, 2) := by decide +kernel
theorem dX2_go_170 : decode cX2_go 170 = .ok (.iaload, 1) := by decide +kernel
theorem dX2_go_171 : decode cX2_go 171 = .ok (.imul, 1) := by decide +kernel
theorem dX2_go_172 : decode cX2_go 172 = .ok (.aload_n 1, 1) := by decide +kernel
theorem dX2_go_173 : decode cX2_go 173 = .ok (.iload 5, 2) := by decide +kernel
theorem dX2_go_175 : decode cX2_go 175 = .ok (.invokestatic 58, 3) := by decide +kernel
theorem dX2_go_178 : decode cX2_go 178 = .ok (.idiv, 1) := by decide +kernel
theorem dX2_go_179 : decode cX2_go 179 = .ok (.iastore, 1) := by decide +kernel
theorem dX2_go_180 : decode cX2_go 180 = .ok (.iinc 5 1, 3) := by decide +kernel
theorem dX2_go_183 : decode cX2_go 183 = .ok (.goto (-137), 3) := by decide +kernel
theorem dX2_go_186 : decode cX2_go 186 = .ok (.iconst 0, 1) := by decide +kernel
theorem dX2_go_187 : decode cX2_go 187 = .ok (.istore 5, 2) := by decide +kernel
theorem dX2_go_189 : decode cX2_go 189 = .ok (.iload 5, 2) := by decide +kernel
theorem dX2_go_191 : decode cX2_go 191 = .ok (.aload_n 0, 1) := by decide +kernel
theorem dX2_go_192 : decode cX2_go 192 = .ok (.getfield 38, 3) := by decide +kernel
theorem dX2_go_195 : decode cX2_go 195 = .ok (.if_icmp .ge 140, 3) := by decide +kernel
theorem dX2_go_198 : decode cX2_go 198 = .ok (.aload_n 1, 1) := by decide +kernel
theorem dX2_go_199 : decode cX2_go 199 = .ok (.iload 5, 2) := by decide +kernel
theorem dX2_go_201 : decode cX2_go 201 = .ok (.invokestatic 62, 3) := by decide +kernel
theorem dX2_go_204 : decode cX2_go 204 = .ok (.ifCond .eq 13, 3) := by decide +kernel
theorem dX2_go_207 : decode cX2_go 207 = .ok (.aload_n 0, 1) := by decide +kernel
theorem dX2_go_208 : decode cX2_go 208 = .ok (.aload_n 1, 1) := by decide +kernel
theorem dX2_go_209 : decode cX2_go 209 = .ok (.iload 5, 2) := by decide +kernel
theorem dX2_go_211 : decode cX2_go 211 = .ok (.invokevirtual 87, 3) := by decide +kernel
theorem dX2_go_214 : decode cX2_go 214 = .ok (.goto 5, 3) := by decide +kernel
theorem dX2_go_217 : decode cX2_go 217 = .ok (.bipush (-9), 2) := by decide +kernel
theorem dX2_go_219 : decode cX2_go 219 = .ok (.istore 6, 2) := by decide +kernel
theorem dX2_go_221 : decode cX2_go 221 = .ok (.aload_n 0, 1) := by decide +kernel
theorem dX2_go_222 : decode cX2_go 222 = .ok (.getfield 32, 3) := by decide +kernel
theorem dX2_go_225 : decode cX2_go 225 = .ok (.iload 5, 2) := by decide +kernel
theorem dX2_go_227 : decode cX2_go 227 = .ok (.iaload, 1) := by decide +kernel
theorem dX2_go_228 : decode cX2_go 228 = .ok (.aload_n 0, 1) := by decide +kernel
theorem dX2_go_229 : decode cX2_go 229 = .ok (.getfield 35, 3) := by decide +kernel
theorem dX2_go_232 : decode cX2_go 232 = .ok (.iload 5, 2) := by decide +kernel
theorem dX2_go_234 : decode cX2_go 234 = .ok (.iaload, 1) := by decide +kernel
theorem dX2_go_235 : decode cX2_go 235 = .ok (.isub, 1) := by decide +kernel
theorem dX2_go_236 : decode cX2_go 236 = .ok (.istore 7, 2) := by decide +kernel
theorem dX2_go_238 : decode cX2_go 238 = .ok (.aload_n 1, 1) := by decide +kernel
theorem dX2_go_239 : decode cX2_go 239 = .ok (.bipush 6, 2) := by decide +kernel
theorem dX2_go_241 : decode cX2_go 241 = .ok (.iload 5, 2) := by decide +kernel
theorem dX2_go_243 : decode cX2_go 243 = .ok (.iadd, 1) := by decide +kernel
theorem dX2_go_244 : decode cX2_go 244 = .ok (.dup2, 1) := by decide +kernel
theorem dX2_go_245 : decode cX2_go 245 = .ok (.iaload, 1) := by decide +kernel
theorem dX2_go_246 : decode cX2_go 246 = .ok (.iload 7, 2) := by decide +kernel
theorem dX2_go_248 : decode cX2_go 248 = .ok (.isub, 1) := by decide +kernel
theorem dX2_go_249 : decode cX2_go 249 = .ok (.iastore, 1) := by decide +kernel
theorem dX2_go_250 : decode cX2_go 250 = .ok (.aload_n 1, 1) := by decide +kernel
theorem dX2_go_251 : decode cX2_go 251 = .ok (.bipush 12, 2) := by decide +kernel
theorem dX2_go_253 : decode cX2_go 253 = .ok (.iload 5, 2) := by decide +kernel
theorem dX2_go_255 : decode cX2_go 255 = .ok (.iadd, 1) := by decide +kernel
theorem dX2_go_256 : decode cX2_go 256 = .ok (.dup2, 1) := by decide +kernel
theorem dX2_go_257 : decode cX2_go 257 = .ok (.iaload, 1) := by decide +kernel
theorem dX2_go_258 : decode cX2_go 258 = .ok (.aload_n 0, 1) := by decide +kernel
theorem dX2_go_259 : decode cX2_go 259 = .ok (.getfield 35, 3) := by decide +kernel
theorem dX2_go_262 : decode cX2_go 262 = .ok (.iload 5, 2) := by decide +kernel
theorem dX2_go_264 : decode cX2_go 264 = .ok (.iaload, 1) := by decide +kernel
theorem dX2_go_265 : decode cX2_go 265 = .ok (.isub, 1) := by decide +kernel
theorem dX2_go_266 : decode cX2_go 266 = .ok (.iastore, 1) := by decide +kernel
theorem dX2_go_267 : decode cX2_go 267 = .ok (.iload 6, 2) := by decide +kernel
theorem dX2_go_269 : decode cX2_go 269 = .ok (.bipush (-9), 2) := by decide +kernel
theorem dX2_go_271 : decode cX2_go 271 = .ok (.if_icmp .ne 29, 3) := by decide +kernel
theorem dX2_go_274 : decode cX2_go 274 = .ok (.aload_n 1, 1) := by decide +kernel
theorem dX2_go_275 : decode cX2_go 275 = .ok (.bipush 61, 2) := by decide +kernel
theorem dX2_go_277 : decode cX2_go 277 = .ok (.dup2, 1) := by decide +kernel
theorem dX2_go_278 : decode cX2_go 278 = .ok (.iaload, 1) := by decide +kernel
theorem dX2_go_279 : decode cX2_go 279 = .ok (.iload 7, 2) := by decide +kernel
theorem dX2_go_281 : decode cX2_go 281 = .ok (.iadd, 1) := by decide +kernel
theorem dX2_go_282 : decode cX2_go 282 = .ok (.iastore, 1) := by decide +kernel
theorem dX2_go_283 : decode cX2_go 283 = .ok (.aload_n 1, 1) := by decide +kernel
theorem dX2_go_284 : decode cX2_go 284 = .ok (.bipush 62, 2) := by decide +kernel
theorem dX2_go_286 : decode cX2_go 286 = .ok (.dup2, 1) := by decide +kernel
theorem dX2_go_287 : decode cX2_go 287 = .ok (.iaload, 1) := by decide +kernel
theorem dX2_go_288 : decode cX2_go 288 = .ok (.aload_n 0, 1) := by decide +kernel
theorem dX2_go_289 : decode cX2_go 289 = .ok (.getfield 35, 3) := by decide +kernel
theorem dX2_go_292 : decode cX2_go 292 = .ok (.iload 5, 2) := by decide +kernel
theorem dX2_go_294 : decode cX2_go 294 = .ok (.iaload, 1) := by decide +kernel
theorem dX2_go_295 : decode cX2_go 295 = .ok (.iadd, 1) := by decide +kernel
theorem dX2_go_296 : decode cX2_go 296 = .ok (.iastore, 1) := by decide +kernel
theorem dX2_go_297 : decode cX2_go 297 = .ok (.goto 32, 3) := by decide +kernel
theorem dX2_go_300 : decode cX2_go 300 = .ok (.aload_n 1, 1) := by decide +kernel
theorem dX2_go_301 : decode cX2_go 301 = .ok (.bipush 6, 2) := by decide +kernel
theorem dX2_go_303 : decode cX2_go 303 = .ok (.iload 6, 2) := by decide +kernel
theorem dX2_go_305 : decode cX2_go 305 = .ok (.iadd, 1) := by decide +kernel
theorem dX2_go_306 : decode cX2_go 306 = .ok (.dup2, 1) := by decide +kernel
theorem dX2_go_307 : decode cX2_go 307 = .ok (.iaload, 1) := by decide +kernel
theorem dX2_go_308 : decode cX2_go 308 = .ok (.iload 7, 2) := by decide +kernel
theorem dX2_go_310 : decode cX2_go 310 = .ok (.iadd, 1) := by decide +kernel
theorem dX2_go_311 : decode cX2_go 311 = .ok (.iastore, 1) := by decide +kernel
theorem dX2_go_312 : decode cX2_go 312 = .ok (.aload_n 1, 1) := by decide +kernel
theorem dX2_go_313 : decode cX2_go 313 = .ok (.bipush 12, 2) := by decide +kernel
theorem dX2_go_315 : decode cX2_go 315 = .ok (.iload 6, 2) := by decide +kernel
theorem dX2_go_317 : decode cX2_go 317 = .ok (.iadd, 1) := by decide +kernel
theorem dX2_go_318 : decode cX2_go 318 = .ok (.dup2, 1) := by decide +kernel
theorem dX2_go_319 : decode cX2_go 319 = .ok (.iaload, 1) := by decide +kernel
theorem dX2_go_320 : decode cX2_go 320 = .ok (.aload_n 0, 1) := by decide +kernel
theorem dX2_go_321 : decode cX2_go 321 = .ok (.getfield 35, 3) := by decide +kernel
theorem dX2_go_324 : decode cX2_go 324 = .ok (.iload 5, 2) := by decide +kernel
theorem dX2_go_326 : decode cX2_go 326 = .ok (.iaload, 1) := by decide +kernel
theorem dX2_go_327 : decode cX2_go 327 = .ok (.iadd, 1) := by decide +kernel
theorem dX2_go_328 : decode cX2_go 328 = .ok (.iastore, 1) := by decide +kernel
theorem dX2_go_329 : decode cX2_go 329 = .ok (.iinc 5 1, 3) := by decide +kernel
theorem dX2_go_332 : decode cX2_go 332 = .ok (.goto (-143), 3) := by decide +kernel
theorem dX2_go_335 : decode cX2_go 335 = .ok (.iload 4, 2) := by decide +kernel
theorem dX2_go_337 : decode cX2_go 337 = .ok (.ifCond .eq 14, 3) := by decide +kernel
theorem dX2_go_340 : decode cX2_go 340 = .ok (.aload_n 1, 1) := by decide +kernel
theorem dX2_go_341 : decode cX2_go 341 = .ok (.bipush 63, 2) := by decide +kernel
theorem dX2_go_343 : decode cX2_go 343 = .ok (.dup2, 1) := by decide +kernel
theorem dX2_go_344 : decode cX2_go 344 = .ok (.iaload, 1) := by decide +kernel
theorem dX2_go_345 : decode cX2_go 345 = .ok (.iconst 1, 1) := by decide +kernel
theorem dX2_go_346 : decode cX2_go 346 = .ok (.iadd, 1) := by decide +kernel
theorem dX2_go_347 : decode cX2_go 347 = .ok (.iastore, 1) := by decide +kernel
theorem dX2_go_348 : decode cX2_go 348 = .ok (.goto 51, 3) := by decide +kernel
theorem dX2_go_351 : decode cX2_go 351 = .ok (.aload_n 1, 1) := by decide +kernel
theorem dX2_go_352 : decode cX2_go 352 = .ok (.bipush 6, 2) := by decide +kernel
theorem dX2_go_354 : decode cX2_go 354 = .ok (.iload_n 2, 1) := by decide +kernel
theorem dX2_go_355 : decode cX2_go 355 = .ok (.iadd, 1) := by decide +kernel
theorem dX2_go_356 : decode cX2_go 356 = .ok (.dup2, 1) := by decide +kernel
theorem dX2_go_357 : decode cX2_go 357 = .ok (.iaload, 1) := by decide +kernel
theorem dX2_go_358 : decode cX2_go 358 = .ok (.aload_n 1, 1) := by decide +kernel
theorem dX2_go_359 : decode cX2_go 359 = .ok (.bipush 49, 2) := by decide +kernel
theorem dX2_go_361 : decode cX2_go 361 = .ok (.iaload, 1) := by decide +kernel
theorem dX2_go_362 : decode cX2_go 362 = .ok (.iadd, 1) := by decide +kernel
theorem dX2_go_363 : decode cX2_go 363 = .ok (.iastore, 1) := by decide +kernel
theorem dX2_go_364 : decode cX2_go 364 = .ok (.aload_n 1, 1) := by decide +kernel
theorem dX2_go_365 : decode cX2_go 365 = .ok (.bipush 12, 2) := by decide +kernel
theorem dX2_go_367 : decode cX2_go 367 = .ok (.iload_n 2, 1) := by decide +kernel
theorem dX2_go_368 : decode cX2_go 368 = .ok (.iadd, 1) := by decide +kernel
theorem dX2_go_369 : decode cX2_go 369 = .ok (.dup2, 1) := by decide +kernel
theorem dX2_go_370 : decode cX2_go 370 = .ok (.iaload, 1) := by decide +kernel
theorem dX2_go_371 : decode cX2_go 371 = .ok (.aload_n 1, 1) := by decide +kernel
theorem dX2_go_372 : decode cX2_go 372 = .ok (.bipush 50, 2) := by decide +kernel
theorem dX2_go_374 : decode cX2_go 374 = .ok (.iaload, 1) := by decide +kernel
theorem dX2_go_375 : decode cX2_go 375 = .ok (.iadd, 1) := by decide +kernel
theorem dX2_go_376 : decode cX2_go 376 = .ok (.iastore, 1) := by decide +kernel
theorem dX2_go_377 : decode cX2_go 377 = .ok (.aload_n 1, 1) := by decide +kernel
theorem dX2_go_378 : decode cX2_go 378 = .ok (.bipush 59, 2) := by decide +kernel
theorem dX2_go_380 : decode cX2_go 380 = .ok (.dup2, 1) := by decide +kernel
theorem dX2_go_381 : decode cX2_go 381 = .ok (.iaload, 1) := by decide +kernel
theorem dX2_go_382 : decode cX2_go 382 = .ok (.aload_n 1, 1) := by decide +kernel
theorem dX2_go_383 : decode cX2_go 383 = .ok (.bipush 49, 2) := by decide +kernel
theorem dX2_go_385 : decode cX2_go 385 = .ok (.iaload, 1) := by decide +kernel
theorem dX2_go_386 : decode cX2_go 386 = .ok (.iadd, 1) := by decide +kernel
theorem dX2_go_387 : decode cX2_go 387 = .ok (.iastore, 1) := by decide +kernel
theorem dX2_go_388 : decode cX2_go 388 = .ok (.aload_n 1, 1) := by decide +kernel
theorem dX2_go_389 : decode cX2_go 389 = .ok (.bipush 60, 2) := by decide +kernel
theorem dX2_go_391 : decode cX2_go 391 = .ok (.dup2, 1) := by decide +kernel
theorem dX2_go_392 : decode cX2_go 392 = .ok (.iaload, 1) := by decide +kernel
theorem dX2_go_393 : decode cX2_go 393 = .ok (.aload_n 1, 1) := by decide +kernel
theorem dX2_go_394 : decode cX2_go 394 = .ok (.bipush 50, 2) := by decide +kernel
theorem dX2_go_396 : decode cX2_go 396 = .ok (.iaload, 1) := by decide +kernel
theorem dX2_go_397 : decode cX2_go 397 = .ok (.iadd, 1) := by decide +kernel
theorem dX2_go_398 : decode cX2_go 398 = .ok (.iastore, 1) := by decide +kernel
theorem dX2_go_399 : decode cX2_go 399 = .ok (.return_, 1) := by decide +kernel
set_option maxRecDepth 20000 in
theorem ggX2_ticksOn_X2_tickOn : GoodIn wsX2_ticksOn wsX2_tickOn := (by refine gI_c (gw 5 rfl rfl) ?_; refine gI_c (gw 6 rfl rfl) ?_; refine gI_c (gw 7 rfl rfl) ?_; refine gI_c (gw 8 rfl rfl) ?_; refine gI_c (gw 9 rfl rfl) ?_; refine gI_c (gw 4 rfl rfl) ?_; refine gI_c (gw 10 rfl rfl) ?_; refine gI_c (gw 11 rfl rfl) ?_; refine gI_c (gw 12 rfl rfl) ?_; refine gI_c (gw 13 rfl rfl) ?_; refine gI_c (gw 14 rfl rfl) ?_; refine gI_c (gw 15 rfl rfl) ?_; refine gI_c (gw 16 rfl rfl) ?_; refine gI_c (gw 17 rfl rfl) ?_; refine gI_c (gw 18 rfl rfl) ?_; refine gI_c (gw 19 rfl rfl) ?_; refine gI_c (gw 20 rfl rfl) ?_; refine gI_c (gw 21 rfl rfl) ?_; refine gI_c (gw 22 rfl rfl) ?_; refine gI_c (gw 23 rfl rfl) ?_; refine gI_c (gw 24 rfl rfl) ?_; refine gI_c (gw 25 rfl rfl) ?_; refine gI_c (gw 26 rfl rfl) ?_; refine gI_c (gw 27 rfl rfl) ?_; refine gI_c (gw 28 rfl rfl) ?_; refine gI_c (gw 29 rfl rfl) ?_; refine gI_c (gw 30 rfl rfl) ?_; refine gI_c (gw 31 rfl rfl) ?_; refine gI_c (gw 32 rfl rfl) ?_; refine gI_c (gw 33 rfl rfl) ?_; refine gI_c (gw 34 rfl rfl) ?_; refine gI_c (gw 35 rfl rfl) ?_; refine gI_c (gw 36 rfl rfl) ?_; refine gI_c (gw 37 rfl rfl) ?_; refine gI_c (gw 38 rfl rfl) ?_; refine gI_c (gw 39 rfl rfl) ?_; refine gI_c (gw 40 rfl rfl) ?_; refine gI_c (gw 41 rfl rfl) ?_; refine gI_c (gw 42 rfl rfl) ?_; refine gI_c (gw 43 rfl rfl) ?_; refine gI_c (gw 44 rfl rfl) ?_; refine gI_c (gw 45 rfl rfl) ?_; refine gI_c (gw 46 rfl rfl) ?_; refine gI_c (gw 47 rfl rfl) ?_; refine gI_c (gw 48 rfl rfl) ?_; refine gI_c (gw 49 rfl rfl) ?_; refine gI_c (gw 50 rfl rfl) ?_; refine gI_c (gw 51 rfl rfl) ?_; refine gI_c (gw 52 rfl rfl) ?_; refine gI_c (gw 53 rfl rfl) ?_; refine gI_c (gw 54 rfl rfl) ?_; exact gI_n)
set_option maxRecDepth 20000 in
theorem gX2_ticksOn_X2_tickOn : GoodIn wsX2_ticksOn (wsV RX2 90 RX2 yX2_tickOn wsX2_tickOn) := goodIn_app (goodIn_of _ (by decide +kernel)) ggX2_ticksOn_X2_tickOn
theorem dX2_ticksOn_0 : decode cX2_ticksOn 0 = .ok (.aload_n 1, 1) := by decide +kernel
theorem dX2_ticksOn_1 : decode cX2_ticksOn 1 = .ok (.bipush 55, 2) := by decide +kernel
theorem dX2_ticksOn_3 : decode cX2_ticksOn 3 = .ok (.iaload, 1) := by decide +kernel
theorem dX2_ticksOn_4 : decode cX2_ticksOn 4 = .ok (.istore_n 3, 1) := by decide +kernel
theorem dX2_ticksOn_5 : decode cX2_ticksOn 5 = .ok (.iconst 0, 1) := by decide +kernel
theorem dX2_ticksOn_6 : decode cX2_ticksOn 6 = .ok (.istore 4, 2) := by decide +kernel
theorem dX2_ticksOn_8 : decode cX2_ticksOn 8 = .ok (.iload 4, 2) := by decide +kernel
theorem dX2_ticksOn_10 : decode cX2_ticksOn 10 = .ok (.iload_n 2, 1) := by decide +kernel
theorem dX2_ticksOn_11 : decode cX2_ticksOn 11 = .ok (.if_icmp .ge 14, 3) := by decide +kernel
theorem dX2_ticksOn_14 : decode cX2_ticksOn 14 = .ok (.aload_n 0, 1) := by decide +kernel
theorem dX2_ticksOn_15 : decode cX2_ticksOn 15 = .ok (.aload_n 1, 1) := by decide +kernel
theorem dX2_ticksOn_16 : decode cX2_ticksOn 16 = .ok (.invokevirtual 90, 3) := by decide +kernel
theorem dX2_ticksOn_19 : decode cX2_ticksOn 19 = .ok (.iinc 4 1, 3) := by decide +kernel
theorem dX2_ticksOn_22 : decode cX2_ticksOn 22 = .ok (.goto (-14), 3) := by decide +kernel
theorem dX2_ticksOn_25 : decode cX2_ticksOn 25 = .ok (.aload_n 1, 1) := by decide +kernel
theorem dX2_ticksOn_26 : decode cX2_ticksOn 26 = .ok (.bipush 55, 2) := by decide +kernel
theorem dX2_ticksOn_28 : decode cX2_ticksOn 28 = .ok (.iaload, 1) := by decide +kernel
theorem dX2_ticksOn_29 : decode cX2_ticksOn 29 = .ok (.iload_n 3, 1) := by decide +kernel
theorem dX2_ticksOn_30 : decode cX2_ticksOn 30 = .ok (.isub, 1) := by decide +kernel
theorem dX2_ticksOn_31 : decode cX2_ticksOn 31 = .ok (.ireturn, 1) := by decide +kernel
set_option maxRecDepth 20000 in
theorem ggX2_append_X2_in : GoodIn wsX2_append wsX2_in := (by refine gI_c (gw 7 rfl rfl) ?_; exact gI_n)
set_option maxRecDepth 20000 in
theorem gX2_append_X2_in : GoodIn wsX2_append (va_wsS RX2 54 yX2_in wsX2_in) := goodIn_app (goodIn_of _ (by decide +kernel)) ggX2_append_X2_in
set_option maxRecDepth 20000 in
theorem ggX2_append_X2_refused : GoodIn wsX2_append wsX2_refused := (by refine gI_c (gw 11 rfl rfl) ?_; refine gI_c (gw 12 rfl rfl) ?_; refine gI_c (gw 13 rfl rfl) ?_; refine gI_c (gw 14 rfl rfl) ?_; refine gI_c (gw 15 rfl rfl) ?_; refine gI_c (gw 16 rfl rfl) ?_; refine gI_c (gw 17 rfl rfl) ?_; refine gI_c (gw 18 rfl rfl) ?_; refine gI_c (gw 19 rfl rfl) ?_; refine gI_c (gw 20 rfl rfl) ?_; refine gI_c (gw 21 rfl rfl) ?_; refine gI_c (gw 22 rfl rfl) ?_; refine gI_c (gw 23 rfl rfl) ?_; refine gI_c (gw 24 rfl rfl) ?_; refine gI_c (gw 25 rfl rfl) ?_; refine gI_c (gw 26 rfl rfl) ?_; refine gI_c (gw 27 rfl rfl) ?_; exact gI_n)
set_option maxRecDepth 20000 in
theorem gX2_append_X2_refused : GoodIn wsX2_append (wsV RX2 98 RX2 yX2_refused wsX2_refused) := goodIn_app (goodIn_of _ (by decide +kernel)) ggX2_append_X2_refused
theorem dX2_append_0 : decode cX2_append 0 = .ok (.aload_n 0, 1) := by decide +kernel
theorem dX2_append_1 : decode cX2_append 1 = .ok (.iload_n 1, 1) := by decide +kernel
theorem dX2_append_2 : decode cX2_append 2 = .ok (.i2l, 1) := by decide +kernel
theorem dX2_append_3 : decode cX2_append 3 = .ok (.lconst 0, 1) := by decide +kernel
theorem dX2_append_4 : decode cX2_append 4 = .ok (.ldc2_w 93, 3) := by decide +kernel
theorem dX2_append_7 : decode cX2_append 7 = .ok (.invokestatic 54, 3) := by decide +kernel
theorem dX2_append_10 : decode cX2_append 10 = .ok (.ifCond .ne 7, 3) := by decide +kernel
theorem dX2_append_13 : decode cX2_append 13 = .ok (.iconst 1, 1) := by decide +kernel
theorem dX2_append_14 : decode cX2_append 14 = .ok (.goto 17, 3) := by decide +kernel
theorem dX2_append_17 : decode cX2_append 17 = .ok (.aload_n 0, 1) := by decide +kernel
theorem dX2_append_18 : decode cX2_append 18 = .ok (.getfield 95, 3) := by decide +kernel
theorem dX2_append_21 : decode cX2_append 21 = .ok (.bipush 120, 2) := by decide +kernel
theorem dX2_append_23 : decode cX2_append 23 = .ok (.if_icmp .ne 7, 3) := by decide +kernel
theorem dX2_append_26 : decode cX2_append 26 = .ok (.iconst 2, 1) := by decide +kernel
theorem dX2_append_27 : decode cX2_append 27 = .ok (.goto 4, 3) := by decide +kernel
theorem dX2_append_30 : decode cX2_append 30 = .ok (.iconst 0, 1) := by decide +kernel
theorem dX2_append_31 : decode cX2_append 31 = .ok (.invokevirtual 98, 3) := by decide +kernel
theorem dX2_append_34 : decode cX2_append 34 = .ok (.ifCond .eq 5, 3) := by decide +kernel
theorem dX2_append_37 : decode cX2_append 37 = .ok (.iconst 0, 1) := by decide +kernel
theorem dX2_append_38 : decode cX2_append 38 = .ok (.ireturn, 1) := by decide +kernel
theorem dX2_append_39 : decode cX2_append 39 = .ok (.aload_n 0, 1) := by decide +kernel
theorem dX2_append_40 : decode cX2_append 40 = .ok (.getfield 7, 3) := by decide +kernel
theorem dX2_append_43 : decode cX2_append 43 = .ok (.aload_n 0, 1) := by decide +kernel
theorem dX2_append_44 : decode cX2_append 44 = .ok (.getfield 95, 3) := by decide +kernel
theorem dX2_append_47 : decode cX2_append 47 = .ok (.iload_n 1, 1) := by decide +kernel
theorem dX2_append_48 : decode cX2_append 48 = .ok (.iastore, 1) := by decide +kernel
theorem dX2_append_49 : decode cX2_append 49 = .ok (.aload_n 0, 1) := by decide +kernel
theorem dX2_append_50 : decode cX2_append 50 = .ok (.dup, 1) := by decide +kernel
theorem dX2_append_51 : decode cX2_append 51 = .ok (.getfield 95, 3) := by decide +kernel
theorem dX2_append_54 : decode cX2_append 54 = .ok (.iconst 1, 1) := by decide +kernel
theorem dX2_append_55 : decode cX2_append 55 = .ok (.iadd, 1) := by decide +kernel
theorem dX2_append_56 : decode cX2_append 56 = .ok (.putfield 95, 3) := by decide +kernel
theorem dX2_append_59 : decode cX2_append 59 = .ok (.aload_n 0, 1) := by decide +kernel
theorem dX2_append_60 : decode cX2_append 60 = .ok (.getfield 95, 3) := by decide +kernel
theorem dX2_append_63 : decode cX2_append 63 = .ok (.ireturn, 1) := by decide +kernel
theorem dX2_clearText_0 : decode cX2_clearText 0 = .ok (.aload_n 0, 1) := by decide +kernel
theorem dX2_clearText_1 : decode cX2_clearText 1 = .ok (.iconst 0, 1) := by decide +kernel
theorem dX2_clearText_2 : decode cX2_clearText 2 = .ok (.putfield 42, 3) := by decide +kernel
theorem dX2_clearText_5 : decode cX2_clearText 5 = .ok (.aload_n 0, 1) := by decide +kernel
theorem dX2_clearText_6 : decode cX2_clearText 6 = .ok (.getfield 95, 3) := by decide +kernel
theorem dX2_clearText_9 : decode cX2_clearText 9 = .ok (.istore_n 1, 1) := by decide +kernel
theorem dX2_clearText_10 : decode cX2_clearText 10 = .ok (.aload_n 0, 1) := by decide +kernel
theorem dX2_clearText_11 : decode cX2_clearText 11 = .ok (.iconst 0, 1) := by decide +kernel
theorem dX2_clearText_12 : decode cX2_clearText 12 = .ok (.putfield 95, 3) := by decide +kernel
theorem dX2_clearText_15 : decode cX2_clearText 15 = .ok (.iload_n 1, 1) := by decide +kernel
theorem dX2_clearText_16 : decode cX2_clearText 16 = .ok (.ireturn, 1) := by decide +kernel
set_option maxRecDepth 20000 in
theorem ggX2_number_X2_tenTo : GoodIn wsX2_number wsX2_tenTo := (by refine gI_c (gw 8 rfl rfl) ?_; refine gI_c (gw 9 rfl rfl) ?_; exact gI_n)
set_option maxRecDepth 20000 in
theorem gX2_number_X2_tenTo : GoodIn wsX2_number (va_wsS RX2 105 yX2_tenTo wsX2_tenTo) := goodIn_app (goodIn_of _ (by decide +kernel)) ggX2_number_X2_tenTo
set_option maxRecDepth 20000 in
theorem ggX2_number_X2_in : GoodIn wsX2_number wsX2_in := (by refine gI_c (gw 12 rfl rfl) ?_; exact gI_n)
set_option maxRecDepth 20000 in
theorem gX2_number_X2_in : GoodIn wsX2_number (va_wsS RX2 54 yX2_in wsX2_in) := goodIn_app (goodIn_of _ (by decide +kernel)) ggX2_number_X2_in
theorem dX2_number_0 : decode cX2_number 0 = .ok (.iconst 0, 1) := by decide +kernel
theorem dX2_number_1 : decode cX2_number 1 = .ok (.istore 4, 2) := by decide +kernel
theorem dX2_number_3 : decode cX2_number 3 = .ok (.iconst 1, 1) := by decide +kernel
theorem dX2_number_4 : decode cX2_number 4 = .ok (.istore 5, 2) := by decide +kernel
theorem dX2_number_6 : decode cX2_number 6 = .ok (.iload 5, 2) := by decide +kernel
theorem dX2_number_8 : decode cX2_number 8 = .ok (.iload_n 1, 1) := by decide +kernel
theorem dX2_number_9 : decode cX2_number 9 = .ok (.if_icmp .gt 115, 3) := by decide +kernel
theorem dX2_number_12 : decode cX2_number 12 = .ok (.aload_n 0, 1) := by decide +kernel
theorem dX2_number_13 : decode cX2_number 13 = .ok (.getfield 102, 3) := by decide +kernel
theorem dX2_number_16 : decode cX2_number 16 = .ok (.aload_n 0, 1) := by decide +kernel
theorem dX2_number_17 : decode cX2_number 17 = .ok (.getfield 95, 3) := by decide +kernel
theorem dX2_number_20 : decode cX2_number 20 = .ok (.if_icmp .ge 18, 3) := by decide +kernel
theorem dX2_number_23 : decode cX2_number 23 = .ok (.aload_n 0, 1) := by decide +kernel
theorem dX2_number_24 : decode cX2_number 24 = .ok (.getfield 7, 3) := by decide +kernel
theorem dX2_number_27 : decode cX2_number 27 = .ok (.aload_n 0, 1) := by decide +kernel
theorem dX2_number_28 : decode cX2_number 28 = .ok (.getfield 102, 3) := by decide +kernel
theorem dX2_number_31 : decode cX2_number 31 = .ok (.iaload, 1) := by decide +kernel
theorem dX2_number_32 : decode cX2_number 32 = .ok (.bipush 48, 2) := by decide +kernel
theorem dX2_number_34 : decode cX2_number 34 = .ok (.isub, 1) := by decide +kernel
theorem dX2_number_35 : decode cX2_number 35 = .ok (.goto 5, 3) := by decide +kernel
theorem dX2_number_38 : decode cX2_number 38 = .ok (.bipush (-9), 2) := by decide +kernel
theorem dX2_number_40 : decode cX2_number 40 = .ok (.istore 6, 2) := by decide +kernel
theorem dX2_number_42 : decode cX2_number 42 = .ok (.iload_n 1, 1) := by decide +kernel
theorem dX2_number_43 : decode cX2_number 43 = .ok (.iload 5, 2) := by decide +kernel
theorem dX2_number_45 : decode cX2_number 45 = .ok (.isub, 1) := by decide +kernel
theorem dX2_number_46 : decode cX2_number 46 = .ok (.invokestatic 105, 3) := by decide +kernel
theorem dX2_number_49 : decode cX2_number 49 = .ok (.l2i, 1) := by decide +kernel
theorem dX2_number_50 : decode cX2_number 50 = .ok (.istore 7, 2) := by decide +kernel
theorem dX2_number_52 : decode cX2_number 52 = .ok (.bipush 10, 2) := by decide +kernel
theorem dX2_number_54 : decode cX2_number 54 = .ok (.iload 4, 2) := by decide +kernel
theorem dX2_number_56 : decode cX2_number 56 = .ok (.imul, 1) := by decide +kernel
theorem dX2_number_57 : decode cX2_number 57 = .ok (.iload 6, 2) := by decide +kernel
theorem dX2_number_59 : decode cX2_number 59 = .ok (.iadd, 1) := by decide +kernel
theorem dX2_number_60 : decode cX2_number 60 = .ok (.iload 7, 2) := by decide +kernel
theorem dX2_number_62 : decode cX2_number 62 = .ok (.imul, 1) := by decide +kernel
theorem dX2_number_63 : decode cX2_number 63 = .ok (.istore 8, 2) := by decide +kernel
theorem dX2_number_65 : decode cX2_number 65 = .ok (.iload 6, 2) := by decide +kernel
theorem dX2_number_67 : decode cX2_number 67 = .ok (.i2l, 1) := by decide +kernel
theorem dX2_number_68 : decode cX2_number 68 = .ok (.lconst 0, 1) := by decide +kernel
theorem dX2_number_69 : decode cX2_number 69 = .ok (.ldc2_w 109, 3) := by decide +kernel
theorem dX2_number_72 : decode cX2_number 72 = .ok (.invokestatic 54, 3) := by decide +kernel
theorem dX2_number_75 : decode cX2_number 75 = .ok (.ifCond .eq 20, 3) := by decide +kernel
theorem dX2_number_78 : decode cX2_number 78 = .ok (.iload 8, 2) := by decide +kernel
theorem dX2_number_80 : decode cX2_number 80 = .ok (.iload_n 3, 1) := by decide +kernel
theorem dX2_number_81 : decode cX2_number 81 = .ok (.if_icmp .gt 14, 3) := by decide +kernel
theorem dX2_number_84 : decode cX2_number 84 = .ok (.iload 8, 2) := by decide +kernel
theorem dX2_number_86 : decode cX2_number 86 = .ok (.iload 7, 2) := by decide +kernel
theorem dX2_number_88 : decode cX2_number 88 = .ok (.iadd, 1) := by decide +kernel
theorem dX2_number_89 : decode cX2_number 89 = .ok (.iconst 1, 1) := by decide +kernel
theorem dX2_number_90 : decode cX2_number 90 = .ok (.isub, 1) := by decide +kernel
theorem dX2_number_91 : decode cX2_number 91 = .ok (.iload_n 2, 1) := by decide +kernel
theorem dX2_number_92 : decode cX2_number 92 = .ok (.if_icmp .ge 6, 3) := by decide +kernel
theorem dX2_number_95 : decode cX2_number 95 = .ok (.bipush (-9), 2) := by decide +kernel
theorem dX2_number_97 : decode cX2_number 97 = .ok (.ireturn, 1) := by decide +kernel
theorem dX2_number_98 : decode cX2_number 98 = .ok (.bipush 10, 2) := by decide +kernel
theorem dX2_number_100 : decode cX2_number 100 = .ok (.iload 4, 2) := by decide +kernel
theorem dX2_number_102 : decode cX2_number 102 = .ok (.imul, 1) := by decide +kernel
theorem dX2_number_103 : decode cX2_number 103 = .ok (.iload 6, 2) := by decide +kernel
theorem dX2_number_105 : decode cX2_number 105 = .ok (.iadd, 1) := by decide +kernel
theorem dX2_number_106 : decode cX2_number 106 = .ok (.istore 4, 2) := by decide +kernel
theorem dX2_number_108 : decode cX2_number 108 = .ok (.aload_n 0, 1) := by decide +kernel
theorem dX2_number_109 : decode cX2_number 109 = .ok (.dup, 1) := by decide +kernel
theorem dX2_number_110 : decode cX2_number 110 = .ok (.getfield 102, 3) := by decide +kernel
theorem dX2_number_113 : decode cX2_number 113 = .ok (.iconst 1, 1) := by decide +kernel
theorem dX2_number_114 : decode cX2_number 114 = .ok (.iadd, 1) := by decide +kernel
theorem dX2_number_115 : decode cX2_number 115 = .ok (.putfield 102, 3) := by decide +kernel
theorem dX2_number_118 : decode cX2_number 118 = .ok (.iinc 5 1, 3) := by decide +kernel
theorem dX2_number_121 : decode cX2_number 121 = .ok (.goto (-115), 3) := by decide +kernel
theorem dX2_number_124 : decode cX2_number 124 = .ok (.iload 4, 2) := by decide +kernel
theorem dX2_number_126 : decode cX2_number 126 = .ok (.ireturn, 1) := by decide +kernel
set_option maxRecDepth 20000 in
theorem ggX2_readEffect_X2_number : GoodIn wsX2_readEffect wsX2_number := (by refine gI_c (gw 6 rfl rfl) ?_; refine gI_c (gw 7 rfl rfl) ?_; refine gI_c (gw 8 rfl rfl) ?_; refine gI_c (gw 9 rfl rfl) ?_; refine gI_c (gw 10 rfl rfl) ?_; refine gI_c (gw 11 rfl rfl) ?_; refine gI_c (gw 12 rfl rfl) ?_; refine gI_c (gw 5 rfl rfl) ?_; refine gI_c (gw 13 rfl rfl) ?_; refine gI_c (gw 14 rfl rfl) ?_; refine gI_c (gw 15 rfl rfl) ?_; refine gI_c (gw 16 rfl rfl) ?_; refine gI_c (gw 17 rfl rfl) ?_; refine gI_c (gw 18 rfl rfl) ?_; refine gI_c (gw 19 rfl rfl) ?_; refine gI_c (gw 20 rfl rfl) ?_; refine gI_c (gw 21 rfl rfl) ?_; refine gI_c (gw 22 rfl rfl) ?_; refine gI_c (gw 23 rfl rfl) ?_; refine gI_c (gw 24 rfl rfl) ?_; refine gI_c (gw 25 rfl rfl) ?_; refine gI_c (gw 26 rfl rfl) ?_; refine gI_c (gw 27 rfl rfl) ?_; refine gI_c (gw 28 rfl rfl) ?_; refine gI_c (gw 29 rfl rfl) ?_; refine gI_c (gw 30 rfl rfl) ?_; refine gI_c (gw 31 rfl rfl) ?_; refine gI_c (gw 32 rfl rfl) ?_; exact gI_n)
set_option maxRecDepth 20000 in
theorem gX2_readEffect_X2_number : GoodIn wsX2_readEffect (wsV RX2 111 RX2 yX2_number wsX2_number) := goodIn_app (goodIn_of _ (by decide +kernel)) ggX2_readEffect_X2_number
theorem dX2_readEffect_0 : decode cX2_readEffect 0 = .ok (.iconst 0, 1) := by decide +kernel
theorem dX2_readEffect_1 : decode cX2_readEffect 1 = .ok (.istore_n 2, 1) := by decide +kernel
theorem dX2_readEffect_2 : decode cX2_readEffect 2 = .ok (.iconst 0, 1) := by decide +kernel
theorem dX2_readEffect_3 : decode cX2_readEffect 3 = .ok (.istore_n 3, 1) := by decide +kernel
theorem dX2_readEffect_4 : decode cX2_readEffect 4 = .ok (.iload_n 3, 1) := by decide +kernel
theorem dX2_readEffect_5 : decode cX2_readEffect 5 = .ok (.bipush 6, 2) := by decide +kernel
theorem dX2_readEffect_7 : decode cX2_readEffect 7 = .ok (.if_icmp .ge 112, 3) := by decide +kernel
theorem dX2_readEffect_10 : decode cX2_readEffect 10 = .ok (.iload_n 2, 1) := by decide +kernel
theorem dX2_readEffect_11 : decode cX2_readEffect 11 = .ok (.bipush (-9), 2) := by decide +kernel
theorem dX2_readEffect_13 : decode cX2_readEffect 13 = .ok (.if_icmp .eq 106, 3) := by decide +kernel
theorem dX2_readEffect_16 : decode cX2_readEffect 16 = .ok (.iload_n 3, 1) := by decide +kernel
theorem dX2_readEffect_17 : decode cX2_readEffect 17 = .ok (.ifCond .ne 14, 3) := by decide +kernel
theorem dX2_readEffect_20 : decode cX2_readEffect 20 = .ok (.aload_n 0, 1) := by decide +kernel
theorem dX2_readEffect_21 : decode cX2_readEffect 21 = .ok (.iconst 1, 1) := by decide +kernel
theorem dX2_readEffect_22 : decode cX2_readEffect 22 = .ok (.iconst 1, 1) := by decide +kernel
theorem dX2_readEffect_23 : decode cX2_readEffect 23 = .ok (.bipush 9, 2) := by decide +kernel
theorem dX2_readEffect_25 : decode cX2_readEffect 25 = .ok (.invokevirtual 111, 3) := by decide +kernel
theorem dX2_readEffect_28 : decode cX2_readEffect 28 = .ok (.goto 72, 3) := by decide +kernel
theorem dX2_readEffect_31 : decode cX2_readEffect 31 = .ok (.iload_n 3, 1) := by decide +kernel
theorem dX2_readEffect_32 : decode cX2_readEffect 32 = .ok (.iconst 1, 1) := by decide +kernel
theorem dX2_readEffect_33 : decode cX2_readEffect 33 = .ok (.if_icmp .ne 15, 3) := by decide +kernel
theorem dX2_readEffect_36 : decode cX2_readEffect 36 = .ok (.aload_n 0, 1) := by decide +kernel
theorem dX2_readEffect_37 : decode cX2_readEffect 37 = .ok (.iconst 4, 1) := by decide +kernel
theorem dX2_readEffect_38 : decode cX2_readEffect 38 = .ok (.iconst 0, 1) := by decide +kernel
theorem dX2_readEffect_39 : decode cX2_readEffect 39 = .ok (.sipush 4000, 3) := by decide +kernel
theorem dX2_readEffect_42 : decode cX2_readEffect 42 = .ok (.invokevirtual 111, 3) := by decide +kernel
theorem dX2_readEffect_45 : decode cX2_readEffect 45 = .ok (.goto 55, 3) := by decide +kernel
theorem dX2_readEffect_48 : decode cX2_readEffect 48 = .ok (.iload_n 3, 1) := by decide +kernel
theorem dX2_readEffect_49 : decode cX2_readEffect 49 = .ok (.iconst 2, 1) := by decide +kernel
theorem dX2_readEffect_50 : decode cX2_readEffect 50 = .ok (.if_icmp .ne 15, 3) := by decide +kernel
theorem dX2_readEffect_53 : decode cX2_readEffect 53 = .ok (.aload_n 0, 1) := by decide +kernel
theorem dX2_readEffect_54 : decode cX2_readEffect 54 = .ok (.iconst 4, 1) := by decide +kernel
theorem dX2_readEffect_55 : decode cX2_readEffect 55 = .ok (.iconst 0, 1) := by decide +kernel
theorem dX2_readEffect_56 : decode cX2_readEffect 56 = .ok (.sipush 1000, 3) := by decide +kernel
theorem dX2_readEffect_59 : decode cX2_readEffect 59 = .ok (.invokevirtual 111, 3) := by decide +kernel
theorem dX2_readEffect_62 : decode cX2_readEffect 62 = .ok (.goto 38, 3) := by decide +kernel
theorem dX2_readEffect_65 : decode cX2_readEffect 65 = .ok (.iload_n 3, 1) := by decide +kernel
theorem dX2_readEffect_66 : decode cX2_readEffect 66 = .ok (.iconst 3, 1) := by decide +kernel
theorem dX2_readEffect_67 : decode cX2_readEffect 67 = .ok (.if_icmp .ne 15, 3) := by decide +kernel
theorem dX2_readEffect_70 : decode cX2_readEffect 70 = .ok (.aload_n 0, 1) := by decide +kernel
theorem dX2_readEffect_71 : decode cX2_readEffect 71 = .ok (.iconst 3, 1) := by decide +kernel
theorem dX2_readEffect_72 : decode cX2_readEffect 72 = .ok (.iconst 0, 1) := by decide +kernel
theorem dX2_readEffect_73 : decode cX2_readEffect 73 = .ok (.sipush 999, 3) := by decide +kernel
theorem dX2_readEffect_76 : decode cX2_readEffect 76 = .ok (.invokevirtual 111, 3) := by decide +kernel
theorem dX2_readEffect_79 : decode cX2_readEffect 79 = .ok (.goto 21, 3) := by decide +kernel
theorem dX2_readEffect_82 : decode cX2_readEffect 82 = .ok (.aload_n 0, 1) := by decide +kernel
theorem dX2_readEffect_83 : decode cX2_readEffect 83 = .ok (.iconst 2, 1) := by decide +kernel
theorem dX2_readEffect_84 : decode cX2_readEffect 84 = .ok (.iconst 0, 1) := by decide +kernel
theorem dX2_readEffect_85 : decode cX2_readEffect 85 = .ok (.iload_n 3, 1) := by decide +kernel
theorem dX2_readEffect_86 : decode cX2_readEffect 86 = .ok (.iconst 4, 1) := by decide +kernel
theorem dX2_readEffect_87 : decode cX2_readEffect 87 = .ok (.if_icmp .ne 8, 3) := by decide +kernel
theorem dX2_readEffect_90 : decode cX2_readEffect 90 = .ok (.bipush 90, 2) := by decide +kernel
theorem dX2_readEffect_92 : decode cX2_readEffect 92 = .ok (.goto 5, 3) := by decide +kernel
theorem dX2_readEffect_95 : decode cX2_readEffect 95 = .ok (.bipush 99, 2) := by decide +kernel
theorem dX2_readEffect_97 : decode cX2_readEffect 97 = .ok (.invokevirtual 111, 3) := by decide +kernel
theorem dX2_readEffect_100 : decode cX2_readEffect 100 = .ok (.istore_n 2, 1) := by decide +kernel
theorem dX2_readEffect_101 : decode cX2_readEffect 101 = .ok (.aload_n 0, 1) := by decide +kernel
theorem dX2_readEffect_102 : decode cX2_readEffect 102 = .ok (.getfield 13, 3) := by decide +kernel
theorem dX2_readEffect_105 : decode cX2_readEffect 105 = .ok (.bipush 6, 2) := by decide +kernel
theorem dX2_readEffect_107 : decode cX2_readEffect 107 = .ok (.iload_n 3, 1) := by decide +kernel
theorem dX2_readEffect_108 : decode cX2_readEffect 108 = .ok (.imul, 1) := by decide +kernel
theorem dX2_readEffect_109 : decode cX2_readEffect 109 = .ok (.iload_n 1, 1) := by decide +kernel
theorem dX2_readEffect_110 : decode cX2_readEffect 110 = .ok (.iadd, 1) := by decide +kernel
theorem dX2_readEffect_111 : decode cX2_readEffect 111 = .ok (.iload_n 2, 1) := by decide +kernel
theorem dX2_readEffect_112 : decode cX2_readEffect 112 = .ok (.iastore, 1) := by decide +kernel
theorem dX2_readEffect_113 : decode cX2_readEffect 113 = .ok (.iinc 3 1, 3) := by decide +kernel
theorem dX2_readEffect_116 : decode cX2_readEffect 116 = .ok (.goto (-112), 3) := by decide +kernel
theorem dX2_readEffect_119 : decode cX2_readEffect 119 = .ok (.iload_n 2, 1) := by decide +kernel
theorem dX2_readEffect_120 : decode cX2_readEffect 120 = .ok (.ireturn, 1) := by decide +kernel
set_option maxRecDepth 20000 in
theorem ggX2_readText_X2_number : GoodIn wsX2_readText wsX2_number := (by refine gI_c (gw 10 rfl rfl) ?_; refine gI_c (gw 2 rfl rfl) ?_; refine gI_c (gw 3 rfl rfl) ?_; refine gI_c (gw 4 rfl rfl) ?_; refine gI_c (gw 11 rfl rfl) ?_; refine gI_c (gw 12 rfl rfl) ?_; refine gI_c (gw 13 rfl rfl) ?_; refine gI_c (gw 9 rfl rfl) ?_; refine gI_c (gw 14 rfl rfl) ?_; refine gI_c (gw 15 rfl rfl) ?_; refine gI_c (gw 16 rfl rfl) ?_; refine gI_c (gw 17 rfl rfl) ?_; refine gI_c (gw 18 rfl rfl) ?_; refine gI_c (gw 23 rfl rfl) ?_; refine gI_c (gw 24 rfl rfl) ?_; refine gI_c (gw 25 rfl rfl) ?_; refine gI_c (gw 26 rfl rfl) ?_; refine gI_c (gw 27 rfl rfl) ?_; refine gI_c (gw 28 rfl rfl) ?_; refine gI_c (gw 29 rfl rfl) ?_; refine gI_c (gw 30 rfl rfl) ?_; refine gI_c (gw 31 rfl rfl) ?_; refine gI_c (gw 32 rfl rfl) ?_; refine gI_c (gw 33 rfl rfl) ?_; refine gI_c (gw 34 rfl rfl) ?_; refine gI_c (gw 35 rfl rfl) ?_; refine gI_c (gw 36 rfl rfl) ?_; refine gI_c (gw 37 rfl rfl) ?_; exact gI_n)
set_option maxRecDepth 20000 in
theorem gX2_readText_X2_number : GoodIn wsX2_readText (wsV RX2 111 RX2 yX2_number wsX2_number) := goodIn_app (goodIn_of _ (by decide +kernel)) ggX2_readText_X2_number
set_option maxRecDepth 20000 in
theorem ggX2_readText_X2_readEffect : GoodIn wsX2_readText wsX2_readEffect := (by refine gI_c (gw 22 rfl rfl) ?_; refine gI_c (gw 1 rfl rfl) ?_; refine gI_c (gw 6 rfl rfl) ?_; refine gI_c (gw 7 rfl rfl) ?_; refine gI_c (gw 8 rfl rfl) ?_; refine gI_c (gw 9 rfl rfl) ?_; refine gI_c (gw 10 rfl rfl) ?_; refine gI_c (gw 2 rfl rfl) ?_; refine gI_c (gw 3 rfl rfl) ?_; refine gI_c (gw 4 rfl rfl) ?_; refine gI_c (gw 11 rfl rfl) ?_; refine gI_c (gw 12 rfl rfl) ?_; refine gI_c (gw 13 rfl rfl) ?_; refine gI_c (gw 14 rfl rfl) ?_; refine gI_c (gw 15 rfl rfl) ?_; refine gI_c (gw 16 rfl rfl) ?_; refine gI_c (gw 17 rfl rfl) ?_; refine gI_c (gw 18 rfl rfl) ?_; refine gI_c (gw 23 rfl rfl) ?_; refine gI_c (gw 24 rfl rfl) ?_; refine gI_c (gw 25 rfl rfl) ?_; refine gI_c (gw 26 rfl rfl) ?_; refine gI_c (gw 27 rfl rfl) ?_; refine gI_c (gw 28 rfl rfl) ?_; refine gI_c (gw 29 rfl rfl) ?_; refine gI_c (gw 30 rfl rfl) ?_; refine gI_c (gw 31 rfl rfl) ?_; refine gI_c (gw 32 rfl rfl) ?_; refine gI_c (gw 33 rfl rfl) ?_; refine gI_c (gw 34 rfl rfl) ?_; refine gI_c (gw 35 rfl rfl) ?_; refine gI_c (gw 36 rfl rfl) ?_; refine gI_c (gw 37 rfl rfl) ?_; exact gI_n)
set_option maxRecDepth 20000 in
theorem gX2_readText_X2_readEffect : GoodIn wsX2_readText (wsV RX2 118 RX2 yX2_readEffect wsX2_readEffect) := goodIn_app (goodIn_of _ (by decide +kernel)) ggX2_readText_X2_readEffect
theorem dX2_readText_0 : decode cX2_readText 0 = .ok (.iconst 0, 1) := by decide +kernel
theorem dX2_readText_1 : decode cX2_readText 1 = .ok (.istore_n 1, 1) := by decide +kernel
theorem dX2_readText_2 : decode cX2_readText 2 = .ok (.iload_n 1, 1) := by decide +kernel
theorem dX2_readText_3 : decode cX2_readText 3 = .ok (.bipush 64, 2) := by decide +kernel
theorem dX2_readText_5 : decode cX2_readText 5 = .ok (.if_icmp .ge 16, 3) := by decide +kernel
theorem dX2_readText_8 : decode cX2_readText 8 = .ok (.aload_n 0, 1) := by decide +kernel
theorem dX2_readText_9 : decode cX2_readText 9 = .ok (.getfield 13, 3) := by decide +kernel
theorem dX2_readText_12 : decode cX2_readText 12 = .ok (.iload_n 1, 1) := by decide +kernel
theorem dX2_readText_13 : decode cX2_readText 13 = .ok (.iconst 0, 1) := by decide +kernel
theorem dX2_readText_14 : decode cX2_readText 14 = .ok (.iastore, 1) := by decide +kernel
theorem dX2_readText_15 : decode cX2_readText 15 = .ok (.iinc 1 1, 3) := by decide +kernel
theorem dX2_readText_18 : decode cX2_readText 18 = .ok (.goto (-16), 3) := by decide +kernel
theorem dX2_readText_21 : decode cX2_readText 21 = .ok (.aload_n 0, 1) := by decide +kernel
theorem dX2_readText_22 : decode cX2_readText 22 = .ok (.iconst 0, 1) := by decide +kernel
theorem dX2_readText_23 : decode cX2_readText 23 = .ok (.putfield 102, 3) := by decide +kernel
theorem dX2_readText_26 : decode cX2_readText 26 = .ok (.aload_n 0, 1) := by decide +kernel
theorem dX2_readText_27 : decode cX2_readText 27 = .ok (.getfield 95, 3) := by decide +kernel
theorem dX2_readText_30 : decode cX2_readText 30 = .ok (.ifCond .eq 14, 3) := by decide +kernel
theorem dX2_readText_33 : decode cX2_readText 33 = .ok (.aload_n 0, 1) := by decide +kernel
theorem dX2_readText_34 : decode cX2_readText 34 = .ok (.getfield 7, 3) := by decide +kernel
theorem dX2_readText_37 : decode cX2_readText 37 = .ok (.iconst 0, 1) := by decide +kernel
theorem dX2_readText_38 : decode cX2_readText 38 = .ok (.iaload, 1) := by decide +kernel
theorem dX2_readText_39 : decode cX2_readText 39 = .ok (.bipush 69, 2) := by decide +kernel
theorem dX2_readText_41 : decode cX2_readText 41 = .ok (.if_icmp .eq 5, 3) := by decide +kernel
theorem dX2_readText_44 : decode cX2_readText 44 = .ok (.iconst 0, 1) := by decide +kernel
theorem dX2_readText_45 : decode cX2_readText 45 = .ok (.ireturn, 1) := by decide +kernel
theorem dX2_readText_46 : decode cX2_readText 46 = .ok (.aload_n 0, 1) := by decide +kernel
theorem dX2_readText_47 : decode cX2_readText 47 = .ok (.iconst 1, 1) := by decide +kernel
theorem dX2_readText_48 : decode cX2_readText 48 = .ok (.putfield 102, 3) := by decide +kernel
theorem dX2_readText_51 : decode cX2_readText 51 = .ok (.aload_n 0, 1) := by decide +kernel
theorem dX2_readText_52 : decode cX2_readText 52 = .ok (.aload_n 0, 1) := by decide +kernel
theorem dX2_readText_53 : decode cX2_readText 53 = .ok (.iconst 1, 1) := by decide +kernel
theorem dX2_readText_54 : decode cX2_readText 54 = .ok (.iconst 2, 1) := by decide +kernel
theorem dX2_readText_55 : decode cX2_readText 55 = .ok (.bipush 6, 2) := by decide +kernel
theorem dX2_readText_57 : decode cX2_readText 57 = .ok (.invokevirtual 111, 3) := by decide +kernel
theorem dX2_readText_60 : decode cX2_readText 60 = .ok (.putfield 115, 3) := by decide +kernel
theorem dX2_readText_63 : decode cX2_readText 63 = .ok (.aload_n 0, 1) := by decide +kernel
theorem dX2_readText_64 : decode cX2_readText 64 = .ok (.getfield 115, 3) := by decide +kernel
theorem dX2_readText_67 : decode cX2_readText 67 = .ok (.istore_n 1, 1) := by decide +kernel
theorem dX2_readText_68 : decode cX2_readText 68 = .ok (.iconst 0, 1) := by decide +kernel
theorem dX2_readText_69 : decode cX2_readText 69 = .ok (.istore_n 2, 1) := by decide +kernel
theorem dX2_readText_70 : decode cX2_readText 70 = .ok (.iload_n 2, 1) := by decide +kernel
theorem dX2_readText_71 : decode cX2_readText 71 = .ok (.iconst 5, 1) := by decide +kernel
theorem dX2_readText_72 : decode cX2_readText 72 = .ok (.if_icmp .ge 67, 3) := by decide +kernel
theorem dX2_readText_75 : decode cX2_readText 75 = .ok (.iload_n 1, 1) := by decide +kernel
theorem dX2_readText_76 : decode cX2_readText 76 = .ok (.bipush (-9), 2) := by decide +kernel
theorem dX2_readText_78 : decode cX2_readText 78 = .ok (.if_icmp .eq 61, 3) := by decide +kernel
theorem dX2_readText_81 : decode cX2_readText 81 = .ok (.iload_n 2, 1) := by decide +kernel
theorem dX2_readText_82 : decode cX2_readText 82 = .ok (.iconst 2, 1) := by decide +kernel
theorem dX2_readText_83 : decode cX2_readText 83 = .ok (.if_icmp .ge 15, 3) := by decide +kernel
theorem dX2_readText_86 : decode cX2_readText 86 = .ok (.aload_n 0, 1) := by decide +kernel
theorem dX2_readText_87 : decode cX2_readText 87 = .ok (.iconst 3, 1) := by decide +kernel
theorem dX2_readText_88 : decode cX2_readText 88 = .ok (.iconst 0, 1) := by decide +kernel
theorem dX2_readText_89 : decode cX2_readText 89 = .ok (.sipush 999, 3) := by decide +kernel
theorem dX2_readText_92 : decode cX2_readText 92 = .ok (.invokevirtual 111, 3) := by decide +kernel
theorem dX2_readText_95 : decode cX2_readText 95 = .ok (.goto 27, 3) := by decide +kernel
theorem dX2_readText_98 : decode cX2_readText 98 = .ok (.iload_n 2, 1) := by decide +kernel
theorem dX2_readText_99 : decode cX2_readText 99 = .ok (.iconst 4, 1) := by decide +kernel
theorem dX2_readText_100 : decode cX2_readText 100 = .ok (.if_icmp .ge 14, 3) := by decide +kernel
theorem dX2_readText_103 : decode cX2_readText 103 = .ok (.aload_n 0, 1) := by decide +kernel
theorem dX2_readText_104 : decode cX2_readText 104 = .ok (.iconst 2, 1) := by decide +kernel
theorem dX2_readText_105 : decode cX2_readText 105 = .ok (.iconst 0, 1) := by decide +kernel
theorem dX2_readText_106 : decode cX2_readText 106 = .ok (.bipush 99, 2) := by decide +kernel
theorem dX2_readText_108 : decode cX2_readText 108 = .ok (.invokevirtual 111, 3) := by decide +kernel
theorem dX2_readText_111 : decode cX2_readText 111 = .ok (.goto 11, 3) := by decide +kernel
theorem dX2_readText_114 : decode cX2_readText 114 = .ok (.aload_n 0, 1) := by decide +kernel
theorem dX2_readText_115 : decode cX2_readText 115 = .ok (.iconst 2, 1) := by decide +kernel
theorem dX2_readText_116 : decode cX2_readText 116 = .ok (.iconst 1, 1) := by decide +kernel
theorem dX2_readText_117 : decode cX2_readText 117 = .ok (.bipush 20, 2) := by decide +kernel
theorem dX2_readText_119 : decode cX2_readText 119 = .ok (.invokevirtual 111, 3) := by decide +kernel
theorem dX2_readText_122 : decode cX2_readText 122 = .ok (.istore_n 1, 1) := by decide +kernel
theorem dX2_readText_123 : decode cX2_readText 123 = .ok (.aload_n 0, 1) := by decide +kernel
theorem dX2_readText_124 : decode cX2_readText 124 = .ok (.getfield 13, 3) := by decide +kernel
theorem dX2_readText_127 : decode cX2_readText 127 = .ok (.bipush 48, 2) := by decide +kernel
theorem dX2_readText_129 : decode cX2_readText 129 = .ok (.iload_n 2, 1) := by decide +kernel
theorem dX2_readText_130 : decode cX2_readText 130 = .ok (.iadd, 1) := by decide +kernel
theorem dX2_readText_131 : decode cX2_readText 131 = .ok (.iload_n 1, 1) := by decide +kernel
theorem dX2_readText_132 : decode cX2_readText 132 = .ok (.iastore, 1) := by decide +kernel
theorem dX2_readText_133 : decode cX2_readText 133 = .ok (.iinc 2 1, 3) := by decide +kernel
theorem dX2_readText_136 : decode cX2_readText 136 = .ok (.goto (-66), 3) := by decide +kernel
theorem dX2_readText_139 : decode cX2_readText 139 = .ok (.iconst 0, 1) := by decide +kernel
theorem dX2_readText_140 : decode cX2_readText 140 = .ok (.istore_n 2, 1) := by decide +kernel
theorem dX2_readText_141 : decode cX2_readText 141 = .ok (.iload_n 2, 1) := by decide +kernel
theorem dX2_readText_142 : decode cX2_readText 142 = .ok (.aload_n 0, 1) := by decide +kernel
theorem dX2_readText_143 : decode cX2_readText 143 = .ok (.getfield 115, 3) := by decide +kernel
theorem dX2_readText_146 : decode cX2_readText 146 = .ok (.if_icmp .ge 21, 3) := by decide +kernel
theorem dX2_readText_149 : decode cX2_readText 149 = .ok (.iload_n 1, 1) := by decide +kernel
theorem dX2_readText_150 : decode cX2_readText 150 = .ok (.bipush (-9), 2) := by decide +kernel
theorem dX2_readText_152 : decode cX2_readText 152 = .ok (.if_icmp .eq 15, 3) := by decide +kernel
theorem dX2_readText_155 : decode cX2_readText 155 = .ok (.aload_n 0, 1) := by decide +kernel
theorem dX2_readText_156 : decode cX2_readText 156 = .ok (.iload_n 2, 1) := by decide +kernel
theorem dX2_readText_157 : decode cX2_readText 157 = .ok (.invokevirtual 118, 3) := by decide +kernel
theorem dX2_readText_160 : decode cX2_readText 160 = .ok (.istore_n 1, 1) := by decide +kernel
theorem dX2_readText_161 : decode cX2_readText 161 = .ok (.iinc 2 1, 3) := by decide +kernel
theorem dX2_readText_164 : decode cX2_readText 164 = .ok (.goto (-23), 3) := by decide +kernel
theorem dX2_readText_167 : decode cX2_readText 167 = .ok (.iload_n 1, 1) := by decide +kernel
theorem dX2_readText_168 : decode cX2_readText 168 = .ok (.bipush (-9), 2) := by decide +kernel
theorem dX2_readText_170 : decode cX2_readText 170 = .ok (.if_icmp .eq 14, 3) := by decide +kernel
theorem dX2_readText_173 : decode cX2_readText 173 = .ok (.aload_n 0, 1) := by decide +kernel
theorem dX2_readText_174 : decode cX2_readText 174 = .ok (.getfield 102, 3) := by decide +kernel
theorem dX2_readText_177 : decode cX2_readText 177 = .ok (.aload_n 0, 1) := by decide +kernel
theorem dX2_readText_178 : decode cX2_readText 178 = .ok (.getfield 95, 3) := by decide +kernel
theorem dX2_readText_181 : decode cX2_readText 181 = .ok (.if_icmp .ge 10, 3) := by decide +kernel
theorem dX2_readText_184 : decode cX2_readText 184 = .ok (.aload_n 0, 1) := by decide +kernel
theorem dX2_readText_185 : decode cX2_readText 185 = .ok (.getfield 102, 3) := by decide +kernel
theorem dX2_readText_188 : decode cX2_readText 188 = .ok (.goto 5, 3) := by decide +kernel
theorem dX2_readText_191 : decode cX2_readText 191 = .ok (.bipush (-9), 2) := by decide +kernel
theorem dX2_readText_193 : decode cX2_readText 193 = .ok (.ireturn, 1) := by decide +kernel
set_option maxRecDepth 20000 in
theorem ggX2_errorPosition_X2_readText : GoodIn wsX2_errorPosition wsX2_readText := (by refine gI_c (gw 6 rfl rfl) ?_; refine gI_c (gw 7 rfl rfl) ?_; refine gI_c (gw 8 rfl rfl) ?_; refine gI_c (gw 9 rfl rfl) ?_; refine gI_c (gw 10 rfl rfl) ?_; refine gI_c (gw 11 rfl rfl) ?_; refine gI_c (gw 12 rfl rfl) ?_; refine gI_c (gw 13 rfl rfl) ?_; refine gI_c (gw 14 rfl rfl) ?_; refine gI_c (gw 5 rfl rfl) ?_; refine gI_c (gw 15 rfl rfl) ?_; refine gI_c (gw 16 rfl rfl) ?_; refine gI_c (gw 17 rfl rfl) ?_; refine gI_c (gw 18 rfl rfl) ?_; refine gI_c (gw 19 rfl rfl) ?_; refine gI_c (gw 20 rfl rfl) ?_; refine gI_c (gw 21 rfl rfl) ?_; refine gI_c (gw 22 rfl rfl) ?_; refine gI_c (gw 23 rfl rfl) ?_; refine gI_c (gw 24 rfl rfl) ?_; refine gI_c (gw 25 rfl rfl) ?_; refine gI_c (gw 26 rfl rfl) ?_; refine gI_c (gw 27 rfl rfl) ?_; refine gI_c (gw 28 rfl rfl) ?_; refine gI_c (gw 29 rfl rfl) ?_; refine gI_c (gw 30 rfl rfl) ?_; refine gI_c (gw 31 rfl rfl) ?_; refine gI_c (gw 32 rfl rfl) ?_; refine gI_c (gw 33 rfl rfl) ?_; refine gI_c (gw 34 rfl rfl) ?_; refine gI_c (gw 35 rfl rfl) ?_; refine gI_c (gw 36 rfl rfl) ?_; refine gI_c (gw 37 rfl rfl) ?_; refine gI_c (gw 38 rfl rfl) ?_; refine gI_c (gw 39 rfl rfl) ?_; refine gI_c (gw 40 rfl rfl) ?_; refine gI_c (gw 41 rfl rfl) ?_; refine gI_c (gw 42 rfl rfl) ?_; exact gI_n)
set_option maxRecDepth 20000 in
theorem gX2_errorPosition_X2_readText : GoodIn wsX2_errorPosition (wsV RX2 122 RX2 yX2_readText wsX2_readText) := goodIn_app (goodIn_of _ (by decide +kernel)) ggX2_errorPosition_X2_readText
theorem dX2_errorPosition_0 : decode cX2_errorPosition 0 = .ok (.aload_n 0, 1) := by decide +kernel
theorem dX2_errorPosition_1 : decode cX2_errorPosition 1 = .ok (.iconst 0, 1) := by decide +kernel
theorem dX2_errorPosition_2 : decode cX2_errorPosition 2 = .ok (.putfield 42, 3) := by decide +kernel
theorem dX2_errorPosition_5 : decode cX2_errorPosition 5 = .ok (.aload_n 0, 1) := by decide +kernel
theorem dX2_errorPosition_6 : decode cX2_errorPosition 6 = .ok (.invokevirtual 122, 3) := by decide +kernel
theorem dX2_errorPosition_9 : decode cX2_errorPosition 9 = .ok (.ireturn, 1) := by decide +kernel
theorem dX2_sumOf_0 : decode cX2_sumOf 0 = .ok (.iconst 0, 1) := by decide +kernel
theorem dX2_sumOf_1 : decode cX2_sumOf 1 = .ok (.istore_n 3, 1) := by decide +kernel
theorem dX2_sumOf_2 : decode cX2_sumOf 2 = .ok (.iconst 0, 1) := by decide +kernel
theorem dX2_sumOf_3 : decode cX2_sumOf 3 = .ok (.istore 4, 2) := by decide +kernel
theorem dX2_sumOf_5 : decode cX2_sumOf 5 = .ok (.iload 4, 2) := by decide +kernel
theorem dX2_sumOf_7 : decode cX2_sumOf 7 = .ok (.aload_n 0, 1) := by decide +kernel
theorem dX2_sumOf_8 : decode cX2_sumOf 8 = .ok (.getfield 38, 3) := by decide +kernel
theorem dX2_sumOf_11 : decode cX2_sumOf 11 = .ok (.if_icmp .ge 18, 3) := by decide +kernel
theorem dX2_sumOf_14 : decode cX2_sumOf 14 = .ok (.iload_n 3, 1) := by decide +kernel
theorem dX2_sumOf_15 : decode cX2_sumOf 15 = .ok (.aload_n 1, 1) := by decide +kernel
theorem dX2_sumOf_16 : decode cX2_sumOf 16 = .ok (.iload_n 2, 1) := by decide +kernel
theorem dX2_sumOf_17 : decode cX2_sumOf 17 = .ok (.iload 4, 2) := by decide +kernel
theorem dX2_sumOf_19 : decode cX2_sumOf 19 = .ok (.iadd, 1) := by decide +kernel
theorem dX2_sumOf_20 : decode cX2_sumOf 20 = .ok (.iaload, 1) := by decide +kernel
theorem dX2_sumOf_21 : decode cX2_sumOf 21 = .ok (.iadd, 1) := by decide +kernel
theorem dX2_sumOf_22 : decode cX2_sumOf 22 = .ok (.istore_n 3, 1) := by decide +kernel
theorem dX2_sumOf_23 : decode cX2_sumOf 23 = .ok (.iinc 4 1, 3) := by decide +kernel
theorem dX2_sumOf_26 : decode cX2_sumOf 26 = .ok (.goto (-21), 3) := by decide +kernel
theorem dX2_sumOf_29 : decode cX2_sumOf 29 = .ok (.iload_n 3, 1) := by decide +kernel
theorem dX2_sumOf_30 : decode cX2_sumOf 30 = .ok (.ireturn, 1) := by decide +kernel
set_option maxRecDepth 20000 in
theorem ggX2_load_X2_readText : GoodIn wsX2_load wsX2_readText := (by refine gI_c (gw 11 rfl rfl) ?_; refine gI_c (gw 3 rfl rfl) ?_; refine gI_c (gw 12 rfl rfl) ?_; refine gI_c (gw 13 rfl rfl) ?_; refine gI_c (gw 14 rfl rfl) ?_; refine gI_c (gw 1 rfl rfl) ?_; refine gI_c (gw 15 rfl rfl) ?_; refine gI_c (gw 16 rfl rfl) ?_; refine gI_c (gw 17 rfl rfl) ?_; refine gI_c (gw 10 rfl rfl) ?_; refine gI_c (gw 18 rfl rfl) ?_; refine gI_c (gw 19 rfl rfl) ?_; refine gI_c (gw 20 rfl rfl) ?_; refine gI_c (gw 21 rfl rfl) ?_; refine gI_c (gw 22 rfl rfl) ?_; refine gI_c (gw 23 rfl rfl) ?_; refine gI_c (gw 24 rfl rfl) ?_; refine gI_c (gw 25 rfl rfl) ?_; refine gI_c (gw 26 rfl rfl) ?_; refine gI_c (gw 27 rfl rfl) ?_; refine gI_c (gw 28 rfl rfl) ?_; refine gI_c (gw 29 rfl rfl) ?_; refine gI_c (gw 30 rfl rfl) ?_; refine gI_c (gw 43 rfl rfl) ?_; refine gI_c (gw 44 rfl rfl) ?_; refine gI_c (gw 45 rfl rfl) ?_; refine gI_c (gw 46 rfl rfl) ?_; refine gI_c (gw 47 rfl rfl) ?_; refine gI_c (gw 48 rfl rfl) ?_; refine gI_c (gw 49 rfl rfl) ?_; refine gI_c (gw 50 rfl rfl) ?_; refine gI_c (gw 51 rfl rfl) ?_; refine gI_c (gw 52 rfl rfl) ?_; refine gI_c (gw 53 rfl rfl) ?_; refine gI_c (gw 54 rfl rfl) ?_; refine gI_c (gw 55 rfl rfl) ?_; refine gI_c (gw 56 rfl rfl) ?_; refine gI_c (gw 57 rfl rfl) ?_; exact gI_n)
set_option maxRecDepth 20000 in
theorem gX2_load_X2_readText : GoodIn wsX2_load (wsV RX2 122 RX2 yX2_readText wsX2_readText) := goodIn_app (goodIn_of _ (by decide +kernel)) ggX2_load_X2_readText
set_option maxRecDepth 20000 in
theorem ggX2_load_X2_refused : GoodIn wsX2_load wsX2_refused := (by refine gI_c (gw 34 rfl rfl) ?_; refine gI_c (gw 35 rfl rfl) ?_; refine gI_c (gw 43 rfl rfl) ?_; refine gI_c (gw 44 rfl rfl) ?_; refine gI_c (gw 45 rfl rfl) ?_; refine gI_c (gw 46 rfl rfl) ?_; refine gI_c (gw 47 rfl rfl) ?_; refine gI_c (gw 48 rfl rfl) ?_; refine gI_c (gw 49 rfl rfl) ?_; refine gI_c (gw 50 rfl rfl) ?_; refine gI_c (gw 51 rfl rfl) ?_; refine gI_c (gw 52 rfl rfl) ?_; refine gI_c (gw 53 rfl rfl) ?_; refine gI_c (gw 54 rfl rfl) ?_; refine gI_c (gw 55 rfl rfl) ?_; refine gI_c (gw 56 rfl rfl) ?_; refine gI_c (gw 57 rfl rfl) ?_; exact gI_n)
set_option maxRecDepth 20000 in
theorem gX2_load_X2_refused : GoodIn wsX2_load (wsV RX2 98 RX2 yX2_refused wsX2_refused) := goodIn_app (goodIn_of _ (by decide +kernel)) ggX2_load_X2_refused
set_option maxRecDepth 20000 in
theorem ggX2_load_X2_copy : GoodIn wsX2_load wsX2_copy := (by refine gI_c (gw 38 rfl rfl) ?_; exact gI_n)
set_option maxRecDepth 20000 in
theorem gX2_load_X2_copy : GoodIn wsX2_load (va_wsS RX2 50 yX2_copy wsX2_copy) := goodIn_app (goodIn_of _ (by decide +kernel)) ggX2_load_X2_copy
set_option maxRecDepth 20000 in
theorem ggX2_load_X2_sumOf : GoodIn wsX2_load wsX2_sumOf := (by refine gI_c (gw 42 rfl rfl) ?_; refine gI_c (gw 2 rfl rfl) ?_; refine gI_c (gw 43 rfl rfl) ?_; refine gI_c (gw 44 rfl rfl) ?_; refine gI_c (gw 45 rfl rfl) ?_; refine gI_c (gw 46 rfl rfl) ?_; refine gI_c (gw 47 rfl rfl) ?_; refine gI_c (gw 48 rfl rfl) ?_; refine gI_c (gw 49 rfl rfl) ?_; refine gI_c (gw 50 rfl rfl) ?_; refine gI_c (gw 51 rfl rfl) ?_; refine gI_c (gw 52 rfl rfl) ?_; refine gI_c (gw 53 rfl rfl) ?_; refine gI_c (gw 54 rfl rfl) ?_; refine gI_c (gw 55 rfl rfl) ?_; refine gI_c (gw 56 rfl rfl) ?_; refine gI_c (gw 57 rfl rfl) ?_; exact gI_n)
set_option maxRecDepth 20000 in
theorem gX2_load_X2_sumOf : GoodIn wsX2_load (wsV RX2 126 RX2 yX2_sumOf wsX2_sumOf) := goodIn_app (goodIn_of _ (by decide +kernel)) ggX2_load_X2_sumOf
theorem dX2_load_0 : decode cX2_load 0 = .ok (.aload_n 0, 1) := by decide +kernel
theorem dX2_load_1 : decode cX2_load 1 = .ok (.aload_n 0, 1) := by decide +kernel
theorem dX2_load_2 : decode cX2_load 2 = .ok (.invokevirtual 122, 3) := by decide +kernel
theorem dX2_load_5 : decode cX2_load 5 = .ok (.bipush (-9), 2) := by decide +kernel
theorem dX2_load_7 : decode cX2_load 7 = .ok (.if_icmp .ne 7, 3) := by decide +kernel
theorem dX2_load_10 : decode cX2_load 10 = .ok (.iconst 0, 1) := by decide +kernel
theorem dX2_load_11 : decode cX2_load 11 = .ok (.goto 4, 3) := by decide +kernel
theorem dX2_load_14 : decode cX2_load 14 = .ok (.iconst 1, 1) := by decide +kernel
theorem dX2_load_15 : decode cX2_load 15 = .ok (.invokevirtual 98, 3) := by decide +kernel
theorem dX2_load_18 : decode cX2_load 18 = .ok (.ifCond .eq 5, 3) := by decide +kernel
theorem dX2_load_21 : decode cX2_load 21 = .ok (.iconst 0, 1) := by decide +kernel
theorem dX2_load_22 : decode cX2_load 22 = .ok (.ireturn, 1) := by decide +kernel
theorem dX2_load_23 : decode cX2_load 23 = .ok (.aload_n 0, 1) := by decide +kernel
theorem dX2_load_24 : decode cX2_load 24 = .ok (.aload_n 0, 1) := by decide +kernel
theorem dX2_load_25 : decode cX2_load 25 = .ok (.getfield 115, 3) := by decide +kernel
theorem dX2_load_28 : decode cX2_load 28 = .ok (.putfield 38, 3) := by decide +kernel
theorem dX2_load_31 : decode cX2_load 31 = .ok (.aload_n 0, 1) := by decide +kernel
theorem dX2_load_32 : decode cX2_load 32 = .ok (.getfield 13, 3) := by decide +kernel
theorem dX2_load_35 : decode cX2_load 35 = .ok (.iconst 0, 1) := by decide +kernel
theorem dX2_load_36 : decode cX2_load 36 = .ok (.aload_n 0, 1) := by decide +kernel
theorem dX2_load_37 : decode cX2_load 37 = .ok (.getfield 16, 3) := by decide +kernel
theorem dX2_load_40 : decode cX2_load 40 = .ok (.iconst 0, 1) := by decide +kernel
theorem dX2_load_41 : decode cX2_load 41 = .ok (.bipush 64, 2) := by decide +kernel
theorem dX2_load_43 : decode cX2_load 43 = .ok (.invokestatic 50, 3) := by decide +kernel
theorem dX2_load_46 : decode cX2_load 46 = .ok (.aload_n 0, 1) := by decide +kernel
theorem dX2_load_47 : decode cX2_load 47 = .ok (.iconst 0, 1) := by decide +kernel
theorem dX2_load_48 : decode cX2_load 48 = .ok (.putfield 47, 3) := by decide +kernel
theorem dX2_load_51 : decode cX2_load 51 = .ok (.aload_n 0, 1) := by decide +kernel
theorem dX2_load_52 : decode cX2_load 52 = .ok (.getfield 28, 3) := by decide +kernel
theorem dX2_load_55 : decode cX2_load 55 = .ok (.iconst 0, 1) := by decide +kernel
theorem dX2_load_56 : decode cX2_load 56 = .ok (.iconst 0, 1) := by decide +kernel
theorem dX2_load_57 : decode cX2_load 57 = .ok (.bastore, 1) := by decide +kernel
theorem dX2_load_58 : decode cX2_load 58 = .ok (.aload_n 0, 1) := by decide +kernel
theorem dX2_load_59 : decode cX2_load 59 = .ok (.getfield 28, 3) := by decide +kernel
theorem dX2_load_62 : decode cX2_load 62 = .ok (.iconst 1, 1) := by decide +kernel
theorem dX2_load_63 : decode cX2_load 63 = .ok (.iconst 0, 1) := by decide +kernel
theorem dX2_load_64 : decode cX2_load 64 = .ok (.bastore, 1) := by decide +kernel
theorem dX2_load_65 : decode cX2_load 65 = .ok (.aload_n 0, 1) := by decide +kernel
theorem dX2_load_66 : decode cX2_load 66 = .ok (.aload_n 0, 1) := by decide +kernel
theorem dX2_load_67 : decode cX2_load 67 = .ok (.getfield 16, 3) := by decide +kernel
theorem dX2_load_70 : decode cX2_load 70 = .ok (.bipush 6, 2) := by decide +kernel
theorem dX2_load_72 : decode cX2_load 72 = .ok (.invokevirtual 126, 3) := by decide +kernel
theorem dX2_load_75 : decode cX2_load 75 = .ok (.aload_n 0, 1) := by decide +kernel
theorem dX2_load_76 : decode cX2_load 76 = .ok (.aload_n 0, 1) := by decide +kernel
theorem dX2_load_77 : decode cX2_load 77 = .ok (.getfield 16, 3) := by decide +kernel
theorem dX2_load_80 : decode cX2_load 80 = .ok (.bipush 12, 2) := by decide +kernel
theorem dX2_load_82 : decode cX2_load 82 = .ok (.invokevirtual 126, 3) := by decide +kernel
theorem dX2_load_85 : decode cX2_load 85 = .ok (.iadd, 1) := by decide +kernel
theorem dX2_load_86 : decode cX2_load 86 = .ok (.ireturn, 1) := by decide +kernel
set_option maxRecDepth 20000 in
theorem ggX2_about_X2_in : GoodIn wsX2_about wsX2_in := (by refine gI_c (gw 7 rfl rfl) ?_; exact gI_n)
set_option maxRecDepth 20000 in
theorem gX2_about_X2_in : GoodIn wsX2_about (va_wsS RX2 54 yX2_in wsX2_in) := goodIn_app (goodIn_of _ (by decide +kernel)) ggX2_about_X2_in
set_option maxRecDepth 20000 in
theorem ggX2_about_X2_refused : GoodIn wsX2_about wsX2_refused := (by refine gI_c (gw 11 rfl rfl) ?_; refine gI_c (gw 12 rfl rfl) ?_; refine gI_c (gw 24 rfl rfl) ?_; refine gI_c (gw 25 rfl rfl) ?_; refine gI_c (gw 26 rfl rfl) ?_; refine gI_c (gw 27 rfl rfl) ?_; refine gI_c (gw 28 rfl rfl) ?_; refine gI_c (gw 29 rfl rfl) ?_; refine gI_c (gw 30 rfl rfl) ?_; refine gI_c (gw 31 rfl rfl) ?_; refine gI_c (gw 32 rfl rfl) ?_; refine gI_c (gw 33 rfl rfl) ?_; refine gI_c (gw 34 rfl rfl) ?_; refine gI_c (gw 35 rfl rfl) ?_; refine gI_c (gw 36 rfl rfl) ?_; refine gI_c (gw 37 rfl rfl) ?_; refine gI_c (gw 38 rfl rfl) ?_; exact gI_n)
set_option maxRecDepth 20000 in
theorem gX2_about_X2_refused : GoodIn wsX2_about (wsV RX2 98 RX2 yX2_refused wsX2_refused) := goodIn_app (goodIn_of _ (by decide +kernel)) ggX2_about_X2_refused
set_option maxRecDepth 20000 in
theorem ggX2_about_X2_washed : GoodIn wsX2_about wsX2_washed := (by refine gI_c (gw 16 rfl rfl) ?_; refine gI_c (gw 2 rfl rfl) ?_; refine gI_c (gw 17 rfl rfl) ?_; refine gI_c (gw 18 rfl rfl) ?_; refine gI_c (gw 6 rfl rfl) ?_; refine gI_c (gw 19 rfl rfl) ?_; refine gI_c (gw 24 rfl rfl) ?_; refine gI_c (gw 25 rfl rfl) ?_; refine gI_c (gw 26 rfl rfl) ?_; refine gI_c (gw 27 rfl rfl) ?_; refine gI_c (gw 28 rfl rfl) ?_; refine gI_c (gw 29 rfl rfl) ?_; refine gI_c (gw 30 rfl rfl) ?_; refine gI_c (gw 31 rfl rfl) ?_; refine gI_c (gw 32 rfl rfl) ?_; refine gI_c (gw 33 rfl rfl) ?_; refine gI_c (gw 34 rfl rfl) ?_; refine gI_c (gw 35 rfl rfl) ?_; refine gI_c (gw 36 rfl rfl) ?_; refine gI_c (gw 37 rfl rfl) ?_; refine gI_c (gw 38 rfl rfl) ?_; exact gI_n)
set_option maxRecDepth 20000 in
theorem gX2_about_X2_washed : GoodIn wsX2_about (wsV RX2 66 RX2 yX2_washed wsX2_washed) := goodIn_app (goodIn_of _ (by decide +kernel)) ggX2_about_X2_washed
set_option maxRecDepth 20000 in
theorem ggX2_about_X2_sumOf : GoodIn wsX2_about wsX2_sumOf := (by refine gI_c (gw 23 rfl rfl) ?_; refine gI_c (gw 2 rfl rfl) ?_; refine gI_c (gw 24 rfl rfl) ?_; refine gI_c (gw 25 rfl rfl) ?_; refine gI_c (gw 26 rfl rfl) ?_; refine gI_c (gw 27 rfl rfl) ?_; refine gI_c (gw 28 rfl rfl) ?_; refine gI_c (gw 29 rfl rfl) ?_; refine gI_c (gw 30 rfl rfl) ?_; refine gI_c (gw 31 rfl rfl) ?_; refine gI_c (gw 32 rfl rfl) ?_; refine gI_c (gw 33 rfl rfl) ?_; refine gI_c (gw 34 rfl rfl) ?_; refine gI_c (gw 35 rfl rfl) ?_; refine gI_c (gw 36 rfl rfl) ?_; refine gI_c (gw 37 rfl rfl) ?_; refine gI_c (gw 38 rfl rfl) ?_; exact gI_n)
set_option maxRecDepth 20000 in
theorem gX2_about_X2_sumOf : GoodIn wsX2_about (wsV RX2 126 RX2 yX2_sumOf wsX2_sumOf) := goodIn_app (goodIn_of _ (by decide +kernel)) ggX2_about_X2_sumOf
theorem dX2_about_0 : decode cX2_about 0 = .ok (.aload_n 0, 1) := by decide +kernel
theorem dX2_about_1 : decode cX2_about 1 = .ok (.iload_n 1, 1) := by decide +kernel
theorem dX2_about_2 : decode cX2_about 2 = .ok (.i2l, 1) := by decide +kernel
theorem dX2_about_3 : decode cX2_about 3 = .ok (.lconst 0, 1) := by decide +kernel
theorem dX2_about_4 : decode cX2_about 4 = .ok (.ldc2_w 109, 3) := by decide +kernel
theorem dX2_about_7 : decode cX2_about 7 = .ok (.invokestatic 54, 3) := by decide +kernel
theorem dX2_about_10 : decode cX2_about 10 = .ok (.ifCond .eq 7, 3) := by decide +kernel
theorem dX2_about_13 : decode cX2_about 13 = .ok (.iconst 0, 1) := by decide +kernel
theorem dX2_about_14 : decode cX2_about 14 = .ok (.goto 4, 3) := by decide +kernel
theorem dX2_about_17 : decode cX2_about 17 = .ok (.iconst 1, 1) := by decide +kernel
theorem dX2_about_18 : decode cX2_about 18 = .ok (.invokevirtual 98, 3) := by decide +kernel
theorem dX2_about_21 : decode cX2_about 21 = .ok (.ifCond .eq 5, 3) := by decide +kernel
theorem dX2_about_24 : decode cX2_about 24 = .ok (.iconst 0, 1) := by decide +kernel
theorem dX2_about_25 : decode cX2_about 25 = .ok (.ireturn, 1) := by decide +kernel
theorem dX2_about_26 : decode cX2_about 26 = .ok (.iload_n 1, 1) := by decide +kernel
theorem dX2_about_27 : decode cX2_about 27 = .ok (.tableswitch 97 0 9 #[53, 97, 97, 97, 97, 97, 58, 66, 75, 86], 53) := by decide +kernel
theorem dX2_about_80 : decode cX2_about 80 = .ok (.aload_n 0, 1) := by decide +kernel
theorem dX2_about_81 : decode cX2_about 81 = .ok (.getfield 38, 3) := by decide +kernel
theorem dX2_about_84 : decode cX2_about 84 = .ok (.ireturn, 1) := by decide +kernel
theorem dX2_about_85 : decode cX2_about 85 = .ok (.aload_n 0, 1) := by decide +kernel
theorem dX2_about_86 : decode cX2_about 86 = .ok (.getfield 16, 3) := by decide +kernel
theorem dX2_about_89 : decode cX2_about 89 = .ok (.bipush 53, 2) := by decide +kernel
theorem dX2_about_91 : decode cX2_about 91 = .ok (.iaload, 1) := by decide +kernel
theorem dX2_about_92 : decode cX2_about 92 = .ok (.ireturn, 1) := by decide +kernel
theorem dX2_about_93 : decode cX2_about 93 = .ok (.aload_n 0, 1) := by decide +kernel
theorem dX2_about_94 : decode cX2_about 94 = .ok (.aload_n 0, 1) := by decide +kernel
theorem dX2_about_95 : decode cX2_about 95 = .ok (.getfield 16, 3) := by decide +kernel
theorem dX2_about_98 : decode cX2_about 98 = .ok (.invokevirtual 66, 3) := by decide +kernel
theorem dX2_about_101 : decode cX2_about 101 = .ok (.ireturn, 1) := by decide +kernel
theorem dX2_about_102 : decode cX2_about 102 = .ok (.aload_n 0, 1) := by decide +kernel
theorem dX2_about_103 : decode cX2_about 103 = .ok (.aload_n 0, 1) := by decide +kernel
theorem dX2_about_104 : decode cX2_about 104 = .ok (.getfield 16, 3) := by decide +kernel
theorem dX2_about_107 : decode cX2_about 107 = .ok (.bipush 6, 2) := by decide +kernel
theorem dX2_about_109 : decode cX2_about 109 = .ok (.invokevirtual 126, 3) := by decide +kernel
theorem dX2_about_112 : decode cX2_about 112 = .ok (.ireturn, 1) := by decide +kernel
theorem dX2_about_113 : decode cX2_about 113 = .ok (.aload_n 0, 1) := by decide +kernel
theorem dX2_about_114 : decode cX2_about 114 = .ok (.aload_n 0, 1) := by decide +kernel
theorem dX2_about_115 : decode cX2_about 115 = .ok (.getfield 16, 3) := by decide +kernel
theorem dX2_about_118 : decode cX2_about 118 = .ok (.bipush 12, 2) := by decide +kernel
theorem dX2_about_120 : decode cX2_about 120 = .ok (.invokevirtual 126, 3) := by decide +kernel
theorem dX2_about_123 : decode cX2_about 123 = .ok (.ireturn, 1) := by decide +kernel
theorem dX2_about_124 : decode cX2_about 124 = .ok (.aload_n 0, 1) := by decide +kernel
theorem dX2_about_125 : decode cX2_about 125 = .ok (.getfield 16, 3) := by decide +kernel
theorem dX2_about_128 : decode cX2_about 128 = .ok (.bipush 48, 2) := by decide +kernel
theorem dX2_about_130 : decode cX2_about 130 = .ok (.iload_n 1, 1) := by decide +kernel
theorem dX2_about_131 : decode cX2_about 131 = .ok (.iadd, 1) := by decide +kernel
theorem dX2_about_132 : decode cX2_about 132 = .ok (.iconst 1, 1) := by decide +kernel
theorem dX2_about_133 : decode cX2_about 133 = .ok (.isub, 1) := by decide +kernel
theorem dX2_about_134 : decode cX2_about 134 = .ok (.iaload, 1) := by decide +kernel
theorem dX2_about_135 : decode cX2_about 135 = .ok (.ireturn, 1) := by decide +kernel
set_option maxRecDepth 20000 in
theorem ggX2_total_X2_in : GoodIn wsX2_total wsX2_in := (by refine gI_c (gw 6 rfl rfl) ?_; exact gI_n)
set_option maxRecDepth 20000 in
theorem gX2_total_X2_in : GoodIn wsX2_total (va_wsS RX2 54 yX2_in wsX2_in) := goodIn_app (goodIn_of _ (by decide +kernel)) ggX2_total_X2_in
set_option maxRecDepth 20000 in
theorem ggX2_total_X2_refused : GoodIn wsX2_total wsX2_refused := (by refine gI_c (gw 10 rfl rfl) ?_; refine gI_c (gw 11 rfl rfl) ?_; refine gI_c (gw 12 rfl rfl) ?_; refine gI_c (gw 13 rfl rfl) ?_; refine gI_c (gw 14 rfl rfl) ?_; refine gI_c (gw 15 rfl rfl) ?_; refine gI_c (gw 16 rfl rfl) ?_; refine gI_c (gw 17 rfl rfl) ?_; refine gI_c (gw 18 rfl rfl) ?_; refine gI_c (gw 19 rfl rfl) ?_; refine gI_c (gw 20 rfl rfl) ?_; refine gI_c (gw 21 rfl rfl) ?_; refine gI_c (gw 22 rfl rfl) ?_; refine gI_c (gw 23 rfl rfl) ?_; refine gI_c (gw 24 rfl rfl) ?_; refine gI_c (gw 25 rfl rfl) ?_; refine gI_c (gw 26 rfl rfl) ?_; exact gI_n)
set_option maxRecDepth 20000 in
theorem gX2_total_X2_refused : GoodIn wsX2_total (wsV RX2 98 RX2 yX2_refused wsX2_refused) := goodIn_app (goodIn_of _ (by decide +kernel)) ggX2_total_X2_refused
theorem dX2_total_0 : decode cX2_total 0 = .ok (.aload_n 0, 1) := by decide +kernel
theorem dX2_total_1 : decode cX2_total 1 = .ok (.iload_n 1, 1) := by decide +kernel
theorem dX2_total_2 : decode cX2_total 2 = .ok (.i2l, 1) := by decide +kernel
theorem dX2_total_3 : decode cX2_total 3 = .ok (.lconst 0, 1) := by decide +kernel
theorem dX2_total_4 : decode cX2_total 4 = .ok (.ldc2_w 109, 3) := by decide +kernel
theorem dX2_total_7 : decode cX2_total 7 = .ok (.invokestatic 54, 3) := by decide +kernel
theorem dX2_total_10 : decode cX2_total 10 = .ok (.ifCond .eq 7, 3) := by decide +kernel
theorem dX2_total_13 : decode cX2_total 13 = .ok (.iconst 0, 1) := by decide +kernel
theorem dX2_total_14 : decode cX2_total 14 = .ok (.goto 4, 3) := by decide +kernel
theorem dX2_total_17 : decode cX2_total 17 = .ok (.iconst 1, 1) := by decide +kernel
theorem dX2_total_18 : decode cX2_total 18 = .ok (.invokevirtual 98, 3) := by decide +kernel
theorem dX2_total_21 : decode cX2_total 21 = .ok (.ifCond .eq 5, 3) := by decide +kernel
theorem dX2_total_24 : decode cX2_total 24 = .ok (.iconst 0, 1) := by decide +kernel
theorem dX2_total_25 : decode cX2_total 25 = .ok (.ireturn, 1) := by decide +kernel
theorem dX2_total_26 : decode cX2_total 26 = .ok (.aload_n 0, 1) := by decide +kernel
theorem dX2_total_27 : decode cX2_total 27 = .ok (.getfield 16, 3) := by decide +kernel
theorem dX2_total_30 : decode cX2_total 30 = .ok (.bipush 54, 2) := by decide +kernel
theorem dX2_total_32 : decode cX2_total 32 = .ok (.iload_n 1, 1) := by decide +kernel
theorem dX2_total_33 : decode cX2_total 33 = .ok (.iadd, 1) := by decide +kernel
theorem dX2_total_34 : decode cX2_total 34 = .ok (.iaload, 1) := by decide +kernel
theorem dX2_total_35 : decode cX2_total 35 = .ok (.ireturn, 1) := by decide +kernel
set_option maxRecDepth 20000 in
theorem ggX2_detail_X2_thickness : GoodIn wsX2_detail wsX2_thickness := (by refine gI_c (gw 4 rfl rfl) ?_; refine gI_c (gw 5 rfl rfl) ?_; refine gI_c (gw 6 rfl rfl) ?_; refine gI_c (gw 3 rfl rfl) ?_; refine gI_c (gw 7 rfl rfl) ?_; exact gI_n)
set_option maxRecDepth 20000 in
theorem gX2_detail_X2_thickness : GoodIn wsX2_detail (va_wsS RX2 77 yX2_thickness wsX2_thickness) := goodIn_app (goodIn_of _ (by decide +kernel)) ggX2_detail_X2_thickness
set_option maxRecDepth 20000 in
theorem ggX2_detail_X2_power : GoodIn wsX2_detail wsX2_power := (by refine gI_c (gw 10 rfl rfl) ?_; exact gI_n)
set_option maxRecDepth 20000 in
theorem gX2_detail_X2_power : GoodIn wsX2_detail (va_wsS RX2 80 yX2_power wsX2_power) := goodIn_app (goodIn_of _ (by decide +kernel)) ggX2_detail_X2_power
theorem dX2_detail_0 : decode cX2_detail 0 = .ok (.iload_n 2, 1) := by decide +kernel
theorem dX2_detail_1 : decode cX2_detail 1 = .ok (.bipush 8, 2) := by decide +kernel
theorem dX2_detail_3 : decode cX2_detail 3 = .ok (.if_icmp .ge 14, 3) := by decide +kernel
theorem dX2_detail_6 : decode cX2_detail 6 = .ok (.aload_n 0, 1) := by decide +kernel
theorem dX2_detail_7 : decode cX2_detail 7 = .ok (.bipush 6, 2) := by decide +kernel
theorem dX2_detail_9 : decode cX2_detail 9 = .ok (.iload_n 2, 1) := by decide +kernel
theorem dX2_detail_10 : decode cX2_detail 10 = .ok (.imul, 1) := by decide +kernel
theorem dX2_detail_11 : decode cX2_detail 11 = .ok (.iload_n 1, 1) := by decide +kernel
theorem dX2_detail_12 : decode cX2_detail 12 = .ok (.iadd, 1) := by decide +kernel
theorem dX2_detail_13 : decode cX2_detail 13 = .ok (.iaload, 1) := by decide +kernel
theorem dX2_detail_14 : decode cX2_detail 14 = .ok (.goto 22, 3) := by decide +kernel
theorem dX2_detail_17 : decode cX2_detail 17 = .ok (.iload_n 2, 1) := by decide +kernel
theorem dX2_detail_18 : decode cX2_detail 18 = .ok (.bipush 8, 2) := by decide +kernel
theorem dX2_detail_20 : decode cX2_detail 20 = .ok (.if_icmp .ne 11, 3) := by decide +kernel
theorem dX2_detail_23 : decode cX2_detail 23 = .ok (.aload_n 0, 1) := by decide +kernel
theorem dX2_detail_24 : decode cX2_detail 24 = .ok (.iload_n 1, 1) := by decide +kernel
theorem dX2_detail_25 : decode cX2_detail 25 = .ok (.invokestatic 77, 3) := by decide +kernel
theorem dX2_detail_28 : decode cX2_detail 28 = .ok (.goto 8, 3) := by decide +kernel
theorem dX2_detail_31 : decode cX2_detail 31 = .ok (.aload_n 0, 1) := by decide +kernel
theorem dX2_detail_32 : decode cX2_detail 32 = .ok (.iload_n 1, 1) := by decide +kernel
theorem dX2_detail_33 : decode cX2_detail 33 = .ok (.invokestatic 80, 3) := by decide +kernel
theorem dX2_detail_36 : decode cX2_detail 36 = .ok (.ireturn, 1) := by decide +kernel
set_option maxRecDepth 20000 in
theorem ggX2_effect_X2_isEffect : GoodIn wsX2_effect wsX2_isEffect := (by refine gI_c (gw 7 rfl rfl) ?_; refine gI_c (gw 8 rfl rfl) ?_; refine gI_c (gw 9 rfl rfl) ?_; refine gI_c (gw 10 rfl rfl) ?_; refine gI_c (gw 6 rfl rfl) ?_; refine gI_c (gw 11 rfl rfl) ?_; refine gI_c (gw 29 rfl rfl) ?_; refine gI_c (gw 30 rfl rfl) ?_; refine gI_c (gw 31 rfl rfl) ?_; refine gI_c (gw 32 rfl rfl) ?_; refine gI_c (gw 33 rfl rfl) ?_; refine gI_c (gw 34 rfl rfl) ?_; refine gI_c (gw 35 rfl rfl) ?_; refine gI_c (gw 36 rfl rfl) ?_; refine gI_c (gw 37 rfl rfl) ?_; refine gI_c (gw 38 rfl rfl) ?_; refine gI_c (gw 39 rfl rfl) ?_; refine gI_c (gw 40 rfl rfl) ?_; refine gI_c (gw 41 rfl rfl) ?_; refine gI_c (gw 42 rfl rfl) ?_; refine gI_c (gw 43 rfl rfl) ?_; exact gI_n)
set_option maxRecDepth 20000 in
theorem gX2_effect_X2_isEffect : GoodIn wsX2_effect (wsV RX2 129 RX2 yX2_isEffect wsX2_isEffect) := goodIn_app (goodIn_of _ (by decide +kernel)) ggX2_effect_X2_isEffect
set_option maxRecDepth 20000 in
theorem ggX2_effect_X2_in : GoodIn wsX2_effect wsX2_in := (by refine gI_c (gw 11 rfl rfl) ?_; exact gI_n)
set_option maxRecDepth 20000 in
theorem gX2_effect_X2_in : GoodIn wsX2_effect (va_wsS RX2 54 yX2_in wsX2_in) := goodIn_app (goodIn_of _ (by decide +kernel)) ggX2_effect_X2_in
set_option maxRecDepth 20000 in
theorem ggX2_effect_X2_refused : GoodIn wsX2_effect wsX2_refused := (by refine gI_c (gw 15 rfl rfl) ?_; refine gI_c (gw 16 rfl rfl) ?_; refine gI_c (gw 29 rfl rfl) ?_; refine gI_c (gw 30 rfl rfl) ?_; refine gI_c (gw 31 rfl rfl) ?_; refine gI_c (gw 32 rfl rfl) ?_; refine gI_c (gw 33 rfl rfl) ?_; refine gI_c (gw 34 rfl rfl) ?_; refine gI_c (gw 35 rfl rfl) ?_; refine gI_c (gw 36 rfl rfl) ?_; refine gI_c (gw 37 rfl rfl) ?_; refine gI_c (gw 38 rfl rfl) ?_; refine gI_c (gw 39 rfl rfl) ?_; refine gI_c (gw 40 rfl rfl) ?_; refine gI_c (gw 41 rfl rfl) ?_; refine gI_c (gw 42 rfl rfl) ?_; refine gI_c (gw 43 rfl rfl) ?_; exact gI_n)
set_option maxRecDepth 20000 in
theorem gX2_effect_X2_refused : GoodIn wsX2_effect (wsV RX2 98 RX2 yX2_refused wsX2_refused) := goodIn_app (goodIn_of _ (by decide +kernel)) ggX2_effect_X2_refused
set_option maxRecDepth 20000 in
theorem ggX2_effect_X2_detail : GoodIn wsX2_effect wsX2_detail := (by refine gI_c (gw 19 rfl rfl) ?_; refine gI_c (gw 20 rfl rfl) ?_; refine gI_c (gw 21 rfl rfl) ?_; refine gI_c (gw 6 rfl rfl) ?_; refine gI_c (gw 22 rfl rfl) ?_; refine gI_c (gw 23 rfl rfl) ?_; refine gI_c (gw 24 rfl rfl) ?_; refine gI_c (gw 25 rfl rfl) ?_; refine gI_c (gw 26 rfl rfl) ?_; refine gI_c (gw 27 rfl rfl) ?_; refine gI_c (gw 28 rfl rfl) ?_; exact gI_n)
set_option maxRecDepth 20000 in
theorem gX2_effect_X2_detail : GoodIn wsX2_effect (va_wsS RX2 132 yX2_detail wsX2_detail) := goodIn_app (goodIn_of _ (by decide +kernel)) ggX2_effect_X2_detail
theorem dX2_effect_0 : decode cX2_effect 0 = .ok (.aload_n 0, 1) := by decide +kernel
theorem dX2_effect_1 : decode cX2_effect 1 = .ok (.aload_n 0, 1) := by decide +kernel
theorem dX2_effect_2 : decode cX2_effect 2 = .ok (.iload_n 1, 1) := by decide +kernel
theorem dX2_effect_3 : decode cX2_effect 3 = .ok (.invokevirtual 129, 3) := by decide +kernel
theorem dX2_effect_6 : decode cX2_effect 6 = .ok (.ifCond .ne 7, 3) := by decide +kernel
theorem dX2_effect_9 : decode cX2_effect 9 = .ok (.iconst 1, 1) := by decide +kernel
theorem dX2_effect_10 : decode cX2_effect 10 = .ok (.goto 20, 3) := by decide +kernel
theorem dX2_effect_13 : decode cX2_effect 13 = .ok (.iload_n 2, 1) := by decide +kernel
theorem dX2_effect_14 : decode cX2_effect 14 = .ok (.i2l, 1) := by decide +kernel
theorem dX2_effect_15 : decode cX2_effect 15 = .ok (.lconst 0, 1) := by decide +kernel
theorem dX2_effect_16 : decode cX2_effect 16 = .ok (.ldc2_w 109, 3) := by decide +kernel
theorem dX2_effect_19 : decode cX2_effect 19 = .ok (.invokestatic 54, 3) := by decide +kernel
theorem dX2_effect_22 : decode cX2_effect 22 = .ok (.ifCond .ne 7, 3) := by decide +kernel
theorem dX2_effect_25 : decode cX2_effect 25 = .ok (.iconst 2, 1) := by decide +kernel
theorem dX2_effect_26 : decode cX2_effect 26 = .ok (.goto 4, 3) := by decide +kernel
theorem dX2_effect_29 : decode cX2_effect 29 = .ok (.iconst 0, 1) := by decide +kernel
theorem dX2_effect_30 : decode cX2_effect 30 = .ok (.invokevirtual 98, 3) := by decide +kernel
theorem dX2_effect_33 : decode cX2_effect 33 = .ok (.ifCond .eq 5, 3) := by decide +kernel
theorem dX2_effect_36 : decode cX2_effect 36 = .ok (.iconst 0, 1) := by decide +kernel
theorem dX2_effect_37 : decode cX2_effect 37 = .ok (.ireturn, 1) := by decide +kernel
theorem dX2_effect_38 : decode cX2_effect 38 = .ok (.aload_n 0, 1) := by decide +kernel
theorem dX2_effect_39 : decode cX2_effect 39 = .ok (.getfield 16, 3) := by decide +kernel
theorem dX2_effect_42 : decode cX2_effect 42 = .ok (.iload_n 1, 1) := by decide +kernel
theorem dX2_effect_43 : decode cX2_effect 43 = .ok (.iload_n 2, 1) := by decide +kernel
theorem dX2_effect_44 : decode cX2_effect 44 = .ok (.invokestatic 132, 3) := by decide +kernel
theorem dX2_effect_47 : decode cX2_effect 47 = .ok (.ireturn, 1) := by decide +kernel
set_option maxRecDepth 20000 in
theorem ggX2_neighbor_X2_isEffect : GoodIn wsX2_neighbor wsX2_isEffect := (by refine gI_c (gw 6 rfl rfl) ?_; refine gI_c (gw 7 rfl rfl) ?_; refine gI_c (gw 8 rfl rfl) ?_; refine gI_c (gw 9 rfl rfl) ?_; refine gI_c (gw 5 rfl rfl) ?_; refine gI_c (gw 10 rfl rfl) ?_; refine gI_c (gw 26 rfl rfl) ?_; refine gI_c (gw 27 rfl rfl) ?_; refine gI_c (gw 28 rfl rfl) ?_; refine gI_c (gw 29 rfl rfl) ?_; refine gI_c (gw 30 rfl rfl) ?_; refine gI_c (gw 31 rfl rfl) ?_; refine gI_c (gw 32 rfl rfl) ?_; refine gI_c (gw 33 rfl rfl) ?_; refine gI_c (gw 34 rfl rfl) ?_; refine gI_c (gw 35 rfl rfl) ?_; refine gI_c (gw 36 rfl rfl) ?_; refine gI_c (gw 37 rfl rfl) ?_; refine gI_c (gw 38 rfl rfl) ?_; refine gI_c (gw 39 rfl rfl) ?_; refine gI_c (gw 40 rfl rfl) ?_; exact gI_n)
set_option maxRecDepth 20000 in
theorem gX2_neighbor_X2_isEffect : GoodIn wsX2_neighbor (wsV RX2 129 RX2 yX2_isEffect wsX2_isEffect) := goodIn_app (goodIn_of _ (by decide +kernel)) ggX2_neighbor_X2_isEffect
set_option maxRecDepth 20000 in
theorem ggX2_neighbor_X2_refused : GoodIn wsX2_neighbor wsX2_refused := (by refine gI_c (gw 14 rfl rfl) ?_; refine gI_c (gw 15 rfl rfl) ?_; refine gI_c (gw 26 rfl rfl) ?_; refine gI_c (gw 27 rfl rfl) ?_; refine gI_c (gw 28 rfl rfl) ?_; refine gI_c (gw 29 rfl rfl) ?_; refine gI_c (gw 30 rfl rfl) ?_; refine gI_c (gw 31 rfl rfl) ?_; refine gI_c (gw 32 rfl rfl) ?_; refine gI_c (gw 33 rfl rfl) ?_; refine gI_c (gw 34 rfl rfl) ?_; refine gI_c (gw 35 rfl rfl) ?_; refine gI_c (gw 36 rfl rfl) ?_; refine gI_c (gw 37 rfl rfl) ?_; refine gI_c (gw 38 rfl rfl) ?_; refine gI_c (gw 39 rfl rfl) ?_; refine gI_c (gw 40 rfl rfl) ?_; exact gI_n)
set_option maxRecDepth 20000 in
theorem gX2_neighbor_X2_refused : GoodIn wsX2_neighbor (wsV RX2 98 RX2 yX2_refused wsX2_refused) := goodIn_app (goodIn_of _ (by decide +kernel)) ggX2_neighbor_X2_refused
set_option maxRecDepth 20000 in
theorem ggX2_neighbor_X2_behind : GoodIn wsX2_neighbor wsX2_behind := (by refine gI_c (gw 19 rfl rfl) ?_; refine gI_c (gw 7 rfl rfl) ?_; refine gI_c (gw 20 rfl rfl) ?_; refine gI_c (gw 21 rfl rfl) ?_; refine gI_c (gw 5 rfl rfl) ?_; refine gI_c (gw 22 rfl rfl) ?_; refine gI_c (gw 26 rfl rfl) ?_; refine gI_c (gw 27 rfl rfl) ?_; refine gI_c (gw 28 rfl rfl) ?_; refine gI_c (gw 29 rfl rfl) ?_; refine gI_c (gw 30 rfl rfl) ?_; refine gI_c (gw 31 rfl rfl) ?_; refine gI_c (gw 32 rfl rfl) ?_; refine gI_c (gw 33 rfl rfl) ?_; refine gI_c (gw 34 rfl rfl) ?_; refine gI_c (gw 35 rfl rfl) ?_; refine gI_c (gw 36 rfl rfl) ?_; refine gI_c (gw 37 rfl rfl) ?_; refine gI_c (gw 38 rfl rfl) ?_; refine gI_c (gw 39 rfl rfl) ?_; refine gI_c (gw 40 rfl rfl) ?_; exact gI_n)
set_option maxRecDepth 20000 in
theorem gX2_neighbor_X2_behind : GoodIn wsX2_neighbor (wsV RX2 87 RX2 yX2_behind wsX2_behind) := goodIn_app (goodIn_of _ (by decide +kernel)) ggX2_neighbor_X2_behind
set_option maxRecDepth 20000 in
theorem ggX2_neighbor_X2_before : GoodIn wsX2_neighbor wsX2_before := (by refine gI_c (gw 25 rfl rfl) ?_; refine gI_c (gw 20 rfl rfl) ?_; refine gI_c (gw 21 rfl rfl) ?_; refine gI_c (gw 5 rfl rfl) ?_; refine gI_c (gw 22 rfl rfl) ?_; exact gI_n)
set_option maxRecDepth 20000 in
theorem gX2_neighbor_X2_before : GoodIn wsX2_neighbor (va_wsS RX2 136 yX2_before wsX2_before) := goodIn_app (goodIn_of _ (by decide +kernel)) ggX2_neighbor_X2_before
theorem dX2_neighbor_0 : decode cX2_neighbor 0 = .ok (.aload_n 0, 1) := by decide +kernel
theorem dX2_neighbor_1 : decode cX2_neighbor 1 = .ok (.aload_n 0, 1) := by decide +kernel
theorem dX2_neighbor_2 : decode cX2_neighbor 2 = .ok (.iload_n 1, 1) := by decide +kernel
theorem dX2_neighbor_3 : decode cX2_neighbor 3 = .ok (.invokevirtual 129, 3) := by decide +kernel
theorem dX2_neighbor_6 : decode cX2_neighbor 6 = .ok (.ifCond .eq 7, 3) := by decide +kernel
theorem dX2_neighbor_9 : decode cX2_neighbor 9 = .ok (.iconst 0, 1) := by decide +kernel
theorem dX2_neighbor_10 : decode cX2_neighbor 10 = .ok (.goto 4, 3) := by decide +kernel
theorem dX2_neighbor_13 : decode cX2_neighbor 13 = .ok (.iconst 1, 1) := by decide +kernel
theorem dX2_neighbor_14 : decode cX2_neighbor 14 = .ok (.invokevirtual 98, 3) := by decide +kernel
theorem dX2_neighbor_17 : decode cX2_neighbor 17 = .ok (.ifCond .eq 5, 3) := by decide +kernel
theorem dX2_neighbor_20 : decode cX2_neighbor 20 = .ok (.iconst 0, 1) := by decide +kernel
theorem dX2_neighbor_21 : decode cX2_neighbor 21 = .ok (.ireturn, 1) := by decide +kernel
theorem dX2_neighbor_22 : decode cX2_neighbor 22 = .ok (.iload_n 2, 1) := by decide +kernel
theorem dX2_neighbor_23 : decode cX2_neighbor 23 = .ok (.ifCond .eq 15, 3) := by decide +kernel
theorem dX2_neighbor_26 : decode cX2_neighbor 26 = .ok (.aload_n 0, 1) := by decide +kernel
theorem dX2_neighbor_27 : decode cX2_neighbor 27 = .ok (.aload_n 0, 1) := by decide +kernel
theorem dX2_neighbor_28 : decode cX2_neighbor 28 = .ok (.getfield 16, 3) := by decide +kernel
theorem dX2_neighbor_31 : decode cX2_neighbor 31 = .ok (.iload_n 1, 1) := by decide +kernel
theorem dX2_neighbor_32 : decode cX2_neighbor 32 = .ok (.invokevirtual 87, 3) := by decide +kernel
theorem dX2_neighbor_35 : decode cX2_neighbor 35 = .ok (.goto 11, 3) := by decide +kernel
theorem dX2_neighbor_38 : decode cX2_neighbor 38 = .ok (.aload_n 0, 1) := by decide +kernel
theorem dX2_neighbor_39 : decode cX2_neighbor 39 = .ok (.getfield 16, 3) := by decide +kernel
theorem dX2_neighbor_42 : decode cX2_neighbor 42 = .ok (.iload_n 1, 1) := by decide +kernel
theorem dX2_neighbor_43 : decode cX2_neighbor 43 = .ok (.invokestatic 136, 3) := by decide +kernel
theorem dX2_neighbor_46 : decode cX2_neighbor 46 = .ok (.ireturn, 1) := by decide +kernel
theorem dX2_economy_0 : decode cX2_economy 0 = .ok (.aload_n 0, 1) := by decide +kernel
theorem dX2_economy_1 : decode cX2_economy 1 = .ok (.iconst 0, 1) := by decide +kernel
theorem dX2_economy_2 : decode cX2_economy 2 = .ok (.putfield 42, 3) := by decide +kernel
theorem dX2_economy_5 : decode cX2_economy 5 = .ok (.aload_n 0, 1) := by decide +kernel
theorem dX2_economy_6 : decode cX2_economy 6 = .ok (.getfield 16, 3) := by decide +kernel
theorem dX2_economy_9 : decode cX2_economy 9 = .ok (.bipush 54, 2) := by decide +kernel
theorem dX2_economy_11 : decode cX2_economy 11 = .ok (.iaload, 1) := by decide +kernel
theorem dX2_economy_12 : decode cX2_economy 12 = .ok (.ifCond .ne 7, 3) := by decide +kernel
theorem dX2_economy_15 : decode cX2_economy 15 = .ok (.fconst 0, 1) := by decide +kernel
theorem dX2_economy_16 : decode cX2_economy 16 = .ok (.goto 20, 3) := by decide +kernel
theorem dX2_economy_19 : decode cX2_economy 19 = .ok (.aload_n 0, 1) := by decide +kernel
theorem dX2_economy_20 : decode cX2_economy 20 = .ok (.getfield 16, 3) := by decide +kernel
theorem dX2_economy_23 : decode cX2_economy 23 = .ok (.bipush 55, 2) := by decide +kernel
theorem dX2_economy_25 : decode cX2_economy 25 = .ok (.iaload, 1) := by decide +kernel
theorem dX2_economy_26 : decode cX2_economy 26 = .ok (.i2f, 1) := by decide +kernel
theorem dX2_economy_27 : decode cX2_economy 27 = .ok (.aload_n 0, 1) := by decide +kernel
theorem dX2_economy_28 : decode cX2_economy 28 = .ok (.getfield 16, 3) := by decide +kernel
theorem dX2_economy_31 : decode cX2_economy 31 = .ok (.bipush 54, 2) := by decide +kernel
theorem dX2_economy_33 : decode cX2_economy 33 = .ok (.iaload, 1) := by decide +kernel
theorem dX2_economy_34 : decode cX2_economy 34 = .ok (.i2f, 1) := by decide +kernel
theorem dX2_economy_35 : decode cX2_economy 35 = .ok (.fdiv, 1) := by decide +kernel
theorem dX2_economy_36 : decode cX2_economy 36 = .ok (.freturn, 1) := by decide +kernel
set_option maxRecDepth 20000 in
theorem ggX2_share_X2_isEffect : GoodIn wsX2_share wsX2_isEffect := (by refine gI_c (gw 6 rfl rfl) ?_; refine gI_c (gw 7 rfl rfl) ?_; refine gI_c (gw 8 rfl rfl) ?_; refine gI_c (gw 9 rfl rfl) ?_; refine gI_c (gw 5 rfl rfl) ?_; refine gI_c (gw 10 rfl rfl) ?_; refine gI_c (gw 19 rfl rfl) ?_; refine gI_c (gw 20 rfl rfl) ?_; refine gI_c (gw 21 rfl rfl) ?_; refine gI_c (gw 22 rfl rfl) ?_; refine gI_c (gw 23 rfl rfl) ?_; refine gI_c (gw 24 rfl rfl) ?_; refine gI_c (gw 25 rfl rfl) ?_; refine gI_c (gw 26 rfl rfl) ?_; refine gI_c (gw 27 rfl rfl) ?_; refine gI_c (gw 28 rfl rfl) ?_; refine gI_c (gw 29 rfl rfl) ?_; refine gI_c (gw 30 rfl rfl) ?_; refine gI_c (gw 31 rfl rfl) ?_; refine gI_c (gw 32 rfl rfl) ?_; refine gI_c (gw 33 rfl rfl) ?_; exact gI_n)
set_option maxRecDepth 20000 in
theorem gX2_share_X2_isEffect : GoodIn wsX2_share (wsV RX2 129 RX2 yX2_isEffect wsX2_isEffect) := goodIn_app (goodIn_of _ (by decide +kernel)) ggX2_share_X2_isEffect
set_option maxRecDepth 20000 in
theorem ggX2_share_X2_refused : GoodIn wsX2_share wsX2_refused := (by refine gI_c (gw 14 rfl rfl) ?_; refine gI_c (gw 15 rfl rfl) ?_; refine gI_c (gw 19 rfl rfl) ?_; refine gI_c (gw 20 rfl rfl) ?_; refine gI_c (gw 21 rfl rfl) ?_; refine gI_c (gw 22 rfl rfl) ?_; refine gI_c (gw 23 rfl rfl) ?_; refine gI_c (gw 24 rfl rfl) ?_; refine gI_c (gw 25 rfl rfl) ?_; refine gI_c (gw 26 rfl rfl) ?_; refine gI_c (gw 27 rfl rfl) ?_; refine gI_c (gw 28 rfl rfl) ?_; refine gI_c (gw 29 rfl rfl) ?_; refine gI_c (gw 30 rfl rfl) ?_; refine gI_c (gw 31 rfl rfl) ?_; refine gI_c (gw 32 rfl rfl) ?_; refine gI_c (gw 33 rfl rfl) ?_; exact gI_n)
set_option maxRecDepth 20000 in
theorem gX2_share_X2_refused : GoodIn wsX2_share (wsV RX2 98 RX2 yX2_refused wsX2_refused) := goodIn_app (goodIn_of _ (by decide +kernel)) ggX2_share_X2_refused
set_option maxRecDepth 20000 in
theorem ggX2_share_X2_amount : GoodIn wsX2_share wsX2_amount := (by refine gI_c (gw 18 rfl rfl) ?_; exact gI_n)
set_option maxRecDepth 20000 in
theorem gX2_share_X2_amount : GoodIn wsX2_share (va_wsS RX2 58 yX2_amount wsX2_amount) := goodIn_app (goodIn_of _ (by decide +kernel)) ggX2_share_X2_amount
theorem dX2_share_0 : decode cX2_share 0 = .ok (.aload_n 0, 1) := by decide +kernel
theorem dX2_share_1 : decode cX2_share 1 = .ok (.aload_n 0, 1) := by decide +kernel
theorem dX2_share_2 : decode cX2_share 2 = .ok (.iload_n 1, 1) := by decide +kernel
theorem dX2_share_3 : decode cX2_share 3 = .ok (.invokevirtual 129, 3) := by decide +kernel
theorem dX2_share_6 : decode cX2_share 6 = .ok (.ifCond .eq 7, 3) := by decide +kernel
theorem dX2_share_9 : decode cX2_share 9 = .ok (.iconst 0, 1) := by decide +kernel
theorem dX2_share_10 : decode cX2_share 10 = .ok (.goto 4, 3) := by decide +kernel
theorem dX2_share_13 : decode cX2_share 13 = .ok (.iconst 1, 1) := by decide +kernel
theorem dX2_share_14 : decode cX2_share 14 = .ok (.invokevirtual 98, 3) := by decide +kernel
theorem dX2_share_17 : decode cX2_share 17 = .ok (.ifCond .eq 5, 3) := by decide +kernel
theorem dX2_share_20 : decode cX2_share 20 = .ok (.fconst 0, 1) := by decide +kernel
theorem dX2_share_21 : decode cX2_share 21 = .ok (.freturn, 1) := by decide +kernel
theorem dX2_share_22 : decode cX2_share 22 = .ok (.aload_n 0, 1) := by decide +kernel
theorem dX2_share_23 : decode cX2_share 23 = .ok (.getfield 16, 3) := by decide +kernel
theorem dX2_share_26 : decode cX2_share 26 = .ok (.iload_n 1, 1) := by decide +kernel
theorem dX2_share_27 : decode cX2_share 27 = .ok (.invokestatic 58, 3) := by decide +kernel
theorem dX2_share_30 : decode cX2_share 30 = .ok (.ifCond .ne 7, 3) := by decide +kernel
theorem dX2_share_33 : decode cX2_share 33 = .ok (.fconst 0, 1) := by decide +kernel
theorem dX2_share_34 : decode cX2_share 34 = .ok (.goto 23, 3) := by decide +kernel
theorem dX2_share_37 : decode cX2_share 37 = .ok (.aload_n 0, 1) := by decide +kernel
theorem dX2_share_38 : decode cX2_share 38 = .ok (.getfield 16, 3) := by decide +kernel
theorem dX2_share_41 : decode cX2_share 41 = .ok (.bipush 12, 2) := by decide +kernel
theorem dX2_share_43 : decode cX2_share 43 = .ok (.iload_n 1, 1) := by decide +kernel
theorem dX2_share_44 : decode cX2_share 44 = .ok (.iadd, 1) := by decide +kernel
theorem dX2_share_45 : decode cX2_share 45 = .ok (.iaload, 1) := by decide +kernel
theorem dX2_share_46 : decode cX2_share 46 = .ok (.i2f, 1) := by decide +kernel
theorem dX2_share_47 : decode cX2_share 47 = .ok (.aload_n 0, 1) := by decide +kernel
theorem dX2_share_48 : decode cX2_share 48 = .ok (.getfield 16, 3) := by decide +kernel
theorem dX2_share_51 : decode cX2_share 51 = .ok (.iload_n 1, 1) := by decide +kernel
theorem dX2_share_52 : decode cX2_share 52 = .ok (.invokestatic 58, 3) := by decide +kernel
theorem dX2_share_55 : decode cX2_share 55 = .ok (.i2f, 1) := by decide +kernel
theorem dX2_share_56 : decode cX2_share 56 = .ok (.fdiv, 1) := by decide +kernel
theorem dX2_share_57 : decode cX2_share 57 = .ok (.freturn, 1) := by decide +kernel
set_option maxRecDepth 20000 in
theorem ggX2_tick_X2_in : GoodIn wsX2_tick wsX2_in := (by refine gI_c (gw 6 rfl rfl) ?_; exact gI_n)
set_option maxRecDepth 20000 in
theorem gX2_tick_X2_in : GoodIn wsX2_tick (va_wsS RX2 54 yX2_in wsX2_in) := goodIn_app (goodIn_of _ (by decide +kernel)) ggX2_tick_X2_in
set_option maxRecDepth 20000 in
theorem ggX2_tick_X2_refused : GoodIn wsX2_tick wsX2_refused := (by refine gI_c (gw 10 rfl rfl) ?_; refine gI_c (gw 11 rfl rfl) ?_; refine gI_c (gw 63 rfl rfl) ?_; refine gI_c (gw 64 rfl rfl) ?_; refine gI_c (gw 65 rfl rfl) ?_; refine gI_c (gw 66 rfl rfl) ?_; refine gI_c (gw 67 rfl rfl) ?_; refine gI_c (gw 68 rfl rfl) ?_; refine gI_c (gw 69 rfl rfl) ?_; refine gI_c (gw 70 rfl rfl) ?_; refine gI_c (gw 71 rfl rfl) ?_; refine gI_c (gw 72 rfl rfl) ?_; refine gI_c (gw 73 rfl rfl) ?_; refine gI_c (gw 74 rfl rfl) ?_; refine gI_c (gw 75 rfl rfl) ?_; refine gI_c (gw 76 rfl rfl) ?_; refine gI_c (gw 77 rfl rfl) ?_; exact gI_n)
set_option maxRecDepth 20000 in
theorem gX2_tick_X2_refused : GoodIn wsX2_tick (wsV RX2 98 RX2 yX2_refused wsX2_refused) := goodIn_app (goodIn_of _ (by decide +kernel)) ggX2_tick_X2_refused
set_option maxRecDepth 20000 in
theorem ggX2_tick_X2_note : GoodIn wsX2_tick wsX2_note := (by refine gI_c (gw 15 rfl rfl) ?_; refine gI_c (gw 16 rfl rfl) ?_; refine gI_c (gw 17 rfl rfl) ?_; refine gI_c (gw 2 rfl rfl) ?_; refine gI_c (gw 18 rfl rfl) ?_; refine gI_c (gw 19 rfl rfl) ?_; refine gI_c (gw 5 rfl rfl) ?_; refine gI_c (gw 20 rfl rfl) ?_; refine gI_c (gw 63 rfl rfl) ?_; refine gI_c (gw 64 rfl rfl) ?_; refine gI_c (gw 65 rfl rfl) ?_; refine gI_c (gw 66 rfl rfl) ?_; refine gI_c (gw 67 rfl rfl) ?_; refine gI_c (gw 68 rfl rfl) ?_; refine gI_c (gw 69 rfl rfl) ?_; refine gI_c (gw 70 rfl rfl) ?_; refine gI_c (gw 71 rfl rfl) ?_; refine gI_c (gw 72 rfl rfl) ?_; refine gI_c (gw 73 rfl rfl) ?_; refine gI_c (gw 74 rfl rfl) ?_; refine gI_c (gw 75 rfl rfl) ?_; refine gI_c (gw 76 rfl rfl) ?_; refine gI_c (gw 77 rfl rfl) ?_; exact gI_n)
set_option maxRecDepth 20000 in
theorem gX2_tick_X2_note : GoodIn wsX2_tick (wsV RX2 141 RX2 yX2_note wsX2_note) := goodIn_app (goodIn_of _ (by decide +kernel)) ggX2_tick_X2_note
set_option maxRecDepth 20000 in
theorem ggX2_tick_X2_ticksOn : GoodIn wsX2_tick wsX2_ticksOn := (by refine gI_c (gw 24 rfl rfl) ?_; refine gI_c (gw 25 rfl rfl) ?_; refine gI_c (gw 26 rfl rfl) ?_; refine gI_c (gw 27 rfl rfl) ?_; refine gI_c (gw 5 rfl rfl) ?_; refine gI_c (gw 28 rfl rfl) ?_; refine gI_c (gw 29 rfl rfl) ?_; refine gI_c (gw 30 rfl rfl) ?_; refine gI_c (gw 31 rfl rfl) ?_; refine gI_c (gw 32 rfl rfl) ?_; refine gI_c (gw 33 rfl rfl) ?_; refine gI_c (gw 34 rfl rfl) ?_; refine gI_c (gw 35 rfl rfl) ?_; refine gI_c (gw 36 rfl rfl) ?_; refine gI_c (gw 37 rfl rfl) ?_; refine gI_c (gw 38 rfl rfl) ?_; refine gI_c (gw 39 rfl rfl) ?_; refine gI_c (gw 40 rfl rfl) ?_; refine gI_c (gw 41 rfl rfl) ?_; refine gI_c (gw 42 rfl rfl) ?_; refine gI_c (gw 43 rfl rfl) ?_; refine gI_c (gw 44 rfl rfl) ?_; refine gI_c (gw 45 rfl rfl) ?_; refine gI_c (gw 46 rfl rfl) ?_; refine gI_c (gw 47 rfl rfl) ?_; refine gI_c (gw 48 rfl rfl) ?_; refine gI_c (gw 49 rfl rfl) ?_; refine gI_c (gw 50 rfl rfl) ?_; refine gI_c (gw 51 rfl rfl) ?_; refine gI_c (gw 52 rfl rfl) ?_; refine gI_c (gw 53 rfl rfl) ?_; refine gI_c (gw 54 rfl rfl) ?_; refine gI_c (gw 55 rfl rfl) ?_; refine gI_c (gw 56 rfl rfl) ?_; refine gI_c (gw 57 rfl rfl) ?_; refine gI_c (gw 58 rfl rfl) ?_; refine gI_c (gw 59 rfl rfl) ?_; refine gI_c (gw 60 rfl rfl) ?_; refine gI_c (gw 61 rfl rfl) ?_; refine gI_c (gw 62 rfl rfl) ?_; refine gI_c (gw 63 rfl rfl) ?_; refine gI_c (gw 64 rfl rfl) ?_; refine gI_c (gw 65 rfl rfl) ?_; refine gI_c (gw 66 rfl rfl) ?_; refine gI_c (gw 67 rfl rfl) ?_; refine gI_c (gw 68 rfl rfl) ?_; refine gI_c (gw 69 rfl rfl) ?_; refine gI_c (gw 70 rfl rfl) ?_; refine gI_c (gw 71 rfl rfl) ?_; refine gI_c (gw 72 rfl rfl) ?_; refine gI_c (gw 73 rfl rfl) ?_; refine gI_c (gw 74 rfl rfl) ?_; refine gI_c (gw 75 rfl rfl) ?_; refine gI_c (gw 76 rfl rfl) ?_; refine gI_c (gw 77 rfl rfl) ?_; exact gI_n)
set_option maxRecDepth 20000 in
theorem gX2_tick_X2_ticksOn : GoodIn wsX2_tick (wsV RX2 144 RX2 yX2_ticksOn wsX2_ticksOn) := goodIn_app (goodIn_of _ (by decide +kernel)) ggX2_tick_X2_ticksOn
theorem dX2_tick_0 : decode cX2_tick 0 = .ok (.aload_n 0, 1) := by decide +kernel
theorem dX2_tick_1 : decode cX2_tick 1 = .ok (.iload_n 1, 1) := by decide +kernel
theorem dX2_tick_2 : decode cX2_tick 2 = .ok (.i2l, 1) := by decide +kernel
theorem dX2_tick_3 : decode cX2_tick 3 = .ok (.lconst 1, 1) := by decide +kernel
theorem dX2_tick_4 : decode cX2_tick 4 = .ok (.ldc2_w 139, 3) := by decide +kernel
theorem dX2_tick_7 : decode cX2_tick 7 = .ok (.invokestatic 54, 3) := by decide +kernel
theorem dX2_tick_10 : decode cX2_tick 10 = .ok (.ifCond .eq 7, 3) := by decide +kernel
theorem dX2_tick_13 : decode cX2_tick 13 = .ok (.iconst 0, 1) := by decide +kernel
theorem dX2_tick_14 : decode cX2_tick 14 = .ok (.goto 4, 3) := by decide +kernel
theorem dX2_tick_17 : decode cX2_tick 17 = .ok (.iconst 1, 1) := by decide +kernel
theorem dX2_tick_18 : decode cX2_tick 18 = .ok (.invokevirtual 98, 3) := by decide +kernel
theorem dX2_tick_21 : decode cX2_tick 21 = .ok (.ifCond .eq 5, 3) := by decide +kernel
theorem dX2_tick_24 : decode cX2_tick 24 = .ok (.iconst 0, 1) := by decide +kernel
theorem dX2_tick_25 : decode cX2_tick 25 = .ok (.ireturn, 1) := by decide +kernel
theorem dX2_tick_26 : decode cX2_tick 26 = .ok (.aload_n 0, 1) := by decide +kernel
theorem dX2_tick_27 : decode cX2_tick 27 = .ok (.invokevirtual 141, 3) := by decide +kernel
theorem dX2_tick_30 : decode cX2_tick 30 = .ok (.aload_n 0, 1) := by decide +kernel
theorem dX2_tick_31 : decode cX2_tick 31 = .ok (.aload_n 0, 1) := by decide +kernel
theorem dX2_tick_32 : decode cX2_tick 32 = .ok (.getfield 16, 3) := by decide +kernel
theorem dX2_tick_35 : decode cX2_tick 35 = .ok (.iload_n 1, 1) := by decide +kernel
theorem dX2_tick_36 : decode cX2_tick 36 = .ok (.invokevirtual 144, 3) := by decide +kernel
theorem dX2_tick_39 : decode cX2_tick 39 = .ok (.ireturn, 1) := by decide +kernel
set_option maxRecDepth 20000 in
theorem ggX2_set_X2_in : GoodIn wsX2_set wsX2_in := (by refine gI_c (gw 9 rfl rfl) ?_; exact gI_n)
set_option maxRecDepth 20000 in
theorem gX2_set_X2_in : GoodIn wsX2_set (va_wsS RX2 54 yX2_in wsX2_in) := goodIn_app (goodIn_of _ (by decide +kernel)) ggX2_set_X2_in
set_option maxRecDepth 20000 in
theorem ggX2_set_X2_refused : GoodIn wsX2_set wsX2_refused := (by refine gI_c (gw 13 rfl rfl) ?_; refine gI_c (gw 14 rfl rfl) ?_; refine gI_c (gw 24 rfl rfl) ?_; refine gI_c (gw 25 rfl rfl) ?_; refine gI_c (gw 26 rfl rfl) ?_; refine gI_c (gw 27 rfl rfl) ?_; refine gI_c (gw 28 rfl rfl) ?_; refine gI_c (gw 29 rfl rfl) ?_; refine gI_c (gw 30 rfl rfl) ?_; refine gI_c (gw 31 rfl rfl) ?_; refine gI_c (gw 32 rfl rfl) ?_; refine gI_c (gw 33 rfl rfl) ?_; refine gI_c (gw 34 rfl rfl) ?_; refine gI_c (gw 35 rfl rfl) ?_; refine gI_c (gw 36 rfl rfl) ?_; refine gI_c (gw 37 rfl rfl) ?_; refine gI_c (gw 38 rfl rfl) ?_; exact gI_n)
set_option maxRecDepth 20000 in
theorem gX2_set_X2_refused : GoodIn wsX2_set (wsV RX2 98 RX2 yX2_refused wsX2_refused) := goodIn_app (goodIn_of _ (by decide +kernel)) ggX2_set_X2_refused
set_option maxRecDepth 20000 in
theorem ggX2_set_X2_note : GoodIn wsX2_set wsX2_note := (by refine gI_c (gw 18 rfl rfl) ?_; refine gI_c (gw 19 rfl rfl) ?_; refine gI_c (gw 20 rfl rfl) ?_; refine gI_c (gw 5 rfl rfl) ?_; refine gI_c (gw 21 rfl rfl) ?_; refine gI_c (gw 22 rfl rfl) ?_; refine gI_c (gw 8 rfl rfl) ?_; refine gI_c (gw 23 rfl rfl) ?_; refine gI_c (gw 24 rfl rfl) ?_; refine gI_c (gw 25 rfl rfl) ?_; refine gI_c (gw 26 rfl rfl) ?_; refine gI_c (gw 27 rfl rfl) ?_; refine gI_c (gw 28 rfl rfl) ?_; refine gI_c (gw 29 rfl rfl) ?_; refine gI_c (gw 30 rfl rfl) ?_; refine gI_c (gw 31 rfl rfl) ?_; refine gI_c (gw 32 rfl rfl) ?_; refine gI_c (gw 33 rfl rfl) ?_; refine gI_c (gw 34 rfl rfl) ?_; refine gI_c (gw 35 rfl rfl) ?_; refine gI_c (gw 36 rfl rfl) ?_; refine gI_c (gw 37 rfl rfl) ?_; refine gI_c (gw 38 rfl rfl) ?_; exact gI_n)
set_option maxRecDepth 20000 in
theorem gX2_set_X2_note : GoodIn wsX2_set (wsV RX2 141 RX2 yX2_note wsX2_note) := goodIn_app (goodIn_of _ (by decide +kernel)) ggX2_set_X2_note
theorem dX2_set_0 : decode cX2_set 0 = .ok (.iload_n 1, 1) := by decide +kernel
theorem dX2_set_1 : decode cX2_set 1 = .ok (.iconst 2, 1) := by decide +kernel
theorem dX2_set_2 : decode cX2_set 2 = .ok (.if_icmp .ge 15, 3) := by decide +kernel
theorem dX2_set_5 : decode cX2_set 5 = .ok (.iload_n 2, 1) := by decide +kernel
theorem dX2_set_6 : decode cX2_set 6 = .ok (.i2l, 1) := by decide +kernel
theorem dX2_set_7 : decode cX2_set 7 = .ok (.lconst 0, 1) := by decide +kernel
theorem dX2_set_8 : decode cX2_set 8 = .ok (.ldc2_w 147, 3) := by decide +kernel
theorem dX2_set_11 : decode cX2_set 11 = .ok (.invokestatic 54, 3) := by decide +kernel
theorem dX2_set_14 : decode cX2_set 14 = .ok (.goto 29, 3) := by decide +kernel
theorem dX2_set_17 : decode cX2_set 17 = .ok (.iload_n 1, 1) := by decide +kernel
theorem dX2_set_18 : decode cX2_set 18 = .ok (.iconst 4, 1) := by decide +kernel
theorem dX2_set_19 : decode cX2_set 19 = .ok (.if_icmp .ge 15, 3) := by decide +kernel
theorem dX2_set_22 : decode cX2_set 22 = .ok (.iload_n 2, 1) := by decide +kernel
theorem dX2_set_23 : decode cX2_set 23 = .ok (.i2l, 1) := by decide +kernel
theorem dX2_set_24 : decode cX2_set 24 = .ok (.lconst 0, 1) := by decide +kernel
theorem dX2_set_25 : decode cX2_set 25 = .ok (.ldc2_w 139, 3) := by decide +kernel
theorem dX2_set_28 : decode cX2_set 28 = .ok (.invokestatic 54, 3) := by decide +kernel
theorem dX2_set_31 : decode cX2_set 31 = .ok (.goto 12, 3) := by decide +kernel
theorem dX2_set_34 : decode cX2_set 34 = .ok (.iload_n 2, 1) := by decide +kernel
theorem dX2_set_35 : decode cX2_set 35 = .ok (.i2l, 1) := by decide +kernel
theorem dX2_set_36 : decode cX2_set 36 = .ok (.lconst 1, 1) := by decide +kernel
theorem dX2_set_37 : decode cX2_set 37 = .ok (.ldc2_w 149, 3) := by decide +kernel
theorem dX2_set_40 : decode cX2_set 40 = .ok (.invokestatic 54, 3) := by decide +kernel
theorem dX2_set_43 : decode cX2_set 43 = .ok (.istore_n 3, 1) := by decide +kernel
theorem dX2_set_44 : decode cX2_set 44 = .ok (.aload_n 0, 1) := by decide +kernel
theorem dX2_set_45 : decode cX2_set 45 = .ok (.iload_n 1, 1) := by decide +kernel
theorem dX2_set_46 : decode cX2_set 46 = .ok (.i2l, 1) := by decide +kernel
theorem dX2_set_47 : decode cX2_set 47 = .ok (.lconst 0, 1) := by decide +kernel
theorem dX2_set_48 : decode cX2_set 48 = .ok (.ldc2_w 151, 3) := by decide +kernel
theorem dX2_set_51 : decode cX2_set 51 = .ok (.invokestatic 54, 3) := by decide +kernel
theorem dX2_set_54 : decode cX2_set 54 = .ok (.ifCond .eq 11, 3) := by decide +kernel
theorem dX2_set_57 : decode cX2_set 57 = .ok (.iload_n 3, 1) := by decide +kernel
theorem dX2_set_58 : decode cX2_set 58 = .ok (.ifCond .eq 7, 3) := by decide +kernel
theorem dX2_set_61 : decode cX2_set 61 = .ok (.iconst 0, 1) := by decide +kernel
theorem dX2_set_62 : decode cX2_set 62 = .ok (.goto 4, 3) := by decide +kernel
theorem dX2_set_65 : decode cX2_set 65 = .ok (.iconst 1, 1) := by decide +kernel
theorem dX2_set_66 : decode cX2_set 66 = .ok (.invokevirtual 98, 3) := by decide +kernel
theorem dX2_set_69 : decode cX2_set 69 = .ok (.ifCond .eq 5, 3) := by decide +kernel
theorem dX2_set_72 : decode cX2_set 72 = .ok (.iconst 0, 1) := by decide +kernel
theorem dX2_set_73 : decode cX2_set 73 = .ok (.ireturn, 1) := by decide +kernel
theorem dX2_set_74 : decode cX2_set 74 = .ok (.aload_n 0, 1) := by decide +kernel
theorem dX2_set_75 : decode cX2_set 75 = .ok (.invokevirtual 141, 3) := by decide +kernel
theorem dX2_set_78 : decode cX2_set 78 = .ok (.aload_n 0, 1) := by decide +kernel
theorem dX2_set_79 : decode cX2_set 79 = .ok (.getfield 16, 3) := by decide +kernel
theorem dX2_set_82 : decode cX2_set 82 = .ok (.bipush 48, 2) := by decide +kernel
theorem dX2_set_84 : decode cX2_set 84 = .ok (.iload_n 1, 1) := by decide +kernel
theorem dX2_set_85 : decode cX2_set 85 = .ok (.iadd, 1) := by decide +kernel
theorem dX2_set_86 : decode cX2_set 86 = .ok (.iaload, 1) := by decide +kernel
theorem dX2_set_87 : decode cX2_set 87 = .ok (.istore 4, 2) := by decide +kernel
theorem dX2_set_89 : decode cX2_set 89 = .ok (.aload_n 0, 1) := by decide +kernel
theorem dX2_set_90 : decode cX2_set 90 = .ok (.getfield 16, 3) := by decide +kernel
theorem dX2_set_93 : decode cX2_set 93 = .ok (.bipush 48, 2) := by decide +kernel
theorem dX2_set_95 : decode cX2_set 95 = .ok (.iload_n 1, 1) := by decide +kernel
theorem dX2_set_96 : decode cX2_set 96 = .ok (.iadd, 1) := by decide +kernel
theorem dX2_set_97 : decode cX2_set 97 = .ok (.iload_n 2, 1) := by decide +kernel
theorem dX2_set_98 : decode cX2_set 98 = .ok (.iastore, 1) := by decide +kernel
theorem dX2_set_99 : decode cX2_set 99 = .ok (.iload 4, 2) := by decide +kernel
theorem dX2_set_101 : decode cX2_set 101 = .ok (.ireturn, 1) := by decide +kernel
set_option maxRecDepth 20000 in
theorem ggX2_change_X2_note : GoodIn wsX2_change wsX2_note := (by refine gI_c (gw 6 rfl rfl) ?_; refine gI_c (gw 7 rfl rfl) ?_; refine gI_c (gw 8 rfl rfl) ?_; refine gI_c (gw 1 rfl rfl) ?_; refine gI_c (gw 9 rfl rfl) ?_; refine gI_c (gw 10 rfl rfl) ?_; refine gI_c (gw 5 rfl rfl) ?_; refine gI_c (gw 11 rfl rfl) ?_; refine gI_c (gw 12 rfl rfl) ?_; refine gI_c (gw 13 rfl rfl) ?_; refine gI_c (gw 14 rfl rfl) ?_; refine gI_c (gw 15 rfl rfl) ?_; refine gI_c (gw 16 rfl rfl) ?_; refine gI_c (gw 17 rfl rfl) ?_; refine gI_c (gw 18 rfl rfl) ?_; refine gI_c (gw 19 rfl rfl) ?_; refine gI_c (gw 20 rfl rfl) ?_; refine gI_c (gw 21 rfl rfl) ?_; refine gI_c (gw 22 rfl rfl) ?_; refine gI_c (gw 23 rfl rfl) ?_; refine gI_c (gw 24 rfl rfl) ?_; refine gI_c (gw 25 rfl rfl) ?_; refine gI_c (gw 26 rfl rfl) ?_; exact gI_n)
set_option maxRecDepth 20000 in
theorem gX2_change_X2_note : GoodIn wsX2_change (wsV RX2 141 RX2 yX2_note wsX2_note) := goodIn_app (goodIn_of _ (by decide +kernel)) ggX2_change_X2_note
theorem dX2_change_0 : decode cX2_change 0 = .ok (.aload_n 0, 1) := by decide +kernel
theorem dX2_change_1 : decode cX2_change 1 = .ok (.invokevirtual 141, 3) := by decide +kernel
theorem dX2_change_4 : decode cX2_change 4 = .ok (.aload_n 0, 1) := by decide +kernel
theorem dX2_change_5 : decode cX2_change 5 = .ok (.getfield 16, 3) := by decide +kernel
theorem dX2_change_8 : decode cX2_change 8 = .ok (.iload_n 1, 1) := by decide +kernel
theorem dX2_change_9 : decode cX2_change 9 = .ok (.iaload, 1) := by decide +kernel
theorem dX2_change_10 : decode cX2_change 10 = .ok (.istore_n 3, 1) := by decide +kernel
theorem dX2_change_11 : decode cX2_change 11 = .ok (.aload_n 0, 1) := by decide +kernel
theorem dX2_change_12 : decode cX2_change 12 = .ok (.getfield 16, 3) := by decide +kernel
theorem dX2_change_15 : decode cX2_change 15 = .ok (.iload_n 1, 1) := by decide +kernel
theorem dX2_change_16 : decode cX2_change 16 = .ok (.iload_n 2, 1) := by decide +kernel
theorem dX2_change_17 : decode cX2_change 17 = .ok (.iastore, 1) := by decide +kernel
theorem dX2_change_18 : decode cX2_change 18 = .ok (.iload_n 3, 1) := by decide +kernel
theorem dX2_change_19 : decode cX2_change 19 = .ok (.ireturn, 1) := by decide +kernel
set_option maxRecDepth 20000 in
theorem ggX2_setValve_X2_isEffect : GoodIn wsX2_setValve wsX2_isEffect := (by refine gI_c (gw 6 rfl rfl) ?_; refine gI_c (gw 7 rfl rfl) ?_; refine gI_c (gw 8 rfl rfl) ?_; refine gI_c (gw 9 rfl rfl) ?_; refine gI_c (gw 5 rfl rfl) ?_; refine gI_c (gw 10 rfl rfl) ?_; refine gI_c (gw 30 rfl rfl) ?_; refine gI_c (gw 31 rfl rfl) ?_; refine gI_c (gw 32 rfl rfl) ?_; refine gI_c (gw 33 rfl rfl) ?_; refine gI_c (gw 34 rfl rfl) ?_; refine gI_c (gw 35 rfl rfl) ?_; refine gI_c (gw 36 rfl rfl) ?_; refine gI_c (gw 37 rfl rfl) ?_; refine gI_c (gw 38 rfl rfl) ?_; refine gI_c (gw 39 rfl rfl) ?_; refine gI_c (gw 40 rfl rfl) ?_; refine gI_c (gw 41 rfl rfl) ?_; refine gI_c (gw 42 rfl rfl) ?_; refine gI_c (gw 43 rfl rfl) ?_; refine gI_c (gw 44 rfl rfl) ?_; exact gI_n)
set_option maxRecDepth 20000 in
theorem gX2_setValve_X2_isEffect : GoodIn wsX2_setValve (wsV RX2 129 RX2 yX2_isEffect wsX2_isEffect) := goodIn_app (goodIn_of _ (by decide +kernel)) ggX2_setValve_X2_isEffect
set_option maxRecDepth 20000 in
theorem ggX2_setValve_X2_in : GoodIn wsX2_setValve wsX2_in := (by refine gI_c (gw 10 rfl rfl) ?_; exact gI_n)
set_option maxRecDepth 20000 in
theorem gX2_setValve_X2_in : GoodIn wsX2_setValve (va_wsS RX2 54 yX2_in wsX2_in) := goodIn_app (goodIn_of _ (by decide +kernel)) ggX2_setValve_X2_in
set_option maxRecDepth 20000 in
theorem ggX2_setValve_X2_refused : GoodIn wsX2_setValve wsX2_refused := (by refine gI_c (gw 14 rfl rfl) ?_; refine gI_c (gw 15 rfl rfl) ?_; refine gI_c (gw 30 rfl rfl) ?_; refine gI_c (gw 31 rfl rfl) ?_; refine gI_c (gw 32 rfl rfl) ?_; refine gI_c (gw 33 rfl rfl) ?_; refine gI_c (gw 34 rfl rfl) ?_; refine gI_c (gw 35 rfl rfl) ?_; refine gI_c (gw 36 rfl rfl) ?_; refine gI_c (gw 37 rfl rfl) ?_; refine gI_c (gw 38 rfl rfl) ?_; refine gI_c (gw 39 rfl rfl) ?_; refine gI_c (gw 40 rfl rfl) ?_; refine gI_c (gw 41 rfl rfl) ?_; refine gI_c (gw 42 rfl rfl) ?_; refine gI_c (gw 43 rfl rfl) ?_; refine gI_c (gw 44 rfl rfl) ?_; exact gI_n)
set_option maxRecDepth 20000 in
theorem gX2_setValve_X2_refused : GoodIn wsX2_setValve (wsV RX2 98 RX2 yX2_refused wsX2_refused) := goodIn_app (goodIn_of _ (by decide +kernel)) ggX2_setValve_X2_refused
set_option maxRecDepth 20000 in
theorem ggX2_setValve_X2_change : GoodIn wsX2_setValve wsX2_change := (by refine gI_c (gw 19 rfl rfl) ?_; refine gI_c (gw 20 rfl rfl) ?_; refine gI_c (gw 21 rfl rfl) ?_; refine gI_c (gw 22 rfl rfl) ?_; refine gI_c (gw 23 rfl rfl) ?_; refine gI_c (gw 5 rfl rfl) ?_; refine gI_c (gw 24 rfl rfl) ?_; refine gI_c (gw 25 rfl rfl) ?_; refine gI_c (gw 26 rfl rfl) ?_; refine gI_c (gw 27 rfl rfl) ?_; refine gI_c (gw 28 rfl rfl) ?_; refine gI_c (gw 29 rfl rfl) ?_; refine gI_c (gw 30 rfl rfl) ?_; refine gI_c (gw 31 rfl rfl) ?_; refine gI_c (gw 32 rfl rfl) ?_; refine gI_c (gw 33 rfl rfl) ?_; refine gI_c (gw 34 rfl rfl) ?_; refine gI_c (gw 35 rfl rfl) ?_; refine gI_c (gw 36 rfl rfl) ?_; refine gI_c (gw 37 rfl rfl) ?_; refine gI_c (gw 38 rfl rfl) ?_; refine gI_c (gw 39 rfl rfl) ?_; refine gI_c (gw 40 rfl rfl) ?_; refine gI_c (gw 41 rfl rfl) ?_; refine gI_c (gw 42 rfl rfl) ?_; refine gI_c (gw 43 rfl rfl) ?_; refine gI_c (gw 44 rfl rfl) ?_; exact gI_n)
set_option maxRecDepth 20000 in
theorem gX2_setValve_X2_change : GoodIn wsX2_setValve (wsV RX2 153 RX2 yX2_change wsX2_change) := goodIn_app (goodIn_of _ (by decide +kernel)) ggX2_setValve_X2_change
theorem dX2_setValve_0 : decode cX2_setValve 0 = .ok (.aload_n 0, 1) := by decide +kernel
theorem dX2_setValve_1 : decode cX2_setValve 1 = .ok (.aload_n 0, 1) := by decide +kernel
theorem dX2_setValve_2 : decode cX2_setValve 2 = .ok (.iload_n 1, 1) := by decide +kernel
theorem dX2_setValve_3 : decode cX2_setValve 3 = .ok (.invokevirtual 129, 3) := by decide +kernel
theorem dX2_setValve_6 : decode cX2_setValve 6 = .ok (.ifCond .ne 7, 3) := by decide +kernel
theorem dX2_setValve_9 : decode cX2_setValve 9 = .ok (.iconst 1, 1) := by decide +kernel
theorem dX2_setValve_10 : decode cX2_setValve 10 = .ok (.goto 20, 3) := by decide +kernel
theorem dX2_setValve_13 : decode cX2_setValve 13 = .ok (.iload_n 2, 1) := by decide +kernel
theorem dX2_setValve_14 : decode cX2_setValve 14 = .ok (.i2l, 1) := by decide +kernel
theorem dX2_setValve_15 : decode cX2_setValve 15 = .ok (.lconst 0, 1) := by decide +kernel
theorem dX2_setValve_16 : decode cX2_setValve 16 = .ok (.ldc2_w 147, 3) := by decide +kernel
theorem dX2_setValve_19 : decode cX2_setValve 19 = .ok (.invokestatic 54, 3) := by decide +kernel
theorem dX2_setValve_22 : decode cX2_setValve 22 = .ok (.ifCond .ne 7, 3) := by decide +kernel
theorem dX2_setValve_25 : decode cX2_setValve 25 = .ok (.iconst 2, 1) := by decide +kernel
theorem dX2_setValve_26 : decode cX2_setValve 26 = .ok (.goto 4, 3) := by decide +kernel
theorem dX2_setValve_29 : decode cX2_setValve 29 = .ok (.iconst 0, 1) := by decide +kernel
theorem dX2_setValve_30 : decode cX2_setValve 30 = .ok (.invokevirtual 98, 3) := by decide +kernel
theorem dX2_setValve_33 : decode cX2_setValve 33 = .ok (.ifCond .eq 5, 3) := by decide +kernel
theorem dX2_setValve_36 : decode cX2_setValve 36 = .ok (.iconst 0, 1) := by decide +kernel
theorem dX2_setValve_37 : decode cX2_setValve 37 = .ok (.ireturn, 1) := by decide +kernel
theorem dX2_setValve_38 : decode cX2_setValve 38 = .ok (.aload_n 0, 1) := by decide +kernel
theorem dX2_setValve_39 : decode cX2_setValve 39 = .ok (.bipush 18, 2) := by decide +kernel
theorem dX2_setValve_41 : decode cX2_setValve 41 = .ok (.iload_n 1, 1) := by decide +kernel
theorem dX2_setValve_42 : decode cX2_setValve 42 = .ok (.iadd, 1) := by decide +kernel
theorem dX2_setValve_43 : decode cX2_setValve 43 = .ok (.iload_n 2, 1) := by decide +kernel
theorem dX2_setValve_44 : decode cX2_setValve 44 = .ok (.invokevirtual 153, 3) := by decide +kernel
theorem dX2_setValve_47 : decode cX2_setValve 47 = .ok (.ireturn, 1) := by decide +kernel
set_option maxRecDepth 20000 in
theorem ggX2_setBleed_X2_isEffect : GoodIn wsX2_setBleed wsX2_isEffect := (by refine gI_c (gw 6 rfl rfl) ?_; refine gI_c (gw 7 rfl rfl) ?_; refine gI_c (gw 8 rfl rfl) ?_; refine gI_c (gw 9 rfl rfl) ?_; refine gI_c (gw 5 rfl rfl) ?_; refine gI_c (gw 10 rfl rfl) ?_; refine gI_c (gw 30 rfl rfl) ?_; refine gI_c (gw 31 rfl rfl) ?_; refine gI_c (gw 32 rfl rfl) ?_; refine gI_c (gw 33 rfl rfl) ?_; refine gI_c (gw 34 rfl rfl) ?_; refine gI_c (gw 35 rfl rfl) ?_; refine gI_c (gw 36 rfl rfl) ?_; refine gI_c (gw 37 rfl rfl) ?_; refine gI_c (gw 38 rfl rfl) ?_; refine gI_c (gw 39 rfl rfl) ?_; refine gI_c (gw 40 rfl rfl) ?_; refine gI_c (gw 41 rfl rfl) ?_; refine gI_c (gw 42 rfl rfl) ?_; refine gI_c (gw 43 rfl rfl) ?_; refine gI_c (gw 44 rfl rfl) ?_; exact gI_n)
set_option maxRecDepth 20000 in
theorem gX2_setBleed_X2_isEffect : GoodIn wsX2_setBleed (wsV RX2 129 RX2 yX2_isEffect wsX2_isEffect) := goodIn_app (goodIn_of _ (by decide +kernel)) ggX2_setBleed_X2_isEffect
set_option maxRecDepth 20000 in
theorem ggX2_setBleed_X2_in : GoodIn wsX2_setBleed wsX2_in := (by refine gI_c (gw 10 rfl rfl) ?_; exact gI_n)
set_option maxRecDepth 20000 in
theorem gX2_setBleed_X2_in : GoodIn wsX2_setBleed (va_wsS RX2 54 yX2_in wsX2_in) := goodIn_app (goodIn_of _ (by decide +kernel)) ggX2_setBleed_X2_in
set_option maxRecDepth 20000 in
theorem ggX2_setBleed_X2_refused : GoodIn wsX2_setBleed wsX2_refused := (by refine gI_c (gw 14 rfl rfl) ?_; refine gI_c (gw 15 rfl rfl) ?_; refine gI_c (gw 30 rfl rfl) ?_; refine gI_c (gw 31 rfl rfl) ?_; refine gI_c (gw 32 rfl rfl) ?_; refine gI_c (gw 33 rfl rfl) ?_; refine gI_c (gw 34 rfl rfl) ?_; refine gI_c (gw 35 rfl rfl) ?_; refine gI_c (gw 36 rfl rfl) ?_; refine gI_c (gw 37 rfl rfl) ?_; refine gI_c (gw 38 rfl rfl) ?_; refine gI_c (gw 39 rfl rfl) ?_; refine gI_c (gw 40 rfl rfl) ?_; refine gI_c (gw 41 rfl rfl) ?_; refine gI_c (gw 42 rfl rfl) ?_; refine gI_c (gw 43 rfl rfl) ?_; refine gI_c (gw 44 rfl rfl) ?_; exact gI_n)
set_option maxRecDepth 20000 in
theorem gX2_setBleed_X2_refused : GoodIn wsX2_setBleed (wsV RX2 98 RX2 yX2_refused wsX2_refused) := goodIn_app (goodIn_of _ (by decide +kernel)) ggX2_setBleed_X2_refused
set_option maxRecDepth 20000 in
theorem ggX2_setBleed_X2_change : GoodIn wsX2_setBleed wsX2_change := (by refine gI_c (gw 19 rfl rfl) ?_; refine gI_c (gw 20 rfl rfl) ?_; refine gI_c (gw 21 rfl rfl) ?_; refine gI_c (gw 22 rfl rfl) ?_; refine gI_c (gw 23 rfl rfl) ?_; refine gI_c (gw 5 rfl rfl) ?_; refine gI_c (gw 24 rfl rfl) ?_; refine gI_c (gw 25 rfl rfl) ?_; refine gI_c (gw 26 rfl rfl) ?_; refine gI_c (gw 27 rfl rfl) ?_; refine gI_c (gw 28 rfl rfl) ?_; refine gI_c (gw 29 rfl rfl) ?_; refine gI_c (gw 30 rfl rfl) ?_; refine gI_c (gw 31 rfl rfl) ?_; refine gI_c (gw 32 rfl rfl) ?_; refine gI_c (gw 33 rfl rfl) ?_; refine gI_c (gw 34 rfl rfl) ?_; refine gI_c (gw 35 rfl rfl) ?_; refine gI_c (gw 36 rfl rfl) ?_; refine gI_c (gw 37 rfl rfl) ?_; refine gI_c (gw 38 rfl rfl) ?_; refine gI_c (gw 39 rfl rfl) ?_; refine gI_c (gw 40 rfl rfl) ?_; refine gI_c (gw 41 rfl rfl) ?_; refine gI_c (gw 42 rfl rfl) ?_; refine gI_c (gw 43 rfl rfl) ?_; refine gI_c (gw 44 rfl rfl) ?_; exact gI_n)
set_option maxRecDepth 20000 in
theorem gX2_setBleed_X2_change : GoodIn wsX2_setBleed (wsV RX2 153 RX2 yX2_change wsX2_change) := goodIn_app (goodIn_of _ (by decide +kernel)) ggX2_setBleed_X2_change
theorem dX2_setBleed_0 : decode cX2_setBleed 0 = .ok (.aload_n 0, 1) := by decide +kernel
theorem dX2_setBleed_1 : decode cX2_setBleed 1 = .ok (.aload_n 0, 1) := by decide +kernel
theorem dX2_setBleed_2 : decode cX2_setBleed 2 = .ok (.iload_n 1, 1) := by decide +kernel
theorem dX2_setBleed_3 : decode cX2_setBleed 3 = .ok (.invokevirtual 129, 3) := by decide +kernel
theorem dX2_setBleed_6 : decode cX2_setBleed 6 = .ok (.ifCond .ne 7, 3) := by decide +kernel
theorem dX2_setBleed_9 : decode cX2_setBleed 9 = .ok (.iconst 1, 1) := by decide +kernel
theorem dX2_setBleed_10 : decode cX2_setBleed 10 = .ok (.goto 20, 3) := by decide +kernel
theorem dX2_setBleed_13 : decode cX2_setBleed 13 = .ok (.iload_n 2, 1) := by decide +kernel
theorem dX2_setBleed_14 : decode cX2_setBleed 14 = .ok (.i2l, 1) := by decide +kernel
theorem dX2_setBleed_15 : decode cX2_setBleed 15 = .ok (.lconst 0, 1) := by decide +kernel
theorem dX2_setBleed_16 : decode cX2_setBleed 16 = .ok (.ldc2_w 156, 3) := by decide +kernel
theorem dX2_setBleed_19 : decode cX2_setBleed 19 = .ok (.invokestatic 54, 3) := by decide +kernel
theorem dX2_setBleed_22 : decode cX2_setBleed 22 = .ok (.ifCond .ne 7, 3) := by decide +kernel
theorem dX2_setBleed_25 : decode cX2_setBleed 25 = .ok (.iconst 2, 1) := by decide +kernel
theorem dX2_setBleed_26 : decode cX2_setBleed 26 = .ok (.goto 4, 3) := by decide +kernel
theorem dX2_setBleed_29 : decode cX2_setBleed 29 = .ok (.iconst 0, 1) := by decide +kernel
theorem dX2_setBleed_30 : decode cX2_setBleed 30 = .ok (.invokevirtual 98, 3) := by decide +kernel
theorem dX2_setBleed_33 : decode cX2_setBleed 33 = .ok (.ifCond .eq 5, 3) := by decide +kernel
theorem dX2_setBleed_36 : decode cX2_setBleed 36 = .ok (.iconst 0, 1) := by decide +kernel
theorem dX2_setBleed_37 : decode cX2_setBleed 37 = .ok (.ireturn, 1) := by decide +kernel
theorem dX2_setBleed_38 : decode cX2_setBleed 38 = .ok (.aload_n 0, 1) := by decide +kernel
theorem dX2_setBleed_39 : decode cX2_setBleed 39 = .ok (.bipush 24, 2) := by decide +kernel
theorem dX2_setBleed_41 : decode cX2_setBleed 41 = .ok (.iload_n 1, 1) := by decide +kernel
theorem dX2_setBleed_42 : decode cX2_setBleed 42 = .ok (.iadd, 1) := by decide +kernel
theorem dX2_setBleed_43 : decode cX2_setBleed 43 = .ok (.iload_n 2, 1) := by decide +kernel
theorem dX2_setBleed_44 : decode cX2_setBleed 44 = .ok (.invokevirtual 153, 3) := by decide +kernel
theorem dX2_setBleed_47 : decode cX2_setBleed 47 = .ok (.ireturn, 1) := by decide +kernel
set_option maxRecDepth 20000 in
theorem ggX2_wash_X2_isEffect : GoodIn wsX2_wash wsX2_isEffect := (by refine gI_c (gw 7 rfl rfl) ?_; refine gI_c (gw 8 rfl rfl) ?_; refine gI_c (gw 9 rfl rfl) ?_; refine gI_c (gw 10 rfl rfl) ?_; refine gI_c (gw 6 rfl rfl) ?_; refine gI_c (gw 11 rfl rfl) ?_; refine gI_c (gw 37 rfl rfl) ?_; refine gI_c (gw 38 rfl rfl) ?_; refine gI_c (gw 39 rfl rfl) ?_; refine gI_c (gw 40 rfl rfl) ?_; refine gI_c (gw 41 rfl rfl) ?_; refine gI_c (gw 42 rfl rfl) ?_; refine gI_c (gw 43 rfl rfl) ?_; refine gI_c (gw 44 rfl rfl) ?_; refine gI_c (gw 45 rfl rfl) ?_; refine gI_c (gw 46 rfl rfl) ?_; refine gI_c (gw 47 rfl rfl) ?_; refine gI_c (gw 48 rfl rfl) ?_; refine gI_c (gw 49 rfl rfl) ?_; refine gI_c (gw 50 rfl rfl) ?_; refine gI_c (gw 51 rfl rfl) ?_; exact gI_n)
set_option maxRecDepth 20000 in
theorem gX2_wash_X2_isEffect : GoodIn wsX2_wash (wsV RX2 129 RX2 yX2_isEffect wsX2_isEffect) := goodIn_app (goodIn_of _ (by decide +kernel)) ggX2_wash_X2_isEffect
set_option maxRecDepth 20000 in
theorem ggX2_wash_X2_in : GoodIn wsX2_wash wsX2_in := (by refine gI_c (gw 11 rfl rfl) ?_; exact gI_n)
set_option maxRecDepth 20000 in
theorem gX2_wash_X2_in : GoodIn wsX2_wash (va_wsS RX2 54 yX2_in wsX2_in) := goodIn_app (goodIn_of _ (by decide +kernel)) ggX2_wash_X2_in
set_option maxRecDepth 20000 in
theorem ggX2_wash_X2_works : GoodIn wsX2_wash wsX2_works := (by refine gI_c (gw 14 rfl rfl) ?_; exact gI_n)
set_option maxRecDepth 20000 in
theorem gX2_wash_X2_works : GoodIn wsX2_wash (va_wsS RX2 62 yX2_works wsX2_works) := goodIn_app (goodIn_of _ (by decide +kernel)) ggX2_wash_X2_works
set_option maxRecDepth 20000 in
theorem ggX2_wash_X2_refused : GoodIn wsX2_wash wsX2_refused := (by refine gI_c (gw 18 rfl rfl) ?_; refine gI_c (gw 19 rfl rfl) ?_; refine gI_c (gw 37 rfl rfl) ?_; refine gI_c (gw 38 rfl rfl) ?_; refine gI_c (gw 39 rfl rfl) ?_; refine gI_c (gw 40 rfl rfl) ?_; refine gI_c (gw 41 rfl rfl) ?_; refine gI_c (gw 42 rfl rfl) ?_; refine gI_c (gw 43 rfl rfl) ?_; refine gI_c (gw 44 rfl rfl) ?_; refine gI_c (gw 45 rfl rfl) ?_; refine gI_c (gw 46 rfl rfl) ?_; refine gI_c (gw 47 rfl rfl) ?_; refine gI_c (gw 48 rfl rfl) ?_; refine gI_c (gw 49 rfl rfl) ?_; refine gI_c (gw 50 rfl rfl) ?_; refine gI_c (gw 51 rfl rfl) ?_; exact gI_n)
set_option maxRecDepth 20000 in
theorem gX2_wash_X2_refused : GoodIn wsX2_wash (wsV RX2 98 RX2 yX2_refused wsX2_refused) := goodIn_app (goodIn_of _ (by decide +kernel)) ggX2_wash_X2_refused
set_option maxRecDepth 20000 in
theorem ggX2_wash_X2_change : GoodIn wsX2_wash wsX2_change := (by refine gI_c (gw 23 rfl rfl) ?_; refine gI_c (gw 2 rfl rfl) ?_; refine gI_c (gw 24 rfl rfl) ?_; refine gI_c (gw 25 rfl rfl) ?_; refine gI_c (gw 26 rfl rfl) ?_; refine gI_c (gw 6 rfl rfl) ?_; refine gI_c (gw 27 rfl rfl) ?_; refine gI_c (gw 28 rfl rfl) ?_; refine gI_c (gw 29 rfl rfl) ?_; refine gI_c (gw 30 rfl rfl) ?_; refine gI_c (gw 31 rfl rfl) ?_; refine gI_c (gw 32 rfl rfl) ?_; refine gI_c (gw 37 rfl rfl) ?_; refine gI_c (gw 38 rfl rfl) ?_; refine gI_c (gw 39 rfl rfl) ?_; refine gI_c (gw 40 rfl rfl) ?_; refine gI_c (gw 41 rfl rfl) ?_; refine gI_c (gw 42 rfl rfl) ?_; refine gI_c (gw 43 rfl rfl) ?_; refine gI_c (gw 44 rfl rfl) ?_; refine gI_c (gw 45 rfl rfl) ?_; refine gI_c (gw 46 rfl rfl) ?_; refine gI_c (gw 47 rfl rfl) ?_; refine gI_c (gw 48 rfl rfl) ?_; refine gI_c (gw 49 rfl rfl) ?_; refine gI_c (gw 50 rfl rfl) ?_; refine gI_c (gw 51 rfl rfl) ?_; exact gI_n)
set_option maxRecDepth 20000 in
theorem gX2_wash_X2_change : GoodIn wsX2_wash (wsV RX2 153 RX2 yX2_change wsX2_change) := goodIn_app (goodIn_of _ (by decide +kernel)) ggX2_wash_X2_change
set_option maxRecDepth 20000 in
theorem ggX2_wash_X2_washed : GoodIn wsX2_wash wsX2_washed := (by refine gI_c (gw 36 rfl rfl) ?_; refine gI_c (gw 8 rfl rfl) ?_; refine gI_c (gw 12 rfl rfl) ?_; refine gI_c (gw 13 rfl rfl) ?_; refine gI_c (gw 6 rfl rfl) ?_; refine gI_c (gw 14 rfl rfl) ?_; refine gI_c (gw 37 rfl rfl) ?_; refine gI_c (gw 38 rfl rfl) ?_; refine gI_c (gw 39 rfl rfl) ?_; refine gI_c (gw 40 rfl rfl) ?_; refine gI_c (gw 41 rfl rfl) ?_; refine gI_c (gw 42 rfl rfl) ?_; refine gI_c (gw 43 rfl rfl) ?_; refine gI_c (gw 44 rfl rfl) ?_; refine gI_c (gw 45 rfl rfl) ?_; refine gI_c (gw 46 rfl rfl) ?_; refine gI_c (gw 47 rfl rfl) ?_; refine gI_c (gw 48 rfl rfl) ?_; refine gI_c (gw 49 rfl rfl) ?_; refine gI_c (gw 50 rfl rfl) ?_; refine gI_c (gw 51 rfl rfl) ?_; exact gI_n)
set_option maxRecDepth 20000 in
theorem gX2_wash_X2_washed : GoodIn wsX2_wash (wsV RX2 66 RX2 yX2_washed wsX2_washed) := goodIn_app (goodIn_of _ (by decide +kernel)) ggX2_wash_X2_washed
theorem dX2_wash_0 : decode cX2_wash 0 = .ok (.aload_n 0, 1) := by decide +kernel
theorem dX2_wash_1 : decode cX2_wash 1 = .ok (.aload_n 0, 1) := by decide +kernel
theorem dX2_wash_2 : decode cX2_wash 2 = .ok (.iload_n 1, 1) := by decide +kernel
theorem dX2_wash_3 : decode cX2_wash 3 = .ok (.invokevirtual 129, 3) := by decide +kernel
theorem dX2_wash_6 : decode cX2_wash 6 = .ok (.ifCond .ne 7, 3) := by decide +kernel
theorem dX2_wash_9 : decode cX2_wash 9 = .ok (.iconst 1, 1) := by decide +kernel
theorem dX2_wash_10 : decode cX2_wash 10 = .ok (.goto 35, 3) := by decide +kernel
theorem dX2_wash_13 : decode cX2_wash 13 = .ok (.iload_n 2, 1) := by decide +kernel
theorem dX2_wash_14 : decode cX2_wash 14 = .ok (.i2l, 1) := by decide +kernel
theorem dX2_wash_15 : decode cX2_wash 15 = .ok (.lconst 1, 1) := by decide +kernel
theorem dX2_wash_16 : decode cX2_wash 16 = .ok (.ldc2_w 149, 3) := by decide +kernel
theorem dX2_wash_19 : decode cX2_wash 19 = .ok (.invokestatic 54, 3) := by decide +kernel
theorem dX2_wash_22 : decode cX2_wash 22 = .ok (.ifCond .ne 7, 3) := by decide +kernel
theorem dX2_wash_25 : decode cX2_wash 25 = .ok (.iconst 2, 1) := by decide +kernel
theorem dX2_wash_26 : decode cX2_wash 26 = .ok (.goto 19, 3) := by decide +kernel
theorem dX2_wash_29 : decode cX2_wash 29 = .ok (.aload_n 0, 1) := by decide +kernel
theorem dX2_wash_30 : decode cX2_wash 30 = .ok (.getfield 16, 3) := by decide +kernel
theorem dX2_wash_33 : decode cX2_wash 33 = .ok (.iload_n 1, 1) := by decide +kernel
theorem dX2_wash_34 : decode cX2_wash 34 = .ok (.invokestatic 62, 3) := by decide +kernel
theorem dX2_wash_37 : decode cX2_wash 37 = .ok (.ifCond .ne 7, 3) := by decide +kernel
theorem dX2_wash_40 : decode cX2_wash 40 = .ok (.iconst 3, 1) := by decide +kernel
theorem dX2_wash_41 : decode cX2_wash 41 = .ok (.goto 4, 3) := by decide +kernel
theorem dX2_wash_44 : decode cX2_wash 44 = .ok (.iconst 0, 1) := by decide +kernel
theorem dX2_wash_45 : decode cX2_wash 45 = .ok (.invokevirtual 98, 3) := by decide +kernel
theorem dX2_wash_48 : decode cX2_wash 48 = .ok (.ifCond .eq 5, 3) := by decide +kernel
theorem dX2_wash_51 : decode cX2_wash 51 = .ok (.iconst 0, 1) := by decide +kernel
theorem dX2_wash_52 : decode cX2_wash 52 = .ok (.ireturn, 1) := by decide +kernel
theorem dX2_wash_53 : decode cX2_wash 53 = .ok (.aload_n 0, 1) := by decide +kernel
theorem dX2_wash_54 : decode cX2_wash 54 = .ok (.bipush 42, 2) := by decide +kernel
theorem dX2_wash_56 : decode cX2_wash 56 = .ok (.iload_n 1, 1) := by decide +kernel
theorem dX2_wash_57 : decode cX2_wash 57 = .ok (.iadd, 1) := by decide +kernel
theorem dX2_wash_58 : decode cX2_wash 58 = .ok (.iload_n 2, 1) := by decide +kernel
theorem dX2_wash_59 : decode cX2_wash 59 = .ok (.invokevirtual 153, 3) := by decide +kernel
theorem dX2_wash_62 : decode cX2_wash 62 = .ok (.pop, 1) := by decide +kernel
theorem dX2_wash_63 : decode cX2_wash 63 = .ok (.aload_n 0, 1) := by decide +kernel
theorem dX2_wash_64 : decode cX2_wash 64 = .ok (.aload_n 0, 1) := by decide +kernel
theorem dX2_wash_65 : decode cX2_wash 65 = .ok (.getfield 16, 3) := by decide +kernel
theorem dX2_wash_68 : decode cX2_wash 68 = .ok (.invokevirtual 66, 3) := by decide +kernel
theorem dX2_wash_71 : decode cX2_wash 71 = .ok (.ireturn, 1) := by decide +kernel
set_option maxRecDepth 20000 in
theorem ggX2_endWash_X2_isEffect : GoodIn wsX2_endWash wsX2_isEffect := (by refine gI_c (gw 6 rfl rfl) ?_; refine gI_c (gw 7 rfl rfl) ?_; refine gI_c (gw 8 rfl rfl) ?_; refine gI_c (gw 9 rfl rfl) ?_; refine gI_c (gw 5 rfl rfl) ?_; refine gI_c (gw 10 rfl rfl) ?_; refine gI_c (gw 32 rfl rfl) ?_; refine gI_c (gw 33 rfl rfl) ?_; refine gI_c (gw 34 rfl rfl) ?_; refine gI_c (gw 35 rfl rfl) ?_; refine gI_c (gw 36 rfl rfl) ?_; refine gI_c (gw 37 rfl rfl) ?_; refine gI_c (gw 38 rfl rfl) ?_; refine gI_c (gw 39 rfl rfl) ?_; refine gI_c (gw 40 rfl rfl) ?_; refine gI_c (gw 41 rfl rfl) ?_; refine gI_c (gw 42 rfl rfl) ?_; refine gI_c (gw 43 rfl rfl) ?_; refine gI_c (gw 44 rfl rfl) ?_; refine gI_c (gw 45 rfl rfl) ?_; refine gI_c (gw 46 rfl rfl) ?_; exact gI_n)
set_option maxRecDepth 20000 in
theorem gX2_endWash_X2_isEffect : GoodIn wsX2_endWash (wsV RX2 129 RX2 yX2_isEffect wsX2_isEffect) := goodIn_app (goodIn_of _ (by decide +kernel)) ggX2_endWash_X2_isEffect
set_option maxRecDepth 20000 in
theorem ggX2_endWash_X2_works : GoodIn wsX2_endWash wsX2_works := (by refine gI_c (gw 13 rfl rfl) ?_; exact gI_n)
set_option maxRecDepth 20000 in
theorem gX2_endWash_X2_works : GoodIn wsX2_endWash (va_wsS RX2 62 yX2_works wsX2_works) := goodIn_app (goodIn_of _ (by decide +kernel)) ggX2_endWash_X2_works
set_option maxRecDepth 20000 in
theorem ggX2_endWash_X2_refused : GoodIn wsX2_endWash wsX2_refused := (by refine gI_c (gw 17 rfl rfl) ?_; refine gI_c (gw 18 rfl rfl) ?_; refine gI_c (gw 32 rfl rfl) ?_; refine gI_c (gw 33 rfl rfl) ?_; refine gI_c (gw 34 rfl rfl) ?_; refine gI_c (gw 35 rfl rfl) ?_; refine gI_c (gw 36 rfl rfl) ?_; refine gI_c (gw 37 rfl rfl) ?_; refine gI_c (gw 38 rfl rfl) ?_; refine gI_c (gw 39 rfl rfl) ?_; refine gI_c (gw 40 rfl rfl) ?_; refine gI_c (gw 41 rfl rfl) ?_; refine gI_c (gw 42 rfl rfl) ?_; refine gI_c (gw 43 rfl rfl) ?_; refine gI_c (gw 44 rfl rfl) ?_; refine gI_c (gw 45 rfl rfl) ?_; refine gI_c (gw 46 rfl rfl) ?_; exact gI_n)
set_option maxRecDepth 20000 in
theorem gX2_endWash_X2_refused : GoodIn wsX2_endWash (wsV RX2 98 RX2 yX2_refused wsX2_refused) := goodIn_app (goodIn_of _ (by decide +kernel)) ggX2_endWash_X2_refused
set_option maxRecDepth 20000 in
theorem ggX2_endWash_X2_change : GoodIn wsX2_endWash wsX2_change := (by refine gI_c (gw 22 rfl rfl) ?_; refine gI_c (gw 1 rfl rfl) ?_; refine gI_c (gw 23 rfl rfl) ?_; refine gI_c (gw 24 rfl rfl) ?_; refine gI_c (gw 25 rfl rfl) ?_; refine gI_c (gw 5 rfl rfl) ?_; refine gI_c (gw 26 rfl rfl) ?_; refine gI_c (gw 27 rfl rfl) ?_; refine gI_c (gw 28 rfl rfl) ?_; refine gI_c (gw 29 rfl rfl) ?_; refine gI_c (gw 30 rfl rfl) ?_; refine gI_c (gw 31 rfl rfl) ?_; refine gI_c (gw 32 rfl rfl) ?_; refine gI_c (gw 33 rfl rfl) ?_; refine gI_c (gw 34 rfl rfl) ?_; refine gI_c (gw 35 rfl rfl) ?_; refine gI_c (gw 36 rfl rfl) ?_; refine gI_c (gw 37 rfl rfl) ?_; refine gI_c (gw 38 rfl rfl) ?_; refine gI_c (gw 39 rfl rfl) ?_; refine gI_c (gw 40 rfl rfl) ?_; refine gI_c (gw 41 rfl rfl) ?_; refine gI_c (gw 42 rfl rfl) ?_; refine gI_c (gw 43 rfl rfl) ?_; refine gI_c (gw 44 rfl rfl) ?_; refine gI_c (gw 45 rfl rfl) ?_; refine gI_c (gw 46 rfl rfl) ?_; exact gI_n)
set_option maxRecDepth 20000 in
theorem gX2_endWash_X2_change : GoodIn wsX2_endWash (wsV RX2 153 RX2 yX2_change wsX2_change) := goodIn_app (goodIn_of _ (by decide +kernel)) ggX2_endWash_X2_change
theorem dX2_endWash_0 : decode cX2_endWash 0 = .ok (.aload_n 0, 1) := by decide +kernel
theorem dX2_endWash_1 : decode cX2_endWash 1 = .ok (.aload_n 0, 1) := by decide +kernel
theorem dX2_endWash_2 : decode cX2_endWash 2 = .ok (.iload_n 1, 1) := by decide +kernel
theorem dX2_endWash_3 : decode cX2_endWash 3 = .ok (.invokevirtual 129, 3) := by decide +kernel
theorem dX2_endWash_6 : decode cX2_endWash 6 = .ok (.ifCond .ne 7, 3) := by decide +kernel
theorem dX2_endWash_9 : decode cX2_endWash 9 = .ok (.iconst 1, 1) := by decide +kernel
theorem dX2_endWash_10 : decode cX2_endWash 10 = .ok (.goto 19, 3) := by decide +kernel
theorem dX2_endWash_13 : decode cX2_endWash 13 = .ok (.aload_n 0, 1) := by decide +kernel
theorem dX2_endWash_14 : decode cX2_endWash 14 = .ok (.getfield 16, 3) := by decide +kernel
theorem dX2_endWash_17 : decode cX2_endWash 17 = .ok (.iload_n 1, 1) := by decide +kernel
theorem dX2_endWash_18 : decode cX2_endWash 18 = .ok (.invokestatic 62, 3) := by decide +kernel
theorem dX2_endWash_21 : decode cX2_endWash 21 = .ok (.ifCond .eq 7, 3) := by decide +kernel
theorem dX2_endWash_24 : decode cX2_endWash 24 = .ok (.iconst 2, 1) := by decide +kernel
theorem dX2_endWash_25 : decode cX2_endWash 25 = .ok (.goto 4, 3) := by decide +kernel
theorem dX2_endWash_28 : decode cX2_endWash 28 = .ok (.iconst 0, 1) := by decide +kernel
theorem dX2_endWash_29 : decode cX2_endWash 29 = .ok (.invokevirtual 98, 3) := by decide +kernel
theorem dX2_endWash_32 : decode cX2_endWash 32 = .ok (.ifCond .eq 5, 3) := by decide +kernel
theorem dX2_endWash_35 : decode cX2_endWash 35 = .ok (.iconst 0, 1) := by decide +kernel
theorem dX2_endWash_36 : decode cX2_endWash 36 = .ok (.ireturn, 1) := by decide +kernel
theorem dX2_endWash_37 : decode cX2_endWash 37 = .ok (.aload_n 0, 1) := by decide +kernel
theorem dX2_endWash_38 : decode cX2_endWash 38 = .ok (.bipush 42, 2) := by decide +kernel
theorem dX2_endWash_40 : decode cX2_endWash 40 = .ok (.iload_n 1, 1) := by decide +kernel
theorem dX2_endWash_41 : decode cX2_endWash 41 = .ok (.iadd, 1) := by decide +kernel
theorem dX2_endWash_42 : decode cX2_endWash 42 = .ok (.iconst 0, 1) := by decide +kernel
theorem dX2_endWash_43 : decode cX2_endWash 43 = .ok (.invokevirtual 153, 3) := by decide +kernel
theorem dX2_endWash_46 : decode cX2_endWash 46 = .ok (.ireturn, 1) := by decide +kernel
set_option maxRecDepth 20000 in
theorem ggX2_undo_X2_refused : GoodIn wsX2_undo wsX2_refused := (by refine gI_c (gw 8 rfl rfl) ?_; refine gI_c (gw 9 rfl rfl) ?_; refine gI_c (gw 13 rfl rfl) ?_; refine gI_c (gw 14 rfl rfl) ?_; refine gI_c (gw 15 rfl rfl) ?_; refine gI_c (gw 16 rfl rfl) ?_; refine gI_c (gw 17 rfl rfl) ?_; refine gI_c (gw 18 rfl rfl) ?_; refine gI_c (gw 19 rfl rfl) ?_; refine gI_c (gw 20 rfl rfl) ?_; refine gI_c (gw 21 rfl rfl) ?_; refine gI_c (gw 22 rfl rfl) ?_; refine gI_c (gw 23 rfl rfl) ?_; refine gI_c (gw 24 rfl rfl) ?_; refine gI_c (gw 25 rfl rfl) ?_; refine gI_c (gw 26 rfl rfl) ?_; refine gI_c (gw 27 rfl rfl) ?_; exact gI_n)
set_option maxRecDepth 20000 in
theorem gX2_undo_X2_refused : GoodIn wsX2_undo (wsV RX2 98 RX2 yX2_refused wsX2_refused) := goodIn_app (goodIn_of _ (by decide +kernel)) ggX2_undo_X2_refused
set_option maxRecDepth 20000 in
theorem ggX2_undo_X2_copy : GoodIn wsX2_undo wsX2_copy := (by refine gI_c (gw 12 rfl rfl) ?_; exact gI_n)
set_option maxRecDepth 20000 in
theorem gX2_undo_X2_copy : GoodIn wsX2_undo (va_wsS RX2 50 yX2_copy wsX2_copy) := goodIn_app (goodIn_of _ (by decide +kernel)) ggX2_undo_X2_copy
theorem dX2_undo_0 : decode cX2_undo 0 = .ok (.aload_n 0, 1) := by decide +kernel
theorem dX2_undo_1 : decode cX2_undo 1 = .ok (.aload_n 0, 1) := by decide +kernel
theorem dX2_undo_2 : decode cX2_undo 2 = .ok (.getfield 47, 3) := by decide +kernel
theorem dX2_undo_5 : decode cX2_undo 5 = .ok (.ifCond .ne 7, 3) := by decide +kernel
theorem dX2_undo_8 : decode cX2_undo 8 = .ok (.iconst 1, 1) := by decide +kernel
theorem dX2_undo_9 : decode cX2_undo 9 = .ok (.goto 4, 3) := by decide +kernel
theorem dX2_undo_12 : decode cX2_undo 12 = .ok (.iconst 0, 1) := by decide +kernel
theorem dX2_undo_13 : decode cX2_undo 13 = .ok (.invokevirtual 98, 3) := by decide +kernel
theorem dX2_undo_16 : decode cX2_undo 16 = .ok (.ifCond .eq 5, 3) := by decide +kernel
theorem dX2_undo_19 : decode cX2_undo 19 = .ok (.iconst 0, 1) := by decide +kernel
theorem dX2_undo_20 : decode cX2_undo 20 = .ok (.ireturn, 1) := by decide +kernel
theorem dX2_undo_21 : decode cX2_undo 21 = .ok (.aload_n 0, 1) := by decide +kernel
theorem dX2_undo_22 : decode cX2_undo 22 = .ok (.dup, 1) := by decide +kernel
theorem dX2_undo_23 : decode cX2_undo 23 = .ok (.getfield 47, 3) := by decide +kernel
theorem dX2_undo_26 : decode cX2_undo 26 = .ok (.iconst 1, 1) := by decide +kernel
theorem dX2_undo_27 : decode cX2_undo 27 = .ok (.isub, 1) := by decide +kernel
theorem dX2_undo_28 : decode cX2_undo 28 = .ok (.putfield 47, 3) := by decide +kernel
theorem dX2_undo_31 : decode cX2_undo 31 = .ok (.aload_n 0, 1) := by decide +kernel
theorem dX2_undo_32 : decode cX2_undo 32 = .ok (.getfield 22, 3) := by decide +kernel
theorem dX2_undo_35 : decode cX2_undo 35 = .ok (.bipush 64, 2) := by decide +kernel
theorem dX2_undo_37 : decode cX2_undo 37 = .ok (.aload_n 0, 1) := by decide +kernel
theorem dX2_undo_38 : decode cX2_undo 38 = .ok (.getfield 47, 3) := by decide +kernel
theorem dX2_undo_41 : decode cX2_undo 41 = .ok (.imul, 1) := by decide +kernel
theorem dX2_undo_42 : decode cX2_undo 42 = .ok (.aload_n 0, 1) := by decide +kernel
theorem dX2_undo_43 : decode cX2_undo 43 = .ok (.getfield 16, 3) := by decide +kernel
theorem dX2_undo_46 : decode cX2_undo 46 = .ok (.iconst 0, 1) := by decide +kernel
theorem dX2_undo_47 : decode cX2_undo 47 = .ok (.bipush 64, 2) := by decide +kernel
theorem dX2_undo_49 : decode cX2_undo 49 = .ok (.invokestatic 50, 3) := by decide +kernel
theorem dX2_undo_52 : decode cX2_undo 52 = .ok (.aload_n 0, 1) := by decide +kernel
theorem dX2_undo_53 : decode cX2_undo 53 = .ok (.getfield 47, 3) := by decide +kernel
theorem dX2_undo_56 : decode cX2_undo 56 = .ok (.ireturn, 1) := by decide +kernel
set_option maxRecDepth 20000 in
theorem ggX2_ahead_X2_isEffect : GoodIn wsX2_ahead wsX2_isEffect := (by refine gI_c (gw 9 rfl rfl) ?_; refine gI_c (gw 10 rfl rfl) ?_; refine gI_c (gw 11 rfl rfl) ?_; refine gI_c (gw 12 rfl rfl) ?_; refine gI_c (gw 8 rfl rfl) ?_; refine gI_c (gw 13 rfl rfl) ?_; refine gI_c (gw 66 rfl rfl) ?_; refine gI_c (gw 67 rfl rfl) ?_; refine gI_c (gw 68 rfl rfl) ?_; refine gI_c (gw 69 rfl rfl) ?_; refine gI_c (gw 70 rfl rfl) ?_; refine gI_c (gw 71 rfl rfl) ?_; refine gI_c (gw 72 rfl rfl) ?_; refine gI_c (gw 73 rfl rfl) ?_; refine gI_c (gw 74 rfl rfl) ?_; refine gI_c (gw 75 rfl rfl) ?_; refine gI_c (gw 76 rfl rfl) ?_; refine gI_c (gw 77 rfl rfl) ?_; refine gI_c (gw 78 rfl rfl) ?_; refine gI_c (gw 79 rfl rfl) ?_; refine gI_c (gw 80 rfl rfl) ?_; exact gI_n)
set_option maxRecDepth 20000 in
theorem gX2_ahead_X2_isEffect : GoodIn wsX2_ahead (wsV RX2 129 RX2 yX2_isEffect wsX2_isEffect) := goodIn_app (goodIn_of _ (by decide +kernel)) ggX2_ahead_X2_isEffect
set_option maxRecDepth 20000 in
theorem ggX2_ahead_X2_in : GoodIn wsX2_ahead wsX2_in := (by refine gI_c (gw 13 rfl rfl) ?_; exact gI_n)
set_option maxRecDepth 20000 in
theorem gX2_ahead_X2_in : GoodIn wsX2_ahead (va_wsS RX2 54 yX2_in wsX2_in) := goodIn_app (goodIn_of _ (by decide +kernel)) ggX2_ahead_X2_in
set_option maxRecDepth 20000 in
theorem ggX2_ahead_X2_refused : GoodIn wsX2_ahead wsX2_refused := (by refine gI_c (gw 17 rfl rfl) ?_; refine gI_c (gw 18 rfl rfl) ?_; refine gI_c (gw 66 rfl rfl) ?_; refine gI_c (gw 67 rfl rfl) ?_; refine gI_c (gw 68 rfl rfl) ?_; refine gI_c (gw 69 rfl rfl) ?_; refine gI_c (gw 70 rfl rfl) ?_; refine gI_c (gw 71 rfl rfl) ?_; refine gI_c (gw 72 rfl rfl) ?_; refine gI_c (gw 73 rfl rfl) ?_; refine gI_c (gw 74 rfl rfl) ?_; refine gI_c (gw 75 rfl rfl) ?_; refine gI_c (gw 76 rfl rfl) ?_; refine gI_c (gw 77 rfl rfl) ?_; refine gI_c (gw 78 rfl rfl) ?_; refine gI_c (gw 79 rfl rfl) ?_; refine gI_c (gw 80 rfl rfl) ?_; exact gI_n)
set_option maxRecDepth 20000 in
theorem gX2_ahead_X2_refused : GoodIn wsX2_ahead (wsV RX2 98 RX2 yX2_refused wsX2_refused) := goodIn_app (goodIn_of _ (by decide +kernel)) ggX2_ahead_X2_refused
set_option maxRecDepth 20000 in
theorem ggX2_ahead_X2_copy : GoodIn wsX2_ahead wsX2_copy := (by refine gI_c (gw 21 rfl rfl) ?_; exact gI_n)
set_option maxRecDepth 20000 in
theorem gX2_ahead_X2_copy : GoodIn wsX2_ahead (va_wsS RX2 50 yX2_copy wsX2_copy) := goodIn_app (goodIn_of _ (by decide +kernel)) ggX2_ahead_X2_copy
set_option maxRecDepth 20000 in
theorem ggX2_ahead_X2_ticksOn : GoodIn wsX2_ahead wsX2_ticksOn := (by refine gI_c (gw 25 rfl rfl) ?_; refine gI_c (gw 26 rfl rfl) ?_; refine gI_c (gw 27 rfl rfl) ?_; refine gI_c (gw 28 rfl rfl) ?_; refine gI_c (gw 8 rfl rfl) ?_; refine gI_c (gw 29 rfl rfl) ?_; refine gI_c (gw 10 rfl rfl) ?_; refine gI_c (gw 30 rfl rfl) ?_; refine gI_c (gw 31 rfl rfl) ?_; refine gI_c (gw 32 rfl rfl) ?_; refine gI_c (gw 33 rfl rfl) ?_; refine gI_c (gw 34 rfl rfl) ?_; refine gI_c (gw 35 rfl rfl) ?_; refine gI_c (gw 36 rfl rfl) ?_; refine gI_c (gw 37 rfl rfl) ?_; refine gI_c (gw 38 rfl rfl) ?_; refine gI_c (gw 39 rfl rfl) ?_; refine gI_c (gw 40 rfl rfl) ?_; refine gI_c (gw 41 rfl rfl) ?_; refine gI_c (gw 42 rfl rfl) ?_; refine gI_c (gw 43 rfl rfl) ?_; refine gI_c (gw 44 rfl rfl) ?_; refine gI_c (gw 45 rfl rfl) ?_; refine gI_c (gw 46 rfl rfl) ?_; refine gI_c (gw 47 rfl rfl) ?_; refine gI_c (gw 48 rfl rfl) ?_; refine gI_c (gw 49 rfl rfl) ?_; refine gI_c (gw 50 rfl rfl) ?_; refine gI_c (gw 51 rfl rfl) ?_; refine gI_c (gw 52 rfl rfl) ?_; refine gI_c (gw 53 rfl rfl) ?_; refine gI_c (gw 54 rfl rfl) ?_; refine gI_c (gw 55 rfl rfl) ?_; refine gI_c (gw 56 rfl rfl) ?_; refine gI_c (gw 57 rfl rfl) ?_; refine gI_c (gw 58 rfl rfl) ?_; refine gI_c (gw 59 rfl rfl) ?_; refine gI_c (gw 60 rfl rfl) ?_; refine gI_c (gw 61 rfl rfl) ?_; refine gI_c (gw 62 rfl rfl) ?_; refine gI_c (gw 66 rfl rfl) ?_; refine gI_c (gw 67 rfl rfl) ?_; refine gI_c (gw 68 rfl rfl) ?_; refine gI_c (gw 69 rfl rfl) ?_; refine gI_c (gw 70 rfl rfl) ?_; refine gI_c (gw 71 rfl rfl) ?_; refine gI_c (gw 72 rfl rfl) ?_; refine gI_c (gw 73 rfl rfl) ?_; refine gI_c (gw 74 rfl rfl) ?_; refine gI_c (gw 75 rfl rfl) ?_; refine gI_c (gw 76 rfl rfl) ?_; refine gI_c (gw 77 rfl rfl) ?_; refine gI_c (gw 78 rfl rfl) ?_; refine gI_c (gw 79 rfl rfl) ?_; refine gI_c (gw 80 rfl rfl) ?_; exact gI_n)
set_option maxRecDepth 20000 in
theorem gX2_ahead_X2_ticksOn : GoodIn wsX2_ahead (wsV RX2 144 RX2 yX2_ticksOn wsX2_ticksOn) := goodIn_app (goodIn_of _ (by decide +kernel)) ggX2_ahead_X2_ticksOn
set_option maxRecDepth 20000 in
theorem ggX2_ahead_X2_detail : GoodIn wsX2_ahead wsX2_detail := (by refine gI_c (gw 65 rfl rfl) ?_; refine gI_c (gw 41 rfl rfl) ?_; refine gI_c (gw 42 rfl rfl) ?_; refine gI_c (gw 8 rfl rfl) ?_; refine gI_c (gw 43 rfl rfl) ?_; refine gI_c (gw 44 rfl rfl) ?_; refine gI_c (gw 45 rfl rfl) ?_; refine gI_c (gw 46 rfl rfl) ?_; refine gI_c (gw 47 rfl rfl) ?_; refine gI_c (gw 48 rfl rfl) ?_; refine gI_c (gw 49 rfl rfl) ?_; exact gI_n)
set_option maxRecDepth 20000 in
theorem gX2_ahead_X2_detail : GoodIn wsX2_ahead (va_wsS RX2 132 yX2_detail wsX2_detail) := goodIn_app (goodIn_of _ (by decide +kernel)) ggX2_ahead_X2_detail
theorem dX2_ahead_0 : decode cX2_ahead 0 = .ok (.aload_n 0, 1) := by decide +kernel
theorem dX2_ahead_1 : decode cX2_ahead 1 = .ok (.aload_n 0, 1) := by decide +kernel
theorem dX2_ahead_2 : decode cX2_ahead 2 = .ok (.iload_n 1, 1) := by decide +kernel
theorem dX2_ahead_3 : decode cX2_ahead 3 = .ok (.invokevirtual 129, 3) := by decide +kernel
theorem dX2_ahead_6 : decode cX2_ahead 6 = .ok (.ifCond .ne 7, 3) := by decide +kernel
theorem dX2_ahead_9 : decode cX2_ahead 9 = .ok (.iconst 1, 1) := by decide +kernel
theorem dX2_ahead_10 : decode cX2_ahead 10 = .ok (.goto 32, 3) := by decide +kernel
theorem dX2_ahead_13 : decode cX2_ahead 13 = .ok (.iload_n 2, 1) := by decide +kernel
theorem dX2_ahead_14 : decode cX2_ahead 14 = .ok (.i2l, 1) := by decide +kernel
theorem dX2_ahead_15 : decode cX2_ahead 15 = .ok (.lconst 0, 1) := by decide +kernel
theorem dX2_ahead_16 : decode cX2_ahead 16 = .ok (.ldc2_w 139, 3) := by decide +kernel
theorem dX2_ahead_19 : decode cX2_ahead 19 = .ok (.invokestatic 54, 3) := by decide +kernel
theorem dX2_ahead_22 : decode cX2_ahead 22 = .ok (.ifCond .eq 15, 3) := by decide +kernel
theorem dX2_ahead_25 : decode cX2_ahead 25 = .ok (.iload_n 3, 1) := by decide +kernel
theorem dX2_ahead_26 : decode cX2_ahead 26 = .ok (.i2l, 1) := by decide +kernel
theorem dX2_ahead_27 : decode cX2_ahead 27 = .ok (.lconst 0, 1) := by decide +kernel
theorem dX2_ahead_28 : decode cX2_ahead 28 = .ok (.ldc2_w 109, 3) := by decide +kernel
theorem dX2_ahead_31 : decode cX2_ahead 31 = .ok (.invokestatic 54, 3) := by decide +kernel
theorem dX2_ahead_34 : decode cX2_ahead 34 = .ok (.ifCond .ne 7, 3) := by decide +kernel
theorem dX2_ahead_37 : decode cX2_ahead 37 = .ok (.iconst 2, 1) := by decide +kernel
theorem dX2_ahead_38 : decode cX2_ahead 38 = .ok (.goto 4, 3) := by decide +kernel
theorem dX2_ahead_41 : decode cX2_ahead 41 = .ok (.iconst 0, 1) := by decide +kernel
theorem dX2_ahead_42 : decode cX2_ahead 42 = .ok (.invokevirtual 98, 3) := by decide +kernel
theorem dX2_ahead_45 : decode cX2_ahead 45 = .ok (.ifCond .eq 5, 3) := by decide +kernel
theorem dX2_ahead_48 : decode cX2_ahead 48 = .ok (.iconst 0, 1) := by decide +kernel
theorem dX2_ahead_49 : decode cX2_ahead 49 = .ok (.ireturn, 1) := by decide +kernel
theorem dX2_ahead_50 : decode cX2_ahead 50 = .ok (.aload_n 0, 1) := by decide +kernel
theorem dX2_ahead_51 : decode cX2_ahead 51 = .ok (.getfield 16, 3) := by decide +kernel
theorem dX2_ahead_54 : decode cX2_ahead 54 = .ok (.iconst 0, 1) := by decide +kernel
theorem dX2_ahead_55 : decode cX2_ahead 55 = .ok (.aload_n 0, 1) := by decide +kernel
theorem dX2_ahead_56 : decode cX2_ahead 56 = .ok (.getfield 19, 3) := by decide +kernel
theorem dX2_ahead_59 : decode cX2_ahead 59 = .ok (.iconst 0, 1) := by decide +kernel
theorem dX2_ahead_60 : decode cX2_ahead 60 = .ok (.bipush 64, 2) := by decide +kernel
theorem dX2_ahead_62 : decode cX2_ahead 62 = .ok (.invokestatic 50, 3) := by decide +kernel
theorem dX2_ahead_65 : decode cX2_ahead 65 = .ok (.aload_n 0, 1) := by decide +kernel
theorem dX2_ahead_66 : decode cX2_ahead 66 = .ok (.aload_n 0, 1) := by decide +kernel
theorem dX2_ahead_67 : decode cX2_ahead 67 = .ok (.getfield 19, 3) := by decide +kernel
theorem dX2_ahead_70 : decode cX2_ahead 70 = .ok (.iload_n 2, 1) := by decide +kernel
theorem dX2_ahead_71 : decode cX2_ahead 71 = .ok (.invokevirtual 144, 3) := by decide +kernel
theorem dX2_ahead_74 : decode cX2_ahead 74 = .ok (.pop, 1) := by decide +kernel
theorem dX2_ahead_75 : decode cX2_ahead 75 = .ok (.aload_n 0, 1) := by decide +kernel
theorem dX2_ahead_76 : decode cX2_ahead 76 = .ok (.getfield 19, 3) := by decide +kernel
theorem dX2_ahead_79 : decode cX2_ahead 79 = .ok (.iload_n 1, 1) := by decide +kernel
theorem dX2_ahead_80 : decode cX2_ahead 80 = .ok (.iload_n 3, 1) := by decide +kernel
theorem dX2_ahead_81 : decode cX2_ahead 81 = .ok (.invokestatic 132, 3) := by decide +kernel
theorem dX2_ahead_84 : decode cX2_ahead 84 = .ok (.ireturn, 1) := by decide +kernel
set_option maxRecDepth 20000 in
theorem ggX2_growth_X2_in : GoodIn wsX2_growth wsX2_in := (by refine gI_c (gw 8 rfl rfl) ?_; exact gI_n)
set_option maxRecDepth 20000 in
theorem gX2_growth_X2_in : GoodIn wsX2_growth (va_wsS RX2 54 yX2_in wsX2_in) := goodIn_app (goodIn_of _ (by decide +kernel)) ggX2_growth_X2_in
set_option maxRecDepth 20000 in
theorem ggX2_growth_X2_refused : GoodIn wsX2_growth wsX2_refused := (by refine gI_c (gw 12 rfl rfl) ?_; refine gI_c (gw 13 rfl rfl) ?_; refine gI_c (gw 59 rfl rfl) ?_; refine gI_c (gw 60 rfl rfl) ?_; refine gI_c (gw 61 rfl rfl) ?_; refine gI_c (gw 62 rfl rfl) ?_; refine gI_c (gw 63 rfl rfl) ?_; refine gI_c (gw 64 rfl rfl) ?_; refine gI_c (gw 65 rfl rfl) ?_; refine gI_c (gw 66 rfl rfl) ?_; refine gI_c (gw 67 rfl rfl) ?_; refine gI_c (gw 68 rfl rfl) ?_; refine gI_c (gw 69 rfl rfl) ?_; refine gI_c (gw 70 rfl rfl) ?_; refine gI_c (gw 71 rfl rfl) ?_; refine gI_c (gw 72 rfl rfl) ?_; refine gI_c (gw 73 rfl rfl) ?_; exact gI_n)
set_option maxRecDepth 20000 in
theorem gX2_growth_X2_refused : GoodIn wsX2_growth (wsV RX2 98 RX2 yX2_refused wsX2_refused) := goodIn_app (goodIn_of _ (by decide +kernel)) ggX2_growth_X2_refused
set_option maxRecDepth 20000 in
theorem ggX2_growth_X2_copy : GoodIn wsX2_growth wsX2_copy := (by refine gI_c (gw 16 rfl rfl) ?_; exact gI_n)
set_option maxRecDepth 20000 in
theorem gX2_growth_X2_copy : GoodIn wsX2_growth (va_wsS RX2 50 yX2_copy wsX2_copy) := goodIn_app (goodIn_of _ (by decide +kernel)) ggX2_growth_X2_copy
set_option maxRecDepth 20000 in
theorem ggX2_growth_X2_ticksOn : GoodIn wsX2_growth wsX2_ticksOn := (by refine gI_c (gw 20 rfl rfl) ?_; refine gI_c (gw 21 rfl rfl) ?_; refine gI_c (gw 22 rfl rfl) ?_; refine gI_c (gw 23 rfl rfl) ?_; refine gI_c (gw 7 rfl rfl) ?_; refine gI_c (gw 24 rfl rfl) ?_; refine gI_c (gw 25 rfl rfl) ?_; refine gI_c (gw 26 rfl rfl) ?_; refine gI_c (gw 27 rfl rfl) ?_; refine gI_c (gw 28 rfl rfl) ?_; refine gI_c (gw 29 rfl rfl) ?_; refine gI_c (gw 30 rfl rfl) ?_; refine gI_c (gw 31 rfl rfl) ?_; refine gI_c (gw 32 rfl rfl) ?_; refine gI_c (gw 33 rfl rfl) ?_; refine gI_c (gw 34 rfl rfl) ?_; refine gI_c (gw 35 rfl rfl) ?_; refine gI_c (gw 36 rfl rfl) ?_; refine gI_c (gw 37 rfl rfl) ?_; refine gI_c (gw 38 rfl rfl) ?_; refine gI_c (gw 39 rfl rfl) ?_; refine gI_c (gw 40 rfl rfl) ?_; refine gI_c (gw 41 rfl rfl) ?_; refine gI_c (gw 42 rfl rfl) ?_; refine gI_c (gw 43 rfl rfl) ?_; refine gI_c (gw 44 rfl rfl) ?_; refine gI_c (gw 45 rfl rfl) ?_; refine gI_c (gw 46 rfl rfl) ?_; refine gI_c (gw 47 rfl rfl) ?_; refine gI_c (gw 48 rfl rfl) ?_; refine gI_c (gw 49 rfl rfl) ?_; refine gI_c (gw 50 rfl rfl) ?_; refine gI_c (gw 51 rfl rfl) ?_; refine gI_c (gw 52 rfl rfl) ?_; refine gI_c (gw 53 rfl rfl) ?_; refine gI_c (gw 54 rfl rfl) ?_; refine gI_c (gw 55 rfl rfl) ?_; refine gI_c (gw 56 rfl rfl) ?_; refine gI_c (gw 57 rfl rfl) ?_; refine gI_c (gw 58 rfl rfl) ?_; refine gI_c (gw 59 rfl rfl) ?_; refine gI_c (gw 60 rfl rfl) ?_; refine gI_c (gw 61 rfl rfl) ?_; refine gI_c (gw 62 rfl rfl) ?_; refine gI_c (gw 63 rfl rfl) ?_; refine gI_c (gw 64 rfl rfl) ?_; refine gI_c (gw 65 rfl rfl) ?_; refine gI_c (gw 66 rfl rfl) ?_; refine gI_c (gw 67 rfl rfl) ?_; refine gI_c (gw 68 rfl rfl) ?_; refine gI_c (gw 69 rfl rfl) ?_; refine gI_c (gw 70 rfl rfl) ?_; refine gI_c (gw 71 rfl rfl) ?_; refine gI_c (gw 72 rfl rfl) ?_; refine gI_c (gw 73 rfl rfl) ?_; exact gI_n)
set_option maxRecDepth 20000 in
theorem gX2_growth_X2_ticksOn : GoodIn wsX2_growth (wsV RX2 144 RX2 yX2_ticksOn wsX2_ticksOn) := goodIn_app (goodIn_of _ (by decide +kernel)) ggX2_growth_X2_ticksOn
theorem dX2_growth_0 : decode cX2_growth 0 = .ok (.aload_n 0, 1) := by decide +kernel
theorem dX2_growth_1 : decode cX2_growth 1 = .ok (.iload_n 1, 1) := by decide +kernel
theorem dX2_growth_2 : decode cX2_growth 2 = .ok (.i2l, 1) := by decide +kernel
theorem dX2_growth_3 : decode cX2_growth 3 = .ok (.lconst 1, 1) := by decide +kernel
theorem dX2_growth_4 : decode cX2_growth 4 = .ok (.ldc2_w 139, 3) := by decide +kernel
theorem dX2_growth_7 : decode cX2_growth 7 = .ok (.invokestatic 54, 3) := by decide +kernel
theorem dX2_growth_10 : decode cX2_growth 10 = .ok (.ifCond .eq 19, 3) := by decide +kernel
theorem dX2_growth_13 : decode cX2_growth 13 = .ok (.iload_n 2, 1) := by decide +kernel
theorem dX2_growth_14 : decode cX2_growth 14 = .ok (.i2l, 1) := by decide +kernel
theorem dX2_growth_15 : decode cX2_growth 15 = .ok (.lconst 0, 1) := by decide +kernel
theorem dX2_growth_16 : decode cX2_growth 16 = .ok (.ldc2_w 109, 3) := by decide +kernel
theorem dX2_growth_19 : decode cX2_growth 19 = .ok (.invokestatic 54, 3) := by decide +kernel
theorem dX2_growth_22 : decode cX2_growth 22 = .ok (.ifCond .eq 7, 3) := by decide +kernel
theorem dX2_growth_25 : decode cX2_growth 25 = .ok (.iconst 0, 1) := by decide +kernel
theorem dX2_growth_26 : decode cX2_growth 26 = .ok (.goto 4, 3) := by decide +kernel
theorem dX2_growth_29 : decode cX2_growth 29 = .ok (.iconst 1, 1) := by decide +kernel
theorem dX2_growth_30 : decode cX2_growth 30 = .ok (.invokevirtual 98, 3) := by decide +kernel
theorem dX2_growth_33 : decode cX2_growth 33 = .ok (.ifCond .eq 5, 3) := by decide +kernel
theorem dX2_growth_36 : decode cX2_growth 36 = .ok (.iconst 0, 1) := by decide +kernel
theorem dX2_growth_37 : decode cX2_growth 37 = .ok (.ireturn, 1) := by decide +kernel
theorem dX2_growth_38 : decode cX2_growth 38 = .ok (.aload_n 0, 1) := by decide +kernel
theorem dX2_growth_39 : decode cX2_growth 39 = .ok (.getfield 16, 3) := by decide +kernel
theorem dX2_growth_42 : decode cX2_growth 42 = .ok (.iconst 0, 1) := by decide +kernel
theorem dX2_growth_43 : decode cX2_growth 43 = .ok (.aload_n 0, 1) := by decide +kernel
theorem dX2_growth_44 : decode cX2_growth 44 = .ok (.getfield 19, 3) := by decide +kernel
theorem dX2_growth_47 : decode cX2_growth 47 = .ok (.iconst 0, 1) := by decide +kernel
theorem dX2_growth_48 : decode cX2_growth 48 = .ok (.bipush 64, 2) := by decide +kernel
theorem dX2_growth_50 : decode cX2_growth 50 = .ok (.invokestatic 50, 3) := by decide +kernel
theorem dX2_growth_53 : decode cX2_growth 53 = .ok (.aload_n 0, 1) := by decide +kernel
theorem dX2_growth_54 : decode cX2_growth 54 = .ok (.aload_n 0, 1) := by decide +kernel
theorem dX2_growth_55 : decode cX2_growth 55 = .ok (.getfield 19, 3) := by decide +kernel
theorem dX2_growth_58 : decode cX2_growth 58 = .ok (.iload_n 1, 1) := by decide +kernel
theorem dX2_growth_59 : decode cX2_growth 59 = .ok (.invokevirtual 144, 3) := by decide +kernel
theorem dX2_growth_62 : decode cX2_growth 62 = .ok (.pop, 1) := by decide +kernel
theorem dX2_growth_63 : decode cX2_growth 63 = .ok (.aload_n 0, 1) := by decide +kernel
theorem dX2_growth_64 : decode cX2_growth 64 = .ok (.getfield 19, 3) := by decide +kernel
theorem dX2_growth_67 : decode cX2_growth 67 = .ok (.bipush 54, 2) := by decide +kernel
theorem dX2_growth_69 : decode cX2_growth 69 = .ok (.iload_n 2, 1) := by decide +kernel
theorem dX2_growth_70 : decode cX2_growth 70 = .ok (.iadd, 1) := by decide +kernel
theorem dX2_growth_71 : decode cX2_growth 71 = .ok (.iaload, 1) := by decide +kernel
theorem dX2_growth_72 : decode cX2_growth 72 = .ok (.aload_n 0, 1) := by decide +kernel
theorem dX2_growth_73 : decode cX2_growth 73 = .ok (.getfield 16, 3) := by decide +kernel
theorem dX2_growth_76 : decode cX2_growth 76 = .ok (.bipush 54, 2) := by decide +kernel
theorem dX2_growth_78 : decode cX2_growth 78 = .ok (.iload_n 2, 1) := by decide +kernel
theorem dX2_growth_79 : decode cX2_growth 79 = .ok (.iadd, 1) := by decide +kernel
theorem dX2_growth_80 : decode cX2_growth 80 = .ok (.iaload, 1) := by decide +kernel
theorem dX2_growth_81 : decode cX2_growth 81 = .ok (.isub, 1) := by decide +kernel
theorem dX2_growth_82 : decode cX2_growth 82 = .ok (.ireturn, 1) := by decide +kernel
set_option maxRecDepth 20000 in
theorem ggX2_washGain_X2_isEffect : GoodIn wsX2_washGain wsX2_isEffect := (by refine gI_c (gw 9 rfl rfl) ?_; refine gI_c (gw 10 rfl rfl) ?_; refine gI_c (gw 11 rfl rfl) ?_; refine gI_c (gw 12 rfl rfl) ?_; refine gI_c (gw 8 rfl rfl) ?_; refine gI_c (gw 13 rfl rfl) ?_; refine gI_c (gw 63 rfl rfl) ?_; refine gI_c (gw 64 rfl rfl) ?_; refine gI_c (gw 65 rfl rfl) ?_; refine gI_c (gw 66 rfl rfl) ?_; refine gI_c (gw 67 rfl rfl) ?_; refine gI_c (gw 68 rfl rfl) ?_; refine gI_c (gw 69 rfl rfl) ?_; refine gI_c (gw 70 rfl rfl) ?_; refine gI_c (gw 71 rfl rfl) ?_; refine gI_c (gw 72 rfl rfl) ?_; refine gI_c (gw 73 rfl rfl) ?_; refine gI_c (gw 74 rfl rfl) ?_; refine gI_c (gw 75 rfl rfl) ?_; refine gI_c (gw 76 rfl rfl) ?_; refine gI_c (gw 77 rfl rfl) ?_; exact gI_n)
set_option maxRecDepth 20000 in
theorem gX2_washGain_X2_isEffect : GoodIn wsX2_washGain (wsV RX2 129 RX2 yX2_isEffect wsX2_isEffect) := goodIn_app (goodIn_of _ (by decide +kernel)) ggX2_washGain_X2_isEffect
set_option maxRecDepth 20000 in
theorem ggX2_washGain_X2_in : GoodIn wsX2_washGain wsX2_in := (by refine gI_c (gw 13 rfl rfl) ?_; exact gI_n)
set_option maxRecDepth 20000 in
theorem gX2_washGain_X2_in : GoodIn wsX2_washGain (va_wsS RX2 54 yX2_in wsX2_in) := goodIn_app (goodIn_of _ (by decide +kernel)) ggX2_washGain_X2_in
set_option maxRecDepth 20000 in
theorem ggX2_washGain_X2_works : GoodIn wsX2_washGain wsX2_works := (by refine gI_c (gw 16 rfl rfl) ?_; exact gI_n)
set_option maxRecDepth 20000 in
theorem gX2_washGain_X2_works : GoodIn wsX2_washGain (va_wsS RX2 62 yX2_works wsX2_works) := goodIn_app (goodIn_of _ (by decide +kernel)) ggX2_washGain_X2_works
set_option maxRecDepth 20000 in
theorem ggX2_washGain_X2_refused : GoodIn wsX2_washGain wsX2_refused := (by refine gI_c (gw 20 rfl rfl) ?_; refine gI_c (gw 21 rfl rfl) ?_; refine gI_c (gw 63 rfl rfl) ?_; refine gI_c (gw 64 rfl rfl) ?_; refine gI_c (gw 65 rfl rfl) ?_; refine gI_c (gw 66 rfl rfl) ?_; refine gI_c (gw 67 rfl rfl) ?_; refine gI_c (gw 68 rfl rfl) ?_; refine gI_c (gw 69 rfl rfl) ?_; refine gI_c (gw 70 rfl rfl) ?_; refine gI_c (gw 71 rfl rfl) ?_; refine gI_c (gw 72 rfl rfl) ?_; refine gI_c (gw 73 rfl rfl) ?_; refine gI_c (gw 74 rfl rfl) ?_; refine gI_c (gw 75 rfl rfl) ?_; refine gI_c (gw 76 rfl rfl) ?_; refine gI_c (gw 77 rfl rfl) ?_; exact gI_n)
set_option maxRecDepth 20000 in
theorem gX2_washGain_X2_refused : GoodIn wsX2_washGain (wsV RX2 98 RX2 yX2_refused wsX2_refused) := goodIn_app (goodIn_of _ (by decide +kernel)) ggX2_washGain_X2_refused
set_option maxRecDepth 20000 in
theorem ggX2_washGain_X2_copy : GoodIn wsX2_washGain wsX2_copy := (by refine gI_c (gw 24 rfl rfl) ?_; exact gI_n)
set_option maxRecDepth 20000 in
theorem gX2_washGain_X2_copy : GoodIn wsX2_washGain (va_wsS RX2 50 yX2_copy wsX2_copy) := goodIn_app (goodIn_of _ (by decide +kernel)) ggX2_washGain_X2_copy
set_option maxRecDepth 20000 in
theorem ggX2_washGain_X2_ticksOn : GoodIn wsX2_washGain wsX2_ticksOn := (by refine gI_c (gw 28 rfl rfl) ?_; refine gI_c (gw 29 rfl rfl) ?_; refine gI_c (gw 30 rfl rfl) ?_; refine gI_c (gw 31 rfl rfl) ?_; refine gI_c (gw 8 rfl rfl) ?_; refine gI_c (gw 32 rfl rfl) ?_; refine gI_c (gw 10 rfl rfl) ?_; refine gI_c (gw 33 rfl rfl) ?_; refine gI_c (gw 34 rfl rfl) ?_; refine gI_c (gw 35 rfl rfl) ?_; refine gI_c (gw 36 rfl rfl) ?_; refine gI_c (gw 14 rfl rfl) ?_; refine gI_c (gw 15 rfl rfl) ?_; refine gI_c (gw 16 rfl rfl) ?_; refine gI_c (gw 37 rfl rfl) ?_; refine gI_c (gw 38 rfl rfl) ?_; refine gI_c (gw 39 rfl rfl) ?_; refine gI_c (gw 40 rfl rfl) ?_; refine gI_c (gw 41 rfl rfl) ?_; refine gI_c (gw 42 rfl rfl) ?_; refine gI_c (gw 43 rfl rfl) ?_; refine gI_c (gw 44 rfl rfl) ?_; refine gI_c (gw 45 rfl rfl) ?_; refine gI_c (gw 46 rfl rfl) ?_; refine gI_c (gw 47 rfl rfl) ?_; refine gI_c (gw 48 rfl rfl) ?_; refine gI_c (gw 49 rfl rfl) ?_; refine gI_c (gw 50 rfl rfl) ?_; refine gI_c (gw 51 rfl rfl) ?_; refine gI_c (gw 52 rfl rfl) ?_; refine gI_c (gw 53 rfl rfl) ?_; refine gI_c (gw 54 rfl rfl) ?_; refine gI_c (gw 55 rfl rfl) ?_; refine gI_c (gw 56 rfl rfl) ?_; refine gI_c (gw 57 rfl rfl) ?_; refine gI_c (gw 58 rfl rfl) ?_; refine gI_c (gw 59 rfl rfl) ?_; refine gI_c (gw 60 rfl rfl) ?_; refine gI_c (gw 61 rfl rfl) ?_; refine gI_c (gw 62 rfl rfl) ?_; refine gI_c (gw 63 rfl rfl) ?_; refine gI_c (gw 64 rfl rfl) ?_; refine gI_c (gw 65 rfl rfl) ?_; refine gI_c (gw 66 rfl rfl) ?_; refine gI_c (gw 67 rfl rfl) ?_; refine gI_c (gw 68 rfl rfl) ?_; refine gI_c (gw 69 rfl rfl) ?_; refine gI_c (gw 70 rfl rfl) ?_; refine gI_c (gw 71 rfl rfl) ?_; refine gI_c (gw 72 rfl rfl) ?_; refine gI_c (gw 73 rfl rfl) ?_; refine gI_c (gw 74 rfl rfl) ?_; refine gI_c (gw 75 rfl rfl) ?_; refine gI_c (gw 76 rfl rfl) ?_; refine gI_c (gw 77 rfl rfl) ?_; exact gI_n)
set_option maxRecDepth 20000 in
theorem gX2_washGain_X2_ticksOn : GoodIn wsX2_washGain (wsV RX2 144 RX2 yX2_ticksOn wsX2_ticksOn) := goodIn_app (goodIn_of _ (by decide +kernel)) ggX2_washGain_X2_ticksOn
theorem dX2_washGain_0 : decode cX2_washGain 0 = .ok (.aload_n 0, 1) := by decide +kernel
theorem dX2_washGain_1 : decode cX2_washGain 1 = .ok (.aload_n 0, 1) := by decide +kernel
theorem dX2_washGain_2 : decode cX2_washGain 2 = .ok (.iload_n 1, 1) := by decide +kernel
theorem dX2_washGain_3 : decode cX2_washGain 3 = .ok (.invokevirtual 129, 3) := by decide +kernel
theorem dX2_washGain_6 : decode cX2_washGain 6 = .ok (.ifCond .ne 7, 3) := by decide +kernel
theorem dX2_washGain_9 : decode cX2_washGain 9 = .ok (.iconst 1, 1) := by decide +kernel
theorem dX2_washGain_10 : decode cX2_washGain 10 = .ok (.goto 47, 3) := by decide +kernel
theorem dX2_washGain_13 : decode cX2_washGain 13 = .ok (.iload_n 2, 1) := by decide +kernel
theorem dX2_washGain_14 : decode cX2_washGain 14 = .ok (.i2l, 1) := by decide +kernel
theorem dX2_washGain_15 : decode cX2_washGain 15 = .ok (.lconst 1, 1) := by decide +kernel
theorem dX2_washGain_16 : decode cX2_washGain 16 = .ok (.ldc2_w 149, 3) := by decide +kernel
theorem dX2_washGain_19 : decode cX2_washGain 19 = .ok (.invokestatic 54, 3) := by decide +kernel
theorem dX2_washGain_22 : decode cX2_washGain 22 = .ok (.ifCond .eq 15, 3) := by decide +kernel
theorem dX2_washGain_25 : decode cX2_washGain 25 = .ok (.iload_n 3, 1) := by decide +kernel
theorem dX2_washGain_26 : decode cX2_washGain 26 = .ok (.i2l, 1) := by decide +kernel
theorem dX2_washGain_27 : decode cX2_washGain 27 = .ok (.lconst 1, 1) := by decide +kernel
theorem dX2_washGain_28 : decode cX2_washGain 28 = .ok (.ldc2_w 139, 3) := by decide +kernel
theorem dX2_washGain_31 : decode cX2_washGain 31 = .ok (.invokestatic 54, 3) := by decide +kernel
theorem dX2_washGain_34 : decode cX2_washGain 34 = .ok (.ifCond .ne 7, 3) := by decide +kernel
theorem dX2_washGain_37 : decode cX2_washGain 37 = .ok (.iconst 2, 1) := by decide +kernel
theorem dX2_washGain_38 : decode cX2_washGain 38 = .ok (.goto 19, 3) := by decide +kernel
theorem dX2_washGain_41 : decode cX2_washGain 41 = .ok (.aload_n 0, 1) := by decide +kernel
theorem dX2_washGain_42 : decode cX2_washGain 42 = .ok (.getfield 16, 3) := by decide +kernel
theorem dX2_washGain_45 : decode cX2_washGain 45 = .ok (.iload_n 1, 1) := by decide +kernel
theorem dX2_washGain_46 : decode cX2_washGain 46 = .ok (.invokestatic 62, 3) := by decide +kernel
theorem dX2_washGain_49 : decode cX2_washGain 49 = .ok (.ifCond .ne 7, 3) := by decide +kernel
theorem dX2_washGain_52 : decode cX2_washGain 52 = .ok (.iconst 3, 1) := by decide +kernel
theorem dX2_washGain_53 : decode cX2_washGain 53 = .ok (.goto 4, 3) := by decide +kernel
theorem dX2_washGain_56 : decode cX2_washGain 56 = .ok (.iconst 0, 1) := by decide +kernel
theorem dX2_washGain_57 : decode cX2_washGain 57 = .ok (.invokevirtual 98, 3) := by decide +kernel
theorem dX2_washGain_60 : decode cX2_washGain 60 = .ok (.ifCond .eq 5, 3) := by decide +kernel
theorem dX2_washGain_63 : decode cX2_washGain 63 = .ok (.iconst 0, 1) := by decide +kernel
theorem dX2_washGain_64 : decode cX2_washGain 64 = .ok (.ireturn, 1) := by decide +kernel
theorem dX2_washGain_65 : decode cX2_washGain 65 = .ok (.aload_n 0, 1) := by decide +kernel
theorem dX2_washGain_66 : decode cX2_washGain 66 = .ok (.getfield 16, 3) := by decide +kernel
theorem dX2_washGain_69 : decode cX2_washGain 69 = .ok (.iconst 0, 1) := by decide +kernel
theorem dX2_washGain_70 : decode cX2_washGain 70 = .ok (.aload_n 0, 1) := by decide +kernel
theorem dX2_washGain_71 : decode cX2_washGain 71 = .ok (.getfield 19, 3) := by decide +kernel
theorem dX2_washGain_74 : decode cX2_washGain 74 = .ok (.iconst 0, 1) := by decide +kernel
theorem dX2_washGain_75 : decode cX2_washGain 75 = .ok (.bipush 64, 2) := by decide +kernel
theorem dX2_washGain_77 : decode cX2_washGain 77 = .ok (.invokestatic 50, 3) := by decide +kernel
theorem dX2_washGain_80 : decode cX2_washGain 80 = .ok (.aload_n 0, 1) := by decide +kernel
theorem dX2_washGain_81 : decode cX2_washGain 81 = .ok (.aload_n 0, 1) := by decide +kernel
theorem dX2_washGain_82 : decode cX2_washGain 82 = .ok (.getfield 19, 3) := by decide +kernel
theorem dX2_washGain_85 : decode cX2_washGain 85 = .ok (.iload_n 3, 1) := by decide +kernel
theorem dX2_washGain_86 : decode cX2_washGain 86 = .ok (.invokevirtual 144, 3) := by decide +kernel
theorem dX2_washGain_89 : decode cX2_washGain 89 = .ok (.istore 4, 2) := by decide +kernel
theorem dX2_washGain_91 : decode cX2_washGain 91 = .ok (.aload_n 0, 1) := by decide +kernel
theorem dX2_washGain_92 : decode cX2_washGain 92 = .ok (.getfield 16, 3) := by decide +kernel
theorem dX2_washGain_95 : decode cX2_washGain 95 = .ok (.iconst 0, 1) := by decide +kernel
theorem dX2_washGain_96 : decode cX2_washGain 96 = .ok (.aload_n 0, 1) := by decide +kernel
theorem dX2_washGain_97 : decode cX2_washGain 97 = .ok (.getfield 19, 3) := by decide +kernel
theorem dX2_washGain_100 : decode cX2_washGain 100 = .ok (.iconst 0, 1) := by decide +kernel
theorem dX2_washGain_101 : decode cX2_washGain 101 = .ok (.bipush 64, 2) := by decide +kernel
theorem dX2_washGain_103 : decode cX2_washGain 103 = .ok (.invokestatic 50, 3) := by decide +kernel
theorem dX2_washGain_106 : decode cX2_washGain 106 = .ok (.aload_n 0, 1) := by decide +kernel
theorem dX2_washGain_107 : decode cX2_washGain 107 = .ok (.getfield 19, 3) := by decide +kernel
theorem dX2_washGain_110 : decode cX2_washGain 110 = .ok (.bipush 42, 2) := by decide +kernel
theorem dX2_washGain_112 : decode cX2_washGain 112 = .ok (.iload_n 1, 1) := by decide +kernel
theorem dX2_washGain_113 : decode cX2_washGain 113 = .ok (.iadd, 1) := by decide +kernel
theorem dX2_washGain_114 : decode cX2_washGain 114 = .ok (.iload_n 2, 1) := by decide +kernel
theorem dX2_washGain_115 : decode cX2_washGain 115 = .ok (.iastore, 1) := by decide +kernel
theorem dX2_washGain_116 : decode cX2_washGain 116 = .ok (.aload_n 0, 1) := by decide +kernel
theorem dX2_washGain_117 : decode cX2_washGain 117 = .ok (.aload_n 0, 1) := by decide +kernel
theorem dX2_washGain_118 : decode cX2_washGain 118 = .ok (.getfield 19, 3) := by decide +kernel
theorem dX2_washGain_121 : decode cX2_washGain 121 = .ok (.iload_n 3, 1) := by decide +kernel
theorem dX2_washGain_122 : decode cX2_washGain 122 = .ok (.invokevirtual 144, 3) := by decide +kernel
theorem dX2_washGain_125 : decode cX2_washGain 125 = .ok (.iload 4, 2) := by decide +kernel
theorem dX2_washGain_127 : decode cX2_washGain 127 = .ok (.isub, 1) := by decide +kernel
theorem dX2_washGain_128 : decode cX2_washGain 128 = .ok (.ireturn, 1) := by decide +kernel
set_option maxRecDepth 20000 in
theorem ggX2_turns_X2_copy : GoodIn wsX2_turns wsX2_copy := (by refine gI_c (gw 7 rfl rfl) ?_; exact gI_n)
set_option maxRecDepth 20000 in
theorem gX2_turns_X2_copy : GoodIn wsX2_turns (va_wsS RX2 50 yX2_copy wsX2_copy) := goodIn_app (goodIn_of _ (by decide +kernel)) ggX2_turns_X2_copy
set_option maxRecDepth 20000 in
theorem ggX2_turns_X2_works : GoodIn wsX2_turns wsX2_works := (by refine gI_c (gw 10 rfl rfl) ?_; exact gI_n)
set_option maxRecDepth 20000 in
theorem gX2_turns_X2_works : GoodIn wsX2_turns (va_wsS RX2 62 yX2_works wsX2_works) := goodIn_app (goodIn_of _ (by decide +kernel)) ggX2_turns_X2_works
set_option maxRecDepth 20000 in
theorem ggX2_turns_X2_ticksOn : GoodIn wsX2_turns wsX2_ticksOn := (by refine gI_c (gw 14 rfl rfl) ?_; refine gI_c (gw 15 rfl rfl) ?_; refine gI_c (gw 16 rfl rfl) ?_; refine gI_c (gw 17 rfl rfl) ?_; refine gI_c (gw 6 rfl rfl) ?_; refine gI_c (gw 18 rfl rfl) ?_; refine gI_c (gw 3 rfl rfl) ?_; refine gI_c (gw 19 rfl rfl) ?_; refine gI_c (gw 20 rfl rfl) ?_; refine gI_c (gw 21 rfl rfl) ?_; refine gI_c (gw 22 rfl rfl) ?_; refine gI_c (gw 8 rfl rfl) ?_; refine gI_c (gw 9 rfl rfl) ?_; refine gI_c (gw 10 rfl rfl) ?_; refine gI_c (gw 23 rfl rfl) ?_; refine gI_c (gw 24 rfl rfl) ?_; refine gI_c (gw 25 rfl rfl) ?_; refine gI_c (gw 26 rfl rfl) ?_; refine gI_c (gw 27 rfl rfl) ?_; refine gI_c (gw 28 rfl rfl) ?_; refine gI_c (gw 29 rfl rfl) ?_; refine gI_c (gw 30 rfl rfl) ?_; refine gI_c (gw 31 rfl rfl) ?_; refine gI_c (gw 32 rfl rfl) ?_; refine gI_c (gw 33 rfl rfl) ?_; refine gI_c (gw 34 rfl rfl) ?_; refine gI_c (gw 35 rfl rfl) ?_; refine gI_c (gw 36 rfl rfl) ?_; refine gI_c (gw 37 rfl rfl) ?_; refine gI_c (gw 38 rfl rfl) ?_; refine gI_c (gw 39 rfl rfl) ?_; refine gI_c (gw 40 rfl rfl) ?_; refine gI_c (gw 41 rfl rfl) ?_; refine gI_c (gw 42 rfl rfl) ?_; refine gI_c (gw 43 rfl rfl) ?_; refine gI_c (gw 44 rfl rfl) ?_; refine gI_c (gw 45 rfl rfl) ?_; refine gI_c (gw 46 rfl rfl) ?_; refine gI_c (gw 47 rfl rfl) ?_; refine gI_c (gw 48 rfl rfl) ?_; refine gI_c (gw 49 rfl rfl) ?_; refine gI_c (gw 50 rfl rfl) ?_; refine gI_c (gw 51 rfl rfl) ?_; refine gI_c (gw 52 rfl rfl) ?_; refine gI_c (gw 53 rfl rfl) ?_; refine gI_c (gw 54 rfl rfl) ?_; refine gI_c (gw 55 rfl rfl) ?_; refine gI_c (gw 56 rfl rfl) ?_; refine gI_c (gw 57 rfl rfl) ?_; refine gI_c (gw 58 rfl rfl) ?_; refine gI_c (gw 59 rfl rfl) ?_; refine gI_c (gw 60 rfl rfl) ?_; refine gI_c (gw 61 rfl rfl) ?_; refine gI_c (gw 62 rfl rfl) ?_; refine gI_c (gw 63 rfl rfl) ?_; exact gI_n)
set_option maxRecDepth 20000 in
theorem gX2_turns_X2_ticksOn : GoodIn wsX2_turns (wsV RX2 144 RX2 yX2_ticksOn wsX2_ticksOn) := goodIn_app (goodIn_of _ (by decide +kernel)) ggX2_turns_X2_ticksOn
theorem dX2_turns_0 : decode cX2_turns 0 = .ok (.aload_n 0, 1) := by decide +kernel
theorem dX2_turns_1 : decode cX2_turns 1 = .ok (.getfield 16, 3) := by decide +kernel
theorem dX2_turns_4 : decode cX2_turns 4 = .ok (.iconst 0, 1) := by decide +kernel
theorem dX2_turns_5 : decode cX2_turns 5 = .ok (.aload_n 0, 1) := by decide +kernel
theorem dX2_turns_6 : decode cX2_turns 6 = .ok (.getfield 19, 3) := by decide +kernel
theorem dX2_turns_9 : decode cX2_turns 9 = .ok (.iconst 0, 1) := by decide +kernel
theorem dX2_turns_10 : decode cX2_turns 10 = .ok (.bipush 64, 2) := by decide +kernel
theorem dX2_turns_12 : decode cX2_turns 12 = .ok (.invokestatic 50, 3) := by decide +kernel
theorem dX2_turns_15 : decode cX2_turns 15 = .ok (.iconst 1, 1) := by decide +kernel
theorem dX2_turns_16 : decode cX2_turns 16 = .ok (.istore_n 3, 1) := by decide +kernel
theorem dX2_turns_17 : decode cX2_turns 17 = .ok (.iconst 1, 1) := by decide +kernel
theorem dX2_turns_18 : decode cX2_turns 18 = .ok (.istore 4, 2) := by decide +kernel
theorem dX2_turns_20 : decode cX2_turns 20 = .ok (.iload 4, 2) := by decide +kernel
theorem dX2_turns_22 : decode cX2_turns 22 = .ok (.iload_n 1, 1) := by decide +kernel
theorem dX2_turns_23 : decode cX2_turns 23 = .ok (.if_icmp .ge 18, 3) := by decide +kernel
theorem dX2_turns_26 : decode cX2_turns 26 = .ok (.iload_n 3, 1) := by decide +kernel
theorem dX2_turns_27 : decode cX2_turns 27 = .ok (.aload_n 0, 1) := by decide +kernel
theorem dX2_turns_28 : decode cX2_turns 28 = .ok (.getfield 38, 3) := by decide +kernel
theorem dX2_turns_31 : decode cX2_turns 31 = .ok (.iconst 1, 1) := by decide +kernel
theorem dX2_turns_32 : decode cX2_turns 32 = .ok (.iadd, 1) := by decide +kernel
theorem dX2_turns_33 : decode cX2_turns 33 = .ok (.imul, 1) := by decide +kernel
theorem dX2_turns_34 : decode cX2_turns 34 = .ok (.istore_n 3, 1) := by decide +kernel
theorem dX2_turns_35 : decode cX2_turns 35 = .ok (.iinc 4 1, 3) := by decide +kernel
theorem dX2_turns_38 : decode cX2_turns 38 = .ok (.goto (-18), 3) := by decide +kernel
theorem dX2_turns_41 : decode cX2_turns 41 = .ok (.iconst 0, 1) := by decide +kernel
theorem dX2_turns_42 : decode cX2_turns 42 = .ok (.istore 4, 2) := by decide +kernel
theorem dX2_turns_44 : decode cX2_turns 44 = .ok (.iconst 0, 1) := by decide +kernel
theorem dX2_turns_45 : decode cX2_turns 45 = .ok (.istore 5, 2) := by decide +kernel
theorem dX2_turns_47 : decode cX2_turns 47 = .ok (.iload 5, 2) := by decide +kernel
theorem dX2_turns_49 : decode cX2_turns 49 = .ok (.iload_n 1, 1) := by decide +kernel
theorem dX2_turns_50 : decode cX2_turns 50 = .ok (.if_icmp .ge 94, 3) := by decide +kernel
theorem dX2_turns_53 : decode cX2_turns 53 = .ok (.iload_n 2, 1) := by decide +kernel
theorem dX2_turns_54 : decode cX2_turns 54 = .ok (.iload_n 3, 1) := by decide +kernel
theorem dX2_turns_55 : decode cX2_turns 55 = .ok (.idiv, 1) := by decide +kernel
theorem dX2_turns_56 : decode cX2_turns 56 = .ok (.aload_n 0, 1) := by decide +kernel
theorem dX2_turns_57 : decode cX2_turns 57 = .ok (.getfield 38, 3) := by decide +kernel
theorem dX2_turns_60 : decode cX2_turns 60 = .ok (.iconst 1, 1) := by decide +kernel
theorem dX2_turns_61 : decode cX2_turns 61 = .ok (.iadd, 1) := by decide +kernel
theorem dX2_turns_62 : decode cX2_turns 62 = .ok (.irem, 1) := by decide +kernel
theorem dX2_turns_63 : decode cX2_turns 63 = .ok (.iconst 1, 1) := by decide +kernel
theorem dX2_turns_64 : decode cX2_turns 64 = .ok (.isub, 1) := by decide +kernel
theorem dX2_turns_65 : decode cX2_turns 65 = .ok (.istore 6, 2) := by decide +kernel
theorem dX2_turns_67 : decode cX2_turns 67 = .ok (.iload 6, 2) := by decide +kernel
theorem dX2_turns_69 : decode cX2_turns 69 = .ok (.ifCond .lt 18, 3) := by decide +kernel
theorem dX2_turns_72 : decode cX2_turns 72 = .ok (.aload_n 0, 1) := by decide +kernel
theorem dX2_turns_73 : decode cX2_turns 73 = .ok (.getfield 19, 3) := by decide +kernel
theorem dX2_turns_76 : decode cX2_turns 76 = .ok (.iload 6, 2) := by decide +kernel
theorem dX2_turns_78 : decode cX2_turns 78 = .ok (.invokestatic 62, 3) := by decide +kernel
theorem dX2_turns_81 : decode cX2_turns 81 = .ok (.ifCond .ne 6, 3) := by decide +kernel
theorem dX2_turns_84 : decode cX2_turns 84 = .ok (.bipush (-9), 2) := by decide +kernel
theorem dX2_turns_86 : decode cX2_turns 86 = .ok (.ireturn, 1) := by decide +kernel
theorem dX2_turns_87 : decode cX2_turns 87 = .ok (.iload 6, 2) := by decide +kernel
theorem dX2_turns_89 : decode cX2_turns 89 = .ok (.ifCond .lt 14, 3) := by decide +kernel
theorem dX2_turns_92 : decode cX2_turns 92 = .ok (.aload_n 0, 1) := by decide +kernel
theorem dX2_turns_93 : decode cX2_turns 93 = .ok (.getfield 19, 3) := by decide +kernel
theorem dX2_turns_96 : decode cX2_turns 96 = .ok (.bipush 42, 2) := by decide +kernel
theorem dX2_turns_98 : decode cX2_turns 98 = .ok (.iload 6, 2) := by decide +kernel
theorem dX2_turns_100 : decode cX2_turns 100 = .ok (.iadd, 1) := by decide +kernel
theorem dX2_turns_101 : decode cX2_turns 101 = .ok (.iconst 5, 1) := by decide +kernel
theorem dX2_turns_102 : decode cX2_turns 102 = .ok (.iastore, 1) := by decide +kernel
theorem dX2_turns_103 : decode cX2_turns 103 = .ok (.iload 4, 2) := by decide +kernel
theorem dX2_turns_105 : decode cX2_turns 105 = .ok (.aload_n 0, 1) := by decide +kernel
theorem dX2_turns_106 : decode cX2_turns 106 = .ok (.aload_n 0, 1) := by decide +kernel
theorem dX2_turns_107 : decode cX2_turns 107 = .ok (.getfield 19, 3) := by decide +kernel
theorem dX2_turns_110 : decode cX2_turns 110 = .ok (.iconst 5, 1) := by decide +kernel
theorem dX2_turns_111 : decode cX2_turns 111 = .ok (.invokevirtual 144, 3) := by decide +kernel
theorem dX2_turns_114 : decode cX2_turns 114 = .ok (.iadd, 1) := by decide +kernel
theorem dX2_turns_115 : decode cX2_turns 115 = .ok (.istore 4, 2) := by decide +kernel
theorem dX2_turns_117 : decode cX2_turns 117 = .ok (.iload_n 3, 1) := by decide +kernel
theorem dX2_turns_118 : decode cX2_turns 118 = .ok (.aload_n 0, 1) := by decide +kernel
theorem dX2_turns_119 : decode cX2_turns 119 = .ok (.getfield 38, 3) := by decide +kernel
theorem dX2_turns_122 : decode cX2_turns 122 = .ok (.if_icmp .le 14, 3) := by decide +kernel
theorem dX2_turns_125 : decode cX2_turns 125 = .ok (.iload_n 3, 1) := by decide +kernel
theorem dX2_turns_126 : decode cX2_turns 126 = .ok (.aload_n 0, 1) := by decide +kernel
theorem dX2_turns_127 : decode cX2_turns 127 = .ok (.getfield 38, 3) := by decide +kernel
theorem dX2_turns_130 : decode cX2_turns 130 = .ok (.iconst 1, 1) := by decide +kernel
theorem dX2_turns_131 : decode cX2_turns 131 = .ok (.iadd, 1) := by decide +kernel
theorem dX2_turns_132 : decode cX2_turns 132 = .ok (.idiv, 1) := by decide +kernel
theorem dX2_turns_133 : decode cX2_turns 133 = .ok (.goto 4, 3) := by decide +kernel
theorem dX2_turns_136 : decode cX2_turns 136 = .ok (.iconst 1, 1) := by decide +kernel
theorem dX2_turns_137 : decode cX2_turns 137 = .ok (.istore_n 3, 1) := by decide +kernel
theorem dX2_turns_138 : decode cX2_turns 138 = .ok (.iinc 5 1, 3) := by decide +kernel
theorem dX2_turns_141 : decode cX2_turns 141 = .ok (.goto (-94), 3) := by decide +kernel
theorem dX2_turns_144 : decode cX2_turns 144 = .ok (.iload 4, 2) := by decide +kernel
theorem dX2_turns_146 : decode cX2_turns 146 = .ok (.ireturn, 1) := by decide +kernel
set_option maxRecDepth 20000 in
theorem ggX2_bestTurns_X2_in : GoodIn wsX2_bestTurns wsX2_in := (by refine gI_c (gw 6 rfl rfl) ?_; exact gI_n)
set_option maxRecDepth 20000 in
theorem gX2_bestTurns_X2_in : GoodIn wsX2_bestTurns (va_wsS RX2 54 yX2_in wsX2_in) := goodIn_app (goodIn_of _ (by decide +kernel)) ggX2_bestTurns_X2_in
set_option maxRecDepth 20000 in
theorem ggX2_bestTurns_X2_refused : GoodIn wsX2_bestTurns wsX2_refused := (by refine gI_c (gw 10 rfl rfl) ?_; refine gI_c (gw 11 rfl rfl) ?_; refine gI_c (gw 62 rfl rfl) ?_; refine gI_c (gw 63 rfl rfl) ?_; refine gI_c (gw 64 rfl rfl) ?_; refine gI_c (gw 65 rfl rfl) ?_; refine gI_c (gw 66 rfl rfl) ?_; refine gI_c (gw 67 rfl rfl) ?_; refine gI_c (gw 68 rfl rfl) ?_; refine gI_c (gw 69 rfl rfl) ?_; refine gI_c (gw 70 rfl rfl) ?_; refine gI_c (gw 71 rfl rfl) ?_; refine gI_c (gw 72 rfl rfl) ?_; refine gI_c (gw 73 rfl rfl) ?_; refine gI_c (gw 74 rfl rfl) ?_; refine gI_c (gw 75 rfl rfl) ?_; refine gI_c (gw 76 rfl rfl) ?_; exact gI_n)
set_option maxRecDepth 20000 in
theorem gX2_bestTurns_X2_refused : GoodIn wsX2_bestTurns (wsV RX2 98 RX2 yX2_refused wsX2_refused) := goodIn_app (goodIn_of _ (by decide +kernel)) ggX2_bestTurns_X2_refused
set_option maxRecDepth 20000 in
theorem ggX2_bestTurns_X2_turns : GoodIn wsX2_bestTurns wsX2_turns := (by refine gI_c (gw 15 rfl rfl) ?_; refine gI_c (gw 16 rfl rfl) ?_; refine gI_c (gw 17 rfl rfl) ?_; refine gI_c (gw 2 rfl rfl) ?_; refine gI_c (gw 18 rfl rfl) ?_; refine gI_c (gw 19 rfl rfl) ?_; refine gI_c (gw 5 rfl rfl) ?_; refine gI_c (gw 20 rfl rfl) ?_; refine gI_c (gw 21 rfl rfl) ?_; refine gI_c (gw 22 rfl rfl) ?_; refine gI_c (gw 23 rfl rfl) ?_; refine gI_c (gw 24 rfl rfl) ?_; refine gI_c (gw 25 rfl rfl) ?_; refine gI_c (gw 26 rfl rfl) ?_; refine gI_c (gw 27 rfl rfl) ?_; refine gI_c (gw 28 rfl rfl) ?_; refine gI_c (gw 29 rfl rfl) ?_; refine gI_c (gw 30 rfl rfl) ?_; refine gI_c (gw 31 rfl rfl) ?_; refine gI_c (gw 32 rfl rfl) ?_; refine gI_c (gw 33 rfl rfl) ?_; refine gI_c (gw 34 rfl rfl) ?_; refine gI_c (gw 35 rfl rfl) ?_; refine gI_c (gw 36 rfl rfl) ?_; refine gI_c (gw 37 rfl rfl) ?_; refine gI_c (gw 38 rfl rfl) ?_; refine gI_c (gw 39 rfl rfl) ?_; refine gI_c (gw 40 rfl rfl) ?_; refine gI_c (gw 41 rfl rfl) ?_; refine gI_c (gw 42 rfl rfl) ?_; refine gI_c (gw 43 rfl rfl) ?_; refine gI_c (gw 44 rfl rfl) ?_; refine gI_c (gw 45 rfl rfl) ?_; refine gI_c (gw 46 rfl rfl) ?_; refine gI_c (gw 47 rfl rfl) ?_; refine gI_c (gw 48 rfl rfl) ?_; refine gI_c (gw 49 rfl rfl) ?_; refine gI_c (gw 50 rfl rfl) ?_; refine gI_c (gw 51 rfl rfl) ?_; refine gI_c (gw 52 rfl rfl) ?_; refine gI_c (gw 53 rfl rfl) ?_; refine gI_c (gw 54 rfl rfl) ?_; refine gI_c (gw 55 rfl rfl) ?_; refine gI_c (gw 56 rfl rfl) ?_; refine gI_c (gw 57 rfl rfl) ?_; refine gI_c (gw 58 rfl rfl) ?_; refine gI_c (gw 59 rfl rfl) ?_; refine gI_c (gw 60 rfl rfl) ?_; refine gI_c (gw 61 rfl rfl) ?_; refine gI_c (gw 62 rfl rfl) ?_; refine gI_c (gw 63 rfl rfl) ?_; refine gI_c (gw 64 rfl rfl) ?_; refine gI_c (gw 65 rfl rfl) ?_; refine gI_c (gw 66 rfl rfl) ?_; refine gI_c (gw 67 rfl rfl) ?_; refine gI_c (gw 68 rfl rfl) ?_; refine gI_c (gw 69 rfl rfl) ?_; refine gI_c (gw 70 rfl rfl) ?_; refine gI_c (gw 71 rfl rfl) ?_; refine gI_c (gw 72 rfl rfl) ?_; refine gI_c (gw 73 rfl rfl) ?_; refine gI_c (gw 74 rfl rfl) ?_; refine gI_c (gw 75 rfl rfl) ?_; refine gI_c (gw 76 rfl rfl) ?_; exact gI_n)
set_option maxRecDepth 20000 in
theorem gX2_bestTurns_X2_turns : GoodIn wsX2_bestTurns (wsV RX2 160 RX2 yX2_turns wsX2_turns) := goodIn_app (goodIn_of _ (by decide +kernel)) ggX2_bestTurns_X2_turns
theorem dX2_bestTurns_0 : decode cX2_bestTurns 0 = .ok (.aload_n 0, 1) := by decide +kernel
theorem dX2_bestTurns_1 : decode cX2_bestTurns 1 = .ok (.iload_n 1, 1) := by decide +kernel
theorem dX2_bestTurns_2 : decode cX2_bestTurns 2 = .ok (.i2l, 1) := by decide +kernel
theorem dX2_bestTurns_3 : decode cX2_bestTurns 3 = .ok (.lconst 1, 1) := by decide +kernel
theorem dX2_bestTurns_4 : decode cX2_bestTurns 4 = .ok (.ldc2_w 158, 3) := by decide +kernel
theorem dX2_bestTurns_7 : decode cX2_bestTurns 7 = .ok (.invokestatic 54, 3) := by decide +kernel
theorem dX2_bestTurns_10 : decode cX2_bestTurns 10 = .ok (.ifCond .eq 7, 3) := by decide +kernel
theorem dX2_bestTurns_13 : decode cX2_bestTurns 13 = .ok (.iconst 0, 1) := by decide +kernel
theorem dX2_bestTurns_14 : decode cX2_bestTurns 14 = .ok (.goto 4, 3) := by decide +kernel
theorem dX2_bestTurns_17 : decode cX2_bestTurns 17 = .ok (.iconst 1, 1) := by decide +kernel
theorem dX2_bestTurns_18 : decode cX2_bestTurns 18 = .ok (.invokevirtual 98, 3) := by decide +kernel
theorem dX2_bestTurns_21 : decode cX2_bestTurns 21 = .ok (.ifCond .eq 5, 3) := by decide +kernel
theorem dX2_bestTurns_24 : decode cX2_bestTurns 24 = .ok (.iconst 0, 1) := by decide +kernel
theorem dX2_bestTurns_25 : decode cX2_bestTurns 25 = .ok (.ireturn, 1) := by decide +kernel
theorem dX2_bestTurns_26 : decode cX2_bestTurns 26 = .ok (.iconst 1, 1) := by decide +kernel
theorem dX2_bestTurns_27 : decode cX2_bestTurns 27 = .ok (.istore_n 3, 1) := by decide +kernel
theorem dX2_bestTurns_28 : decode cX2_bestTurns 28 = .ok (.iconst 0, 1) := by decide +kernel
theorem dX2_bestTurns_29 : decode cX2_bestTurns 29 = .ok (.istore 4, 2) := by decide +kernel
theorem dX2_bestTurns_31 : decode cX2_bestTurns 31 = .ok (.iload 4, 2) := by decide +kernel
theorem dX2_bestTurns_33 : decode cX2_bestTurns 33 = .ok (.iload_n 1, 1) := by decide +kernel
theorem dX2_bestTurns_34 : decode cX2_bestTurns 34 = .ok (.if_icmp .ge 18, 3) := by decide +kernel
theorem dX2_bestTurns_37 : decode cX2_bestTurns 37 = .ok (.iload_n 3, 1) := by decide +kernel
theorem dX2_bestTurns_38 : decode cX2_bestTurns 38 = .ok (.aload_n 0, 1) := by decide +kernel
theorem dX2_bestTurns_39 : decode cX2_bestTurns 39 = .ok (.getfield 38, 3) := by decide +kernel
theorem dX2_bestTurns_42 : decode cX2_bestTurns 42 = .ok (.iconst 1, 1) := by decide +kernel
theorem dX2_bestTurns_43 : decode cX2_bestTurns 43 = .ok (.iadd, 1) := by decide +kernel
theorem dX2_bestTurns_44 : decode cX2_bestTurns 44 = .ok (.imul, 1) := by decide +kernel
theorem dX2_bestTurns_45 : decode cX2_bestTurns 45 = .ok (.istore_n 3, 1) := by decide +kernel
theorem dX2_bestTurns_46 : decode cX2_bestTurns 46 = .ok (.iinc 4 1, 3) := by decide +kernel
theorem dX2_bestTurns_49 : decode cX2_bestTurns 49 = .ok (.goto (-18), 3) := by decide +kernel
theorem dX2_bestTurns_52 : decode cX2_bestTurns 52 = .ok (.bipush (-9), 2) := by decide +kernel
theorem dX2_bestTurns_54 : decode cX2_bestTurns 54 = .ok (.istore 4, 2) := by decide +kernel
theorem dX2_bestTurns_56 : decode cX2_bestTurns 56 = .ok (.iconst 0, 1) := by decide +kernel
theorem dX2_bestTurns_57 : decode cX2_bestTurns 57 = .ok (.istore 5, 2) := by decide +kernel
theorem dX2_bestTurns_59 : decode cX2_bestTurns 59 = .ok (.iconst 0, 1) := by decide +kernel
theorem dX2_bestTurns_60 : decode cX2_bestTurns 60 = .ok (.istore 6, 2) := by decide +kernel
theorem dX2_bestTurns_62 : decode cX2_bestTurns 62 = .ok (.iload 6, 2) := by decide +kernel
theorem dX2_bestTurns_64 : decode cX2_bestTurns 64 = .ok (.iload_n 3, 1) := by decide +kernel
theorem dX2_bestTurns_65 : decode cX2_bestTurns 65 = .ok (.if_icmp .ge 50, 3) := by decide +kernel
theorem dX2_bestTurns_68 : decode cX2_bestTurns 68 = .ok (.aload_n 0, 1) := by decide +kernel
theorem dX2_bestTurns_69 : decode cX2_bestTurns 69 = .ok (.iload_n 1, 1) := by decide +kernel
theorem dX2_bestTurns_70 : decode cX2_bestTurns 70 = .ok (.iload 6, 2) := by decide +kernel
theorem dX2_bestTurns_72 : decode cX2_bestTurns 72 = .ok (.invokevirtual 160, 3) := by decide +kernel
theorem dX2_bestTurns_75 : decode cX2_bestTurns 75 = .ok (.istore 7, 2) := by decide +kernel
theorem dX2_bestTurns_77 : decode cX2_bestTurns 77 = .ok (.iload 7, 2) := by decide +kernel
theorem dX2_bestTurns_79 : decode cX2_bestTurns 79 = .ok (.iload 4, 2) := by decide +kernel
theorem dX2_bestTurns_81 : decode cX2_bestTurns 81 = .ok (.if_icmp .le 8, 3) := by decide +kernel
theorem dX2_bestTurns_84 : decode cX2_bestTurns 84 = .ok (.iload 6, 2) := by decide +kernel
theorem dX2_bestTurns_86 : decode cX2_bestTurns 86 = .ok (.goto 5, 3) := by decide +kernel
theorem dX2_bestTurns_89 : decode cX2_bestTurns 89 = .ok (.iload 5, 2) := by decide +kernel
theorem dX2_bestTurns_91 : decode cX2_bestTurns 91 = .ok (.istore 5, 2) := by decide +kernel
theorem dX2_bestTurns_93 : decode cX2_bestTurns 93 = .ok (.iload 7, 2) := by decide +kernel
theorem dX2_bestTurns_95 : decode cX2_bestTurns 95 = .ok (.iload 4, 2) := by decide +kernel
theorem dX2_bestTurns_97 : decode cX2_bestTurns 97 = .ok (.if_icmp .le 8, 3) := by decide +kernel
theorem dX2_bestTurns_100 : decode cX2_bestTurns 100 = .ok (.iload 7, 2) := by decide +kernel
theorem dX2_bestTurns_102 : decode cX2_bestTurns 102 = .ok (.goto 5, 3) := by decide +kernel
theorem dX2_bestTurns_105 : decode cX2_bestTurns 105 = .ok (.iload 4, 2) := by decide +kernel
theorem dX2_bestTurns_107 : decode cX2_bestTurns 107 = .ok (.istore 4, 2) := by decide +kernel
theorem dX2_bestTurns_109 : decode cX2_bestTurns 109 = .ok (.iinc 6 1, 3) := by decide +kernel
theorem dX2_bestTurns_112 : decode cX2_bestTurns 112 = .ok (.goto (-50), 3) := by decide +kernel
theorem dX2_bestTurns_115 : decode cX2_bestTurns 115 = .ok (.iload_n 2, 1) := by decide +kernel
theorem dX2_bestTurns_116 : decode cX2_bestTurns 116 = .ok (.ifCond .eq 19, 3) := by decide +kernel
theorem dX2_bestTurns_119 : decode cX2_bestTurns 119 = .ok (.iload 5, 2) := by decide +kernel
theorem dX2_bestTurns_121 : decode cX2_bestTurns 121 = .ok (.iload_n 3, 1) := by decide +kernel
theorem dX2_bestTurns_122 : decode cX2_bestTurns 122 = .ok (.aload_n 0, 1) := by decide +kernel
theorem dX2_bestTurns_123 : decode cX2_bestTurns 123 = .ok (.getfield 38, 3) := by decide +kernel
theorem dX2_bestTurns_126 : decode cX2_bestTurns 126 = .ok (.iconst 1, 1) := by decide +kernel
theorem dX2_bestTurns_127 : decode cX2_bestTurns 127 = .ok (.iadd, 1) := by decide +kernel
theorem dX2_bestTurns_128 : decode cX2_bestTurns 128 = .ok (.idiv, 1) := by decide +kernel
theorem dX2_bestTurns_129 : decode cX2_bestTurns 129 = .ok (.idiv, 1) := by decide +kernel
theorem dX2_bestTurns_130 : decode cX2_bestTurns 130 = .ok (.iconst 1, 1) := by decide +kernel
theorem dX2_bestTurns_131 : decode cX2_bestTurns 131 = .ok (.isub, 1) := by decide +kernel
theorem dX2_bestTurns_132 : decode cX2_bestTurns 132 = .ok (.goto 5, 3) := by decide +kernel
theorem dX2_bestTurns_135 : decode cX2_bestTurns 135 = .ok (.iload 4, 2) := by decide +kernel
theorem dX2_bestTurns_137 : decode cX2_bestTurns 137 = .ok (.ireturn, 1) := by decide +kernel
set_option maxRecDepth 20000 in
theorem ggX2_scaledAfter_X2_isEffect : GoodIn wsX2_scaledAfter wsX2_isEffect := (by refine gI_c (gw 8 rfl rfl) ?_; refine gI_c (gw 9 rfl rfl) ?_; refine gI_c (gw 10 rfl rfl) ?_; refine gI_c (gw 11 rfl rfl) ?_; refine gI_c (gw 7 rfl rfl) ?_; refine gI_c (gw 12 rfl rfl) ?_; refine gI_c (gw 58 rfl rfl) ?_; refine gI_c (gw 59 rfl rfl) ?_; refine gI_c (gw 60 rfl rfl) ?_; refine gI_c (gw 61 rfl rfl) ?_; refine gI_c (gw 62 rfl rfl) ?_; refine gI_c (gw 63 rfl rfl) ?_; refine gI_c (gw 64 rfl rfl) ?_; refine gI_c (gw 65 rfl rfl) ?_; refine gI_c (gw 66 rfl rfl) ?_; refine gI_c (gw 67 rfl rfl) ?_; refine gI_c (gw 68 rfl rfl) ?_; refine gI_c (gw 69 rfl rfl) ?_; refine gI_c (gw 70 rfl rfl) ?_; refine gI_c (gw 71 rfl rfl) ?_; refine gI_c (gw 72 rfl rfl) ?_; exact gI_n)
set_option maxRecDepth 20000 in
theorem gX2_scaledAfter_X2_isEffect : GoodIn wsX2_scaledAfter (wsV RX2 129 RX2 yX2_isEffect wsX2_isEffect) := goodIn_app (goodIn_of _ (by decide +kernel)) ggX2_scaledAfter_X2_isEffect
set_option maxRecDepth 20000 in
theorem ggX2_scaledAfter_X2_in : GoodIn wsX2_scaledAfter wsX2_in := (by refine gI_c (gw 12 rfl rfl) ?_; exact gI_n)
set_option maxRecDepth 20000 in
theorem gX2_scaledAfter_X2_in : GoodIn wsX2_scaledAfter (va_wsS RX2 54 yX2_in wsX2_in) := goodIn_app (goodIn_of _ (by decide +kernel)) ggX2_scaledAfter_X2_in
set_option maxRecDepth 20000 in
theorem ggX2_scaledAfter_X2_refused : GoodIn wsX2_scaledAfter wsX2_refused := (by refine gI_c (gw 16 rfl rfl) ?_; refine gI_c (gw 17 rfl rfl) ?_; refine gI_c (gw 58 rfl rfl) ?_; refine gI_c (gw 59 rfl rfl) ?_; refine gI_c (gw 60 rfl rfl) ?_; refine gI_c (gw 61 rfl rfl) ?_; refine gI_c (gw 62 rfl rfl) ?_; refine gI_c (gw 63 rfl rfl) ?_; refine gI_c (gw 64 rfl rfl) ?_; refine gI_c (gw 65 rfl rfl) ?_; refine gI_c (gw 66 rfl rfl) ?_; refine gI_c (gw 67 rfl rfl) ?_; refine gI_c (gw 68 rfl rfl) ?_; refine gI_c (gw 69 rfl rfl) ?_; refine gI_c (gw 70 rfl rfl) ?_; refine gI_c (gw 71 rfl rfl) ?_; refine gI_c (gw 72 rfl rfl) ?_; exact gI_n)
set_option maxRecDepth 20000 in
theorem gX2_scaledAfter_X2_refused : GoodIn wsX2_scaledAfter (wsV RX2 98 RX2 yX2_refused wsX2_refused) := goodIn_app (goodIn_of _ (by decide +kernel)) ggX2_scaledAfter_X2_refused
set_option maxRecDepth 20000 in
theorem ggX2_scaledAfter_X2_copy : GoodIn wsX2_scaledAfter wsX2_copy := (by refine gI_c (gw 20 rfl rfl) ?_; exact gI_n)
set_option maxRecDepth 20000 in
theorem gX2_scaledAfter_X2_copy : GoodIn wsX2_scaledAfter (va_wsS RX2 50 yX2_copy wsX2_copy) := goodIn_app (goodIn_of _ (by decide +kernel)) ggX2_scaledAfter_X2_copy
set_option maxRecDepth 20000 in
theorem ggX2_scaledAfter_X2_tickOn : GoodIn wsX2_scaledAfter wsX2_tickOn := (by refine gI_c (gw 24 rfl rfl) ?_; refine gI_c (gw 9 rfl rfl) ?_; refine gI_c (gw 25 rfl rfl) ?_; refine gI_c (gw 26 rfl rfl) ?_; refine gI_c (gw 27 rfl rfl) ?_; refine gI_c (gw 7 rfl rfl) ?_; refine gI_c (gw 28 rfl rfl) ?_; refine gI_c (gw 29 rfl rfl) ?_; refine gI_c (gw 30 rfl rfl) ?_; refine gI_c (gw 31 rfl rfl) ?_; refine gI_c (gw 32 rfl rfl) ?_; refine gI_c (gw 33 rfl rfl) ?_; refine gI_c (gw 34 rfl rfl) ?_; refine gI_c (gw 35 rfl rfl) ?_; refine gI_c (gw 36 rfl rfl) ?_; refine gI_c (gw 37 rfl rfl) ?_; refine gI_c (gw 38 rfl rfl) ?_; refine gI_c (gw 39 rfl rfl) ?_; refine gI_c (gw 40 rfl rfl) ?_; refine gI_c (gw 41 rfl rfl) ?_; refine gI_c (gw 42 rfl rfl) ?_; refine gI_c (gw 43 rfl rfl) ?_; refine gI_c (gw 44 rfl rfl) ?_; refine gI_c (gw 45 rfl rfl) ?_; refine gI_c (gw 46 rfl rfl) ?_; refine gI_c (gw 47 rfl rfl) ?_; refine gI_c (gw 48 rfl rfl) ?_; refine gI_c (gw 49 rfl rfl) ?_; refine gI_c (gw 50 rfl rfl) ?_; refine gI_c (gw 51 rfl rfl) ?_; refine gI_c (gw 52 rfl rfl) ?_; refine gI_c (gw 53 rfl rfl) ?_; refine gI_c (gw 54 rfl rfl) ?_; refine gI_c (gw 55 rfl rfl) ?_; refine gI_c (gw 56 rfl rfl) ?_; refine gI_c (gw 57 rfl rfl) ?_; refine gI_c (gw 58 rfl rfl) ?_; refine gI_c (gw 59 rfl rfl) ?_; refine gI_c (gw 60 rfl rfl) ?_; refine gI_c (gw 61 rfl rfl) ?_; refine gI_c (gw 62 rfl rfl) ?_; refine gI_c (gw 63 rfl rfl) ?_; refine gI_c (gw 64 rfl rfl) ?_; refine gI_c (gw 65 rfl rfl) ?_; refine gI_c (gw 66 rfl rfl) ?_; refine gI_c (gw 67 rfl rfl) ?_; refine gI_c (gw 68 rfl rfl) ?_; refine gI_c (gw 69 rfl rfl) ?_; refine gI_c (gw 70 rfl rfl) ?_; refine gI_c (gw 71 rfl rfl) ?_; refine gI_c (gw 72 rfl rfl) ?_; exact gI_n)
set_option maxRecDepth 20000 in
theorem gX2_scaledAfter_X2_tickOn : GoodIn wsX2_scaledAfter (wsV RX2 90 RX2 yX2_tickOn wsX2_tickOn) := goodIn_app (goodIn_of _ (by decide +kernel)) ggX2_scaledAfter_X2_tickOn
theorem dX2_scaledAfter_0 : decode cX2_scaledAfter 0 = .ok (.aload_n 0, 1) := by decide +kernel
theorem dX2_scaledAfter_1 : decode cX2_scaledAfter 1 = .ok (.aload_n 0, 1) := by decide +kernel
theorem dX2_scaledAfter_2 : decode cX2_scaledAfter 2 = .ok (.iload_n 1, 1) := by decide +kernel
theorem dX2_scaledAfter_3 : decode cX2_scaledAfter 3 = .ok (.invokevirtual 129, 3) := by decide +kernel
theorem dX2_scaledAfter_6 : decode cX2_scaledAfter 6 = .ok (.ifCond .ne 7, 3) := by decide +kernel
theorem dX2_scaledAfter_9 : decode cX2_scaledAfter 9 = .ok (.iconst 1, 1) := by decide +kernel
theorem dX2_scaledAfter_10 : decode cX2_scaledAfter 10 = .ok (.goto 20, 3) := by decide +kernel
theorem dX2_scaledAfter_13 : decode cX2_scaledAfter 13 = .ok (.iload_n 2, 1) := by decide +kernel
theorem dX2_scaledAfter_14 : decode cX2_scaledAfter 14 = .ok (.i2l, 1) := by decide +kernel
theorem dX2_scaledAfter_15 : decode cX2_scaledAfter 15 = .ok (.lconst 1, 1) := by decide +kernel
theorem dX2_scaledAfter_16 : decode cX2_scaledAfter 16 = .ok (.ldc2_w 139, 3) := by decide +kernel
theorem dX2_scaledAfter_19 : decode cX2_scaledAfter 19 = .ok (.invokestatic 54, 3) := by decide +kernel
theorem dX2_scaledAfter_22 : decode cX2_scaledAfter 22 = .ok (.ifCond .ne 7, 3) := by decide +kernel
theorem dX2_scaledAfter_25 : decode cX2_scaledAfter 25 = .ok (.iconst 2, 1) := by decide +kernel
theorem dX2_scaledAfter_26 : decode cX2_scaledAfter 26 = .ok (.goto 4, 3) := by decide +kernel
theorem dX2_scaledAfter_29 : decode cX2_scaledAfter 29 = .ok (.iconst 0, 1) := by decide +kernel
theorem dX2_scaledAfter_30 : decode cX2_scaledAfter 30 = .ok (.invokevirtual 98, 3) := by decide +kernel
theorem dX2_scaledAfter_33 : decode cX2_scaledAfter 33 = .ok (.ifCond .eq 5, 3) := by decide +kernel
theorem dX2_scaledAfter_36 : decode cX2_scaledAfter 36 = .ok (.iconst 0, 1) := by decide +kernel
theorem dX2_scaledAfter_37 : decode cX2_scaledAfter 37 = .ok (.ireturn, 1) := by decide +kernel
theorem dX2_scaledAfter_38 : decode cX2_scaledAfter 38 = .ok (.aload_n 0, 1) := by decide +kernel
theorem dX2_scaledAfter_39 : decode cX2_scaledAfter 39 = .ok (.getfield 16, 3) := by decide +kernel
theorem dX2_scaledAfter_42 : decode cX2_scaledAfter 42 = .ok (.iconst 0, 1) := by decide +kernel
theorem dX2_scaledAfter_43 : decode cX2_scaledAfter 43 = .ok (.aload_n 0, 1) := by decide +kernel
theorem dX2_scaledAfter_44 : decode cX2_scaledAfter 44 = .ok (.getfield 19, 3) := by decide +kernel
theorem dX2_scaledAfter_47 : decode cX2_scaledAfter 47 = .ok (.iconst 0, 1) := by decide +kernel
theorem dX2_scaledAfter_48 : decode cX2_scaledAfter 48 = .ok (.bipush 64, 2) := by decide +kernel
theorem dX2_scaledAfter_50 : decode cX2_scaledAfter 50 = .ok (.invokestatic 50, 3) := by decide +kernel
theorem dX2_scaledAfter_53 : decode cX2_scaledAfter 53 = .ok (.iconst 0, 1) := by decide +kernel
theorem dX2_scaledAfter_54 : decode cX2_scaledAfter 54 = .ok (.istore_n 3, 1) := by decide +kernel
theorem dX2_scaledAfter_55 : decode cX2_scaledAfter 55 = .ok (.iload_n 3, 1) := by decide +kernel
theorem dX2_scaledAfter_56 : decode cX2_scaledAfter 56 = .ok (.sipush 200, 3) := by decide +kernel
theorem dX2_scaledAfter_59 : decode cX2_scaledAfter 59 = .ok (.if_icmp .gt 32, 3) := by decide +kernel
theorem dX2_scaledAfter_62 : decode cX2_scaledAfter 62 = .ok (.aload_n 0, 1) := by decide +kernel
theorem dX2_scaledAfter_63 : decode cX2_scaledAfter 63 = .ok (.getfield 19, 3) := by decide +kernel
theorem dX2_scaledAfter_66 : decode cX2_scaledAfter 66 = .ok (.bipush 30, 2) := by decide +kernel
theorem dX2_scaledAfter_68 : decode cX2_scaledAfter 68 = .ok (.iload_n 1, 1) := by decide +kernel
theorem dX2_scaledAfter_69 : decode cX2_scaledAfter 69 = .ok (.iadd, 1) := by decide +kernel
theorem dX2_scaledAfter_70 : decode cX2_scaledAfter 70 = .ok (.iaload, 1) := by decide +kernel
theorem dX2_scaledAfter_71 : decode cX2_scaledAfter 71 = .ok (.iload_n 2, 1) := by decide +kernel
theorem dX2_scaledAfter_72 : decode cX2_scaledAfter 72 = .ok (.if_icmp .lt 5, 3) := by decide +kernel
theorem dX2_scaledAfter_75 : decode cX2_scaledAfter 75 = .ok (.iload_n 3, 1) := by decide +kernel
theorem dX2_scaledAfter_76 : decode cX2_scaledAfter 76 = .ok (.ireturn, 1) := by decide +kernel
theorem dX2_scaledAfter_77 : decode cX2_scaledAfter 77 = .ok (.aload_n 0, 1) := by decide +kernel
theorem dX2_scaledAfter_78 : decode cX2_scaledAfter 78 = .ok (.aload_n 0, 1) := by decide +kernel
theorem dX2_scaledAfter_79 : decode cX2_scaledAfter 79 = .ok (.getfield 19, 3) := by decide +kernel
theorem dX2_scaledAfter_82 : decode cX2_scaledAfter 82 = .ok (.invokevirtual 90, 3) := by decide +kernel
theorem dX2_scaledAfter_85 : decode cX2_scaledAfter 85 = .ok (.iinc 3 1, 3) := by decide +kernel
theorem dX2_scaledAfter_88 : decode cX2_scaledAfter 88 = .ok (.goto (-33), 3) := by decide +kernel
theorem dX2_scaledAfter_91 : decode cX2_scaledAfter 91 = .ok (.bipush (-9), 2) := by decide +kernel
theorem dX2_scaledAfter_93 : decode cX2_scaledAfter 93 = .ok (.ireturn, 1) := by decide +kernel
set_option maxRecDepth 20000 in
theorem ggX2_steamFor_X2_in : GoodIn wsX2_steamFor wsX2_in := (by refine gI_c (gw 8 rfl rfl) ?_; exact gI_n)
set_option maxRecDepth 20000 in
theorem gX2_steamFor_X2_in : GoodIn wsX2_steamFor (va_wsS RX2 54 yX2_in wsX2_in) := goodIn_app (goodIn_of _ (by decide +kernel)) ggX2_steamFor_X2_in
set_option maxRecDepth 20000 in
theorem ggX2_steamFor_X2_refused : GoodIn wsX2_steamFor wsX2_refused := (by refine gI_c (gw 12 rfl rfl) ?_; refine gI_c (gw 13 rfl rfl) ?_; refine gI_c (gw 59 rfl rfl) ?_; refine gI_c (gw 60 rfl rfl) ?_; refine gI_c (gw 61 rfl rfl) ?_; refine gI_c (gw 62 rfl rfl) ?_; refine gI_c (gw 63 rfl rfl) ?_; refine gI_c (gw 64 rfl rfl) ?_; refine gI_c (gw 65 rfl rfl) ?_; refine gI_c (gw 66 rfl rfl) ?_; refine gI_c (gw 67 rfl rfl) ?_; refine gI_c (gw 68 rfl rfl) ?_; refine gI_c (gw 69 rfl rfl) ?_; refine gI_c (gw 70 rfl rfl) ?_; refine gI_c (gw 71 rfl rfl) ?_; refine gI_c (gw 72 rfl rfl) ?_; refine gI_c (gw 73 rfl rfl) ?_; exact gI_n)
set_option maxRecDepth 20000 in
theorem gX2_steamFor_X2_refused : GoodIn wsX2_steamFor (wsV RX2 98 RX2 yX2_refused wsX2_refused) := goodIn_app (goodIn_of _ (by decide +kernel)) ggX2_steamFor_X2_refused
set_option maxRecDepth 20000 in
theorem ggX2_steamFor_X2_copy : GoodIn wsX2_steamFor wsX2_copy := (by refine gI_c (gw 16 rfl rfl) ?_; exact gI_n)
set_option maxRecDepth 20000 in
theorem gX2_steamFor_X2_copy : GoodIn wsX2_steamFor (va_wsS RX2 50 yX2_copy wsX2_copy) := goodIn_app (goodIn_of _ (by decide +kernel)) ggX2_steamFor_X2_copy
set_option maxRecDepth 20000 in
theorem ggX2_steamFor_X2_ticksOn : GoodIn wsX2_steamFor wsX2_ticksOn := (by refine gI_c (gw 20 rfl rfl) ?_; refine gI_c (gw 21 rfl rfl) ?_; refine gI_c (gw 22 rfl rfl) ?_; refine gI_c (gw 23 rfl rfl) ?_; refine gI_c (gw 7 rfl rfl) ?_; refine gI_c (gw 24 rfl rfl) ?_; refine gI_c (gw 25 rfl rfl) ?_; refine gI_c (gw 26 rfl rfl) ?_; refine gI_c (gw 27 rfl rfl) ?_; refine gI_c (gw 28 rfl rfl) ?_; refine gI_c (gw 29 rfl rfl) ?_; refine gI_c (gw 30 rfl rfl) ?_; refine gI_c (gw 31 rfl rfl) ?_; refine gI_c (gw 32 rfl rfl) ?_; refine gI_c (gw 33 rfl rfl) ?_; refine gI_c (gw 34 rfl rfl) ?_; refine gI_c (gw 35 rfl rfl) ?_; refine gI_c (gw 36 rfl rfl) ?_; refine gI_c (gw 37 rfl rfl) ?_; refine gI_c (gw 38 rfl rfl) ?_; refine gI_c (gw 39 rfl rfl) ?_; refine gI_c (gw 40 rfl rfl) ?_; refine gI_c (gw 41 rfl rfl) ?_; refine gI_c (gw 42 rfl rfl) ?_; refine gI_c (gw 43 rfl rfl) ?_; refine gI_c (gw 44 rfl rfl) ?_; refine gI_c (gw 45 rfl rfl) ?_; refine gI_c (gw 46 rfl rfl) ?_; refine gI_c (gw 47 rfl rfl) ?_; refine gI_c (gw 48 rfl rfl) ?_; refine gI_c (gw 49 rfl rfl) ?_; refine gI_c (gw 50 rfl rfl) ?_; refine gI_c (gw 51 rfl rfl) ?_; refine gI_c (gw 52 rfl rfl) ?_; refine gI_c (gw 53 rfl rfl) ?_; refine gI_c (gw 54 rfl rfl) ?_; refine gI_c (gw 55 rfl rfl) ?_; refine gI_c (gw 56 rfl rfl) ?_; refine gI_c (gw 57 rfl rfl) ?_; refine gI_c (gw 58 rfl rfl) ?_; refine gI_c (gw 59 rfl rfl) ?_; refine gI_c (gw 60 rfl rfl) ?_; refine gI_c (gw 61 rfl rfl) ?_; refine gI_c (gw 62 rfl rfl) ?_; refine gI_c (gw 63 rfl rfl) ?_; refine gI_c (gw 64 rfl rfl) ?_; refine gI_c (gw 65 rfl rfl) ?_; refine gI_c (gw 66 rfl rfl) ?_; refine gI_c (gw 67 rfl rfl) ?_; refine gI_c (gw 68 rfl rfl) ?_; refine gI_c (gw 69 rfl rfl) ?_; refine gI_c (gw 70 rfl rfl) ?_; refine gI_c (gw 71 rfl rfl) ?_; refine gI_c (gw 72 rfl rfl) ?_; refine gI_c (gw 73 rfl rfl) ?_; exact gI_n)
set_option maxRecDepth 20000 in
theorem gX2_steamFor_X2_ticksOn : GoodIn wsX2_steamFor (wsV RX2 144 RX2 yX2_ticksOn wsX2_ticksOn) := goodIn_app (goodIn_of _ (by decide +kernel)) ggX2_steamFor_X2_ticksOn
theorem dX2_steamFor_0 : decode cX2_steamFor 0 = .ok (.aload_n 0, 1) := by decide +kernel
theorem dX2_steamFor_1 : decode cX2_steamFor 1 = .ok (.iload_n 1, 1) := by decide +kernel
theorem dX2_steamFor_2 : decode cX2_steamFor 2 = .ok (.i2l, 1) := by decide +kernel
theorem dX2_steamFor_3 : decode cX2_steamFor 3 = .ok (.lconst 0, 1) := by decide +kernel
theorem dX2_steamFor_4 : decode cX2_steamFor 4 = .ok (.ldc2_w 163, 3) := by decide +kernel
theorem dX2_steamFor_7 : decode cX2_steamFor 7 = .ok (.invokestatic 54, 3) := by decide +kernel
theorem dX2_steamFor_10 : decode cX2_steamFor 10 = .ok (.ifCond .eq 19, 3) := by decide +kernel
theorem dX2_steamFor_13 : decode cX2_steamFor 13 = .ok (.iload_n 2, 1) := by decide +kernel
theorem dX2_steamFor_14 : decode cX2_steamFor 14 = .ok (.i2l, 1) := by decide +kernel
theorem dX2_steamFor_15 : decode cX2_steamFor 15 = .ok (.lconst 1, 1) := by decide +kernel
theorem dX2_steamFor_16 : decode cX2_steamFor 16 = .ok (.ldc2_w 149, 3) := by decide +kernel
theorem dX2_steamFor_19 : decode cX2_steamFor 19 = .ok (.invokestatic 54, 3) := by decide +kernel
theorem dX2_steamFor_22 : decode cX2_steamFor 22 = .ok (.ifCond .eq 7, 3) := by decide +kernel
theorem dX2_steamFor_25 : decode cX2_steamFor 25 = .ok (.iconst 0, 1) := by decide +kernel
theorem dX2_steamFor_26 : decode cX2_steamFor 26 = .ok (.goto 4, 3) := by decide +kernel
theorem dX2_steamFor_29 : decode cX2_steamFor 29 = .ok (.iconst 1, 1) := by decide +kernel
theorem dX2_steamFor_30 : decode cX2_steamFor 30 = .ok (.invokevirtual 98, 3) := by decide +kernel
theorem dX2_steamFor_33 : decode cX2_steamFor 33 = .ok (.ifCond .eq 5, 3) := by decide +kernel
theorem dX2_steamFor_36 : decode cX2_steamFor 36 = .ok (.iconst 0, 1) := by decide +kernel
theorem dX2_steamFor_37 : decode cX2_steamFor 37 = .ok (.ireturn, 1) := by decide +kernel
theorem dX2_steamFor_38 : decode cX2_steamFor 38 = .ok (.iconst 0, 1) := by decide +kernel
theorem dX2_steamFor_39 : decode cX2_steamFor 39 = .ok (.istore_n 3, 1) := by decide +kernel
theorem dX2_steamFor_40 : decode cX2_steamFor 40 = .ok (.iload_n 3, 1) := by decide +kernel
theorem dX2_steamFor_41 : decode cX2_steamFor 41 = .ok (.sipush 999, 3) := by decide +kernel
theorem dX2_steamFor_44 : decode cX2_steamFor 44 = .ok (.if_icmp .gt 47, 3) := by decide +kernel
theorem dX2_steamFor_47 : decode cX2_steamFor 47 = .ok (.aload_n 0, 1) := by decide +kernel
theorem dX2_steamFor_48 : decode cX2_steamFor 48 = .ok (.getfield 16, 3) := by decide +kernel
theorem dX2_steamFor_51 : decode cX2_steamFor 51 = .ok (.iconst 0, 1) := by decide +kernel
theorem dX2_steamFor_52 : decode cX2_steamFor 52 = .ok (.aload_n 0, 1) := by decide +kernel
theorem dX2_steamFor_53 : decode cX2_steamFor 53 = .ok (.getfield 19, 3) := by decide +kernel
theorem dX2_steamFor_56 : decode cX2_steamFor 56 = .ok (.iconst 0, 1) := by decide +kernel
theorem dX2_steamFor_57 : decode cX2_steamFor 57 = .ok (.bipush 64, 2) := by decide +kernel
theorem dX2_steamFor_59 : decode cX2_steamFor 59 = .ok (.invokestatic 50, 3) := by decide +kernel
theorem dX2_steamFor_62 : decode cX2_steamFor 62 = .ok (.aload_n 0, 1) := by decide +kernel
theorem dX2_steamFor_63 : decode cX2_steamFor 63 = .ok (.getfield 19, 3) := by decide +kernel
theorem dX2_steamFor_66 : decode cX2_steamFor 66 = .ok (.bipush 48, 2) := by decide +kernel
theorem dX2_steamFor_68 : decode cX2_steamFor 68 = .ok (.iload_n 3, 1) := by decide +kernel
theorem dX2_steamFor_69 : decode cX2_steamFor 69 = .ok (.iastore, 1) := by decide +kernel
theorem dX2_steamFor_70 : decode cX2_steamFor 70 = .ok (.aload_n 0, 1) := by decide +kernel
theorem dX2_steamFor_71 : decode cX2_steamFor 71 = .ok (.aload_n 0, 1) := by decide +kernel
theorem dX2_steamFor_72 : decode cX2_steamFor 72 = .ok (.getfield 19, 3) := by decide +kernel
theorem dX2_steamFor_75 : decode cX2_steamFor 75 = .ok (.iload_n 2, 1) := by decide +kernel
theorem dX2_steamFor_76 : decode cX2_steamFor 76 = .ok (.invokevirtual 144, 3) := by decide +kernel
theorem dX2_steamFor_79 : decode cX2_steamFor 79 = .ok (.iload_n 1, 1) := by decide +kernel
theorem dX2_steamFor_80 : decode cX2_steamFor 80 = .ok (.if_icmp .lt 5, 3) := by decide +kernel
theorem dX2_steamFor_83 : decode cX2_steamFor 83 = .ok (.iload_n 3, 1) := by decide +kernel
theorem dX2_steamFor_84 : decode cX2_steamFor 84 = .ok (.ireturn, 1) := by decide +kernel
theorem dX2_steamFor_85 : decode cX2_steamFor 85 = .ok (.iinc 3 1, 3) := by decide +kernel
theorem dX2_steamFor_88 : decode cX2_steamFor 88 = .ok (.goto (-48), 3) := by decide +kernel
theorem dX2_steamFor_91 : decode cX2_steamFor 91 = .ok (.bipush (-9), 2) := by decide +kernel
theorem dX2_steamFor_93 : decode cX2_steamFor 93 = .ok (.ireturn, 1) := by decide +kernel
set_option maxRecDepth 20000 in
theorem ggX2_command_X2_ticksOn : GoodIn wsX2_command wsX2_ticksOn := (by refine gI_c (gw 7 rfl rfl) ?_; refine gI_c (gw 8 rfl rfl) ?_; refine gI_c (gw 9 rfl rfl) ?_; refine gI_c (gw 10 rfl rfl) ?_; refine gI_c (gw 6 rfl rfl) ?_; refine gI_c (gw 11 rfl rfl) ?_; refine gI_c (gw 12 rfl rfl) ?_; refine gI_c (gw 13 rfl rfl) ?_; refine gI_c (gw 14 rfl rfl) ?_; refine gI_c (gw 15 rfl rfl) ?_; refine gI_c (gw 16 rfl rfl) ?_; refine gI_c (gw 17 rfl rfl) ?_; refine gI_c (gw 18 rfl rfl) ?_; refine gI_c (gw 19 rfl rfl) ?_; refine gI_c (gw 20 rfl rfl) ?_; refine gI_c (gw 21 rfl rfl) ?_; refine gI_c (gw 22 rfl rfl) ?_; refine gI_c (gw 23 rfl rfl) ?_; refine gI_c (gw 24 rfl rfl) ?_; refine gI_c (gw 25 rfl rfl) ?_; refine gI_c (gw 26 rfl rfl) ?_; refine gI_c (gw 27 rfl rfl) ?_; refine gI_c (gw 28 rfl rfl) ?_; refine gI_c (gw 29 rfl rfl) ?_; refine gI_c (gw 30 rfl rfl) ?_; refine gI_c (gw 31 rfl rfl) ?_; refine gI_c (gw 32 rfl rfl) ?_; refine gI_c (gw 33 rfl rfl) ?_; refine gI_c (gw 34 rfl rfl) ?_; refine gI_c (gw 35 rfl rfl) ?_; refine gI_c (gw 36 rfl rfl) ?_; refine gI_c (gw 37 rfl rfl) ?_; refine gI_c (gw 38 rfl rfl) ?_; refine gI_c (gw 39 rfl rfl) ?_; refine gI_c (gw 40 rfl rfl) ?_; refine gI_c (gw 41 rfl rfl) ?_; refine gI_c (gw 42 rfl rfl) ?_; refine gI_c (gw 43 rfl rfl) ?_; refine gI_c (gw 44 rfl rfl) ?_; refine gI_c (gw 45 rfl rfl) ?_; refine gI_c (gw 53 rfl rfl) ?_; refine gI_c (gw 54 rfl rfl) ?_; refine gI_c (gw 55 rfl rfl) ?_; refine gI_c (gw 56 rfl rfl) ?_; refine gI_c (gw 57 rfl rfl) ?_; refine gI_c (gw 58 rfl rfl) ?_; refine gI_c (gw 59 rfl rfl) ?_; refine gI_c (gw 60 rfl rfl) ?_; refine gI_c (gw 61 rfl rfl) ?_; refine gI_c (gw 62 rfl rfl) ?_; refine gI_c (gw 63 rfl rfl) ?_; refine gI_c (gw 64 rfl rfl) ?_; refine gI_c (gw 65 rfl rfl) ?_; refine gI_c (gw 66 rfl rfl) ?_; refine gI_c (gw 67 rfl rfl) ?_; exact gI_n)
set_option maxRecDepth 20000 in
theorem gX2_command_X2_ticksOn : GoodIn wsX2_command (wsV RX2 144 RX2 yX2_ticksOn wsX2_ticksOn) := goodIn_app (goodIn_of _ (by decide +kernel)) ggX2_command_X2_ticksOn
set_option maxRecDepth 20000 in
theorem ggX2_command_X2_isEffect : GoodIn wsX2_command wsX2_isEffect := (by refine gI_c (gw 49 rfl rfl) ?_; refine gI_c (gw 12 rfl rfl) ?_; refine gI_c (gw 50 rfl rfl) ?_; refine gI_c (gw 51 rfl rfl) ?_; refine gI_c (gw 6 rfl rfl) ?_; refine gI_c (gw 52 rfl rfl) ?_; refine gI_c (gw 53 rfl rfl) ?_; refine gI_c (gw 54 rfl rfl) ?_; refine gI_c (gw 55 rfl rfl) ?_; refine gI_c (gw 56 rfl rfl) ?_; refine gI_c (gw 57 rfl rfl) ?_; refine gI_c (gw 58 rfl rfl) ?_; refine gI_c (gw 59 rfl rfl) ?_; refine gI_c (gw 60 rfl rfl) ?_; refine gI_c (gw 61 rfl rfl) ?_; refine gI_c (gw 62 rfl rfl) ?_; refine gI_c (gw 63 rfl rfl) ?_; refine gI_c (gw 64 rfl rfl) ?_; refine gI_c (gw 65 rfl rfl) ?_; refine gI_c (gw 66 rfl rfl) ?_; refine gI_c (gw 67 rfl rfl) ?_; exact gI_n)
set_option maxRecDepth 20000 in
theorem gX2_command_X2_isEffect : GoodIn wsX2_command (wsV RX2 129 RX2 yX2_isEffect wsX2_isEffect) := goodIn_app (goodIn_of _ (by decide +kernel)) ggX2_command_X2_isEffect
set_option maxRecDepth 20000 in
theorem ggX2_command_X2_in : GoodIn wsX2_command wsX2_in := (by refine gI_c (gw 52 rfl rfl) ?_; exact gI_n)
set_option maxRecDepth 20000 in
theorem gX2_command_X2_in : GoodIn wsX2_command (va_wsS RX2 54 yX2_in wsX2_in) := goodIn_app (goodIn_of _ (by decide +kernel)) ggX2_command_X2_in
set_option maxRecDepth 20000 in
theorem ggX2_command_X2_works : GoodIn wsX2_command wsX2_works := (by refine gI_c (gw 19 rfl rfl) ?_; exact gI_n)
set_option maxRecDepth 20000 in
theorem gX2_command_X2_works : GoodIn wsX2_command (va_wsS RX2 62 yX2_works wsX2_works) := goodIn_app (goodIn_of _ (by decide +kernel)) ggX2_command_X2_works
set_option maxRecDepth 20000 in
theorem ggX2_command_X2_thickness : GoodIn wsX2_command wsX2_thickness := (by refine gI_c (gw 26 rfl rfl) ?_; refine gI_c (gw 27 rfl rfl) ?_; refine gI_c (gw 28 rfl rfl) ?_; refine gI_c (gw 6 rfl rfl) ?_; refine gI_c (gw 29 rfl rfl) ?_; exact gI_n)
set_option maxRecDepth 20000 in
theorem gX2_command_X2_thickness : GoodIn wsX2_command (va_wsS RX2 77 yX2_thickness wsX2_thickness) := goodIn_app (goodIn_of _ (by decide +kernel)) ggX2_command_X2_thickness
set_option maxRecDepth 20000 in
theorem ggX2_command_X2_washed : GoodIn wsX2_command wsX2_washed := (by refine gI_c (gw 16 rfl rfl) ?_; refine gI_c (gw 12 rfl rfl) ?_; refine gI_c (gw 17 rfl rfl) ?_; refine gI_c (gw 18 rfl rfl) ?_; refine gI_c (gw 6 rfl rfl) ?_; refine gI_c (gw 19 rfl rfl) ?_; refine gI_c (gw 53 rfl rfl) ?_; refine gI_c (gw 54 rfl rfl) ?_; refine gI_c (gw 55 rfl rfl) ?_; refine gI_c (gw 56 rfl rfl) ?_; refine gI_c (gw 57 rfl rfl) ?_; refine gI_c (gw 58 rfl rfl) ?_; refine gI_c (gw 59 rfl rfl) ?_; refine gI_c (gw 60 rfl rfl) ?_; refine gI_c (gw 61 rfl rfl) ?_; refine gI_c (gw 62 rfl rfl) ?_; refine gI_c (gw 63 rfl rfl) ?_; refine gI_c (gw 64 rfl rfl) ?_; refine gI_c (gw 65 rfl rfl) ?_; refine gI_c (gw 66 rfl rfl) ?_; refine gI_c (gw 67 rfl rfl) ?_; exact gI_n)
set_option maxRecDepth 20000 in
theorem gX2_command_X2_washed : GoodIn wsX2_command (wsV RX2 66 RX2 yX2_washed wsX2_washed) := goodIn_app (goodIn_of _ (by decide +kernel)) ggX2_command_X2_washed
theorem dX2_command_0 : decode cX2_command 0 = .ok (.iload_n 1, 1) := by decide +kernel
theorem dX2_command_1 : decode cX2_command 1 = .ok (.sipush 10000, 3) := by decide +kernel
theorem dX2_command_4 : decode cX2_command 4 = .ok (.idiv, 1) := by decide +kernel
theorem dX2_command_5 : decode cX2_command 5 = .ok (.istore_n 2, 1) := by decide +kernel
theorem dX2_command_6 : decode cX2_command 6 = .ok (.iload_n 1, 1) := by decide +kernel
theorem dX2_command_7 : decode cX2_command 7 = .ok (.sipush 1000, 3) := by decide +kernel
theorem dX2_command_10 : decode cX2_command 10 = .ok (.idiv, 1) := by decide +kernel
theorem dX2_command_11 : decode cX2_command 11 = .ok (.bipush 10, 2) := by decide +kernel
theorem dX2_command_13 : decode cX2_command 13 = .ok (.irem, 1) := by decide +kernel
theorem dX2_command_14 : decode cX2_command 14 = .ok (.istore_n 3, 1) := by decide +kernel
theorem dX2_command_15 : decode cX2_command 15 = .ok (.iload_n 1, 1) := by decide +kernel
theorem dX2_command_16 : decode cX2_command 16 = .ok (.bipush 100, 2) := by decide +kernel
theorem dX2_command_18 : decode cX2_command 18 = .ok (.idiv, 1) := by decide +kernel
theorem dX2_command_19 : decode cX2_command 19 = .ok (.bipush 10, 2) := by decide +kernel
theorem dX2_command_21 : decode cX2_command 21 = .ok (.irem, 1) := by decide +kernel
theorem dX2_command_22 : decode cX2_command 22 = .ok (.istore 4, 2) := by decide +kernel
theorem dX2_command_24 : decode cX2_command 24 = .ok (.iload_n 1, 1) := by decide +kernel
theorem dX2_command_25 : decode cX2_command 25 = .ok (.bipush 100, 2) := by decide +kernel
theorem dX2_command_27 : decode cX2_command 27 = .ok (.irem, 1) := by decide +kernel
theorem dX2_command_28 : decode cX2_command 28 = .ok (.istore 5, 2) := by decide +kernel
theorem dX2_command_30 : decode cX2_command 30 = .ok (.iload_n 1, 1) := by decide +kernel
theorem dX2_command_31 : decode cX2_command 31 = .ok (.sipush 1000, 3) := by decide +kernel
theorem dX2_command_34 : decode cX2_command 34 = .ok (.irem, 1) := by decide +kernel
theorem dX2_command_35 : decode cX2_command 35 = .ok (.istore 6, 2) := by decide +kernel
theorem dX2_command_37 : decode cX2_command 37 = .ok (.iload_n 2, 1) := by decide +kernel
theorem dX2_command_38 : decode cX2_command 38 = .ok (.tableswitch 284 1 8 #[46, 75, 92, 115, 167, 199, 232, 262], 46) := by decide +kernel
theorem dX2_command_84 : decode cX2_command 84 = .ok (.iload_n 3, 1) := by decide +kernel
theorem dX2_command_85 : decode cX2_command 85 = .ok (.ifCond .ne 13, 3) := by decide +kernel
theorem dX2_command_88 : decode cX2_command 88 = .ok (.iload 4, 2) := by decide +kernel
theorem dX2_command_90 : decode cX2_command 90 = .ok (.ifCond .ne 8, 3) := by decide +kernel
theorem dX2_command_93 : decode cX2_command 93 = .ok (.iload 5, 2) := by decide +kernel
theorem dX2_command_95 : decode cX2_command 95 = .ok (.ifCond .ne 5, 3) := by decide +kernel
theorem dX2_command_98 : decode cX2_command 98 = .ok (.iconst 0, 1) := by decide +kernel
theorem dX2_command_99 : decode cX2_command 99 = .ok (.ireturn, 1) := by decide +kernel
theorem dX2_command_100 : decode cX2_command 100 = .ok (.aload_n 0, 1) := by decide +kernel
theorem dX2_command_101 : decode cX2_command 101 = .ok (.aload_n 0, 1) := by decide +kernel
theorem dX2_command_102 : decode cX2_command 102 = .ok (.getfield 19, 3) := by decide +kernel
theorem dX2_command_105 : decode cX2_command 105 = .ok (.iload 5, 2) := by decide +kernel
theorem dX2_command_107 : decode cX2_command 107 = .ok (.invokevirtual 144, 3) := by decide +kernel
theorem dX2_command_110 : decode cX2_command 110 = .ok (.pop, 1) := by decide +kernel
theorem dX2_command_111 : decode cX2_command 111 = .ok (.iconst 1, 1) := by decide +kernel
theorem dX2_command_112 : decode cX2_command 112 = .ok (.ireturn, 1) := by decide +kernel
theorem dX2_command_113 : decode cX2_command 113 = .ok (.iload_n 3, 1) := by decide +kernel
theorem dX2_command_114 : decode cX2_command 114 = .ok (.ifCond .eq 5, 3) := by decide +kernel
theorem dX2_command_117 : decode cX2_command 117 = .ok (.iconst 0, 1) := by decide +kernel
theorem dX2_command_118 : decode cX2_command 118 = .ok (.ireturn, 1) := by decide +kernel
theorem dX2_command_119 : decode cX2_command 119 = .ok (.aload_n 0, 1) := by decide +kernel
theorem dX2_command_120 : decode cX2_command 120 = .ok (.getfield 19, 3) := by decide +kernel
theorem dX2_command_123 : decode cX2_command 123 = .ok (.bipush 48, 2) := by decide +kernel
theorem dX2_command_125 : decode cX2_command 125 = .ok (.iload 6, 2) := by decide +kernel
theorem dX2_command_127 : decode cX2_command 127 = .ok (.iastore, 1) := by decide +kernel
theorem dX2_command_128 : decode cX2_command 128 = .ok (.iconst 1, 1) := by decide +kernel
theorem dX2_command_129 : decode cX2_command 129 = .ok (.ireturn, 1) := by decide +kernel
theorem dX2_command_130 : decode cX2_command 130 = .ok (.aload_n 0, 1) := by decide +kernel
theorem dX2_command_131 : decode cX2_command 131 = .ok (.iload_n 3, 1) := by decide +kernel
theorem dX2_command_132 : decode cX2_command 132 = .ok (.invokevirtual 129, 3) := by decide +kernel
theorem dX2_command_135 : decode cX2_command 135 = .ok (.ifCond .ne 5, 3) := by decide +kernel
theorem dX2_command_138 : decode cX2_command 138 = .ok (.iconst 0, 1) := by decide +kernel
theorem dX2_command_139 : decode cX2_command 139 = .ok (.ireturn, 1) := by decide +kernel
theorem dX2_command_140 : decode cX2_command 140 = .ok (.aload_n 0, 1) := by decide +kernel
theorem dX2_command_141 : decode cX2_command 141 = .ok (.getfield 19, 3) := by decide +kernel
theorem dX2_command_144 : decode cX2_command 144 = .ok (.bipush 18, 2) := by decide +kernel
theorem dX2_command_146 : decode cX2_command 146 = .ok (.iload_n 3, 1) := by decide +kernel
theorem dX2_command_147 : decode cX2_command 147 = .ok (.iadd, 1) := by decide +kernel
theorem dX2_command_148 : decode cX2_command 148 = .ok (.iload 6, 2) := by decide +kernel
theorem dX2_command_150 : decode cX2_command 150 = .ok (.iastore, 1) := by decide +kernel
theorem dX2_command_151 : decode cX2_command 151 = .ok (.iconst 1, 1) := by decide +kernel
theorem dX2_command_152 : decode cX2_command 152 = .ok (.ireturn, 1) := by decide +kernel
theorem dX2_command_153 : decode cX2_command 153 = .ok (.aload_n 0, 1) := by decide +kernel
theorem dX2_command_154 : decode cX2_command 154 = .ok (.iload_n 3, 1) := by decide +kernel
theorem dX2_command_155 : decode cX2_command 155 = .ok (.invokevirtual 129, 3) := by decide +kernel
theorem dX2_command_158 : decode cX2_command 158 = .ok (.ifCond .eq 32, 3) := by decide +kernel
theorem dX2_command_161 : decode cX2_command 161 = .ok (.iload 4, 2) := by decide +kernel
theorem dX2_command_163 : decode cX2_command 163 = .ok (.ifCond .ne 27, 3) := by decide +kernel
theorem dX2_command_166 : decode cX2_command 166 = .ok (.iload 5, 2) := by decide +kernel
theorem dX2_command_168 : decode cX2_command 168 = .ok (.i2l, 1) := by decide +kernel
theorem dX2_command_169 : decode cX2_command 169 = .ok (.lconst 1, 1) := by decide +kernel
theorem dX2_command_170 : decode cX2_command 170 = .ok (.ldc2_w 149, 3) := by decide +kernel
theorem dX2_command_173 : decode cX2_command 173 = .ok (.invokestatic 54, 3) := by decide +kernel
theorem dX2_command_176 : decode cX2_command 176 = .ok (.ifCond .eq 14, 3) := by decide +kernel
theorem dX2_command_179 : decode cX2_command 179 = .ok (.aload_n 0, 1) := by decide +kernel
theorem dX2_command_180 : decode cX2_command 180 = .ok (.getfield 19, 3) := by decide +kernel
theorem dX2_command_183 : decode cX2_command 183 = .ok (.iload_n 3, 1) := by decide +kernel
theorem dX2_command_184 : decode cX2_command 184 = .ok (.invokestatic 62, 3) := by decide +kernel
theorem dX2_command_187 : decode cX2_command 187 = .ok (.ifCond .ne 5, 3) := by decide +kernel
theorem dX2_command_190 : decode cX2_command 190 = .ok (.iconst 0, 1) := by decide +kernel
theorem dX2_command_191 : decode cX2_command 191 = .ok (.ireturn, 1) := by decide +kernel
theorem dX2_command_192 : decode cX2_command 192 = .ok (.aload_n 0, 1) := by decide +kernel
theorem dX2_command_193 : decode cX2_command 193 = .ok (.getfield 19, 3) := by decide +kernel
theorem dX2_command_196 : decode cX2_command 196 = .ok (.bipush 42, 2) := by decide +kernel
theorem dX2_command_198 : decode cX2_command 198 = .ok (.iload_n 3, 1) := by decide +kernel
theorem dX2_command_199 : decode cX2_command 199 = .ok (.iadd, 1) := by decide +kernel
theorem dX2_command_200 : decode cX2_command 200 = .ok (.iload 5, 2) := by decide +kernel
theorem dX2_command_202 : decode cX2_command 202 = .ok (.iastore, 1) := by decide +kernel
theorem dX2_command_203 : decode cX2_command 203 = .ok (.iconst 1, 1) := by decide +kernel
theorem dX2_command_204 : decode cX2_command 204 = .ok (.ireturn, 1) := by decide +kernel
theorem dX2_command_205 : decode cX2_command 205 = .ok (.aload_n 0, 1) := by decide +kernel
theorem dX2_command_206 : decode cX2_command 206 = .ok (.iload_n 3, 1) := by decide +kernel
theorem dX2_command_207 : decode cX2_command 207 = .ok (.invokevirtual 129, 3) := by decide +kernel
theorem dX2_command_210 : decode cX2_command 210 = .ok (.ifCond .eq 25, 3) := by decide +kernel
theorem dX2_command_213 : decode cX2_command 213 = .ok (.iload 4, 2) := by decide +kernel
theorem dX2_command_215 : decode cX2_command 215 = .ok (.ifCond .ne 20, 3) := by decide +kernel
theorem dX2_command_218 : decode cX2_command 218 = .ok (.aload_n 0, 1) := by decide +kernel
theorem dX2_command_219 : decode cX2_command 219 = .ok (.getfield 19, 3) := by decide +kernel
theorem dX2_command_222 : decode cX2_command 222 = .ok (.iload_n 3, 1) := by decide +kernel
theorem dX2_command_223 : decode cX2_command 223 = .ok (.invokestatic 77, 3) := by decide +kernel
theorem dX2_command_226 : decode cX2_command 226 = .ok (.iload 5, 2) := by decide +kernel
theorem dX2_command_228 : decode cX2_command 228 = .ok (.if_icmp .lt 7, 3) := by decide +kernel
theorem dX2_command_231 : decode cX2_command 231 = .ok (.iconst 1, 1) := by decide +kernel
theorem dX2_command_232 : decode cX2_command 232 = .ok (.goto 4, 3) := by decide +kernel
theorem dX2_command_235 : decode cX2_command 235 = .ok (.iconst 0, 1) := by decide +kernel
theorem dX2_command_236 : decode cX2_command 236 = .ok (.ireturn, 1) := by decide +kernel
theorem dX2_command_237 : decode cX2_command 237 = .ok (.aload_n 0, 1) := by decide +kernel
theorem dX2_command_238 : decode cX2_command 238 = .ok (.iload_n 3, 1) := by decide +kernel
theorem dX2_command_239 : decode cX2_command 239 = .ok (.invokevirtual 129, 3) := by decide +kernel
theorem dX2_command_242 : decode cX2_command 242 = .ok (.ifCond .eq 26, 3) := by decide +kernel
theorem dX2_command_245 : decode cX2_command 245 = .ok (.iload 4, 2) := by decide +kernel
theorem dX2_command_247 : decode cX2_command 247 = .ok (.ifCond .ne 21, 3) := by decide +kernel
theorem dX2_command_250 : decode cX2_command 250 = .ok (.aload_n 0, 1) := by decide +kernel
theorem dX2_command_251 : decode cX2_command 251 = .ok (.getfield 19, 3) := by decide +kernel
theorem dX2_command_254 : decode cX2_command 254 = .ok (.bipush 30, 2) := by decide +kernel
theorem dX2_command_256 : decode cX2_command 256 = .ok (.iload_n 3, 1) := by decide +kernel
theorem dX2_command_257 : decode cX2_command 257 = .ok (.iadd, 1) := by decide +kernel
theorem dX2_command_258 : decode cX2_command 258 = .ok (.iaload, 1) := by decide +kernel
theorem dX2_command_259 : decode cX2_command 259 = .ok (.iload 5, 2) := by decide +kernel
theorem dX2_command_261 : decode cX2_command 261 = .ok (.if_icmp .gt 7, 3) := by decide +kernel
theorem dX2_command_264 : decode cX2_command 264 = .ok (.iconst 1, 1) := by decide +kernel
theorem dX2_command_265 : decode cX2_command 265 = .ok (.goto 4, 3) := by decide +kernel
theorem dX2_command_268 : decode cX2_command 268 = .ok (.iconst 0, 1) := by decide +kernel
theorem dX2_command_269 : decode cX2_command 269 = .ok (.ireturn, 1) := by decide +kernel
theorem dX2_command_270 : decode cX2_command 270 = .ok (.iload_n 3, 1) := by decide +kernel
theorem dX2_command_271 : decode cX2_command 271 = .ok (.ifCond .ne 27, 3) := by decide +kernel
theorem dX2_command_274 : decode cX2_command 274 = .ok (.iload 6, 2) := by decide +kernel
theorem dX2_command_276 : decode cX2_command 276 = .ok (.bipush 10, 2) := by decide +kernel
theorem dX2_command_278 : decode cX2_command 278 = .ok (.if_icmp .ge 20, 3) := by decide +kernel
theorem dX2_command_281 : decode cX2_command 281 = .ok (.aload_n 0, 1) := by decide +kernel
theorem dX2_command_282 : decode cX2_command 282 = .ok (.aload_n 0, 1) := by decide +kernel
theorem dX2_command_283 : decode cX2_command 283 = .ok (.getfield 19, 3) := by decide +kernel
theorem dX2_command_286 : decode cX2_command 286 = .ok (.invokevirtual 66, 3) := by decide +kernel
theorem dX2_command_289 : decode cX2_command 289 = .ok (.iload 6, 2) := by decide +kernel
theorem dX2_command_291 : decode cX2_command 291 = .ok (.if_icmp .ne 7, 3) := by decide +kernel
theorem dX2_command_294 : decode cX2_command 294 = .ok (.iconst 1, 1) := by decide +kernel
theorem dX2_command_295 : decode cX2_command 295 = .ok (.goto 4, 3) := by decide +kernel
theorem dX2_command_298 : decode cX2_command 298 = .ok (.iconst 0, 1) := by decide +kernel
theorem dX2_command_299 : decode cX2_command 299 = .ok (.ireturn, 1) := by decide +kernel
theorem dX2_command_300 : decode cX2_command 300 = .ok (.iload_n 3, 1) := by decide +kernel
theorem dX2_command_301 : decode cX2_command 301 = .ok (.ifCond .ne 19, 3) := by decide +kernel
theorem dX2_command_304 : decode cX2_command 304 = .ok (.aload_n 0, 1) := by decide +kernel
theorem dX2_command_305 : decode cX2_command 305 = .ok (.getfield 19, 3) := by decide +kernel
theorem dX2_command_308 : decode cX2_command 308 = .ok (.bipush 54, 2) := by decide +kernel
theorem dX2_command_310 : decode cX2_command 310 = .ok (.iaload, 1) := by decide +kernel
theorem dX2_command_311 : decode cX2_command 311 = .ok (.iload 6, 2) := by decide +kernel
theorem dX2_command_313 : decode cX2_command 313 = .ok (.if_icmp .gt 7, 3) := by decide +kernel
theorem dX2_command_316 : decode cX2_command 316 = .ok (.iconst 1, 1) := by decide +kernel
theorem dX2_command_317 : decode cX2_command 317 = .ok (.goto 4, 3) := by decide +kernel
theorem dX2_command_320 : decode cX2_command 320 = .ok (.iconst 0, 1) := by decide +kernel
theorem dX2_command_321 : decode cX2_command 321 = .ok (.ireturn, 1) := by decide +kernel
theorem dX2_command_322 : decode cX2_command 322 = .ok (.iconst 0, 1) := by decide +kernel
theorem dX2_command_323 : decode cX2_command 323 = .ok (.ireturn, 1) := by decide +kernel
set_option maxRecDepth 20000 in
theorem ggX2_runScript_X2_in : GoodIn wsX2_runScript wsX2_in := (by refine gI_c (gw 8 rfl rfl) ?_; exact gI_n)
set_option maxRecDepth 20000 in
theorem gX2_runScript_X2_in : GoodIn wsX2_runScript (va_wsS RX2 54 yX2_in wsX2_in) := goodIn_app (goodIn_of _ (by decide +kernel)) ggX2_runScript_X2_in
set_option maxRecDepth 20000 in
theorem ggX2_runScript_X2_tenTo : GoodIn wsX2_runScript wsX2_tenTo := (by refine gI_c (gw 11 rfl rfl) ?_; refine gI_c (gw 12 rfl rfl) ?_; exact gI_n)
set_option maxRecDepth 20000 in
theorem gX2_runScript_X2_tenTo : GoodIn wsX2_runScript (va_wsS RX2 105 yX2_tenTo wsX2_tenTo) := goodIn_app (goodIn_of _ (by decide +kernel)) ggX2_runScript_X2_tenTo
set_option maxRecDepth 20000 in
theorem ggX2_runScript_X2_refused : GoodIn wsX2_runScript wsX2_refused := (by refine gI_c (gw 16 rfl rfl) ?_; refine gI_c (gw 17 rfl rfl) ?_; refine gI_c (gw 72 rfl rfl) ?_; refine gI_c (gw 73 rfl rfl) ?_; refine gI_c (gw 74 rfl rfl) ?_; refine gI_c (gw 75 rfl rfl) ?_; refine gI_c (gw 76 rfl rfl) ?_; refine gI_c (gw 77 rfl rfl) ?_; refine gI_c (gw 78 rfl rfl) ?_; refine gI_c (gw 79 rfl rfl) ?_; refine gI_c (gw 80 rfl rfl) ?_; refine gI_c (gw 81 rfl rfl) ?_; refine gI_c (gw 82 rfl rfl) ?_; refine gI_c (gw 83 rfl rfl) ?_; refine gI_c (gw 84 rfl rfl) ?_; refine gI_c (gw 85 rfl rfl) ?_; refine gI_c (gw 86 rfl rfl) ?_; exact gI_n)
set_option maxRecDepth 20000 in
theorem gX2_runScript_X2_refused : GoodIn wsX2_runScript (wsV RX2 98 RX2 yX2_refused wsX2_refused) := goodIn_app (goodIn_of _ (by decide +kernel)) ggX2_runScript_X2_refused
set_option maxRecDepth 20000 in
theorem ggX2_runScript_X2_copy : GoodIn wsX2_runScript wsX2_copy := (by refine gI_c (gw 20 rfl rfl) ?_; exact gI_n)
set_option maxRecDepth 20000 in
theorem gX2_runScript_X2_copy : GoodIn wsX2_runScript (va_wsS RX2 50 yX2_copy wsX2_copy) := goodIn_app (goodIn_of _ (by decide +kernel)) ggX2_runScript_X2_copy
set_option maxRecDepth 20000 in
theorem ggX2_runScript_X2_command : GoodIn wsX2_runScript wsX2_command := (by refine gI_c (gw 24 rfl rfl) ?_; refine gI_c (gw 3 rfl rfl) ?_; refine gI_c (gw 25 rfl rfl) ?_; refine gI_c (gw 26 rfl rfl) ?_; refine gI_c (gw 27 rfl rfl) ?_; refine gI_c (gw 28 rfl rfl) ?_; refine gI_c (gw 7 rfl rfl) ?_; refine gI_c (gw 29 rfl rfl) ?_; refine gI_c (gw 30 rfl rfl) ?_; refine gI_c (gw 31 rfl rfl) ?_; refine gI_c (gw 32 rfl rfl) ?_; refine gI_c (gw 33 rfl rfl) ?_; refine gI_c (gw 34 rfl rfl) ?_; refine gI_c (gw 35 rfl rfl) ?_; refine gI_c (gw 36 rfl rfl) ?_; refine gI_c (gw 37 rfl rfl) ?_; refine gI_c (gw 38 rfl rfl) ?_; refine gI_c (gw 39 rfl rfl) ?_; refine gI_c (gw 40 rfl rfl) ?_; refine gI_c (gw 41 rfl rfl) ?_; refine gI_c (gw 42 rfl rfl) ?_; refine gI_c (gw 43 rfl rfl) ?_; refine gI_c (gw 44 rfl rfl) ?_; refine gI_c (gw 45 rfl rfl) ?_; refine gI_c (gw 46 rfl rfl) ?_; refine gI_c (gw 47 rfl rfl) ?_; refine gI_c (gw 48 rfl rfl) ?_; refine gI_c (gw 49 rfl rfl) ?_; refine gI_c (gw 50 rfl rfl) ?_; refine gI_c (gw 51 rfl rfl) ?_; refine gI_c (gw 52 rfl rfl) ?_; refine gI_c (gw 53 rfl rfl) ?_; refine gI_c (gw 54 rfl rfl) ?_; refine gI_c (gw 55 rfl rfl) ?_; refine gI_c (gw 56 rfl rfl) ?_; refine gI_c (gw 57 rfl rfl) ?_; refine gI_c (gw 58 rfl rfl) ?_; refine gI_c (gw 59 rfl rfl) ?_; refine gI_c (gw 60 rfl rfl) ?_; refine gI_c (gw 61 rfl rfl) ?_; refine gI_c (gw 62 rfl rfl) ?_; refine gI_c (gw 63 rfl rfl) ?_; refine gI_c (gw 64 rfl rfl) ?_; refine gI_c (gw 65 rfl rfl) ?_; refine gI_c (gw 66 rfl rfl) ?_; refine gI_c (gw 67 rfl rfl) ?_; refine gI_c (gw 68 rfl rfl) ?_; refine gI_c (gw 69 rfl rfl) ?_; refine gI_c (gw 70 rfl rfl) ?_; refine gI_c (gw 71 rfl rfl) ?_; refine gI_c (gw 5 rfl rfl) ?_; refine gI_c (gw 6 rfl rfl) ?_; refine gI_c (gw 8 rfl rfl) ?_; refine gI_c (gw 72 rfl rfl) ?_; refine gI_c (gw 73 rfl rfl) ?_; refine gI_c (gw 74 rfl rfl) ?_; refine gI_c (gw 75 rfl rfl) ?_; refine gI_c (gw 76 rfl rfl) ?_; refine gI_c (gw 77 rfl rfl) ?_; refine gI_c (gw 78 rfl rfl) ?_; refine gI_c (gw 79 rfl rfl) ?_; refine gI_c (gw 80 rfl rfl) ?_; refine gI_c (gw 81 rfl rfl) ?_; refine gI_c (gw 82 rfl rfl) ?_; refine gI_c (gw 83 rfl rfl) ?_; refine gI_c (gw 84 rfl rfl) ?_; refine gI_c (gw 85 rfl rfl) ?_; refine gI_c (gw 86 rfl rfl) ?_; exact gI_n)
set_option maxRecDepth 20000 in
theorem gX2_runScript_X2_command : GoodIn wsX2_runScript (wsV RX2 167 RX2 yX2_command wsX2_command) := goodIn_app (goodIn_of _ (by decide +kernel)) ggX2_runScript_X2_command
theorem dX2_runScript_0 : decode cX2_runScript 0 = .ok (.aload_n 0, 1) := by decide +kernel
theorem dX2_runScript_1 : decode cX2_runScript 1 = .ok (.iload_n 1, 1) := by decide +kernel
theorem dX2_runScript_2 : decode cX2_runScript 2 = .ok (.i2l, 1) := by decide +kernel
theorem dX2_runScript_3 : decode cX2_runScript 3 = .ok (.lconst 1, 1) := by decide +kernel
theorem dX2_runScript_4 : decode cX2_runScript 4 = .ok (.ldc2_w 158, 3) := by decide +kernel
theorem dX2_runScript_7 : decode cX2_runScript 7 = .ok (.invokestatic 54, 3) := by decide +kernel
theorem dX2_runScript_10 : decode cX2_runScript 10 = .ok (.ifCond .eq 23, 3) := by decide +kernel
theorem dX2_runScript_13 : decode cX2_runScript 13 = .ok (.lload_n 2, 1) := by decide +kernel
theorem dX2_runScript_14 : decode cX2_runScript 14 = .ok (.lconst 0, 1) := by decide +kernel
theorem dX2_runScript_15 : decode cX2_runScript 15 = .ok (.iconst 5, 1) := by decide +kernel
theorem dX2_runScript_16 : decode cX2_runScript 16 = .ok (.iload_n 1, 1) := by decide +kernel
theorem dX2_runScript_17 : decode cX2_runScript 17 = .ok (.imul, 1) := by decide +kernel
theorem dX2_runScript_18 : decode cX2_runScript 18 = .ok (.invokestatic 105, 3) := by decide +kernel
theorem dX2_runScript_21 : decode cX2_runScript 21 = .ok (.lconst 1, 1) := by decide +kernel
theorem dX2_runScript_22 : decode cX2_runScript 22 = .ok (.lsub, 1) := by decide +kernel
theorem dX2_runScript_23 : decode cX2_runScript 23 = .ok (.invokestatic 54, 3) := by decide +kernel
theorem dX2_runScript_26 : decode cX2_runScript 26 = .ok (.ifCond .eq 7, 3) := by decide +kernel
theorem dX2_runScript_29 : decode cX2_runScript 29 = .ok (.iconst 0, 1) := by decide +kernel
theorem dX2_runScript_30 : decode cX2_runScript 30 = .ok (.goto 4, 3) := by decide +kernel
theorem dX2_runScript_33 : decode cX2_runScript 33 = .ok (.iconst 1, 1) := by decide +kernel
theorem dX2_runScript_34 : decode cX2_runScript 34 = .ok (.invokevirtual 98, 3) := by decide +kernel
theorem dX2_runScript_37 : decode cX2_runScript 37 = .ok (.ifCond .eq 5, 3) := by decide +kernel
theorem dX2_runScript_40 : decode cX2_runScript 40 = .ok (.iconst 0, 1) := by decide +kernel
theorem dX2_runScript_41 : decode cX2_runScript 41 = .ok (.ireturn, 1) := by decide +kernel
theorem dX2_runScript_42 : decode cX2_runScript 42 = .ok (.aload_n 0, 1) := by decide +kernel
theorem dX2_runScript_43 : decode cX2_runScript 43 = .ok (.getfield 16, 3) := by decide +kernel
theorem dX2_runScript_46 : decode cX2_runScript 46 = .ok (.iconst 0, 1) := by decide +kernel
theorem dX2_runScript_47 : decode cX2_runScript 47 = .ok (.aload_n 0, 1) := by decide +kernel
theorem dX2_runScript_48 : decode cX2_runScript 48 = .ok (.getfield 19, 3) := by decide +kernel
theorem dX2_runScript_51 : decode cX2_runScript 51 = .ok (.iconst 0, 1) := by decide +kernel
theorem dX2_runScript_52 : decode cX2_runScript 52 = .ok (.bipush 64, 2) := by decide +kernel
theorem dX2_runScript_54 : decode cX2_runScript 54 = .ok (.invokestatic 50, 3) := by decide +kernel
theorem dX2_runScript_57 : decode cX2_runScript 57 = .ok (.iconst 0, 1) := by decide +kernel
theorem dX2_runScript_58 : decode cX2_runScript 58 = .ok (.istore 4, 2) := by decide +kernel
theorem dX2_runScript_60 : decode cX2_runScript 60 = .ok (.iload 4, 2) := by decide +kernel
theorem dX2_runScript_62 : decode cX2_runScript 62 = .ok (.iload_n 1, 1) := by decide +kernel
theorem dX2_runScript_63 : decode cX2_runScript 63 = .ok (.if_icmp .ge 37, 3) := by decide +kernel
theorem dX2_runScript_66 : decode cX2_runScript 66 = .ok (.aload_n 0, 1) := by decide +kernel
theorem dX2_runScript_67 : decode cX2_runScript 67 = .ok (.lload_n 2, 1) := by decide +kernel
theorem dX2_runScript_68 : decode cX2_runScript 68 = .ok (.iconst 5, 1) := by decide +kernel
theorem dX2_runScript_69 : decode cX2_runScript 69 = .ok (.iload_n 1, 1) := by decide +kernel
theorem dX2_runScript_70 : decode cX2_runScript 70 = .ok (.iconst 1, 1) := by decide +kernel
theorem dX2_runScript_71 : decode cX2_runScript 71 = .ok (.isub, 1) := by decide +kernel
theorem dX2_runScript_72 : decode cX2_runScript 72 = .ok (.iload 4, 2) := by decide +kernel
theorem dX2_runScript_74 : decode cX2_runScript 74 = .ok (.isub, 1) := by decide +kernel
theorem dX2_runScript_75 : decode cX2_runScript 75 = .ok (.imul, 1) := by decide +kernel
theorem dX2_runScript_76 : decode cX2_runScript 76 = .ok (.invokestatic 105, 3) := by decide +kernel
theorem dX2_runScript_79 : decode cX2_runScript 79 = .ok (.ldiv, 1) := by decide +kernel
theorem dX2_runScript_80 : decode cX2_runScript 80 = .ok (.ldc2_w 165, 3) := by decide +kernel
theorem dX2_runScript_83 : decode cX2_runScript 83 = .ok (.lrem, 1) := by decide +kernel
theorem dX2_runScript_84 : decode cX2_runScript 84 = .ok (.l2i, 1) := by decide +kernel
theorem dX2_runScript_85 : decode cX2_runScript 85 = .ok (.invokevirtual 167, 3) := by decide +kernel
theorem dX2_runScript_88 : decode cX2_runScript 88 = .ok (.ifCond .ne 6, 3) := by decide +kernel
theorem dX2_runScript_91 : decode cX2_runScript 91 = .ok (.iload 4, 2) := by decide +kernel
theorem dX2_runScript_93 : decode cX2_runScript 93 = .ok (.ireturn, 1) := by decide +kernel
theorem dX2_runScript_94 : decode cX2_runScript 94 = .ok (.iinc 4 1, 3) := by decide +kernel
theorem dX2_runScript_97 : decode cX2_runScript 97 = .ok (.goto (-37), 3) := by decide +kernel
theorem dX2_runScript_100 : decode cX2_runScript 100 = .ok (.bipush (-9), 2) := by decide +kernel
theorem dX2_runScript_102 : decode cX2_runScript 102 = .ok (.ireturn, 1) := by decide +kernel
set_option maxRecDepth 20000 in
theorem ggX2_simulate_X2_in : GoodIn wsX2_simulate wsX2_in := (by refine gI_c (gw 10 rfl rfl) ?_; exact gI_n)
set_option maxRecDepth 20000 in
theorem gX2_simulate_X2_in : GoodIn wsX2_simulate (va_wsS RX2 54 yX2_in wsX2_in) := goodIn_app (goodIn_of _ (by decide +kernel)) ggX2_simulate_X2_in
set_option maxRecDepth 20000 in
theorem ggX2_simulate_X2_refused : GoodIn wsX2_simulate wsX2_refused := (by refine gI_c (gw 14 rfl rfl) ?_; refine gI_c (gw 15 rfl rfl) ?_; refine gI_c (gw 56 rfl rfl) ?_; refine gI_c (gw 57 rfl rfl) ?_; refine gI_c (gw 58 rfl rfl) ?_; refine gI_c (gw 59 rfl rfl) ?_; refine gI_c (gw 60 rfl rfl) ?_; refine gI_c (gw 61 rfl rfl) ?_; refine gI_c (gw 62 rfl rfl) ?_; refine gI_c (gw 63 rfl rfl) ?_; refine gI_c (gw 64 rfl rfl) ?_; refine gI_c (gw 65 rfl rfl) ?_; refine gI_c (gw 66 rfl rfl) ?_; refine gI_c (gw 67 rfl rfl) ?_; refine gI_c (gw 68 rfl rfl) ?_; refine gI_c (gw 69 rfl rfl) ?_; refine gI_c (gw 70 rfl rfl) ?_; exact gI_n)
set_option maxRecDepth 20000 in
theorem gX2_simulate_X2_refused : GoodIn wsX2_simulate (wsV RX2 98 RX2 yX2_refused wsX2_refused) := goodIn_app (goodIn_of _ (by decide +kernel)) ggX2_simulate_X2_refused
set_option maxRecDepth 20000 in
theorem ggX2_simulate_X2_copy : GoodIn wsX2_simulate wsX2_copy := (by refine gI_c (gw 18 rfl rfl) ?_; exact gI_n)
set_option maxRecDepth 20000 in
theorem gX2_simulate_X2_copy : GoodIn wsX2_simulate (va_wsS RX2 50 yX2_copy wsX2_copy) := goodIn_app (goodIn_of _ (by decide +kernel)) ggX2_simulate_X2_copy
set_option maxRecDepth 20000 in
theorem ggX2_simulate_X2_works : GoodIn wsX2_simulate wsX2_works := (by refine gI_c (gw 21 rfl rfl) ?_; exact gI_n)
set_option maxRecDepth 20000 in
theorem gX2_simulate_X2_works : GoodIn wsX2_simulate (va_wsS RX2 62 yX2_works wsX2_works) := goodIn_app (goodIn_of _ (by decide +kernel)) ggX2_simulate_X2_works
set_option maxRecDepth 20000 in
theorem ggX2_simulate_X2_tickOn : GoodIn wsX2_simulate wsX2_tickOn := (by refine gI_c (gw 25 rfl rfl) ?_; refine gI_c (gw 6 rfl rfl) ?_; refine gI_c (gw 26 rfl rfl) ?_; refine gI_c (gw 27 rfl rfl) ?_; refine gI_c (gw 28 rfl rfl) ?_; refine gI_c (gw 9 rfl rfl) ?_; refine gI_c (gw 29 rfl rfl) ?_; refine gI_c (gw 19 rfl rfl) ?_; refine gI_c (gw 20 rfl rfl) ?_; refine gI_c (gw 21 rfl rfl) ?_; refine gI_c (gw 30 rfl rfl) ?_; refine gI_c (gw 31 rfl rfl) ?_; refine gI_c (gw 32 rfl rfl) ?_; refine gI_c (gw 33 rfl rfl) ?_; refine gI_c (gw 34 rfl rfl) ?_; refine gI_c (gw 35 rfl rfl) ?_; refine gI_c (gw 36 rfl rfl) ?_; refine gI_c (gw 37 rfl rfl) ?_; refine gI_c (gw 38 rfl rfl) ?_; refine gI_c (gw 39 rfl rfl) ?_; refine gI_c (gw 40 rfl rfl) ?_; refine gI_c (gw 41 rfl rfl) ?_; refine gI_c (gw 42 rfl rfl) ?_; refine gI_c (gw 43 rfl rfl) ?_; refine gI_c (gw 44 rfl rfl) ?_; refine gI_c (gw 45 rfl rfl) ?_; refine gI_c (gw 46 rfl rfl) ?_; refine gI_c (gw 47 rfl rfl) ?_; refine gI_c (gw 48 rfl rfl) ?_; refine gI_c (gw 49 rfl rfl) ?_; refine gI_c (gw 50 rfl rfl) ?_; refine gI_c (gw 51 rfl rfl) ?_; refine gI_c (gw 52 rfl rfl) ?_; refine gI_c (gw 53 rfl rfl) ?_; refine gI_c (gw 54 rfl rfl) ?_; refine gI_c (gw 55 rfl rfl) ?_; refine gI_c (gw 56 rfl rfl) ?_; refine gI_c (gw 57 rfl rfl) ?_; refine gI_c (gw 58 rfl rfl) ?_; refine gI_c (gw 59 rfl rfl) ?_; refine gI_c (gw 60 rfl rfl) ?_; refine gI_c (gw 61 rfl rfl) ?_; refine gI_c (gw 62 rfl rfl) ?_; refine gI_c (gw 63 rfl rfl) ?_; refine gI_c (gw 64 rfl rfl) ?_; refine gI_c (gw 65 rfl rfl) ?_; refine gI_c (gw 66 rfl rfl) ?_; refine gI_c (gw 67 rfl rfl) ?_; refine gI_c (gw 68 rfl rfl) ?_; refine gI_c (gw 69 rfl rfl) ?_; refine gI_c (gw 70 rfl rfl) ?_; exact gI_n)
set_option maxRecDepth 20000 in
theorem gX2_simulate_X2_tickOn : GoodIn wsX2_simulate (wsV RX2 90 RX2 yX2_tickOn wsX2_tickOn) := goodIn_app (goodIn_of _ (by decide +kernel)) ggX2_simulate_X2_tickOn
theorem dX2_simulate_0 : decode cX2_simulate 0 = .ok (.aload_n 0, 1) := by decide +kernel
theorem dX2_simulate_1 : decode cX2_simulate 1 = .ok (.iload_n 3, 1) := by decide +kernel
theorem dX2_simulate_2 : decode cX2_simulate 2 = .ok (.i2l, 1) := by decide +kernel
theorem dX2_simulate_3 : decode cX2_simulate 3 = .ok (.lconst 1, 1) := by decide +kernel
theorem dX2_simulate_4 : decode cX2_simulate 4 = .ok (.ldc2_w 139, 3) := by decide +kernel
theorem dX2_simulate_7 : decode cX2_simulate 7 = .ok (.invokestatic 54, 3) := by decide +kernel
theorem dX2_simulate_10 : decode cX2_simulate 10 = .ok (.ifCond .eq 7, 3) := by decide +kernel
theorem dX2_simulate_13 : decode cX2_simulate 13 = .ok (.iconst 0, 1) := by decide +kernel
theorem dX2_simulate_14 : decode cX2_simulate 14 = .ok (.goto 4, 3) := by decide +kernel
theorem dX2_simulate_17 : decode cX2_simulate 17 = .ok (.iconst 1, 1) := by decide +kernel
theorem dX2_simulate_18 : decode cX2_simulate 18 = .ok (.invokevirtual 98, 3) := by decide +kernel
theorem dX2_simulate_21 : decode cX2_simulate 21 = .ok (.ifCond .eq 5, 3) := by decide +kernel
theorem dX2_simulate_24 : decode cX2_simulate 24 = .ok (.iconst 0, 1) := by decide +kernel
theorem dX2_simulate_25 : decode cX2_simulate 25 = .ok (.ireturn, 1) := by decide +kernel
theorem dX2_simulate_26 : decode cX2_simulate 26 = .ok (.aload_n 0, 1) := by decide +kernel
theorem dX2_simulate_27 : decode cX2_simulate 27 = .ok (.getfield 16, 3) := by decide +kernel
theorem dX2_simulate_30 : decode cX2_simulate 30 = .ok (.iconst 0, 1) := by decide +kernel
theorem dX2_simulate_31 : decode cX2_simulate 31 = .ok (.aload_n 0, 1) := by decide +kernel
theorem dX2_simulate_32 : decode cX2_simulate 32 = .ok (.getfield 19, 3) := by decide +kernel
theorem dX2_simulate_35 : decode cX2_simulate 35 = .ok (.iconst 0, 1) := by decide +kernel
theorem dX2_simulate_36 : decode cX2_simulate 36 = .ok (.bipush 64, 2) := by decide +kernel
theorem dX2_simulate_38 : decode cX2_simulate 38 = .ok (.invokestatic 50, 3) := by decide +kernel
theorem dX2_simulate_41 : decode cX2_simulate 41 = .ok (.lload_n 1, 1) := by decide +kernel
theorem dX2_simulate_42 : decode cX2_simulate 42 = .ok (.lstore 4, 2) := by decide +kernel
theorem dX2_simulate_44 : decode cX2_simulate 44 = .ok (.iconst 0, 1) := by decide +kernel
theorem dX2_simulate_45 : decode cX2_simulate 45 = .ok (.istore 6, 2) := by decide +kernel
theorem dX2_simulate_47 : decode cX2_simulate 47 = .ok (.iload 6, 2) := by decide +kernel
theorem dX2_simulate_49 : decode cX2_simulate 49 = .ok (.iload_n 3, 1) := by decide +kernel
theorem dX2_simulate_50 : decode cX2_simulate 50 = .ok (.if_icmp .ge 135, 3) := by decide +kernel
theorem dX2_simulate_53 : decode cX2_simulate 53 = .ok (.lload 4, 2) := by decide +kernel
theorem dX2_simulate_55 : decode cX2_simulate 55 = .ok (.ldc2_w 170, 3) := by decide +kernel
theorem dX2_simulate_58 : decode cX2_simulate 58 = .ok (.lmul, 1) := by decide +kernel
theorem dX2_simulate_59 : decode cX2_simulate 59 = .ok (.ldc2_w 172, 3) := by decide +kernel
theorem dX2_simulate_62 : decode cX2_simulate 62 = .ok (.ladd, 1) := by decide +kernel
theorem dX2_simulate_63 : decode cX2_simulate 63 = .ok (.lstore 4, 2) := by decide +kernel
theorem dX2_simulate_65 : decode cX2_simulate 65 = .ok (.lload 4, 2) := by decide +kernel
theorem dX2_simulate_67 : decode cX2_simulate 67 = .ok (.bipush 33, 2) := by decide +kernel
theorem dX2_simulate_69 : decode cX2_simulate 69 = .ok (.lushr, 1) := by decide +kernel
theorem dX2_simulate_70 : decode cX2_simulate 70 = .ok (.l2i, 1) := by decide +kernel
theorem dX2_simulate_71 : decode cX2_simulate 71 = .ok (.istore 7, 2) := by decide +kernel
theorem dX2_simulate_73 : decode cX2_simulate 73 = .ok (.iload 7, 2) := by decide +kernel
theorem dX2_simulate_75 : decode cX2_simulate 75 = .ok (.iconst 4, 1) := by decide +kernel
theorem dX2_simulate_76 : decode cX2_simulate 76 = .ok (.idiv, 1) := by decide +kernel
theorem dX2_simulate_77 : decode cX2_simulate 77 = .ok (.aload_n 0, 1) := by decide +kernel
theorem dX2_simulate_78 : decode cX2_simulate 78 = .ok (.getfield 38, 3) := by decide +kernel
theorem dX2_simulate_81 : decode cX2_simulate 81 = .ok (.irem, 1) := by decide +kernel
theorem dX2_simulate_82 : decode cX2_simulate 82 = .ok (.istore 8, 2) := by decide +kernel
theorem dX2_simulate_84 : decode cX2_simulate 84 = .ok (.iload 7, 2) := by decide +kernel
theorem dX2_simulate_86 : decode cX2_simulate 86 = .ok (.iconst 4, 1) := by decide +kernel
theorem dX2_simulate_87 : decode cX2_simulate 87 = .ok (.irem, 1) := by decide +kernel
theorem dX2_simulate_88 : decode cX2_simulate 88 = .ok (.ifCond .ne 25, 3) := by decide +kernel
theorem dX2_simulate_91 : decode cX2_simulate 91 = .ok (.aload_n 0, 1) := by decide +kernel
theorem dX2_simulate_92 : decode cX2_simulate 92 = .ok (.getfield 19, 3) := by decide +kernel
theorem dX2_simulate_95 : decode cX2_simulate 95 = .ok (.bipush 18, 2) := by decide +kernel
theorem dX2_simulate_97 : decode cX2_simulate 97 = .ok (.iload 8, 2) := by decide +kernel
theorem dX2_simulate_99 : decode cX2_simulate 99 = .ok (.iadd, 1) := by decide +kernel
theorem dX2_simulate_100 : decode cX2_simulate 100 = .ok (.iload 7, 2) := by decide +kernel
theorem dX2_simulate_102 : decode cX2_simulate 102 = .ok (.bipush 64, 2) := by decide +kernel
theorem dX2_simulate_104 : decode cX2_simulate 104 = .ok (.idiv, 1) := by decide +kernel
theorem dX2_simulate_105 : decode cX2_simulate 105 = .ok (.sipush 200, 3) := by decide +kernel
theorem dX2_simulate_108 : decode cX2_simulate 108 = .ok (.irem, 1) := by decide +kernel
theorem dX2_simulate_109 : decode cX2_simulate 109 = .ok (.iastore, 1) := by decide +kernel
theorem dX2_simulate_110 : decode cX2_simulate 110 = .ok (.goto 61, 3) := by decide +kernel
theorem dX2_simulate_113 : decode cX2_simulate 113 = .ok (.iload 7, 2) := by decide +kernel
theorem dX2_simulate_115 : decode cX2_simulate 115 = .ok (.iconst 4, 1) := by decide +kernel
theorem dX2_simulate_116 : decode cX2_simulate 116 = .ok (.irem, 1) := by decide +kernel
theorem dX2_simulate_117 : decode cX2_simulate 117 = .ok (.iconst 1, 1) := by decide +kernel
theorem dX2_simulate_118 : decode cX2_simulate 118 = .ok (.if_icmp .ne 22, 3) := by decide +kernel
theorem dX2_simulate_121 : decode cX2_simulate 121 = .ok (.aload_n 0, 1) := by decide +kernel
theorem dX2_simulate_122 : decode cX2_simulate 122 = .ok (.getfield 19, 3) := by decide +kernel
theorem dX2_simulate_125 : decode cX2_simulate 125 = .ok (.bipush 48, 2) := by decide +kernel
theorem dX2_simulate_127 : decode cX2_simulate 127 = .ok (.iload 7, 2) := by decide +kernel
theorem dX2_simulate_129 : decode cX2_simulate 129 = .ok (.bipush 64, 2) := by decide +kernel
theorem dX2_simulate_131 : decode cX2_simulate 131 = .ok (.idiv, 1) := by decide +kernel
theorem dX2_simulate_132 : decode cX2_simulate 132 = .ok (.sipush 400, 3) := by decide +kernel
theorem dX2_simulate_135 : decode cX2_simulate 135 = .ok (.irem, 1) := by decide +kernel
theorem dX2_simulate_136 : decode cX2_simulate 136 = .ok (.iastore, 1) := by decide +kernel
theorem dX2_simulate_137 : decode cX2_simulate 137 = .ok (.goto 34, 3) := by decide +kernel
theorem dX2_simulate_140 : decode cX2_simulate 140 = .ok (.iload 7, 2) := by decide +kernel
theorem dX2_simulate_142 : decode cX2_simulate 142 = .ok (.iconst 4, 1) := by decide +kernel
theorem dX2_simulate_143 : decode cX2_simulate 143 = .ok (.irem, 1) := by decide +kernel
theorem dX2_simulate_144 : decode cX2_simulate 144 = .ok (.iconst 2, 1) := by decide +kernel
theorem dX2_simulate_145 : decode cX2_simulate 145 = .ok (.if_icmp .ne 26, 3) := by decide +kernel
theorem dX2_simulate_148 : decode cX2_simulate 148 = .ok (.aload_n 0, 1) := by decide +kernel
theorem dX2_simulate_149 : decode cX2_simulate 149 = .ok (.getfield 19, 3) := by decide +kernel
theorem dX2_simulate_152 : decode cX2_simulate 152 = .ok (.iload 8, 2) := by decide +kernel
theorem dX2_simulate_154 : decode cX2_simulate 154 = .ok (.invokestatic 62, 3) := by decide +kernel
theorem dX2_simulate_157 : decode cX2_simulate 157 = .ok (.ifCond .eq 14, 3) := by decide +kernel
theorem dX2_simulate_160 : decode cX2_simulate 160 = .ok (.aload_n 0, 1) := by decide +kernel
theorem dX2_simulate_161 : decode cX2_simulate 161 = .ok (.getfield 19, 3) := by decide +kernel
theorem dX2_simulate_164 : decode cX2_simulate 164 = .ok (.bipush 42, 2) := by decide +kernel
theorem dX2_simulate_166 : decode cX2_simulate 166 = .ok (.iload 8, 2) := by decide +kernel
theorem dX2_simulate_168 : decode cX2_simulate 168 = .ok (.iadd, 1) := by decide +kernel
theorem dX2_simulate_169 : decode cX2_simulate 169 = .ok (.iconst 5, 1) := by decide +kernel
theorem dX2_simulate_170 : decode cX2_simulate 170 = .ok (.iastore, 1) := by decide +kernel
theorem dX2_simulate_171 : decode cX2_simulate 171 = .ok (.aload_n 0, 1) := by decide +kernel
theorem dX2_simulate_172 : decode cX2_simulate 172 = .ok (.aload_n 0, 1) := by decide +kernel
theorem dX2_simulate_173 : decode cX2_simulate 173 = .ok (.getfield 19, 3) := by decide +kernel
theorem dX2_simulate_176 : decode cX2_simulate 176 = .ok (.invokevirtual 90, 3) := by decide +kernel
theorem dX2_simulate_179 : decode cX2_simulate 179 = .ok (.iinc 6 1, 3) := by decide +kernel
theorem dX2_simulate_182 : decode cX2_simulate 182 = .ok (.goto (-135), 3) := by decide +kernel
theorem dX2_simulate_185 : decode cX2_simulate 185 = .ok (.aload_n 0, 1) := by decide +kernel
theorem dX2_simulate_186 : decode cX2_simulate 186 = .ok (.getfield 19, 3) := by decide +kernel
theorem dX2_simulate_189 : decode cX2_simulate 189 = .ok (.bipush 55, 2) := by decide +kernel
theorem dX2_simulate_191 : decode cX2_simulate 191 = .ok (.iaload, 1) := by decide +kernel
theorem dX2_simulate_192 : decode cX2_simulate 192 = .ok (.aload_n 0, 1) := by decide +kernel
theorem dX2_simulate_193 : decode cX2_simulate 193 = .ok (.getfield 16, 3) := by decide +kernel
theorem dX2_simulate_196 : decode cX2_simulate 196 = .ok (.bipush 55, 2) := by decide +kernel
theorem dX2_simulate_198 : decode cX2_simulate 198 = .ok (.iaload, 1) := by decide +kernel
theorem dX2_simulate_199 : decode cX2_simulate 199 = .ok (.isub, 1) := by decide +kernel
theorem dX2_simulate_200 : decode cX2_simulate 200 = .ok (.ireturn, 1) := by decide +kernel
set_option maxRecDepth 20000 in
theorem ggX2_save_X2_in : GoodIn wsX2_save wsX2_in := (by refine gI_c (gw 7 rfl rfl) ?_; exact gI_n)
set_option maxRecDepth 20000 in
theorem gX2_save_X2_in : GoodIn wsX2_save (va_wsS RX2 54 yX2_in wsX2_in) := goodIn_app (goodIn_of _ (by decide +kernel)) ggX2_save_X2_in
set_option maxRecDepth 20000 in
theorem ggX2_save_X2_refused : GoodIn wsX2_save wsX2_refused := (by refine gI_c (gw 11 rfl rfl) ?_; refine gI_c (gw 12 rfl rfl) ?_; refine gI_c (gw 16 rfl rfl) ?_; refine gI_c (gw 17 rfl rfl) ?_; refine gI_c (gw 18 rfl rfl) ?_; refine gI_c (gw 19 rfl rfl) ?_; refine gI_c (gw 20 rfl rfl) ?_; refine gI_c (gw 21 rfl rfl) ?_; refine gI_c (gw 22 rfl rfl) ?_; refine gI_c (gw 23 rfl rfl) ?_; refine gI_c (gw 24 rfl rfl) ?_; refine gI_c (gw 25 rfl rfl) ?_; refine gI_c (gw 26 rfl rfl) ?_; refine gI_c (gw 27 rfl rfl) ?_; refine gI_c (gw 28 rfl rfl) ?_; refine gI_c (gw 29 rfl rfl) ?_; refine gI_c (gw 30 rfl rfl) ?_; exact gI_n)
set_option maxRecDepth 20000 in
theorem gX2_save_X2_refused : GoodIn wsX2_save (wsV RX2 98 RX2 yX2_refused wsX2_refused) := goodIn_app (goodIn_of _ (by decide +kernel)) ggX2_save_X2_refused
set_option maxRecDepth 20000 in
theorem ggX2_save_X2_copy : GoodIn wsX2_save wsX2_copy := (by refine gI_c (gw 15 rfl rfl) ?_; exact gI_n)
set_option maxRecDepth 20000 in
theorem gX2_save_X2_copy : GoodIn wsX2_save (va_wsS RX2 50 yX2_copy wsX2_copy) := goodIn_app (goodIn_of _ (by decide +kernel)) ggX2_save_X2_copy
theorem dX2_save_0 : decode cX2_save 0 = .ok (.aload_n 0, 1) := by decide +kernel
theorem dX2_save_1 : decode cX2_save 1 = .ok (.iload_n 1, 1) := by decide +kernel
theorem dX2_save_2 : decode cX2_save 2 = .ok (.i2l, 1) := by decide +kernel
theorem dX2_save_3 : decode cX2_save 3 = .ok (.lconst 0, 1) := by decide +kernel
theorem dX2_save_4 : decode cX2_save 4 = .ok (.lconst 1, 1) := by decide +kernel
theorem dX2_save_5 : decode cX2_save 5 = .ok (.invokestatic 54, 3) := by decide +kernel
theorem dX2_save_8 : decode cX2_save 8 = .ok (.ifCond .eq 7, 3) := by decide +kernel
theorem dX2_save_11 : decode cX2_save 11 = .ok (.iconst 0, 1) := by decide +kernel
theorem dX2_save_12 : decode cX2_save 12 = .ok (.goto 4, 3) := by decide +kernel
theorem dX2_save_15 : decode cX2_save 15 = .ok (.iconst 1, 1) := by decide +kernel
theorem dX2_save_16 : decode cX2_save 16 = .ok (.invokevirtual 98, 3) := by decide +kernel
theorem dX2_save_19 : decode cX2_save 19 = .ok (.ifCond .eq 5, 3) := by decide +kernel
theorem dX2_save_22 : decode cX2_save 22 = .ok (.iconst 0, 1) := by decide +kernel
theorem dX2_save_23 : decode cX2_save 23 = .ok (.ireturn, 1) := by decide +kernel
theorem dX2_save_24 : decode cX2_save 24 = .ok (.aload_n 0, 1) := by decide +kernel
theorem dX2_save_25 : decode cX2_save 25 = .ok (.getfield 28, 3) := by decide +kernel
theorem dX2_save_28 : decode cX2_save 28 = .ok (.iload_n 1, 1) := by decide +kernel
theorem dX2_save_29 : decode cX2_save 29 = .ok (.iconst 1, 1) := by decide +kernel
theorem dX2_save_30 : decode cX2_save 30 = .ok (.bastore, 1) := by decide +kernel
theorem dX2_save_31 : decode cX2_save 31 = .ok (.aload_n 0, 1) := by decide +kernel
theorem dX2_save_32 : decode cX2_save 32 = .ok (.getfield 16, 3) := by decide +kernel
theorem dX2_save_35 : decode cX2_save 35 = .ok (.iconst 0, 1) := by decide +kernel
theorem dX2_save_36 : decode cX2_save 36 = .ok (.aload_n 0, 1) := by decide +kernel
theorem dX2_save_37 : decode cX2_save 37 = .ok (.getfield 25, 3) := by decide +kernel
theorem dX2_save_40 : decode cX2_save 40 = .ok (.bipush 64, 2) := by decide +kernel
theorem dX2_save_42 : decode cX2_save 42 = .ok (.iload_n 1, 1) := by decide +kernel
theorem dX2_save_43 : decode cX2_save 43 = .ok (.imul, 1) := by decide +kernel
theorem dX2_save_44 : decode cX2_save 44 = .ok (.bipush 64, 2) := by decide +kernel
theorem dX2_save_46 : decode cX2_save 46 = .ok (.invokestatic 50, 3) := by decide +kernel
theorem dX2_save_49 : decode cX2_save 49 = .ok (.aload_n 0, 1) := by decide +kernel
theorem dX2_save_50 : decode cX2_save 50 = .ok (.getfield 16, 3) := by decide +kernel
theorem dX2_save_53 : decode cX2_save 53 = .ok (.bipush 53, 2) := by decide +kernel
theorem dX2_save_55 : decode cX2_save 55 = .ok (.iaload, 1) := by decide +kernel
theorem dX2_save_56 : decode cX2_save 56 = .ok (.ireturn, 1) := by decide +kernel
set_option maxRecDepth 20000 in
theorem ggX2_restore_X2_in : GoodIn wsX2_restore wsX2_in := (by refine gI_c (gw 8 rfl rfl) ?_; exact gI_n)
set_option maxRecDepth 20000 in
theorem gX2_restore_X2_in : GoodIn wsX2_restore (va_wsS RX2 54 yX2_in wsX2_in) := goodIn_app (goodIn_of _ (by decide +kernel)) ggX2_restore_X2_in
set_option maxRecDepth 20000 in
theorem ggX2_restore_X2_refused : GoodIn wsX2_restore wsX2_refused := (by refine gI_c (gw 12 rfl rfl) ?_; refine gI_c (gw 13 rfl rfl) ?_; refine gI_c (gw 17 rfl rfl) ?_; refine gI_c (gw 18 rfl rfl) ?_; refine gI_c (gw 19 rfl rfl) ?_; refine gI_c (gw 20 rfl rfl) ?_; refine gI_c (gw 21 rfl rfl) ?_; refine gI_c (gw 22 rfl rfl) ?_; refine gI_c (gw 23 rfl rfl) ?_; refine gI_c (gw 24 rfl rfl) ?_; refine gI_c (gw 25 rfl rfl) ?_; refine gI_c (gw 26 rfl rfl) ?_; refine gI_c (gw 27 rfl rfl) ?_; refine gI_c (gw 28 rfl rfl) ?_; refine gI_c (gw 29 rfl rfl) ?_; refine gI_c (gw 30 rfl rfl) ?_; refine gI_c (gw 31 rfl rfl) ?_; exact gI_n)
set_option maxRecDepth 20000 in
theorem gX2_restore_X2_refused : GoodIn wsX2_restore (wsV RX2 98 RX2 yX2_refused wsX2_refused) := goodIn_app (goodIn_of _ (by decide +kernel)) ggX2_restore_X2_refused
set_option maxRecDepth 20000 in
theorem ggX2_restore_X2_copy : GoodIn wsX2_restore wsX2_copy := (by refine gI_c (gw 16 rfl rfl) ?_; exact gI_n)
set_option maxRecDepth 20000 in
theorem gX2_restore_X2_copy : GoodIn wsX2_restore (va_wsS RX2 50 yX2_copy wsX2_copy) := goodIn_app (goodIn_of _ (by decide +kernel)) ggX2_restore_X2_copy
theorem dX2_restore_0 : decode cX2_restore 0 = .ok (.aload_n 0, 1) := by decide +kernel
theorem dX2_restore_1 : decode cX2_restore 1 = .ok (.iload_n 1, 1) := by decide +kernel
theorem dX2_restore_2 : decode cX2_restore 2 = .ok (.i2l, 1) := by decide +kernel
theorem dX2_restore_3 : decode cX2_restore 3 = .ok (.lconst 0, 1) := by decide +kernel
theorem dX2_restore_4 : decode cX2_restore 4 = .ok (.lconst 1, 1) := by decide +kernel
theorem dX2_restore_5 : decode cX2_restore 5 = .ok (.invokestatic 54, 3) := by decide +kernel
theorem dX2_restore_8 : decode cX2_restore 8 = .ok (.ifCond .ne 7, 3) := by decide +kernel
theorem dX2_restore_11 : decode cX2_restore 11 = .ok (.iconst 1, 1) := by decide +kernel
theorem dX2_restore_12 : decode cX2_restore 12 = .ok (.goto 17, 3) := by decide +kernel
theorem dX2_restore_15 : decode cX2_restore 15 = .ok (.aload_n 0, 1) := by decide +kernel
theorem dX2_restore_16 : decode cX2_restore 16 = .ok (.getfield 28, 3) := by decide +kernel
theorem dX2_restore_19 : decode cX2_restore 19 = .ok (.iload_n 1, 1) := by decide +kernel
theorem dX2_restore_20 : decode cX2_restore 20 = .ok (.baload, 1) := by decide +kernel
theorem dX2_restore_21 : decode cX2_restore 21 = .ok (.ifCond .ne 7, 3) := by decide +kernel
theorem dX2_restore_24 : decode cX2_restore 24 = .ok (.iconst 2, 1) := by decide +kernel
theorem dX2_restore_25 : decode cX2_restore 25 = .ok (.goto 4, 3) := by decide +kernel
theorem dX2_restore_28 : decode cX2_restore 28 = .ok (.iconst 0, 1) := by decide +kernel
theorem dX2_restore_29 : decode cX2_restore 29 = .ok (.invokevirtual 98, 3) := by decide +kernel
theorem dX2_restore_32 : decode cX2_restore 32 = .ok (.ifCond .eq 5, 3) := by decide +kernel
theorem dX2_restore_35 : decode cX2_restore 35 = .ok (.iconst 0, 1) := by decide +kernel
theorem dX2_restore_36 : decode cX2_restore 36 = .ok (.ireturn, 1) := by decide +kernel
theorem dX2_restore_37 : decode cX2_restore 37 = .ok (.aload_n 0, 1) := by decide +kernel
theorem dX2_restore_38 : decode cX2_restore 38 = .ok (.getfield 25, 3) := by decide +kernel
theorem dX2_restore_41 : decode cX2_restore 41 = .ok (.bipush 64, 2) := by decide +kernel
theorem dX2_restore_43 : decode cX2_restore 43 = .ok (.iload_n 1, 1) := by decide +kernel
theorem dX2_restore_44 : decode cX2_restore 44 = .ok (.imul, 1) := by decide +kernel
theorem dX2_restore_45 : decode cX2_restore 45 = .ok (.aload_n 0, 1) := by decide +kernel
theorem dX2_restore_46 : decode cX2_restore 46 = .ok (.getfield 16, 3) := by decide +kernel
theorem dX2_restore_49 : decode cX2_restore 49 = .ok (.iconst 0, 1) := by decide +kernel
theorem dX2_restore_50 : decode cX2_restore 50 = .ok (.bipush 64, 2) := by decide +kernel
theorem dX2_restore_52 : decode cX2_restore 52 = .ok (.invokestatic 50, 3) := by decide +kernel
theorem dX2_restore_55 : decode cX2_restore 55 = .ok (.aload_n 0, 1) := by decide +kernel
theorem dX2_restore_56 : decode cX2_restore 56 = .ok (.iconst 0, 1) := by decide +kernel
theorem dX2_restore_57 : decode cX2_restore 57 = .ok (.putfield 47, 3) := by decide +kernel
theorem dX2_restore_60 : decode cX2_restore 60 = .ok (.aload_n 0, 1) := by decide +kernel
theorem dX2_restore_61 : decode cX2_restore 61 = .ok (.getfield 16, 3) := by decide +kernel
theorem dX2_restore_64 : decode cX2_restore 64 = .ok (.bipush 53, 2) := by decide +kernel
theorem dX2_restore_66 : decode cX2_restore 66 = .ok (.iaload, 1) := by decide +kernel
theorem dX2_restore_67 : decode cX2_restore 67 = .ok (.ireturn, 1) := by decide +kernel
