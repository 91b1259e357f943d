set_option maxRecDepth 20000 in
theorem ggX1_init_X0_init : GoodIn wsX1_init wsX0_init := (by refine gI_c (gw 22 rfl rfl) ?_; refine gI_c (gw 23 rfl rfl) ?_; refine gI_c (gw 2 rfl rfl) ?_; refine gI_c (gw 3 rfl rfl) ?_; refine gI_c (gw 24 rfl rfl) ?_; refine gI_c (gw 7 rfl rfl) ?_; refine gI_c (gw 25 rfl rfl) ?_; refine gI_c (gw 26 rfl rfl) ?_; refine gI_c (gw 27 rfl rfl) ?_; refine gI_c (gw 28 rfl rfl) ?_; refine gI_c (gw 29 rfl rfl) ?_; refine gI_c (gw 30 rfl rfl) ?_; refine gI_c (gw 31 rfl rfl) ?_; refine gI_c (gw 32 rfl rfl) ?_; refine gI_c (gw 33 rfl rfl) ?_; refine gI_c (gw 34 rfl rfl) ?_; refine gI_c (gw 35 rfl rfl) ?_; refine gI_c (gw 36 rfl rfl) ?_; refine gI_c (gw 37 rfl rfl) ?_; refine gI_c (gw 38 rfl rfl) ?_; refine gI_c (gw 39 rfl rfl) ?_; refine gI_c (gw 51 rfl rfl) ?_; refine gI_c (gw 52 rfl rfl) ?_; refine gI_c (gw 53 rfl rfl) ?_; refine gI_c (gw 54 rfl rfl) ?_; refine gI_c (gw 55 rfl rfl) ?_; refine gI_c (gw 56 rfl rfl) ?_; refine gI_c (gw 57 rfl rfl) ?_; refine gI_c (gw 58 rfl rfl) ?_; refine gI_c (gw 59 rfl rfl) ?_; refine gI_c (gw 60 rfl rfl) ?_; refine gI_c (gw 61 rfl rfl) ?_; refine gI_c (gw 62 rfl rfl) ?_; exact gI_n)
set_option maxRecDepth 20000 in
theorem gX1_init_X0_init_n23 : GoodIn wsX1_init (wsX0_init) := ggX1_init_X0_init
theorem dX1_init_0 : decode cX1_init 0 = .ok (.aload_n 0, 1) := by decide +kernel
theorem dX1_init_1 : decode cX1_init 1 = .ok (.invokespecial 3, 3) := by decide +kernel
theorem dX1_init_4 : decode cX1_init 4 = .ok (.aload_n 0, 1) := by decide +kernel
theorem dX1_init_5 : decode cX1_init 5 = .ok (.bipush 120, 2) := by decide +kernel
theorem dX1_init_7 : decode cX1_init 7 = .ok (.newarray .char, 2) := by decide +kernel
theorem dX1_init_9 : decode cX1_init 9 = .ok (.putfield 9, 3) := by decide +kernel
theorem dX1_init_12 : decode cX1_init 12 = .ok (.aload_n 0, 1) := by decide +kernel
theorem dX1_init_13 : decode cX1_init 13 = .ok (.iconst 0, 1) := by decide +kernel
theorem dX1_init_14 : decode cX1_init 14 = .ok (.putfield 13, 3) := by decide +kernel
theorem dX1_init_17 : decode cX1_init 17 = .ok (.aload_n 0, 1) := by decide +kernel
theorem dX1_init_18 : decode cX1_init 18 = .ok (.bipush 42, 2) := by decide +kernel
theorem dX1_init_20 : decode cX1_init 20 = .ok (.newarray .int, 2) := by decide +kernel
theorem dX1_init_22 : decode cX1_init 22 = .ok (.putfield 17, 3) := by decide +kernel
theorem dX1_init_25 : decode cX1_init 25 = .ok (.aload_n 0, 1) := by decide +kernel
theorem dX1_init_26 : decode cX1_init 26 = .ok (.new 21, 3) := by decide +kernel
theorem dX1_init_29 : decode cX1_init 29 = .ok (.dup, 1) := by decide +kernel
theorem dX1_init_30 : decode cX1_init 30 = .ok (.invokespecial 23, 3) := by decide +kernel
theorem dX1_init_33 : decode cX1_init 33 = .ok (.putfield 24, 3) := by decide +kernel
theorem dX1_init_36 : decode cX1_init 36 = .ok (.aload_n 0, 1) := by decide +kernel
theorem dX1_init_37 : decode cX1_init 37 = .ok (.new 21, 3) := by decide +kernel
theorem dX1_init_40 : decode cX1_init 40 = .ok (.dup, 1) := by decide +kernel
theorem dX1_init_41 : decode cX1_init 41 = .ok (.invokespecial 23, 3) := by decide +kernel
theorem dX1_init_44 : decode cX1_init 44 = .ok (.putfield 28, 3) := by decide +kernel
theorem dX1_init_47 : decode cX1_init 47 = .ok (.aload_n 0, 1) := by decide +kernel
theorem dX1_init_48 : decode cX1_init 48 = .ok (.iconst 3, 1) := by decide +kernel
theorem dX1_init_49 : decode cX1_init 49 = .ok (.anewarray 21, 3) := by decide +kernel
theorem dX1_init_52 : decode cX1_init 52 = .ok (.putfield 31, 3) := by decide +kernel
theorem dX1_init_55 : decode cX1_init 55 = .ok (.aload_n 0, 1) := by decide +kernel
theorem dX1_init_56 : decode cX1_init 56 = .ok (.bipush 14, 2) := by decide +kernel
theorem dX1_init_58 : decode cX1_init 58 = .ok (.anewarray 21, 3) := by decide +kernel
theorem dX1_init_61 : decode cX1_init 61 = .ok (.putfield 35, 3) := by decide +kernel
theorem dX1_init_64 : decode cX1_init 64 = .ok (.aload_n 0, 1) := by decide +kernel
theorem dX1_init_65 : decode cX1_init 65 = .ok (.iconst 0, 1) := by decide +kernel
theorem dX1_init_66 : decode cX1_init 66 = .ok (.putfield 38, 3) := by decide +kernel
theorem dX1_init_69 : decode cX1_init 69 = .ok (.aload_n 0, 1) := by decide +kernel
theorem dX1_init_70 : decode cX1_init 70 = .ok (.iconst 0, 1) := by decide +kernel
theorem dX1_init_71 : decode cX1_init 71 = .ok (.putfield 41, 3) := by decide +kernel
theorem dX1_init_74 : decode cX1_init 74 = .ok (.aload_n 0, 1) := by decide +kernel
theorem dX1_init_75 : decode cX1_init 75 = .ok (.iconst 2, 1) := by decide +kernel
theorem dX1_init_76 : decode cX1_init 76 = .ok (.anewarray 21, 3) := by decide +kernel
theorem dX1_init_79 : decode cX1_init 79 = .ok (.putfield 44, 3) := by decide +kernel
theorem dX1_init_82 : decode cX1_init 82 = .ok (.aload_n 0, 1) := by decide +kernel
theorem dX1_init_83 : decode cX1_init 83 = .ok (.iconst 2, 1) := by decide +kernel
theorem dX1_init_84 : decode cX1_init 84 = .ok (.newarray .boolean, 2) := by decide +kernel
theorem dX1_init_86 : decode cX1_init 86 = .ok (.putfield 47, 3) := by decide +kernel
theorem dX1_init_89 : decode cX1_init 89 = .ok (.return_, 1) := by decide +kernel
set_option maxRecDepth 20000 in
theorem ggX1_append_X1_checkRange : GoodIn wsX1_append wsX1_checkRange := goodIn_ca ((by refine gI_c (gw 8 rfl rfl) ?_; refine gI_c (gw 9 rfl rfl) ?_; refine gI_c (gw 10 rfl rfl) ?_; exact gI_n)) (goodIn_sub (fun _ h => List.mem_cons_of_mem _ (List.mem_append_right _ h)) (by decide +kernel))
set_option maxRecDepth 20000 in
theorem gX1_append_X1_checkRange : GoodIn wsX1_append (va_wsS RX1 51 yX1_checkRange wsX1_checkRange) := goodIn_app (goodIn_of _ (by decide +kernel)) ggX1_append_X1_checkRange
theorem dX1_append_0 : decode cX1_append 0 = .ok (.iload_n 1, 1) := by decide +kernel
theorem dX1_append_1 : decode cX1_append 1 = .ok (.iconst 0, 1) := by decide +kernel
theorem dX1_append_2 : decode cX1_append 2 = .ok (.sipush 255, 3) := by decide +kernel
theorem dX1_append_5 : decode cX1_append 5 = .ok (.invokestatic 51, 3) := by decide +kernel
theorem dX1_append_8 : decode cX1_append 8 = .ok (.aload_n 0, 1) := by decide +kernel
theorem dX1_append_9 : decode cX1_append 9 = .ok (.getfield 13, 3) := by decide +kernel
theorem dX1_append_12 : decode cX1_append 12 = .ok (.bipush 120, 2) := by decide +kernel
theorem dX1_append_14 : decode cX1_append 14 = .ok (.if_icmp .lt 13, 3) := by decide +kernel
theorem dX1_append_17 : decode cX1_append 17 = .ok (.new 55, 3) := by decide +kernel
theorem dX1_append_20 : decode cX1_append 20 = .ok (.dup, 1) := by decide +kernel
theorem dX1_append_21 : decode cX1_append 21 = .ok (.ldc 57, 2) := by decide +kernel
theorem dX1_append_23 : decode cX1_append 23 = .ok (.invokespecial 59, 3) := by decide +kernel
theorem dX1_append_26 : decode cX1_append 26 = .ok (.athrow, 1) := by decide +kernel
theorem dX1_append_27 : decode cX1_append 27 = .ok (.aload_n 0, 1) := by decide +kernel
theorem dX1_append_28 : decode cX1_append 28 = .ok (.getfield 9, 3) := by decide +kernel
theorem dX1_append_31 : decode cX1_append 31 = .ok (.aload_n 0, 1) := by decide +kernel
theorem dX1_append_32 : decode cX1_append 32 = .ok (.getfield 13, 3) := by decide +kernel
theorem dX1_append_35 : decode cX1_append 35 = .ok (.iload_n 1, 1) := by decide +kernel
theorem dX1_append_36 : decode cX1_append 36 = .ok (.i2c, 1) := by decide +kernel
theorem dX1_append_37 : decode cX1_append 37 = .ok (.castore, 1) := by decide +kernel
theorem dX1_append_38 : decode cX1_append 38 = .ok (.aload_n 0, 1) := by decide +kernel
theorem dX1_append_39 : decode cX1_append 39 = .ok (.dup, 1) := by decide +kernel
theorem dX1_append_40 : decode cX1_append 40 = .ok (.getfield 13, 3) := by decide +kernel
theorem dX1_append_43 : decode cX1_append 43 = .ok (.iconst 1, 1) := by decide +kernel
theorem dX1_append_44 : decode cX1_append 44 = .ok (.iadd, 1) := by decide +kernel
theorem dX1_append_45 : decode cX1_append 45 = .ok (.putfield 13, 3) := by decide +kernel
theorem dX1_append_48 : decode cX1_append 48 = .ok (.aload_n 0, 1) := by decide +kernel
theorem dX1_append_49 : decode cX1_append 49 = .ok (.getfield 13, 3) := by decide +kernel
theorem dX1_append_52 : decode cX1_append 52 = .ok (.ireturn, 1) := by decide +kernel
theorem dX1_clearText_0 : decode cX1_clearText 0 = .ok (.aload_n 0, 1) := by decide +kernel
theorem dX1_clearText_1 : decode cX1_clearText 1 = .ok (.getfield 13, 3) := by decide +kernel
theorem dX1_clearText_4 : decode cX1_clearText 4 = .ok (.istore_n 1, 1) := by decide +kernel
theorem dX1_clearText_5 : decode cX1_clearText 5 = .ok (.aload_n 0, 1) := by decide +kernel
theorem dX1_clearText_6 : decode cX1_clearText 6 = .ok (.iconst 0, 1) := by decide +kernel
theorem dX1_clearText_7 : decode cX1_clearText 7 = .ok (.putfield 13, 3) := by decide +kernel
theorem dX1_clearText_10 : decode cX1_clearText 10 = .ok (.iload_n 1, 1) := by decide +kernel
theorem dX1_clearText_11 : decode cX1_clearText 11 = .ok (.ireturn, 1) := by decide +kernel
set_option maxRecDepth 20000 in
theorem ggX1_errorPosition_X1_readText : GoodIn wsX1_errorPosition wsX1_readText := (by refine gI_c (gw 5 rfl rfl) ?_; refine gI_c (gw 6 rfl rfl) ?_; refine gI_c (gw 7 rfl rfl) ?_; refine gI_c (gw 8 rfl rfl) ?_; refine gI_c (gw 9 rfl rfl) ?_; refine gI_c (gw 10 rfl rfl) ?_; refine gI_c (gw 11 rfl rfl) ?_; refine gI_c (gw 12 rfl rfl) ?_; refine gI_c (gw 4 rfl rfl) ?_; refine gI_c (gw 13 rfl rfl) ?_; refine gI_c (gw 14 rfl rfl) ?_; refine gI_c (gw 15 rfl rfl) ?_; refine gI_c (gw 16 rfl rfl) ?_; refine gI_c (gw 17 rfl rfl) ?_; refine gI_c (gw 18 rfl rfl) ?_; refine gI_c (gw 19 rfl rfl) ?_; refine gI_c (gw 20 rfl rfl) ?_; refine gI_c (gw 21 rfl rfl) ?_; refine gI_c (gw 22 rfl rfl) ?_; refine gI_c (gw 23 rfl rfl) ?_; refine gI_c (gw 24 rfl rfl) ?_; refine gI_c (gw 25 rfl rfl) ?_; refine gI_c (gw 26 rfl rfl) ?_; refine gI_c (gw 27 rfl rfl) ?_; refine gI_c (gw 28 rfl rfl) ?_; refine gI_c (gw 29 rfl rfl) ?_; refine gI_c (gw 30 rfl rfl) ?_; exact gI_n)
set_option maxRecDepth 20000 in
theorem gX1_errorPosition_X1_readText : GoodIn wsX1_errorPosition (wsV RX1 62 RX1 yX1_readText wsX1_readText) := goodIn_app (goodIn_of _ (by decide +kernel)) ggX1_errorPosition_X1_readText
theorem dX1_errorPosition_0 : decode cX1_errorPosition 0 = .ok (.aload_n 0, 1) := by decide +kernel
theorem dX1_errorPosition_1 : decode cX1_errorPosition 1 = .ok (.invokevirtual 62, 3) := by decide +kernel
theorem dX1_errorPosition_4 : decode cX1_errorPosition 4 = .ok (.ireturn, 1) := by decide +kernel
set_option maxRecDepth 20000 in
theorem ggX1_load_X1_readText : GoodIn wsX1_load wsX1_readText := (by refine gI_c (gw 11 rfl rfl) ?_; refine gI_c (gw 12 rfl rfl) ?_; refine gI_c (gw 13 rfl rfl) ?_; refine gI_c (gw 4 rfl rfl) ?_; refine gI_c (gw 14 rfl rfl) ?_; refine gI_c (gw 15 rfl rfl) ?_; refine gI_c (gw 16 rfl rfl) ?_; refine gI_c (gw 17 rfl rfl) ?_; refine gI_c (gw 10 rfl rfl) ?_; refine gI_c (gw 18 rfl rfl) ?_; refine gI_c (gw 19 rfl rfl) ?_; refine gI_c (gw 20 rfl rfl) ?_; refine gI_c (gw 21 rfl rfl) ?_; refine gI_c (gw 22 rfl rfl) ?_; refine gI_c (gw 23 rfl rfl) ?_; refine gI_c (gw 24 rfl rfl) ?_; refine gI_c (gw 55 rfl rfl) ?_; refine gI_c (gw 56 rfl rfl) ?_; refine gI_c (gw 57 rfl rfl) ?_; refine gI_c (gw 58 rfl rfl) ?_; refine gI_c (gw 59 rfl rfl) ?_; refine gI_c (gw 60 rfl rfl) ?_; refine gI_c (gw 61 rfl rfl) ?_; refine gI_c (gw 62 rfl rfl) ?_; refine gI_c (gw 63 rfl rfl) ?_; refine gI_c (gw 64 rfl rfl) ?_; refine gI_c (gw 65 rfl rfl) ?_; exact gI_n)
set_option maxRecDepth 20000 in
theorem gX1_load_X1_readText : GoodIn wsX1_load (wsV RX1 62 RX1 yX1_readText wsX1_readText) := goodIn_app (goodIn_of _ (by decide +kernel)) ggX1_load_X1_readText
set_option maxRecDepth 20000 in
theorem ggX1_load_X0_takeNumbers : GoodIn wsX1_load wsX0_takeNumbers := (by refine gI_c (gw 28 rfl rfl) ?_; refine gI_c (gw 29 rfl rfl) ?_; refine gI_c (gw 30 rfl rfl) ?_; refine gI_c (gw 31 rfl rfl) ?_; refine gI_c (gw 32 rfl rfl) ?_; refine gI_c (gw 33 rfl rfl) ?_; refine gI_c (gw 34 rfl rfl) ?_; refine gI_c (gw 35 rfl rfl) ?_; refine gI_c (gw 36 rfl rfl) ?_; refine gI_c (gw 37 rfl rfl) ?_; refine gI_c (gw 38 rfl rfl) ?_; refine gI_c (gw 39 rfl rfl) ?_; refine gI_c (gw 40 rfl rfl) ?_; refine gI_c (gw 41 rfl rfl) ?_; refine gI_c (gw 42 rfl rfl) ?_; refine gI_c (gw 43 rfl rfl) ?_; refine gI_c (gw 44 rfl rfl) ?_; refine gI_c (gw 45 rfl rfl) ?_; refine gI_c (gw 46 rfl rfl) ?_; refine gI_c (gw 47 rfl rfl) ?_; refine gI_c (gw 48 rfl rfl) ?_; refine gI_c (gw 66 rfl rfl) ?_; refine gI_c (gw 67 rfl rfl) ?_; refine gI_c (gw 68 rfl rfl) ?_; refine gI_c (gw 69 rfl rfl) ?_; refine gI_c (gw 70 rfl rfl) ?_; refine gI_c (gw 71 rfl rfl) ?_; refine gI_c (gw 72 rfl rfl) ?_; refine gI_c (gw 73 rfl rfl) ?_; refine gI_c (gw 74 rfl rfl) ?_; refine gI_c (gw 75 rfl rfl) ?_; refine gI_c (gw 76 rfl rfl) ?_; refine gI_c (gw 77 rfl rfl) ?_; exact gI_n)
set_option maxRecDepth 20000 in
theorem gX1_load_X0_takeNumbers_n68 : GoodIn wsX1_load (wsX0_takeNumbers) := ggX1_load_X0_takeNumbers
set_option maxRecDepth 20000 in
theorem ggX1_load_X0_allWater : GoodIn wsX1_load wsX0_allWater := (by refine gI_c (gw 51 rfl rfl) ?_; refine gI_c (gw 29 rfl rfl) ?_; refine gI_c (gw 40 rfl rfl) ?_; refine gI_c (gw 66 rfl rfl) ?_; refine gI_c (gw 67 rfl rfl) ?_; refine gI_c (gw 68 rfl rfl) ?_; refine gI_c (gw 69 rfl rfl) ?_; refine gI_c (gw 70 rfl rfl) ?_; refine gI_c (gw 71 rfl rfl) ?_; refine gI_c (gw 72 rfl rfl) ?_; refine gI_c (gw 73 rfl rfl) ?_; refine gI_c (gw 74 rfl rfl) ?_; refine gI_c (gw 75 rfl rfl) ?_; refine gI_c (gw 76 rfl rfl) ?_; refine gI_c (gw 77 rfl rfl) ?_; exact gI_n)
set_option maxRecDepth 20000 in
theorem gX1_load_X0_allWater_n72 : GoodIn wsX1_load (wsX0_allWater) := ggX1_load_X0_allWater
set_option maxRecDepth 20000 in
theorem ggX1_load_X0_allSolids : GoodIn wsX1_load wsX0_allSolids := (by refine gI_c (gw 54 rfl rfl) ?_; refine gI_c (gw 29 rfl rfl) ?_; refine gI_c (gw 41 rfl rfl) ?_; refine gI_c (gw 66 rfl rfl) ?_; refine gI_c (gw 67 rfl rfl) ?_; refine gI_c (gw 68 rfl rfl) ?_; refine gI_c (gw 69 rfl rfl) ?_; refine gI_c (gw 70 rfl rfl) ?_; refine gI_c (gw 71 rfl rfl) ?_; refine gI_c (gw 72 rfl rfl) ?_; refine gI_c (gw 73 rfl rfl) ?_; refine gI_c (gw 74 rfl rfl) ?_; refine gI_c (gw 75 rfl rfl) ?_; refine gI_c (gw 76 rfl rfl) ?_; refine gI_c (gw 77 rfl rfl) ?_; exact gI_n)
set_option maxRecDepth 20000 in
theorem gX1_load_X0_allSolids_n75 : GoodIn wsX1_load (wsX0_allSolids) := ggX1_load_X0_allSolids
theorem dX1_load_0 : decode cX1_load 0 = .ok (.aload_n 0, 1) := by decide +kernel
theorem dX1_load_1 : decode cX1_load 1 = .ok (.invokevirtual 62, 3) := by decide +kernel
theorem dX1_load_4 : decode cX1_load 4 = .ok (.bipush (-9), 2) := by decide +kernel
theorem dX1_load_6 : decode cX1_load 6 = .ok (.if_icmp .eq 13, 3) := by decide +kernel
theorem dX1_load_9 : decode cX1_load 9 = .ok (.new 55, 3) := by decide +kernel
theorem dX1_load_12 : decode cX1_load 12 = .ok (.dup, 1) := by decide +kernel
theorem dX1_load_13 : decode cX1_load 13 = .ok (.ldc 66, 2) := by decide +kernel
theorem dX1_load_15 : decode cX1_load 15 = .ok (.invokespecial 59, 3) := by decide +kernel
theorem dX1_load_18 : decode cX1_load 18 = .ok (.athrow, 1) := by decide +kernel
theorem dX1_load_19 : decode cX1_load 19 = .ok (.aload_n 0, 1) := by decide +kernel
theorem dX1_load_20 : decode cX1_load 20 = .ok (.getfield 24, 3) := by decide +kernel
theorem dX1_load_23 : decode cX1_load 23 = .ok (.aload_n 0, 1) := by decide +kernel
theorem dX1_load_24 : decode cX1_load 24 = .ok (.getfield 17, 3) := by decide +kernel
theorem dX1_load_27 : decode cX1_load 27 = .ok (.invokevirtual 68, 3) := by decide +kernel
theorem dX1_load_30 : decode cX1_load 30 = .ok (.aload_n 0, 1) := by decide +kernel
theorem dX1_load_31 : decode cX1_load 31 = .ok (.iconst 0, 1) := by decide +kernel
theorem dX1_load_32 : decode cX1_load 32 = .ok (.putfield 41, 3) := by decide +kernel
theorem dX1_load_35 : decode cX1_load 35 = .ok (.iconst 0, 1) := by decide +kernel
theorem dX1_load_36 : decode cX1_load 36 = .ok (.istore_n 1, 1) := by decide +kernel
theorem dX1_load_37 : decode cX1_load 37 = .ok (.iload_n 1, 1) := by decide +kernel
theorem dX1_load_38 : decode cX1_load 38 = .ok (.iconst 2, 1) := by decide +kernel
theorem dX1_load_39 : decode cX1_load 39 = .ok (.if_icmp .ge 16, 3) := by decide +kernel
theorem dX1_load_42 : decode cX1_load 42 = .ok (.aload_n 0, 1) := by decide +kernel
theorem dX1_load_43 : decode cX1_load 43 = .ok (.getfield 47, 3) := by decide +kernel
theorem dX1_load_46 : decode cX1_load 46 = .ok (.iload_n 1, 1) := by decide +kernel
theorem dX1_load_47 : decode cX1_load 47 = .ok (.iconst 0, 1) := by decide +kernel
theorem dX1_load_48 : decode cX1_load 48 = .ok (.bastore, 1) := by decide +kernel
theorem dX1_load_49 : decode cX1_load 49 = .ok (.iinc 1 1, 3) := by decide +kernel
theorem dX1_load_52 : decode cX1_load 52 = .ok (.goto (-15), 3) := by decide +kernel
theorem dX1_load_55 : decode cX1_load 55 = .ok (.aload_n 0, 1) := by decide +kernel
theorem dX1_load_56 : decode cX1_load 56 = .ok (.getfield 24, 3) := by decide +kernel
theorem dX1_load_59 : decode cX1_load 59 = .ok (.invokevirtual 72, 3) := by decide +kernel
theorem dX1_load_62 : decode cX1_load 62 = .ok (.aload_n 0, 1) := by decide +kernel
theorem dX1_load_63 : decode cX1_load 63 = .ok (.getfield 24, 3) := by decide +kernel
theorem dX1_load_66 : decode cX1_load 66 = .ok (.invokevirtual 75, 3) := by decide +kernel
theorem dX1_load_69 : decode cX1_load 69 = .ok (.iadd, 1) := by decide +kernel
theorem dX1_load_70 : decode cX1_load 70 = .ok (.ireturn, 1) := by decide +kernel
set_option maxRecDepth 20000 in
theorem ggX1_readText_X1_numberError : GoodIn wsX1_readText wsX1_numberError := (by refine gI_c (gw 9 rfl rfl) ?_; refine gI_c (gw 4 rfl rfl) ?_; refine gI_c (gw 1 rfl rfl) ?_; refine gI_c (gw 2 rfl rfl) ?_; refine gI_c (gw 10 rfl rfl) ?_; refine gI_c (gw 11 rfl rfl) ?_; refine gI_c (gw 16 rfl rfl) ?_; refine gI_c (gw 17 rfl rfl) ?_; refine gI_c (gw 18 rfl rfl) ?_; refine gI_c (gw 19 rfl rfl) ?_; refine gI_c (gw 20 rfl rfl) ?_; refine gI_c (gw 21 rfl rfl) ?_; refine gI_c (gw 22 rfl rfl) ?_; refine gI_c (gw 23 rfl rfl) ?_; refine gI_c (gw 24 rfl rfl) ?_; refine gI_c (gw 25 rfl rfl) ?_; refine gI_c (gw 26 rfl rfl) ?_; exact gI_n)
set_option maxRecDepth 20000 in
theorem gX1_readText_X1_numberError : GoodIn wsX1_readText (wsV RX1 78 RX1 yX1_numberError wsX1_numberError) := goodIn_app (goodIn_of _ (by decide +kernel)) ggX1_readText_X1_numberError
set_option maxRecDepth 20000 in
theorem ggX1_readText_X1_numberAt : GoodIn wsX1_readText wsX1_numberAt := (by refine gI_c (gw 15 rfl rfl) ?_; refine gI_c (gw 1 rfl rfl) ?_; refine gI_c (gw 2 rfl rfl) ?_; refine gI_c (gw 16 rfl rfl) ?_; refine gI_c (gw 17 rfl rfl) ?_; refine gI_c (gw 18 rfl rfl) ?_; refine gI_c (gw 19 rfl rfl) ?_; refine gI_c (gw 20 rfl rfl) ?_; refine gI_c (gw 21 rfl rfl) ?_; refine gI_c (gw 22 rfl rfl) ?_; refine gI_c (gw 23 rfl rfl) ?_; refine gI_c (gw 24 rfl rfl) ?_; refine gI_c (gw 25 rfl rfl) ?_; refine gI_c (gw 26 rfl rfl) ?_; exact gI_n)
set_option maxRecDepth 20000 in
theorem gX1_readText_X1_numberAt : GoodIn wsX1_readText (wsV RX1 85 RX1 yX1_numberAt wsX1_numberAt) := goodIn_app (goodIn_of _ (by decide +kernel)) ggX1_readText_X1_numberAt
theorem dX1_readText_0 : decode cX1_readText 0 = .ok (.aload_n 0, 1) := by decide +kernel
theorem dX1_readText_1 : decode cX1_readText 1 = .ok (.getfield 13, 3) := by decide +kernel
theorem dX1_readText_4 : decode cX1_readText 4 = .ok (.ifCond .eq 14, 3) := by decide +kernel
theorem dX1_readText_7 : decode cX1_readText 7 = .ok (.aload_n 0, 1) := by decide +kernel
theorem dX1_readText_8 : decode cX1_readText 8 = .ok (.getfield 9, 3) := by decide +kernel
theorem dX1_readText_11 : decode cX1_readText 11 = .ok (.iconst 0, 1) := by decide +kernel
theorem dX1_readText_12 : decode cX1_readText 12 = .ok (.caload, 1) := by decide +kernel
theorem dX1_readText_13 : decode cX1_readText 13 = .ok (.bipush 69, 2) := by decide +kernel
theorem dX1_readText_15 : decode cX1_readText 15 = .ok (.if_icmp .eq 5, 3) := by decide +kernel
theorem dX1_readText_18 : decode cX1_readText 18 = .ok (.iconst 0, 1) := by decide +kernel
theorem dX1_readText_19 : decode cX1_readText 19 = .ok (.ireturn, 1) := by decide +kernel
theorem dX1_readText_20 : decode cX1_readText 20 = .ok (.iconst 1, 1) := by decide +kernel
theorem dX1_readText_21 : decode cX1_readText 21 = .ok (.istore_n 1, 1) := by decide +kernel
theorem dX1_readText_22 : decode cX1_readText 22 = .ok (.bipush 6, 2) := by decide +kernel
theorem dX1_readText_24 : decode cX1_readText 24 = .ok (.istore_n 2, 1) := by decide +kernel
theorem dX1_readText_25 : decode cX1_readText 25 = .ok (.iconst 0, 1) := by decide +kernel
theorem dX1_readText_26 : decode cX1_readText 26 = .ok (.istore_n 3, 1) := by decide +kernel
theorem dX1_readText_27 : decode cX1_readText 27 = .ok (.iload_n 3, 1) := by decide +kernel
theorem dX1_readText_28 : decode cX1_readText 28 = .ok (.iload_n 2, 1) := by decide +kernel
theorem dX1_readText_29 : decode cX1_readText 29 = .ok (.if_icmp .ge 99, 3) := by decide +kernel
theorem dX1_readText_32 : decode cX1_readText 32 = .ok (.iload_n 3, 1) := by decide +kernel
theorem dX1_readText_33 : decode cX1_readText 33 = .ok (.bipush 42, 2) := by decide +kernel
theorem dX1_readText_35 : decode cX1_readText 35 = .ok (.if_icmp .ge 93, 3) := by decide +kernel
theorem dX1_readText_38 : decode cX1_readText 38 = .ok (.iload_n 3, 1) := by decide +kernel
theorem dX1_readText_39 : decode cX1_readText 39 = .ok (.bipush 6, 2) := by decide +kernel
theorem dX1_readText_41 : decode cX1_readText 41 = .ok (.if_icmp .ge 7, 3) := by decide +kernel
theorem dX1_readText_44 : decode cX1_readText 44 = .ok (.iload_n 3, 1) := by decide +kernel
theorem dX1_readText_45 : decode cX1_readText 45 = .ok (.goto 13, 3) := by decide +kernel
theorem dX1_readText_48 : decode cX1_readText 48 = .ok (.bipush 6, 2) := by decide +kernel
theorem dX1_readText_50 : decode cX1_readText 50 = .ok (.iload_n 3, 1) := by decide +kernel
theorem dX1_readText_51 : decode cX1_readText 51 = .ok (.bipush 6, 2) := by decide +kernel
theorem dX1_readText_53 : decode cX1_readText 53 = .ok (.isub, 1) := by decide +kernel
theorem dX1_readText_54 : decode cX1_readText 54 = .ok (.bipush 6, 2) := by decide +kernel
theorem dX1_readText_56 : decode cX1_readText 56 = .ok (.irem, 1) := by decide +kernel
theorem dX1_readText_57 : decode cX1_readText 57 = .ok (.iadd, 1) := by decide +kernel
theorem dX1_readText_58 : decode cX1_readText 58 = .ok (.istore 4, 2) := by decide +kernel
theorem dX1_readText_60 : decode cX1_readText 60 = .ok (.aload_n 0, 1) := by decide +kernel
theorem dX1_readText_61 : decode cX1_readText 61 = .ok (.iload_n 1, 1) := by decide +kernel
theorem dX1_readText_62 : decode cX1_readText 62 = .ok (.iload 4, 2) := by decide +kernel
theorem dX1_readText_64 : decode cX1_readText 64 = .ok (.invokevirtual 78, 3) := by decide +kernel
theorem dX1_readText_67 : decode cX1_readText 67 = .ok (.istore 5, 2) := by decide +kernel
theorem dX1_readText_69 : decode cX1_readText 69 = .ok (.iload 5, 2) := by decide +kernel
theorem dX1_readText_71 : decode cX1_readText 71 = .ok (.bipush (-9), 2) := by decide +kernel
theorem dX1_readText_73 : decode cX1_readText 73 = .ok (.if_icmp .eq 6, 3) := by decide +kernel
theorem dX1_readText_76 : decode cX1_readText 76 = .ok (.iload 5, 2) := by decide +kernel
theorem dX1_readText_78 : decode cX1_readText 78 = .ok (.ireturn, 1) := by decide +kernel
theorem dX1_readText_79 : decode cX1_readText 79 = .ok (.aload_n 0, 1) := by decide +kernel
theorem dX1_readText_80 : decode cX1_readText 80 = .ok (.getfield 17, 3) := by decide +kernel
theorem dX1_readText_83 : decode cX1_readText 83 = .ok (.iload_n 3, 1) := by decide +kernel
theorem dX1_readText_84 : decode cX1_readText 84 = .ok (.aload_n 0, 1) := by decide +kernel
theorem dX1_readText_85 : decode cX1_readText 85 = .ok (.iload_n 1, 1) := by decide +kernel
theorem dX1_readText_86 : decode cX1_readText 86 = .ok (.getstatic 82, 3) := by decide +kernel
theorem dX1_readText_89 : decode cX1_readText 89 = .ok (.iload 4, 2) := by decide +kernel
theorem dX1_readText_91 : decode cX1_readText 91 = .ok (.iaload, 1) := by decide +kernel
theorem dX1_readText_92 : decode cX1_readText 92 = .ok (.invokevirtual 85, 3) := by decide +kernel
theorem dX1_readText_95 : decode cX1_readText 95 = .ok (.iastore, 1) := by decide +kernel
theorem dX1_readText_96 : decode cX1_readText 96 = .ok (.iload_n 1, 1) := by decide +kernel
theorem dX1_readText_97 : decode cX1_readText 97 = .ok (.getstatic 82, 3) := by decide +kernel
theorem dX1_readText_100 : decode cX1_readText 100 = .ok (.iload 4, 2) := by decide +kernel
theorem dX1_readText_102 : decode cX1_readText 102 = .ok (.iaload, 1) := by decide +kernel
theorem dX1_readText_103 : decode cX1_readText 103 = .ok (.iadd, 1) := by decide +kernel
theorem dX1_readText_104 : decode cX1_readText 104 = .ok (.istore_n 1, 1) := by decide +kernel
theorem dX1_readText_105 : decode cX1_readText 105 = .ok (.iload_n 3, 1) := by decide +kernel
theorem dX1_readText_106 : decode cX1_readText 106 = .ok (.ifCond .ne 16, 3) := by decide +kernel
theorem dX1_readText_109 : decode cX1_readText 109 = .ok (.bipush 6, 2) := by decide +kernel
theorem dX1_readText_111 : decode cX1_readText 111 = .ok (.bipush 6, 2) := by decide +kernel
theorem dX1_readText_113 : decode cX1_readText 113 = .ok (.aload_n 0, 1) := by decide +kernel
theorem dX1_readText_114 : decode cX1_readText 114 = .ok (.getfield 17, 3) := by decide +kernel
theorem dX1_readText_117 : decode cX1_readText 117 = .ok (.iconst 0, 1) := by decide +kernel
theorem dX1_readText_118 : decode cX1_readText 118 = .ok (.iaload, 1) := by decide +kernel
theorem dX1_readText_119 : decode cX1_readText 119 = .ok (.imul, 1) := by decide +kernel
theorem dX1_readText_120 : decode cX1_readText 120 = .ok (.iadd, 1) := by decide +kernel
theorem dX1_readText_121 : decode cX1_readText 121 = .ok (.istore_n 2, 1) := by decide +kernel
theorem dX1_readText_122 : decode cX1_readText 122 = .ok (.iinc 3 1, 3) := by decide +kernel
theorem dX1_readText_125 : decode cX1_readText 125 = .ok (.goto (-98), 3) := by decide +kernel
theorem dX1_readText_128 : decode cX1_readText 128 = .ok (.iload_n 1, 1) := by decide +kernel
theorem dX1_readText_129 : decode cX1_readText 129 = .ok (.aload_n 0, 1) := by decide +kernel
theorem dX1_readText_130 : decode cX1_readText 130 = .ok (.getfield 13, 3) := by decide +kernel
theorem dX1_readText_133 : decode cX1_readText 133 = .ok (.if_icmp .ne 8, 3) := by decide +kernel
theorem dX1_readText_136 : decode cX1_readText 136 = .ok (.bipush (-9), 2) := by decide +kernel
theorem dX1_readText_138 : decode cX1_readText 138 = .ok (.goto 4, 3) := by decide +kernel
theorem dX1_readText_141 : decode cX1_readText 141 = .ok (.iload_n 1, 1) := by decide +kernel
theorem dX1_readText_142 : decode cX1_readText 142 = .ok (.ireturn, 1) := by decide +kernel
theorem dX1_numberError_0 : decode cX1_numberError 0 = .ok (.iconst 1, 1) := by decide +kernel
theorem dX1_numberError_1 : decode cX1_numberError 1 = .ok (.istore_n 3, 1) := by decide +kernel
theorem dX1_numberError_2 : decode cX1_numberError 2 = .ok (.iconst 0, 1) := by decide +kernel
theorem dX1_numberError_3 : decode cX1_numberError 3 = .ok (.istore 4, 2) := by decide +kernel
theorem dX1_numberError_5 : decode cX1_numberError 5 = .ok (.iload 4, 2) := by decide +kernel
theorem dX1_numberError_7 : decode cX1_numberError 7 = .ok (.getstatic 82, 3) := by decide +kernel
theorem dX1_numberError_10 : decode cX1_numberError 10 = .ok (.iload_n 2, 1) := by decide +kernel
theorem dX1_numberError_11 : decode cX1_numberError 11 = .ok (.iaload, 1) := by decide +kernel
theorem dX1_numberError_12 : decode cX1_numberError 12 = .ok (.if_icmp .ge 14, 3) := by decide +kernel
theorem dX1_numberError_15 : decode cX1_numberError 15 = .ok (.iload_n 3, 1) := by decide +kernel
theorem dX1_numberError_16 : decode cX1_numberError 16 = .ok (.bipush 10, 2) := by decide +kernel
theorem dX1_numberError_18 : decode cX1_numberError 18 = .ok (.imul, 1) := by decide +kernel
theorem dX1_numberError_19 : decode cX1_numberError 19 = .ok (.istore_n 3, 1) := by decide +kernel
theorem dX1_numberError_20 : decode cX1_numberError 20 = .ok (.iinc 4 1, 3) := by decide +kernel
theorem dX1_numberError_23 : decode cX1_numberError 23 = .ok (.goto (-18), 3) := by decide +kernel
theorem dX1_numberError_26 : decode cX1_numberError 26 = .ok (.iconst 0, 1) := by decide +kernel
theorem dX1_numberError_27 : decode cX1_numberError 27 = .ok (.istore 4, 2) := by decide +kernel
theorem dX1_numberError_29 : decode cX1_numberError 29 = .ok (.iconst 0, 1) := by decide +kernel
theorem dX1_numberError_30 : decode cX1_numberError 30 = .ok (.istore 5, 2) := by decide +kernel
theorem dX1_numberError_32 : decode cX1_numberError 32 = .ok (.iload 5, 2) := by decide +kernel
theorem dX1_numberError_34 : decode cX1_numberError 34 = .ok (.getstatic 82, 3) := by decide +kernel
theorem dX1_numberError_37 : decode cX1_numberError 37 = .ok (.iload_n 2, 1) := by decide +kernel
theorem dX1_numberError_38 : decode cX1_numberError 38 = .ok (.iaload, 1) := by decide +kernel
theorem dX1_numberError_39 : decode cX1_numberError 39 = .ok (.if_icmp .ge 94, 3) := by decide +kernel
theorem dX1_numberError_42 : decode cX1_numberError 42 = .ok (.iload_n 1, 1) := by decide +kernel
theorem dX1_numberError_43 : decode cX1_numberError 43 = .ok (.iload 5, 2) := by decide +kernel
theorem dX1_numberError_45 : decode cX1_numberError 45 = .ok (.iadd, 1) := by decide +kernel
theorem dX1_numberError_46 : decode cX1_numberError 46 = .ok (.istore 6, 2) := by decide +kernel
theorem dX1_numberError_48 : decode cX1_numberError 48 = .ok (.iload 6, 2) := by decide +kernel
theorem dX1_numberError_50 : decode cX1_numberError 50 = .ok (.aload_n 0, 1) := by decide +kernel
theorem dX1_numberError_51 : decode cX1_numberError 51 = .ok (.getfield 13, 3) := by decide +kernel
theorem dX1_numberError_54 : decode cX1_numberError 54 = .ok (.if_icmp .lt 8, 3) := by decide +kernel
theorem dX1_numberError_57 : decode cX1_numberError 57 = .ok (.aload_n 0, 1) := by decide +kernel
theorem dX1_numberError_58 : decode cX1_numberError 58 = .ok (.getfield 13, 3) := by decide +kernel
theorem dX1_numberError_61 : decode cX1_numberError 61 = .ok (.ireturn, 1) := by decide +kernel
theorem dX1_numberError_62 : decode cX1_numberError 62 = .ok (.aload_n 0, 1) := by decide +kernel
theorem dX1_numberError_63 : decode cX1_numberError 63 = .ok (.getfield 9, 3) := by decide +kernel
theorem dX1_numberError_66 : decode cX1_numberError 66 = .ok (.iload 6, 2) := by decide +kernel
theorem dX1_numberError_68 : decode cX1_numberError 68 = .ok (.caload, 1) := by decide +kernel
theorem dX1_numberError_69 : decode cX1_numberError 69 = .ok (.bipush 48, 2) := by decide +kernel
theorem dX1_numberError_71 : decode cX1_numberError 71 = .ok (.isub, 1) := by decide +kernel
theorem dX1_numberError_72 : decode cX1_numberError 72 = .ok (.istore 7, 2) := by decide +kernel
theorem dX1_numberError_74 : decode cX1_numberError 74 = .ok (.iload_n 3, 1) := by decide +kernel
theorem dX1_numberError_75 : decode cX1_numberError 75 = .ok (.bipush 10, 2) := by decide +kernel
theorem dX1_numberError_77 : decode cX1_numberError 77 = .ok (.idiv, 1) := by decide +kernel
theorem dX1_numberError_78 : decode cX1_numberError 78 = .ok (.istore_n 3, 1) := by decide +kernel
theorem dX1_numberError_79 : decode cX1_numberError 79 = .ok (.iload 4, 2) := by decide +kernel
theorem dX1_numberError_81 : decode cX1_numberError 81 = .ok (.iload 7, 2) := by decide +kernel
theorem dX1_numberError_83 : decode cX1_numberError 83 = .ok (.iload_n 3, 1) := by decide +kernel
theorem dX1_numberError_84 : decode cX1_numberError 84 = .ok (.imul, 1) := by decide +kernel
theorem dX1_numberError_85 : decode cX1_numberError 85 = .ok (.iadd, 1) := by decide +kernel
theorem dX1_numberError_86 : decode cX1_numberError 86 = .ok (.istore 4, 2) := by decide +kernel
theorem dX1_numberError_88 : decode cX1_numberError 88 = .ok (.iload 7, 2) := by decide +kernel
theorem dX1_numberError_90 : decode cX1_numberError 90 = .ok (.ifCond .lt 34, 3) := by decide +kernel
theorem dX1_numberError_93 : decode cX1_numberError 93 = .ok (.iload 7, 2) := by decide +kernel
theorem dX1_numberError_95 : decode cX1_numberError 95 = .ok (.bipush 9, 2) := by decide +kernel
theorem dX1_numberError_97 : decode cX1_numberError 97 = .ok (.if_icmp .gt 27, 3) := by decide +kernel
theorem dX1_numberError_100 : decode cX1_numberError 100 = .ok (.iload 4, 2) := by decide +kernel
theorem dX1_numberError_102 : decode cX1_numberError 102 = .ok (.getstatic 88, 3) := by decide +kernel
theorem dX1_numberError_105 : decode cX1_numberError 105 = .ok (.iload_n 2, 1) := by decide +kernel
theorem dX1_numberError_106 : decode cX1_numberError 106 = .ok (.iaload, 1) := by decide +kernel
theorem dX1_numberError_107 : decode cX1_numberError 107 = .ok (.if_icmp .gt 17, 3) := by decide +kernel
theorem dX1_numberError_110 : decode cX1_numberError 110 = .ok (.iload 4, 2) := by decide +kernel
theorem dX1_numberError_112 : decode cX1_numberError 112 = .ok (.iload_n 3, 1) := by decide +kernel
theorem dX1_numberError_113 : decode cX1_numberError 113 = .ok (.iadd, 1) := by decide +kernel
theorem dX1_numberError_114 : decode cX1_numberError 114 = .ok (.iconst 1, 1) := by decide +kernel
theorem dX1_numberError_115 : decode cX1_numberError 115 = .ok (.isub, 1) := by decide +kernel
theorem dX1_numberError_116 : decode cX1_numberError 116 = .ok (.getstatic 91, 3) := by decide +kernel
theorem dX1_numberError_119 : decode cX1_numberError 119 = .ok (.iload_n 2, 1) := by decide +kernel
theorem dX1_numberError_120 : decode cX1_numberError 120 = .ok (.iaload, 1) := by decide +kernel
theorem dX1_numberError_121 : decode cX1_numberError 121 = .ok (.if_icmp .ge 6, 3) := by decide +kernel
theorem dX1_numberError_124 : decode cX1_numberError 124 = .ok (.iload 6, 2) := by decide +kernel
theorem dX1_numberError_126 : decode cX1_numberError 126 = .ok (.ireturn, 1) := by decide +kernel
theorem dX1_numberError_127 : decode cX1_numberError 127 = .ok (.iinc 5 1, 3) := by decide +kernel
theorem dX1_numberError_130 : decode cX1_numberError 130 = .ok (.goto (-98), 3) := by decide +kernel
theorem dX1_numberError_133 : decode cX1_numberError 133 = .ok (.bipush (-9), 2) := by decide +kernel
theorem dX1_numberError_135 : decode cX1_numberError 135 = .ok (.ireturn, 1) := by decide +kernel
theorem dX1_numberAt_0 : decode cX1_numberAt 0 = .ok (.iconst 0, 1) := by decide +kernel
theorem dX1_numberAt_1 : decode cX1_numberAt 1 = .ok (.istore_n 3, 1) := by decide +kernel
theorem dX1_numberAt_2 : decode cX1_numberAt 2 = .ok (.iload_n 1, 1) := by decide +kernel
theorem dX1_numberAt_3 : decode cX1_numberAt 3 = .ok (.istore 4, 2) := by decide +kernel
theorem dX1_numberAt_5 : decode cX1_numberAt 5 = .ok (.iload 4, 2) := by decide +kernel
theorem dX1_numberAt_7 : decode cX1_numberAt 7 = .ok (.iload_n 1, 1) := by decide +kernel
theorem dX1_numberAt_8 : decode cX1_numberAt 8 = .ok (.iload_n 2, 1) := by decide +kernel
theorem dX1_numberAt_9 : decode cX1_numberAt 9 = .ok (.iadd, 1) := by decide +kernel
theorem dX1_numberAt_10 : decode cX1_numberAt 10 = .ok (.if_icmp .ge 34, 3) := by decide +kernel
theorem dX1_numberAt_13 : decode cX1_numberAt 13 = .ok (.iload 4, 2) := by decide +kernel
theorem dX1_numberAt_15 : decode cX1_numberAt 15 = .ok (.aload_n 0, 1) := by decide +kernel
theorem dX1_numberAt_16 : decode cX1_numberAt 16 = .ok (.getfield 13, 3) := by decide +kernel
theorem dX1_numberAt_19 : decode cX1_numberAt 19 = .ok (.if_icmp .ge 25, 3) := by decide +kernel
theorem dX1_numberAt_22 : decode cX1_numberAt 22 = .ok (.bipush 10, 2) := by decide +kernel
theorem dX1_numberAt_24 : decode cX1_numberAt 24 = .ok (.iload_n 3, 1) := by decide +kernel
theorem dX1_numberAt_25 : decode cX1_numberAt 25 = .ok (.imul, 1) := by decide +kernel
theorem dX1_numberAt_26 : decode cX1_numberAt 26 = .ok (.aload_n 0, 1) := by decide +kernel
theorem dX1_numberAt_27 : decode cX1_numberAt 27 = .ok (.getfield 9, 3) := by decide +kernel
theorem dX1_numberAt_30 : decode cX1_numberAt 30 = .ok (.iload 4, 2) := by decide +kernel
theorem dX1_numberAt_32 : decode cX1_numberAt 32 = .ok (.caload, 1) := by decide +kernel
theorem dX1_numberAt_33 : decode cX1_numberAt 33 = .ok (.bipush 48, 2) := by decide +kernel
theorem dX1_numberAt_35 : decode cX1_numberAt 35 = .ok (.isub, 1) := by decide +kernel
theorem dX1_numberAt_36 : decode cX1_numberAt 36 = .ok (.iadd, 1) := by decide +kernel
theorem dX1_numberAt_37 : decode cX1_numberAt 37 = .ok (.istore_n 3, 1) := by decide +kernel
theorem dX1_numberAt_38 : decode cX1_numberAt 38 = .ok (.iinc 4 1, 3) := by decide +kernel
theorem dX1_numberAt_41 : decode cX1_numberAt 41 = .ok (.goto (-36), 3) := by decide +kernel
theorem dX1_numberAt_44 : decode cX1_numberAt 44 = .ok (.iload_n 3, 1) := by decide +kernel
theorem dX1_numberAt_45 : decode cX1_numberAt 45 = .ok (.ireturn, 1) := by decide +kernel
set_option maxRecDepth 20000 in
theorem ggX1_about_X1_checkRange : GoodIn wsX1_about wsX1_checkRange := goodIn_ca ((by refine gI_c (gw 5 rfl rfl) ?_; refine gI_c (gw 6 rfl rfl) ?_; refine gI_c (gw 7 rfl rfl) ?_; exact gI_n)) (goodIn_sub (fun _ h => List.mem_cons_of_mem _ (List.mem_append_right _ h)) (by decide +kernel))
set_option maxRecDepth 20000 in
theorem gX1_about_X1_checkRange : GoodIn wsX1_about (va_wsS RX1 51 yX1_checkRange wsX1_checkRange) := goodIn_app (goodIn_of _ (by decide +kernel)) ggX1_about_X1_checkRange
set_option maxRecDepth 20000 in
theorem ggX1_about_X0_washedEffects : GoodIn wsX1_about wsX0_washedEffects := (by refine gI_c (gw 11 rfl rfl) ?_; refine gI_c (gw 12 rfl rfl) ?_; refine gI_c (gw 13 rfl rfl) ?_; refine gI_c (gw 33 rfl rfl) ?_; refine gI_c (gw 34 rfl rfl) ?_; refine gI_c (gw 35 rfl rfl) ?_; refine gI_c (gw 36 rfl rfl) ?_; refine gI_c (gw 37 rfl rfl) ?_; refine gI_c (gw 38 rfl rfl) ?_; refine gI_c (gw 39 rfl rfl) ?_; refine gI_c (gw 40 rfl rfl) ?_; refine gI_c (gw 41 rfl rfl) ?_; refine gI_c (gw 42 rfl rfl) ?_; refine gI_c (gw 43 rfl rfl) ?_; refine gI_c (gw 44 rfl rfl) ?_; exact gI_n)
set_option maxRecDepth 20000 in
theorem gX1_about_X0_washedEffects_n100 : GoodIn wsX1_about (wsX0_washedEffects) := ggX1_about_X0_washedEffects
set_option maxRecDepth 20000 in
theorem ggX1_about_X0_allWater : GoodIn wsX1_about wsX0_allWater := (by refine gI_c (gw 16 rfl rfl) ?_; refine gI_c (gw 12 rfl rfl) ?_; refine gI_c (gw 17 rfl rfl) ?_; refine gI_c (gw 33 rfl rfl) ?_; refine gI_c (gw 34 rfl rfl) ?_; refine gI_c (gw 35 rfl rfl) ?_; refine gI_c (gw 36 rfl rfl) ?_; refine gI_c (gw 37 rfl rfl) ?_; refine gI_c (gw 38 rfl rfl) ?_; refine gI_c (gw 39 rfl rfl) ?_; refine gI_c (gw 40 rfl rfl) ?_; refine gI_c (gw 41 rfl rfl) ?_; refine gI_c (gw 42 rfl rfl) ?_; refine gI_c (gw 43 rfl rfl) ?_; refine gI_c (gw 44 rfl rfl) ?_; exact gI_n)
set_option maxRecDepth 20000 in
theorem gX1_about_X0_allWater_n72 : GoodIn wsX1_about (wsX0_allWater) := ggX1_about_X0_allWater
set_option maxRecDepth 20000 in
theorem ggX1_about_X0_allSolids : GoodIn wsX1_about wsX0_allSolids := (by refine gI_c (gw 20 rfl rfl) ?_; refine gI_c (gw 12 rfl rfl) ?_; refine gI_c (gw 21 rfl rfl) ?_; refine gI_c (gw 33 rfl rfl) ?_; refine gI_c (gw 34 rfl rfl) ?_; refine gI_c (gw 35 rfl rfl) ?_; refine gI_c (gw 36 rfl rfl) ?_; refine gI_c (gw 37 rfl rfl) ?_; refine gI_c (gw 38 rfl rfl) ?_; refine gI_c (gw 39 rfl rfl) ?_; refine gI_c (gw 40 rfl rfl) ?_; refine gI_c (gw 41 rfl rfl) ?_; refine gI_c (gw 42 rfl rfl) ?_; refine gI_c (gw 43 rfl rfl) ?_; refine gI_c (gw 44 rfl rfl) ?_; exact gI_n)
set_option maxRecDepth 20000 in
theorem gX1_about_X0_allSolids_n75 : GoodIn wsX1_about (wsX0_allSolids) := ggX1_about_X0_allSolids
theorem dX1_about_0 : decode cX1_about 0 = .ok (.iload_n 1, 1) := by decide +kernel
theorem dX1_about_1 : decode cX1_about 1 = .ok (.iconst 0, 1) := by decide +kernel
theorem dX1_about_2 : decode cX1_about 2 = .ok (.bipush 9, 2) := by decide +kernel
theorem dX1_about_4 : decode cX1_about 4 = .ok (.invokestatic 51, 3) := by decide +kernel
theorem dX1_about_7 : decode cX1_about 7 = .ok (.iload_n 1, 1) := by decide +kernel
theorem dX1_about_8 : decode cX1_about 8 = .ok (.tableswitch 96 0 9 #[56, 96, 96, 96, 96, 96, 64, 72, 80, 88], 56) := by decide +kernel
theorem dX1_about_64 : decode cX1_about 64 = .ok (.aload_n 0, 1) := by decide +kernel
theorem dX1_about_65 : decode cX1_about 65 = .ok (.getfield 24, 3) := by decide +kernel
theorem dX1_about_68 : decode cX1_about 68 = .ok (.getfield 94, 3) := by decide +kernel
theorem dX1_about_71 : decode cX1_about 71 = .ok (.ireturn, 1) := by decide +kernel
theorem dX1_about_72 : decode cX1_about 72 = .ok (.aload_n 0, 1) := by decide +kernel
theorem dX1_about_73 : decode cX1_about 73 = .ok (.getfield 24, 3) := by decide +kernel
theorem dX1_about_76 : decode cX1_about 76 = .ok (.getfield 97, 3) := by decide +kernel
theorem dX1_about_79 : decode cX1_about 79 = .ok (.ireturn, 1) := by decide +kernel
theorem dX1_about_80 : decode cX1_about 80 = .ok (.aload_n 0, 1) := by decide +kernel
theorem dX1_about_81 : decode cX1_about 81 = .ok (.getfield 24, 3) := by decide +kernel
theorem dX1_about_84 : decode cX1_about 84 = .ok (.invokevirtual 100, 3) := by decide +kernel
theorem dX1_about_87 : decode cX1_about 87 = .ok (.ireturn, 1) := by decide +kernel
theorem dX1_about_88 : decode cX1_about 88 = .ok (.aload_n 0, 1) := by decide +kernel
theorem dX1_about_89 : decode cX1_about 89 = .ok (.getfield 24, 3) := by decide +kernel
theorem dX1_about_92 : decode cX1_about 92 = .ok (.invokevirtual 72, 3) := by decide +kernel
theorem dX1_about_95 : decode cX1_about 95 = .ok (.ireturn, 1) := by decide +kernel
theorem dX1_about_96 : decode cX1_about 96 = .ok (.aload_n 0, 1) := by decide +kernel
theorem dX1_about_97 : decode cX1_about 97 = .ok (.getfield 24, 3) := by decide +kernel
theorem dX1_about_100 : decode cX1_about 100 = .ok (.invokevirtual 75, 3) := by decide +kernel
theorem dX1_about_103 : decode cX1_about 103 = .ok (.ireturn, 1) := by decide +kernel
theorem dX1_about_104 : decode cX1_about 104 = .ok (.aload_n 0, 1) := by decide +kernel
theorem dX1_about_105 : decode cX1_about 105 = .ok (.getfield 24, 3) := by decide +kernel
theorem dX1_about_108 : decode cX1_about 108 = .ok (.getfield 103, 3) := by decide +kernel
theorem dX1_about_111 : decode cX1_about 111 = .ok (.iload_n 1, 1) := by decide +kernel
theorem dX1_about_112 : decode cX1_about 112 = .ok (.iconst 1, 1) := by decide +kernel
theorem dX1_about_113 : decode cX1_about 113 = .ok (.isub, 1) := by decide +kernel
theorem dX1_about_114 : decode cX1_about 114 = .ok (.iaload, 1) := by decide +kernel
theorem dX1_about_115 : decode cX1_about 115 = .ok (.ireturn, 1) := by decide +kernel
set_option maxRecDepth 20000 in
theorem ggX1_total_X1_checkRange : GoodIn wsX1_total wsX1_checkRange := goodIn_ca ((by refine gI_c (gw 5 rfl rfl) ?_; refine gI_c (gw 6 rfl rfl) ?_; refine gI_c (gw 7 rfl rfl) ?_; exact gI_n)) (goodIn_sub (fun _ h => List.mem_cons_of_mem _ (List.mem_append_right _ h)) (by decide +kernel))
set_option maxRecDepth 20000 in
theorem gX1_total_X1_checkRange : GoodIn wsX1_total (va_wsS RX1 51 yX1_checkRange wsX1_checkRange) := goodIn_app (goodIn_of _ (by decide +kernel)) ggX1_total_X1_checkRange
theorem dX1_total_0 : decode cX1_total 0 = .ok (.iload_n 1, 1) := by decide +kernel
theorem dX1_total_1 : decode cX1_total 1 = .ok (.iconst 0, 1) := by decide +kernel
theorem dX1_total_2 : decode cX1_total 2 = .ok (.bipush 9, 2) := by decide +kernel
theorem dX1_total_4 : decode cX1_total 4 = .ok (.invokestatic 51, 3) := by decide +kernel
theorem dX1_total_7 : decode cX1_total 7 = .ok (.aload_n 0, 1) := by decide +kernel
theorem dX1_total_8 : decode cX1_total 8 = .ok (.getfield 24, 3) := by decide +kernel
theorem dX1_total_11 : decode cX1_total 11 = .ok (.getfield 106, 3) := by decide +kernel
theorem dX1_total_14 : decode cX1_total 14 = .ok (.iload_n 1, 1) := by decide +kernel
theorem dX1_total_15 : decode cX1_total 15 = .ok (.iaload, 1) := by decide +kernel
theorem dX1_total_16 : decode cX1_total 16 = .ok (.ireturn, 1) := by decide +kernel
set_option maxRecDepth 20000 in
theorem ggX1_effect_X1_checkEffect : GoodIn wsX1_effect wsX1_checkEffect := goodIn_ca ((by refine gI_c (gw 6 rfl rfl) ?_; refine gI_c (gw 7 rfl rfl) ?_; refine gI_c (gw 8 rfl rfl) ?_; refine gI_c (gw 1 rfl rfl) ?_; refine gI_c (gw 34 rfl rfl) ?_; refine gI_c (gw 35 rfl rfl) ?_; refine gI_c (gw 36 rfl rfl) ?_; refine gI_c (gw 37 rfl rfl) ?_; refine gI_c (gw 38 rfl rfl) ?_; refine gI_c (gw 39 rfl rfl) ?_; refine gI_c (gw 40 rfl rfl) ?_; refine gI_c (gw 41 rfl rfl) ?_; refine gI_c (gw 42 rfl rfl) ?_; refine gI_c (gw 43 rfl rfl) ?_; refine gI_c (gw 44 rfl rfl) ?_; refine gI_c (gw 45 rfl rfl) ?_; refine gI_c (gw 46 rfl rfl) ?_; refine gI_c (gw 47 rfl rfl) ?_; refine gI_c (gw 48 rfl rfl) ?_; refine gI_c (gw 49 rfl rfl) ?_; refine gI_c (gw 50 rfl rfl) ?_; refine gI_c (gw 51 rfl rfl) ?_; refine gI_c (gw 52 rfl rfl) ?_; refine gI_c (gw 53 rfl rfl) ?_; refine gI_c (gw 54 rfl rfl) ?_; refine gI_c (gw 55 rfl rfl) ?_; refine gI_c (gw 56 rfl rfl) ?_; exact gI_n)) (goodIn_sub (fun _ h => List.mem_cons_of_mem _ (List.mem_append_left _ (List.mem_append_right _ h))) (by decide +kernel))
set_option maxRecDepth 20000 in
theorem gX1_effect_X1_checkEffect : GoodIn wsX1_effect (wsV RX1 109 RX1 yX1_checkEffect wsX1_checkEffect) := goodIn_app (goodIn_of _ (by decide +kernel)) ggX1_effect_X1_checkEffect
set_option maxRecDepth 20000 in
theorem ggX1_effect_X1_checkRange : GoodIn wsX1_effect wsX1_checkRange := goodIn_ca ((by refine gI_c (gw 11 rfl rfl) ?_; refine gI_c (gw 12 rfl rfl) ?_; refine gI_c (gw 13 rfl rfl) ?_; exact gI_n)) (goodIn_sub (fun _ h => List.mem_cons_of_mem _ (List.mem_append_right _ h)) (by decide +kernel))
set_option maxRecDepth 20000 in
theorem gX1_effect_X1_checkRange : GoodIn wsX1_effect (va_wsS RX1 51 yX1_checkRange wsX1_checkRange) := goodIn_app (goodIn_of _ (by decide +kernel)) ggX1_effect_X1_checkRange
set_option maxRecDepth 20000 in
theorem ggX1_effect_X0_numberOf : GoodIn wsX1_effect wsX0_numberOf := (by refine gI_c (gw 17 rfl rfl) ?_; refine gI_c (gw 18 rfl rfl) ?_; refine gI_c (gw 19 rfl rfl) ?_; refine gI_c (gw 20 rfl rfl) ?_; refine gI_c (gw 21 rfl rfl) ?_; refine gI_c (gw 22 rfl rfl) ?_; refine gI_c (gw 23 rfl rfl) ?_; refine gI_c (gw 24 rfl rfl) ?_; refine gI_c (gw 25 rfl rfl) ?_; refine gI_c (gw 26 rfl rfl) ?_; refine gI_c (gw 27 rfl rfl) ?_; refine gI_c (gw 28 rfl rfl) ?_; refine gI_c (gw 15 rfl rfl) ?_; refine gI_c (gw 29 rfl rfl) ?_; refine gI_c (gw 30 rfl rfl) ?_; refine gI_c (gw 31 rfl rfl) ?_; refine gI_c (gw 32 rfl rfl) ?_; refine gI_c (gw 33 rfl rfl) ?_; refine gI_c (gw 45 rfl rfl) ?_; refine gI_c (gw 46 rfl rfl) ?_; refine gI_c (gw 47 rfl rfl) ?_; refine gI_c (gw 48 rfl rfl) ?_; refine gI_c (gw 49 rfl rfl) ?_; refine gI_c (gw 50 rfl rfl) ?_; refine gI_c (gw 51 rfl rfl) ?_; refine gI_c (gw 52 rfl rfl) ?_; refine gI_c (gw 53 rfl rfl) ?_; refine gI_c (gw 54 rfl rfl) ?_; refine gI_c (gw 55 rfl rfl) ?_; refine gI_c (gw 56 rfl rfl) ?_; exact gI_n)
set_option maxRecDepth 20000 in
theorem gX1_effect_X0_numberOf_n113 : GoodIn wsX1_effect (wsX0_numberOf) := ggX1_effect_X0_numberOf
theorem dX1_effect_0 : decode cX1_effect 0 = .ok (.aload_n 0, 1) := by decide +kernel
theorem dX1_effect_1 : decode cX1_effect 1 = .ok (.iload_n 1, 1) := by decide +kernel
theorem dX1_effect_2 : decode cX1_effect 2 = .ok (.invokevirtual 109, 3) := by decide +kernel
theorem dX1_effect_5 : decode cX1_effect 5 = .ok (.iload_n 2, 1) := by decide +kernel
theorem dX1_effect_6 : decode cX1_effect 6 = .ok (.iconst 0, 1) := by decide +kernel
theorem dX1_effect_7 : decode cX1_effect 7 = .ok (.bipush 9, 2) := by decide +kernel
theorem dX1_effect_9 : decode cX1_effect 9 = .ok (.invokestatic 51, 3) := by decide +kernel
theorem dX1_effect_12 : decode cX1_effect 12 = .ok (.aload_n 0, 1) := by decide +kernel
theorem dX1_effect_13 : decode cX1_effect 13 = .ok (.getfield 24, 3) := by decide +kernel
theorem dX1_effect_16 : decode cX1_effect 16 = .ok (.iload_n 1, 1) := by decide +kernel
theorem dX1_effect_17 : decode cX1_effect 17 = .ok (.iload_n 2, 1) := by decide +kernel
theorem dX1_effect_18 : decode cX1_effect 18 = .ok (.invokevirtual 113, 3) := by decide +kernel
theorem dX1_effect_21 : decode cX1_effect 21 = .ok (.ireturn, 1) := by decide +kernel
set_option maxRecDepth 20000 in
theorem ggX1_neighbor_X1_checkEffect : GoodIn wsX1_neighbor wsX1_checkEffect := goodIn_ca ((by refine gI_c (gw 6 rfl rfl) ?_; refine gI_c (gw 7 rfl rfl) ?_; refine gI_c (gw 8 rfl rfl) ?_; refine gI_c (gw 1 rfl rfl) ?_; refine gI_c (gw 18 rfl rfl) ?_; refine gI_c (gw 19 rfl rfl) ?_; refine gI_c (gw 20 rfl rfl) ?_; refine gI_c (gw 21 rfl rfl) ?_; refine gI_c (gw 22 rfl rfl) ?_; refine gI_c (gw 23 rfl rfl) ?_; refine gI_c (gw 24 rfl rfl) ?_; refine gI_c (gw 25 rfl rfl) ?_; refine gI_c (gw 26 rfl rfl) ?_; refine gI_c (gw 27 rfl rfl) ?_; refine gI_c (gw 28 rfl rfl) ?_; refine gI_c (gw 29 rfl rfl) ?_; refine gI_c (gw 30 rfl rfl) ?_; refine gI_c (gw 31 rfl rfl) ?_; refine gI_c (gw 32 rfl rfl) ?_; refine gI_c (gw 33 rfl rfl) ?_; refine gI_c (gw 34 rfl rfl) ?_; refine gI_c (gw 35 rfl rfl) ?_; refine gI_c (gw 36 rfl rfl) ?_; refine gI_c (gw 37 rfl rfl) ?_; refine gI_c (gw 38 rfl rfl) ?_; refine gI_c (gw 39 rfl rfl) ?_; refine gI_c (gw 40 rfl rfl) ?_; exact gI_n)) (goodIn_sub (fun _ h => List.mem_cons_of_mem _ (List.mem_append_right _ h)) (by decide +kernel))
set_option maxRecDepth 20000 in
theorem gX1_neighbor_X1_checkEffect : GoodIn wsX1_neighbor (wsV RX1 109 RX1 yX1_checkEffect wsX1_checkEffect) := goodIn_app (goodIn_of _ (by decide +kernel)) ggX1_neighbor_X1_checkEffect
set_option maxRecDepth 20000 in
theorem ggX1_neighbor_X0_effectBehind : GoodIn wsX1_neighbor wsX0_effectBehind := (by refine gI_c (gw 12 rfl rfl) ?_; refine gI_c (gw 13 rfl rfl) ?_; refine gI_c (gw 14 rfl rfl) ?_; refine gI_c (gw 29 rfl rfl) ?_; refine gI_c (gw 30 rfl rfl) ?_; refine gI_c (gw 31 rfl rfl) ?_; refine gI_c (gw 32 rfl rfl) ?_; refine gI_c (gw 33 rfl rfl) ?_; refine gI_c (gw 34 rfl rfl) ?_; refine gI_c (gw 35 rfl rfl) ?_; refine gI_c (gw 36 rfl rfl) ?_; refine gI_c (gw 37 rfl rfl) ?_; refine gI_c (gw 38 rfl rfl) ?_; refine gI_c (gw 39 rfl rfl) ?_; refine gI_c (gw 40 rfl rfl) ?_; exact gI_n)
set_option maxRecDepth 20000 in
theorem gX1_neighbor_X0_effectBehind_n116 : GoodIn wsX1_neighbor (wsX0_effectBehind) := ggX1_neighbor_X0_effectBehind
set_option maxRecDepth 20000 in
theorem ggX1_neighbor_X0_effectBefore : GoodIn wsX1_neighbor wsX0_effectBefore := (by refine gI_c (gw 17 rfl rfl) ?_; refine gI_c (gw 14 rfl rfl) ?_; refine gI_c (gw 29 rfl rfl) ?_; refine gI_c (gw 30 rfl rfl) ?_; refine gI_c (gw 31 rfl rfl) ?_; refine gI_c (gw 32 rfl rfl) ?_; refine gI_c (gw 33 rfl rfl) ?_; refine gI_c (gw 34 rfl rfl) ?_; refine gI_c (gw 35 rfl rfl) ?_; refine gI_c (gw 36 rfl rfl) ?_; refine gI_c (gw 37 rfl rfl) ?_; refine gI_c (gw 38 rfl rfl) ?_; refine gI_c (gw 39 rfl rfl) ?_; refine gI_c (gw 40 rfl rfl) ?_; exact gI_n)
set_option maxRecDepth 20000 in
theorem gX1_neighbor_X0_effectBefore_n120 : GoodIn wsX1_neighbor (wsX0_effectBefore) := ggX1_neighbor_X0_effectBefore
theorem dX1_neighbor_0 : decode cX1_neighbor 0 = .ok (.aload_n 0, 1) := by decide +kernel
theorem dX1_neighbor_1 : decode cX1_neighbor 1 = .ok (.iload_n 1, 1) := by decide +kernel
theorem dX1_neighbor_2 : decode cX1_neighbor 2 = .ok (.invokevirtual 109, 3) := by decide +kernel
theorem dX1_neighbor_5 : decode cX1_neighbor 5 = .ok (.iload_n 2, 1) := by decide +kernel
theorem dX1_neighbor_6 : decode cX1_neighbor 6 = .ok (.ifCond .eq 14, 3) := by decide +kernel
theorem dX1_neighbor_9 : decode cX1_neighbor 9 = .ok (.aload_n 0, 1) := by decide +kernel
theorem dX1_neighbor_10 : decode cX1_neighbor 10 = .ok (.getfield 24, 3) := by decide +kernel
theorem dX1_neighbor_13 : decode cX1_neighbor 13 = .ok (.iload_n 1, 1) := by decide +kernel
theorem dX1_neighbor_14 : decode cX1_neighbor 14 = .ok (.invokevirtual 116, 3) := by decide +kernel
theorem dX1_neighbor_17 : decode cX1_neighbor 17 = .ok (.goto 11, 3) := by decide +kernel
theorem dX1_neighbor_20 : decode cX1_neighbor 20 = .ok (.aload_n 0, 1) := by decide +kernel
theorem dX1_neighbor_21 : decode cX1_neighbor 21 = .ok (.getfield 24, 3) := by decide +kernel
theorem dX1_neighbor_24 : decode cX1_neighbor 24 = .ok (.iload_n 1, 1) := by decide +kernel
theorem dX1_neighbor_25 : decode cX1_neighbor 25 = .ok (.invokevirtual 120, 3) := by decide +kernel
theorem dX1_neighbor_28 : decode cX1_neighbor 28 = .ok (.ireturn, 1) := by decide +kernel
theorem dX1_economy_0 : decode cX1_economy 0 = .ok (.aload_n 0, 1) := by decide +kernel
theorem dX1_economy_1 : decode cX1_economy 1 = .ok (.getfield 24, 3) := by decide +kernel
theorem dX1_economy_4 : decode cX1_economy 4 = .ok (.getfield 106, 3) := by decide +kernel
theorem dX1_economy_7 : decode cX1_economy 7 = .ok (.iconst 0, 1) := by decide +kernel
theorem dX1_economy_8 : decode cX1_economy 8 = .ok (.iaload, 1) := by decide +kernel
theorem dX1_economy_9 : decode cX1_economy 9 = .ok (.istore_n 1, 1) := by decide +kernel
theorem dX1_economy_10 : decode cX1_economy 10 = .ok (.iload_n 1, 1) := by decide +kernel
theorem dX1_economy_11 : decode cX1_economy 11 = .ok (.ifCond .le 19, 3) := by decide +kernel
theorem dX1_economy_14 : decode cX1_economy 14 = .ok (.aload_n 0, 1) := by decide +kernel
theorem dX1_economy_15 : decode cX1_economy 15 = .ok (.getfield 24, 3) := by decide +kernel
theorem dX1_economy_18 : decode cX1_economy 18 = .ok (.getfield 106, 3) := by decide +kernel
theorem dX1_economy_21 : decode cX1_economy 21 = .ok (.iconst 1, 1) := by decide +kernel
theorem dX1_economy_22 : decode cX1_economy 22 = .ok (.iaload, 1) := by decide +kernel
theorem dX1_economy_23 : decode cX1_economy 23 = .ok (.i2f, 1) := by decide +kernel
theorem dX1_economy_24 : decode cX1_economy 24 = .ok (.iload_n 1, 1) := by decide +kernel
theorem dX1_economy_25 : decode cX1_economy 25 = .ok (.i2f, 1) := by decide +kernel
theorem dX1_economy_26 : decode cX1_economy 26 = .ok (.fdiv, 1) := by decide +kernel
theorem dX1_economy_27 : decode cX1_economy 27 = .ok (.goto 4, 3) := by decide +kernel
theorem dX1_economy_30 : decode cX1_economy 30 = .ok (.fconst 0, 1) := by decide +kernel
theorem dX1_economy_31 : decode cX1_economy 31 = .ok (.freturn, 1) := by decide +kernel
set_option maxRecDepth 20000 in
theorem ggX1_share_X1_checkEffect : GoodIn wsX1_share wsX1_checkEffect := goodIn_ca ((by refine gI_c (gw 6 rfl rfl) ?_; refine gI_c (gw 7 rfl rfl) ?_; refine gI_c (gw 8 rfl rfl) ?_; refine gI_c (gw 1 rfl rfl) ?_; refine gI_c (gw 15 rfl rfl) ?_; refine gI_c (gw 16 rfl rfl) ?_; refine gI_c (gw 17 rfl rfl) ?_; refine gI_c (gw 18 rfl rfl) ?_; refine gI_c (gw 19 rfl rfl) ?_; refine gI_c (gw 20 rfl rfl) ?_; refine gI_c (gw 21 rfl rfl) ?_; refine gI_c (gw 22 rfl rfl) ?_; refine gI_c (gw 23 rfl rfl) ?_; refine gI_c (gw 24 rfl rfl) ?_; refine gI_c (gw 25 rfl rfl) ?_; refine gI_c (gw 26 rfl rfl) ?_; refine gI_c (gw 27 rfl rfl) ?_; refine gI_c (gw 28 rfl rfl) ?_; refine gI_c (gw 29 rfl rfl) ?_; refine gI_c (gw 30 rfl rfl) ?_; refine gI_c (gw 31 rfl rfl) ?_; refine gI_c (gw 32 rfl rfl) ?_; refine gI_c (gw 33 rfl rfl) ?_; refine gI_c (gw 34 rfl rfl) ?_; refine gI_c (gw 35 rfl rfl) ?_; refine gI_c (gw 36 rfl rfl) ?_; refine gI_c (gw 37 rfl rfl) ?_; exact gI_n)) (goodIn_sub (fun _ h => List.mem_cons_of_mem _ (List.mem_append_right _ h)) (by decide +kernel))
set_option maxRecDepth 20000 in
theorem gX1_share_X1_checkEffect : GoodIn wsX1_share (wsV RX1 109 RX1 yX1_checkEffect wsX1_checkEffect) := goodIn_app (goodIn_of _ (by decide +kernel)) ggX1_share_X1_checkEffect
set_option maxRecDepth 20000 in
theorem ggX1_share_X0_amount : GoodIn wsX1_share wsX0_amount := (by refine gI_c (gw 12 rfl rfl) ?_; refine gI_c (gw 13 rfl rfl) ?_; refine gI_c (gw 14 rfl rfl) ?_; refine gI_c (gw 26 rfl rfl) ?_; refine gI_c (gw 27 rfl rfl) ?_; refine gI_c (gw 28 rfl rfl) ?_; refine gI_c (gw 29 rfl rfl) ?_; refine gI_c (gw 30 rfl rfl) ?_; refine gI_c (gw 31 rfl rfl) ?_; refine gI_c (gw 32 rfl rfl) ?_; refine gI_c (gw 33 rfl rfl) ?_; refine gI_c (gw 34 rfl rfl) ?_; refine gI_c (gw 35 rfl rfl) ?_; refine gI_c (gw 36 rfl rfl) ?_; refine gI_c (gw 37 rfl rfl) ?_; exact gI_n)
set_option maxRecDepth 20000 in
theorem gX1_share_X0_amount_n123 : GoodIn wsX1_share (wsX0_amount) := ggX1_share_X0_amount
theorem dX1_share_0 : decode cX1_share 0 = .ok (.aload_n 0, 1) := by decide +kernel
theorem dX1_share_1 : decode cX1_share 1 = .ok (.iload_n 1, 1) := by decide +kernel
theorem dX1_share_2 : decode cX1_share 2 = .ok (.invokevirtual 109, 3) := by decide +kernel
theorem dX1_share_5 : decode cX1_share 5 = .ok (.aload_n 0, 1) := by decide +kernel
theorem dX1_share_6 : decode cX1_share 6 = .ok (.getfield 24, 3) := by decide +kernel
theorem dX1_share_9 : decode cX1_share 9 = .ok (.iload_n 1, 1) := by decide +kernel
theorem dX1_share_10 : decode cX1_share 10 = .ok (.invokevirtual 123, 3) := by decide +kernel
theorem dX1_share_13 : decode cX1_share 13 = .ok (.istore_n 2, 1) := by decide +kernel
theorem dX1_share_14 : decode cX1_share 14 = .ok (.iload_n 2, 1) := by decide +kernel
theorem dX1_share_15 : decode cX1_share 15 = .ok (.ifCond .le 19, 3) := by decide +kernel
theorem dX1_share_18 : decode cX1_share 18 = .ok (.aload_n 0, 1) := by decide +kernel
theorem dX1_share_19 : decode cX1_share 19 = .ok (.getfield 24, 3) := by decide +kernel
theorem dX1_share_22 : decode cX1_share 22 = .ok (.getfield 126, 3) := by decide +kernel
theorem dX1_share_25 : decode cX1_share 25 = .ok (.iload_n 1, 1) := by decide +kernel
theorem dX1_share_26 : decode cX1_share 26 = .ok (.iaload, 1) := by decide +kernel
theorem dX1_share_27 : decode cX1_share 27 = .ok (.i2f, 1) := by decide +kernel
theorem dX1_share_28 : decode cX1_share 28 = .ok (.iload_n 2, 1) := by decide +kernel
theorem dX1_share_29 : decode cX1_share 29 = .ok (.i2f, 1) := by decide +kernel
theorem dX1_share_30 : decode cX1_share 30 = .ok (.fdiv, 1) := by decide +kernel
theorem dX1_share_31 : decode cX1_share 31 = .ok (.goto 4, 3) := by decide +kernel
theorem dX1_share_34 : decode cX1_share 34 = .ok (.fconst 0, 1) := by decide +kernel
theorem dX1_share_35 : decode cX1_share 35 = .ok (.freturn, 1) := by decide +kernel
set_option maxRecDepth 20000 in
theorem ggX1_tick_X1_checkRange : GoodIn wsX1_tick wsX1_checkRange := goodIn_ca ((by refine gI_c (gw 5 rfl rfl) ?_; refine gI_c (gw 6 rfl rfl) ?_; refine gI_c (gw 7 rfl rfl) ?_; exact gI_n)) (goodIn_sub (fun _ h => List.mem_cons_of_mem _ (List.mem_append_right _ h)) (by decide +kernel))
set_option maxRecDepth 20000 in
theorem gX1_tick_X1_checkRange : GoodIn wsX1_tick (va_wsS RX1 51 yX1_checkRange wsX1_checkRange) := goodIn_app (goodIn_of _ (by decide +kernel)) ggX1_tick_X1_checkRange
set_option maxRecDepth 20000 in
theorem ggX1_tick_X1_remember : GoodIn wsX1_tick wsX1_remember := (by refine gI_c (gw 11 rfl rfl) ?_; refine gI_c (gw 12 rfl rfl) ?_; refine gI_c (gw 13 rfl rfl) ?_; refine gI_c (gw 1 rfl rfl) ?_; refine gI_c (gw 14 rfl rfl) ?_; refine gI_c (gw 15 rfl rfl) ?_; refine gI_c (gw 16 rfl rfl) ?_; refine gI_c (gw 4 rfl rfl) ?_; refine gI_c (gw 17 rfl rfl) ?_; refine gI_c (gw 18 rfl rfl) ?_; refine gI_c (gw 19 rfl rfl) ?_; refine gI_c (gw 20 rfl rfl) ?_; refine gI_c (gw 21 rfl rfl) ?_; refine gI_c (gw 22 rfl rfl) ?_; refine gI_c (gw 23 rfl rfl) ?_; refine gI_c (gw 24 rfl rfl) ?_; refine gI_c (gw 25 rfl rfl) ?_; refine gI_c (gw 26 rfl rfl) ?_; refine gI_c (gw 27 rfl rfl) ?_; refine gI_c (gw 28 rfl rfl) ?_; refine gI_c (gw 29 rfl rfl) ?_; refine gI_c (gw 30 rfl rfl) ?_; refine gI_c (gw 31 rfl rfl) ?_; refine gI_c (gw 32 rfl rfl) ?_; refine gI_c (gw 33 rfl rfl) ?_; refine gI_c (gw 34 rfl rfl) ?_; refine gI_c (gw 35 rfl rfl) ?_; refine gI_c (gw 36 rfl rfl) ?_; refine gI_c (gw 37 rfl rfl) ?_; refine gI_c (gw 38 rfl rfl) ?_; refine gI_c (gw 39 rfl rfl) ?_; refine gI_c (gw 40 rfl rfl) ?_; refine gI_c (gw 41 rfl rfl) ?_; refine gI_c (gw 42 rfl rfl) ?_; refine gI_c (gw 43 rfl rfl) ?_; refine gI_c (gw 44 rfl rfl) ?_; refine gI_c (gw 45 rfl rfl) ?_; refine gI_c (gw 46 rfl rfl) ?_; refine gI_c (gw 47 rfl rfl) ?_; refine gI_c (gw 48 rfl rfl) ?_; refine gI_c (gw 49 rfl rfl) ?_; refine gI_c (gw 104 rfl rfl) ?_; refine gI_c (gw 105 rfl rfl) ?_; refine gI_c (gw 106 rfl rfl) ?_; refine gI_c (gw 107 rfl rfl) ?_; refine gI_c (gw 108 rfl rfl) ?_; refine gI_c (gw 109 rfl rfl) ?_; refine gI_c (gw 110 rfl rfl) ?_; refine gI_c (gw 111 rfl rfl) ?_; refine gI_c (gw 112 rfl rfl) ?_; refine gI_c (gw 113 rfl rfl) ?_; refine gI_c (gw 114 rfl rfl) ?_; refine gI_c (gw 115 rfl rfl) ?_; refine gI_c (gw 116 rfl rfl) ?_; refine gI_c (gw 117 rfl rfl) ?_; refine gI_c (gw 118 rfl rfl) ?_; refine gI_c (gw 119 rfl rfl) ?_; refine gI_c (gw 120 rfl rfl) ?_; refine gI_c (gw 121 rfl rfl) ?_; refine gI_c (gw 122 rfl rfl) ?_; refine gI_c (gw 123 rfl rfl) ?_; refine gI_c (gw 124 rfl rfl) ?_; refine gI_c (gw 125 rfl rfl) ?_; refine gI_c (gw 126 rfl rfl) ?_; exact gI_n)
set_option maxRecDepth 20000 in
theorem gX1_tick_X1_remember : GoodIn wsX1_tick (wsV RX1 129 RX1 yX1_remember wsX1_remember) := goodIn_app (goodIn_of _ (by decide +kernel)) ggX1_tick_X1_remember
set_option maxRecDepth 20000 in
theorem ggX1_tick_X0_pass : GoodIn wsX1_tick wsX0_pass := (by refine gI_c (gw 52 rfl rfl) ?_; refine gI_c (gw 30 rfl rfl) ?_; refine gI_c (gw 29 rfl rfl) ?_; refine gI_c (gw 53 rfl rfl) ?_; refine gI_c (gw 54 rfl rfl) ?_; refine gI_c (gw 55 rfl rfl) ?_; refine gI_c (gw 20 rfl rfl) ?_; refine gI_c (gw 56 rfl rfl) ?_; refine gI_c (gw 28 rfl rfl) ?_; refine gI_c (gw 26 rfl rfl) ?_; refine gI_c (gw 36 rfl rfl) ?_; refine gI_c (gw 38 rfl rfl) ?_; refine gI_c (gw 57 rfl rfl) ?_; refine gI_c (gw 58 rfl rfl) ?_; refine gI_c (gw 59 rfl rfl) ?_; refine gI_c (gw 60 rfl rfl) ?_; refine gI_c (gw 61 rfl rfl) ?_; refine gI_c (gw 62 rfl rfl) ?_; refine gI_c (gw 63 rfl rfl) ?_; refine gI_c (gw 64 rfl rfl) ?_; refine gI_c (gw 65 rfl rfl) ?_; refine gI_c (gw 66 rfl rfl) ?_; refine gI_c (gw 67 rfl rfl) ?_; refine gI_c (gw 68 rfl rfl) ?_; refine gI_c (gw 69 rfl rfl) ?_; refine gI_c (gw 70 rfl rfl) ?_; refine gI_c (gw 71 rfl rfl) ?_; refine gI_c (gw 72 rfl rfl) ?_; refine gI_c (gw 32 rfl rfl) ?_; refine gI_c (gw 35 rfl rfl) ?_; refine gI_c (gw 37 rfl rfl) ?_; refine gI_c (gw 73 rfl rfl) ?_; refine gI_c (gw 74 rfl rfl) ?_; refine gI_c (gw 75 rfl rfl) ?_; refine gI_c (gw 76 rfl rfl) ?_; refine gI_c (gw 33 rfl rfl) ?_; refine gI_c (gw 77 rfl rfl) ?_; refine gI_c (gw 78 rfl rfl) ?_; refine gI_c (gw 79 rfl rfl) ?_; refine gI_c (gw 80 rfl rfl) ?_; refine gI_c (gw 31 rfl rfl) ?_; refine gI_c (gw 81 rfl rfl) ?_; refine gI_c (gw 82 rfl rfl) ?_; refine gI_c (gw 83 rfl rfl) ?_; refine gI_c (gw 84 rfl rfl) ?_; refine gI_c (gw 85 rfl rfl) ?_; refine gI_c (gw 86 rfl rfl) ?_; refine gI_c (gw 87 rfl rfl) ?_; refine gI_c (gw 88 rfl rfl) ?_; refine gI_c (gw 89 rfl rfl) ?_; refine gI_c (gw 90 rfl rfl) ?_; refine gI_c (gw 91 rfl rfl) ?_; refine gI_c (gw 92 rfl rfl) ?_; refine gI_c (gw 93 rfl rfl) ?_; refine gI_c (gw 94 rfl rfl) ?_; refine gI_c (gw 95 rfl rfl) ?_; refine gI_c (gw 96 rfl rfl) ?_; refine gI_c (gw 34 rfl rfl) ?_; refine gI_c (gw 97 rfl rfl) ?_; refine gI_c (gw 98 rfl rfl) ?_; refine gI_c (gw 99 rfl rfl) ?_; refine gI_c (gw 100 rfl rfl) ?_; refine gI_c (gw 101 rfl rfl) ?_; refine gI_c (gw 102 rfl rfl) ?_; refine gI_c (gw 103 rfl rfl) ?_; refine gI_c (gw 115 rfl rfl) ?_; refine gI_c (gw 116 rfl rfl) ?_; refine gI_c (gw 117 rfl rfl) ?_; refine gI_c (gw 118 rfl rfl) ?_; refine gI_c (gw 119 rfl rfl) ?_; refine gI_c (gw 120 rfl rfl) ?_; refine gI_c (gw 121 rfl rfl) ?_; refine gI_c (gw 122 rfl rfl) ?_; refine gI_c (gw 123 rfl rfl) ?_; refine gI_c (gw 124 rfl rfl) ?_; refine gI_c (gw 125 rfl rfl) ?_; refine gI_c (gw 126 rfl rfl) ?_; exact gI_n)
set_option maxRecDepth 20000 in
theorem gX1_tick_X0_pass_n132 : GoodIn wsX1_tick (wsX0_pass) := ggX1_tick_X0_pass
theorem dX1_tick_0 : decode cX1_tick 0 = .ok (.iload_n 1, 1) := by decide +kernel
theorem dX1_tick_1 : decode cX1_tick 1 = .ok (.iconst 1, 1) := by decide +kernel
theorem dX1_tick_2 : decode cX1_tick 2 = .ok (.bipush 99, 2) := by decide +kernel
theorem dX1_tick_4 : decode cX1_tick 4 = .ok (.invokestatic 51, 3) := by decide +kernel
theorem dX1_tick_7 : decode cX1_tick 7 = .ok (.aload_n 0, 1) := by decide +kernel
theorem dX1_tick_8 : decode cX1_tick 8 = .ok (.invokevirtual 129, 3) := by decide +kernel
theorem dX1_tick_11 : decode cX1_tick 11 = .ok (.aload_n 0, 1) := by decide +kernel
theorem dX1_tick_12 : decode cX1_tick 12 = .ok (.getfield 24, 3) := by decide +kernel
theorem dX1_tick_15 : decode cX1_tick 15 = .ok (.iload_n 1, 1) := by decide +kernel
theorem dX1_tick_16 : decode cX1_tick 16 = .ok (.invokevirtual 132, 3) := by decide +kernel
theorem dX1_tick_19 : decode cX1_tick 19 = .ok (.ireturn, 1) := by decide +kernel
set_option maxRecDepth 20000 in
theorem ggX1_set_X1_checkRange : GoodIn wsX1_set wsX1_checkRange := goodIn_ca ((by refine gI_c (gw 7 rfl rfl) ?_; refine gI_c (gw 8 rfl rfl) ?_; refine gI_c (gw 9 rfl rfl) ?_; exact gI_n)) (goodIn_sub (fun _ h => List.mem_cons_of_mem _ (List.mem_append_right _ h)) (by decide +kernel))
set_option maxRecDepth 20000 in
theorem gX1_set_X1_checkRange : GoodIn wsX1_set (va_wsS RX1 51 yX1_checkRange wsX1_checkRange) := goodIn_app (goodIn_of _ (by decide +kernel)) ggX1_set_X1_checkRange
set_option maxRecDepth 20000 in
theorem ggX1_set_X1_remember : GoodIn wsX1_set wsX1_remember := (by refine gI_c (gw 13 rfl rfl) ?_; refine gI_c (gw 14 rfl rfl) ?_; refine gI_c (gw 15 rfl rfl) ?_; refine gI_c (gw 3 rfl rfl) ?_; refine gI_c (gw 16 rfl rfl) ?_; refine gI_c (gw 17 rfl rfl) ?_; refine gI_c (gw 18 rfl rfl) ?_; refine gI_c (gw 6 rfl rfl) ?_; refine gI_c (gw 19 rfl rfl) ?_; refine gI_c (gw 20 rfl rfl) ?_; refine gI_c (gw 21 rfl rfl) ?_; refine gI_c (gw 22 rfl rfl) ?_; refine gI_c (gw 23 rfl rfl) ?_; refine gI_c (gw 24 rfl rfl) ?_; refine gI_c (gw 25 rfl rfl) ?_; refine gI_c (gw 26 rfl rfl) ?_; refine gI_c (gw 27 rfl rfl) ?_; refine gI_c (gw 28 rfl rfl) ?_; refine gI_c (gw 29 rfl rfl) ?_; refine gI_c (gw 30 rfl rfl) ?_; refine gI_c (gw 31 rfl rfl) ?_; refine gI_c (gw 32 rfl rfl) ?_; refine gI_c (gw 33 rfl rfl) ?_; refine gI_c (gw 34 rfl rfl) ?_; refine gI_c (gw 35 rfl rfl) ?_; refine gI_c (gw 36 rfl rfl) ?_; refine gI_c (gw 37 rfl rfl) ?_; refine gI_c (gw 38 rfl rfl) ?_; refine gI_c (gw 39 rfl rfl) ?_; refine gI_c (gw 40 rfl rfl) ?_; refine gI_c (gw 41 rfl rfl) ?_; refine gI_c (gw 42 rfl rfl) ?_; refine gI_c (gw 43 rfl rfl) ?_; refine gI_c (gw 44 rfl rfl) ?_; refine gI_c (gw 45 rfl rfl) ?_; refine gI_c (gw 46 rfl rfl) ?_; refine gI_c (gw 47 rfl rfl) ?_; refine gI_c (gw 48 rfl rfl) ?_; refine gI_c (gw 49 rfl rfl) ?_; refine gI_c (gw 50 rfl rfl) ?_; refine gI_c (gw 51 rfl rfl) ?_; refine gI_c (gw 52 rfl rfl) ?_; refine gI_c (gw 53 rfl rfl) ?_; refine gI_c (gw 54 rfl rfl) ?_; refine gI_c (gw 55 rfl rfl) ?_; refine gI_c (gw 56 rfl rfl) ?_; refine gI_c (gw 57 rfl rfl) ?_; refine gI_c (gw 58 rfl rfl) ?_; refine gI_c (gw 59 rfl rfl) ?_; refine gI_c (gw 60 rfl rfl) ?_; refine gI_c (gw 61 rfl rfl) ?_; refine gI_c (gw 62 rfl rfl) ?_; refine gI_c (gw 63 rfl rfl) ?_; refine gI_c (gw 64 rfl rfl) ?_; refine gI_c (gw 65 rfl rfl) ?_; refine gI_c (gw 66 rfl rfl) ?_; refine gI_c (gw 67 rfl rfl) ?_; refine gI_c (gw 68 rfl rfl) ?_; refine gI_c (gw 69 rfl rfl) ?_; refine gI_c (gw 70 rfl rfl) ?_; refine gI_c (gw 71 rfl rfl) ?_; refine gI_c (gw 72 rfl rfl) ?_; refine gI_c (gw 73 rfl rfl) ?_; refine gI_c (gw 74 rfl rfl) ?_; exact gI_n)
set_option maxRecDepth 20000 in
theorem gX1_set_X1_remember : GoodIn wsX1_set (wsV RX1 129 RX1 yX1_remember wsX1_remember) := goodIn_app (goodIn_of _ (by decide +kernel)) ggX1_set_X1_remember
theorem dX1_set_0 : decode cX1_set 0 = .ok (.iload_n 1, 1) := by decide +kernel
theorem dX1_set_1 : decode cX1_set 1 = .ok (.iconst 0, 1) := by decide +kernel
theorem dX1_set_2 : decode cX1_set 2 = .ok (.iconst 4, 1) := by decide +kernel
theorem dX1_set_3 : decode cX1_set 3 = .ok (.invokestatic 51, 3) := by decide +kernel
theorem dX1_set_6 : decode cX1_set 6 = .ok (.iload_n 2, 1) := by decide +kernel
theorem dX1_set_7 : decode cX1_set 7 = .ok (.getstatic 91, 3) := by decide +kernel
theorem dX1_set_10 : decode cX1_set 10 = .ok (.iconst 1, 1) := by decide +kernel
theorem dX1_set_11 : decode cX1_set 11 = .ok (.iload_n 1, 1) := by decide +kernel
theorem dX1_set_12 : decode cX1_set 12 = .ok (.iadd, 1) := by decide +kernel
theorem dX1_set_13 : decode cX1_set 13 = .ok (.iaload, 1) := by decide +kernel
theorem dX1_set_14 : decode cX1_set 14 = .ok (.getstatic 88, 3) := by decide +kernel
theorem dX1_set_17 : decode cX1_set 17 = .ok (.iconst 1, 1) := by decide +kernel
theorem dX1_set_18 : decode cX1_set 18 = .ok (.iload_n 1, 1) := by decide +kernel
theorem dX1_set_19 : decode cX1_set 19 = .ok (.iadd, 1) := by decide +kernel
theorem dX1_set_20 : decode cX1_set 20 = .ok (.iaload, 1) := by decide +kernel
theorem dX1_set_21 : decode cX1_set 21 = .ok (.invokestatic 51, 3) := by decide +kernel
theorem dX1_set_24 : decode cX1_set 24 = .ok (.aload_n 0, 1) := by decide +kernel
theorem dX1_set_25 : decode cX1_set 25 = .ok (.invokevirtual 129, 3) := by decide +kernel
theorem dX1_set_28 : decode cX1_set 28 = .ok (.aload_n 0, 1) := by decide +kernel
theorem dX1_set_29 : decode cX1_set 29 = .ok (.getfield 24, 3) := by decide +kernel
theorem dX1_set_32 : decode cX1_set 32 = .ok (.getfield 103, 3) := by decide +kernel
theorem dX1_set_35 : decode cX1_set 35 = .ok (.iload_n 1, 1) := by decide +kernel
theorem dX1_set_36 : decode cX1_set 36 = .ok (.iaload, 1) := by decide +kernel
theorem dX1_set_37 : decode cX1_set 37 = .ok (.istore_n 3, 1) := by decide +kernel
theorem dX1_set_38 : decode cX1_set 38 = .ok (.aload_n 0, 1) := by decide +kernel
theorem dX1_set_39 : decode cX1_set 39 = .ok (.getfield 24, 3) := by decide +kernel
theorem dX1_set_42 : decode cX1_set 42 = .ok (.getfield 103, 3) := by decide +kernel
theorem dX1_set_45 : decode cX1_set 45 = .ok (.iload_n 1, 1) := by decide +kernel
theorem dX1_set_46 : decode cX1_set 46 = .ok (.iload_n 2, 1) := by decide +kernel
theorem dX1_set_47 : decode cX1_set 47 = .ok (.iastore, 1) := by decide +kernel
theorem dX1_set_48 : decode cX1_set 48 = .ok (.iload_n 3, 1) := by decide +kernel
theorem dX1_set_49 : decode cX1_set 49 = .ok (.ireturn, 1) := by decide +kernel
set_option maxRecDepth 20000 in
theorem ggX1_setValve_X1_checkEffect : GoodIn wsX1_setValve wsX1_checkEffect := goodIn_ca ((by refine gI_c (gw 6 rfl rfl) ?_; refine gI_c (gw 7 rfl rfl) ?_; refine gI_c (gw 8 rfl rfl) ?_; refine gI_c (gw 1 rfl rfl) ?_; refine gI_c (gw 56 rfl rfl) ?_; refine gI_c (gw 57 rfl rfl) ?_; refine gI_c (gw 58 rfl rfl) ?_; refine gI_c (gw 59 rfl rfl) ?_; refine gI_c (gw 60 rfl rfl) ?_; refine gI_c (gw 61 rfl rfl) ?_; refine gI_c (gw 62 rfl rfl) ?_; refine gI_c (gw 63 rfl rfl) ?_; refine gI_c (gw 64 rfl rfl) ?_; refine gI_c (gw 65 rfl rfl) ?_; refine gI_c (gw 66 rfl rfl) ?_; refine gI_c (gw 67 rfl rfl) ?_; refine gI_c (gw 68 rfl rfl) ?_; refine gI_c (gw 69 rfl rfl) ?_; refine gI_c (gw 70 rfl rfl) ?_; refine gI_c (gw 71 rfl rfl) ?_; refine gI_c (gw 72 rfl rfl) ?_; refine gI_c (gw 73 rfl rfl) ?_; refine gI_c (gw 74 rfl rfl) ?_; refine gI_c (gw 75 rfl rfl) ?_; refine gI_c (gw 76 rfl rfl) ?_; refine gI_c (gw 77 rfl rfl) ?_; refine gI_c (gw 78 rfl rfl) ?_; exact gI_n)) (goodIn_sub (fun _ h => List.mem_cons_of_mem _ (List.mem_append_left _ (List.mem_append_right _ h))) (by decide +kernel))
set_option maxRecDepth 20000 in
theorem gX1_setValve_X1_checkEffect : GoodIn wsX1_setValve (wsV RX1 109 RX1 yX1_checkEffect wsX1_checkEffect) := goodIn_app (goodIn_of _ (by decide +kernel)) ggX1_setValve_X1_checkEffect
set_option maxRecDepth 20000 in
theorem ggX1_setValve_X1_checkRange : GoodIn wsX1_setValve wsX1_checkRange := goodIn_ca ((by refine gI_c (gw 11 rfl rfl) ?_; refine gI_c (gw 12 rfl rfl) ?_; refine gI_c (gw 13 rfl rfl) ?_; exact gI_n)) (goodIn_sub (fun _ h => List.mem_cons_of_mem _ (List.mem_append_right _ h)) (by decide +kernel))
set_option maxRecDepth 20000 in
theorem gX1_setValve_X1_checkRange : GoodIn wsX1_setValve (va_wsS RX1 51 yX1_checkRange wsX1_checkRange) := goodIn_app (goodIn_of _ (by decide +kernel)) ggX1_setValve_X1_checkRange
set_option maxRecDepth 20000 in
theorem ggX1_setValve_X1_remember : GoodIn wsX1_setValve wsX1_remember := (by refine gI_c (gw 17 rfl rfl) ?_; refine gI_c (gw 18 rfl rfl) ?_; refine gI_c (gw 19 rfl rfl) ?_; refine gI_c (gw 1 rfl rfl) ?_; refine gI_c (gw 20 rfl rfl) ?_; refine gI_c (gw 21 rfl rfl) ?_; refine gI_c (gw 22 rfl rfl) ?_; refine gI_c (gw 5 rfl rfl) ?_; refine gI_c (gw 23 rfl rfl) ?_; refine gI_c (gw 24 rfl rfl) ?_; refine gI_c (gw 25 rfl rfl) ?_; refine gI_c (gw 26 rfl rfl) ?_; refine gI_c (gw 27 rfl rfl) ?_; refine gI_c (gw 28 rfl rfl) ?_; refine gI_c (gw 29 rfl rfl) ?_; refine gI_c (gw 30 rfl rfl) ?_; refine gI_c (gw 31 rfl rfl) ?_; refine gI_c (gw 32 rfl rfl) ?_; refine gI_c (gw 33 rfl rfl) ?_; refine gI_c (gw 34 rfl rfl) ?_; refine gI_c (gw 35 rfl rfl) ?_; refine gI_c (gw 36 rfl rfl) ?_; refine gI_c (gw 37 rfl rfl) ?_; refine gI_c (gw 38 rfl rfl) ?_; refine gI_c (gw 39 rfl rfl) ?_; refine gI_c (gw 40 rfl rfl) ?_; refine gI_c (gw 41 rfl rfl) ?_; refine gI_c (gw 42 rfl rfl) ?_; refine gI_c (gw 43 rfl rfl) ?_; refine gI_c (gw 44 rfl rfl) ?_; refine gI_c (gw 45 rfl rfl) ?_; refine gI_c (gw 46 rfl rfl) ?_; refine gI_c (gw 47 rfl rfl) ?_; refine gI_c (gw 48 rfl rfl) ?_; refine gI_c (gw 49 rfl rfl) ?_; refine gI_c (gw 50 rfl rfl) ?_; refine gI_c (gw 51 rfl rfl) ?_; refine gI_c (gw 52 rfl rfl) ?_; refine gI_c (gw 53 rfl rfl) ?_; refine gI_c (gw 54 rfl rfl) ?_; refine gI_c (gw 55 rfl rfl) ?_; refine gI_c (gw 56 rfl rfl) ?_; refine gI_c (gw 57 rfl rfl) ?_; refine gI_c (gw 58 rfl rfl) ?_; refine gI_c (gw 59 rfl rfl) ?_; refine gI_c (gw 60 rfl rfl) ?_; refine gI_c (gw 61 rfl rfl) ?_; refine gI_c (gw 62 rfl rfl) ?_; refine gI_c (gw 63 rfl rfl) ?_; refine gI_c (gw 64 rfl rfl) ?_; refine gI_c (gw 65 rfl rfl) ?_; refine gI_c (gw 66 rfl rfl) ?_; refine gI_c (gw 67 rfl rfl) ?_; refine gI_c (gw 68 rfl rfl) ?_; refine gI_c (gw 69 rfl rfl) ?_; refine gI_c (gw 70 rfl rfl) ?_; refine gI_c (gw 71 rfl rfl) ?_; refine gI_c (gw 72 rfl rfl) ?_; refine gI_c (gw 73 rfl rfl) ?_; refine gI_c (gw 74 rfl rfl) ?_; refine gI_c (gw 75 rfl rfl) ?_; refine gI_c (gw 76 rfl rfl) ?_; refine gI_c (gw 77 rfl rfl) ?_; refine gI_c (gw 78 rfl rfl) ?_; exact gI_n)
set_option maxRecDepth 20000 in
theorem gX1_setValve_X1_remember : GoodIn wsX1_setValve (wsV RX1 129 RX1 yX1_remember wsX1_remember) := goodIn_app (goodIn_of _ (by decide +kernel)) ggX1_setValve_X1_remember
theorem dX1_setValve_0 : decode cX1_setValve 0 = .ok (.aload_n 0, 1) := by decide +kernel
theorem dX1_setValve_1 : decode cX1_setValve 1 = .ok (.iload_n 1, 1) := by decide +kernel
theorem dX1_setValve_2 : decode cX1_setValve 2 = .ok (.invokevirtual 109, 3) := by decide +kernel
theorem dX1_setValve_5 : decode cX1_setValve 5 = .ok (.iload_n 2, 1) := by decide +kernel
theorem dX1_setValve_6 : decode cX1_setValve 6 = .ok (.iconst 0, 1) := by decide +kernel
theorem dX1_setValve_7 : decode cX1_setValve 7 = .ok (.sipush 999, 3) := by decide +kernel
theorem dX1_setValve_10 : decode cX1_setValve 10 = .ok (.invokestatic 51, 3) := by decide +kernel
theorem dX1_setValve_13 : decode cX1_setValve 13 = .ok (.aload_n 0, 1) := by decide +kernel
theorem dX1_setValve_14 : decode cX1_setValve 14 = .ok (.invokevirtual 129, 3) := by decide +kernel
theorem dX1_setValve_17 : decode cX1_setValve 17 = .ok (.aload_n 0, 1) := by decide +kernel
theorem dX1_setValve_18 : decode cX1_setValve 18 = .ok (.getfield 24, 3) := by decide +kernel
theorem dX1_setValve_21 : decode cX1_setValve 21 = .ok (.getfield 135, 3) := by decide +kernel
theorem dX1_setValve_24 : decode cX1_setValve 24 = .ok (.iload_n 1, 1) := by decide +kernel
theorem dX1_setValve_25 : decode cX1_setValve 25 = .ok (.iaload, 1) := by decide +kernel
theorem dX1_setValve_26 : decode cX1_setValve 26 = .ok (.istore_n 3, 1) := by decide +kernel
theorem dX1_setValve_27 : decode cX1_setValve 27 = .ok (.aload_n 0, 1) := by decide +kernel
theorem dX1_setValve_28 : decode cX1_setValve 28 = .ok (.getfield 24, 3) := by decide +kernel
theorem dX1_setValve_31 : decode cX1_setValve 31 = .ok (.getfield 135, 3) := by decide +kernel
theorem dX1_setValve_34 : decode cX1_setValve 34 = .ok (.iload_n 1, 1) := by decide +kernel
theorem dX1_setValve_35 : decode cX1_setValve 35 = .ok (.iload_n 2, 1) := by decide +kernel
theorem dX1_setValve_36 : decode cX1_setValve 36 = .ok (.iastore, 1) := by decide +kernel
theorem dX1_setValve_37 : decode cX1_setValve 37 = .ok (.iload_n 3, 1) := by decide +kernel
theorem dX1_setValve_38 : decode cX1_setValve 38 = .ok (.ireturn, 1) := by decide +kernel
set_option maxRecDepth 20000 in
theorem ggX1_setBleed_X1_checkEffect : GoodIn wsX1_setBleed wsX1_checkEffect := goodIn_ca ((by refine gI_c (gw 6 rfl rfl) ?_; refine gI_c (gw 7 rfl rfl) ?_; refine gI_c (gw 8 rfl rfl) ?_; refine gI_c (gw 1 rfl rfl) ?_; refine gI_c (gw 56 rfl rfl) ?_; refine gI_c (gw 57 rfl rfl) ?_; refine gI_c (gw 58 rfl rfl) ?_; refine gI_c (gw 59 rfl rfl) ?_; refine gI_c (gw 60 rfl rfl) ?_; refine gI_c (gw 61 rfl rfl) ?_; refine gI_c (gw 62 rfl rfl) ?_; refine gI_c (gw 63 rfl rfl) ?_; refine gI_c (gw 64 rfl rfl) ?_; refine gI_c (gw 65 rfl rfl) ?_; refine gI_c (gw 66 rfl rfl) ?_; refine gI_c (gw 67 rfl rfl) ?_; refine gI_c (gw 68 rfl rfl) ?_; refine gI_c (gw 69 rfl rfl) ?_; refine gI_c (gw 70 rfl rfl) ?_; refine gI_c (gw 71 rfl rfl) ?_; refine gI_c (gw 72 rfl rfl) ?_; refine gI_c (gw 73 rfl rfl) ?_; refine gI_c (gw 74 rfl rfl) ?_; refine gI_c (gw 75 rfl rfl) ?_; refine gI_c (gw 76 rfl rfl) ?_; refine gI_c (gw 77 rfl rfl) ?_; refine gI_c (gw 78 rfl rfl) ?_; exact gI_n)) (goodIn_sub (fun _ h => List.mem_cons_of_mem _ (List.mem_append_left _ (List.mem_append_right _ h))) (by decide +kernel))
set_option maxRecDepth 20000 in
theorem gX1_setBleed_X1_checkEffect : GoodIn wsX1_setBleed (wsV RX1 109 RX1 yX1_checkEffect wsX1_checkEffect) := goodIn_app (goodIn_of _ (by decide +kernel)) ggX1_setBleed_X1_checkEffect
set_option maxRecDepth 20000 in
theorem ggX1_setBleed_X1_checkRange : GoodIn wsX1_setBleed wsX1_checkRange := goodIn_ca ((by refine gI_c (gw 11 rfl rfl) ?_; refine gI_c (gw 12 rfl rfl) ?_; refine gI_c (gw 13 rfl rfl) ?_; exact gI_n)) (goodIn_sub (fun _ h => List.mem_cons_of_mem _ (List.mem_append_right _ h)) (by decide +kernel))
set_option maxRecDepth 20000 in
theorem gX1_setBleed_X1_checkRange : GoodIn wsX1_setBleed (va_wsS RX1 51 yX1_checkRange wsX1_checkRange) := goodIn_app (goodIn_of _ (by decide +kernel)) ggX1_setBleed_X1_checkRange
set_option maxRecDepth 20000 in
theorem ggX1_setBleed_X1_remember : GoodIn wsX1_setBleed wsX1_remember := (by refine gI_c (gw 17 rfl rfl) ?_; refine gI_c (gw 18 rfl rfl) ?_; refine gI_c (gw 19 rfl rfl) ?_; refine gI_c (gw 1 rfl rfl) ?_; refine gI_c (gw 20 rfl rfl) ?_; refine gI_c (gw 21 rfl rfl) ?_; refine gI_c (gw 22 rfl rfl) ?_; refine gI_c (gw 5 rfl rfl) ?_; refine gI_c (gw 23 rfl rfl) ?_; refine gI_c (gw 24 rfl rfl) ?_; refine gI_c (gw 25 rfl rfl) ?_; refine gI_c (gw 26 rfl rfl) ?_; refine gI_c (gw 27 rfl rfl) ?_; refine gI_c (gw 28 rfl rfl) ?_; refine gI_c (gw 29 rfl rfl) ?_; refine gI_c (gw 30 rfl rfl) ?_; refine gI_c (gw 31 rfl rfl) ?_; refine gI_c (gw 32 rfl rfl) ?_; refine gI_c (gw 33 rfl rfl) ?_; refine gI_c (gw 34 rfl rfl) ?_; refine gI_c (gw 35 rfl rfl) ?_; refine gI_c (gw 36 rfl rfl) ?_; refine gI_c (gw 37 rfl rfl) ?_; refine gI_c (gw 38 rfl rfl) ?_; refine gI_c (gw 39 rfl rfl) ?_; refine gI_c (gw 40 rfl rfl) ?_; refine gI_c (gw 41 rfl rfl) ?_; refine gI_c (gw 42 rfl rfl) ?_; refine gI_c (gw 43 rfl rfl) ?_; refine gI_c (gw 44 rfl rfl) ?_; refine gI_c (gw 45 rfl rfl) ?_; refine gI_c (gw 46 rfl rfl) ?_; refine gI_c (gw 47 rfl rfl) ?_; refine gI_c (gw 48 rfl rfl) ?_; refine gI_c (gw 49 rfl rfl) ?_; refine gI_c (gw 50 rfl rfl) ?_; refine gI_c (gw 51 rfl rfl) ?_; refine gI_c (gw 52 rfl rfl) ?_; refine gI_c (gw 53 rfl rfl) ?_; refine gI_c (gw 54 rfl rfl) ?_; refine gI_c (gw 55 rfl rfl) ?_; refine gI_c (gw 56 rfl rfl) ?_; refine gI_c (gw 57 rfl rfl) ?_; refine gI_c (gw 58 rfl rfl) ?_; refine gI_c (gw 59 rfl rfl) ?_; refine gI_c (gw 60 rfl rfl) ?_; refine gI_c (gw 61 rfl rfl) ?_; refine gI_c (gw 62 rfl rfl) ?_; refine gI_c (gw 63 rfl rfl) ?_; refine gI_c (gw 64 rfl rfl) ?_; refine gI_c (gw 65 rfl rfl) ?_; refine gI_c (gw 66 rfl rfl) ?_; refine gI_c (gw 67 rfl rfl) ?_; refine gI_c (gw 68 rfl rfl) ?_; refine gI_c (gw 69 rfl rfl) ?_; refine gI_c (gw 70 rfl rfl) ?_; refine gI_c (gw 71 rfl rfl) ?_; refine gI_c (gw 72 rfl rfl) ?_; refine gI_c (gw 73 rfl rfl) ?_; refine gI_c (gw 74 rfl rfl) ?_; refine gI_c (gw 75 rfl rfl) ?_; refine gI_c (gw 76 rfl rfl) ?_; refine gI_c (gw 77 rfl rfl) ?_; refine gI_c (gw 78 rfl rfl) ?_; exact gI_n)
set_option maxRecDepth 20000 in
theorem gX1_setBleed_X1_remember : GoodIn wsX1_setBleed (wsV RX1 129 RX1 yX1_remember wsX1_remember) := goodIn_app (goodIn_of _ (by decide +kernel)) ggX1_setBleed_X1_remember
theorem dX1_setBleed_0 : decode cX1_setBleed 0 = .ok (.aload_n 0, 1) := by decide +kernel
theorem dX1_setBleed_1 : decode cX1_setBleed 1 = .ok (.iload_n 1, 1) := by decide +kernel
theorem dX1_setBleed_2 : decode cX1_setBleed 2 = .ok (.invokevirtual 109, 3) := by decide +kernel
theorem dX1_setBleed_5 : decode cX1_setBleed 5 = .ok (.iload_n 2, 1) := by decide +kernel
theorem dX1_setBleed_6 : decode cX1_setBleed 6 = .ok (.iconst 0, 1) := by decide +kernel
theorem dX1_setBleed_7 : decode cX1_setBleed 7 = .ok (.bipush 90, 2) := by decide +kernel
theorem dX1_setBleed_9 : decode cX1_setBleed 9 = .ok (.invokestatic 51, 3) := by decide +kernel
theorem dX1_setBleed_12 : decode cX1_setBleed 12 = .ok (.aload_n 0, 1) := by decide +kernel
theorem dX1_setBleed_13 : decode cX1_setBleed 13 = .ok (.invokevirtual 129, 3) := by decide +kernel
theorem dX1_setBleed_16 : decode cX1_setBleed 16 = .ok (.aload_n 0, 1) := by decide +kernel
theorem dX1_setBleed_17 : decode cX1_setBleed 17 = .ok (.getfield 24, 3) := by decide +kernel
theorem dX1_setBleed_20 : decode cX1_setBleed 20 = .ok (.getfield 138, 3) := by decide +kernel
theorem dX1_setBleed_23 : decode cX1_setBleed 23 = .ok (.iload_n 1, 1) := by decide +kernel
theorem dX1_setBleed_24 : decode cX1_setBleed 24 = .ok (.iaload, 1) := by decide +kernel
theorem dX1_setBleed_25 : decode cX1_setBleed 25 = .ok (.istore_n 3, 1) := by decide +kernel
theorem dX1_setBleed_26 : decode cX1_setBleed 26 = .ok (.aload_n 0, 1) := by decide +kernel
theorem dX1_setBleed_27 : decode cX1_setBleed 27 = .ok (.getfield 24, 3) := by decide +kernel
theorem dX1_setBleed_30 : decode cX1_setBleed 30 = .ok (.getfield 138, 3) := by decide +kernel
theorem dX1_setBleed_33 : decode cX1_setBleed 33 = .ok (.iload_n 1, 1) := by decide +kernel
theorem dX1_setBleed_34 : decode cX1_setBleed 34 = .ok (.iload_n 2, 1) := by decide +kernel
theorem dX1_setBleed_35 : decode cX1_setBleed 35 = .ok (.iastore, 1) := by decide +kernel
theorem dX1_setBleed_36 : decode cX1_setBleed 36 = .ok (.iload_n 3, 1) := by decide +kernel
theorem dX1_setBleed_37 : decode cX1_setBleed 37 = .ok (.ireturn, 1) := by decide +kernel
set_option maxRecDepth 20000 in
theorem ggX1_wash_X1_checkEffect : GoodIn wsX1_wash wsX1_checkEffect := goodIn_ca ((by refine gI_c (gw 6 rfl rfl) ?_; refine gI_c (gw 7 rfl rfl) ?_; refine gI_c (gw 8 rfl rfl) ?_; refine gI_c (gw 1 rfl rfl) ?_; refine gI_c (gw 65 rfl rfl) ?_; refine gI_c (gw 66 rfl rfl) ?_; refine gI_c (gw 67 rfl rfl) ?_; refine gI_c (gw 68 rfl rfl) ?_; refine gI_c (gw 69 rfl rfl) ?_; refine gI_c (gw 70 rfl rfl) ?_; refine gI_c (gw 71 rfl rfl) ?_; refine gI_c (gw 72 rfl rfl) ?_; refine gI_c (gw 73 rfl rfl) ?_; refine gI_c (gw 74 rfl rfl) ?_; refine gI_c (gw 75 rfl rfl) ?_; refine gI_c (gw 76 rfl rfl) ?_; refine gI_c (gw 77 rfl rfl) ?_; refine gI_c (gw 78 rfl rfl) ?_; refine gI_c (gw 79 rfl rfl) ?_; refine gI_c (gw 80 rfl rfl) ?_; refine gI_c (gw 81 rfl rfl) ?_; refine gI_c (gw 82 rfl rfl) ?_; refine gI_c (gw 83 rfl rfl) ?_; refine gI_c (gw 84 rfl rfl) ?_; refine gI_c (gw 85 rfl rfl) ?_; refine gI_c (gw 86 rfl rfl) ?_; refine gI_c (gw 87 rfl rfl) ?_; exact gI_n)) (goodIn_sub (fun _ h => List.mem_cons_of_mem _ (List.mem_append_left _ (List.mem_append_left _ (List.mem_append_right _ h)))) (by decide +kernel))
set_option maxRecDepth 20000 in
theorem gX1_wash_X1_checkEffect : GoodIn wsX1_wash (wsV RX1 109 RX1 yX1_checkEffect wsX1_checkEffect) := goodIn_app (goodIn_of _ (by decide +kernel)) ggX1_wash_X1_checkEffect
set_option maxRecDepth 20000 in
theorem ggX1_wash_X1_checkRange : GoodIn wsX1_wash wsX1_checkRange := goodIn_ca ((by refine gI_c (gw 11 rfl rfl) ?_; refine gI_c (gw 12 rfl rfl) ?_; refine gI_c (gw 13 rfl rfl) ?_; exact gI_n)) (goodIn_sub (fun _ h => List.mem_cons_of_mem _ (List.mem_append_left _ (List.mem_append_right _ h))) (by decide +kernel))
set_option maxRecDepth 20000 in
theorem gX1_wash_X1_checkRange : GoodIn wsX1_wash (va_wsS RX1 51 yX1_checkRange wsX1_checkRange) := goodIn_app (goodIn_of _ (by decide +kernel)) ggX1_wash_X1_checkRange
set_option maxRecDepth 20000 in
theorem ggX1_wash_X1_checkWorks : GoodIn wsX1_wash wsX1_checkWorks := goodIn_ca ((by refine gI_c (gw 17 rfl rfl) ?_; refine gI_c (gw 18 rfl rfl) ?_; refine gI_c (gw 19 rfl rfl) ?_; refine gI_c (gw 1 rfl rfl) ?_; refine gI_c (gw 65 rfl rfl) ?_; refine gI_c (gw 66 rfl rfl) ?_; refine gI_c (gw 67 rfl rfl) ?_; refine gI_c (gw 68 rfl rfl) ?_; refine gI_c (gw 69 rfl rfl) ?_; refine gI_c (gw 70 rfl rfl) ?_; refine gI_c (gw 71 rfl rfl) ?_; refine gI_c (gw 72 rfl rfl) ?_; refine gI_c (gw 73 rfl rfl) ?_; refine gI_c (gw 74 rfl rfl) ?_; refine gI_c (gw 75 rfl rfl) ?_; refine gI_c (gw 76 rfl rfl) ?_; refine gI_c (gw 77 rfl rfl) ?_; refine gI_c (gw 78 rfl rfl) ?_; refine gI_c (gw 79 rfl rfl) ?_; refine gI_c (gw 80 rfl rfl) ?_; refine gI_c (gw 81 rfl rfl) ?_; refine gI_c (gw 82 rfl rfl) ?_; refine gI_c (gw 83 rfl rfl) ?_; refine gI_c (gw 84 rfl rfl) ?_; refine gI_c (gw 85 rfl rfl) ?_; refine gI_c (gw 86 rfl rfl) ?_; refine gI_c (gw 87 rfl rfl) ?_; exact gI_n)) (goodIn_sub (fun _ h => List.mem_cons_of_mem _ (List.mem_append_right _ h)) (by decide +kernel))
set_option maxRecDepth 20000 in
theorem gX1_wash_X1_checkWorks : GoodIn wsX1_wash (wsV RX1 141 RX1 yX1_checkWorks wsX1_checkWorks) := goodIn_app (goodIn_of _ (by decide +kernel)) ggX1_wash_X1_checkWorks
set_option maxRecDepth 20000 in
theorem ggX1_wash_X1_remember : GoodIn wsX1_wash wsX1_remember := (by refine gI_c (gw 23 rfl rfl) ?_; refine gI_c (gw 24 rfl rfl) ?_; refine gI_c (gw 25 rfl rfl) ?_; refine gI_c (gw 1 rfl rfl) ?_; refine gI_c (gw 26 rfl rfl) ?_; refine gI_c (gw 27 rfl rfl) ?_; refine gI_c (gw 28 rfl rfl) ?_; refine gI_c (gw 5 rfl rfl) ?_; refine gI_c (gw 29 rfl rfl) ?_; refine gI_c (gw 30 rfl rfl) ?_; refine gI_c (gw 31 rfl rfl) ?_; refine gI_c (gw 32 rfl rfl) ?_; refine gI_c (gw 33 rfl rfl) ?_; refine gI_c (gw 34 rfl rfl) ?_; refine gI_c (gw 35 rfl rfl) ?_; refine gI_c (gw 36 rfl rfl) ?_; refine gI_c (gw 37 rfl rfl) ?_; refine gI_c (gw 38 rfl rfl) ?_; refine gI_c (gw 39 rfl rfl) ?_; refine gI_c (gw 40 rfl rfl) ?_; refine gI_c (gw 41 rfl rfl) ?_; refine gI_c (gw 42 rfl rfl) ?_; refine gI_c (gw 43 rfl rfl) ?_; refine gI_c (gw 44 rfl rfl) ?_; refine gI_c (gw 45 rfl rfl) ?_; refine gI_c (gw 46 rfl rfl) ?_; refine gI_c (gw 47 rfl rfl) ?_; refine gI_c (gw 48 rfl rfl) ?_; refine gI_c (gw 49 rfl rfl) ?_; refine gI_c (gw 50 rfl rfl) ?_; refine gI_c (gw 51 rfl rfl) ?_; refine gI_c (gw 52 rfl rfl) ?_; refine gI_c (gw 53 rfl rfl) ?_; refine gI_c (gw 54 rfl rfl) ?_; refine gI_c (gw 55 rfl rfl) ?_; refine gI_c (gw 56 rfl rfl) ?_; refine gI_c (gw 57 rfl rfl) ?_; refine gI_c (gw 58 rfl rfl) ?_; refine gI_c (gw 59 rfl rfl) ?_; refine gI_c (gw 60 rfl rfl) ?_; refine gI_c (gw 61 rfl rfl) ?_; refine gI_c (gw 65 rfl rfl) ?_; refine gI_c (gw 66 rfl rfl) ?_; refine gI_c (gw 67 rfl rfl) ?_; refine gI_c (gw 68 rfl rfl) ?_; refine gI_c (gw 69 rfl rfl) ?_; refine gI_c (gw 70 rfl rfl) ?_; refine gI_c (gw 71 rfl rfl) ?_; refine gI_c (gw 72 rfl rfl) ?_; refine gI_c (gw 73 rfl rfl) ?_; refine gI_c (gw 74 rfl rfl) ?_; refine gI_c (gw 75 rfl rfl) ?_; refine gI_c (gw 76 rfl rfl) ?_; refine gI_c (gw 77 rfl rfl) ?_; refine gI_c (gw 78 rfl rfl) ?_; refine gI_c (gw 79 rfl rfl) ?_; refine gI_c (gw 80 rfl rfl) ?_; refine gI_c (gw 81 rfl rfl) ?_; refine gI_c (gw 82 rfl rfl) ?_; refine gI_c (gw 83 rfl rfl) ?_; refine gI_c (gw 84 rfl rfl) ?_; refine gI_c (gw 85 rfl rfl) ?_; refine gI_c (gw 86 rfl rfl) ?_; refine gI_c (gw 87 rfl rfl) ?_; exact gI_n)
set_option maxRecDepth 20000 in
theorem gX1_wash_X1_remember : GoodIn wsX1_wash (wsV RX1 129 RX1 yX1_remember wsX1_remember) := goodIn_app (goodIn_of _ (by decide +kernel)) ggX1_wash_X1_remember
set_option maxRecDepth 20000 in
theorem ggX1_wash_X0_washedEffects : GoodIn wsX1_wash wsX0_washedEffects := (by refine gI_c (gw 64 rfl rfl) ?_; refine gI_c (gw 38 rfl rfl) ?_; refine gI_c (gw 50 rfl rfl) ?_; refine gI_c (gw 76 rfl rfl) ?_; refine gI_c (gw 77 rfl rfl) ?_; refine gI_c (gw 78 rfl rfl) ?_; refine gI_c (gw 79 rfl rfl) ?_; refine gI_c (gw 80 rfl rfl) ?_; refine gI_c (gw 81 rfl rfl) ?_; refine gI_c (gw 82 rfl rfl) ?_; refine gI_c (gw 83 rfl rfl) ?_; refine gI_c (gw 84 rfl rfl) ?_; refine gI_c (gw 85 rfl rfl) ?_; refine gI_c (gw 86 rfl rfl) ?_; refine gI_c (gw 87 rfl rfl) ?_; exact gI_n)
set_option maxRecDepth 20000 in
theorem gX1_wash_X0_washedEffects_n100 : GoodIn wsX1_wash (wsX0_washedEffects) := ggX1_wash_X0_washedEffects
theorem dX1_wash_0 : decode cX1_wash 0 = .ok (.aload_n 0, 1) := by decide +kernel
theorem dX1_wash_1 : decode cX1_wash 1 = .ok (.iload_n 1, 1) := by decide +kernel
theorem dX1_wash_2 : decode cX1_wash 2 = .ok (.invokevirtual 109, 3) := by decide +kernel
theorem dX1_wash_5 : decode cX1_wash 5 = .ok (.iload_n 2, 1) := by decide +kernel
theorem dX1_wash_6 : decode cX1_wash 6 = .ok (.iconst 1, 1) := by decide +kernel
theorem dX1_wash_7 : decode cX1_wash 7 = .ok (.bipush 20, 2) := by decide +kernel
theorem dX1_wash_9 : decode cX1_wash 9 = .ok (.invokestatic 51, 3) := by decide +kernel
theorem dX1_wash_12 : decode cX1_wash 12 = .ok (.aload_n 0, 1) := by decide +kernel
theorem dX1_wash_13 : decode cX1_wash 13 = .ok (.iload_n 1, 1) := by decide +kernel
theorem dX1_wash_14 : decode cX1_wash 14 = .ok (.invokevirtual 141, 3) := by decide +kernel
theorem dX1_wash_17 : decode cX1_wash 17 = .ok (.aload_n 0, 1) := by decide +kernel
theorem dX1_wash_18 : decode cX1_wash 18 = .ok (.invokevirtual 129, 3) := by decide +kernel
theorem dX1_wash_21 : decode cX1_wash 21 = .ok (.aload_n 0, 1) := by decide +kernel
theorem dX1_wash_22 : decode cX1_wash 22 = .ok (.getfield 24, 3) := by decide +kernel
theorem dX1_wash_25 : decode cX1_wash 25 = .ok (.getfield 144, 3) := by decide +kernel
theorem dX1_wash_28 : decode cX1_wash 28 = .ok (.iload_n 1, 1) := by decide +kernel
theorem dX1_wash_29 : decode cX1_wash 29 = .ok (.iload_n 2, 1) := by decide +kernel
theorem dX1_wash_30 : decode cX1_wash 30 = .ok (.iastore, 1) := by decide +kernel
theorem dX1_wash_31 : decode cX1_wash 31 = .ok (.aload_n 0, 1) := by decide +kernel
theorem dX1_wash_32 : decode cX1_wash 32 = .ok (.getfield 24, 3) := by decide +kernel
theorem dX1_wash_35 : decode cX1_wash 35 = .ok (.invokevirtual 100, 3) := by decide +kernel
theorem dX1_wash_38 : decode cX1_wash 38 = .ok (.ireturn, 1) := by decide +kernel
set_option maxRecDepth 20000 in
theorem ggX1_endWash_X1_checkEffect : GoodIn wsX1_endWash wsX1_checkEffect := goodIn_ca ((by refine gI_c (gw 8 rfl rfl) ?_; refine gI_c (gw 9 rfl rfl) ?_; refine gI_c (gw 10 rfl rfl) ?_; refine gI_c (gw 3 rfl rfl) ?_; refine gI_c (gw 53 rfl rfl) ?_; refine gI_c (gw 54 rfl rfl) ?_; refine gI_c (gw 55 rfl rfl) ?_; refine gI_c (gw 56 rfl rfl) ?_; refine gI_c (gw 57 rfl rfl) ?_; refine gI_c (gw 58 rfl rfl) ?_; refine gI_c (gw 59 rfl rfl) ?_; refine gI_c (gw 60 rfl rfl) ?_; refine gI_c (gw 61 rfl rfl) ?_; refine gI_c (gw 62 rfl rfl) ?_; refine gI_c (gw 63 rfl rfl) ?_; refine gI_c (gw 64 rfl rfl) ?_; refine gI_c (gw 65 rfl rfl) ?_; refine gI_c (gw 66 rfl rfl) ?_; refine gI_c (gw 67 rfl rfl) ?_; refine gI_c (gw 68 rfl rfl) ?_; refine gI_c (gw 69 rfl rfl) ?_; refine gI_c (gw 70 rfl rfl) ?_; refine gI_c (gw 71 rfl rfl) ?_; refine gI_c (gw 72 rfl rfl) ?_; refine gI_c (gw 73 rfl rfl) ?_; refine gI_c (gw 74 rfl rfl) ?_; refine gI_c (gw 75 rfl rfl) ?_; exact gI_n)) (goodIn_sub (fun _ h => List.mem_cons_of_mem _ (List.mem_append_right _ h)) (by decide +kernel))
set_option maxRecDepth 20000 in
theorem gX1_endWash_X1_checkEffect : GoodIn wsX1_endWash (wsV RX1 109 RX1 yX1_checkEffect wsX1_checkEffect) := goodIn_app (goodIn_of _ (by decide +kernel)) ggX1_endWash_X1_checkEffect
set_option maxRecDepth 20000 in
theorem ggX1_endWash_X1_remember : GoodIn wsX1_endWash wsX1_remember := (by refine gI_c (gw 14 rfl rfl) ?_; refine gI_c (gw 15 rfl rfl) ?_; refine gI_c (gw 16 rfl rfl) ?_; refine gI_c (gw 3 rfl rfl) ?_; refine gI_c (gw 17 rfl rfl) ?_; refine gI_c (gw 18 rfl rfl) ?_; refine gI_c (gw 19 rfl rfl) ?_; refine gI_c (gw 7 rfl rfl) ?_; refine gI_c (gw 20 rfl rfl) ?_; refine gI_c (gw 21 rfl rfl) ?_; refine gI_c (gw 22 rfl rfl) ?_; refine gI_c (gw 23 rfl rfl) ?_; refine gI_c (gw 24 rfl rfl) ?_; refine gI_c (gw 25 rfl rfl) ?_; refine gI_c (gw 26 rfl rfl) ?_; refine gI_c (gw 27 rfl rfl) ?_; refine gI_c (gw 28 rfl rfl) ?_; refine gI_c (gw 29 rfl rfl) ?_; refine gI_c (gw 30 rfl rfl) ?_; refine gI_c (gw 31 rfl rfl) ?_; refine gI_c (gw 32 rfl rfl) ?_; refine gI_c (gw 33 rfl rfl) ?_; refine gI_c (gw 34 rfl rfl) ?_; refine gI_c (gw 35 rfl rfl) ?_; refine gI_c (gw 36 rfl rfl) ?_; refine gI_c (gw 37 rfl rfl) ?_; refine gI_c (gw 38 rfl rfl) ?_; refine gI_c (gw 39 rfl rfl) ?_; refine gI_c (gw 40 rfl rfl) ?_; refine gI_c (gw 41 rfl rfl) ?_; refine gI_c (gw 42 rfl rfl) ?_; refine gI_c (gw 43 rfl rfl) ?_; refine gI_c (gw 44 rfl rfl) ?_; refine gI_c (gw 45 rfl rfl) ?_; refine gI_c (gw 46 rfl rfl) ?_; refine gI_c (gw 47 rfl rfl) ?_; refine gI_c (gw 48 rfl rfl) ?_; refine gI_c (gw 49 rfl rfl) ?_; refine gI_c (gw 50 rfl rfl) ?_; refine gI_c (gw 51 rfl rfl) ?_; refine gI_c (gw 52 rfl rfl) ?_; refine gI_c (gw 53 rfl rfl) ?_; refine gI_c (gw 54 rfl rfl) ?_; refine gI_c (gw 55 rfl rfl) ?_; refine gI_c (gw 56 rfl rfl) ?_; refine gI_c (gw 57 rfl rfl) ?_; refine gI_c (gw 58 rfl rfl) ?_; refine gI_c (gw 59 rfl rfl) ?_; refine gI_c (gw 60 rfl rfl) ?_; refine gI_c (gw 61 rfl rfl) ?_; refine gI_c (gw 62 rfl rfl) ?_; refine gI_c (gw 63 rfl rfl) ?_; refine gI_c (gw 64 rfl rfl) ?_; refine gI_c (gw 65 rfl rfl) ?_; refine gI_c (gw 66 rfl rfl) ?_; refine gI_c (gw 67 rfl rfl) ?_; refine gI_c (gw 68 rfl rfl) ?_; refine gI_c (gw 69 rfl rfl) ?_; refine gI_c (gw 70 rfl rfl) ?_; refine gI_c (gw 71 rfl rfl) ?_; refine gI_c (gw 72 rfl rfl) ?_; refine gI_c (gw 73 rfl rfl) ?_; refine gI_c (gw 74 rfl rfl) ?_; refine gI_c (gw 75 rfl rfl) ?_; exact gI_n)
set_option maxRecDepth 20000 in
theorem gX1_endWash_X1_remember : GoodIn wsX1_endWash (wsV RX1 129 RX1 yX1_remember wsX1_remember) := goodIn_app (goodIn_of _ (by decide +kernel)) ggX1_endWash_X1_remember
theorem dX1_endWash_0 : decode cX1_endWash 0 = .ok (.aload_n 0, 1) := by decide +kernel
theorem dX1_endWash_1 : decode cX1_endWash 1 = .ok (.iload_n 1, 1) := by decide +kernel
theorem dX1_endWash_2 : decode cX1_endWash 2 = .ok (.invokevirtual 109, 3) := by decide +kernel
theorem dX1_endWash_5 : decode cX1_endWash 5 = .ok (.aload_n 0, 1) := by decide +kernel
theorem dX1_endWash_6 : decode cX1_endWash 6 = .ok (.getfield 24, 3) := by decide +kernel
theorem dX1_endWash_9 : decode cX1_endWash 9 = .ok (.getfield 144, 3) := by decide +kernel
theorem dX1_endWash_12 : decode cX1_endWash 12 = .ok (.iload_n 1, 1) := by decide +kernel
theorem dX1_endWash_13 : decode cX1_endWash 13 = .ok (.iaload, 1) := by decide +kernel
theorem dX1_endWash_14 : decode cX1_endWash 14 = .ok (.istore_n 2, 1) := by decide +kernel
theorem dX1_endWash_15 : decode cX1_endWash 15 = .ok (.iload_n 2, 1) := by decide +kernel
theorem dX1_endWash_16 : decode cX1_endWash 16 = .ok (.ifCond .ne 13, 3) := by decide +kernel
theorem dX1_endWash_19 : decode cX1_endWash 19 = .ok (.new 55, 3) := by decide +kernel
theorem dX1_endWash_22 : decode cX1_endWash 22 = .ok (.dup, 1) := by decide +kernel
theorem dX1_endWash_23 : decode cX1_endWash 23 = .ok (.ldc 147, 2) := by decide +kernel
theorem dX1_endWash_25 : decode cX1_endWash 25 = .ok (.invokespecial 59, 3) := by decide +kernel
theorem dX1_endWash_28 : decode cX1_endWash 28 = .ok (.athrow, 1) := by decide +kernel
theorem dX1_endWash_29 : decode cX1_endWash 29 = .ok (.aload_n 0, 1) := by decide +kernel
theorem dX1_endWash_30 : decode cX1_endWash 30 = .ok (.invokevirtual 129, 3) := by decide +kernel
theorem dX1_endWash_33 : decode cX1_endWash 33 = .ok (.aload_n 0, 1) := by decide +kernel
theorem dX1_endWash_34 : decode cX1_endWash 34 = .ok (.getfield 24, 3) := by decide +kernel
theorem dX1_endWash_37 : decode cX1_endWash 37 = .ok (.getfield 144, 3) := by decide +kernel
theorem dX1_endWash_40 : decode cX1_endWash 40 = .ok (.iload_n 1, 1) := by decide +kernel
theorem dX1_endWash_41 : decode cX1_endWash 41 = .ok (.iconst 0, 1) := by decide +kernel
theorem dX1_endWash_42 : decode cX1_endWash 42 = .ok (.iastore, 1) := by decide +kernel
theorem dX1_endWash_43 : decode cX1_endWash 43 = .ok (.iload_n 2, 1) := by decide +kernel
theorem dX1_endWash_44 : decode cX1_endWash 44 = .ok (.ireturn, 1) := by decide +kernel
set_option maxRecDepth 20000 in
theorem ggX1_undo_X1_stateAt : GoodIn wsX1_undo wsX1_stateAt := (by refine gI_c (gw 10 rfl rfl) ?_; refine gI_c (gw 11 rfl rfl) ?_; refine gI_c (gw 12 rfl rfl) ?_; refine gI_c (gw 13 rfl rfl) ?_; refine gI_c (gw 14 rfl rfl) ?_; refine gI_c (gw 15 rfl rfl) ?_; refine gI_c (gw 16 rfl rfl) ?_; refine gI_c (gw 17 rfl rfl) ?_; refine gI_c (gw 18 rfl rfl) ?_; refine gI_c (gw 19 rfl rfl) ?_; refine gI_c (gw 20 rfl rfl) ?_; refine gI_c (gw 21 rfl rfl) ?_; refine gI_c (gw 22 rfl rfl) ?_; refine gI_c (gw 23 rfl rfl) ?_; refine gI_c (gw 24 rfl rfl) ?_; refine gI_c (gw 25 rfl rfl) ?_; refine gI_c (gw 26 rfl rfl) ?_; refine gI_c (gw 27 rfl rfl) ?_; refine gI_c (gw 28 rfl rfl) ?_; refine gI_c (gw 29 rfl rfl) ?_; refine gI_c (gw 30 rfl rfl) ?_; refine gI_c (gw 31 rfl rfl) ?_; refine gI_c (gw 32 rfl rfl) ?_; refine gI_c (gw 33 rfl rfl) ?_; refine gI_c (gw 34 rfl rfl) ?_; refine gI_c (gw 35 rfl rfl) ?_; refine gI_c (gw 54 rfl rfl) ?_; refine gI_c (gw 55 rfl rfl) ?_; refine gI_c (gw 56 rfl rfl) ?_; refine gI_c (gw 57 rfl rfl) ?_; refine gI_c (gw 58 rfl rfl) ?_; refine gI_c (gw 59 rfl rfl) ?_; refine gI_c (gw 60 rfl rfl) ?_; refine gI_c (gw 61 rfl rfl) ?_; refine gI_c (gw 62 rfl rfl) ?_; refine gI_c (gw 63 rfl rfl) ?_; refine gI_c (gw 64 rfl rfl) ?_; refine gI_c (gw 65 rfl rfl) ?_; exact gI_n)
set_option maxRecDepth 20000 in
theorem gX1_undo_X1_stateAt : GoodIn wsX1_undo (va_wsS RX1 151 yX1_stateAt wsX1_stateAt) := goodIn_app (goodIn_of _ (by decide +kernel)) ggX1_undo_X1_stateAt
set_option maxRecDepth 20000 in
theorem ggX1_undo_X0_copyFrom : GoodIn wsX1_undo wsX0_copyFrom := (by refine gI_c (gw 38 rfl rfl) ?_; refine gI_c (gw 19 rfl rfl) ?_; refine gI_c (gw 22 rfl rfl) ?_; refine gI_c (gw 21 rfl rfl) ?_; refine gI_c (gw 39 rfl rfl) ?_; refine gI_c (gw 40 rfl rfl) ?_; refine gI_c (gw 41 rfl rfl) ?_; refine gI_c (gw 42 rfl rfl) ?_; refine gI_c (gw 23 rfl rfl) ?_; refine gI_c (gw 24 rfl rfl) ?_; refine gI_c (gw 25 rfl rfl) ?_; refine gI_c (gw 26 rfl rfl) ?_; refine gI_c (gw 27 rfl rfl) ?_; refine gI_c (gw 28 rfl rfl) ?_; refine gI_c (gw 29 rfl rfl) ?_; refine gI_c (gw 30 rfl rfl) ?_; refine gI_c (gw 31 rfl rfl) ?_; refine gI_c (gw 54 rfl rfl) ?_; refine gI_c (gw 55 rfl rfl) ?_; refine gI_c (gw 56 rfl rfl) ?_; refine gI_c (gw 57 rfl rfl) ?_; refine gI_c (gw 58 rfl rfl) ?_; refine gI_c (gw 59 rfl rfl) ?_; refine gI_c (gw 60 rfl rfl) ?_; refine gI_c (gw 61 rfl rfl) ?_; refine gI_c (gw 62 rfl rfl) ?_; refine gI_c (gw 63 rfl rfl) ?_; refine gI_c (gw 64 rfl rfl) ?_; refine gI_c (gw 65 rfl rfl) ?_; exact gI_n)
set_option maxRecDepth 20000 in
theorem gX1_undo_X0_copyFrom_n155 : GoodIn wsX1_undo (wsX0_copyFrom) := ggX1_undo_X0_copyFrom
theorem dX1_undo_0 : decode cX1_undo 0 = .ok (.aload_n 0, 1) := by decide +kernel
theorem dX1_undo_1 : decode cX1_undo 1 = .ok (.getfield 41, 3) := by decide +kernel
theorem dX1_undo_4 : decode cX1_undo 4 = .ok (.ifCond .ne 13, 3) := by decide +kernel
theorem dX1_undo_7 : decode cX1_undo 7 = .ok (.new 55, 3) := by decide +kernel
theorem dX1_undo_10 : decode cX1_undo 10 = .ok (.dup, 1) := by decide +kernel
theorem dX1_undo_11 : decode cX1_undo 11 = .ok (.ldc 149, 2) := by decide +kernel
theorem dX1_undo_13 : decode cX1_undo 13 = .ok (.invokespecial 59, 3) := by decide +kernel
theorem dX1_undo_16 : decode cX1_undo 16 = .ok (.athrow, 1) := by decide +kernel
theorem dX1_undo_17 : decode cX1_undo 17 = .ok (.aload_n 0, 1) := by decide +kernel
theorem dX1_undo_18 : decode cX1_undo 18 = .ok (.getfield 24, 3) := by decide +kernel
theorem dX1_undo_21 : decode cX1_undo 21 = .ok (.aload_n 0, 1) := by decide +kernel
theorem dX1_undo_22 : decode cX1_undo 22 = .ok (.getfield 35, 3) := by decide +kernel
theorem dX1_undo_25 : decode cX1_undo 25 = .ok (.aload_n 0, 1) := by decide +kernel
theorem dX1_undo_26 : decode cX1_undo 26 = .ok (.getfield 38, 3) := by decide +kernel
theorem dX1_undo_29 : decode cX1_undo 29 = .ok (.invokestatic 151, 3) := by decide +kernel
theorem dX1_undo_32 : decode cX1_undo 32 = .ok (.invokevirtual 155, 3) := by decide +kernel
theorem dX1_undo_35 : decode cX1_undo 35 = .ok (.aload_n 0, 1) := by decide +kernel
theorem dX1_undo_36 : decode cX1_undo 36 = .ok (.aload_n 0, 1) := by decide +kernel
theorem dX1_undo_37 : decode cX1_undo 37 = .ok (.getfield 38, 3) := by decide +kernel
theorem dX1_undo_40 : decode cX1_undo 40 = .ok (.ifCond .le 12, 3) := by decide +kernel
theorem dX1_undo_43 : decode cX1_undo 43 = .ok (.aload_n 0, 1) := by decide +kernel
theorem dX1_undo_44 : decode cX1_undo 44 = .ok (.getfield 38, 3) := by decide +kernel
theorem dX1_undo_47 : decode cX1_undo 47 = .ok (.iconst 1, 1) := by decide +kernel
theorem dX1_undo_48 : decode cX1_undo 48 = .ok (.isub, 1) := by decide +kernel
theorem dX1_undo_49 : decode cX1_undo 49 = .ok (.goto 5, 3) := by decide +kernel
theorem dX1_undo_52 : decode cX1_undo 52 = .ok (.bipush 13, 2) := by decide +kernel
theorem dX1_undo_54 : decode cX1_undo 54 = .ok (.putfield 38, 3) := by decide +kernel
theorem dX1_undo_57 : decode cX1_undo 57 = .ok (.aload_n 0, 1) := by decide +kernel
theorem dX1_undo_58 : decode cX1_undo 58 = .ok (.dup, 1) := by decide +kernel
theorem dX1_undo_59 : decode cX1_undo 59 = .ok (.getfield 41, 3) := by decide +kernel
theorem dX1_undo_62 : decode cX1_undo 62 = .ok (.iconst 1, 1) := by decide +kernel
theorem dX1_undo_63 : decode cX1_undo 63 = .ok (.isub, 1) := by decide +kernel
theorem dX1_undo_64 : decode cX1_undo 64 = .ok (.putfield 41, 3) := by decide +kernel
theorem dX1_undo_67 : decode cX1_undo 67 = .ok (.aload_n 0, 1) := by decide +kernel
theorem dX1_undo_68 : decode cX1_undo 68 = .ok (.getfield 41, 3) := by decide +kernel
theorem dX1_undo_71 : decode cX1_undo 71 = .ok (.ireturn, 1) := by decide +kernel
set_option maxRecDepth 20000 in
theorem ggX1_remember_X1_stateAt : GoodIn wsX1_remember wsX1_stateAt := (by refine gI_c (gw 8 rfl rfl) ?_; refine gI_c (gw 9 rfl rfl) ?_; refine gI_c (gw 10 rfl rfl) ?_; refine gI_c (gw 11 rfl rfl) ?_; refine gI_c (gw 12 rfl rfl) ?_; refine gI_c (gw 13 rfl rfl) ?_; refine gI_c (gw 14 rfl rfl) ?_; refine gI_c (gw 15 rfl rfl) ?_; refine gI_c (gw 16 rfl rfl) ?_; refine gI_c (gw 17 rfl rfl) ?_; refine gI_c (gw 18 rfl rfl) ?_; refine gI_c (gw 19 rfl rfl) ?_; refine gI_c (gw 20 rfl rfl) ?_; refine gI_c (gw 21 rfl rfl) ?_; refine gI_c (gw 22 rfl rfl) ?_; refine gI_c (gw 23 rfl rfl) ?_; refine gI_c (gw 24 rfl rfl) ?_; refine gI_c (gw 25 rfl rfl) ?_; refine gI_c (gw 26 rfl rfl) ?_; refine gI_c (gw 27 rfl rfl) ?_; refine gI_c (gw 28 rfl rfl) ?_; refine gI_c (gw 29 rfl rfl) ?_; refine gI_c (gw 30 rfl rfl) ?_; refine gI_c (gw 31 rfl rfl) ?_; refine gI_c (gw 32 rfl rfl) ?_; refine gI_c (gw 33 rfl rfl) ?_; refine gI_c (gw 52 rfl rfl) ?_; refine gI_c (gw 53 rfl rfl) ?_; refine gI_c (gw 54 rfl rfl) ?_; refine gI_c (gw 55 rfl rfl) ?_; refine gI_c (gw 56 rfl rfl) ?_; refine gI_c (gw 57 rfl rfl) ?_; refine gI_c (gw 58 rfl rfl) ?_; refine gI_c (gw 59 rfl rfl) ?_; refine gI_c (gw 60 rfl rfl) ?_; refine gI_c (gw 61 rfl rfl) ?_; refine gI_c (gw 62 rfl rfl) ?_; refine gI_c (gw 63 rfl rfl) ?_; exact gI_n)
set_option maxRecDepth 20000 in
theorem gX1_remember_X1_stateAt : GoodIn wsX1_remember (va_wsS RX1 151 yX1_stateAt wsX1_stateAt) := goodIn_app (goodIn_of _ (by decide +kernel)) ggX1_remember_X1_stateAt
set_option maxRecDepth 20000 in
theorem ggX1_remember_X0_copyFrom : GoodIn wsX1_remember wsX0_copyFrom := (by refine gI_c (gw 36 rfl rfl) ?_; refine gI_c (gw 17 rfl rfl) ?_; refine gI_c (gw 20 rfl rfl) ?_; refine gI_c (gw 19 rfl rfl) ?_; refine gI_c (gw 37 rfl rfl) ?_; refine gI_c (gw 38 rfl rfl) ?_; refine gI_c (gw 39 rfl rfl) ?_; refine gI_c (gw 40 rfl rfl) ?_; refine gI_c (gw 21 rfl rfl) ?_; refine gI_c (gw 22 rfl rfl) ?_; refine gI_c (gw 23 rfl rfl) ?_; refine gI_c (gw 24 rfl rfl) ?_; refine gI_c (gw 25 rfl rfl) ?_; refine gI_c (gw 26 rfl rfl) ?_; refine gI_c (gw 27 rfl rfl) ?_; refine gI_c (gw 28 rfl rfl) ?_; refine gI_c (gw 29 rfl rfl) ?_; refine gI_c (gw 52 rfl rfl) ?_; refine gI_c (gw 53 rfl rfl) ?_; refine gI_c (gw 54 rfl rfl) ?_; refine gI_c (gw 55 rfl rfl) ?_; refine gI_c (gw 56 rfl rfl) ?_; refine gI_c (gw 57 rfl rfl) ?_; refine gI_c (gw 58 rfl rfl) ?_; refine gI_c (gw 59 rfl rfl) ?_; refine gI_c (gw 60 rfl rfl) ?_; refine gI_c (gw 61 rfl rfl) ?_; refine gI_c (gw 62 rfl rfl) ?_; refine gI_c (gw 63 rfl rfl) ?_; exact gI_n)
set_option maxRecDepth 20000 in
theorem gX1_remember_X0_copyFrom_n155 : GoodIn wsX1_remember (wsX0_copyFrom) := ggX1_remember_X0_copyFrom
theorem dX1_remember_0 : decode cX1_remember 0 = .ok (.aload_n 0, 1) := by decide +kernel
theorem dX1_remember_1 : decode cX1_remember 1 = .ok (.aload_n 0, 1) := by decide +kernel
theorem dX1_remember_2 : decode cX1_remember 2 = .ok (.getfield 38, 3) := by decide +kernel
theorem dX1_remember_5 : decode cX1_remember 5 = .ok (.iconst 1, 1) := by decide +kernel
theorem dX1_remember_6 : decode cX1_remember 6 = .ok (.iadd, 1) := by decide +kernel
theorem dX1_remember_7 : decode cX1_remember 7 = .ok (.bipush 14, 2) := by decide +kernel
theorem dX1_remember_9 : decode cX1_remember 9 = .ok (.if_icmp .ge 12, 3) := by decide +kernel
theorem dX1_remember_12 : decode cX1_remember 12 = .ok (.aload_n 0, 1) := by decide +kernel
theorem dX1_remember_13 : decode cX1_remember 13 = .ok (.getfield 38, 3) := by decide +kernel
theorem dX1_remember_16 : decode cX1_remember 16 = .ok (.iconst 1, 1) := by decide +kernel
theorem dX1_remember_17 : decode cX1_remember 17 = .ok (.iadd, 1) := by decide +kernel
theorem dX1_remember_18 : decode cX1_remember 18 = .ok (.goto 4, 3) := by decide +kernel
theorem dX1_remember_21 : decode cX1_remember 21 = .ok (.iconst 0, 1) := by decide +kernel
theorem dX1_remember_22 : decode cX1_remember 22 = .ok (.putfield 38, 3) := by decide +kernel
theorem dX1_remember_25 : decode cX1_remember 25 = .ok (.aload_n 0, 1) := by decide +kernel
theorem dX1_remember_26 : decode cX1_remember 26 = .ok (.getfield 35, 3) := by decide +kernel
theorem dX1_remember_29 : decode cX1_remember 29 = .ok (.aload_n 0, 1) := by decide +kernel
theorem dX1_remember_30 : decode cX1_remember 30 = .ok (.getfield 38, 3) := by decide +kernel
theorem dX1_remember_33 : decode cX1_remember 33 = .ok (.invokestatic 151, 3) := by decide +kernel
theorem dX1_remember_36 : decode cX1_remember 36 = .ok (.aload_n 0, 1) := by decide +kernel
theorem dX1_remember_37 : decode cX1_remember 37 = .ok (.getfield 24, 3) := by decide +kernel
theorem dX1_remember_40 : decode cX1_remember 40 = .ok (.invokevirtual 155, 3) := by decide +kernel
theorem dX1_remember_43 : decode cX1_remember 43 = .ok (.aload_n 0, 1) := by decide +kernel
theorem dX1_remember_44 : decode cX1_remember 44 = .ok (.getfield 41, 3) := by decide +kernel
theorem dX1_remember_47 : decode cX1_remember 47 = .ok (.bipush 14, 2) := by decide +kernel
theorem dX1_remember_49 : decode cX1_remember 49 = .ok (.if_icmp .ge 13, 3) := by decide +kernel
theorem dX1_remember_52 : decode cX1_remember 52 = .ok (.aload_n 0, 1) := by decide +kernel
theorem dX1_remember_53 : decode cX1_remember 53 = .ok (.dup, 1) := by decide +kernel
theorem dX1_remember_54 : decode cX1_remember 54 = .ok (.getfield 41, 3) := by decide +kernel
theorem dX1_remember_57 : decode cX1_remember 57 = .ok (.iconst 1, 1) := by decide +kernel
theorem dX1_remember_58 : decode cX1_remember 58 = .ok (.iadd, 1) := by decide +kernel
theorem dX1_remember_59 : decode cX1_remember 59 = .ok (.putfield 41, 3) := by decide +kernel
theorem dX1_remember_62 : decode cX1_remember 62 = .ok (.return_, 1) := by decide +kernel
set_option maxRecDepth 20000 in
theorem ggX1_ahead_X1_checkEffect : GoodIn wsX1_ahead wsX1_checkEffect := goodIn_ca ((by refine gI_c (gw 7 rfl rfl) ?_; refine gI_c (gw 8 rfl rfl) ?_; refine gI_c (gw 9 rfl rfl) ?_; refine gI_c (gw 2 rfl rfl) ?_; refine gI_c (gw 92 rfl rfl) ?_; refine gI_c (gw 93 rfl rfl) ?_; refine gI_c (gw 94 rfl rfl) ?_; refine gI_c (gw 95 rfl rfl) ?_; refine gI_c (gw 96 rfl rfl) ?_; refine gI_c (gw 97 rfl rfl) ?_; refine gI_c (gw 98 rfl rfl) ?_; refine gI_c (gw 99 rfl rfl) ?_; refine gI_c (gw 100 rfl rfl) ?_; refine gI_c (gw 101 rfl rfl) ?_; refine gI_c (gw 102 rfl rfl) ?_; refine gI_c (gw 103 rfl rfl) ?_; refine gI_c (gw 104 rfl rfl) ?_; refine gI_c (gw 105 rfl rfl) ?_; refine gI_c (gw 106 rfl rfl) ?_; refine gI_c (gw 107 rfl rfl) ?_; refine gI_c (gw 108 rfl rfl) ?_; refine gI_c (gw 109 rfl rfl) ?_; refine gI_c (gw 110 rfl rfl) ?_; refine gI_c (gw 111 rfl rfl) ?_; refine gI_c (gw 112 rfl rfl) ?_; refine gI_c (gw 113 rfl rfl) ?_; refine gI_c (gw 114 rfl rfl) ?_; exact gI_n)) (goodIn_sub (fun _ h => List.mem_cons_of_mem _ (List.mem_append_left _ (List.mem_append_right _ h))) (by decide +kernel))
set_option maxRecDepth 20000 in
theorem gX1_ahead_X1_checkEffect : GoodIn wsX1_ahead (wsV RX1 109 RX1 yX1_checkEffect wsX1_checkEffect) := goodIn_app (goodIn_of _ (by decide +kernel)) ggX1_ahead_X1_checkEffect
set_option maxRecDepth 20000 in
theorem ggX1_ahead_X1_checkRange : GoodIn wsX1_ahead wsX1_checkRange := goodIn_ca ((by refine gI_c (gw 12 rfl rfl) ?_; refine gI_c (gw 13 rfl rfl) ?_; refine gI_c (gw 14 rfl rfl) ?_; exact gI_n)) (goodIn_sub (fun _ h => List.mem_cons_of_mem _ (List.mem_append_right _ h)) (by decide +kernel))
set_option maxRecDepth 20000 in
theorem gX1_ahead_X1_checkRange : GoodIn wsX1_ahead (va_wsS RX1 51 yX1_checkRange wsX1_checkRange) := goodIn_app (goodIn_of _ (by decide +kernel)) ggX1_ahead_X1_checkRange
set_option maxRecDepth 20000 in
theorem ggX1_ahead_X0_copyFrom : GoodIn wsX1_ahead wsX0_copyFrom := (by refine gI_c (gw 18 rfl rfl) ?_; refine gI_c (gw 19 rfl rfl) ?_; refine gI_c (gw 20 rfl rfl) ?_; refine gI_c (gw 21 rfl rfl) ?_; refine gI_c (gw 22 rfl rfl) ?_; refine gI_c (gw 23 rfl rfl) ?_; refine gI_c (gw 24 rfl rfl) ?_; refine gI_c (gw 25 rfl rfl) ?_; refine gI_c (gw 26 rfl rfl) ?_; refine gI_c (gw 27 rfl rfl) ?_; refine gI_c (gw 28 rfl rfl) ?_; refine gI_c (gw 29 rfl rfl) ?_; refine gI_c (gw 30 rfl rfl) ?_; refine gI_c (gw 31 rfl rfl) ?_; refine gI_c (gw 32 rfl rfl) ?_; refine gI_c (gw 33 rfl rfl) ?_; refine gI_c (gw 34 rfl rfl) ?_; refine gI_c (gw 103 rfl rfl) ?_; refine gI_c (gw 104 rfl rfl) ?_; refine gI_c (gw 105 rfl rfl) ?_; refine gI_c (gw 106 rfl rfl) ?_; refine gI_c (gw 107 rfl rfl) ?_; refine gI_c (gw 108 rfl rfl) ?_; refine gI_c (gw 109 rfl rfl) ?_; refine gI_c (gw 110 rfl rfl) ?_; refine gI_c (gw 111 rfl rfl) ?_; refine gI_c (gw 112 rfl rfl) ?_; refine gI_c (gw 113 rfl rfl) ?_; refine gI_c (gw 114 rfl rfl) ?_; exact gI_n)
set_option maxRecDepth 20000 in
theorem gX1_ahead_X0_copyFrom_n155 : GoodIn wsX1_ahead (wsX0_copyFrom) := ggX1_ahead_X0_copyFrom
set_option maxRecDepth 20000 in
theorem ggX1_ahead_X0_pass : GoodIn wsX1_ahead wsX0_pass := (by refine gI_c (gw 37 rfl rfl) ?_; refine gI_c (gw 26 rfl rfl) ?_; refine gI_c (gw 20 rfl rfl) ?_; refine gI_c (gw 38 rfl rfl) ?_; refine gI_c (gw 39 rfl rfl) ?_; refine gI_c (gw 40 rfl rfl) ?_; refine gI_c (gw 16 rfl rfl) ?_; refine gI_c (gw 41 rfl rfl) ?_; refine gI_c (gw 21 rfl rfl) ?_; refine gI_c (gw 19 rfl rfl) ?_; refine gI_c (gw 32 rfl rfl) ?_; refine gI_c (gw 34 rfl rfl) ?_; refine gI_c (gw 42 rfl rfl) ?_; refine gI_c (gw 43 rfl rfl) ?_; refine gI_c (gw 44 rfl rfl) ?_; refine gI_c (gw 45 rfl rfl) ?_; refine gI_c (gw 46 rfl rfl) ?_; refine gI_c (gw 47 rfl rfl) ?_; refine gI_c (gw 48 rfl rfl) ?_; refine gI_c (gw 49 rfl rfl) ?_; refine gI_c (gw 50 rfl rfl) ?_; refine gI_c (gw 51 rfl rfl) ?_; refine gI_c (gw 52 rfl rfl) ?_; refine gI_c (gw 53 rfl rfl) ?_; refine gI_c (gw 54 rfl rfl) ?_; refine gI_c (gw 55 rfl rfl) ?_; refine gI_c (gw 56 rfl rfl) ?_; refine gI_c (gw 57 rfl rfl) ?_; refine gI_c (gw 28 rfl rfl) ?_; refine gI_c (gw 31 rfl rfl) ?_; refine gI_c (gw 33 rfl rfl) ?_; refine gI_c (gw 58 rfl rfl) ?_; refine gI_c (gw 59 rfl rfl) ?_; refine gI_c (gw 60 rfl rfl) ?_; refine gI_c (gw 61 rfl rfl) ?_; refine gI_c (gw 29 rfl rfl) ?_; refine gI_c (gw 62 rfl rfl) ?_; refine gI_c (gw 63 rfl rfl) ?_; refine gI_c (gw 64 rfl rfl) ?_; refine gI_c (gw 65 rfl rfl) ?_; refine gI_c (gw 27 rfl rfl) ?_; refine gI_c (gw 66 rfl rfl) ?_; refine gI_c (gw 67 rfl rfl) ?_; refine gI_c (gw 68 rfl rfl) ?_; refine gI_c (gw 69 rfl rfl) ?_; refine gI_c (gw 70 rfl rfl) ?_; refine gI_c (gw 71 rfl rfl) ?_; refine gI_c (gw 72 rfl rfl) ?_; refine gI_c (gw 73 rfl rfl) ?_; refine gI_c (gw 74 rfl rfl) ?_; refine gI_c (gw 75 rfl rfl) ?_; refine gI_c (gw 76 rfl rfl) ?_; refine gI_c (gw 77 rfl rfl) ?_; refine gI_c (gw 78 rfl rfl) ?_; refine gI_c (gw 79 rfl rfl) ?_; refine gI_c (gw 80 rfl rfl) ?_; refine gI_c (gw 81 rfl rfl) ?_; refine gI_c (gw 30 rfl rfl) ?_; refine gI_c (gw 82 rfl rfl) ?_; refine gI_c (gw 83 rfl rfl) ?_; refine gI_c (gw 84 rfl rfl) ?_; refine gI_c (gw 85 rfl rfl) ?_; refine gI_c (gw 86 rfl rfl) ?_; refine gI_c (gw 87 rfl rfl) ?_; refine gI_c (gw 88 rfl rfl) ?_; refine gI_c (gw 103 rfl rfl) ?_; refine gI_c (gw 104 rfl rfl) ?_; refine gI_c (gw 105 rfl rfl) ?_; refine gI_c (gw 106 rfl rfl) ?_; refine gI_c (gw 107 rfl rfl) ?_; refine gI_c (gw 108 rfl rfl) ?_; refine gI_c (gw 109 rfl rfl) ?_; refine gI_c (gw 110 rfl rfl) ?_; refine gI_c (gw 111 rfl rfl) ?_; refine gI_c (gw 112 rfl rfl) ?_; refine gI_c (gw 113 rfl rfl) ?_; refine gI_c (gw 114 rfl rfl) ?_; exact gI_n)
set_option maxRecDepth 20000 in
theorem gX1_ahead_X0_pass_n132 : GoodIn wsX1_ahead (wsX0_pass) := ggX1_ahead_X0_pass
set_option maxRecDepth 20000 in
theorem ggX1_ahead_X0_numberOf : GoodIn wsX1_ahead wsX0_numberOf := (by refine gI_c (gw 91 rfl rfl) ?_; refine gI_c (gw 27 rfl rfl) ?_; refine gI_c (gw 28 rfl rfl) ?_; refine gI_c (gw 29 rfl rfl) ?_; refine gI_c (gw 30 rfl rfl) ?_; refine gI_c (gw 31 rfl rfl) ?_; refine gI_c (gw 32 rfl rfl) ?_; refine gI_c (gw 33 rfl rfl) ?_; refine gI_c (gw 34 rfl rfl) ?_; refine gI_c (gw 58 rfl rfl) ?_; refine gI_c (gw 59 rfl rfl) ?_; refine gI_c (gw 60 rfl rfl) ?_; refine gI_c (gw 16 rfl rfl) ?_; refine gI_c (gw 61 rfl rfl) ?_; refine gI_c (gw 62 rfl rfl) ?_; refine gI_c (gw 63 rfl rfl) ?_; refine gI_c (gw 64 rfl rfl) ?_; refine gI_c (gw 65 rfl rfl) ?_; refine gI_c (gw 103 rfl rfl) ?_; refine gI_c (gw 104 rfl rfl) ?_; refine gI_c (gw 105 rfl rfl) ?_; refine gI_c (gw 106 rfl rfl) ?_; refine gI_c (gw 107 rfl rfl) ?_; refine gI_c (gw 108 rfl rfl) ?_; refine gI_c (gw 109 rfl rfl) ?_; refine gI_c (gw 110 rfl rfl) ?_; refine gI_c (gw 111 rfl rfl) ?_; refine gI_c (gw 112 rfl rfl) ?_; refine gI_c (gw 113 rfl rfl) ?_; refine gI_c (gw 114 rfl rfl) ?_; exact gI_n)
set_option maxRecDepth 20000 in
theorem gX1_ahead_X0_numberOf_n113 : GoodIn wsX1_ahead (wsX0_numberOf) := ggX1_ahead_X0_numberOf
theorem dX1_ahead_0 : decode cX1_ahead 0 = .ok (.aload_n 0, 1) := by decide +kernel
theorem dX1_ahead_1 : decode cX1_ahead 1 = .ok (.iload_n 1, 1) := by decide +kernel
theorem dX1_ahead_2 : decode cX1_ahead 2 = .ok (.invokevirtual 109, 3) := by decide +kernel
theorem dX1_ahead_5 : decode cX1_ahead 5 = .ok (.iload_n 2, 1) := by decide +kernel
theorem dX1_ahead_6 : decode cX1_ahead 6 = .ok (.iconst 0, 1) := by decide +kernel
theorem dX1_ahead_7 : decode cX1_ahead 7 = .ok (.bipush 99, 2) := by decide +kernel
theorem dX1_ahead_9 : decode cX1_ahead 9 = .ok (.invokestatic 51, 3) := by decide +kernel
theorem dX1_ahead_12 : decode cX1_ahead 12 = .ok (.iload_n 3, 1) := by decide +kernel
theorem dX1_ahead_13 : decode cX1_ahead 13 = .ok (.iconst 0, 1) := by decide +kernel
theorem dX1_ahead_14 : decode cX1_ahead 14 = .ok (.bipush 9, 2) := by decide +kernel
theorem dX1_ahead_16 : decode cX1_ahead 16 = .ok (.invokestatic 51, 3) := by decide +kernel
theorem dX1_ahead_19 : decode cX1_ahead 19 = .ok (.aload_n 0, 1) := by decide +kernel
theorem dX1_ahead_20 : decode cX1_ahead 20 = .ok (.getfield 28, 3) := by decide +kernel
theorem dX1_ahead_23 : decode cX1_ahead 23 = .ok (.aload_n 0, 1) := by decide +kernel
theorem dX1_ahead_24 : decode cX1_ahead 24 = .ok (.getfield 24, 3) := by decide +kernel
theorem dX1_ahead_27 : decode cX1_ahead 27 = .ok (.invokevirtual 155, 3) := by decide +kernel
theorem dX1_ahead_30 : decode cX1_ahead 30 = .ok (.aload_n 0, 1) := by decide +kernel
theorem dX1_ahead_31 : decode cX1_ahead 31 = .ok (.getfield 28, 3) := by decide +kernel
theorem dX1_ahead_34 : decode cX1_ahead 34 = .ok (.iload_n 2, 1) := by decide +kernel
theorem dX1_ahead_35 : decode cX1_ahead 35 = .ok (.invokevirtual 132, 3) := by decide +kernel
theorem dX1_ahead_38 : decode cX1_ahead 38 = .ok (.pop, 1) := by decide +kernel
theorem dX1_ahead_39 : decode cX1_ahead 39 = .ok (.aload_n 0, 1) := by decide +kernel
theorem dX1_ahead_40 : decode cX1_ahead 40 = .ok (.getfield 28, 3) := by decide +kernel
theorem dX1_ahead_43 : decode cX1_ahead 43 = .ok (.iload_n 1, 1) := by decide +kernel
theorem dX1_ahead_44 : decode cX1_ahead 44 = .ok (.iload_n 3, 1) := by decide +kernel
theorem dX1_ahead_45 : decode cX1_ahead 45 = .ok (.invokevirtual 113, 3) := by decide +kernel
theorem dX1_ahead_48 : decode cX1_ahead 48 = .ok (.ireturn, 1) := by decide +kernel
set_option maxRecDepth 20000 in
theorem ggX1_growth_X1_checkRange : GoodIn wsX1_growth wsX1_checkRange := goodIn_ca ((by refine gI_c (gw 6 rfl rfl) ?_; refine gI_c (gw 7 rfl rfl) ?_; refine gI_c (gw 8 rfl rfl) ?_; exact gI_n)) (goodIn_sub (fun _ h => List.mem_cons_of_mem _ (List.mem_append_right _ h)) (by decide +kernel))
set_option maxRecDepth 20000 in
theorem gX1_growth_X1_checkRange : GoodIn wsX1_growth (va_wsS RX1 51 yX1_checkRange wsX1_checkRange) := goodIn_app (goodIn_of _ (by decide +kernel)) ggX1_growth_X1_checkRange
set_option maxRecDepth 20000 in
theorem ggX1_growth_X0_copyFrom : GoodIn wsX1_growth wsX0_copyFrom := (by refine gI_c (gw 12 rfl rfl) ?_; refine gI_c (gw 13 rfl rfl) ?_; refine gI_c (gw 14 rfl rfl) ?_; refine gI_c (gw 15 rfl rfl) ?_; refine gI_c (gw 16 rfl rfl) ?_; refine gI_c (gw 17 rfl rfl) ?_; refine gI_c (gw 18 rfl rfl) ?_; refine gI_c (gw 19 rfl rfl) ?_; refine gI_c (gw 20 rfl rfl) ?_; refine gI_c (gw 21 rfl rfl) ?_; refine gI_c (gw 22 rfl rfl) ?_; refine gI_c (gw 23 rfl rfl) ?_; refine gI_c (gw 24 rfl rfl) ?_; refine gI_c (gw 25 rfl rfl) ?_; refine gI_c (gw 26 rfl rfl) ?_; refine gI_c (gw 27 rfl rfl) ?_; refine gI_c (gw 28 rfl rfl) ?_; refine gI_c (gw 94 rfl rfl) ?_; refine gI_c (gw 95 rfl rfl) ?_; refine gI_c (gw 96 rfl rfl) ?_; refine gI_c (gw 97 rfl rfl) ?_; refine gI_c (gw 98 rfl rfl) ?_; refine gI_c (gw 99 rfl rfl) ?_; refine gI_c (gw 100 rfl rfl) ?_; refine gI_c (gw 101 rfl rfl) ?_; refine gI_c (gw 102 rfl rfl) ?_; refine gI_c (gw 103 rfl rfl) ?_; refine gI_c (gw 104 rfl rfl) ?_; refine gI_c (gw 105 rfl rfl) ?_; exact gI_n)
set_option maxRecDepth 20000 in
theorem gX1_growth_X0_copyFrom_n155 : GoodIn wsX1_growth (wsX0_copyFrom) := ggX1_growth_X0_copyFrom
set_option maxRecDepth 20000 in
theorem ggX1_growth_X0_pass : GoodIn wsX1_growth wsX0_pass := (by refine gI_c (gw 31 rfl rfl) ?_; refine gI_c (gw 20 rfl rfl) ?_; refine gI_c (gw 14 rfl rfl) ?_; refine gI_c (gw 32 rfl rfl) ?_; refine gI_c (gw 33 rfl rfl) ?_; refine gI_c (gw 34 rfl rfl) ?_; refine gI_c (gw 10 rfl rfl) ?_; refine gI_c (gw 35 rfl rfl) ?_; refine gI_c (gw 15 rfl rfl) ?_; refine gI_c (gw 13 rfl rfl) ?_; refine gI_c (gw 26 rfl rfl) ?_; refine gI_c (gw 28 rfl rfl) ?_; refine gI_c (gw 36 rfl rfl) ?_; refine gI_c (gw 37 rfl rfl) ?_; refine gI_c (gw 38 rfl rfl) ?_; refine gI_c (gw 39 rfl rfl) ?_; refine gI_c (gw 40 rfl rfl) ?_; refine gI_c (gw 41 rfl rfl) ?_; refine gI_c (gw 42 rfl rfl) ?_; refine gI_c (gw 43 rfl rfl) ?_; refine gI_c (gw 44 rfl rfl) ?_; refine gI_c (gw 45 rfl rfl) ?_; refine gI_c (gw 46 rfl rfl) ?_; refine gI_c (gw 47 rfl rfl) ?_; refine gI_c (gw 48 rfl rfl) ?_; refine gI_c (gw 49 rfl rfl) ?_; refine gI_c (gw 50 rfl rfl) ?_; refine gI_c (gw 51 rfl rfl) ?_; refine gI_c (gw 22 rfl rfl) ?_; refine gI_c (gw 25 rfl rfl) ?_; refine gI_c (gw 27 rfl rfl) ?_; refine gI_c (gw 52 rfl rfl) ?_; refine gI_c (gw 53 rfl rfl) ?_; refine gI_c (gw 54 rfl rfl) ?_; refine gI_c (gw 55 rfl rfl) ?_; refine gI_c (gw 23 rfl rfl) ?_; refine gI_c (gw 56 rfl rfl) ?_; refine gI_c (gw 57 rfl rfl) ?_; refine gI_c (gw 58 rfl rfl) ?_; refine gI_c (gw 59 rfl rfl) ?_; refine gI_c (gw 21 rfl rfl) ?_; refine gI_c (gw 60 rfl rfl) ?_; refine gI_c (gw 61 rfl rfl) ?_; refine gI_c (gw 62 rfl rfl) ?_; refine gI_c (gw 63 rfl rfl) ?_; refine gI_c (gw 64 rfl rfl) ?_; refine gI_c (gw 65 rfl rfl) ?_; refine gI_c (gw 66 rfl rfl) ?_; refine gI_c (gw 67 rfl rfl) ?_; refine gI_c (gw 68 rfl rfl) ?_; refine gI_c (gw 69 rfl rfl) ?_; refine gI_c (gw 70 rfl rfl) ?_; refine gI_c (gw 71 rfl rfl) ?_; refine gI_c (gw 72 rfl rfl) ?_; refine gI_c (gw 73 rfl rfl) ?_; refine gI_c (gw 74 rfl rfl) ?_; refine gI_c (gw 75 rfl rfl) ?_; refine gI_c (gw 24 rfl rfl) ?_; refine gI_c (gw 76 rfl rfl) ?_; refine gI_c (gw 77 rfl rfl) ?_; refine gI_c (gw 78 rfl rfl) ?_; refine gI_c (gw 79 rfl rfl) ?_; refine gI_c (gw 80 rfl rfl) ?_; refine gI_c (gw 81 rfl rfl) ?_; refine gI_c (gw 82 rfl rfl) ?_; refine gI_c (gw 94 rfl rfl) ?_; refine gI_c (gw 95 rfl rfl) ?_; refine gI_c (gw 96 rfl rfl) ?_; refine gI_c (gw 97 rfl rfl) ?_; refine gI_c (gw 98 rfl rfl) ?_; refine gI_c (gw 99 rfl rfl) ?_; refine gI_c (gw 100 rfl rfl) ?_; refine gI_c (gw 101 rfl rfl) ?_; refine gI_c (gw 102 rfl rfl) ?_; refine gI_c (gw 103 rfl rfl) ?_; refine gI_c (gw 104 rfl rfl) ?_; refine gI_c (gw 105 rfl rfl) ?_; exact gI_n)
set_option maxRecDepth 20000 in
theorem gX1_growth_X0_pass_n132 : GoodIn wsX1_growth (wsX0_pass) := ggX1_growth_X0_pass
theorem dX1_growth_0 : decode cX1_growth 0 = .ok (.iload_n 1, 1) := by decide +kernel
theorem dX1_growth_1 : decode cX1_growth 1 = .ok (.iconst 1, 1) := by decide +kernel
theorem dX1_growth_2 : decode cX1_growth 2 = .ok (.bipush 99, 2) := by decide +kernel
theorem dX1_growth_4 : decode cX1_growth 4 = .ok (.invokestatic 51, 3) := by decide +kernel
theorem dX1_growth_7 : decode cX1_growth 7 = .ok (.iload_n 2, 1) := by decide +kernel
theorem dX1_growth_8 : decode cX1_growth 8 = .ok (.iconst 0, 1) := by decide +kernel
theorem dX1_growth_9 : decode cX1_growth 9 = .ok (.bipush 9, 2) := by decide +kernel
theorem dX1_growth_11 : decode cX1_growth 11 = .ok (.invokestatic 51, 3) := by decide +kernel
theorem dX1_growth_14 : decode cX1_growth 14 = .ok (.aload_n 0, 1) := by decide +kernel
theorem dX1_growth_15 : decode cX1_growth 15 = .ok (.getfield 28, 3) := by decide +kernel
theorem dX1_growth_18 : decode cX1_growth 18 = .ok (.aload_n 0, 1) := by decide +kernel
theorem dX1_growth_19 : decode cX1_growth 19 = .ok (.getfield 24, 3) := by decide +kernel
theorem dX1_growth_22 : decode cX1_growth 22 = .ok (.invokevirtual 155, 3) := by decide +kernel
theorem dX1_growth_25 : decode cX1_growth 25 = .ok (.aload_n 0, 1) := by decide +kernel
theorem dX1_growth_26 : decode cX1_growth 26 = .ok (.getfield 28, 3) := by decide +kernel
theorem dX1_growth_29 : decode cX1_growth 29 = .ok (.iload_n 1, 1) := by decide +kernel
theorem dX1_growth_30 : decode cX1_growth 30 = .ok (.invokevirtual 132, 3) := by decide +kernel
theorem dX1_growth_33 : decode cX1_growth 33 = .ok (.pop, 1) := by decide +kernel
theorem dX1_growth_34 : decode cX1_growth 34 = .ok (.aload_n 0, 1) := by decide +kernel
theorem dX1_growth_35 : decode cX1_growth 35 = .ok (.getfield 28, 3) := by decide +kernel
theorem dX1_growth_38 : decode cX1_growth 38 = .ok (.getfield 106, 3) := by decide +kernel
theorem dX1_growth_41 : decode cX1_growth 41 = .ok (.iload_n 2, 1) := by decide +kernel
theorem dX1_growth_42 : decode cX1_growth 42 = .ok (.iaload, 1) := by decide +kernel
theorem dX1_growth_43 : decode cX1_growth 43 = .ok (.aload_n 0, 1) := by decide +kernel
theorem dX1_growth_44 : decode cX1_growth 44 = .ok (.getfield 24, 3) := by decide +kernel
theorem dX1_growth_47 : decode cX1_growth 47 = .ok (.getfield 106, 3) := by decide +kernel
theorem dX1_growth_50 : decode cX1_growth 50 = .ok (.iload_n 2, 1) := by decide +kernel
theorem dX1_growth_51 : decode cX1_growth 51 = .ok (.iaload, 1) := by decide +kernel
theorem dX1_growth_52 : decode cX1_growth 52 = .ok (.isub, 1) := by decide +kernel
theorem dX1_growth_53 : decode cX1_growth 53 = .ok (.ireturn, 1) := by decide +kernel
set_option maxRecDepth 20000 in
theorem ggX1_washGain_X1_checkEffect : GoodIn wsX1_washGain wsX1_checkEffect := goodIn_ca ((by refine gI_c (gw 7 rfl rfl) ?_; refine gI_c (gw 8 rfl rfl) ?_; refine gI_c (gw 9 rfl rfl) ?_; refine gI_c (gw 2 rfl rfl) ?_; refine gI_c (gw 95 rfl rfl) ?_; refine gI_c (gw 96 rfl rfl) ?_; refine gI_c (gw 97 rfl rfl) ?_; refine gI_c (gw 98 rfl rfl) ?_; refine gI_c (gw 99 rfl rfl) ?_; refine gI_c (gw 100 rfl rfl) ?_; refine gI_c (gw 101 rfl rfl) ?_; refine gI_c (gw 102 rfl rfl) ?_; refine gI_c (gw 103 rfl rfl) ?_; refine gI_c (gw 104 rfl rfl) ?_; refine gI_c (gw 105 rfl rfl) ?_; refine gI_c (gw 106 rfl rfl) ?_; refine gI_c (gw 107 rfl rfl) ?_; refine gI_c (gw 108 rfl rfl) ?_; refine gI_c (gw 109 rfl rfl) ?_; refine gI_c (gw 110 rfl rfl) ?_; refine gI_c (gw 111 rfl rfl) ?_; refine gI_c (gw 112 rfl rfl) ?_; refine gI_c (gw 113 rfl rfl) ?_; refine gI_c (gw 114 rfl rfl) ?_; refine gI_c (gw 115 rfl rfl) ?_; refine gI_c (gw 116 rfl rfl) ?_; refine gI_c (gw 117 rfl rfl) ?_; exact gI_n)) (goodIn_sub (fun _ h => List.mem_cons_of_mem _ (List.mem_append_left _ (List.mem_append_left _ (List.mem_append_right _ h)))) (by decide +kernel))
set_option maxRecDepth 20000 in
theorem gX1_washGain_X1_checkEffect : GoodIn wsX1_washGain (wsV RX1 109 RX1 yX1_checkEffect wsX1_checkEffect) := goodIn_app (goodIn_of _ (by decide +kernel)) ggX1_washGain_X1_checkEffect
set_option maxRecDepth 20000 in
theorem ggX1_washGain_X1_checkRange : GoodIn wsX1_washGain wsX1_checkRange := goodIn_ca ((by refine gI_c (gw 12 rfl rfl) ?_; refine gI_c (gw 13 rfl rfl) ?_; refine gI_c (gw 14 rfl rfl) ?_; exact gI_n)) (goodIn_sub (fun _ h => List.mem_cons_of_mem _ (List.mem_append_left _ (List.mem_append_right _ h))) (by decide +kernel))
set_option maxRecDepth 20000 in
theorem gX1_washGain_X1_checkRange : GoodIn wsX1_washGain (va_wsS RX1 51 yX1_checkRange wsX1_checkRange) := goodIn_app (goodIn_of _ (by decide +kernel)) ggX1_washGain_X1_checkRange
set_option maxRecDepth 20000 in
theorem ggX1_washGain_X1_checkWorks : GoodIn wsX1_washGain wsX1_checkWorks := goodIn_ca ((by refine gI_c (gw 18 rfl rfl) ?_; refine gI_c (gw 19 rfl rfl) ?_; refine gI_c (gw 20 rfl rfl) ?_; refine gI_c (gw 2 rfl rfl) ?_; refine gI_c (gw 95 rfl rfl) ?_; refine gI_c (gw 96 rfl rfl) ?_; refine gI_c (gw 97 rfl rfl) ?_; refine gI_c (gw 98 rfl rfl) ?_; refine gI_c (gw 99 rfl rfl) ?_; refine gI_c (gw 100 rfl rfl) ?_; refine gI_c (gw 101 rfl rfl) ?_; refine gI_c (gw 102 rfl rfl) ?_; refine gI_c (gw 103 rfl rfl) ?_; refine gI_c (gw 104 rfl rfl) ?_; refine gI_c (gw 105 rfl rfl) ?_; refine gI_c (gw 106 rfl rfl) ?_; refine gI_c (gw 107 rfl rfl) ?_; refine gI_c (gw 108 rfl rfl) ?_; refine gI_c (gw 109 rfl rfl) ?_; refine gI_c (gw 110 rfl rfl) ?_; refine gI_c (gw 111 rfl rfl) ?_; refine gI_c (gw 112 rfl rfl) ?_; refine gI_c (gw 113 rfl rfl) ?_; refine gI_c (gw 114 rfl rfl) ?_; refine gI_c (gw 115 rfl rfl) ?_; refine gI_c (gw 116 rfl rfl) ?_; refine gI_c (gw 117 rfl rfl) ?_; exact gI_n)) (goodIn_sub (fun _ h => List.mem_cons_of_mem _ (List.mem_append_right _ h)) (by decide +kernel))
set_option maxRecDepth 20000 in
theorem gX1_washGain_X1_checkWorks : GoodIn wsX1_washGain (wsV RX1 141 RX1 yX1_checkWorks wsX1_checkWorks) := goodIn_app (goodIn_of _ (by decide +kernel)) ggX1_washGain_X1_checkWorks
set_option maxRecDepth 20000 in
theorem ggX1_washGain_X0_copyFrom : GoodIn wsX1_washGain wsX0_copyFrom := (by refine gI_c (gw 24 rfl rfl) ?_; refine gI_c (gw 25 rfl rfl) ?_; refine gI_c (gw 26 rfl rfl) ?_; refine gI_c (gw 27 rfl rfl) ?_; refine gI_c (gw 28 rfl rfl) ?_; refine gI_c (gw 29 rfl rfl) ?_; refine gI_c (gw 30 rfl rfl) ?_; refine gI_c (gw 31 rfl rfl) ?_; refine gI_c (gw 32 rfl rfl) ?_; refine gI_c (gw 33 rfl rfl) ?_; refine gI_c (gw 34 rfl rfl) ?_; refine gI_c (gw 35 rfl rfl) ?_; refine gI_c (gw 36 rfl rfl) ?_; refine gI_c (gw 37 rfl rfl) ?_; refine gI_c (gw 38 rfl rfl) ?_; refine gI_c (gw 39 rfl rfl) ?_; refine gI_c (gw 40 rfl rfl) ?_; refine gI_c (gw 106 rfl rfl) ?_; refine gI_c (gw 107 rfl rfl) ?_; refine gI_c (gw 108 rfl rfl) ?_; refine gI_c (gw 109 rfl rfl) ?_; refine gI_c (gw 110 rfl rfl) ?_; refine gI_c (gw 111 rfl rfl) ?_; refine gI_c (gw 112 rfl rfl) ?_; refine gI_c (gw 113 rfl rfl) ?_; refine gI_c (gw 114 rfl rfl) ?_; refine gI_c (gw 115 rfl rfl) ?_; refine gI_c (gw 116 rfl rfl) ?_; refine gI_c (gw 117 rfl rfl) ?_; exact gI_n)
set_option maxRecDepth 20000 in
theorem gX1_washGain_X0_copyFrom_n155 : GoodIn wsX1_washGain (wsX0_copyFrom) := ggX1_washGain_X0_copyFrom
set_option maxRecDepth 20000 in
theorem ggX1_washGain_X0_pass : GoodIn wsX1_washGain wsX0_pass := (by refine gI_c (gw 43 rfl rfl) ?_; refine gI_c (gw 32 rfl rfl) ?_; refine gI_c (gw 26 rfl rfl) ?_; refine gI_c (gw 44 rfl rfl) ?_; refine gI_c (gw 45 rfl rfl) ?_; refine gI_c (gw 46 rfl rfl) ?_; refine gI_c (gw 22 rfl rfl) ?_; refine gI_c (gw 47 rfl rfl) ?_; refine gI_c (gw 27 rfl rfl) ?_; refine gI_c (gw 25 rfl rfl) ?_; refine gI_c (gw 38 rfl rfl) ?_; refine gI_c (gw 40 rfl rfl) ?_; refine gI_c (gw 48 rfl rfl) ?_; refine gI_c (gw 49 rfl rfl) ?_; refine gI_c (gw 50 rfl rfl) ?_; refine gI_c (gw 51 rfl rfl) ?_; refine gI_c (gw 52 rfl rfl) ?_; refine gI_c (gw 53 rfl rfl) ?_; refine gI_c (gw 54 rfl rfl) ?_; refine gI_c (gw 55 rfl rfl) ?_; refine gI_c (gw 56 rfl rfl) ?_; refine gI_c (gw 57 rfl rfl) ?_; refine gI_c (gw 58 rfl rfl) ?_; refine gI_c (gw 59 rfl rfl) ?_; refine gI_c (gw 60 rfl rfl) ?_; refine gI_c (gw 61 rfl rfl) ?_; refine gI_c (gw 62 rfl rfl) ?_; refine gI_c (gw 63 rfl rfl) ?_; refine gI_c (gw 34 rfl rfl) ?_; refine gI_c (gw 37 rfl rfl) ?_; refine gI_c (gw 39 rfl rfl) ?_; refine gI_c (gw 64 rfl rfl) ?_; refine gI_c (gw 65 rfl rfl) ?_; refine gI_c (gw 66 rfl rfl) ?_; refine gI_c (gw 67 rfl rfl) ?_; refine gI_c (gw 35 rfl rfl) ?_; refine gI_c (gw 68 rfl rfl) ?_; refine gI_c (gw 69 rfl rfl) ?_; refine gI_c (gw 70 rfl rfl) ?_; refine gI_c (gw 71 rfl rfl) ?_; refine gI_c (gw 33 rfl rfl) ?_; refine gI_c (gw 72 rfl rfl) ?_; refine gI_c (gw 73 rfl rfl) ?_; refine gI_c (gw 74 rfl rfl) ?_; refine gI_c (gw 75 rfl rfl) ?_; refine gI_c (gw 76 rfl rfl) ?_; refine gI_c (gw 77 rfl rfl) ?_; refine gI_c (gw 78 rfl rfl) ?_; refine gI_c (gw 79 rfl rfl) ?_; refine gI_c (gw 80 rfl rfl) ?_; refine gI_c (gw 81 rfl rfl) ?_; refine gI_c (gw 82 rfl rfl) ?_; refine gI_c (gw 83 rfl rfl) ?_; refine gI_c (gw 84 rfl rfl) ?_; refine gI_c (gw 85 rfl rfl) ?_; refine gI_c (gw 86 rfl rfl) ?_; refine gI_c (gw 87 rfl rfl) ?_; refine gI_c (gw 36 rfl rfl) ?_; refine gI_c (gw 88 rfl rfl) ?_; refine gI_c (gw 89 rfl rfl) ?_; refine gI_c (gw 90 rfl rfl) ?_; refine gI_c (gw 91 rfl rfl) ?_; refine gI_c (gw 92 rfl rfl) ?_; refine gI_c (gw 93 rfl rfl) ?_; refine gI_c (gw 94 rfl rfl) ?_; refine gI_c (gw 106 rfl rfl) ?_; refine gI_c (gw 107 rfl rfl) ?_; refine gI_c (gw 108 rfl rfl) ?_; refine gI_c (gw 109 rfl rfl) ?_; refine gI_c (gw 110 rfl rfl) ?_; refine gI_c (gw 111 rfl rfl) ?_; refine gI_c (gw 112 rfl rfl) ?_; refine gI_c (gw 113 rfl rfl) ?_; refine gI_c (gw 114 rfl rfl) ?_; refine gI_c (gw 115 rfl rfl) ?_; refine gI_c (gw 116 rfl rfl) ?_; refine gI_c (gw 117 rfl rfl) ?_; exact gI_n)
set_option maxRecDepth 20000 in
theorem gX1_washGain_X0_pass_n132 : GoodIn wsX1_washGain (wsX0_pass) := ggX1_washGain_X0_pass
theorem dX1_washGain_0 : decode cX1_washGain 0 = .ok (.aload_n 0, 1) := by decide +kernel
theorem dX1_washGain_1 : decode cX1_washGain 1 = .ok (.iload_n 1, 1) := by decide +kernel
theorem dX1_washGain_2 : decode cX1_washGain 2 = .ok (.invokevirtual 109, 3) := by decide +kernel
theorem dX1_washGain_5 : decode cX1_washGain 5 = .ok (.iload_n 2, 1) := by decide +kernel
theorem dX1_washGain_6 : decode cX1_washGain 6 = .ok (.iconst 1, 1) := by decide +kernel
theorem dX1_washGain_7 : decode cX1_washGain 7 = .ok (.bipush 20, 2) := by decide +kernel
theorem dX1_washGain_9 : decode cX1_washGain 9 = .ok (.invokestatic 51, 3) := by decide +kernel
theorem dX1_washGain_12 : decode cX1_washGain 12 = .ok (.iload_n 3, 1) := by decide +kernel
theorem dX1_washGain_13 : decode cX1_washGain 13 = .ok (.iconst 1, 1) := by decide +kernel
theorem dX1_washGain_14 : decode cX1_washGain 14 = .ok (.bipush 99, 2) := by decide +kernel
theorem dX1_washGain_16 : decode cX1_washGain 16 = .ok (.invokestatic 51, 3) := by decide +kernel
theorem dX1_washGain_19 : decode cX1_washGain 19 = .ok (.aload_n 0, 1) := by decide +kernel
theorem dX1_washGain_20 : decode cX1_washGain 20 = .ok (.iload_n 1, 1) := by decide +kernel
theorem dX1_washGain_21 : decode cX1_washGain 21 = .ok (.invokevirtual 141, 3) := by decide +kernel
theorem dX1_washGain_24 : decode cX1_washGain 24 = .ok (.aload_n 0, 1) := by decide +kernel
theorem dX1_washGain_25 : decode cX1_washGain 25 = .ok (.getfield 28, 3) := by decide +kernel
theorem dX1_washGain_28 : decode cX1_washGain 28 = .ok (.aload_n 0, 1) := by decide +kernel
theorem dX1_washGain_29 : decode cX1_washGain 29 = .ok (.getfield 24, 3) := by decide +kernel
theorem dX1_washGain_32 : decode cX1_washGain 32 = .ok (.invokevirtual 155, 3) := by decide +kernel
theorem dX1_washGain_35 : decode cX1_washGain 35 = .ok (.aload_n 0, 1) := by decide +kernel
theorem dX1_washGain_36 : decode cX1_washGain 36 = .ok (.getfield 28, 3) := by decide +kernel
theorem dX1_washGain_39 : decode cX1_washGain 39 = .ok (.iload_n 3, 1) := by decide +kernel
theorem dX1_washGain_40 : decode cX1_washGain 40 = .ok (.invokevirtual 132, 3) := by decide +kernel
theorem dX1_washGain_43 : decode cX1_washGain 43 = .ok (.istore 4, 2) := by decide +kernel
theorem dX1_washGain_45 : decode cX1_washGain 45 = .ok (.aload_n 0, 1) := by decide +kernel
theorem dX1_washGain_46 : decode cX1_washGain 46 = .ok (.getfield 28, 3) := by decide +kernel
theorem dX1_washGain_49 : decode cX1_washGain 49 = .ok (.aload_n 0, 1) := by decide +kernel
theorem dX1_washGain_50 : decode cX1_washGain 50 = .ok (.getfield 24, 3) := by decide +kernel
theorem dX1_washGain_53 : decode cX1_washGain 53 = .ok (.invokevirtual 155, 3) := by decide +kernel
theorem dX1_washGain_56 : decode cX1_washGain 56 = .ok (.aload_n 0, 1) := by decide +kernel
theorem dX1_washGain_57 : decode cX1_washGain 57 = .ok (.getfield 28, 3) := by decide +kernel
theorem dX1_washGain_60 : decode cX1_washGain 60 = .ok (.getfield 144, 3) := by decide +kernel
theorem dX1_washGain_63 : decode cX1_washGain 63 = .ok (.iload_n 1, 1) := by decide +kernel
theorem dX1_washGain_64 : decode cX1_washGain 64 = .ok (.iload_n 2, 1) := by decide +kernel
theorem dX1_washGain_65 : decode cX1_washGain 65 = .ok (.iastore, 1) := by decide +kernel
theorem dX1_washGain_66 : decode cX1_washGain 66 = .ok (.aload_n 0, 1) := by decide +kernel
theorem dX1_washGain_67 : decode cX1_washGain 67 = .ok (.getfield 28, 3) := by decide +kernel
theorem dX1_washGain_70 : decode cX1_washGain 70 = .ok (.iload_n 3, 1) := by decide +kernel
theorem dX1_washGain_71 : decode cX1_washGain 71 = .ok (.invokevirtual 132, 3) := by decide +kernel
theorem dX1_washGain_74 : decode cX1_washGain 74 = .ok (.iload 4, 2) := by decide +kernel
theorem dX1_washGain_76 : decode cX1_washGain 76 = .ok (.isub, 1) := by decide +kernel
theorem dX1_washGain_77 : decode cX1_washGain 77 = .ok (.ireturn, 1) := by decide +kernel
set_option maxRecDepth 20000 in
theorem ggX1_bestTurns_X1_checkRange : GoodIn wsX1_bestTurns wsX1_checkRange := goodIn_ca ((by refine gI_c (gw 5 rfl rfl) ?_; refine gI_c (gw 6 rfl rfl) ?_; refine gI_c (gw 7 rfl rfl) ?_; exact gI_n)) (goodIn_sub (fun _ h => List.mem_cons_of_mem _ (List.mem_append_right _ h)) (by decide +kernel))
set_option maxRecDepth 20000 in
theorem gX1_bestTurns_X1_checkRange : GoodIn wsX1_bestTurns (va_wsS RX1 51 yX1_checkRange wsX1_checkRange) := goodIn_app (goodIn_of _ (by decide +kernel)) ggX1_bestTurns_X1_checkRange
set_option maxRecDepth 20000 in
theorem ggX1_bestTurns_X1_vaporWithChoice : GoodIn wsX1_bestTurns wsX1_vaporWithChoice := (by refine gI_c (gw 11 rfl rfl) ?_; refine gI_c (gw 12 rfl rfl) ?_; refine gI_c (gw 13 rfl rfl) ?_; refine gI_c (gw 14 rfl rfl) ?_; refine gI_c (gw 4 rfl rfl) ?_; refine gI_c (gw 15 rfl rfl) ?_; refine gI_c (gw 16 rfl rfl) ?_; refine gI_c (gw 17 rfl rfl) ?_; refine gI_c (gw 18 rfl rfl) ?_; refine gI_c (gw 19 rfl rfl) ?_; refine gI_c (gw 20 rfl rfl) ?_; refine gI_c (gw 21 rfl rfl) ?_; refine gI_c (gw 22 rfl rfl) ?_; refine gI_c (gw 23 rfl rfl) ?_; refine gI_c (gw 24 rfl rfl) ?_; refine gI_c (gw 25 rfl rfl) ?_; refine gI_c (gw 26 rfl rfl) ?_; refine gI_c (gw 27 rfl rfl) ?_; refine gI_c (gw 28 rfl rfl) ?_; refine gI_c (gw 29 rfl rfl) ?_; refine gI_c (gw 30 rfl rfl) ?_; refine gI_c (gw 31 rfl rfl) ?_; refine gI_c (gw 32 rfl rfl) ?_; refine gI_c (gw 33 rfl rfl) ?_; refine gI_c (gw 34 rfl rfl) ?_; refine gI_c (gw 35 rfl rfl) ?_; refine gI_c (gw 36 rfl rfl) ?_; refine gI_c (gw 37 rfl rfl) ?_; refine gI_c (gw 38 rfl rfl) ?_; refine gI_c (gw 39 rfl rfl) ?_; refine gI_c (gw 40 rfl rfl) ?_; refine gI_c (gw 41 rfl rfl) ?_; refine gI_c (gw 42 rfl rfl) ?_; refine gI_c (gw 43 rfl rfl) ?_; refine gI_c (gw 44 rfl rfl) ?_; refine gI_c (gw 45 rfl rfl) ?_; refine gI_c (gw 46 rfl rfl) ?_; refine gI_c (gw 47 rfl rfl) ?_; refine gI_c (gw 48 rfl rfl) ?_; refine gI_c (gw 49 rfl rfl) ?_; refine gI_c (gw 50 rfl rfl) ?_; refine gI_c (gw 51 rfl rfl) ?_; refine gI_c (gw 52 rfl rfl) ?_; refine gI_c (gw 53 rfl rfl) ?_; refine gI_c (gw 54 rfl rfl) ?_; refine gI_c (gw 55 rfl rfl) ?_; refine gI_c (gw 56 rfl rfl) ?_; refine gI_c (gw 57 rfl rfl) ?_; refine gI_c (gw 58 rfl rfl) ?_; refine gI_c (gw 59 rfl rfl) ?_; refine gI_c (gw 60 rfl rfl) ?_; refine gI_c (gw 61 rfl rfl) ?_; refine gI_c (gw 62 rfl rfl) ?_; refine gI_c (gw 63 rfl rfl) ?_; refine gI_c (gw 64 rfl rfl) ?_; refine gI_c (gw 65 rfl rfl) ?_; refine gI_c (gw 66 rfl rfl) ?_; refine gI_c (gw 67 rfl rfl) ?_; refine gI_c (gw 68 rfl rfl) ?_; refine gI_c (gw 69 rfl rfl) ?_; refine gI_c (gw 70 rfl rfl) ?_; refine gI_c (gw 71 rfl rfl) ?_; refine gI_c (gw 72 rfl rfl) ?_; refine gI_c (gw 73 rfl rfl) ?_; refine gI_c (gw 74 rfl rfl) ?_; refine gI_c (gw 75 rfl rfl) ?_; refine gI_c (gw 76 rfl rfl) ?_; refine gI_c (gw 77 rfl rfl) ?_; refine gI_c (gw 78 rfl rfl) ?_; refine gI_c (gw 79 rfl rfl) ?_; refine gI_c (gw 80 rfl rfl) ?_; refine gI_c (gw 81 rfl rfl) ?_; refine gI_c (gw 82 rfl rfl) ?_; refine gI_c (gw 83 rfl rfl) ?_; refine gI_c (gw 84 rfl rfl) ?_; refine gI_c (gw 85 rfl rfl) ?_; refine gI_c (gw 86 rfl rfl) ?_; refine gI_c (gw 87 rfl rfl) ?_; refine gI_c (gw 88 rfl rfl) ?_; refine gI_c (gw 89 rfl rfl) ?_; refine gI_c (gw 90 rfl rfl) ?_; refine gI_c (gw 91 rfl rfl) ?_; refine gI_c (gw 92 rfl rfl) ?_; refine gI_c (gw 93 rfl rfl) ?_; refine gI_c (gw 94 rfl rfl) ?_; refine gI_c (gw 95 rfl rfl) ?_; refine gI_c (gw 96 rfl rfl) ?_; refine gI_c (gw 97 rfl rfl) ?_; refine gI_c (gw 98 rfl rfl) ?_; refine gI_c (gw 99 rfl rfl) ?_; refine gI_c (gw 100 rfl rfl) ?_; refine gI_c (gw 101 rfl rfl) ?_; refine gI_c (gw 102 rfl rfl) ?_; refine gI_c (gw 103 rfl rfl) ?_; refine gI_c (gw 104 rfl rfl) ?_; refine gI_c (gw 105 rfl rfl) ?_; refine gI_c (gw 106 rfl rfl) ?_; refine gI_c (gw 8 rfl rfl) ?_; refine gI_c (gw 9 rfl rfl) ?_; refine gI_c (gw 10 rfl rfl) ?_; refine gI_c (gw 118 rfl rfl) ?_; refine gI_c (gw 119 rfl rfl) ?_; refine gI_c (gw 120 rfl rfl) ?_; refine gI_c (gw 121 rfl rfl) ?_; refine gI_c (gw 122 rfl rfl) ?_; refine gI_c (gw 123 rfl rfl) ?_; refine gI_c (gw 124 rfl rfl) ?_; refine gI_c (gw 125 rfl rfl) ?_; refine gI_c (gw 126 rfl rfl) ?_; refine gI_c (gw 127 rfl rfl) ?_; refine gI_c (gw 128 rfl rfl) ?_; refine gI_c (gw 129 rfl rfl) ?_; refine gI_c (gw 107 rfl rfl) ?_; refine gI_c (gw 108 rfl rfl) ?_; refine gI_c (gw 109 rfl rfl) ?_; refine gI_c (gw 110 rfl rfl) ?_; refine gI_c (gw 111 rfl rfl) ?_; refine gI_c (gw 112 rfl rfl) ?_; refine gI_c (gw 113 rfl rfl) ?_; refine gI_c (gw 114 rfl rfl) ?_; refine gI_c (gw 115 rfl rfl) ?_; refine gI_c (gw 116 rfl rfl) ?_; refine gI_c (gw 117 rfl rfl) ?_; exact gI_n)
set_option maxRecDepth 20000 in
theorem gX1_bestTurns_X1_vaporWithChoice : GoodIn wsX1_bestTurns (wsV RX1 159 RX1 yX1_vaporWithChoice wsX1_vaporWithChoice) := goodIn_app (goodIn_of _ (by decide +kernel)) ggX1_bestTurns_X1_vaporWithChoice
theorem dX1_bestTurns_0 : decode cX1_bestTurns 0 = .ok (.iload_n 1, 1) := by decide +kernel
theorem dX1_bestTurns_1 : decode cX1_bestTurns 1 = .ok (.iconst 1, 1) := by decide +kernel
theorem dX1_bestTurns_2 : decode cX1_bestTurns 2 = .ok (.iconst 3, 1) := by decide +kernel
theorem dX1_bestTurns_3 : decode cX1_bestTurns 3 = .ok (.invokestatic 51, 3) := by decide +kernel
theorem dX1_bestTurns_6 : decode cX1_bestTurns 6 = .ok (.iconst (-1), 1) := by decide +kernel
theorem dX1_bestTurns_7 : decode cX1_bestTurns 7 = .ok (.istore_n 3, 1) := by decide +kernel
theorem dX1_bestTurns_8 : decode cX1_bestTurns 8 = .ok (.iconst (-1), 1) := by decide +kernel
theorem dX1_bestTurns_9 : decode cX1_bestTurns 9 = .ok (.istore 4, 2) := by decide +kernel
theorem dX1_bestTurns_11 : decode cX1_bestTurns 11 = .ok (.iconst (-1), 1) := by decide +kernel
theorem dX1_bestTurns_12 : decode cX1_bestTurns 12 = .ok (.istore 5, 2) := by decide +kernel
theorem dX1_bestTurns_14 : decode cX1_bestTurns 14 = .ok (.iload 5, 2) := by decide +kernel
theorem dX1_bestTurns_16 : decode cX1_bestTurns 16 = .ok (.aload_n 0, 1) := by decide +kernel
theorem dX1_bestTurns_17 : decode cX1_bestTurns 17 = .ok (.getfield 24, 3) := by decide +kernel
theorem dX1_bestTurns_20 : decode cX1_bestTurns 20 = .ok (.getfield 94, 3) := by decide +kernel
theorem dX1_bestTurns_23 : decode cX1_bestTurns 23 = .ok (.if_icmp .ge 35, 3) := by decide +kernel
theorem dX1_bestTurns_26 : decode cX1_bestTurns 26 = .ok (.aload_n 0, 1) := by decide +kernel
theorem dX1_bestTurns_27 : decode cX1_bestTurns 27 = .ok (.aload_n 0, 1) := by decide +kernel
theorem dX1_bestTurns_28 : decode cX1_bestTurns 28 = .ok (.getfield 24, 3) := by decide +kernel
theorem dX1_bestTurns_31 : decode cX1_bestTurns 31 = .ok (.iload 5, 2) := by decide +kernel
theorem dX1_bestTurns_33 : decode cX1_bestTurns 33 = .ok (.iload_n 1, 1) := by decide +kernel
theorem dX1_bestTurns_34 : decode cX1_bestTurns 34 = .ok (.invokevirtual 159, 3) := by decide +kernel
theorem dX1_bestTurns_37 : decode cX1_bestTurns 37 = .ok (.istore 6, 2) := by decide +kernel
theorem dX1_bestTurns_39 : decode cX1_bestTurns 39 = .ok (.iload 6, 2) := by decide +kernel
theorem dX1_bestTurns_41 : decode cX1_bestTurns 41 = .ok (.iload_n 3, 1) := by decide +kernel
theorem dX1_bestTurns_42 : decode cX1_bestTurns 42 = .ok (.if_icmp .le 10, 3) := by decide +kernel
theorem dX1_bestTurns_45 : decode cX1_bestTurns 45 = .ok (.iload 6, 2) := by decide +kernel
theorem dX1_bestTurns_47 : decode cX1_bestTurns 47 = .ok (.istore_n 3, 1) := by decide +kernel
theorem dX1_bestTurns_48 : decode cX1_bestTurns 48 = .ok (.iload 5, 2) := by decide +kernel
theorem dX1_bestTurns_50 : decode cX1_bestTurns 50 = .ok (.istore 4, 2) := by decide +kernel
theorem dX1_bestTurns_52 : decode cX1_bestTurns 52 = .ok (.iinc 5 1, 3) := by decide +kernel
theorem dX1_bestTurns_55 : decode cX1_bestTurns 55 = .ok (.goto (-41), 3) := by decide +kernel
theorem dX1_bestTurns_58 : decode cX1_bestTurns 58 = .ok (.iload_n 2, 1) := by decide +kernel
theorem dX1_bestTurns_59 : decode cX1_bestTurns 59 = .ok (.ifCond .eq 8, 3) := by decide +kernel
theorem dX1_bestTurns_62 : decode cX1_bestTurns 62 = .ok (.iload 4, 2) := by decide +kernel
theorem dX1_bestTurns_64 : decode cX1_bestTurns 64 = .ok (.goto 4, 3) := by decide +kernel
theorem dX1_bestTurns_67 : decode cX1_bestTurns 67 = .ok (.iload_n 3, 1) := by decide +kernel
theorem dX1_bestTurns_68 : decode cX1_bestTurns 68 = .ok (.ireturn, 1) := by decide +kernel
set_option maxRecDepth 20000 in
theorem ggX1_vaporWithChoice_X1_stateAt : GoodIn wsX1_vaporWithChoice wsX1_stateAt := (by refine gI_c (gw 5 rfl rfl) ?_; refine gI_c (gw 6 rfl rfl) ?_; refine gI_c (gw 7 rfl rfl) ?_; refine gI_c (gw 8 rfl rfl) ?_; refine gI_c (gw 9 rfl rfl) ?_; refine gI_c (gw 10 rfl rfl) ?_; refine gI_c (gw 11 rfl rfl) ?_; refine gI_c (gw 12 rfl rfl) ?_; refine gI_c (gw 13 rfl rfl) ?_; refine gI_c (gw 14 rfl rfl) ?_; refine gI_c (gw 15 rfl rfl) ?_; refine gI_c (gw 16 rfl rfl) ?_; refine gI_c (gw 17 rfl rfl) ?_; refine gI_c (gw 18 rfl rfl) ?_; refine gI_c (gw 19 rfl rfl) ?_; refine gI_c (gw 20 rfl rfl) ?_; refine gI_c (gw 21 rfl rfl) ?_; refine gI_c (gw 22 rfl rfl) ?_; refine gI_c (gw 23 rfl rfl) ?_; refine gI_c (gw 24 rfl rfl) ?_; refine gI_c (gw 25 rfl rfl) ?_; refine gI_c (gw 26 rfl rfl) ?_; refine gI_c (gw 27 rfl rfl) ?_; refine gI_c (gw 28 rfl rfl) ?_; refine gI_c (gw 29 rfl rfl) ?_; refine gI_c (gw 30 rfl rfl) ?_; refine gI_c (gw 100 rfl rfl) ?_; refine gI_c (gw 101 rfl rfl) ?_; refine gI_c (gw 102 rfl rfl) ?_; refine gI_c (gw 103 rfl rfl) ?_; refine gI_c (gw 104 rfl rfl) ?_; refine gI_c (gw 105 rfl rfl) ?_; refine gI_c (gw 106 rfl rfl) ?_; refine gI_c (gw 107 rfl rfl) ?_; refine gI_c (gw 108 rfl rfl) ?_; refine gI_c (gw 109 rfl rfl) ?_; refine gI_c (gw 110 rfl rfl) ?_; refine gI_c (gw 111 rfl rfl) ?_; exact gI_n)
set_option maxRecDepth 20000 in
theorem gX1_vaporWithChoice_X1_stateAt : GoodIn wsX1_vaporWithChoice (va_wsS RX1 151 yX1_stateAt wsX1_stateAt) := goodIn_app (goodIn_of _ (by decide +kernel)) ggX1_vaporWithChoice_X1_stateAt
set_option maxRecDepth 20000 in
theorem ggX1_vaporWithChoice_X0_copyFrom : GoodIn wsX1_vaporWithChoice wsX0_copyFrom := (by refine gI_c (gw 33 rfl rfl) ?_; refine gI_c (gw 14 rfl rfl) ?_; refine gI_c (gw 17 rfl rfl) ?_; refine gI_c (gw 16 rfl rfl) ?_; refine gI_c (gw 34 rfl rfl) ?_; refine gI_c (gw 35 rfl rfl) ?_; refine gI_c (gw 36 rfl rfl) ?_; refine gI_c (gw 37 rfl rfl) ?_; refine gI_c (gw 18 rfl rfl) ?_; refine gI_c (gw 19 rfl rfl) ?_; refine gI_c (gw 20 rfl rfl) ?_; refine gI_c (gw 21 rfl rfl) ?_; refine gI_c (gw 22 rfl rfl) ?_; refine gI_c (gw 23 rfl rfl) ?_; refine gI_c (gw 24 rfl rfl) ?_; refine gI_c (gw 25 rfl rfl) ?_; refine gI_c (gw 26 rfl rfl) ?_; refine gI_c (gw 100 rfl rfl) ?_; refine gI_c (gw 101 rfl rfl) ?_; refine gI_c (gw 102 rfl rfl) ?_; refine gI_c (gw 103 rfl rfl) ?_; refine gI_c (gw 104 rfl rfl) ?_; refine gI_c (gw 105 rfl rfl) ?_; refine gI_c (gw 106 rfl rfl) ?_; refine gI_c (gw 107 rfl rfl) ?_; refine gI_c (gw 108 rfl rfl) ?_; refine gI_c (gw 109 rfl rfl) ?_; refine gI_c (gw 110 rfl rfl) ?_; refine gI_c (gw 111 rfl rfl) ?_; exact gI_n)
set_option maxRecDepth 20000 in
theorem gX1_vaporWithChoice_X0_copyFrom_n155 : GoodIn wsX1_vaporWithChoice (wsX0_copyFrom) := ggX1_vaporWithChoice_X0_copyFrom
set_option maxRecDepth 20000 in
theorem ggX1_vaporWithChoice_X0_pass : GoodIn wsX1_vaporWithChoice wsX0_pass := (by refine gI_c (gw 40 rfl rfl) ?_; refine gI_c (gw 18 rfl rfl) ?_; refine gI_c (gw 17 rfl rfl) ?_; refine gI_c (gw 41 rfl rfl) ?_; refine gI_c (gw 42 rfl rfl) ?_; refine gI_c (gw 43 rfl rfl) ?_; refine gI_c (gw 8 rfl rfl) ?_; refine gI_c (gw 44 rfl rfl) ?_; refine gI_c (gw 16 rfl rfl) ?_; refine gI_c (gw 14 rfl rfl) ?_; refine gI_c (gw 24 rfl rfl) ?_; refine gI_c (gw 26 rfl rfl) ?_; refine gI_c (gw 45 rfl rfl) ?_; refine gI_c (gw 46 rfl rfl) ?_; refine gI_c (gw 47 rfl rfl) ?_; refine gI_c (gw 48 rfl rfl) ?_; refine gI_c (gw 49 rfl rfl) ?_; refine gI_c (gw 50 rfl rfl) ?_; refine gI_c (gw 51 rfl rfl) ?_; refine gI_c (gw 52 rfl rfl) ?_; refine gI_c (gw 53 rfl rfl) ?_; refine gI_c (gw 54 rfl rfl) ?_; refine gI_c (gw 55 rfl rfl) ?_; refine gI_c (gw 56 rfl rfl) ?_; refine gI_c (gw 57 rfl rfl) ?_; refine gI_c (gw 58 rfl rfl) ?_; refine gI_c (gw 59 rfl rfl) ?_; refine gI_c (gw 60 rfl rfl) ?_; refine gI_c (gw 20 rfl rfl) ?_; refine gI_c (gw 23 rfl rfl) ?_; refine gI_c (gw 25 rfl rfl) ?_; refine gI_c (gw 61 rfl rfl) ?_; refine gI_c (gw 62 rfl rfl) ?_; refine gI_c (gw 63 rfl rfl) ?_; refine gI_c (gw 64 rfl rfl) ?_; refine gI_c (gw 21 rfl rfl) ?_; refine gI_c (gw 65 rfl rfl) ?_; refine gI_c (gw 66 rfl rfl) ?_; refine gI_c (gw 67 rfl rfl) ?_; refine gI_c (gw 68 rfl rfl) ?_; refine gI_c (gw 19 rfl rfl) ?_; refine gI_c (gw 69 rfl rfl) ?_; refine gI_c (gw 70 rfl rfl) ?_; refine gI_c (gw 71 rfl rfl) ?_; refine gI_c (gw 72 rfl rfl) ?_; refine gI_c (gw 73 rfl rfl) ?_; refine gI_c (gw 74 rfl rfl) ?_; refine gI_c (gw 75 rfl rfl) ?_; refine gI_c (gw 76 rfl rfl) ?_; refine gI_c (gw 77 rfl rfl) ?_; refine gI_c (gw 78 rfl rfl) ?_; refine gI_c (gw 79 rfl rfl) ?_; refine gI_c (gw 80 rfl rfl) ?_; refine gI_c (gw 81 rfl rfl) ?_; refine gI_c (gw 82 rfl rfl) ?_; refine gI_c (gw 83 rfl rfl) ?_; refine gI_c (gw 84 rfl rfl) ?_; refine gI_c (gw 22 rfl rfl) ?_; refine gI_c (gw 85 rfl rfl) ?_; refine gI_c (gw 86 rfl rfl) ?_; refine gI_c (gw 87 rfl rfl) ?_; refine gI_c (gw 88 rfl rfl) ?_; refine gI_c (gw 89 rfl rfl) ?_; refine gI_c (gw 90 rfl rfl) ?_; refine gI_c (gw 91 rfl rfl) ?_; refine gI_c (gw 100 rfl rfl) ?_; refine gI_c (gw 101 rfl rfl) ?_; refine gI_c (gw 102 rfl rfl) ?_; refine gI_c (gw 103 rfl rfl) ?_; refine gI_c (gw 104 rfl rfl) ?_; refine gI_c (gw 105 rfl rfl) ?_; refine gI_c (gw 106 rfl rfl) ?_; refine gI_c (gw 107 rfl rfl) ?_; refine gI_c (gw 108 rfl rfl) ?_; refine gI_c (gw 109 rfl rfl) ?_; refine gI_c (gw 110 rfl rfl) ?_; refine gI_c (gw 111 rfl rfl) ?_; exact gI_n)
set_option maxRecDepth 20000 in
theorem gX1_vaporWithChoice_X0_pass_n132 : GoodIn wsX1_vaporWithChoice (wsX0_pass) := ggX1_vaporWithChoice_X0_pass
set_option maxRecDepth 20000 in
theorem ggX1_vaporWithChoice_X1_greatestVapor : GoodIn wsX1_vaporWithChoice wsX1_greatestVapor := (by refine gI_c (gw 95 rfl rfl) ?_; refine gI_c (gw 96 rfl rfl) ?_; refine gI_c (gw 90 rfl rfl) ?_; refine gI_c (gw 59 rfl rfl) ?_; refine gI_c (gw 91 rfl rfl) ?_; refine gI_c (gw 97 rfl rfl) ?_; refine gI_c (gw 98 rfl rfl) ?_; refine gI_c (gw 99 rfl rfl) ?_; refine gI_c (gw 4 rfl rfl) ?_; refine gI_c (gw 0 rfl rfl) ?_; refine gI_c (gw 1 rfl rfl) ?_; refine gI_c (gw 2 rfl rfl) ?_; refine gI_c (gw 3 rfl rfl) ?_; refine gI_c (gw 5 rfl rfl) ?_; refine gI_c (gw 6 rfl rfl) ?_; refine gI_c (gw 7 rfl rfl) ?_; refine gI_c (gw 8 rfl rfl) ?_; refine gI_c (gw 9 rfl rfl) ?_; refine gI_c (gw 10 rfl rfl) ?_; refine gI_c (gw 11 rfl rfl) ?_; refine gI_c (gw 12 rfl rfl) ?_; refine gI_c (gw 13 rfl rfl) ?_; refine gI_c (gw 14 rfl rfl) ?_; refine gI_c (gw 15 rfl rfl) ?_; refine gI_c (gw 16 rfl rfl) ?_; refine gI_c (gw 17 rfl rfl) ?_; refine gI_c (gw 18 rfl rfl) ?_; refine gI_c (gw 19 rfl rfl) ?_; refine gI_c (gw 20 rfl rfl) ?_; refine gI_c (gw 21 rfl rfl) ?_; refine gI_c (gw 22 rfl rfl) ?_; refine gI_c (gw 23 rfl rfl) ?_; refine gI_c (gw 24 rfl rfl) ?_; refine gI_c (gw 25 rfl rfl) ?_; refine gI_c (gw 26 rfl rfl) ?_; refine gI_c (gw 27 rfl rfl) ?_; refine gI_c (gw 28 rfl rfl) ?_; refine gI_c (gw 29 rfl rfl) ?_; refine gI_c (gw 30 rfl rfl) ?_; refine gI_c (gw 31 rfl rfl) ?_; refine gI_c (gw 32 rfl rfl) ?_; refine gI_c (gw 33 rfl rfl) ?_; refine gI_c (gw 34 rfl rfl) ?_; refine gI_c (gw 35 rfl rfl) ?_; refine gI_c (gw 36 rfl rfl) ?_; refine gI_c (gw 37 rfl rfl) ?_; refine gI_c (gw 38 rfl rfl) ?_; refine gI_c (gw 39 rfl rfl) ?_; refine gI_c (gw 40 rfl rfl) ?_; refine gI_c (gw 41 rfl rfl) ?_; refine gI_c (gw 42 rfl rfl) ?_; refine gI_c (gw 43 rfl rfl) ?_; refine gI_c (gw 44 rfl rfl) ?_; refine gI_c (gw 45 rfl rfl) ?_; refine gI_c (gw 46 rfl rfl) ?_; refine gI_c (gw 47 rfl rfl) ?_; refine gI_c (gw 48 rfl rfl) ?_; refine gI_c (gw 49 rfl rfl) ?_; refine gI_c (gw 50 rfl rfl) ?_; refine gI_c (gw 51 rfl rfl) ?_; refine gI_c (gw 52 rfl rfl) ?_; refine gI_c (gw 53 rfl rfl) ?_; refine gI_c (gw 54 rfl rfl) ?_; refine gI_c (gw 55 rfl rfl) ?_; refine gI_c (gw 56 rfl rfl) ?_; refine gI_c (gw 57 rfl rfl) ?_; refine gI_c (gw 58 rfl rfl) ?_; refine gI_c (gw 60 rfl rfl) ?_; refine gI_c (gw 61 rfl rfl) ?_; refine gI_c (gw 62 rfl rfl) ?_; refine gI_c (gw 63 rfl rfl) ?_; refine gI_c (gw 64 rfl rfl) ?_; refine gI_c (gw 65 rfl rfl) ?_; refine gI_c (gw 66 rfl rfl) ?_; refine gI_c (gw 67 rfl rfl) ?_; refine gI_c (gw 68 rfl rfl) ?_; refine gI_c (gw 69 rfl rfl) ?_; refine gI_c (gw 70 rfl rfl) ?_; refine gI_c (gw 71 rfl rfl) ?_; refine gI_c (gw 72 rfl rfl) ?_; refine gI_c (gw 73 rfl rfl) ?_; refine gI_c (gw 74 rfl rfl) ?_; refine gI_c (gw 75 rfl rfl) ?_; refine gI_c (gw 76 rfl rfl) ?_; refine gI_c (gw 77 rfl rfl) ?_; refine gI_c (gw 78 rfl rfl) ?_; refine gI_c (gw 79 rfl rfl) ?_; refine gI_c (gw 80 rfl rfl) ?_; refine gI_c (gw 81 rfl rfl) ?_; refine gI_c (gw 82 rfl rfl) ?_; refine gI_c (gw 83 rfl rfl) ?_; refine gI_c (gw 84 rfl rfl) ?_; refine gI_c (gw 85 rfl rfl) ?_; refine gI_c (gw 86 rfl rfl) ?_; refine gI_c (gw 87 rfl rfl) ?_; refine gI_c (gw 88 rfl rfl) ?_; refine gI_c (gw 89 rfl rfl) ?_; refine gI_c (gw 92 rfl rfl) ?_; refine gI_c (gw 93 rfl rfl) ?_; refine gI_c (gw 94 rfl rfl) ?_; refine gI_c (gw 100 rfl rfl) ?_; refine gI_c (gw 101 rfl rfl) ?_; refine gI_c (gw 102 rfl rfl) ?_; refine gI_c (gw 103 rfl rfl) ?_; refine gI_c (gw 104 rfl rfl) ?_; refine gI_c (gw 105 rfl rfl) ?_; refine gI_c (gw 106 rfl rfl) ?_; refine gI_c (gw 107 rfl rfl) ?_; refine gI_c (gw 108 rfl rfl) ?_; refine gI_c (gw 109 rfl rfl) ?_; refine gI_c (gw 110 rfl rfl) ?_; refine gI_c (gw 111 rfl rfl) ?_; refine gI_c (gw 112 rfl rfl) ?_; refine gI_c (gw 113 rfl rfl) ?_; refine gI_c (gw 114 rfl rfl) ?_; refine gI_c (gw 115 rfl rfl) ?_; refine gI_c (gw 116 rfl rfl) ?_; refine gI_c (gw 117 rfl rfl) ?_; refine gI_c (gw 118 rfl rfl) ?_; refine gI_c (gw 119 rfl rfl) ?_; refine gI_c (gw 120 rfl rfl) ?_; refine gI_c (gw 121 rfl rfl) ?_; refine gI_c (gw 122 rfl rfl) ?_; exact gI_n)
set_option maxRecDepth 20000 in
theorem gX1_vaporWithChoice_X1_greatestVapor : GoodIn wsX1_vaporWithChoice (wsV RX1 163 RX1 yX1_greatestVapor wsX1_greatestVapor) := goodIn_app (goodIn_of _ (by decide +kernel)) ggX1_vaporWithChoice_X1_greatestVapor
theorem dX1_vaporWithChoice_0 : decode cX1_vaporWithChoice 0 = .ok (.iload_n 2, 1) := by decide +kernel
theorem dX1_vaporWithChoice_1 : decode cX1_vaporWithChoice 1 = .ok (.ifCond .lt 14, 3) := by decide +kernel
theorem dX1_vaporWithChoice_4 : decode cX1_vaporWithChoice 4 = .ok (.aload_n 1, 1) := by decide +kernel
theorem dX1_vaporWithChoice_5 : decode cX1_vaporWithChoice 5 = .ok (.getfield 144, 3) := by decide +kernel
theorem dX1_vaporWithChoice_8 : decode cX1_vaporWithChoice 8 = .ok (.iload_n 2, 1) := by decide +kernel
theorem dX1_vaporWithChoice_9 : decode cX1_vaporWithChoice 9 = .ok (.iaload, 1) := by decide +kernel
theorem dX1_vaporWithChoice_10 : decode cX1_vaporWithChoice 10 = .ok (.ifCond .le 5, 3) := by decide +kernel
theorem dX1_vaporWithChoice_13 : decode cX1_vaporWithChoice 13 = .ok (.iconst (-1), 1) := by decide +kernel
theorem dX1_vaporWithChoice_14 : decode cX1_vaporWithChoice 14 = .ok (.ireturn, 1) := by decide +kernel
theorem dX1_vaporWithChoice_15 : decode cX1_vaporWithChoice 15 = .ok (.aload_n 0, 1) := by decide +kernel
theorem dX1_vaporWithChoice_16 : decode cX1_vaporWithChoice 16 = .ok (.getfield 31, 3) := by decide +kernel
theorem dX1_vaporWithChoice_19 : decode cX1_vaporWithChoice 19 = .ok (.iload_n 3, 1) := by decide +kernel
theorem dX1_vaporWithChoice_20 : decode cX1_vaporWithChoice 20 = .ok (.iconst 1, 1) := by decide +kernel
theorem dX1_vaporWithChoice_21 : decode cX1_vaporWithChoice 21 = .ok (.isub, 1) := by decide +kernel
theorem dX1_vaporWithChoice_22 : decode cX1_vaporWithChoice 22 = .ok (.invokestatic 151, 3) := by decide +kernel
theorem dX1_vaporWithChoice_25 : decode cX1_vaporWithChoice 25 = .ok (.astore 4, 2) := by decide +kernel
theorem dX1_vaporWithChoice_27 : decode cX1_vaporWithChoice 27 = .ok (.aload 4, 2) := by decide +kernel
theorem dX1_vaporWithChoice_29 : decode cX1_vaporWithChoice 29 = .ok (.aload_n 1, 1) := by decide +kernel
theorem dX1_vaporWithChoice_30 : decode cX1_vaporWithChoice 30 = .ok (.invokevirtual 155, 3) := by decide +kernel
theorem dX1_vaporWithChoice_33 : decode cX1_vaporWithChoice 33 = .ok (.iload_n 2, 1) := by decide +kernel
theorem dX1_vaporWithChoice_34 : decode cX1_vaporWithChoice 34 = .ok (.ifCond .lt 11, 3) := by decide +kernel
theorem dX1_vaporWithChoice_37 : decode cX1_vaporWithChoice 37 = .ok (.aload 4, 2) := by decide +kernel
theorem dX1_vaporWithChoice_39 : decode cX1_vaporWithChoice 39 = .ok (.getfield 144, 3) := by decide +kernel
theorem dX1_vaporWithChoice_42 : decode cX1_vaporWithChoice 42 = .ok (.iload_n 2, 1) := by decide +kernel
theorem dX1_vaporWithChoice_43 : decode cX1_vaporWithChoice 43 = .ok (.iconst 5, 1) := by decide +kernel
theorem dX1_vaporWithChoice_44 : decode cX1_vaporWithChoice 44 = .ok (.iastore, 1) := by decide +kernel
theorem dX1_vaporWithChoice_45 : decode cX1_vaporWithChoice 45 = .ok (.aload 4, 2) := by decide +kernel
theorem dX1_vaporWithChoice_47 : decode cX1_vaporWithChoice 47 = .ok (.iconst 5, 1) := by decide +kernel
theorem dX1_vaporWithChoice_48 : decode cX1_vaporWithChoice 48 = .ok (.invokevirtual 132, 3) := by decide +kernel
theorem dX1_vaporWithChoice_51 : decode cX1_vaporWithChoice 51 = .ok (.aload_n 0, 1) := by decide +kernel
theorem dX1_vaporWithChoice_52 : decode cX1_vaporWithChoice 52 = .ok (.aload 4, 2) := by decide +kernel
theorem dX1_vaporWithChoice_54 : decode cX1_vaporWithChoice 54 = .ok (.iload_n 3, 1) := by decide +kernel
theorem dX1_vaporWithChoice_55 : decode cX1_vaporWithChoice 55 = .ok (.iconst 1, 1) := by decide +kernel
theorem dX1_vaporWithChoice_56 : decode cX1_vaporWithChoice 56 = .ok (.isub, 1) := by decide +kernel
theorem dX1_vaporWithChoice_57 : decode cX1_vaporWithChoice 57 = .ok (.invokevirtual 163, 3) := by decide +kernel
theorem dX1_vaporWithChoice_60 : decode cX1_vaporWithChoice 60 = .ok (.iadd, 1) := by decide +kernel
theorem dX1_vaporWithChoice_61 : decode cX1_vaporWithChoice 61 = .ok (.ireturn, 1) := by decide +kernel
set_option maxRecDepth 20000 in
theorem ggX1_greatestVapor_X1_vaporWithChoice : GoodIn wsX1_greatestVapor wsX1_vaporWithChoice := (by refine gI_c (gw 9 rfl rfl) ?_; refine gI_c (gw 10 rfl rfl) ?_; refine gI_c (gw 11 rfl rfl) ?_; refine gI_c (gw 12 rfl rfl) ?_; refine gI_c (gw 8 rfl rfl) ?_; refine gI_c (gw 13 rfl rfl) ?_; refine gI_c (gw 14 rfl rfl) ?_; refine gI_c (gw 15 rfl rfl) ?_; refine gI_c (gw 16 rfl rfl) ?_; refine gI_c (gw 17 rfl rfl) ?_; refine gI_c (gw 18 rfl rfl) ?_; refine gI_c (gw 19 rfl rfl) ?_; refine gI_c (gw 20 rfl rfl) ?_; refine gI_c (gw 21 rfl rfl) ?_; refine gI_c (gw 22 rfl rfl) ?_; refine gI_c (gw 23 rfl rfl) ?_; refine gI_c (gw 24 rfl rfl) ?_; refine gI_c (gw 25 rfl rfl) ?_; refine gI_c (gw 26 rfl rfl) ?_; refine gI_c (gw 27 rfl rfl) ?_; refine gI_c (gw 28 rfl rfl) ?_; refine gI_c (gw 29 rfl rfl) ?_; refine gI_c (gw 30 rfl rfl) ?_; refine gI_c (gw 31 rfl rfl) ?_; refine gI_c (gw 32 rfl rfl) ?_; refine gI_c (gw 33 rfl rfl) ?_; refine gI_c (gw 34 rfl rfl) ?_; refine gI_c (gw 35 rfl rfl) ?_; refine gI_c (gw 36 rfl rfl) ?_; refine gI_c (gw 37 rfl rfl) ?_; refine gI_c (gw 38 rfl rfl) ?_; refine gI_c (gw 39 rfl rfl) ?_; refine gI_c (gw 40 rfl rfl) ?_; refine gI_c (gw 41 rfl rfl) ?_; refine gI_c (gw 42 rfl rfl) ?_; refine gI_c (gw 43 rfl rfl) ?_; refine gI_c (gw 44 rfl rfl) ?_; refine gI_c (gw 45 rfl rfl) ?_; refine gI_c (gw 46 rfl rfl) ?_; refine gI_c (gw 47 rfl rfl) ?_; refine gI_c (gw 48 rfl rfl) ?_; refine gI_c (gw 49 rfl rfl) ?_; refine gI_c (gw 50 rfl rfl) ?_; refine gI_c (gw 51 rfl rfl) ?_; refine gI_c (gw 52 rfl rfl) ?_; refine gI_c (gw 53 rfl rfl) ?_; refine gI_c (gw 54 rfl rfl) ?_; refine gI_c (gw 55 rfl rfl) ?_; refine gI_c (gw 56 rfl rfl) ?_; refine gI_c (gw 57 rfl rfl) ?_; refine gI_c (gw 58 rfl rfl) ?_; refine gI_c (gw 59 rfl rfl) ?_; refine gI_c (gw 60 rfl rfl) ?_; refine gI_c (gw 61 rfl rfl) ?_; refine gI_c (gw 62 rfl rfl) ?_; refine gI_c (gw 63 rfl rfl) ?_; refine gI_c (gw 64 rfl rfl) ?_; refine gI_c (gw 65 rfl rfl) ?_; refine gI_c (gw 66 rfl rfl) ?_; refine gI_c (gw 3 rfl rfl) ?_; refine gI_c (gw 67 rfl rfl) ?_; refine gI_c (gw 68 rfl rfl) ?_; refine gI_c (gw 69 rfl rfl) ?_; refine gI_c (gw 70 rfl rfl) ?_; refine gI_c (gw 71 rfl rfl) ?_; refine gI_c (gw 72 rfl rfl) ?_; refine gI_c (gw 73 rfl rfl) ?_; refine gI_c (gw 74 rfl rfl) ?_; refine gI_c (gw 75 rfl rfl) ?_; refine gI_c (gw 76 rfl rfl) ?_; refine gI_c (gw 77 rfl rfl) ?_; refine gI_c (gw 78 rfl rfl) ?_; refine gI_c (gw 79 rfl rfl) ?_; refine gI_c (gw 80 rfl rfl) ?_; refine gI_c (gw 81 rfl rfl) ?_; refine gI_c (gw 82 rfl rfl) ?_; refine gI_c (gw 83 rfl rfl) ?_; refine gI_c (gw 84 rfl rfl) ?_; refine gI_c (gw 85 rfl rfl) ?_; refine gI_c (gw 86 rfl rfl) ?_; refine gI_c (gw 87 rfl rfl) ?_; refine gI_c (gw 88 rfl rfl) ?_; refine gI_c (gw 89 rfl rfl) ?_; refine gI_c (gw 90 rfl rfl) ?_; refine gI_c (gw 91 rfl rfl) ?_; refine gI_c (gw 92 rfl rfl) ?_; refine gI_c (gw 93 rfl rfl) ?_; refine gI_c (gw 94 rfl rfl) ?_; refine gI_c (gw 95 rfl rfl) ?_; refine gI_c (gw 96 rfl rfl) ?_; refine gI_c (gw 2 rfl rfl) ?_; refine gI_c (gw 4 rfl rfl) ?_; refine gI_c (gw 97 rfl rfl) ?_; refine gI_c (gw 98 rfl rfl) ?_; refine gI_c (gw 99 rfl rfl) ?_; refine gI_c (gw 0 rfl rfl) ?_; refine gI_c (gw 1 rfl rfl) ?_; refine gI_c (gw 5 rfl rfl) ?_; refine gI_c (gw 6 rfl rfl) ?_; refine gI_c (gw 7 rfl rfl) ?_; refine gI_c (gw 100 rfl rfl) ?_; refine gI_c (gw 101 rfl rfl) ?_; refine gI_c (gw 102 rfl rfl) ?_; refine gI_c (gw 103 rfl rfl) ?_; refine gI_c (gw 104 rfl rfl) ?_; refine gI_c (gw 105 rfl rfl) ?_; refine gI_c (gw 106 rfl rfl) ?_; refine gI_c (gw 107 rfl rfl) ?_; refine gI_c (gw 108 rfl rfl) ?_; refine gI_c (gw 109 rfl rfl) ?_; refine gI_c (gw 110 rfl rfl) ?_; refine gI_c (gw 111 rfl rfl) ?_; refine gI_c (gw 112 rfl rfl) ?_; refine gI_c (gw 113 rfl rfl) ?_; refine gI_c (gw 114 rfl rfl) ?_; refine gI_c (gw 115 rfl rfl) ?_; refine gI_c (gw 116 rfl rfl) ?_; refine gI_c (gw 117 rfl rfl) ?_; refine gI_c (gw 118 rfl rfl) ?_; refine gI_c (gw 119 rfl rfl) ?_; refine gI_c (gw 120 rfl rfl) ?_; refine gI_c (gw 121 rfl rfl) ?_; refine gI_c (gw 122 rfl rfl) ?_; exact gI_n)
set_option maxRecDepth 20000 in
theorem gX1_greatestVapor_X1_vaporWithChoice : GoodIn wsX1_greatestVapor (wsV RX1 159 RX1 yX1_vaporWithChoice wsX1_vaporWithChoice) := goodIn_app (goodIn_of _ (by decide +kernel)) ggX1_greatestVapor_X1_vaporWithChoice
theorem dX1_greatestVapor_0 : decode cX1_greatestVapor 0 = .ok (.iconst 0, 1) := by decide +kernel
theorem dX1_greatestVapor_1 : decode cX1_greatestVapor 1 = .ok (.istore_n 3, 1) := by decide +kernel
theorem dX1_greatestVapor_2 : decode cX1_greatestVapor 2 = .ok (.iload_n 2, 1) := by decide +kernel
theorem dX1_greatestVapor_3 : decode cX1_greatestVapor 3 = .ok (.ifCond .le 34, 3) := by decide +kernel
theorem dX1_greatestVapor_6 : decode cX1_greatestVapor 6 = .ok (.iconst (-1), 1) := by decide +kernel
theorem dX1_greatestVapor_7 : decode cX1_greatestVapor 7 = .ok (.istore 4, 2) := by decide +kernel
theorem dX1_greatestVapor_9 : decode cX1_greatestVapor 9 = .ok (.iload 4, 2) := by decide +kernel
theorem dX1_greatestVapor_11 : decode cX1_greatestVapor 11 = .ok (.aload_n 1, 1) := by decide +kernel
theorem dX1_greatestVapor_12 : decode cX1_greatestVapor 12 = .ok (.getfield 94, 3) := by decide +kernel
theorem dX1_greatestVapor_15 : decode cX1_greatestVapor 15 = .ok (.if_icmp .ge 22, 3) := by decide +kernel
theorem dX1_greatestVapor_18 : decode cX1_greatestVapor 18 = .ok (.iload_n 3, 1) := by decide +kernel
theorem dX1_greatestVapor_19 : decode cX1_greatestVapor 19 = .ok (.aload_n 0, 1) := by decide +kernel
theorem dX1_greatestVapor_20 : decode cX1_greatestVapor 20 = .ok (.aload_n 1, 1) := by decide +kernel
theorem dX1_greatestVapor_21 : decode cX1_greatestVapor 21 = .ok (.iload 4, 2) := by decide +kernel
theorem dX1_greatestVapor_23 : decode cX1_greatestVapor 23 = .ok (.iload_n 2, 1) := by decide +kernel
theorem dX1_greatestVapor_24 : decode cX1_greatestVapor 24 = .ok (.invokevirtual 159, 3) := by decide +kernel
theorem dX1_greatestVapor_27 : decode cX1_greatestVapor 27 = .ok (.invokestatic 167, 3) := by decide +kernel
theorem dX1_greatestVapor_30 : decode cX1_greatestVapor 30 = .ok (.istore_n 3, 1) := by decide +kernel
theorem dX1_greatestVapor_31 : decode cX1_greatestVapor 31 = .ok (.iinc 4 1, 3) := by decide +kernel
theorem dX1_greatestVapor_34 : decode cX1_greatestVapor 34 = .ok (.goto (-25), 3) := by decide +kernel
theorem dX1_greatestVapor_37 : decode cX1_greatestVapor 37 = .ok (.iload_n 3, 1) := by decide +kernel
theorem dX1_greatestVapor_38 : decode cX1_greatestVapor 38 = .ok (.ireturn, 1) := by decide +kernel
set_option maxRecDepth 20000 in
theorem ggX1_scaledAfter_X1_checkEffect : GoodIn wsX1_scaledAfter wsX1_checkEffect := goodIn_ca ((by refine gI_c (gw 7 rfl rfl) ?_; refine gI_c (gw 8 rfl rfl) ?_; refine gI_c (gw 9 rfl rfl) ?_; refine gI_c (gw 2 rfl rfl) ?_; refine gI_c (gw 89 rfl rfl) ?_; refine gI_c (gw 90 rfl rfl) ?_; refine gI_c (gw 91 rfl rfl) ?_; refine gI_c (gw 92 rfl rfl) ?_; refine gI_c (gw 93 rfl rfl) ?_; refine gI_c (gw 94 rfl rfl) ?_; refine gI_c (gw 95 rfl rfl) ?_; refine gI_c (gw 96 rfl rfl) ?_; refine gI_c (gw 97 rfl rfl) ?_; refine gI_c (gw 98 rfl rfl) ?_; refine gI_c (gw 99 rfl rfl) ?_; refine gI_c (gw 100 rfl rfl) ?_; refine gI_c (gw 101 rfl rfl) ?_; refine gI_c (gw 102 rfl rfl) ?_; refine gI_c (gw 103 rfl rfl) ?_; refine gI_c (gw 104 rfl rfl) ?_; refine gI_c (gw 105 rfl rfl) ?_; refine gI_c (gw 106 rfl rfl) ?_; refine gI_c (gw 107 rfl rfl) ?_; refine gI_c (gw 108 rfl rfl) ?_; refine gI_c (gw 109 rfl rfl) ?_; refine gI_c (gw 110 rfl rfl) ?_; refine gI_c (gw 111 rfl rfl) ?_; exact gI_n)) (goodIn_sub (fun _ h => List.mem_cons_of_mem _ (List.mem_append_left _ (List.mem_append_right _ h))) (by decide +kernel))
set_option maxRecDepth 20000 in
theorem gX1_scaledAfter_X1_checkEffect : GoodIn wsX1_scaledAfter (wsV RX1 109 RX1 yX1_checkEffect wsX1_checkEffect) := goodIn_app (goodIn_of _ (by decide +kernel)) ggX1_scaledAfter_X1_checkEffect
set_option maxRecDepth 20000 in
theorem ggX1_scaledAfter_X1_checkRange : GoodIn wsX1_scaledAfter wsX1_checkRange := goodIn_ca ((by refine gI_c (gw 12 rfl rfl) ?_; refine gI_c (gw 13 rfl rfl) ?_; refine gI_c (gw 14 rfl rfl) ?_; exact gI_n)) (goodIn_sub (fun _ h => List.mem_cons_of_mem _ (List.mem_append_right _ h)) (by decide +kernel))
set_option maxRecDepth 20000 in
theorem gX1_scaledAfter_X1_checkRange : GoodIn wsX1_scaledAfter (va_wsS RX1 51 yX1_checkRange wsX1_checkRange) := goodIn_app (goodIn_of _ (by decide +kernel)) ggX1_scaledAfter_X1_checkRange
set_option maxRecDepth 20000 in
theorem ggX1_scaledAfter_X0_copyFrom : GoodIn wsX1_scaledAfter wsX0_copyFrom := (by refine gI_c (gw 18 rfl rfl) ?_; refine gI_c (gw 19 rfl rfl) ?_; refine gI_c (gw 20 rfl rfl) ?_; refine gI_c (gw 21 rfl rfl) ?_; refine gI_c (gw 22 rfl rfl) ?_; refine gI_c (gw 23 rfl rfl) ?_; refine gI_c (gw 24 rfl rfl) ?_; refine gI_c (gw 25 rfl rfl) ?_; refine gI_c (gw 26 rfl rfl) ?_; refine gI_c (gw 27 rfl rfl) ?_; refine gI_c (gw 28 rfl rfl) ?_; refine gI_c (gw 29 rfl rfl) ?_; refine gI_c (gw 30 rfl rfl) ?_; refine gI_c (gw 31 rfl rfl) ?_; refine gI_c (gw 32 rfl rfl) ?_; refine gI_c (gw 33 rfl rfl) ?_; refine gI_c (gw 34 rfl rfl) ?_; refine gI_c (gw 100 rfl rfl) ?_; refine gI_c (gw 101 rfl rfl) ?_; refine gI_c (gw 102 rfl rfl) ?_; refine gI_c (gw 103 rfl rfl) ?_; refine gI_c (gw 104 rfl rfl) ?_; refine gI_c (gw 105 rfl rfl) ?_; refine gI_c (gw 106 rfl rfl) ?_; refine gI_c (gw 107 rfl rfl) ?_; refine gI_c (gw 108 rfl rfl) ?_; refine gI_c (gw 109 rfl rfl) ?_; refine gI_c (gw 110 rfl rfl) ?_; refine gI_c (gw 111 rfl rfl) ?_; exact gI_n)
set_option maxRecDepth 20000 in
theorem gX1_scaledAfter_X0_copyFrom_n155 : GoodIn wsX1_scaledAfter (wsX0_copyFrom) := ggX1_scaledAfter_X0_copyFrom
set_option maxRecDepth 20000 in
theorem ggX1_scaledAfter_X0_pass : GoodIn wsX1_scaledAfter wsX0_pass := (by refine gI_c (gw 37 rfl rfl) ?_; refine gI_c (gw 26 rfl rfl) ?_; refine gI_c (gw 20 rfl rfl) ?_; refine gI_c (gw 38 rfl rfl) ?_; refine gI_c (gw 39 rfl rfl) ?_; refine gI_c (gw 40 rfl rfl) ?_; refine gI_c (gw 16 rfl rfl) ?_; refine gI_c (gw 41 rfl rfl) ?_; refine gI_c (gw 21 rfl rfl) ?_; refine gI_c (gw 19 rfl rfl) ?_; refine gI_c (gw 32 rfl rfl) ?_; refine gI_c (gw 34 rfl rfl) ?_; refine gI_c (gw 42 rfl rfl) ?_; refine gI_c (gw 43 rfl rfl) ?_; refine gI_c (gw 44 rfl rfl) ?_; refine gI_c (gw 45 rfl rfl) ?_; refine gI_c (gw 46 rfl rfl) ?_; refine gI_c (gw 47 rfl rfl) ?_; refine gI_c (gw 48 rfl rfl) ?_; refine gI_c (gw 49 rfl rfl) ?_; refine gI_c (gw 50 rfl rfl) ?_; refine gI_c (gw 51 rfl rfl) ?_; refine gI_c (gw 52 rfl rfl) ?_; refine gI_c (gw 53 rfl rfl) ?_; refine gI_c (gw 54 rfl rfl) ?_; refine gI_c (gw 55 rfl rfl) ?_; refine gI_c (gw 56 rfl rfl) ?_; refine gI_c (gw 57 rfl rfl) ?_; refine gI_c (gw 28 rfl rfl) ?_; refine gI_c (gw 31 rfl rfl) ?_; refine gI_c (gw 33 rfl rfl) ?_; refine gI_c (gw 58 rfl rfl) ?_; refine gI_c (gw 59 rfl rfl) ?_; refine gI_c (gw 60 rfl rfl) ?_; refine gI_c (gw 61 rfl rfl) ?_; refine gI_c (gw 29 rfl rfl) ?_; refine gI_c (gw 62 rfl rfl) ?_; refine gI_c (gw 63 rfl rfl) ?_; refine gI_c (gw 64 rfl rfl) ?_; refine gI_c (gw 65 rfl rfl) ?_; refine gI_c (gw 27 rfl rfl) ?_; refine gI_c (gw 66 rfl rfl) ?_; refine gI_c (gw 67 rfl rfl) ?_; refine gI_c (gw 68 rfl rfl) ?_; refine gI_c (gw 69 rfl rfl) ?_; refine gI_c (gw 70 rfl rfl) ?_; refine gI_c (gw 71 rfl rfl) ?_; refine gI_c (gw 72 rfl rfl) ?_; refine gI_c (gw 73 rfl rfl) ?_; refine gI_c (gw 74 rfl rfl) ?_; refine gI_c (gw 75 rfl rfl) ?_; refine gI_c (gw 76 rfl rfl) ?_; refine gI_c (gw 77 rfl rfl) ?_; refine gI_c (gw 78 rfl rfl) ?_; refine gI_c (gw 79 rfl rfl) ?_; refine gI_c (gw 80 rfl rfl) ?_; refine gI_c (gw 81 rfl rfl) ?_; refine gI_c (gw 30 rfl rfl) ?_; refine gI_c (gw 82 rfl rfl) ?_; refine gI_c (gw 83 rfl rfl) ?_; refine gI_c (gw 84 rfl rfl) ?_; refine gI_c (gw 85 rfl rfl) ?_; refine gI_c (gw 86 rfl rfl) ?_; refine gI_c (gw 87 rfl rfl) ?_; refine gI_c (gw 88 rfl rfl) ?_; refine gI_c (gw 100 rfl rfl) ?_; refine gI_c (gw 101 rfl rfl) ?_; refine gI_c (gw 102 rfl rfl) ?_; refine gI_c (gw 103 rfl rfl) ?_; refine gI_c (gw 104 rfl rfl) ?_; refine gI_c (gw 105 rfl rfl) ?_; refine gI_c (gw 106 rfl rfl) ?_; refine gI_c (gw 107 rfl rfl) ?_; refine gI_c (gw 108 rfl rfl) ?_; refine gI_c (gw 109 rfl rfl) ?_; refine gI_c (gw 110 rfl rfl) ?_; refine gI_c (gw 111 rfl rfl) ?_; exact gI_n)
set_option maxRecDepth 20000 in
theorem gX1_scaledAfter_X0_pass_n132 : GoodIn wsX1_scaledAfter (wsX0_pass) := ggX1_scaledAfter_X0_pass
theorem dX1_scaledAfter_0 : decode cX1_scaledAfter 0 = .ok (.aload_n 0, 1) := by decide +kernel
theorem dX1_scaledAfter_1 : decode cX1_scaledAfter 1 = .ok (.iload_n 1, 1) := by decide +kernel
theorem dX1_scaledAfter_2 : decode cX1_scaledAfter 2 = .ok (.invokevirtual 109, 3) := by decide +kernel
theorem dX1_scaledAfter_5 : decode cX1_scaledAfter 5 = .ok (.iload_n 2, 1) := by decide +kernel
theorem dX1_scaledAfter_6 : decode cX1_scaledAfter 6 = .ok (.iconst 1, 1) := by decide +kernel
theorem dX1_scaledAfter_7 : decode cX1_scaledAfter 7 = .ok (.bipush 99, 2) := by decide +kernel
theorem dX1_scaledAfter_9 : decode cX1_scaledAfter 9 = .ok (.invokestatic 51, 3) := by decide +kernel
theorem dX1_scaledAfter_12 : decode cX1_scaledAfter 12 = .ok (.aload_n 0, 1) := by decide +kernel
theorem dX1_scaledAfter_13 : decode cX1_scaledAfter 13 = .ok (.getfield 28, 3) := by decide +kernel
theorem dX1_scaledAfter_16 : decode cX1_scaledAfter 16 = .ok (.aload_n 0, 1) := by decide +kernel
theorem dX1_scaledAfter_17 : decode cX1_scaledAfter 17 = .ok (.getfield 24, 3) := by decide +kernel
theorem dX1_scaledAfter_20 : decode cX1_scaledAfter 20 = .ok (.invokevirtual 155, 3) := by decide +kernel
theorem dX1_scaledAfter_23 : decode cX1_scaledAfter 23 = .ok (.iconst 0, 1) := by decide +kernel
theorem dX1_scaledAfter_24 : decode cX1_scaledAfter 24 = .ok (.istore_n 3, 1) := by decide +kernel
theorem dX1_scaledAfter_25 : decode cX1_scaledAfter 25 = .ok (.iload_n 3, 1) := by decide +kernel
theorem dX1_scaledAfter_26 : decode cX1_scaledAfter 26 = .ok (.sipush 200, 3) := by decide +kernel
theorem dX1_scaledAfter_29 : decode cX1_scaledAfter 29 = .ok (.if_icmp .gt 33, 3) := by decide +kernel
theorem dX1_scaledAfter_32 : decode cX1_scaledAfter 32 = .ok (.aload_n 0, 1) := by decide +kernel
theorem dX1_scaledAfter_33 : decode cX1_scaledAfter 33 = .ok (.getfield 28, 3) := by decide +kernel
theorem dX1_scaledAfter_36 : decode cX1_scaledAfter 36 = .ok (.getfield 172, 3) := by decide +kernel
theorem dX1_scaledAfter_39 : decode cX1_scaledAfter 39 = .ok (.iload_n 1, 1) := by decide +kernel
theorem dX1_scaledAfter_40 : decode cX1_scaledAfter 40 = .ok (.iaload, 1) := by decide +kernel
theorem dX1_scaledAfter_41 : decode cX1_scaledAfter 41 = .ok (.iload_n 2, 1) := by decide +kernel
theorem dX1_scaledAfter_42 : decode cX1_scaledAfter 42 = .ok (.if_icmp .lt 5, 3) := by decide +kernel
theorem dX1_scaledAfter_45 : decode cX1_scaledAfter 45 = .ok (.iload_n 3, 1) := by decide +kernel
theorem dX1_scaledAfter_46 : decode cX1_scaledAfter 46 = .ok (.ireturn, 1) := by decide +kernel
theorem dX1_scaledAfter_47 : decode cX1_scaledAfter 47 = .ok (.aload_n 0, 1) := by decide +kernel
theorem dX1_scaledAfter_48 : decode cX1_scaledAfter 48 = .ok (.getfield 28, 3) := by decide +kernel
theorem dX1_scaledAfter_51 : decode cX1_scaledAfter 51 = .ok (.iconst 1, 1) := by decide +kernel
theorem dX1_scaledAfter_52 : decode cX1_scaledAfter 52 = .ok (.invokevirtual 132, 3) := by decide +kernel
theorem dX1_scaledAfter_55 : decode cX1_scaledAfter 55 = .ok (.pop, 1) := by decide +kernel
theorem dX1_scaledAfter_56 : decode cX1_scaledAfter 56 = .ok (.iinc 3 1, 3) := by decide +kernel
theorem dX1_scaledAfter_59 : decode cX1_scaledAfter 59 = .ok (.goto (-34), 3) := by decide +kernel
theorem dX1_scaledAfter_62 : decode cX1_scaledAfter 62 = .ok (.bipush (-9), 2) := by decide +kernel
theorem dX1_scaledAfter_64 : decode cX1_scaledAfter 64 = .ok (.ireturn, 1) := by decide +kernel
set_option maxRecDepth 20000 in
theorem ggX1_steamFor_X1_checkRange : GoodIn wsX1_steamFor wsX1_checkRange := goodIn_ca ((by refine gI_c (gw 6 rfl rfl) ?_; refine gI_c (gw 7 rfl rfl) ?_; refine gI_c (gw 8 rfl rfl) ?_; exact gI_n)) (goodIn_sub (fun _ h => List.mem_cons_of_mem _ (List.mem_append_right _ h)) (by decide +kernel))
set_option maxRecDepth 20000 in
theorem gX1_steamFor_X1_checkRange : GoodIn wsX1_steamFor (va_wsS RX1 51 yX1_checkRange wsX1_checkRange) := goodIn_app (goodIn_of _ (by decide +kernel)) ggX1_steamFor_X1_checkRange
set_option maxRecDepth 20000 in
theorem ggX1_steamFor_X0_copyFrom : GoodIn wsX1_steamFor wsX0_copyFrom := (by refine gI_c (gw 12 rfl rfl) ?_; refine gI_c (gw 13 rfl rfl) ?_; refine gI_c (gw 14 rfl rfl) ?_; refine gI_c (gw 15 rfl rfl) ?_; refine gI_c (gw 16 rfl rfl) ?_; refine gI_c (gw 17 rfl rfl) ?_; refine gI_c (gw 18 rfl rfl) ?_; refine gI_c (gw 19 rfl rfl) ?_; refine gI_c (gw 20 rfl rfl) ?_; refine gI_c (gw 21 rfl rfl) ?_; refine gI_c (gw 22 rfl rfl) ?_; refine gI_c (gw 23 rfl rfl) ?_; refine gI_c (gw 24 rfl rfl) ?_; refine gI_c (gw 25 rfl rfl) ?_; refine gI_c (gw 26 rfl rfl) ?_; refine gI_c (gw 27 rfl rfl) ?_; refine gI_c (gw 28 rfl rfl) ?_; refine gI_c (gw 94 rfl rfl) ?_; refine gI_c (gw 95 rfl rfl) ?_; refine gI_c (gw 96 rfl rfl) ?_; refine gI_c (gw 97 rfl rfl) ?_; refine gI_c (gw 98 rfl rfl) ?_; refine gI_c (gw 99 rfl rfl) ?_; refine gI_c (gw 100 rfl rfl) ?_; refine gI_c (gw 101 rfl rfl) ?_; refine gI_c (gw 102 rfl rfl) ?_; refine gI_c (gw 103 rfl rfl) ?_; refine gI_c (gw 104 rfl rfl) ?_; refine gI_c (gw 105 rfl rfl) ?_; exact gI_n)
set_option maxRecDepth 20000 in
theorem gX1_steamFor_X0_copyFrom_n155 : GoodIn wsX1_steamFor (wsX0_copyFrom) := ggX1_steamFor_X0_copyFrom
set_option maxRecDepth 20000 in
theorem ggX1_steamFor_X0_pass : GoodIn wsX1_steamFor wsX0_pass := (by refine gI_c (gw 31 rfl rfl) ?_; refine gI_c (gw 20 rfl rfl) ?_; refine gI_c (gw 14 rfl rfl) ?_; refine gI_c (gw 32 rfl rfl) ?_; refine gI_c (gw 33 rfl rfl) ?_; refine gI_c (gw 34 rfl rfl) ?_; refine gI_c (gw 10 rfl rfl) ?_; refine gI_c (gw 35 rfl rfl) ?_; refine gI_c (gw 15 rfl rfl) ?_; refine gI_c (gw 13 rfl rfl) ?_; refine gI_c (gw 26 rfl rfl) ?_; refine gI_c (gw 28 rfl rfl) ?_; refine gI_c (gw 36 rfl rfl) ?_; refine gI_c (gw 37 rfl rfl) ?_; refine gI_c (gw 38 rfl rfl) ?_; refine gI_c (gw 39 rfl rfl) ?_; refine gI_c (gw 40 rfl rfl) ?_; refine gI_c (gw 41 rfl rfl) ?_; refine gI_c (gw 42 rfl rfl) ?_; refine gI_c (gw 43 rfl rfl) ?_; refine gI_c (gw 44 rfl rfl) ?_; refine gI_c (gw 45 rfl rfl) ?_; refine gI_c (gw 46 rfl rfl) ?_; refine gI_c (gw 47 rfl rfl) ?_; refine gI_c (gw 48 rfl rfl) ?_; refine gI_c (gw 49 rfl rfl) ?_; refine gI_c (gw 50 rfl rfl) ?_; refine gI_c (gw 51 rfl rfl) ?_; refine gI_c (gw 22 rfl rfl) ?_; refine gI_c (gw 25 rfl rfl) ?_; refine gI_c (gw 27 rfl rfl) ?_; refine gI_c (gw 52 rfl rfl) ?_; refine gI_c (gw 53 rfl rfl) ?_; refine gI_c (gw 54 rfl rfl) ?_; refine gI_c (gw 55 rfl rfl) ?_; refine gI_c (gw 23 rfl rfl) ?_; refine gI_c (gw 56 rfl rfl) ?_; refine gI_c (gw 57 rfl rfl) ?_; refine gI_c (gw 58 rfl rfl) ?_; refine gI_c (gw 59 rfl rfl) ?_; refine gI_c (gw 21 rfl rfl) ?_; refine gI_c (gw 60 rfl rfl) ?_; refine gI_c (gw 61 rfl rfl) ?_; refine gI_c (gw 62 rfl rfl) ?_; refine gI_c (gw 63 rfl rfl) ?_; refine gI_c (gw 64 rfl rfl) ?_; refine gI_c (gw 65 rfl rfl) ?_; refine gI_c (gw 66 rfl rfl) ?_; refine gI_c (gw 67 rfl rfl) ?_; refine gI_c (gw 68 rfl rfl) ?_; refine gI_c (gw 69 rfl rfl) ?_; refine gI_c (gw 70 rfl rfl) ?_; refine gI_c (gw 71 rfl rfl) ?_; refine gI_c (gw 72 rfl rfl) ?_; refine gI_c (gw 73 rfl rfl) ?_; refine gI_c (gw 74 rfl rfl) ?_; refine gI_c (gw 75 rfl rfl) ?_; refine gI_c (gw 24 rfl rfl) ?_; refine gI_c (gw 76 rfl rfl) ?_; refine gI_c (gw 77 rfl rfl) ?_; refine gI_c (gw 78 rfl rfl) ?_; refine gI_c (gw 79 rfl rfl) ?_; refine gI_c (gw 80 rfl rfl) ?_; refine gI_c (gw 81 rfl rfl) ?_; refine gI_c (gw 82 rfl rfl) ?_; refine gI_c (gw 94 rfl rfl) ?_; refine gI_c (gw 95 rfl rfl) ?_; refine gI_c (gw 96 rfl rfl) ?_; refine gI_c (gw 97 rfl rfl) ?_; refine gI_c (gw 98 rfl rfl) ?_; refine gI_c (gw 99 rfl rfl) ?_; refine gI_c (gw 100 rfl rfl) ?_; refine gI_c (gw 101 rfl rfl) ?_; refine gI_c (gw 102 rfl rfl) ?_; refine gI_c (gw 103 rfl rfl) ?_; refine gI_c (gw 104 rfl rfl) ?_; refine gI_c (gw 105 rfl rfl) ?_; exact gI_n)
set_option maxRecDepth 20000 in
theorem gX1_steamFor_X0_pass_n132 : GoodIn wsX1_steamFor (wsX0_pass) := ggX1_steamFor_X0_pass
theorem dX1_steamFor_0 : decode cX1_steamFor 0 = .ok (.iload_n 1, 1) := by decide +kernel
theorem dX1_steamFor_1 : decode cX1_steamFor 1 = .ok (.iconst 0, 1) := by decide +kernel
theorem dX1_steamFor_2 : decode cX1_steamFor 2 = .ok (.sipush 9999, 3) := by decide +kernel
theorem dX1_steamFor_5 : decode cX1_steamFor 5 = .ok (.invokestatic 51, 3) := by decide +kernel
theorem dX1_steamFor_8 : decode cX1_steamFor 8 = .ok (.iload_n 2, 1) := by decide +kernel
theorem dX1_steamFor_9 : decode cX1_steamFor 9 = .ok (.iconst 1, 1) := by decide +kernel
theorem dX1_steamFor_10 : decode cX1_steamFor 10 = .ok (.bipush 20, 2) := by decide +kernel
theorem dX1_steamFor_12 : decode cX1_steamFor 12 = .ok (.invokestatic 51, 3) := by decide +kernel
theorem dX1_steamFor_15 : decode cX1_steamFor 15 = .ok (.iconst 0, 1) := by decide +kernel
theorem dX1_steamFor_16 : decode cX1_steamFor 16 = .ok (.istore_n 3, 1) := by decide +kernel
theorem dX1_steamFor_17 : decode cX1_steamFor 17 = .ok (.iload_n 3, 1) := by decide +kernel
theorem dX1_steamFor_18 : decode cX1_steamFor 18 = .ok (.bipush 90, 2) := by decide +kernel
theorem dX1_steamFor_20 : decode cX1_steamFor 20 = .ok (.if_icmp .gt 44, 3) := by decide +kernel
theorem dX1_steamFor_23 : decode cX1_steamFor 23 = .ok (.aload_n 0, 1) := by decide +kernel
theorem dX1_steamFor_24 : decode cX1_steamFor 24 = .ok (.getfield 28, 3) := by decide +kernel
theorem dX1_steamFor_27 : decode cX1_steamFor 27 = .ok (.aload_n 0, 1) := by decide +kernel
theorem dX1_steamFor_28 : decode cX1_steamFor 28 = .ok (.getfield 24, 3) := by decide +kernel
theorem dX1_steamFor_31 : decode cX1_steamFor 31 = .ok (.invokevirtual 155, 3) := by decide +kernel
theorem dX1_steamFor_34 : decode cX1_steamFor 34 = .ok (.aload_n 0, 1) := by decide +kernel
theorem dX1_steamFor_35 : decode cX1_steamFor 35 = .ok (.getfield 28, 3) := by decide +kernel
theorem dX1_steamFor_38 : decode cX1_steamFor 38 = .ok (.getfield 103, 3) := by decide +kernel
theorem dX1_steamFor_41 : decode cX1_steamFor 41 = .ok (.iconst 0, 1) := by decide +kernel
theorem dX1_steamFor_42 : decode cX1_steamFor 42 = .ok (.iload_n 3, 1) := by decide +kernel
theorem dX1_steamFor_43 : decode cX1_steamFor 43 = .ok (.iastore, 1) := by decide +kernel
theorem dX1_steamFor_44 : decode cX1_steamFor 44 = .ok (.aload_n 0, 1) := by decide +kernel
theorem dX1_steamFor_45 : decode cX1_steamFor 45 = .ok (.getfield 28, 3) := by decide +kernel
theorem dX1_steamFor_48 : decode cX1_steamFor 48 = .ok (.iload_n 2, 1) := by decide +kernel
theorem dX1_steamFor_49 : decode cX1_steamFor 49 = .ok (.invokevirtual 132, 3) := by decide +kernel
theorem dX1_steamFor_52 : decode cX1_steamFor 52 = .ok (.iload_n 1, 1) := by decide +kernel
theorem dX1_steamFor_53 : decode cX1_steamFor 53 = .ok (.if_icmp .lt 5, 3) := by decide +kernel
theorem dX1_steamFor_56 : decode cX1_steamFor 56 = .ok (.iload_n 3, 1) := by decide +kernel
theorem dX1_steamFor_57 : decode cX1_steamFor 57 = .ok (.ireturn, 1) := by decide +kernel
theorem dX1_steamFor_58 : decode cX1_steamFor 58 = .ok (.iinc 3 1, 3) := by decide +kernel
theorem dX1_steamFor_61 : decode cX1_steamFor 61 = .ok (.goto (-44), 3) := by decide +kernel
theorem dX1_steamFor_64 : decode cX1_steamFor 64 = .ok (.bipush (-9), 2) := by decide +kernel
theorem dX1_steamFor_66 : decode cX1_steamFor 66 = .ok (.ireturn, 1) := by decide +kernel
set_option maxRecDepth 20000 in
theorem ggX1_runScript_X1_checkRange : GoodIn wsX1_runScript wsX1_checkRange := goodIn_ca ((by refine gI_c (gw 9 rfl rfl) ?_; refine gI_c (gw 1 rfl rfl) ?_; refine gI_c (gw 2 rfl rfl) ?_; exact gI_n)) (goodIn_sub (fun _ h => List.mem_cons_of_mem _ (List.mem_append_right _ h)) (by decide +kernel))
set_option maxRecDepth 20000 in
theorem gX1_runScript_X1_checkRange : GoodIn wsX1_runScript (va_wsS RX1 51 yX1_checkRange wsX1_checkRange) := goodIn_app (goodIn_of _ (by decide +kernel)) ggX1_runScript_X1_checkRange
set_option maxRecDepth 20000 in
theorem ggX1_runScript_X1_withoutLastGroups : GoodIn wsX1_runScript wsX1_withoutLastGroups := (by refine gI_c (gw 12 rfl rfl) ?_; refine gI_c (gw 5 rfl rfl) ?_; exact gI_n)
set_option maxRecDepth 20000 in
theorem gX1_runScript_X1_withoutLastGroups : GoodIn wsX1_runScript (va_wsS RX1 175 yX1_withoutLastGroups wsX1_withoutLastGroups) := goodIn_app (goodIn_of _ (by decide +kernel)) ggX1_runScript_X1_withoutLastGroups
set_option maxRecDepth 20000 in
theorem ggX1_runScript_X0_copyFrom : GoodIn wsX1_runScript wsX0_copyFrom := (by refine gI_c (gw 16 rfl rfl) ?_; refine gI_c (gw 17 rfl rfl) ?_; refine gI_c (gw 18 rfl rfl) ?_; refine gI_c (gw 19 rfl rfl) ?_; refine gI_c (gw 20 rfl rfl) ?_; refine gI_c (gw 21 rfl rfl) ?_; refine gI_c (gw 22 rfl rfl) ?_; refine gI_c (gw 23 rfl rfl) ?_; refine gI_c (gw 24 rfl rfl) ?_; refine gI_c (gw 25 rfl rfl) ?_; refine gI_c (gw 26 rfl rfl) ?_; refine gI_c (gw 27 rfl rfl) ?_; refine gI_c (gw 28 rfl rfl) ?_; refine gI_c (gw 29 rfl rfl) ?_; refine gI_c (gw 30 rfl rfl) ?_; refine gI_c (gw 31 rfl rfl) ?_; refine gI_c (gw 32 rfl rfl) ?_; refine gI_c (gw 107 rfl rfl) ?_; refine gI_c (gw 108 rfl rfl) ?_; refine gI_c (gw 109 rfl rfl) ?_; refine gI_c (gw 110 rfl rfl) ?_; refine gI_c (gw 111 rfl rfl) ?_; refine gI_c (gw 112 rfl rfl) ?_; refine gI_c (gw 113 rfl rfl) ?_; refine gI_c (gw 114 rfl rfl) ?_; refine gI_c (gw 115 rfl rfl) ?_; refine gI_c (gw 116 rfl rfl) ?_; refine gI_c (gw 117 rfl rfl) ?_; refine gI_c (gw 118 rfl rfl) ?_; exact gI_n)
set_option maxRecDepth 20000 in
theorem gX1_runScript_X0_copyFrom_n155 : GoodIn wsX1_runScript (wsX0_copyFrom) := ggX1_runScript_X0_copyFrom
set_option maxRecDepth 20000 in
theorem ggX1_runScript_X1_runCommand : GoodIn wsX1_runScript wsX1_runCommand := (by refine gI_c (gw 36 rfl rfl) ?_; refine gI_c (gw 3 rfl rfl) ?_; refine gI_c (gw 37 rfl rfl) ?_; refine gI_c (gw 38 rfl rfl) ?_; refine gI_c (gw 14 rfl rfl) ?_; refine gI_c (gw 39 rfl rfl) ?_; refine gI_c (gw 40 rfl rfl) ?_; refine gI_c (gw 24 rfl rfl) ?_; refine gI_c (gw 18 rfl rfl) ?_; refine gI_c (gw 41 rfl rfl) ?_; refine gI_c (gw 42 rfl rfl) ?_; refine gI_c (gw 43 rfl rfl) ?_; refine gI_c (gw 44 rfl rfl) ?_; refine gI_c (gw 19 rfl rfl) ?_; refine gI_c (gw 17 rfl rfl) ?_; refine gI_c (gw 30 rfl rfl) ?_; refine gI_c (gw 32 rfl rfl) ?_; refine gI_c (gw 45 rfl rfl) ?_; refine gI_c (gw 46 rfl rfl) ?_; refine gI_c (gw 47 rfl rfl) ?_; refine gI_c (gw 48 rfl rfl) ?_; refine gI_c (gw 49 rfl rfl) ?_; refine gI_c (gw 50 rfl rfl) ?_; refine gI_c (gw 51 rfl rfl) ?_; refine gI_c (gw 52 rfl rfl) ?_; refine gI_c (gw 53 rfl rfl) ?_; refine gI_c (gw 54 rfl rfl) ?_; refine gI_c (gw 55 rfl rfl) ?_; refine gI_c (gw 56 rfl rfl) ?_; refine gI_c (gw 57 rfl rfl) ?_; refine gI_c (gw 58 rfl rfl) ?_; refine gI_c (gw 59 rfl rfl) ?_; refine gI_c (gw 60 rfl rfl) ?_; refine gI_c (gw 26 rfl rfl) ?_; refine gI_c (gw 29 rfl rfl) ?_; refine gI_c (gw 31 rfl rfl) ?_; refine gI_c (gw 61 rfl rfl) ?_; refine gI_c (gw 62 rfl rfl) ?_; refine gI_c (gw 63 rfl rfl) ?_; refine gI_c (gw 64 rfl rfl) ?_; refine gI_c (gw 27 rfl rfl) ?_; refine gI_c (gw 65 rfl rfl) ?_; refine gI_c (gw 66 rfl rfl) ?_; refine gI_c (gw 67 rfl rfl) ?_; refine gI_c (gw 68 rfl rfl) ?_; refine gI_c (gw 25 rfl rfl) ?_; refine gI_c (gw 69 rfl rfl) ?_; refine gI_c (gw 70 rfl rfl) ?_; refine gI_c (gw 71 rfl rfl) ?_; refine gI_c (gw 72 rfl rfl) ?_; refine gI_c (gw 73 rfl rfl) ?_; refine gI_c (gw 74 rfl rfl) ?_; refine gI_c (gw 75 rfl rfl) ?_; refine gI_c (gw 76 rfl rfl) ?_; refine gI_c (gw 77 rfl rfl) ?_; refine gI_c (gw 78 rfl rfl) ?_; refine gI_c (gw 79 rfl rfl) ?_; refine gI_c (gw 80 rfl rfl) ?_; refine gI_c (gw 81 rfl rfl) ?_; refine gI_c (gw 82 rfl rfl) ?_; refine gI_c (gw 83 rfl rfl) ?_; refine gI_c (gw 84 rfl rfl) ?_; refine gI_c (gw 28 rfl rfl) ?_; refine gI_c (gw 85 rfl rfl) ?_; refine gI_c (gw 86 rfl rfl) ?_; refine gI_c (gw 87 rfl rfl) ?_; refine gI_c (gw 88 rfl rfl) ?_; refine gI_c (gw 89 rfl rfl) ?_; refine gI_c (gw 90 rfl rfl) ?_; refine gI_c (gw 91 rfl rfl) ?_; refine gI_c (gw 92 rfl rfl) ?_; refine gI_c (gw 93 rfl rfl) ?_; refine gI_c (gw 94 rfl rfl) ?_; refine gI_c (gw 8 rfl rfl) ?_; refine gI_c (gw 95 rfl rfl) ?_; refine gI_c (gw 96 rfl rfl) ?_; refine gI_c (gw 97 rfl rfl) ?_; refine gI_c (gw 98 rfl rfl) ?_; refine gI_c (gw 99 rfl rfl) ?_; refine gI_c (gw 100 rfl rfl) ?_; refine gI_c (gw 101 rfl rfl) ?_; refine gI_c (gw 102 rfl rfl) ?_; refine gI_c (gw 103 rfl rfl) ?_; refine gI_c (gw 104 rfl rfl) ?_; refine gI_c (gw 105 rfl rfl) ?_; refine gI_c (gw 106 rfl rfl) ?_; refine gI_c (gw 107 rfl rfl) ?_; refine gI_c (gw 108 rfl rfl) ?_; refine gI_c (gw 109 rfl rfl) ?_; refine gI_c (gw 110 rfl rfl) ?_; refine gI_c (gw 111 rfl rfl) ?_; refine gI_c (gw 112 rfl rfl) ?_; refine gI_c (gw 113 rfl rfl) ?_; refine gI_c (gw 114 rfl rfl) ?_; refine gI_c (gw 115 rfl rfl) ?_; refine gI_c (gw 116 rfl rfl) ?_; refine gI_c (gw 117 rfl rfl) ?_; refine gI_c (gw 118 rfl rfl) ?_; exact gI_n)
set_option maxRecDepth 20000 in
theorem gX1_runScript_X1_runCommand : GoodIn wsX1_runScript (wsV RX1 186 RX1 yX1_runCommand wsX1_runCommand) := goodIn_app (goodIn_of _ (by decide +kernel)) ggX1_runScript_X1_runCommand
theorem dX1_runScript_0 : decode cX1_runScript 0 = .ok (.iload_n 1, 1) := by decide +kernel
theorem dX1_runScript_1 : decode cX1_runScript 1 = .ok (.iconst 1, 1) := by decide +kernel
theorem dX1_runScript_2 : decode cX1_runScript 2 = .ok (.iconst 3, 1) := by decide +kernel
theorem dX1_runScript_3 : decode cX1_runScript 3 = .ok (.invokestatic 51, 3) := by decide +kernel
theorem dX1_runScript_6 : decode cX1_runScript 6 = .ok (.lload_n 2, 1) := by decide +kernel
theorem dX1_runScript_7 : decode cX1_runScript 7 = .ok (.lconst 0, 1) := by decide +kernel
theorem dX1_runScript_8 : decode cX1_runScript 8 = .ok (.lcmp, 1) := by decide +kernel
theorem dX1_runScript_9 : decode cX1_runScript 9 = .ok (.ifCond .lt 13, 3) := by decide +kernel
theorem dX1_runScript_12 : decode cX1_runScript 12 = .ok (.lload_n 2, 1) := by decide +kernel
theorem dX1_runScript_13 : decode cX1_runScript 13 = .ok (.iload_n 1, 1) := by decide +kernel
theorem dX1_runScript_14 : decode cX1_runScript 14 = .ok (.invokestatic 175, 3) := by decide +kernel
theorem dX1_runScript_17 : decode cX1_runScript 17 = .ok (.lconst 0, 1) := by decide +kernel
theorem dX1_runScript_18 : decode cX1_runScript 18 = .ok (.lcmp, 1) := by decide +kernel
theorem dX1_runScript_19 : decode cX1_runScript 19 = .ok (.ifCond .le 13, 3) := by decide +kernel
theorem dX1_runScript_22 : decode cX1_runScript 22 = .ok (.new 179, 3) := by decide +kernel
theorem dX1_runScript_25 : decode cX1_runScript 25 = .ok (.dup, 1) := by decide +kernel
theorem dX1_runScript_26 : decode cX1_runScript 26 = .ok (.ldc 181, 2) := by decide +kernel
theorem dX1_runScript_28 : decode cX1_runScript 28 = .ok (.invokespecial 183, 3) := by decide +kernel
theorem dX1_runScript_31 : decode cX1_runScript 31 = .ok (.athrow, 1) := by decide +kernel
theorem dX1_runScript_32 : decode cX1_runScript 32 = .ok (.aload_n 0, 1) := by decide +kernel
theorem dX1_runScript_33 : decode cX1_runScript 33 = .ok (.getfield 28, 3) := by decide +kernel
theorem dX1_runScript_36 : decode cX1_runScript 36 = .ok (.aload_n 0, 1) := by decide +kernel
theorem dX1_runScript_37 : decode cX1_runScript 37 = .ok (.getfield 24, 3) := by decide +kernel
theorem dX1_runScript_40 : decode cX1_runScript 40 = .ok (.invokevirtual 155, 3) := by decide +kernel
theorem dX1_runScript_43 : decode cX1_runScript 43 = .ok (.iconst 0, 1) := by decide +kernel
theorem dX1_runScript_44 : decode cX1_runScript 44 = .ok (.istore 4, 2) := by decide +kernel
theorem dX1_runScript_46 : decode cX1_runScript 46 = .ok (.iload 4, 2) := by decide +kernel
theorem dX1_runScript_48 : decode cX1_runScript 48 = .ok (.iload_n 1, 1) := by decide +kernel
theorem dX1_runScript_49 : decode cX1_runScript 49 = .ok (.if_icmp .ge 38, 3) := by decide +kernel
theorem dX1_runScript_52 : decode cX1_runScript 52 = .ok (.lload_n 2, 1) := by decide +kernel
theorem dX1_runScript_53 : decode cX1_runScript 53 = .ok (.iload_n 1, 1) := by decide +kernel
theorem dX1_runScript_54 : decode cX1_runScript 54 = .ok (.iconst 1, 1) := by decide +kernel
theorem dX1_runScript_55 : decode cX1_runScript 55 = .ok (.isub, 1) := by decide +kernel
theorem dX1_runScript_56 : decode cX1_runScript 56 = .ok (.iload 4, 2) := by decide +kernel
theorem dX1_runScript_58 : decode cX1_runScript 58 = .ok (.isub, 1) := by decide +kernel
theorem dX1_runScript_59 : decode cX1_runScript 59 = .ok (.invokestatic 175, 3) := by decide +kernel
theorem dX1_runScript_62 : decode cX1_runScript 62 = .ok (.ldc2_w 184, 3) := by decide +kernel
theorem dX1_runScript_65 : decode cX1_runScript 65 = .ok (.lrem, 1) := by decide +kernel
theorem dX1_runScript_66 : decode cX1_runScript 66 = .ok (.l2i, 1) := by decide +kernel
theorem dX1_runScript_67 : decode cX1_runScript 67 = .ok (.istore 5, 2) := by decide +kernel
theorem dX1_runScript_69 : decode cX1_runScript 69 = .ok (.aload_n 0, 1) := by decide +kernel
theorem dX1_runScript_70 : decode cX1_runScript 70 = .ok (.iload 5, 2) := by decide +kernel
theorem dX1_runScript_72 : decode cX1_runScript 72 = .ok (.invokevirtual 186, 3) := by decide +kernel
theorem dX1_runScript_75 : decode cX1_runScript 75 = .ok (.ifCond .ne 6, 3) := by decide +kernel
theorem dX1_runScript_78 : decode cX1_runScript 78 = .ok (.iload 4, 2) := by decide +kernel
theorem dX1_runScript_80 : decode cX1_runScript 80 = .ok (.ireturn, 1) := by decide +kernel
theorem dX1_runScript_81 : decode cX1_runScript 81 = .ok (.iinc 4 1, 3) := by decide +kernel
theorem dX1_runScript_84 : decode cX1_runScript 84 = .ok (.goto (-38), 3) := by decide +kernel
theorem dX1_runScript_87 : decode cX1_runScript 87 = .ok (.bipush (-9), 2) := by decide +kernel
theorem dX1_runScript_89 : decode cX1_runScript 89 = .ok (.ireturn, 1) := by decide +kernel
theorem dX1_withoutLastGroups_0 : decode cX1_withoutLastGroups 0 = .ok (.lload_n 0, 1) := by decide +kernel
theorem dX1_withoutLastGroups_1 : decode cX1_withoutLastGroups 1 = .ok (.lstore_n 3, 1) := by decide +kernel
theorem dX1_withoutLastGroups_2 : decode cX1_withoutLastGroups 2 = .ok (.iconst 0, 1) := by decide +kernel
theorem dX1_withoutLastGroups_3 : decode cX1_withoutLastGroups 3 = .ok (.istore 5, 2) := by decide +kernel
theorem dX1_withoutLastGroups_5 : decode cX1_withoutLastGroups 5 = .ok (.iload 5, 2) := by decide +kernel
theorem dX1_withoutLastGroups_7 : decode cX1_withoutLastGroups 7 = .ok (.iload_n 2, 1) := by decide +kernel
theorem dX1_withoutLastGroups_8 : decode cX1_withoutLastGroups 8 = .ok (.if_icmp .ge 15, 3) := by decide +kernel
theorem dX1_withoutLastGroups_11 : decode cX1_withoutLastGroups 11 = .ok (.lload_n 3, 1) := by decide +kernel
theorem dX1_withoutLastGroups_12 : decode cX1_withoutLastGroups 12 = .ok (.ldc2_w 184, 3) := by decide +kernel
theorem dX1_withoutLastGroups_15 : decode cX1_withoutLastGroups 15 = .ok (.ldiv, 1) := by decide +kernel
theorem dX1_withoutLastGroups_16 : decode cX1_withoutLastGroups 16 = .ok (.lstore_n 3, 1) := by decide +kernel
theorem dX1_withoutLastGroups_17 : decode cX1_withoutLastGroups 17 = .ok (.iinc 5 1, 3) := by decide +kernel
theorem dX1_withoutLastGroups_20 : decode cX1_withoutLastGroups 20 = .ok (.goto (-15), 3) := by decide +kernel
theorem dX1_withoutLastGroups_23 : decode cX1_withoutLastGroups 23 = .ok (.lload_n 3, 1) := by decide +kernel
theorem dX1_withoutLastGroups_24 : decode cX1_withoutLastGroups 24 = .ok (.lreturn, 1) := by decide +kernel
set_option maxRecDepth 20000 in
theorem ggX1_runCommand_X0_pass : GoodIn wsX1_runCommand wsX0_pass := (by refine gI_c (gw 6 rfl rfl) ?_; refine gI_c (gw 7 rfl rfl) ?_; refine gI_c (gw 8 rfl rfl) ?_; refine gI_c (gw 9 rfl rfl) ?_; refine gI_c (gw 10 rfl rfl) ?_; refine gI_c (gw 11 rfl rfl) ?_; refine gI_c (gw 4 rfl rfl) ?_; refine gI_c (gw 12 rfl rfl) ?_; refine gI_c (gw 13 rfl rfl) ?_; refine gI_c (gw 14 rfl rfl) ?_; refine gI_c (gw 15 rfl rfl) ?_; refine gI_c (gw 16 rfl rfl) ?_; refine gI_c (gw 17 rfl rfl) ?_; refine gI_c (gw 18 rfl rfl) ?_; refine gI_c (gw 19 rfl rfl) ?_; refine gI_c (gw 20 rfl rfl) ?_; refine gI_c (gw 21 rfl rfl) ?_; refine gI_c (gw 22 rfl rfl) ?_; refine gI_c (gw 23 rfl rfl) ?_; refine gI_c (gw 24 rfl rfl) ?_; refine gI_c (gw 25 rfl rfl) ?_; refine gI_c (gw 26 rfl rfl) ?_; refine gI_c (gw 27 rfl rfl) ?_; refine gI_c (gw 28 rfl rfl) ?_; refine gI_c (gw 29 rfl rfl) ?_; refine gI_c (gw 30 rfl rfl) ?_; refine gI_c (gw 31 rfl rfl) ?_; refine gI_c (gw 32 rfl rfl) ?_; refine gI_c (gw 33 rfl rfl) ?_; refine gI_c (gw 34 rfl rfl) ?_; refine gI_c (gw 35 rfl rfl) ?_; refine gI_c (gw 36 rfl rfl) ?_; refine gI_c (gw 37 rfl rfl) ?_; refine gI_c (gw 38 rfl rfl) ?_; refine gI_c (gw 39 rfl rfl) ?_; refine gI_c (gw 40 rfl rfl) ?_; refine gI_c (gw 41 rfl rfl) ?_; refine gI_c (gw 42 rfl rfl) ?_; refine gI_c (gw 43 rfl rfl) ?_; refine gI_c (gw 44 rfl rfl) ?_; refine gI_c (gw 45 rfl rfl) ?_; refine gI_c (gw 46 rfl rfl) ?_; refine gI_c (gw 47 rfl rfl) ?_; refine gI_c (gw 48 rfl rfl) ?_; refine gI_c (gw 49 rfl rfl) ?_; refine gI_c (gw 50 rfl rfl) ?_; refine gI_c (gw 51 rfl rfl) ?_; refine gI_c (gw 52 rfl rfl) ?_; refine gI_c (gw 53 rfl rfl) ?_; refine gI_c (gw 54 rfl rfl) ?_; refine gI_c (gw 55 rfl rfl) ?_; refine gI_c (gw 56 rfl rfl) ?_; refine gI_c (gw 57 rfl rfl) ?_; refine gI_c (gw 58 rfl rfl) ?_; refine gI_c (gw 59 rfl rfl) ?_; refine gI_c (gw 60 rfl rfl) ?_; refine gI_c (gw 61 rfl rfl) ?_; refine gI_c (gw 62 rfl rfl) ?_; refine gI_c (gw 63 rfl rfl) ?_; refine gI_c (gw 64 rfl rfl) ?_; refine gI_c (gw 65 rfl rfl) ?_; refine gI_c (gw 66 rfl rfl) ?_; refine gI_c (gw 67 rfl rfl) ?_; refine gI_c (gw 68 rfl rfl) ?_; refine gI_c (gw 69 rfl rfl) ?_; refine gI_c (gw 86 rfl rfl) ?_; refine gI_c (gw 87 rfl rfl) ?_; refine gI_c (gw 88 rfl rfl) ?_; refine gI_c (gw 89 rfl rfl) ?_; refine gI_c (gw 90 rfl rfl) ?_; refine gI_c (gw 91 rfl rfl) ?_; refine gI_c (gw 92 rfl rfl) ?_; refine gI_c (gw 93 rfl rfl) ?_; refine gI_c (gw 94 rfl rfl) ?_; refine gI_c (gw 95 rfl rfl) ?_; refine gI_c (gw 96 rfl rfl) ?_; refine gI_c (gw 97 rfl rfl) ?_; exact gI_n)
set_option maxRecDepth 20000 in
theorem gX1_runCommand_X0_pass_n132 : GoodIn wsX1_runCommand (wsX0_pass) := ggX1_runCommand_X0_pass
set_option maxRecDepth 20000 in
theorem ggX1_runCommand_X1_runEffectCommand : GoodIn wsX1_runCommand wsX1_runEffectCommand := (by refine gI_c (gw 74 rfl rfl) ?_; refine gI_c (gw 1 rfl rfl) ?_; refine gI_c (gw 37 rfl rfl) ?_; refine gI_c (gw 4 rfl rfl) ?_; refine gI_c (gw 38 rfl rfl) ?_; refine gI_c (gw 39 rfl rfl) ?_; refine gI_c (gw 33 rfl rfl) ?_; refine gI_c (gw 40 rfl rfl) ?_; refine gI_c (gw 75 rfl rfl) ?_; refine gI_c (gw 76 rfl rfl) ?_; refine gI_c (gw 77 rfl rfl) ?_; refine gI_c (gw 78 rfl rfl) ?_; refine gI_c (gw 79 rfl rfl) ?_; refine gI_c (gw 80 rfl rfl) ?_; refine gI_c (gw 81 rfl rfl) ?_; refine gI_c (gw 82 rfl rfl) ?_; refine gI_c (gw 83 rfl rfl) ?_; refine gI_c (gw 84 rfl rfl) ?_; refine gI_c (gw 85 rfl rfl) ?_; refine gI_c (gw 86 rfl rfl) ?_; refine gI_c (gw 87 rfl rfl) ?_; refine gI_c (gw 88 rfl rfl) ?_; refine gI_c (gw 89 rfl rfl) ?_; refine gI_c (gw 90 rfl rfl) ?_; refine gI_c (gw 91 rfl rfl) ?_; refine gI_c (gw 92 rfl rfl) ?_; refine gI_c (gw 93 rfl rfl) ?_; refine gI_c (gw 94 rfl rfl) ?_; refine gI_c (gw 95 rfl rfl) ?_; refine gI_c (gw 96 rfl rfl) ?_; refine gI_c (gw 97 rfl rfl) ?_; exact gI_n)
set_option maxRecDepth 20000 in
theorem gX1_runCommand_X1_runEffectCommand : GoodIn wsX1_runCommand (wsV RX1 190 RX1 yX1_runEffectCommand wsX1_runEffectCommand) := goodIn_app (goodIn_of _ (by decide +kernel)) ggX1_runCommand_X1_runEffectCommand
set_option maxRecDepth 20000 in
theorem ggX1_runCommand_X0_washedEffects : GoodIn wsX1_runCommand wsX0_washedEffects := (by refine gI_c (gw 20 rfl rfl) ?_; refine gI_c (gw 14 rfl rfl) ?_; refine gI_c (gw 16 rfl rfl) ?_; refine gI_c (gw 86 rfl rfl) ?_; refine gI_c (gw 87 rfl rfl) ?_; refine gI_c (gw 88 rfl rfl) ?_; refine gI_c (gw 89 rfl rfl) ?_; refine gI_c (gw 90 rfl rfl) ?_; refine gI_c (gw 91 rfl rfl) ?_; refine gI_c (gw 92 rfl rfl) ?_; refine gI_c (gw 93 rfl rfl) ?_; refine gI_c (gw 94 rfl rfl) ?_; refine gI_c (gw 95 rfl rfl) ?_; refine gI_c (gw 96 rfl rfl) ?_; refine gI_c (gw 97 rfl rfl) ?_; exact gI_n)
set_option maxRecDepth 20000 in
theorem gX1_runCommand_X0_washedEffects_n100 : GoodIn wsX1_runCommand (wsX0_washedEffects) := ggX1_runCommand_X0_washedEffects
theorem dX1_runCommand_0 : decode cX1_runCommand 0 = .ok (.iload_n 1, 1) := by decide +kernel
theorem dX1_runCommand_1 : decode cX1_runCommand 1 = .ok (.sipush 10000, 3) := by decide +kernel
theorem dX1_runCommand_4 : decode cX1_runCommand 4 = .ok (.idiv, 1) := by decide +kernel
theorem dX1_runCommand_5 : decode cX1_runCommand 5 = .ok (.istore_n 2, 1) := by decide +kernel
theorem dX1_runCommand_6 : decode cX1_runCommand 6 = .ok (.iload_n 1, 1) := by decide +kernel
theorem dX1_runCommand_7 : decode cX1_runCommand 7 = .ok (.sipush 10000, 3) := by decide +kernel
theorem dX1_runCommand_10 : decode cX1_runCommand 10 = .ok (.irem, 1) := by decide +kernel
theorem dX1_runCommand_11 : decode cX1_runCommand 11 = .ok (.istore_n 3, 1) := by decide +kernel
theorem dX1_runCommand_12 : decode cX1_runCommand 12 = .ok (.iload_n 2, 1) := by decide +kernel
theorem dX1_runCommand_13 : decode cX1_runCommand 13 = .ok (.tableswitch 159 1 8 #[47, 71, 94, 94, 94, 94, 110, 133], 47) := by decide +kernel
theorem dX1_runCommand_60 : decode cX1_runCommand 60 = .ok (.iload_n 3, 1) := by decide +kernel
theorem dX1_runCommand_61 : decode cX1_runCommand 61 = .ok (.iconst 1, 1) := by decide +kernel
theorem dX1_runCommand_62 : decode cX1_runCommand 62 = .ok (.if_icmp .lt 9, 3) := by decide +kernel
theorem dX1_runCommand_65 : decode cX1_runCommand 65 = .ok (.iload_n 3, 1) := by decide +kernel
theorem dX1_runCommand_66 : decode cX1_runCommand 66 = .ok (.bipush 99, 2) := by decide +kernel
theorem dX1_runCommand_68 : decode cX1_runCommand 68 = .ok (.if_icmp .le 5, 3) := by decide +kernel
theorem dX1_runCommand_71 : decode cX1_runCommand 71 = .ok (.iconst 0, 1) := by decide +kernel
theorem dX1_runCommand_72 : decode cX1_runCommand 72 = .ok (.ireturn, 1) := by decide +kernel
theorem dX1_runCommand_73 : decode cX1_runCommand 73 = .ok (.aload_n 0, 1) := by decide +kernel
theorem dX1_runCommand_74 : decode cX1_runCommand 74 = .ok (.getfield 28, 3) := by decide +kernel
theorem dX1_runCommand_77 : decode cX1_runCommand 77 = .ok (.iload_n 3, 1) := by decide +kernel
theorem dX1_runCommand_78 : decode cX1_runCommand 78 = .ok (.invokevirtual 132, 3) := by decide +kernel
theorem dX1_runCommand_81 : decode cX1_runCommand 81 = .ok (.pop, 1) := by decide +kernel
theorem dX1_runCommand_82 : decode cX1_runCommand 82 = .ok (.iconst 1, 1) := by decide +kernel
theorem dX1_runCommand_83 : decode cX1_runCommand 83 = .ok (.ireturn, 1) := by decide +kernel
theorem dX1_runCommand_84 : decode cX1_runCommand 84 = .ok (.iload_n 3, 1) := by decide +kernel
theorem dX1_runCommand_85 : decode cX1_runCommand 85 = .ok (.getstatic 88, 3) := by decide +kernel
theorem dX1_runCommand_88 : decode cX1_runCommand 88 = .ok (.iconst 1, 1) := by decide +kernel
theorem dX1_runCommand_89 : decode cX1_runCommand 89 = .ok (.iaload, 1) := by decide +kernel
theorem dX1_runCommand_90 : decode cX1_runCommand 90 = .ok (.if_icmp .le 5, 3) := by decide +kernel
theorem dX1_runCommand_93 : decode cX1_runCommand 93 = .ok (.iconst 0, 1) := by decide +kernel
theorem dX1_runCommand_94 : decode cX1_runCommand 94 = .ok (.ireturn, 1) := by decide +kernel
theorem dX1_runCommand_95 : decode cX1_runCommand 95 = .ok (.aload_n 0, 1) := by decide +kernel
theorem dX1_runCommand_96 : decode cX1_runCommand 96 = .ok (.getfield 28, 3) := by decide +kernel
theorem dX1_runCommand_99 : decode cX1_runCommand 99 = .ok (.getfield 103, 3) := by decide +kernel
theorem dX1_runCommand_102 : decode cX1_runCommand 102 = .ok (.iconst 0, 1) := by decide +kernel
theorem dX1_runCommand_103 : decode cX1_runCommand 103 = .ok (.iload_n 3, 1) := by decide +kernel
theorem dX1_runCommand_104 : decode cX1_runCommand 104 = .ok (.iastore, 1) := by decide +kernel
theorem dX1_runCommand_105 : decode cX1_runCommand 105 = .ok (.iconst 1, 1) := by decide +kernel
theorem dX1_runCommand_106 : decode cX1_runCommand 106 = .ok (.ireturn, 1) := by decide +kernel
theorem dX1_runCommand_107 : decode cX1_runCommand 107 = .ok (.aload_n 0, 1) := by decide +kernel
theorem dX1_runCommand_108 : decode cX1_runCommand 108 = .ok (.iload_n 2, 1) := by decide +kernel
theorem dX1_runCommand_109 : decode cX1_runCommand 109 = .ok (.iload_n 3, 1) := by decide +kernel
theorem dX1_runCommand_110 : decode cX1_runCommand 110 = .ok (.sipush 1000, 3) := by decide +kernel
theorem dX1_runCommand_113 : decode cX1_runCommand 113 = .ok (.idiv, 1) := by decide +kernel
theorem dX1_runCommand_114 : decode cX1_runCommand 114 = .ok (.iload_n 3, 1) := by decide +kernel
theorem dX1_runCommand_115 : decode cX1_runCommand 115 = .ok (.sipush 1000, 3) := by decide +kernel
theorem dX1_runCommand_118 : decode cX1_runCommand 118 = .ok (.irem, 1) := by decide +kernel
theorem dX1_runCommand_119 : decode cX1_runCommand 119 = .ok (.invokevirtual 190, 3) := by decide +kernel
theorem dX1_runCommand_122 : decode cX1_runCommand 122 = .ok (.ireturn, 1) := by decide +kernel
theorem dX1_runCommand_123 : decode cX1_runCommand 123 = .ok (.iload_n 3, 1) := by decide +kernel
theorem dX1_runCommand_124 : decode cX1_runCommand 124 = .ok (.bipush 9, 2) := by decide +kernel
theorem dX1_runCommand_126 : decode cX1_runCommand 126 = .ok (.if_icmp .gt 18, 3) := by decide +kernel
theorem dX1_runCommand_129 : decode cX1_runCommand 129 = .ok (.aload_n 0, 1) := by decide +kernel
theorem dX1_runCommand_130 : decode cX1_runCommand 130 = .ok (.getfield 28, 3) := by decide +kernel
theorem dX1_runCommand_133 : decode cX1_runCommand 133 = .ok (.invokevirtual 100, 3) := by decide +kernel
theorem dX1_runCommand_136 : decode cX1_runCommand 136 = .ok (.iload_n 3, 1) := by decide +kernel
theorem dX1_runCommand_137 : decode cX1_runCommand 137 = .ok (.if_icmp .ne 7, 3) := by decide +kernel
theorem dX1_runCommand_140 : decode cX1_runCommand 140 = .ok (.iconst 1, 1) := by decide +kernel
theorem dX1_runCommand_141 : decode cX1_runCommand 141 = .ok (.goto 4, 3) := by decide +kernel
theorem dX1_runCommand_144 : decode cX1_runCommand 144 = .ok (.iconst 0, 1) := by decide +kernel
theorem dX1_runCommand_145 : decode cX1_runCommand 145 = .ok (.ireturn, 1) := by decide +kernel
theorem dX1_runCommand_146 : decode cX1_runCommand 146 = .ok (.iload_n 3, 1) := by decide +kernel
theorem dX1_runCommand_147 : decode cX1_runCommand 147 = .ok (.sipush 999, 3) := by decide +kernel
theorem dX1_runCommand_150 : decode cX1_runCommand 150 = .ok (.if_icmp .gt 20, 3) := by decide +kernel
theorem dX1_runCommand_153 : decode cX1_runCommand 153 = .ok (.aload_n 0, 1) := by decide +kernel
theorem dX1_runCommand_154 : decode cX1_runCommand 154 = .ok (.getfield 28, 3) := by decide +kernel
theorem dX1_runCommand_157 : decode cX1_runCommand 157 = .ok (.getfield 106, 3) := by decide +kernel
theorem dX1_runCommand_160 : decode cX1_runCommand 160 = .ok (.iconst 0, 1) := by decide +kernel
theorem dX1_runCommand_161 : decode cX1_runCommand 161 = .ok (.iaload, 1) := by decide +kernel
theorem dX1_runCommand_162 : decode cX1_runCommand 162 = .ok (.iload_n 3, 1) := by decide +kernel
theorem dX1_runCommand_163 : decode cX1_runCommand 163 = .ok (.if_icmp .gt 7, 3) := by decide +kernel
theorem dX1_runCommand_166 : decode cX1_runCommand 166 = .ok (.iconst 1, 1) := by decide +kernel
theorem dX1_runCommand_167 : decode cX1_runCommand 167 = .ok (.goto 4, 3) := by decide +kernel
theorem dX1_runCommand_170 : decode cX1_runCommand 170 = .ok (.iconst 0, 1) := by decide +kernel
theorem dX1_runCommand_171 : decode cX1_runCommand 171 = .ok (.ireturn, 1) := by decide +kernel
theorem dX1_runCommand_172 : decode cX1_runCommand 172 = .ok (.iconst 0, 1) := by decide +kernel
theorem dX1_runCommand_173 : decode cX1_runCommand 173 = .ok (.ireturn, 1) := by decide +kernel
set_option maxRecDepth 20000 in
theorem ggX1_runEffectCommand_X0_thickness : GoodIn wsX1_runEffectCommand wsX0_thickness := (by refine gI_c (gw 5 rfl rfl) ?_; refine gI_c (gw 6 rfl rfl) ?_; refine gI_c (gw 7 rfl rfl) ?_; refine gI_c (gw 19 rfl rfl) ?_; refine gI_c (gw 20 rfl rfl) ?_; refine gI_c (gw 21 rfl rfl) ?_; refine gI_c (gw 22 rfl rfl) ?_; refine gI_c (gw 23 rfl rfl) ?_; refine gI_c (gw 24 rfl rfl) ?_; refine gI_c (gw 25 rfl rfl) ?_; refine gI_c (gw 26 rfl rfl) ?_; refine gI_c (gw 27 rfl rfl) ?_; refine gI_c (gw 28 rfl rfl) ?_; refine gI_c (gw 29 rfl rfl) ?_; refine gI_c (gw 30 rfl rfl) ?_; exact gI_n)
set_option maxRecDepth 20000 in
theorem gX1_runEffectCommand_X0_thickness_n194 : GoodIn wsX1_runEffectCommand (wsX0_thickness) := ggX1_runEffectCommand_X0_thickness
theorem dX1_runEffectCommand_0 : decode cX1_runEffectCommand 0 = .ok (.iload_n 2, 1) := by decide +kernel
theorem dX1_runEffectCommand_1 : decode cX1_runEffectCommand 1 = .ok (.aload_n 0, 1) := by decide +kernel
theorem dX1_runEffectCommand_2 : decode cX1_runEffectCommand 2 = .ok (.getfield 28, 3) := by decide +kernel
theorem dX1_runEffectCommand_5 : decode cX1_runEffectCommand 5 = .ok (.getfield 94, 3) := by decide +kernel
theorem dX1_runEffectCommand_8 : decode cX1_runEffectCommand 8 = .ok (.if_icmp .lt 5, 3) := by decide +kernel
theorem dX1_runEffectCommand_11 : decode cX1_runEffectCommand 11 = .ok (.iconst 0, 1) := by decide +kernel
theorem dX1_runEffectCommand_12 : decode cX1_runEffectCommand 12 = .ok (.ireturn, 1) := by decide +kernel
theorem dX1_runEffectCommand_13 : decode cX1_runEffectCommand 13 = .ok (.iload_n 1, 1) := by decide +kernel
theorem dX1_runEffectCommand_14 : decode cX1_runEffectCommand 14 = .ok (.iconst 3, 1) := by decide +kernel
theorem dX1_runEffectCommand_15 : decode cX1_runEffectCommand 15 = .ok (.if_icmp .ne 15, 3) := by decide +kernel
theorem dX1_runEffectCommand_18 : decode cX1_runEffectCommand 18 = .ok (.aload_n 0, 1) := by decide +kernel
theorem dX1_runEffectCommand_19 : decode cX1_runEffectCommand 19 = .ok (.getfield 28, 3) := by decide +kernel
theorem dX1_runEffectCommand_22 : decode cX1_runEffectCommand 22 = .ok (.getfield 135, 3) := by decide +kernel
theorem dX1_runEffectCommand_25 : decode cX1_runEffectCommand 25 = .ok (.iload_n 2, 1) := by decide +kernel
theorem dX1_runEffectCommand_26 : decode cX1_runEffectCommand 26 = .ok (.iload_n 3, 1) := by decide +kernel
theorem dX1_runEffectCommand_27 : decode cX1_runEffectCommand 27 = .ok (.iastore, 1) := by decide +kernel
theorem dX1_runEffectCommand_28 : decode cX1_runEffectCommand 28 = .ok (.iconst 1, 1) := by decide +kernel
theorem dX1_runEffectCommand_29 : decode cX1_runEffectCommand 29 = .ok (.ireturn, 1) := by decide +kernel
theorem dX1_runEffectCommand_30 : decode cX1_runEffectCommand 30 = .ok (.iload_n 3, 1) := by decide +kernel
theorem dX1_runEffectCommand_31 : decode cX1_runEffectCommand 31 = .ok (.bipush 99, 2) := by decide +kernel
theorem dX1_runEffectCommand_33 : decode cX1_runEffectCommand 33 = .ok (.if_icmp .le 5, 3) := by decide +kernel
theorem dX1_runEffectCommand_36 : decode cX1_runEffectCommand 36 = .ok (.iconst 0, 1) := by decide +kernel
theorem dX1_runEffectCommand_37 : decode cX1_runEffectCommand 37 = .ok (.ireturn, 1) := by decide +kernel
theorem dX1_runEffectCommand_38 : decode cX1_runEffectCommand 38 = .ok (.iload_n 1, 1) := by decide +kernel
theorem dX1_runEffectCommand_39 : decode cX1_runEffectCommand 39 = .ok (.iconst 5, 1) := by decide +kernel
theorem dX1_runEffectCommand_40 : decode cX1_runEffectCommand 40 = .ok (.if_icmp .ne 21, 3) := by decide +kernel
theorem dX1_runEffectCommand_43 : decode cX1_runEffectCommand 43 = .ok (.aload_n 0, 1) := by decide +kernel
theorem dX1_runEffectCommand_44 : decode cX1_runEffectCommand 44 = .ok (.getfield 28, 3) := by decide +kernel
theorem dX1_runEffectCommand_47 : decode cX1_runEffectCommand 47 = .ok (.iload_n 2, 1) := by decide +kernel
theorem dX1_runEffectCommand_48 : decode cX1_runEffectCommand 48 = .ok (.invokevirtual 194, 3) := by decide +kernel
theorem dX1_runEffectCommand_51 : decode cX1_runEffectCommand 51 = .ok (.iload_n 3, 1) := by decide +kernel
theorem dX1_runEffectCommand_52 : decode cX1_runEffectCommand 52 = .ok (.if_icmp .lt 7, 3) := by decide +kernel
theorem dX1_runEffectCommand_55 : decode cX1_runEffectCommand 55 = .ok (.iconst 1, 1) := by decide +kernel
theorem dX1_runEffectCommand_56 : decode cX1_runEffectCommand 56 = .ok (.goto 4, 3) := by decide +kernel
theorem dX1_runEffectCommand_59 : decode cX1_runEffectCommand 59 = .ok (.iconst 0, 1) := by decide +kernel
theorem dX1_runEffectCommand_60 : decode cX1_runEffectCommand 60 = .ok (.ireturn, 1) := by decide +kernel
theorem dX1_runEffectCommand_61 : decode cX1_runEffectCommand 61 = .ok (.iload_n 1, 1) := by decide +kernel
theorem dX1_runEffectCommand_62 : decode cX1_runEffectCommand 62 = .ok (.bipush 6, 2) := by decide +kernel
theorem dX1_runEffectCommand_64 : decode cX1_runEffectCommand 64 = .ok (.if_icmp .ne 22, 3) := by decide +kernel
theorem dX1_runEffectCommand_67 : decode cX1_runEffectCommand 67 = .ok (.aload_n 0, 1) := by decide +kernel
theorem dX1_runEffectCommand_68 : decode cX1_runEffectCommand 68 = .ok (.getfield 28, 3) := by decide +kernel
theorem dX1_runEffectCommand_71 : decode cX1_runEffectCommand 71 = .ok (.getfield 172, 3) := by decide +kernel
theorem dX1_runEffectCommand_74 : decode cX1_runEffectCommand 74 = .ok (.iload_n 2, 1) := by decide +kernel
theorem dX1_runEffectCommand_75 : decode cX1_runEffectCommand 75 = .ok (.iaload, 1) := by decide +kernel
theorem dX1_runEffectCommand_76 : decode cX1_runEffectCommand 76 = .ok (.iload_n 3, 1) := by decide +kernel
theorem dX1_runEffectCommand_77 : decode cX1_runEffectCommand 77 = .ok (.if_icmp .gt 7, 3) := by decide +kernel
theorem dX1_runEffectCommand_80 : decode cX1_runEffectCommand 80 = .ok (.iconst 1, 1) := by decide +kernel
theorem dX1_runEffectCommand_81 : decode cX1_runEffectCommand 81 = .ok (.goto 4, 3) := by decide +kernel
theorem dX1_runEffectCommand_84 : decode cX1_runEffectCommand 84 = .ok (.iconst 0, 1) := by decide +kernel
theorem dX1_runEffectCommand_85 : decode cX1_runEffectCommand 85 = .ok (.ireturn, 1) := by decide +kernel
theorem dX1_runEffectCommand_86 : decode cX1_runEffectCommand 86 = .ok (.iload_n 3, 1) := by decide +kernel
theorem dX1_runEffectCommand_87 : decode cX1_runEffectCommand 87 = .ok (.iconst 1, 1) := by decide +kernel
theorem dX1_runEffectCommand_88 : decode cX1_runEffectCommand 88 = .ok (.if_icmp .lt 21, 3) := by decide +kernel
theorem dX1_runEffectCommand_91 : decode cX1_runEffectCommand 91 = .ok (.iload_n 3, 1) := by decide +kernel
theorem dX1_runEffectCommand_92 : decode cX1_runEffectCommand 92 = .ok (.bipush 20, 2) := by decide +kernel
theorem dX1_runEffectCommand_94 : decode cX1_runEffectCommand 94 = .ok (.if_icmp .gt 15, 3) := by decide +kernel
theorem dX1_runEffectCommand_97 : decode cX1_runEffectCommand 97 = .ok (.aload_n 0, 1) := by decide +kernel
theorem dX1_runEffectCommand_98 : decode cX1_runEffectCommand 98 = .ok (.getfield 28, 3) := by decide +kernel
theorem dX1_runEffectCommand_101 : decode cX1_runEffectCommand 101 = .ok (.getfield 144, 3) := by decide +kernel
theorem dX1_runEffectCommand_104 : decode cX1_runEffectCommand 104 = .ok (.iload_n 2, 1) := by decide +kernel
theorem dX1_runEffectCommand_105 : decode cX1_runEffectCommand 105 = .ok (.iaload, 1) := by decide +kernel
theorem dX1_runEffectCommand_106 : decode cX1_runEffectCommand 106 = .ok (.ifCond .le 5, 3) := by decide +kernel
theorem dX1_runEffectCommand_109 : decode cX1_runEffectCommand 109 = .ok (.iconst 0, 1) := by decide +kernel
theorem dX1_runEffectCommand_110 : decode cX1_runEffectCommand 110 = .ok (.ireturn, 1) := by decide +kernel
theorem dX1_runEffectCommand_111 : decode cX1_runEffectCommand 111 = .ok (.aload_n 0, 1) := by decide +kernel
theorem dX1_runEffectCommand_112 : decode cX1_runEffectCommand 112 = .ok (.getfield 28, 3) := by decide +kernel
theorem dX1_runEffectCommand_115 : decode cX1_runEffectCommand 115 = .ok (.getfield 144, 3) := by decide +kernel
theorem dX1_runEffectCommand_118 : decode cX1_runEffectCommand 118 = .ok (.iload_n 2, 1) := by decide +kernel
theorem dX1_runEffectCommand_119 : decode cX1_runEffectCommand 119 = .ok (.iload_n 3, 1) := by decide +kernel
theorem dX1_runEffectCommand_120 : decode cX1_runEffectCommand 120 = .ok (.iastore, 1) := by decide +kernel
theorem dX1_runEffectCommand_121 : decode cX1_runEffectCommand 121 = .ok (.iconst 1, 1) := by decide +kernel
theorem dX1_runEffectCommand_122 : decode cX1_runEffectCommand 122 = .ok (.ireturn, 1) := by decide +kernel
set_option maxRecDepth 20000 in
theorem ggX1_simulate_X1_checkRange : GoodIn wsX1_simulate wsX1_checkRange := goodIn_ca ((by refine gI_c (gw 8 rfl rfl) ?_; refine gI_c (gw 9 rfl rfl) ?_; refine gI_c (gw 10 rfl rfl) ?_; exact gI_n)) (goodIn_sub (fun _ h => List.mem_cons_of_mem _ (List.mem_append_right _ h)) (by decide +kernel))
set_option maxRecDepth 20000 in
theorem gX1_simulate_X1_checkRange : GoodIn wsX1_simulate (va_wsS RX1 51 yX1_checkRange wsX1_checkRange) := goodIn_app (goodIn_of _ (by decide +kernel)) ggX1_simulate_X1_checkRange
set_option maxRecDepth 20000 in
theorem ggX1_simulate_X0_copyFrom : GoodIn wsX1_simulate wsX0_copyFrom := (by refine gI_c (gw 14 rfl rfl) ?_; refine gI_c (gw 15 rfl rfl) ?_; refine gI_c (gw 16 rfl rfl) ?_; refine gI_c (gw 17 rfl rfl) ?_; refine gI_c (gw 18 rfl rfl) ?_; refine gI_c (gw 19 rfl rfl) ?_; refine gI_c (gw 20 rfl rfl) ?_; refine gI_c (gw 21 rfl rfl) ?_; refine gI_c (gw 22 rfl rfl) ?_; refine gI_c (gw 23 rfl rfl) ?_; refine gI_c (gw 24 rfl rfl) ?_; refine gI_c (gw 25 rfl rfl) ?_; refine gI_c (gw 26 rfl rfl) ?_; refine gI_c (gw 27 rfl rfl) ?_; refine gI_c (gw 28 rfl rfl) ?_; refine gI_c (gw 29 rfl rfl) ?_; refine gI_c (gw 30 rfl rfl) ?_; refine gI_c (gw 100 rfl rfl) ?_; refine gI_c (gw 101 rfl rfl) ?_; refine gI_c (gw 102 rfl rfl) ?_; refine gI_c (gw 103 rfl rfl) ?_; refine gI_c (gw 104 rfl rfl) ?_; refine gI_c (gw 105 rfl rfl) ?_; refine gI_c (gw 106 rfl rfl) ?_; refine gI_c (gw 107 rfl rfl) ?_; refine gI_c (gw 108 rfl rfl) ?_; refine gI_c (gw 109 rfl rfl) ?_; refine gI_c (gw 110 rfl rfl) ?_; refine gI_c (gw 111 rfl rfl) ?_; exact gI_n)
set_option maxRecDepth 20000 in
theorem gX1_simulate_X0_copyFrom_n155 : GoodIn wsX1_simulate (wsX0_copyFrom) := ggX1_simulate_X0_copyFrom
set_option maxRecDepth 20000 in
theorem ggX1_simulate_X1_disturb : GoodIn wsX1_simulate wsX1_disturb := (by refine gI_c (gw 34 rfl rfl) ?_; refine gI_c (gw 1 rfl rfl) ?_; refine gI_c (gw 89 rfl rfl) ?_; refine gI_c (gw 90 rfl rfl) ?_; refine gI_c (gw 91 rfl rfl) ?_; refine gI_c (gw 92 rfl rfl) ?_; refine gI_c (gw 93 rfl rfl) ?_; refine gI_c (gw 94 rfl rfl) ?_; refine gI_c (gw 95 rfl rfl) ?_; refine gI_c (gw 96 rfl rfl) ?_; refine gI_c (gw 97 rfl rfl) ?_; refine gI_c (gw 98 rfl rfl) ?_; refine gI_c (gw 99 rfl rfl) ?_; refine gI_c (gw 100 rfl rfl) ?_; refine gI_c (gw 101 rfl rfl) ?_; refine gI_c (gw 102 rfl rfl) ?_; refine gI_c (gw 103 rfl rfl) ?_; refine gI_c (gw 104 rfl rfl) ?_; refine gI_c (gw 105 rfl rfl) ?_; refine gI_c (gw 106 rfl rfl) ?_; refine gI_c (gw 107 rfl rfl) ?_; refine gI_c (gw 108 rfl rfl) ?_; refine gI_c (gw 109 rfl rfl) ?_; refine gI_c (gw 110 rfl rfl) ?_; refine gI_c (gw 111 rfl rfl) ?_; exact gI_n)
set_option maxRecDepth 20000 in
theorem gX1_simulate_X1_disturb : GoodIn wsX1_simulate (wsV RX1 201 RX1 yX1_disturb wsX1_disturb) := goodIn_app (goodIn_of _ (by decide +kernel)) ggX1_simulate_X1_disturb
set_option maxRecDepth 20000 in
theorem ggX1_simulate_X0_pass : GoodIn wsX1_simulate wsX0_pass := (by refine gI_c (gw 37 rfl rfl) ?_; refine gI_c (gw 22 rfl rfl) ?_; refine gI_c (gw 16 rfl rfl) ?_; refine gI_c (gw 38 rfl rfl) ?_; refine gI_c (gw 39 rfl rfl) ?_; refine gI_c (gw 40 rfl rfl) ?_; refine gI_c (gw 12 rfl rfl) ?_; refine gI_c (gw 41 rfl rfl) ?_; refine gI_c (gw 17 rfl rfl) ?_; refine gI_c (gw 15 rfl rfl) ?_; refine gI_c (gw 28 rfl rfl) ?_; refine gI_c (gw 30 rfl rfl) ?_; refine gI_c (gw 42 rfl rfl) ?_; refine gI_c (gw 43 rfl rfl) ?_; refine gI_c (gw 44 rfl rfl) ?_; refine gI_c (gw 45 rfl rfl) ?_; refine gI_c (gw 46 rfl rfl) ?_; refine gI_c (gw 47 rfl rfl) ?_; refine gI_c (gw 48 rfl rfl) ?_; refine gI_c (gw 49 rfl rfl) ?_; refine gI_c (gw 50 rfl rfl) ?_; refine gI_c (gw 51 rfl rfl) ?_; refine gI_c (gw 52 rfl rfl) ?_; refine gI_c (gw 53 rfl rfl) ?_; refine gI_c (gw 54 rfl rfl) ?_; refine gI_c (gw 55 rfl rfl) ?_; refine gI_c (gw 56 rfl rfl) ?_; refine gI_c (gw 57 rfl rfl) ?_; refine gI_c (gw 24 rfl rfl) ?_; refine gI_c (gw 27 rfl rfl) ?_; refine gI_c (gw 29 rfl rfl) ?_; refine gI_c (gw 58 rfl rfl) ?_; refine gI_c (gw 59 rfl rfl) ?_; refine gI_c (gw 60 rfl rfl) ?_; refine gI_c (gw 61 rfl rfl) ?_; refine gI_c (gw 25 rfl rfl) ?_; refine gI_c (gw 62 rfl rfl) ?_; refine gI_c (gw 63 rfl rfl) ?_; refine gI_c (gw 64 rfl rfl) ?_; refine gI_c (gw 65 rfl rfl) ?_; refine gI_c (gw 23 rfl rfl) ?_; refine gI_c (gw 66 rfl rfl) ?_; refine gI_c (gw 67 rfl rfl) ?_; refine gI_c (gw 68 rfl rfl) ?_; refine gI_c (gw 69 rfl rfl) ?_; refine gI_c (gw 70 rfl rfl) ?_; refine gI_c (gw 71 rfl rfl) ?_; refine gI_c (gw 72 rfl rfl) ?_; refine gI_c (gw 73 rfl rfl) ?_; refine gI_c (gw 74 rfl rfl) ?_; refine gI_c (gw 75 rfl rfl) ?_; refine gI_c (gw 76 rfl rfl) ?_; refine gI_c (gw 77 rfl rfl) ?_; refine gI_c (gw 78 rfl rfl) ?_; refine gI_c (gw 79 rfl rfl) ?_; refine gI_c (gw 80 rfl rfl) ?_; refine gI_c (gw 81 rfl rfl) ?_; refine gI_c (gw 26 rfl rfl) ?_; refine gI_c (gw 82 rfl rfl) ?_; refine gI_c (gw 83 rfl rfl) ?_; refine gI_c (gw 84 rfl rfl) ?_; refine gI_c (gw 85 rfl rfl) ?_; refine gI_c (gw 86 rfl rfl) ?_; refine gI_c (gw 87 rfl rfl) ?_; refine gI_c (gw 88 rfl rfl) ?_; refine gI_c (gw 100 rfl rfl) ?_; refine gI_c (gw 101 rfl rfl) ?_; refine gI_c (gw 102 rfl rfl) ?_; refine gI_c (gw 103 rfl rfl) ?_; refine gI_c (gw 104 rfl rfl) ?_; refine gI_c (gw 105 rfl rfl) ?_; refine gI_c (gw 106 rfl rfl) ?_; refine gI_c (gw 107 rfl rfl) ?_; refine gI_c (gw 108 rfl rfl) ?_; refine gI_c (gw 109 rfl rfl) ?_; refine gI_c (gw 110 rfl rfl) ?_; refine gI_c (gw 111 rfl rfl) ?_; exact gI_n)
set_option maxRecDepth 20000 in
theorem gX1_simulate_X0_pass_n132 : GoodIn wsX1_simulate (wsX0_pass) := ggX1_simulate_X0_pass
theorem dX1_simulate_0 : decode cX1_simulate 0 = .ok (.iload_n 3, 1) := by decide +kernel
theorem dX1_simulate_1 : decode cX1_simulate 1 = .ok (.iconst 1, 1) := by decide +kernel
theorem dX1_simulate_2 : decode cX1_simulate 2 = .ok (.bipush 99, 2) := by decide +kernel
theorem dX1_simulate_4 : decode cX1_simulate 4 = .ok (.invokestatic 51, 3) := by decide +kernel
theorem dX1_simulate_7 : decode cX1_simulate 7 = .ok (.aload_n 0, 1) := by decide +kernel
theorem dX1_simulate_8 : decode cX1_simulate 8 = .ok (.getfield 28, 3) := by decide +kernel
theorem dX1_simulate_11 : decode cX1_simulate 11 = .ok (.aload_n 0, 1) := by decide +kernel
theorem dX1_simulate_12 : decode cX1_simulate 12 = .ok (.getfield 24, 3) := by decide +kernel
theorem dX1_simulate_15 : decode cX1_simulate 15 = .ok (.invokevirtual 155, 3) := by decide +kernel
theorem dX1_simulate_18 : decode cX1_simulate 18 = .ok (.iconst 0, 1) := by decide +kernel
theorem dX1_simulate_19 : decode cX1_simulate 19 = .ok (.istore 4, 2) := by decide +kernel
theorem dX1_simulate_21 : decode cX1_simulate 21 = .ok (.lload_n 1, 1) := by decide +kernel
theorem dX1_simulate_22 : decode cX1_simulate 22 = .ok (.lstore 5, 2) := by decide +kernel
theorem dX1_simulate_24 : decode cX1_simulate 24 = .ok (.iconst 0, 1) := by decide +kernel
theorem dX1_simulate_25 : decode cX1_simulate 25 = .ok (.istore 7, 2) := by decide +kernel
theorem dX1_simulate_27 : decode cX1_simulate 27 = .ok (.iload 7, 2) := by decide +kernel
theorem dX1_simulate_29 : decode cX1_simulate 29 = .ok (.iload_n 3, 1) := by decide +kernel
theorem dX1_simulate_30 : decode cX1_simulate 30 = .ok (.if_icmp .ge 44, 3) := by decide +kernel
theorem dX1_simulate_33 : decode cX1_simulate 33 = .ok (.lload 5, 2) := by decide +kernel
theorem dX1_simulate_35 : decode cX1_simulate 35 = .ok (.ldc2_w 197, 3) := by decide +kernel
theorem dX1_simulate_38 : decode cX1_simulate 38 = .ok (.lmul, 1) := by decide +kernel
theorem dX1_simulate_39 : decode cX1_simulate 39 = .ok (.ldc2_w 199, 3) := by decide +kernel
theorem dX1_simulate_42 : decode cX1_simulate 42 = .ok (.ladd, 1) := by decide +kernel
theorem dX1_simulate_43 : decode cX1_simulate 43 = .ok (.lstore 5, 2) := by decide +kernel
theorem dX1_simulate_45 : decode cX1_simulate 45 = .ok (.aload_n 0, 1) := by decide +kernel
theorem dX1_simulate_46 : decode cX1_simulate 46 = .ok (.lload 5, 2) := by decide +kernel
theorem dX1_simulate_48 : decode cX1_simulate 48 = .ok (.bipush 33, 2) := by decide +kernel
theorem dX1_simulate_50 : decode cX1_simulate 50 = .ok (.lushr, 1) := by decide +kernel
theorem dX1_simulate_51 : decode cX1_simulate 51 = .ok (.l2i, 1) := by decide +kernel
theorem dX1_simulate_52 : decode cX1_simulate 52 = .ok (.invokevirtual 201, 3) := by decide +kernel
theorem dX1_simulate_55 : decode cX1_simulate 55 = .ok (.iload 4, 2) := by decide +kernel
theorem dX1_simulate_57 : decode cX1_simulate 57 = .ok (.aload_n 0, 1) := by decide +kernel
theorem dX1_simulate_58 : decode cX1_simulate 58 = .ok (.getfield 28, 3) := by decide +kernel
theorem dX1_simulate_61 : decode cX1_simulate 61 = .ok (.iconst 1, 1) := by decide +kernel
theorem dX1_simulate_62 : decode cX1_simulate 62 = .ok (.invokevirtual 132, 3) := by decide +kernel
theorem dX1_simulate_65 : decode cX1_simulate 65 = .ok (.iadd, 1) := by decide +kernel
theorem dX1_simulate_66 : decode cX1_simulate 66 = .ok (.istore 4, 2) := by decide +kernel
theorem dX1_simulate_68 : decode cX1_simulate 68 = .ok (.iinc 7 1, 3) := by decide +kernel
theorem dX1_simulate_71 : decode cX1_simulate 71 = .ok (.goto (-44), 3) := by decide +kernel
theorem dX1_simulate_74 : decode cX1_simulate 74 = .ok (.iload 4, 2) := by decide +kernel
theorem dX1_simulate_76 : decode cX1_simulate 76 = .ok (.ireturn, 1) := by decide +kernel
theorem dX1_disturb_0 : decode cX1_disturb 0 = .ok (.aload_n 0, 1) := by decide +kernel
theorem dX1_disturb_1 : decode cX1_disturb 1 = .ok (.getfield 28, 3) := by decide +kernel
theorem dX1_disturb_4 : decode cX1_disturb 4 = .ok (.getfield 94, 3) := by decide +kernel
theorem dX1_disturb_7 : decode cX1_disturb 7 = .ok (.iconst 1, 1) := by decide +kernel
theorem dX1_disturb_8 : decode cX1_disturb 8 = .ok (.if_icmp .ge 4, 3) := by decide +kernel
theorem dX1_disturb_11 : decode cX1_disturb 11 = .ok (.return_, 1) := by decide +kernel
theorem dX1_disturb_12 : decode cX1_disturb 12 = .ok (.iload_n 1, 1) := by decide +kernel
theorem dX1_disturb_13 : decode cX1_disturb 13 = .ok (.iconst 4, 1) := by decide +kernel
theorem dX1_disturb_14 : decode cX1_disturb 14 = .ok (.idiv, 1) := by decide +kernel
theorem dX1_disturb_15 : decode cX1_disturb 15 = .ok (.aload_n 0, 1) := by decide +kernel
theorem dX1_disturb_16 : decode cX1_disturb 16 = .ok (.getfield 28, 3) := by decide +kernel
theorem dX1_disturb_19 : decode cX1_disturb 19 = .ok (.getfield 94, 3) := by decide +kernel
theorem dX1_disturb_22 : decode cX1_disturb 22 = .ok (.irem, 1) := by decide +kernel
theorem dX1_disturb_23 : decode cX1_disturb 23 = .ok (.istore_n 2, 1) := by decide +kernel
theorem dX1_disturb_24 : decode cX1_disturb 24 = .ok (.iload_n 1, 1) := by decide +kernel
theorem dX1_disturb_25 : decode cX1_disturb 25 = .ok (.bipush 64, 2) := by decide +kernel
theorem dX1_disturb_27 : decode cX1_disturb 27 = .ok (.idiv, 1) := by decide +kernel
theorem dX1_disturb_28 : decode cX1_disturb 28 = .ok (.istore_n 3, 1) := by decide +kernel
theorem dX1_disturb_29 : decode cX1_disturb 29 = .ok (.iload_n 1, 1) := by decide +kernel
theorem dX1_disturb_30 : decode cX1_disturb 30 = .ok (.iconst 4, 1) := by decide +kernel
theorem dX1_disturb_31 : decode cX1_disturb 31 = .ok (.irem, 1) := by decide +kernel
theorem dX1_disturb_32 : decode cX1_disturb 32 = .ok (.tableswitch 87 0 2 #[28, 45, 62], 28) := by decide +kernel
theorem dX1_disturb_60 : decode cX1_disturb 60 = .ok (.aload_n 0, 1) := by decide +kernel
theorem dX1_disturb_61 : decode cX1_disturb 61 = .ok (.getfield 28, 3) := by decide +kernel
theorem dX1_disturb_64 : decode cX1_disturb 64 = .ok (.getfield 135, 3) := by decide +kernel
theorem dX1_disturb_67 : decode cX1_disturb 67 = .ok (.iload_n 2, 1) := by decide +kernel
theorem dX1_disturb_68 : decode cX1_disturb 68 = .ok (.iload_n 3, 1) := by decide +kernel
theorem dX1_disturb_69 : decode cX1_disturb 69 = .ok (.sipush 200, 3) := by decide +kernel
theorem dX1_disturb_72 : decode cX1_disturb 72 = .ok (.irem, 1) := by decide +kernel
theorem dX1_disturb_73 : decode cX1_disturb 73 = .ok (.iastore, 1) := by decide +kernel
theorem dX1_disturb_74 : decode cX1_disturb 74 = .ok (.goto 45, 3) := by decide +kernel
theorem dX1_disturb_77 : decode cX1_disturb 77 = .ok (.aload_n 0, 1) := by decide +kernel
theorem dX1_disturb_78 : decode cX1_disturb 78 = .ok (.getfield 28, 3) := by decide +kernel
theorem dX1_disturb_81 : decode cX1_disturb 81 = .ok (.getfield 103, 3) := by decide +kernel
theorem dX1_disturb_84 : decode cX1_disturb 84 = .ok (.iconst 0, 1) := by decide +kernel
theorem dX1_disturb_85 : decode cX1_disturb 85 = .ok (.iload_n 3, 1) := by decide +kernel
theorem dX1_disturb_86 : decode cX1_disturb 86 = .ok (.sipush 400, 3) := by decide +kernel
theorem dX1_disturb_89 : decode cX1_disturb 89 = .ok (.irem, 1) := by decide +kernel
theorem dX1_disturb_90 : decode cX1_disturb 90 = .ok (.iastore, 1) := by decide +kernel
theorem dX1_disturb_91 : decode cX1_disturb 91 = .ok (.goto 28, 3) := by decide +kernel
theorem dX1_disturb_94 : decode cX1_disturb 94 = .ok (.aload_n 0, 1) := by decide +kernel
theorem dX1_disturb_95 : decode cX1_disturb 95 = .ok (.getfield 28, 3) := by decide +kernel
theorem dX1_disturb_98 : decode cX1_disturb 98 = .ok (.getfield 144, 3) := by decide +kernel
theorem dX1_disturb_101 : decode cX1_disturb 101 = .ok (.iload_n 2, 1) := by decide +kernel
theorem dX1_disturb_102 : decode cX1_disturb 102 = .ok (.iaload, 1) := by decide +kernel
theorem dX1_disturb_103 : decode cX1_disturb 103 = .ok (.ifCond .ne 16, 3) := by decide +kernel
theorem dX1_disturb_106 : decode cX1_disturb 106 = .ok (.aload_n 0, 1) := by decide +kernel
theorem dX1_disturb_107 : decode cX1_disturb 107 = .ok (.getfield 28, 3) := by decide +kernel
theorem dX1_disturb_110 : decode cX1_disturb 110 = .ok (.getfield 144, 3) := by decide +kernel
theorem dX1_disturb_113 : decode cX1_disturb 113 = .ok (.iload_n 2, 1) := by decide +kernel
theorem dX1_disturb_114 : decode cX1_disturb 114 = .ok (.iconst 5, 1) := by decide +kernel
theorem dX1_disturb_115 : decode cX1_disturb 115 = .ok (.iastore, 1) := by decide +kernel
theorem dX1_disturb_116 : decode cX1_disturb 116 = .ok (.goto 3, 3) := by decide +kernel
theorem dX1_disturb_119 : decode cX1_disturb 119 = .ok (.return_, 1) := by decide +kernel
set_option maxRecDepth 20000 in
theorem ggX1_save_X1_checkSlot : GoodIn wsX1_save wsX1_checkSlot := goodIn_ca ((by refine gI_c (gw 7 rfl rfl) ?_; refine gI_c (gw 8 rfl rfl) ?_; refine gI_c (gw 9 rfl rfl) ?_; exact gI_n)) (goodIn_sub (fun _ h => List.mem_cons_of_mem _ (List.mem_append_right _ h)) (by decide +kernel))
set_option maxRecDepth 20000 in
theorem gX1_save_X1_checkSlot : GoodIn wsX1_save (va_wsS RX1 204 yX1_checkSlot wsX1_checkSlot) := goodIn_app (goodIn_of _ (by decide +kernel)) ggX1_save_X1_checkSlot
set_option maxRecDepth 20000 in
theorem ggX1_save_X1_stateAt : GoodIn wsX1_save wsX1_stateAt := (by refine gI_c (gw 12 rfl rfl) ?_; refine gI_c (gw 13 rfl rfl) ?_; refine gI_c (gw 14 rfl rfl) ?_; refine gI_c (gw 15 rfl rfl) ?_; refine gI_c (gw 16 rfl rfl) ?_; refine gI_c (gw 17 rfl rfl) ?_; refine gI_c (gw 18 rfl rfl) ?_; refine gI_c (gw 19 rfl rfl) ?_; refine gI_c (gw 20 rfl rfl) ?_; refine gI_c (gw 21 rfl rfl) ?_; refine gI_c (gw 22 rfl rfl) ?_; refine gI_c (gw 23 rfl rfl) ?_; refine gI_c (gw 24 rfl rfl) ?_; refine gI_c (gw 25 rfl rfl) ?_; refine gI_c (gw 26 rfl rfl) ?_; refine gI_c (gw 27 rfl rfl) ?_; refine gI_c (gw 28 rfl rfl) ?_; refine gI_c (gw 29 rfl rfl) ?_; refine gI_c (gw 30 rfl rfl) ?_; refine gI_c (gw 31 rfl rfl) ?_; refine gI_c (gw 32 rfl rfl) ?_; refine gI_c (gw 33 rfl rfl) ?_; refine gI_c (gw 34 rfl rfl) ?_; refine gI_c (gw 35 rfl rfl) ?_; refine gI_c (gw 36 rfl rfl) ?_; refine gI_c (gw 37 rfl rfl) ?_; refine gI_c (gw 56 rfl rfl) ?_; refine gI_c (gw 57 rfl rfl) ?_; refine gI_c (gw 58 rfl rfl) ?_; refine gI_c (gw 59 rfl rfl) ?_; refine gI_c (gw 60 rfl rfl) ?_; refine gI_c (gw 61 rfl rfl) ?_; refine gI_c (gw 62 rfl rfl) ?_; refine gI_c (gw 63 rfl rfl) ?_; refine gI_c (gw 64 rfl rfl) ?_; refine gI_c (gw 65 rfl rfl) ?_; refine gI_c (gw 66 rfl rfl) ?_; refine gI_c (gw 67 rfl rfl) ?_; exact gI_n)
set_option maxRecDepth 20000 in
theorem gX1_save_X1_stateAt : GoodIn wsX1_save (va_wsS RX1 151 yX1_stateAt wsX1_stateAt) := goodIn_app (goodIn_of _ (by decide +kernel)) ggX1_save_X1_stateAt
set_option maxRecDepth 20000 in
theorem ggX1_save_X0_copyFrom : GoodIn wsX1_save wsX0_copyFrom := (by refine gI_c (gw 40 rfl rfl) ?_; refine gI_c (gw 21 rfl rfl) ?_; refine gI_c (gw 24 rfl rfl) ?_; refine gI_c (gw 23 rfl rfl) ?_; refine gI_c (gw 41 rfl rfl) ?_; refine gI_c (gw 42 rfl rfl) ?_; refine gI_c (gw 43 rfl rfl) ?_; refine gI_c (gw 44 rfl rfl) ?_; refine gI_c (gw 25 rfl rfl) ?_; refine gI_c (gw 26 rfl rfl) ?_; refine gI_c (gw 27 rfl rfl) ?_; refine gI_c (gw 28 rfl rfl) ?_; refine gI_c (gw 29 rfl rfl) ?_; refine gI_c (gw 30 rfl rfl) ?_; refine gI_c (gw 31 rfl rfl) ?_; refine gI_c (gw 32 rfl rfl) ?_; refine gI_c (gw 33 rfl rfl) ?_; refine gI_c (gw 56 rfl rfl) ?_; refine gI_c (gw 57 rfl rfl) ?_; refine gI_c (gw 58 rfl rfl) ?_; refine gI_c (gw 59 rfl rfl) ?_; refine gI_c (gw 60 rfl rfl) ?_; refine gI_c (gw 61 rfl rfl) ?_; refine gI_c (gw 62 rfl rfl) ?_; refine gI_c (gw 63 rfl rfl) ?_; refine gI_c (gw 64 rfl rfl) ?_; refine gI_c (gw 65 rfl rfl) ?_; refine gI_c (gw 66 rfl rfl) ?_; refine gI_c (gw 67 rfl rfl) ?_; exact gI_n)
set_option maxRecDepth 20000 in
theorem gX1_save_X0_copyFrom_n155 : GoodIn wsX1_save (wsX0_copyFrom) := ggX1_save_X0_copyFrom
theorem dX1_save_0 : decode cX1_save 0 = .ok (.iload_n 1, 1) := by decide +kernel
theorem dX1_save_1 : decode cX1_save 1 = .ok (.invokestatic 204, 3) := by decide +kernel
theorem dX1_save_4 : decode cX1_save 4 = .ok (.aload_n 0, 1) := by decide +kernel
theorem dX1_save_5 : decode cX1_save 5 = .ok (.getfield 44, 3) := by decide +kernel
theorem dX1_save_8 : decode cX1_save 8 = .ok (.iload_n 1, 1) := by decide +kernel
theorem dX1_save_9 : decode cX1_save 9 = .ok (.invokestatic 151, 3) := by decide +kernel
theorem dX1_save_12 : decode cX1_save 12 = .ok (.aload_n 0, 1) := by decide +kernel
theorem dX1_save_13 : decode cX1_save 13 = .ok (.getfield 24, 3) := by decide +kernel
theorem dX1_save_16 : decode cX1_save 16 = .ok (.invokevirtual 155, 3) := by decide +kernel
theorem dX1_save_19 : decode cX1_save 19 = .ok (.aload_n 0, 1) := by decide +kernel
theorem dX1_save_20 : decode cX1_save 20 = .ok (.getfield 47, 3) := by decide +kernel
theorem dX1_save_23 : decode cX1_save 23 = .ok (.iload_n 1, 1) := by decide +kernel
theorem dX1_save_24 : decode cX1_save 24 = .ok (.iconst 1, 1) := by decide +kernel
theorem dX1_save_25 : decode cX1_save 25 = .ok (.bastore, 1) := by decide +kernel
theorem dX1_save_26 : decode cX1_save 26 = .ok (.aload_n 0, 1) := by decide +kernel
theorem dX1_save_27 : decode cX1_save 27 = .ok (.getfield 24, 3) := by decide +kernel
theorem dX1_save_30 : decode cX1_save 30 = .ok (.getfield 97, 3) := by decide +kernel
theorem dX1_save_33 : decode cX1_save 33 = .ok (.ireturn, 1) := by decide +kernel
set_option maxRecDepth 20000 in
theorem ggX1_restore_X1_checkSlot : GoodIn wsX1_restore wsX1_checkSlot := goodIn_ca ((by refine gI_c (gw 10 rfl rfl) ?_; refine gI_c (gw 11 rfl rfl) ?_; refine gI_c (gw 12 rfl rfl) ?_; exact gI_n)) (goodIn_sub (fun _ h => List.mem_cons_of_mem _ (List.mem_append_right _ h)) (by decide +kernel))
set_option maxRecDepth 20000 in
theorem gX1_restore_X1_checkSlot : GoodIn wsX1_restore (va_wsS RX1 204 yX1_checkSlot wsX1_checkSlot) := goodIn_app (goodIn_of _ (by decide +kernel)) ggX1_restore_X1_checkSlot
set_option maxRecDepth 20000 in
theorem ggX1_restore_X1_stateAt : GoodIn wsX1_restore wsX1_stateAt := (by refine gI_c (gw 15 rfl rfl) ?_; refine gI_c (gw 16 rfl rfl) ?_; refine gI_c (gw 17 rfl rfl) ?_; refine gI_c (gw 18 rfl rfl) ?_; refine gI_c (gw 19 rfl rfl) ?_; refine gI_c (gw 20 rfl rfl) ?_; refine gI_c (gw 21 rfl rfl) ?_; refine gI_c (gw 22 rfl rfl) ?_; refine gI_c (gw 23 rfl rfl) ?_; refine gI_c (gw 24 rfl rfl) ?_; refine gI_c (gw 25 rfl rfl) ?_; refine gI_c (gw 26 rfl rfl) ?_; refine gI_c (gw 27 rfl rfl) ?_; refine gI_c (gw 28 rfl rfl) ?_; refine gI_c (gw 29 rfl rfl) ?_; refine gI_c (gw 30 rfl rfl) ?_; refine gI_c (gw 31 rfl rfl) ?_; refine gI_c (gw 32 rfl rfl) ?_; refine gI_c (gw 33 rfl rfl) ?_; refine gI_c (gw 34 rfl rfl) ?_; refine gI_c (gw 35 rfl rfl) ?_; refine gI_c (gw 36 rfl rfl) ?_; refine gI_c (gw 37 rfl rfl) ?_; refine gI_c (gw 38 rfl rfl) ?_; refine gI_c (gw 39 rfl rfl) ?_; refine gI_c (gw 40 rfl rfl) ?_; refine gI_c (gw 59 rfl rfl) ?_; refine gI_c (gw 60 rfl rfl) ?_; refine gI_c (gw 61 rfl rfl) ?_; refine gI_c (gw 62 rfl rfl) ?_; refine gI_c (gw 63 rfl rfl) ?_; refine gI_c (gw 64 rfl rfl) ?_; refine gI_c (gw 65 rfl rfl) ?_; refine gI_c (gw 66 rfl rfl) ?_; refine gI_c (gw 67 rfl rfl) ?_; refine gI_c (gw 68 rfl rfl) ?_; refine gI_c (gw 69 rfl rfl) ?_; refine gI_c (gw 70 rfl rfl) ?_; exact gI_n)
set_option maxRecDepth 20000 in
theorem gX1_restore_X1_stateAt : GoodIn wsX1_restore (va_wsS RX1 151 yX1_stateAt wsX1_stateAt) := goodIn_app (goodIn_of _ (by decide +kernel)) ggX1_restore_X1_stateAt
set_option maxRecDepth 20000 in
theorem ggX1_restore_X0_copyFrom : GoodIn wsX1_restore wsX0_copyFrom := (by refine gI_c (gw 43 rfl rfl) ?_; refine gI_c (gw 24 rfl rfl) ?_; refine gI_c (gw 27 rfl rfl) ?_; refine gI_c (gw 26 rfl rfl) ?_; refine gI_c (gw 44 rfl rfl) ?_; refine gI_c (gw 45 rfl rfl) ?_; refine gI_c (gw 46 rfl rfl) ?_; refine gI_c (gw 47 rfl rfl) ?_; refine gI_c (gw 28 rfl rfl) ?_; refine gI_c (gw 29 rfl rfl) ?_; refine gI_c (gw 30 rfl rfl) ?_; refine gI_c (gw 31 rfl rfl) ?_; refine gI_c (gw 32 rfl rfl) ?_; refine gI_c (gw 33 rfl rfl) ?_; refine gI_c (gw 34 rfl rfl) ?_; refine gI_c (gw 35 rfl rfl) ?_; refine gI_c (gw 36 rfl rfl) ?_; refine gI_c (gw 59 rfl rfl) ?_; refine gI_c (gw 60 rfl rfl) ?_; refine gI_c (gw 61 rfl rfl) ?_; refine gI_c (gw 62 rfl rfl) ?_; refine gI_c (gw 63 rfl rfl) ?_; refine gI_c (gw 64 rfl rfl) ?_; refine gI_c (gw 65 rfl rfl) ?_; refine gI_c (gw 66 rfl rfl) ?_; refine gI_c (gw 67 rfl rfl) ?_; refine gI_c (gw 68 rfl rfl) ?_; refine gI_c (gw 69 rfl rfl) ?_; refine gI_c (gw 70 rfl rfl) ?_; exact gI_n)
set_option maxRecDepth 20000 in
theorem gX1_restore_X0_copyFrom_n155 : GoodIn wsX1_restore (wsX0_copyFrom) := ggX1_restore_X0_copyFrom
theorem dX1_restore_0 : decode cX1_restore 0 = .ok (.iload_n 1, 1) := by decide +kernel
theorem dX1_restore_1 : decode cX1_restore 1 = .ok (.invokestatic 204, 3) := by decide +kernel
theorem dX1_restore_4 : decode cX1_restore 4 = .ok (.aload_n 0, 1) := by decide +kernel
theorem dX1_restore_5 : decode cX1_restore 5 = .ok (.getfield 47, 3) := by decide +kernel
theorem dX1_restore_8 : decode cX1_restore 8 = .ok (.iload_n 1, 1) := by decide +kernel
theorem dX1_restore_9 : decode cX1_restore 9 = .ok (.baload, 1) := by decide +kernel
theorem dX1_restore_10 : decode cX1_restore 10 = .ok (.ifCond .ne 13, 3) := by decide +kernel
theorem dX1_restore_13 : decode cX1_restore 13 = .ok (.new 55, 3) := by decide +kernel
theorem dX1_restore_16 : decode cX1_restore 16 = .ok (.dup, 1) := by decide +kernel
theorem dX1_restore_17 : decode cX1_restore 17 = .ok (.ldc 207, 2) := by decide +kernel
theorem dX1_restore_19 : decode cX1_restore 19 = .ok (.invokespecial 59, 3) := by decide +kernel
theorem dX1_restore_22 : decode cX1_restore 22 = .ok (.athrow, 1) := by decide +kernel
theorem dX1_restore_23 : decode cX1_restore 23 = .ok (.aload_n 0, 1) := by decide +kernel
theorem dX1_restore_24 : decode cX1_restore 24 = .ok (.getfield 24, 3) := by decide +kernel
theorem dX1_restore_27 : decode cX1_restore 27 = .ok (.aload_n 0, 1) := by decide +kernel
theorem dX1_restore_28 : decode cX1_restore 28 = .ok (.getfield 44, 3) := by decide +kernel
theorem dX1_restore_31 : decode cX1_restore 31 = .ok (.iload_n 1, 1) := by decide +kernel
theorem dX1_restore_32 : decode cX1_restore 32 = .ok (.invokestatic 151, 3) := by decide +kernel
theorem dX1_restore_35 : decode cX1_restore 35 = .ok (.invokevirtual 155, 3) := by decide +kernel
theorem dX1_restore_38 : decode cX1_restore 38 = .ok (.aload_n 0, 1) := by decide +kernel
theorem dX1_restore_39 : decode cX1_restore 39 = .ok (.iconst 0, 1) := by decide +kernel
theorem dX1_restore_40 : decode cX1_restore 40 = .ok (.putfield 41, 3) := by decide +kernel
theorem dX1_restore_43 : decode cX1_restore 43 = .ok (.aload_n 0, 1) := by decide +kernel
theorem dX1_restore_44 : decode cX1_restore 44 = .ok (.getfield 24, 3) := by decide +kernel
theorem dX1_restore_47 : decode cX1_restore 47 = .ok (.getfield 97, 3) := by decide +kernel
theorem dX1_restore_50 : decode cX1_restore 50 = .ok (.ireturn, 1) := by decide +kernel
theorem dX1_checkRange_0 : decode cX1_checkRange 0 = .ok (.iload_n 0, 1) := by decide +kernel
theorem dX1_checkRange_1 : decode cX1_checkRange 1 = .ok (.iload_n 1, 1) := by decide +kernel
theorem dX1_checkRange_2 : decode cX1_checkRange 2 = .ok (.if_icmp .lt 8, 3) := by decide +kernel
theorem dX1_checkRange_5 : decode cX1_checkRange 5 = .ok (.iload_n 0, 1) := by decide +kernel
theorem dX1_checkRange_6 : decode cX1_checkRange 6 = .ok (.iload_n 2, 1) := by decide +kernel
theorem dX1_checkRange_7 : decode cX1_checkRange 7 = .ok (.if_icmp .le 13, 3) := by decide +kernel
theorem dX1_checkRange_10 : decode cX1_checkRange 10 = .ok (.new 179, 3) := by decide +kernel
theorem dX1_checkRange_13 : decode cX1_checkRange 13 = .ok (.dup, 1) := by decide +kernel
theorem dX1_checkRange_14 : decode cX1_checkRange 14 = .ok (.ldc 209, 2) := by decide +kernel
theorem dX1_checkRange_16 : decode cX1_checkRange 16 = .ok (.invokespecial 183, 3) := by decide +kernel
theorem dX1_checkRange_19 : decode cX1_checkRange 19 = .ok (.athrow, 1) := by decide +kernel
theorem dX1_checkRange_20 : decode cX1_checkRange 20 = .ok (.return_, 1) := by decide +kernel
theorem dX1_checkEffect_0 : decode cX1_checkEffect 0 = .ok (.iload_n 1, 1) := by decide +kernel
theorem dX1_checkEffect_1 : decode cX1_checkEffect 1 = .ok (.ifCond .lt 14, 3) := by decide +kernel
theorem dX1_checkEffect_4 : decode cX1_checkEffect 4 = .ok (.iload_n 1, 1) := by decide +kernel
theorem dX1_checkEffect_5 : decode cX1_checkEffect 5 = .ok (.aload_n 0, 1) := by decide +kernel
theorem dX1_checkEffect_6 : decode cX1_checkEffect 6 = .ok (.getfield 24, 3) := by decide +kernel
theorem dX1_checkEffect_9 : decode cX1_checkEffect 9 = .ok (.getfield 94, 3) := by decide +kernel
theorem dX1_checkEffect_12 : decode cX1_checkEffect 12 = .ok (.if_icmp .lt 13, 3) := by decide +kernel
theorem dX1_checkEffect_15 : decode cX1_checkEffect 15 = .ok (.new 211, 3) := by decide +kernel
theorem dX1_checkEffect_18 : decode cX1_checkEffect 18 = .ok (.dup, 1) := by decide +kernel
theorem dX1_checkEffect_19 : decode cX1_checkEffect 19 = .ok (.ldc 213, 2) := by decide +kernel
theorem dX1_checkEffect_21 : decode cX1_checkEffect 21 = .ok (.invokespecial 215, 3) := by decide +kernel
theorem dX1_checkEffect_24 : decode cX1_checkEffect 24 = .ok (.athrow, 1) := by decide +kernel
theorem dX1_checkEffect_25 : decode cX1_checkEffect 25 = .ok (.return_, 1) := by decide +kernel
theorem dX1_checkSlot_0 : decode cX1_checkSlot 0 = .ok (.iload_n 0, 1) := by decide +kernel
theorem dX1_checkSlot_1 : decode cX1_checkSlot 1 = .ok (.ifCond .lt 8, 3) := by decide +kernel
theorem dX1_checkSlot_4 : decode cX1_checkSlot 4 = .ok (.iload_n 0, 1) := by decide +kernel
theorem dX1_checkSlot_5 : decode cX1_checkSlot 5 = .ok (.iconst 2, 1) := by decide +kernel
theorem dX1_checkSlot_6 : decode cX1_checkSlot 6 = .ok (.if_icmp .lt 13, 3) := by decide +kernel
theorem dX1_checkSlot_9 : decode cX1_checkSlot 9 = .ok (.new 211, 3) := by decide +kernel
theorem dX1_checkSlot_12 : decode cX1_checkSlot 12 = .ok (.dup, 1) := by decide +kernel
theorem dX1_checkSlot_13 : decode cX1_checkSlot 13 = .ok (.ldc 216, 2) := by decide +kernel
theorem dX1_checkSlot_15 : decode cX1_checkSlot 15 = .ok (.invokespecial 215, 3) := by decide +kernel
theorem dX1_checkSlot_18 : decode cX1_checkSlot 18 = .ok (.athrow, 1) := by decide +kernel
theorem dX1_checkSlot_19 : decode cX1_checkSlot 19 = .ok (.return_, 1) := by decide +kernel
theorem dX1_checkWorks_0 : decode cX1_checkWorks 0 = .ok (.aload_n 0, 1) := by decide +kernel
theorem dX1_checkWorks_1 : decode cX1_checkWorks 1 = .ok (.getfield 24, 3) := by decide +kernel
theorem dX1_checkWorks_4 : decode cX1_checkWorks 4 = .ok (.getfield 144, 3) := by decide +kernel
theorem dX1_checkWorks_7 : decode cX1_checkWorks 7 = .ok (.iload_n 1, 1) := by decide +kernel
theorem dX1_checkWorks_8 : decode cX1_checkWorks 8 = .ok (.iaload, 1) := by decide +kernel
theorem dX1_checkWorks_9 : decode cX1_checkWorks 9 = .ok (.ifCond .le 13, 3) := by decide +kernel
theorem dX1_checkWorks_12 : decode cX1_checkWorks 12 = .ok (.new 55, 3) := by decide +kernel
theorem dX1_checkWorks_15 : decode cX1_checkWorks 15 = .ok (.dup, 1) := by decide +kernel
theorem dX1_checkWorks_16 : decode cX1_checkWorks 16 = .ok (.ldc 218, 2) := by decide +kernel
theorem dX1_checkWorks_18 : decode cX1_checkWorks 18 = .ok (.invokespecial 59, 3) := by decide +kernel
theorem dX1_checkWorks_21 : decode cX1_checkWorks 21 = .ok (.athrow, 1) := by decide +kernel
theorem dX1_checkWorks_22 : decode cX1_checkWorks 22 = .ok (.return_, 1) := by decide +kernel
set_option maxRecDepth 20000 in
theorem ggX1_stateAt_X0_init : GoodIn wsX1_stateAt wsX0_init := (by refine gI_c (gw 5 rfl rfl) ?_; refine gI_c (gw 6 rfl rfl) ?_; refine gI_c (gw 7 rfl rfl) ?_; refine gI_c (gw 8 rfl rfl) ?_; refine gI_c (gw 9 rfl rfl) ?_; refine gI_c (gw 10 rfl rfl) ?_; refine gI_c (gw 11 rfl rfl) ?_; refine gI_c (gw 12 rfl rfl) ?_; refine gI_c (gw 13 rfl rfl) ?_; refine gI_c (gw 14 rfl rfl) ?_; refine gI_c (gw 15 rfl rfl) ?_; refine gI_c (gw 16 rfl rfl) ?_; refine gI_c (gw 17 rfl rfl) ?_; refine gI_c (gw 18 rfl rfl) ?_; refine gI_c (gw 19 rfl rfl) ?_; refine gI_c (gw 20 rfl rfl) ?_; refine gI_c (gw 21 rfl rfl) ?_; refine gI_c (gw 22 rfl rfl) ?_; refine gI_c (gw 23 rfl rfl) ?_; refine gI_c (gw 24 rfl rfl) ?_; refine gI_c (gw 25 rfl rfl) ?_; refine gI_c (gw 26 rfl rfl) ?_; refine gI_c (gw 27 rfl rfl) ?_; refine gI_c (gw 28 rfl rfl) ?_; refine gI_c (gw 29 rfl rfl) ?_; refine gI_c (gw 30 rfl rfl) ?_; refine gI_c (gw 31 rfl rfl) ?_; refine gI_c (gw 32 rfl rfl) ?_; refine gI_c (gw 33 rfl rfl) ?_; refine gI_c (gw 34 rfl rfl) ?_; refine gI_c (gw 35 rfl rfl) ?_; refine gI_c (gw 36 rfl rfl) ?_; refine gI_c (gw 37 rfl rfl) ?_; exact gI_n)
set_option maxRecDepth 20000 in
theorem gX1_stateAt_X0_init_n23 : GoodIn wsX1_stateAt (wsX0_init) := ggX1_stateAt_X0_init
theorem dX1_stateAt_0 : decode cX1_stateAt 0 = .ok (.aload_n 0, 1) := by decide +kernel
theorem dX1_stateAt_1 : decode cX1_stateAt 1 = .ok (.iload_n 1, 1) := by decide +kernel
theorem dX1_stateAt_2 : decode cX1_stateAt 2 = .ok (.aaload, 1) := by decide +kernel
theorem dX1_stateAt_3 : decode cX1_stateAt 3 = .ok (.astore_n 2, 1) := by decide +kernel
theorem dX1_stateAt_4 : decode cX1_stateAt 4 = .ok (.aload_n 2, 1) := by decide +kernel
theorem dX1_stateAt_5 : decode cX1_stateAt 5 = .ok (.ifnonnull 15, 3) := by decide +kernel
theorem dX1_stateAt_8 : decode cX1_stateAt 8 = .ok (.new 21, 3) := by decide +kernel
theorem dX1_stateAt_11 : decode cX1_stateAt 11 = .ok (.dup, 1) := by decide +kernel
theorem dX1_stateAt_12 : decode cX1_stateAt 12 = .ok (.invokespecial 23, 3) := by decide +kernel
theorem dX1_stateAt_15 : decode cX1_stateAt 15 = .ok (.astore_n 2, 1) := by decide +kernel
theorem dX1_stateAt_16 : decode cX1_stateAt 16 = .ok (.aload_n 0, 1) := by decide +kernel
theorem dX1_stateAt_17 : decode cX1_stateAt 17 = .ok (.iload_n 1, 1) := by decide +kernel
theorem dX1_stateAt_18 : decode cX1_stateAt 18 = .ok (.aload_n 2, 1) := by decide +kernel
theorem dX1_stateAt_19 : decode cX1_stateAt 19 = .ok (.aastore, 1) := by decide +kernel
theorem dX1_stateAt_20 : decode cX1_stateAt 20 = .ok (.aload_n 2, 1) := by decide +kernel
theorem dX1_stateAt_21 : decode cX1_stateAt 21 = .ok (.areturn, 1) := by decide +kernel
